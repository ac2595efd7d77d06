theorem dX2_init_0 : decode cX2_init 0 = .ok (.aload_n 0, 1) := by decide +kernel
theorem dX2_init_1 : decode cX2_init 1 = .ok (.invokespecial 3, 3) := by decide +kernel
theorem dX2_init_4 : decode cX2_init 4 = .ok (.aload_n 0, 1) := by decide +kernel
theorem dX2_init_5 : decode cX2_init 5 = .ok (.new 9, 3) := by decide +kernel
theorem dX2_init_8 : decode cX2_init 8 = .ok (.dup, 1) := by decide +kernel
theorem dX2_init_9 : decode cX2_init 9 = .ok (.invokespecial 11, 3) := by decide +kernel
theorem dX2_init_12 : decode cX2_init 12 = .ok (.putfield 12, 3) := by decide +kernel
theorem dX2_init_15 : decode cX2_init 15 = .ok (.aload_n 0, 1) := by decide +kernel
theorem dX2_init_16 : decode cX2_init 16 = .ok (.iconst 5, 1) := by decide +kernel
theorem dX2_init_17 : decode cX2_init 17 = .ok (.newarray .int, 2) := by decide +kernel
theorem dX2_init_19 : decode cX2_init 19 = .ok (.putfield 18, 3) := by decide +kernel
theorem dX2_init_22 : decode cX2_init 22 = .ok (.aload_n 0, 1) := by decide +kernel
theorem dX2_init_23 : decode cX2_init 23 = .ok (.iconst 5, 1) := by decide +kernel
theorem dX2_init_24 : decode cX2_init 24 = .ok (.newarray .int, 2) := by decide +kernel
theorem dX2_init_26 : decode cX2_init 26 = .ok (.putfield 22, 3) := by decide +kernel
theorem dX2_init_29 : decode cX2_init 29 = .ok (.aload_n 0, 1) := by decide +kernel
theorem dX2_init_30 : decode cX2_init 30 = .ok (.sipush 645, 3) := by decide +kernel
theorem dX2_init_33 : decode cX2_init 33 = .ok (.newarray .int, 2) := by decide +kernel
theorem dX2_init_35 : decode cX2_init 35 = .ok (.putfield 25, 3) := by decide +kernel
theorem dX2_init_38 : decode cX2_init 38 = .ok (.return_, 1) := by decide +kernel
theorem dX2_behind_0 : decode cX2_behind 0 = .ok (.aload_n 0, 1) := by decide +kernel
theorem dX2_behind_1 : decode cX2_behind 1 = .ok (.getfield 12, 3) := by decide +kernel
theorem dX2_behind_4 : decode cX2_behind 4 = .ok (.aload_n 1, 1) := by decide +kernel
theorem dX2_behind_5 : decode cX2_behind 5 = .ok (.invokevirtual 28, 3) := by decide +kernel
theorem dX2_behind_8 : decode cX2_behind 8 = .ok (.aload_n 0, 1) := by decide +kernel
theorem dX2_behind_9 : decode cX2_behind 9 = .ok (.getfield 12, 3) := by decide +kernel
theorem dX2_behind_12 : decode cX2_behind 12 = .ok (.aload_n 2, 1) := by decide +kernel
theorem dX2_behind_13 : decode cX2_behind 13 = .ok (.iconst 0, 1) := by decide +kernel
theorem dX2_behind_14 : decode cX2_behind 14 = .ok (.iload_n 3, 1) := by decide +kernel
theorem dX2_behind_15 : decode cX2_behind 15 = .ok (.invokevirtual 32, 3) := by decide +kernel
theorem dX2_behind_18 : decode cX2_behind 18 = .ok (.iload 4, 2) := by decide +kernel
theorem dX2_behind_20 : decode cX2_behind 20 = .ok (.tableswitch 101 0 4 #[36, 51, 62, 73, 87], 36) := by decide +kernel
theorem dX2_behind_56 : decode cX2_behind 56 = .ok (.aload_n 0, 1) := by decide +kernel
theorem dX2_behind_57 : decode cX2_behind 57 = .ok (.getfield 12, 3) := by decide +kernel
theorem dX2_behind_60 : decode cX2_behind 60 = .ok (.getfield 36, 3) := by decide +kernel
theorem dX2_behind_63 : decode cX2_behind 63 = .ok (.aload_n 2, 1) := by decide +kernel
theorem dX2_behind_64 : decode cX2_behind 64 = .ok (.getfield 40, 3) := by decide +kernel
theorem dX2_behind_67 : decode cX2_behind 67 = .ok (.invokevirtual 46, 3) := by decide +kernel
theorem dX2_behind_70 : decode cX2_behind 70 = .ok (.ireturn, 1) := by decide +kernel
theorem dX2_behind_71 : decode cX2_behind 71 = .ok (.aload_n 0, 1) := by decide +kernel
theorem dX2_behind_72 : decode cX2_behind 72 = .ok (.getfield 12, 3) := by decide +kernel
theorem dX2_behind_75 : decode cX2_behind 75 = .ok (.getfield 36, 3) := by decide +kernel
theorem dX2_behind_78 : decode cX2_behind 78 = .ok (.getfield 52, 3) := by decide +kernel
theorem dX2_behind_81 : decode cX2_behind 81 = .ok (.ireturn, 1) := by decide +kernel
theorem dX2_behind_82 : decode cX2_behind 82 = .ok (.aload_n 0, 1) := by decide +kernel
theorem dX2_behind_83 : decode cX2_behind 83 = .ok (.getfield 12, 3) := by decide +kernel
theorem dX2_behind_86 : decode cX2_behind 86 = .ok (.getfield 36, 3) := by decide +kernel
theorem dX2_behind_89 : decode cX2_behind 89 = .ok (.getfield 55, 3) := by decide +kernel
theorem dX2_behind_92 : decode cX2_behind 92 = .ok (.ireturn, 1) := by decide +kernel
theorem dX2_behind_93 : decode cX2_behind 93 = .ok (.aload_n 0, 1) := by decide +kernel
theorem dX2_behind_94 : decode cX2_behind 94 = .ok (.getfield 12, 3) := by decide +kernel
theorem dX2_behind_97 : decode cX2_behind 97 = .ok (.getfield 36, 3) := by decide +kernel
theorem dX2_behind_100 : decode cX2_behind 100 = .ok (.getfield 58, 3) := by decide +kernel
theorem dX2_behind_103 : decode cX2_behind 103 = .ok (.getfield 62, 3) := by decide +kernel
theorem dX2_behind_106 : decode cX2_behind 106 = .ok (.ireturn, 1) := by decide +kernel
theorem dX2_behind_107 : decode cX2_behind 107 = .ok (.aload_n 0, 1) := by decide +kernel
theorem dX2_behind_108 : decode cX2_behind 108 = .ok (.getfield 12, 3) := by decide +kernel
theorem dX2_behind_111 : decode cX2_behind 111 = .ok (.getfield 36, 3) := by decide +kernel
theorem dX2_behind_114 : decode cX2_behind 114 = .ok (.getfield 58, 3) := by decide +kernel
theorem dX2_behind_117 : decode cX2_behind 117 = .ok (.getfield 67, 3) := by decide +kernel
theorem dX2_behind_120 : decode cX2_behind 120 = .ok (.ireturn, 1) := by decide +kernel
theorem dX2_behind_121 : decode cX2_behind 121 = .ok (.aload_n 0, 1) := by decide +kernel
theorem dX2_behind_122 : decode cX2_behind 122 = .ok (.getfield 12, 3) := by decide +kernel
theorem dX2_behind_125 : decode cX2_behind 125 = .ok (.getfield 36, 3) := by decide +kernel
theorem dX2_behind_128 : decode cX2_behind 128 = .ok (.getfield 70, 3) := by decide +kernel
theorem dX2_behind_131 : decode cX2_behind 131 = .ok (.getfield 74, 3) := by decide +kernel
theorem dX2_behind_134 : decode cX2_behind 134 = .ok (.ireturn, 1) := by decide +kernel
theorem dX2_firstPlaying_0 : decode cX2_firstPlaying 0 = .ok (.aload_n 0, 1) := by decide +kernel
theorem dX2_firstPlaying_1 : decode cX2_firstPlaying 1 = .ok (.getfield 12, 3) := by decide +kernel
theorem dX2_firstPlaying_4 : decode cX2_firstPlaying 4 = .ok (.aload_n 1, 1) := by decide +kernel
theorem dX2_firstPlaying_5 : decode cX2_firstPlaying 5 = .ok (.invokevirtual 28, 3) := by decide +kernel
theorem dX2_firstPlaying_8 : decode cX2_firstPlaying 8 = .ok (.iconst 0, 1) := by decide +kernel
theorem dX2_firstPlaying_9 : decode cX2_firstPlaying 9 = .ok (.istore_n 3, 1) := by decide +kernel
theorem dX2_firstPlaying_10 : decode cX2_firstPlaying 10 = .ok (.iload_n 3, 1) := by decide +kernel
theorem dX2_firstPlaying_11 : decode cX2_firstPlaying 11 = .ok (.sipush 400, 3) := by decide +kernel
theorem dX2_firstPlaying_14 : decode cX2_firstPlaying 14 = .ok (.if_icmp .gt 33, 3) := by decide +kernel
theorem dX2_firstPlaying_17 : decode cX2_firstPlaying 17 = .ok (.aload_n 0, 1) := by decide +kernel
theorem dX2_firstPlaying_18 : decode cX2_firstPlaying 18 = .ok (.getfield 12, 3) := by decide +kernel
theorem dX2_firstPlaying_21 : decode cX2_firstPlaying 21 = .ok (.getfield 36, 3) := by decide +kernel
theorem dX2_firstPlaying_24 : decode cX2_firstPlaying 24 = .ok (.getfield 55, 3) := by decide +kernel
theorem dX2_firstPlaying_27 : decode cX2_firstPlaying 27 = .ok (.iconst 2, 1) := by decide +kernel
theorem dX2_firstPlaying_28 : decode cX2_firstPlaying 28 = .ok (.if_icmp .ne 5, 3) := by decide +kernel
theorem dX2_firstPlaying_31 : decode cX2_firstPlaying 31 = .ok (.iload_n 3, 1) := by decide +kernel
theorem dX2_firstPlaying_32 : decode cX2_firstPlaying 32 = .ok (.ireturn, 1) := by decide +kernel
theorem dX2_firstPlaying_33 : decode cX2_firstPlaying 33 = .ok (.aload_n 0, 1) := by decide +kernel
theorem dX2_firstPlaying_34 : decode cX2_firstPlaying 34 = .ok (.getfield 12, 3) := by decide +kernel
theorem dX2_firstPlaying_37 : decode cX2_firstPlaying 37 = .ok (.aload_n 2, 1) := by decide +kernel
theorem dX2_firstPlaying_38 : decode cX2_firstPlaying 38 = .ok (.invokevirtual 79, 3) := by decide +kernel
theorem dX2_firstPlaying_41 : decode cX2_firstPlaying 41 = .ok (.iinc 3 1, 3) := by decide +kernel
theorem dX2_firstPlaying_44 : decode cX2_firstPlaying 44 = .ok (.goto (-34), 3) := by decide +kernel
theorem dX2_firstPlaying_47 : decode cX2_firstPlaying 47 = .ok (.iconst (-1), 1) := by decide +kernel
theorem dX2_firstPlaying_48 : decode cX2_firstPlaying 48 = .ok (.ireturn, 1) := by decide +kernel
theorem dX2_firstOf_0 : decode cX2_firstOf 0 = .ok (.aload_n 0, 1) := by decide +kernel
theorem dX2_firstOf_1 : decode cX2_firstOf 1 = .ok (.getfield 12, 3) := by decide +kernel
theorem dX2_firstOf_4 : decode cX2_firstOf 4 = .ok (.aload_n 1, 1) := by decide +kernel
theorem dX2_firstOf_5 : decode cX2_firstOf 5 = .ok (.invokevirtual 28, 3) := by decide +kernel
theorem dX2_firstOf_8 : decode cX2_firstOf 8 = .ok (.aload_n 0, 1) := by decide +kernel
theorem dX2_firstOf_9 : decode cX2_firstOf 9 = .ok (.iload_n 3, 1) := by decide +kernel
theorem dX2_firstOf_10 : decode cX2_firstOf 10 = .ok (.invokevirtual 83, 3) := by decide +kernel
theorem dX2_firstOf_13 : decode cX2_firstOf 13 = .ok (.istore 4, 2) := by decide +kernel
theorem dX2_firstOf_15 : decode cX2_firstOf 15 = .ok (.iconst 1, 1) := by decide +kernel
theorem dX2_firstOf_16 : decode cX2_firstOf 16 = .ok (.istore 5, 2) := by decide +kernel
theorem dX2_firstOf_18 : decode cX2_firstOf 18 = .ok (.iload 5, 2) := by decide +kernel
theorem dX2_firstOf_20 : decode cX2_firstOf 20 = .ok (.sipush 400, 3) := by decide +kernel
theorem dX2_firstOf_23 : decode cX2_firstOf 23 = .ok (.if_icmp .gt 30, 3) := by decide +kernel
theorem dX2_firstOf_26 : decode cX2_firstOf 26 = .ok (.aload_n 0, 1) := by decide +kernel
theorem dX2_firstOf_27 : decode cX2_firstOf 27 = .ok (.getfield 12, 3) := by decide +kernel
theorem dX2_firstOf_30 : decode cX2_firstOf 30 = .ok (.aload_n 2, 1) := by decide +kernel
theorem dX2_firstOf_31 : decode cX2_firstOf 31 = .ok (.invokevirtual 79, 3) := by decide +kernel
theorem dX2_firstOf_34 : decode cX2_firstOf 34 = .ok (.aload_n 0, 1) := by decide +kernel
theorem dX2_firstOf_35 : decode cX2_firstOf 35 = .ok (.iload_n 3, 1) := by decide +kernel
theorem dX2_firstOf_36 : decode cX2_firstOf 36 = .ok (.invokevirtual 83, 3) := by decide +kernel
theorem dX2_firstOf_39 : decode cX2_firstOf 39 = .ok (.iload 4, 2) := by decide +kernel
theorem dX2_firstOf_41 : decode cX2_firstOf 41 = .ok (.if_icmp .eq 6, 3) := by decide +kernel
theorem dX2_firstOf_44 : decode cX2_firstOf 44 = .ok (.iload 5, 2) := by decide +kernel
theorem dX2_firstOf_46 : decode cX2_firstOf 46 = .ok (.ireturn, 1) := by decide +kernel
theorem dX2_firstOf_47 : decode cX2_firstOf 47 = .ok (.iinc 5 1, 3) := by decide +kernel
theorem dX2_firstOf_50 : decode cX2_firstOf 50 = .ok (.goto (-32), 3) := by decide +kernel
theorem dX2_firstOf_53 : decode cX2_firstOf 53 = .ok (.iconst (-1), 1) := by decide +kernel
theorem dX2_firstOf_54 : decode cX2_firstOf 54 = .ok (.ireturn, 1) := by decide +kernel
theorem dX2_harm_0 : decode cX2_harm 0 = .ok (.iload_n 1, 1) := by decide +kernel
theorem dX2_harm_1 : decode cX2_harm 1 = .ok (.lookupswitch 69 #[(1, 27), (2, 41)], 27) := by decide +kernel
theorem dX2_harm_28 : decode cX2_harm 28 = .ok (.aload_n 0, 1) := by decide +kernel
theorem dX2_harm_29 : decode cX2_harm 29 = .ok (.getfield 12, 3) := by decide +kernel
theorem dX2_harm_32 : decode cX2_harm 32 = .ok (.getfield 36, 3) := by decide +kernel
theorem dX2_harm_35 : decode cX2_harm 35 = .ok (.getfield 58, 3) := by decide +kernel
theorem dX2_harm_38 : decode cX2_harm 38 = .ok (.getfield 67, 3) := by decide +kernel
theorem dX2_harm_41 : decode cX2_harm 41 = .ok (.ireturn, 1) := by decide +kernel
theorem dX2_harm_42 : decode cX2_harm 42 = .ok (.aload_n 0, 1) := by decide +kernel
theorem dX2_harm_43 : decode cX2_harm 43 = .ok (.getfield 12, 3) := by decide +kernel
theorem dX2_harm_46 : decode cX2_harm 46 = .ok (.getfield 36, 3) := by decide +kernel
theorem dX2_harm_49 : decode cX2_harm 49 = .ok (.getfield 70, 3) := by decide +kernel
theorem dX2_harm_52 : decode cX2_harm 52 = .ok (.getfield 74, 3) := by decide +kernel
theorem dX2_harm_55 : decode cX2_harm 55 = .ok (.aload_n 0, 1) := by decide +kernel
theorem dX2_harm_56 : decode cX2_harm 56 = .ok (.getfield 12, 3) := by decide +kernel
theorem dX2_harm_59 : decode cX2_harm 59 = .ok (.getfield 36, 3) := by decide +kernel
theorem dX2_harm_62 : decode cX2_harm 62 = .ok (.getfield 70, 3) := by decide +kernel
theorem dX2_harm_65 : decode cX2_harm 65 = .ok (.getfield 86, 3) := by decide +kernel
theorem dX2_harm_68 : decode cX2_harm 68 = .ok (.iadd, 1) := by decide +kernel
theorem dX2_harm_69 : decode cX2_harm 69 = .ok (.ireturn, 1) := by decide +kernel
theorem dX2_harm_70 : decode cX2_harm 70 = .ok (.aload_n 0, 1) := by decide +kernel
theorem dX2_harm_71 : decode cX2_harm 71 = .ok (.getfield 12, 3) := by decide +kernel
theorem dX2_harm_74 : decode cX2_harm 74 = .ok (.getfield 36, 3) := by decide +kernel
theorem dX2_harm_77 : decode cX2_harm 77 = .ok (.getfield 89, 3) := by decide +kernel
theorem dX2_harm_80 : decode cX2_harm 80 = .ok (.ireturn, 1) := by decide +kernel
theorem dX2_offTarget_0 : decode cX2_offTarget 0 = .ok (.aload_n 0, 1) := by decide +kernel
theorem dX2_offTarget_1 : decode cX2_offTarget 1 = .ok (.getfield 12, 3) := by decide +kernel
theorem dX2_offTarget_4 : decode cX2_offTarget 4 = .ok (.getfield 36, 3) := by decide +kernel
theorem dX2_offTarget_7 : decode cX2_offTarget 7 = .ok (.iload_n 1, 1) := by decide +kernel
theorem dX2_offTarget_8 : decode cX2_offTarget 8 = .ok (.invokevirtual 46, 3) := by decide +kernel
theorem dX2_offTarget_11 : decode cX2_offTarget 11 = .ok (.aload_n 0, 1) := by decide +kernel
theorem dX2_offTarget_12 : decode cX2_offTarget 12 = .ok (.getfield 12, 3) := by decide +kernel
theorem dX2_offTarget_15 : decode cX2_offTarget 15 = .ok (.getfield 36, 3) := by decide +kernel
theorem dX2_offTarget_18 : decode cX2_offTarget 18 = .ok (.getfield 92, 3) := by decide +kernel
theorem dX2_offTarget_21 : decode cX2_offTarget 21 = .ok (.isub, 1) := by decide +kernel
theorem dX2_offTarget_22 : decode cX2_offTarget 22 = .ok (.invokestatic 95, 3) := by decide +kernel
theorem dX2_offTarget_25 : decode cX2_offTarget 25 = .ok (.ireturn, 1) := by decide +kernel
theorem dX2_firstSettled_0 : decode cX2_firstSettled 0 = .ok (.aload_n 0, 1) := by decide +kernel
theorem dX2_firstSettled_1 : decode cX2_firstSettled 1 = .ok (.getfield 12, 3) := by decide +kernel
theorem dX2_firstSettled_4 : decode cX2_firstSettled 4 = .ok (.aload_n 1, 1) := by decide +kernel
theorem dX2_firstSettled_5 : decode cX2_firstSettled 5 = .ok (.invokevirtual 28, 3) := by decide +kernel
theorem dX2_firstSettled_8 : decode cX2_firstSettled 8 = .ok (.aload_n 0, 1) := by decide +kernel
theorem dX2_firstSettled_9 : decode cX2_firstSettled 9 = .ok (.getfield 12, 3) := by decide +kernel
theorem dX2_firstSettled_12 : decode cX2_firstSettled 12 = .ok (.getfield 36, 3) := by decide +kernel
theorem dX2_firstSettled_15 : decode cX2_firstSettled 15 = .ok (.getfield 55, 3) := by decide +kernel
theorem dX2_firstSettled_18 : decode cX2_firstSettled 18 = .ok (.iconst 2, 1) := by decide +kernel
theorem dX2_firstSettled_19 : decode cX2_firstSettled 19 = .ok (.if_icmp .ne 7, 3) := by decide +kernel
theorem dX2_firstSettled_22 : decode cX2_firstSettled 22 = .ok (.lconst 1, 1) := by decide +kernel
theorem dX2_firstSettled_23 : decode cX2_firstSettled 23 = .ok (.goto 4, 3) := by decide +kernel
theorem dX2_firstSettled_26 : decode cX2_firstSettled 26 = .ok (.lconst 0, 1) := by decide +kernel
theorem dX2_firstSettled_27 : decode cX2_firstSettled 27 = .ok (.lstore_n 3, 1) := by decide +kernel
theorem dX2_firstSettled_28 : decode cX2_firstSettled 28 = .ok (.iconst 0, 1) := by decide +kernel
theorem dX2_firstSettled_29 : decode cX2_firstSettled 29 = .ok (.istore 5, 2) := by decide +kernel
theorem dX2_firstSettled_31 : decode cX2_firstSettled 31 = .ok (.iconst 1, 1) := by decide +kernel
theorem dX2_firstSettled_32 : decode cX2_firstSettled 32 = .ok (.istore 6, 2) := by decide +kernel
theorem dX2_firstSettled_34 : decode cX2_firstSettled 34 = .ok (.iload 6, 2) := by decide +kernel
theorem dX2_firstSettled_36 : decode cX2_firstSettled 36 = .ok (.sipush 440, 3) := by decide +kernel
theorem dX2_firstSettled_39 : decode cX2_firstSettled 39 = .ok (.if_icmp .gt 88, 3) := by decide +kernel
theorem dX2_firstSettled_42 : decode cX2_firstSettled 42 = .ok (.aload_n 0, 1) := by decide +kernel
theorem dX2_firstSettled_43 : decode cX2_firstSettled 43 = .ok (.getfield 12, 3) := by decide +kernel
theorem dX2_firstSettled_46 : decode cX2_firstSettled 46 = .ok (.aload_n 2, 1) := by decide +kernel
theorem dX2_firstSettled_47 : decode cX2_firstSettled 47 = .ok (.invokevirtual 79, 3) := by decide +kernel
theorem dX2_firstSettled_50 : decode cX2_firstSettled 50 = .ok (.lload_n 3, 1) := by decide +kernel
theorem dX2_firstSettled_51 : decode cX2_firstSettled 51 = .ok (.iconst 1, 1) := by decide +kernel
theorem dX2_firstSettled_52 : decode cX2_firstSettled 52 = .ok (.lshl, 1) := by decide +kernel
theorem dX2_firstSettled_53 : decode cX2_firstSettled 53 = .ok (.aload_n 0, 1) := by decide +kernel
theorem dX2_firstSettled_54 : decode cX2_firstSettled 54 = .ok (.getfield 12, 3) := by decide +kernel
theorem dX2_firstSettled_57 : decode cX2_firstSettled 57 = .ok (.getfield 36, 3) := by decide +kernel
theorem dX2_firstSettled_60 : decode cX2_firstSettled 60 = .ok (.getfield 55, 3) := by decide +kernel
theorem dX2_firstSettled_63 : decode cX2_firstSettled 63 = .ok (.iconst 2, 1) := by decide +kernel
theorem dX2_firstSettled_64 : decode cX2_firstSettled 64 = .ok (.if_icmp .ne 7, 3) := by decide +kernel
theorem dX2_firstSettled_67 : decode cX2_firstSettled 67 = .ok (.iconst 1, 1) := by decide +kernel
theorem dX2_firstSettled_68 : decode cX2_firstSettled 68 = .ok (.goto 4, 3) := by decide +kernel
theorem dX2_firstSettled_71 : decode cX2_firstSettled 71 = .ok (.iconst 0, 1) := by decide +kernel
theorem dX2_firstSettled_72 : decode cX2_firstSettled 72 = .ok (.i2l, 1) := by decide +kernel
theorem dX2_firstSettled_73 : decode cX2_firstSettled 73 = .ok (.lor, 1) := by decide +kernel
theorem dX2_firstSettled_74 : decode cX2_firstSettled 74 = .ok (.lstore_n 3, 1) := by decide +kernel
theorem dX2_firstSettled_75 : decode cX2_firstSettled 75 = .ok (.aload_n 0, 1) := by decide +kernel
theorem dX2_firstSettled_76 : decode cX2_firstSettled 76 = .ok (.aload_n 2, 1) := by decide +kernel
theorem dX2_firstSettled_77 : decode cX2_firstSettled 77 = .ok (.getfield 40, 3) := by decide +kernel
theorem dX2_firstSettled_80 : decode cX2_firstSettled 80 = .ok (.invokevirtual 100, 3) := by decide +kernel
theorem dX2_firstSettled_83 : decode cX2_firstSettled 83 = .ok (.iconst 2, 1) := by decide +kernel
theorem dX2_firstSettled_84 : decode cX2_firstSettled 84 = .ok (.if_icmp .gt 10, 3) := by decide +kernel
theorem dX2_firstSettled_87 : decode cX2_firstSettled 87 = .ok (.iload 5, 2) := by decide +kernel
theorem dX2_firstSettled_89 : decode cX2_firstSettled 89 = .ok (.iconst 1, 1) := by decide +kernel
theorem dX2_firstSettled_90 : decode cX2_firstSettled 90 = .ok (.iadd, 1) := by decide +kernel
theorem dX2_firstSettled_91 : decode cX2_firstSettled 91 = .ok (.goto 4, 3) := by decide +kernel
theorem dX2_firstSettled_94 : decode cX2_firstSettled 94 = .ok (.iconst 0, 1) := by decide +kernel
theorem dX2_firstSettled_95 : decode cX2_firstSettled 95 = .ok (.istore 5, 2) := by decide +kernel
theorem dX2_firstSettled_97 : decode cX2_firstSettled 97 = .ok (.iload 5, 2) := by decide +kernel
theorem dX2_firstSettled_99 : decode cX2_firstSettled 99 = .ok (.bipush 40, 2) := by decide +kernel
theorem dX2_firstSettled_101 : decode cX2_firstSettled 101 = .ok (.if_icmp .lt 20, 3) := by decide +kernel
theorem dX2_firstSettled_104 : decode cX2_firstSettled 104 = .ok (.lload_n 3, 1) := by decide +kernel
theorem dX2_firstSettled_105 : decode cX2_firstSettled 105 = .ok (.bipush 40, 2) := by decide +kernel
theorem dX2_firstSettled_107 : decode cX2_firstSettled 107 = .ok (.lshr, 1) := by decide +kernel
theorem dX2_firstSettled_108 : decode cX2_firstSettled 108 = .ok (.lconst 1, 1) := by decide +kernel
theorem dX2_firstSettled_109 : decode cX2_firstSettled 109 = .ok (.land, 1) := by decide +kernel
theorem dX2_firstSettled_110 : decode cX2_firstSettled 110 = .ok (.lconst 0, 1) := by decide +kernel
theorem dX2_firstSettled_111 : decode cX2_firstSettled 111 = .ok (.lcmp, 1) := by decide +kernel
theorem dX2_firstSettled_112 : decode cX2_firstSettled 112 = .ok (.ifCond .eq 9, 3) := by decide +kernel
theorem dX2_firstSettled_115 : decode cX2_firstSettled 115 = .ok (.iload 6, 2) := by decide +kernel
theorem dX2_firstSettled_117 : decode cX2_firstSettled 117 = .ok (.bipush 40, 2) := by decide +kernel
theorem dX2_firstSettled_119 : decode cX2_firstSettled 119 = .ok (.isub, 1) := by decide +kernel
theorem dX2_firstSettled_120 : decode cX2_firstSettled 120 = .ok (.ireturn, 1) := by decide +kernel
theorem dX2_firstSettled_121 : decode cX2_firstSettled 121 = .ok (.iinc 6 1, 3) := by decide +kernel
theorem dX2_firstSettled_124 : decode cX2_firstSettled 124 = .ok (.goto (-90), 3) := by decide +kernel
theorem dX2_firstSettled_127 : decode cX2_firstSettled 127 = .ok (.iconst (-1), 1) := by decide +kernel
theorem dX2_firstSettled_128 : decode cX2_firstSettled 128 = .ok (.ireturn, 1) := by decide +kernel
theorem dX2_findTarget_0 : decode cX2_findTarget 0 = .ok (.aload_n 0, 1) := by decide +kernel
theorem dX2_findTarget_1 : decode cX2_findTarget 1 = .ok (.iconst (-1), 1) := by decide +kernel
theorem dX2_findTarget_2 : decode cX2_findTarget 2 = .ok (.putfield 103, 3) := by decide +kernel
theorem dX2_findTarget_5 : decode cX2_findTarget 5 = .ok (.aload_n 0, 1) := by decide +kernel
theorem dX2_findTarget_6 : decode cX2_findTarget 6 = .ok (.iconst (-1), 1) := by decide +kernel
theorem dX2_findTarget_7 : decode cX2_findTarget 7 = .ok (.putfield 106, 3) := by decide +kernel
theorem dX2_findTarget_10 : decode cX2_findTarget 10 = .ok (.iconst 1, 1) := by decide +kernel
theorem dX2_findTarget_11 : decode cX2_findTarget 11 = .ok (.istore 4, 2) := by decide +kernel
theorem dX2_findTarget_13 : decode cX2_findTarget 13 = .ok (.iload 4, 2) := by decide +kernel
theorem dX2_findTarget_15 : decode cX2_findTarget 15 = .ok (.bipush 64, 2) := by decide +kernel
theorem dX2_findTarget_17 : decode cX2_findTarget 17 = .ok (.if_icmp .gt 69, 3) := by decide +kernel
theorem dX2_findTarget_20 : decode cX2_findTarget 20 = .ok (.aload_n 0, 1) := by decide +kernel
theorem dX2_findTarget_21 : decode cX2_findTarget 21 = .ok (.getfield 12, 3) := by decide +kernel
theorem dX2_findTarget_24 : decode cX2_findTarget 24 = .ok (.aload_n 1, 1) := by decide +kernel
theorem dX2_findTarget_25 : decode cX2_findTarget 25 = .ok (.invokevirtual 28, 3) := by decide +kernel
theorem dX2_findTarget_28 : decode cX2_findTarget 28 = .ok (.aload_n 0, 1) := by decide +kernel
theorem dX2_findTarget_29 : decode cX2_findTarget 29 = .ok (.getfield 12, 3) := by decide +kernel
theorem dX2_findTarget_32 : decode cX2_findTarget 32 = .ok (.getfield 36, 3) := by decide +kernel
theorem dX2_findTarget_35 : decode cX2_findTarget 35 = .ok (.iload 4, 2) := by decide +kernel
theorem dX2_findTarget_37 : decode cX2_findTarget 37 = .ok (.putfield 92, 3) := by decide +kernel
theorem dX2_findTarget_40 : decode cX2_findTarget 40 = .ok (.aload_n 0, 1) := by decide +kernel
theorem dX2_findTarget_41 : decode cX2_findTarget 41 = .ok (.getfield 12, 3) := by decide +kernel
theorem dX2_findTarget_44 : decode cX2_findTarget 44 = .ok (.aload_n 2, 1) := by decide +kernel
theorem dX2_findTarget_45 : decode cX2_findTarget 45 = .ok (.iconst 0, 1) := by decide +kernel
theorem dX2_findTarget_46 : decode cX2_findTarget 46 = .ok (.iload_n 3, 1) := by decide +kernel
theorem dX2_findTarget_47 : decode cX2_findTarget 47 = .ok (.invokevirtual 32, 3) := by decide +kernel
theorem dX2_findTarget_50 : decode cX2_findTarget 50 = .ok (.aload_n 0, 1) := by decide +kernel
theorem dX2_findTarget_51 : decode cX2_findTarget 51 = .ok (.iload 4, 2) := by decide +kernel
theorem dX2_findTarget_53 : decode cX2_findTarget 53 = .ok (.aload_n 0, 1) := by decide +kernel
theorem dX2_findTarget_54 : decode cX2_findTarget 54 = .ok (.getfield 12, 3) := by decide +kernel
theorem dX2_findTarget_57 : decode cX2_findTarget 57 = .ok (.getfield 36, 3) := by decide +kernel
theorem dX2_findTarget_60 : decode cX2_findTarget 60 = .ok (.getfield 58, 3) := by decide +kernel
theorem dX2_findTarget_63 : decode cX2_findTarget 63 = .ok (.getfield 67, 3) := by decide +kernel
theorem dX2_findTarget_66 : decode cX2_findTarget 66 = .ok (.aload_n 1, 1) := by decide +kernel
theorem dX2_findTarget_67 : decode cX2_findTarget 67 = .ok (.getfield 36, 3) := by decide +kernel
theorem dX2_findTarget_70 : decode cX2_findTarget 70 = .ok (.getfield 58, 3) := by decide +kernel
theorem dX2_findTarget_73 : decode cX2_findTarget 73 = .ok (.getfield 67, 3) := by decide +kernel
theorem dX2_findTarget_76 : decode cX2_findTarget 76 = .ok (.isub, 1) := by decide +kernel
theorem dX2_findTarget_77 : decode cX2_findTarget 77 = .ok (.invokevirtual 109, 3) := by decide +kernel
theorem dX2_findTarget_80 : decode cX2_findTarget 80 = .ok (.iinc 4 1, 3) := by decide +kernel
theorem dX2_findTarget_83 : decode cX2_findTarget 83 = .ok (.goto (-70), 3) := by decide +kernel
theorem dX2_findTarget_86 : decode cX2_findTarget 86 = .ok (.return_, 1) := by decide +kernel
theorem dX2_findGains_0 : decode cX2_findGains 0 = .ok (.aload_n 0, 1) := by decide +kernel
theorem dX2_findGains_1 : decode cX2_findGains 1 = .ok (.iconst (-1), 1) := by decide +kernel
theorem dX2_findGains_2 : decode cX2_findGains 2 = .ok (.putfield 103, 3) := by decide +kernel
theorem dX2_findGains_5 : decode cX2_findGains 5 = .ok (.aload_n 0, 1) := by decide +kernel
theorem dX2_findGains_6 : decode cX2_findGains 6 = .ok (.iconst (-1), 1) := by decide +kernel
theorem dX2_findGains_7 : decode cX2_findGains 7 = .ok (.putfield 106, 3) := by decide +kernel
theorem dX2_findGains_10 : decode cX2_findGains 10 = .ok (.iconst 0, 1) := by decide +kernel
theorem dX2_findGains_11 : decode cX2_findGains 11 = .ok (.istore 4, 2) := by decide +kernel
theorem dX2_findGains_13 : decode cX2_findGains 13 = .ok (.iload 4, 2) := by decide +kernel
theorem dX2_findGains_15 : decode cX2_findGains 15 = .ok (.bipush 9, 2) := by decide +kernel
theorem dX2_findGains_17 : decode cX2_findGains 17 = .ok (.if_icmp .gt 84, 3) := by decide +kernel
theorem dX2_findGains_20 : decode cX2_findGains 20 = .ok (.iconst 0, 1) := by decide +kernel
theorem dX2_findGains_21 : decode cX2_findGains 21 = .ok (.istore 5, 2) := by decide +kernel
theorem dX2_findGains_23 : decode cX2_findGains 23 = .ok (.iload 5, 2) := by decide +kernel
theorem dX2_findGains_25 : decode cX2_findGains 25 = .ok (.iconst 3, 1) := by decide +kernel
theorem dX2_findGains_26 : decode cX2_findGains 26 = .ok (.if_icmp .gt 69, 3) := by decide +kernel
theorem dX2_findGains_29 : decode cX2_findGains 29 = .ok (.aload_n 0, 1) := by decide +kernel
theorem dX2_findGains_30 : decode cX2_findGains 30 = .ok (.getfield 12, 3) := by decide +kernel
theorem dX2_findGains_33 : decode cX2_findGains 33 = .ok (.aload_n 1, 1) := by decide +kernel
theorem dX2_findGains_34 : decode cX2_findGains 34 = .ok (.invokevirtual 28, 3) := by decide +kernel
theorem dX2_findGains_37 : decode cX2_findGains 37 = .ok (.aload_n 0, 1) := by decide +kernel
theorem dX2_findGains_38 : decode cX2_findGains 38 = .ok (.getfield 12, 3) := by decide +kernel
theorem dX2_findGains_41 : decode cX2_findGains 41 = .ok (.getfield 36, 3) := by decide +kernel
theorem dX2_findGains_44 : decode cX2_findGains 44 = .ok (.iload 4, 2) := by decide +kernel
theorem dX2_findGains_46 : decode cX2_findGains 46 = .ok (.putfield 113, 3) := by decide +kernel
theorem dX2_findGains_49 : decode cX2_findGains 49 = .ok (.aload_n 0, 1) := by decide +kernel
theorem dX2_findGains_50 : decode cX2_findGains 50 = .ok (.getfield 12, 3) := by decide +kernel
theorem dX2_findGains_53 : decode cX2_findGains 53 = .ok (.getfield 36, 3) := by decide +kernel
theorem dX2_findGains_56 : decode cX2_findGains 56 = .ok (.iload 5, 2) := by decide +kernel
theorem dX2_findGains_58 : decode cX2_findGains 58 = .ok (.putfield 116, 3) := by decide +kernel
theorem dX2_findGains_61 : decode cX2_findGains 61 = .ok (.aload_n 0, 1) := by decide +kernel
theorem dX2_findGains_62 : decode cX2_findGains 62 = .ok (.aload_n 2, 1) := by decide +kernel
theorem dX2_findGains_63 : decode cX2_findGains 63 = .ok (.iload_n 3, 1) := by decide +kernel
theorem dX2_findGains_64 : decode cX2_findGains 64 = .ok (.invokevirtual 119, 3) := by decide +kernel
theorem dX2_findGains_67 : decode cX2_findGains 67 = .ok (.istore 6, 2) := by decide +kernel
theorem dX2_findGains_69 : decode cX2_findGains 69 = .ok (.iload 6, 2) := by decide +kernel
theorem dX2_findGains_71 : decode cX2_findGains 71 = .ok (.iconst (-1), 1) := by decide +kernel
theorem dX2_findGains_72 : decode cX2_findGains 72 = .ok (.if_icmp .eq 17, 3) := by decide +kernel
theorem dX2_findGains_75 : decode cX2_findGains 75 = .ok (.aload_n 0, 1) := by decide +kernel
theorem dX2_findGains_76 : decode cX2_findGains 76 = .ok (.bipush 10, 2) := by decide +kernel
theorem dX2_findGains_78 : decode cX2_findGains 78 = .ok (.iload 4, 2) := by decide +kernel
theorem dX2_findGains_80 : decode cX2_findGains 80 = .ok (.imul, 1) := by decide +kernel
theorem dX2_findGains_81 : decode cX2_findGains 81 = .ok (.iload 5, 2) := by decide +kernel
theorem dX2_findGains_83 : decode cX2_findGains 83 = .ok (.iadd, 1) := by decide +kernel
theorem dX2_findGains_84 : decode cX2_findGains 84 = .ok (.iload 6, 2) := by decide +kernel
theorem dX2_findGains_86 : decode cX2_findGains 86 = .ok (.invokevirtual 109, 3) := by decide +kernel
theorem dX2_findGains_89 : decode cX2_findGains 89 = .ok (.iinc 5 1, 3) := by decide +kernel
theorem dX2_findGains_92 : decode cX2_findGains 92 = .ok (.goto (-69), 3) := by decide +kernel
theorem dX2_findGains_95 : decode cX2_findGains 95 = .ok (.iinc 4 1, 3) := by decide +kernel
theorem dX2_findGains_98 : decode cX2_findGains 98 = .ok (.goto (-85), 3) := by decide +kernel
theorem dX2_findGains_101 : decode cX2_findGains 101 = .ok (.return_, 1) := by decide +kernel
theorem dX2_mostOffTarget_0 : decode cX2_mostOffTarget 0 = .ok (.iconst (-1), 1) := by decide +kernel
theorem dX2_mostOffTarget_1 : decode cX2_mostOffTarget 1 = .ok (.istore_n 3, 1) := by decide +kernel
theorem dX2_mostOffTarget_2 : decode cX2_mostOffTarget 2 = .ok (.iconst 0, 1) := by decide +kernel
theorem dX2_mostOffTarget_3 : decode cX2_mostOffTarget 3 = .ok (.istore 4, 2) := by decide +kernel
theorem dX2_mostOffTarget_5 : decode cX2_mostOffTarget 5 = .ok (.iload 4, 2) := by decide +kernel
theorem dX2_mostOffTarget_7 : decode cX2_mostOffTarget 7 = .ok (.iload_n 2, 1) := by decide +kernel
theorem dX2_mostOffTarget_8 : decode cX2_mostOffTarget 8 = .ok (.if_icmp .ge 44, 3) := by decide +kernel
theorem dX2_mostOffTarget_11 : decode cX2_mostOffTarget 11 = .ok (.aload_n 0, 1) := by decide +kernel
theorem dX2_mostOffTarget_12 : decode cX2_mostOffTarget 12 = .ok (.getfield 12, 3) := by decide +kernel
theorem dX2_mostOffTarget_15 : decode cX2_mostOffTarget 15 = .ok (.aload_n 1, 1) := by decide +kernel
theorem dX2_mostOffTarget_16 : decode cX2_mostOffTarget 16 = .ok (.invokevirtual 79, 3) := by decide +kernel
theorem dX2_mostOffTarget_19 : decode cX2_mostOffTarget 19 = .ok (.aload_n 0, 1) := by decide +kernel
theorem dX2_mostOffTarget_20 : decode cX2_mostOffTarget 20 = .ok (.getfield 12, 3) := by decide +kernel
theorem dX2_mostOffTarget_23 : decode cX2_mostOffTarget 23 = .ok (.getfield 36, 3) := by decide +kernel
theorem dX2_mostOffTarget_26 : decode cX2_mostOffTarget 26 = .ok (.getfield 55, 3) := by decide +kernel
theorem dX2_mostOffTarget_29 : decode cX2_mostOffTarget 29 = .ok (.iconst 2, 1) := by decide +kernel
theorem dX2_mostOffTarget_30 : decode cX2_mostOffTarget 30 = .ok (.if_icmp .ne 16, 3) := by decide +kernel
theorem dX2_mostOffTarget_33 : decode cX2_mostOffTarget 33 = .ok (.iload_n 3, 1) := by decide +kernel
theorem dX2_mostOffTarget_34 : decode cX2_mostOffTarget 34 = .ok (.aload_n 0, 1) := by decide +kernel
theorem dX2_mostOffTarget_35 : decode cX2_mostOffTarget 35 = .ok (.aload_n 1, 1) := by decide +kernel
theorem dX2_mostOffTarget_36 : decode cX2_mostOffTarget 36 = .ok (.getfield 40, 3) := by decide +kernel
theorem dX2_mostOffTarget_39 : decode cX2_mostOffTarget 39 = .ok (.invokevirtual 100, 3) := by decide +kernel
theorem dX2_mostOffTarget_42 : decode cX2_mostOffTarget 42 = .ok (.invokestatic 123, 3) := by decide +kernel
theorem dX2_mostOffTarget_45 : decode cX2_mostOffTarget 45 = .ok (.istore_n 3, 1) := by decide +kernel
theorem dX2_mostOffTarget_46 : decode cX2_mostOffTarget 46 = .ok (.iinc 4 1, 3) := by decide +kernel
theorem dX2_mostOffTarget_49 : decode cX2_mostOffTarget 49 = .ok (.goto (-44), 3) := by decide +kernel
theorem dX2_mostOffTarget_52 : decode cX2_mostOffTarget 52 = .ok (.iload_n 3, 1) := by decide +kernel
theorem dX2_mostOffTarget_53 : decode cX2_mostOffTarget 53 = .ok (.ireturn, 1) := by decide +kernel
theorem dX2_prefer_0 : decode cX2_prefer 0 = .ok (.aload_n 0, 1) := by decide +kernel
theorem dX2_prefer_1 : decode cX2_prefer 1 = .ok (.getfield 103, 3) := by decide +kernel
theorem dX2_prefer_4 : decode cX2_prefer 4 = .ok (.iconst (-1), 1) := by decide +kernel
theorem dX2_prefer_5 : decode cX2_prefer 5 = .ok (.if_icmp .eq 11, 3) := by decide +kernel
theorem dX2_prefer_8 : decode cX2_prefer 8 = .ok (.iload_n 2, 1) := by decide +kernel
theorem dX2_prefer_9 : decode cX2_prefer 9 = .ok (.aload_n 0, 1) := by decide +kernel
theorem dX2_prefer_10 : decode cX2_prefer 10 = .ok (.getfield 106, 3) := by decide +kernel
theorem dX2_prefer_13 : decode cX2_prefer 13 = .ok (.if_icmp .ge 13, 3) := by decide +kernel
theorem dX2_prefer_16 : decode cX2_prefer 16 = .ok (.aload_n 0, 1) := by decide +kernel
theorem dX2_prefer_17 : decode cX2_prefer 17 = .ok (.iload_n 1, 1) := by decide +kernel
theorem dX2_prefer_18 : decode cX2_prefer 18 = .ok (.putfield 103, 3) := by decide +kernel
theorem dX2_prefer_21 : decode cX2_prefer 21 = .ok (.aload_n 0, 1) := by decide +kernel
theorem dX2_prefer_22 : decode cX2_prefer 22 = .ok (.iload_n 2, 1) := by decide +kernel
theorem dX2_prefer_23 : decode cX2_prefer 23 = .ok (.putfield 106, 3) := by decide +kernel
theorem dX2_prefer_26 : decode cX2_prefer 26 = .ok (.return_, 1) := by decide +kernel
theorem dX2_agrees_0 : decode cX2_agrees 0 = .ok (.aload_n 0, 1) := by decide +kernel
theorem dX2_agrees_1 : decode cX2_agrees 1 = .ok (.getfield 12, 3) := by decide +kernel
theorem dX2_agrees_4 : decode cX2_agrees 4 = .ok (.aload_n 1, 1) := by decide +kernel
theorem dX2_agrees_5 : decode cX2_agrees 5 = .ok (.getfield 127, 3) := by decide +kernel
theorem dX2_agrees_8 : decode cX2_agrees 8 = .ok (.invokevirtual 28, 3) := by decide +kernel
theorem dX2_agrees_11 : decode cX2_agrees 11 = .ok (.aload_n 0, 1) := by decide +kernel
theorem dX2_agrees_12 : decode cX2_agrees 12 = .ok (.getfield 12, 3) := by decide +kernel
theorem dX2_agrees_15 : decode cX2_agrees 15 = .ok (.getfield 132, 3) := by decide +kernel
theorem dX2_agrees_18 : decode cX2_agrees 18 = .ok (.iload_n 3, 1) := by decide +kernel
theorem dX2_agrees_19 : decode cX2_agrees 19 = .ok (.putfield 136, 3) := by decide +kernel
theorem dX2_agrees_22 : decode cX2_agrees 22 = .ok (.iconst 0, 1) := by decide +kernel
theorem dX2_agrees_23 : decode cX2_agrees 23 = .ok (.istore 4, 2) := by decide +kernel
theorem dX2_agrees_25 : decode cX2_agrees 25 = .ok (.iload 4, 2) := by decide +kernel
theorem dX2_agrees_27 : decode cX2_agrees 27 = .ok (.bipush 60, 2) := by decide +kernel
theorem dX2_agrees_29 : decode cX2_agrees 29 = .ok (.if_icmp .gt 75, 3) := by decide +kernel
theorem dX2_agrees_32 : decode cX2_agrees 32 = .ok (.aload_n 0, 1) := by decide +kernel
theorem dX2_agrees_33 : decode cX2_agrees 33 = .ok (.getfield 12, 3) := by decide +kernel
theorem dX2_agrees_36 : decode cX2_agrees 36 = .ok (.getfield 36, 3) := by decide +kernel
theorem dX2_agrees_39 : decode cX2_agrees 39 = .ok (.aload_n 2, 1) := by decide +kernel
theorem dX2_agrees_40 : decode cX2_agrees 40 = .ok (.getfield 40, 3) := by decide +kernel
theorem dX2_agrees_43 : decode cX2_agrees 43 = .ok (.invokevirtual 46, 3) := by decide +kernel
theorem dX2_agrees_46 : decode cX2_agrees 46 = .ok (.istore 5, 2) := by decide +kernel
theorem dX2_agrees_48 : decode cX2_agrees 48 = .ok (.aload_n 1, 1) := by decide +kernel
theorem dX2_agrees_49 : decode cX2_agrees 49 = .ok (.iload 4, 2) := by decide +kernel
theorem dX2_agrees_51 : decode cX2_agrees 51 = .ok (.iload 5, 2) := by decide +kernel
theorem dX2_agrees_53 : decode cX2_agrees 53 = .ok (.invokevirtual 141, 3) := by decide +kernel
theorem dX2_agrees_56 : decode cX2_agrees 56 = .ok (.ifCond .ne 5, 3) := by decide +kernel
theorem dX2_agrees_59 : decode cX2_agrees 59 = .ok (.iconst 0, 1) := by decide +kernel
theorem dX2_agrees_60 : decode cX2_agrees 60 = .ok (.ireturn, 1) := by decide +kernel
theorem dX2_agrees_61 : decode cX2_agrees 61 = .ok (.iload 4, 2) := by decide +kernel
theorem dX2_agrees_63 : decode cX2_agrees 63 = .ok (.ifCond .le 27, 3) := by decide +kernel
theorem dX2_agrees_66 : decode cX2_agrees 66 = .ok (.iload 4, 2) := by decide +kernel
theorem dX2_agrees_68 : decode cX2_agrees 68 = .ok (.bipush 10, 2) := by decide +kernel
theorem dX2_agrees_70 : decode cX2_agrees 70 = .ok (.irem, 1) := by decide +kernel
theorem dX2_agrees_71 : decode cX2_agrees 71 = .ok (.ifCond .ne 19, 3) := by decide +kernel
theorem dX2_agrees_74 : decode cX2_agrees 74 = .ok (.aload_n 0, 1) := by decide +kernel
theorem dX2_agrees_75 : decode cX2_agrees 75 = .ok (.getfield 18, 3) := by decide +kernel
theorem dX2_agrees_78 : decode cX2_agrees 78 = .ok (.iload 4, 2) := by decide +kernel
theorem dX2_agrees_80 : decode cX2_agrees 80 = .ok (.bipush 10, 2) := by decide +kernel
theorem dX2_agrees_82 : decode cX2_agrees 82 = .ok (.idiv, 1) := by decide +kernel
theorem dX2_agrees_83 : decode cX2_agrees 83 = .ok (.iconst 1, 1) := by decide +kernel
theorem dX2_agrees_84 : decode cX2_agrees 84 = .ok (.isub, 1) := by decide +kernel
theorem dX2_agrees_85 : decode cX2_agrees 85 = .ok (.iload 5, 2) := by decide +kernel
theorem dX2_agrees_87 : decode cX2_agrees 87 = .ok (.invokestatic 145, 3) := by decide +kernel
theorem dX2_agrees_90 : decode cX2_agrees 90 = .ok (.aload_n 0, 1) := by decide +kernel
theorem dX2_agrees_91 : decode cX2_agrees 91 = .ok (.getfield 12, 3) := by decide +kernel
theorem dX2_agrees_94 : decode cX2_agrees 94 = .ok (.aload_n 2, 1) := by decide +kernel
theorem dX2_agrees_95 : decode cX2_agrees 95 = .ok (.invokevirtual 79, 3) := by decide +kernel
theorem dX2_agrees_98 : decode cX2_agrees 98 = .ok (.iinc 4 1, 3) := by decide +kernel
theorem dX2_agrees_101 : decode cX2_agrees 101 = .ok (.goto (-76), 3) := by decide +kernel
theorem dX2_agrees_104 : decode cX2_agrees 104 = .ok (.iconst 1, 1) := by decide +kernel
theorem dX2_agrees_105 : decode cX2_agrees 105 = .ok (.ireturn, 1) := by decide +kernel
theorem dX2_findOthers_0 : decode cX2_findOthers 0 = .ok (.aload_n 0, 1) := by decide +kernel
theorem dX2_findOthers_1 : decode cX2_findOthers 1 = .ok (.iconst 0, 1) := by decide +kernel
theorem dX2_findOthers_2 : decode cX2_findOthers 2 = .ok (.putfield 149, 3) := by decide +kernel
theorem dX2_findOthers_5 : decode cX2_findOthers 5 = .ok (.aload_n 0, 1) := by decide +kernel
theorem dX2_findOthers_6 : decode cX2_findOthers 6 = .ok (.bipush 100, 2) := by decide +kernel
theorem dX2_findOthers_8 : decode cX2_findOthers 8 = .ok (.putfield 152, 3) := by decide +kernel
theorem dX2_findOthers_11 : decode cX2_findOthers 11 = .ok (.aload_n 0, 1) := by decide +kernel
theorem dX2_findOthers_12 : decode cX2_findOthers 12 = .ok (.getfield 22, 3) := by decide +kernel
theorem dX2_findOthers_15 : decode cX2_findOthers 15 = .ok (.iconst 0, 1) := by decide +kernel
theorem dX2_findOthers_16 : decode cX2_findOthers 16 = .ok (.invokestatic 155, 3) := by decide +kernel
theorem dX2_findOthers_19 : decode cX2_findOthers 19 = .ok (.aload_n 0, 1) := by decide +kernel
theorem dX2_findOthers_20 : decode cX2_findOthers 20 = .ok (.getfield 25, 3) := by decide +kernel
theorem dX2_findOthers_23 : decode cX2_findOthers 23 = .ok (.iconst 0, 1) := by decide +kernel
theorem dX2_findOthers_24 : decode cX2_findOthers 24 = .ok (.invokestatic 155, 3) := by decide +kernel
theorem dX2_findOthers_27 : decode cX2_findOthers 27 = .ok (.bipush (-99), 2) := by decide +kernel
theorem dX2_findOthers_29 : decode cX2_findOthers 29 = .ok (.istore_n 3, 1) := by decide +kernel
theorem dX2_findOthers_30 : decode cX2_findOthers 30 = .ok (.iload_n 3, 1) := by decide +kernel
theorem dX2_findOthers_31 : decode cX2_findOthers 31 = .ok (.bipush 99, 2) := by decide +kernel
theorem dX2_findOthers_33 : decode cX2_findOthers 33 = .ok (.if_icmp .gt 62, 3) := by decide +kernel
theorem dX2_findOthers_36 : decode cX2_findOthers 36 = .ok (.iload_n 3, 1) := by decide +kernel
theorem dX2_findOthers_37 : decode cX2_findOthers 37 = .ok (.aload_n 1, 1) := by decide +kernel
theorem dX2_findOthers_38 : decode cX2_findOthers 38 = .ok (.getfield 127, 3) := by decide +kernel
theorem dX2_findOthers_41 : decode cX2_findOthers 41 = .ok (.getfield 132, 3) := by decide +kernel
theorem dX2_findOthers_44 : decode cX2_findOthers 44 = .ok (.getfield 136, 3) := by decide +kernel
theorem dX2_findOthers_47 : decode cX2_findOthers 47 = .ok (.if_icmp .eq 42, 3) := by decide +kernel
theorem dX2_findOthers_50 : decode cX2_findOthers 50 = .ok (.aload_n 0, 1) := by decide +kernel
theorem dX2_findOthers_51 : decode cX2_findOthers 51 = .ok (.aload_n 1, 1) := by decide +kernel
theorem dX2_findOthers_52 : decode cX2_findOthers 52 = .ok (.aload_n 2, 1) := by decide +kernel
theorem dX2_findOthers_53 : decode cX2_findOthers 53 = .ok (.iload_n 3, 1) := by decide +kernel
theorem dX2_findOthers_54 : decode cX2_findOthers 54 = .ok (.invokevirtual 161, 3) := by decide +kernel
theorem dX2_findOthers_57 : decode cX2_findOthers 57 = .ok (.ifCond .ne 6, 3) := by decide +kernel
theorem dX2_findOthers_60 : decode cX2_findOthers 60 = .ok (.goto 29, 3) := by decide +kernel
theorem dX2_findOthers_63 : decode cX2_findOthers 63 = .ok (.aload_n 0, 1) := by decide +kernel
theorem dX2_findOthers_64 : decode cX2_findOthers 64 = .ok (.dup, 1) := by decide +kernel
theorem dX2_findOthers_65 : decode cX2_findOthers 65 = .ok (.getfield 149, 3) := by decide +kernel
theorem dX2_findOthers_68 : decode cX2_findOthers 68 = .ok (.iconst 1, 1) := by decide +kernel
theorem dX2_findOthers_69 : decode cX2_findOthers 69 = .ok (.iadd, 1) := by decide +kernel
theorem dX2_findOthers_70 : decode cX2_findOthers 70 = .ok (.putfield 149, 3) := by decide +kernel
theorem dX2_findOthers_73 : decode cX2_findOthers 73 = .ok (.aload_n 0, 1) := by decide +kernel
theorem dX2_findOthers_74 : decode cX2_findOthers 74 = .ok (.aload_n 0, 1) := by decide +kernel
theorem dX2_findOthers_75 : decode cX2_findOthers 75 = .ok (.getfield 152, 3) := by decide +kernel
theorem dX2_findOthers_78 : decode cX2_findOthers 78 = .ok (.iload_n 3, 1) := by decide +kernel
theorem dX2_findOthers_79 : decode cX2_findOthers 79 = .ok (.invokestatic 165, 3) := by decide +kernel
theorem dX2_findOthers_82 : decode cX2_findOthers 82 = .ok (.putfield 152, 3) := by decide +kernel
theorem dX2_findOthers_85 : decode cX2_findOthers 85 = .ok (.aload_n 0, 1) := by decide +kernel
theorem dX2_findOthers_86 : decode cX2_findOthers 86 = .ok (.invokevirtual 168, 3) := by decide +kernel
theorem dX2_findOthers_89 : decode cX2_findOthers 89 = .ok (.iinc 3 1, 3) := by decide +kernel
theorem dX2_findOthers_92 : decode cX2_findOthers 92 = .ok (.goto (-62), 3) := by decide +kernel
theorem dX2_findOthers_95 : decode cX2_findOthers 95 = .ok (.return_, 1) := by decide +kernel
theorem dX2_seeLooks_0 : decode cX2_seeLooks 0 = .ok (.iconst 0, 1) := by decide +kernel
theorem dX2_seeLooks_1 : decode cX2_seeLooks 1 = .ok (.istore_n 1, 1) := by decide +kernel
theorem dX2_seeLooks_2 : decode cX2_seeLooks 2 = .ok (.iload_n 1, 1) := by decide +kernel
theorem dX2_seeLooks_3 : decode cX2_seeLooks 3 = .ok (.iconst 5, 1) := by decide +kernel
theorem dX2_seeLooks_4 : decode cX2_seeLooks 4 = .ok (.if_icmp .ge 62, 3) := by decide +kernel
theorem dX2_seeLooks_7 : decode cX2_seeLooks 7 = .ok (.iload_n 1, 1) := by decide +kernel
theorem dX2_seeLooks_8 : decode cX2_seeLooks 8 = .ok (.sipush 129, 3) := by decide +kernel
theorem dX2_seeLooks_11 : decode cX2_seeLooks 11 = .ok (.imul, 1) := by decide +kernel
theorem dX2_seeLooks_12 : decode cX2_seeLooks 12 = .ok (.aload_n 0, 1) := by decide +kernel
theorem dX2_seeLooks_13 : decode cX2_seeLooks 13 = .ok (.getfield 18, 3) := by decide +kernel
theorem dX2_seeLooks_16 : decode cX2_seeLooks 16 = .ok (.iload_n 1, 1) := by decide +kernel
theorem dX2_seeLooks_17 : decode cX2_seeLooks 17 = .ok (.invokestatic 171, 3) := by decide +kernel
theorem dX2_seeLooks_20 : decode cX2_seeLooks 20 = .ok (.iadd, 1) := by decide +kernel
theorem dX2_seeLooks_21 : decode cX2_seeLooks 21 = .ok (.istore_n 2, 1) := by decide +kernel
theorem dX2_seeLooks_22 : decode cX2_seeLooks 22 = .ok (.aload_n 0, 1) := by decide +kernel
theorem dX2_seeLooks_23 : decode cX2_seeLooks 23 = .ok (.getfield 25, 3) := by decide +kernel
theorem dX2_seeLooks_26 : decode cX2_seeLooks 26 = .ok (.iload_n 2, 1) := by decide +kernel
theorem dX2_seeLooks_27 : decode cX2_seeLooks 27 = .ok (.invokestatic 171, 3) := by decide +kernel
theorem dX2_seeLooks_30 : decode cX2_seeLooks 30 = .ok (.ifCond .ne 30, 3) := by decide +kernel
theorem dX2_seeLooks_33 : decode cX2_seeLooks 33 = .ok (.aload_n 0, 1) := by decide +kernel
theorem dX2_seeLooks_34 : decode cX2_seeLooks 34 = .ok (.getfield 25, 3) := by decide +kernel
theorem dX2_seeLooks_37 : decode cX2_seeLooks 37 = .ok (.iload_n 2, 1) := by decide +kernel
theorem dX2_seeLooks_38 : decode cX2_seeLooks 38 = .ok (.iconst 1, 1) := by decide +kernel
theorem dX2_seeLooks_39 : decode cX2_seeLooks 39 = .ok (.invokestatic 145, 3) := by decide +kernel
theorem dX2_seeLooks_42 : decode cX2_seeLooks 42 = .ok (.aload_n 0, 1) := by decide +kernel
theorem dX2_seeLooks_43 : decode cX2_seeLooks 43 = .ok (.getfield 22, 3) := by decide +kernel
theorem dX2_seeLooks_46 : decode cX2_seeLooks 46 = .ok (.iload_n 1, 1) := by decide +kernel
theorem dX2_seeLooks_47 : decode cX2_seeLooks 47 = .ok (.aload_n 0, 1) := by decide +kernel
theorem dX2_seeLooks_48 : decode cX2_seeLooks 48 = .ok (.getfield 22, 3) := by decide +kernel
theorem dX2_seeLooks_51 : decode cX2_seeLooks 51 = .ok (.iload_n 1, 1) := by decide +kernel
theorem dX2_seeLooks_52 : decode cX2_seeLooks 52 = .ok (.invokestatic 171, 3) := by decide +kernel
theorem dX2_seeLooks_55 : decode cX2_seeLooks 55 = .ok (.iconst 1, 1) := by decide +kernel
theorem dX2_seeLooks_56 : decode cX2_seeLooks 56 = .ok (.iadd, 1) := by decide +kernel
theorem dX2_seeLooks_57 : decode cX2_seeLooks 57 = .ok (.invokestatic 145, 3) := by decide +kernel
theorem dX2_seeLooks_60 : decode cX2_seeLooks 60 = .ok (.iinc 1 1, 3) := by decide +kernel
theorem dX2_seeLooks_63 : decode cX2_seeLooks 63 = .ok (.goto (-61), 3) := by decide +kernel
theorem dX2_seeLooks_66 : decode cX2_seeLooks 66 = .ok (.return_, 1) := by decide +kernel
theorem dX2_findLook_0 : decode cX2_findLook 0 = .ok (.aload_n 0, 1) := by decide +kernel
theorem dX2_findLook_1 : decode cX2_findLook 1 = .ok (.iconst (-1), 1) := by decide +kernel
theorem dX2_findLook_2 : decode cX2_findLook 2 = .ok (.putfield 103, 3) := by decide +kernel
theorem dX2_findLook_5 : decode cX2_findLook 5 = .ok (.aload_n 0, 1) := by decide +kernel
theorem dX2_findLook_6 : decode cX2_findLook 6 = .ok (.iconst 0, 1) := by decide +kernel
theorem dX2_findLook_7 : decode cX2_findLook 7 = .ok (.putfield 106, 3) := by decide +kernel
theorem dX2_findLook_10 : decode cX2_findLook 10 = .ok (.iconst 0, 1) := by decide +kernel
theorem dX2_findLook_11 : decode cX2_findLook 11 = .ok (.istore_n 1, 1) := by decide +kernel
theorem dX2_findLook_12 : decode cX2_findLook 12 = .ok (.iload_n 1, 1) := by decide +kernel
theorem dX2_findLook_13 : decode cX2_findLook 13 = .ok (.iconst 5, 1) := by decide +kernel
theorem dX2_findLook_14 : decode cX2_findLook 14 = .ok (.if_icmp .ge 46, 3) := by decide +kernel
theorem dX2_findLook_17 : decode cX2_findLook 17 = .ok (.aload_n 0, 1) := by decide +kernel
theorem dX2_findLook_18 : decode cX2_findLook 18 = .ok (.getfield 22, 3) := by decide +kernel
theorem dX2_findLook_21 : decode cX2_findLook 21 = .ok (.iload_n 1, 1) := by decide +kernel
theorem dX2_findLook_22 : decode cX2_findLook 22 = .ok (.invokestatic 171, 3) := by decide +kernel
theorem dX2_findLook_25 : decode cX2_findLook 25 = .ok (.aload_n 0, 1) := by decide +kernel
theorem dX2_findLook_26 : decode cX2_findLook 26 = .ok (.getfield 106, 3) := by decide +kernel
theorem dX2_findLook_29 : decode cX2_findLook 29 = .ok (.if_icmp .le 25, 3) := by decide +kernel
theorem dX2_findLook_32 : decode cX2_findLook 32 = .ok (.aload_n 0, 1) := by decide +kernel
theorem dX2_findLook_33 : decode cX2_findLook 33 = .ok (.bipush 10, 2) := by decide +kernel
theorem dX2_findLook_35 : decode cX2_findLook 35 = .ok (.iload_n 1, 1) := by decide +kernel
theorem dX2_findLook_36 : decode cX2_findLook 36 = .ok (.iconst 1, 1) := by decide +kernel
theorem dX2_findLook_37 : decode cX2_findLook 37 = .ok (.iadd, 1) := by decide +kernel
theorem dX2_findLook_38 : decode cX2_findLook 38 = .ok (.imul, 1) := by decide +kernel
theorem dX2_findLook_39 : decode cX2_findLook 39 = .ok (.putfield 103, 3) := by decide +kernel
theorem dX2_findLook_42 : decode cX2_findLook 42 = .ok (.aload_n 0, 1) := by decide +kernel
theorem dX2_findLook_43 : decode cX2_findLook 43 = .ok (.aload_n 0, 1) := by decide +kernel
theorem dX2_findLook_44 : decode cX2_findLook 44 = .ok (.getfield 22, 3) := by decide +kernel
theorem dX2_findLook_47 : decode cX2_findLook 47 = .ok (.iload_n 1, 1) := by decide +kernel
theorem dX2_findLook_48 : decode cX2_findLook 48 = .ok (.invokestatic 171, 3) := by decide +kernel
theorem dX2_findLook_51 : decode cX2_findLook 51 = .ok (.putfield 106, 3) := by decide +kernel
theorem dX2_findLook_54 : decode cX2_findLook 54 = .ok (.iinc 1 1, 3) := by decide +kernel
theorem dX2_findLook_57 : decode cX2_findLook 57 = .ok (.goto (-45), 3) := by decide +kernel
theorem dX2_findLook_60 : decode cX2_findLook 60 = .ok (.return_, 1) := by decide +kernel
theorem dX2_unharmed_0 : decode cX2_unharmed 0 = .ok (.iconst 0, 1) := by decide +kernel
theorem dX2_unharmed_1 : decode cX2_unharmed 1 = .ok (.istore 5, 2) := by decide +kernel
theorem dX2_unharmed_3 : decode cX2_unharmed 3 = .ok (.iconst 0, 1) := by decide +kernel
theorem dX2_unharmed_4 : decode cX2_unharmed 4 = .ok (.istore 6, 2) := by decide +kernel
theorem dX2_unharmed_6 : decode cX2_unharmed 6 = .ok (.iload 6, 2) := by decide +kernel
theorem dX2_unharmed_8 : decode cX2_unharmed 8 = .ok (.iconst 1, 1) := by decide +kernel
theorem dX2_unharmed_9 : decode cX2_unharmed 9 = .ok (.iload_n 3, 1) := by decide +kernel
theorem dX2_unharmed_10 : decode cX2_unharmed 10 = .ok (.ishl, 1) := by decide +kernel
theorem dX2_unharmed_11 : decode cX2_unharmed 11 = .ok (.if_icmp .ge 43, 3) := by decide +kernel
theorem dX2_unharmed_14 : decode cX2_unharmed 14 = .ok (.iload 6, 2) := by decide +kernel
theorem dX2_unharmed_16 : decode cX2_unharmed 16 = .ok (.iload_n 3, 1) := by decide +kernel
theorem dX2_unharmed_17 : decode cX2_unharmed 17 = .ok (.iload 4, 2) := by decide +kernel
theorem dX2_unharmed_19 : decode cX2_unharmed 19 = .ok (.invokestatic 175, 3) := by decide +kernel
theorem dX2_unharmed_22 : decode cX2_unharmed 22 = .ok (.istore 7, 2) := by decide +kernel
theorem dX2_unharmed_24 : decode cX2_unharmed 24 = .ok (.iload 7, 2) := by decide +kernel
theorem dX2_unharmed_26 : decode cX2_unharmed 26 = .ok (.ifCond .le 22, 3) := by decide +kernel
theorem dX2_unharmed_29 : decode cX2_unharmed 29 = .ok (.aload_n 0, 1) := by decide +kernel
theorem dX2_unharmed_30 : decode cX2_unharmed 30 = .ok (.aload_n 1, 1) := by decide +kernel
theorem dX2_unharmed_31 : decode cX2_unharmed 31 = .ok (.aload_n 2, 1) := by decide +kernel
theorem dX2_unharmed_32 : decode cX2_unharmed 32 = .ok (.iload_n 3, 1) := by decide +kernel
theorem dX2_unharmed_33 : decode cX2_unharmed 33 = .ok (.iload 6, 2) := by decide +kernel
theorem dX2_unharmed_35 : decode cX2_unharmed 35 = .ok (.invokevirtual 179, 3) := by decide +kernel
theorem dX2_unharmed_38 : decode cX2_unharmed 38 = .ok (.ifCond .eq 10, 3) := by decide +kernel
theorem dX2_unharmed_41 : decode cX2_unharmed 41 = .ok (.iload 5, 2) := by decide +kernel
theorem dX2_unharmed_43 : decode cX2_unharmed 43 = .ok (.iload 7, 2) := by decide +kernel
theorem dX2_unharmed_45 : decode cX2_unharmed 45 = .ok (.iadd, 1) := by decide +kernel
theorem dX2_unharmed_46 : decode cX2_unharmed 46 = .ok (.istore 5, 2) := by decide +kernel
theorem dX2_unharmed_48 : decode cX2_unharmed 48 = .ok (.iinc 6 1, 3) := by decide +kernel
theorem dX2_unharmed_51 : decode cX2_unharmed 51 = .ok (.goto (-45), 3) := by decide +kernel
theorem dX2_unharmed_54 : decode cX2_unharmed 54 = .ok (.iload 5, 2) := by decide +kernel
theorem dX2_unharmed_56 : decode cX2_unharmed 56 = .ok (.ireturn, 1) := by decide +kernel
theorem dX2_weightOf_0 : decode cX2_weightOf 0 = .ok (.iconst 1, 1) := by decide +kernel
theorem dX2_weightOf_1 : decode cX2_weightOf 1 = .ok (.istore_n 3, 1) := by decide +kernel
theorem dX2_weightOf_2 : decode cX2_weightOf 2 = .ok (.iconst 0, 1) := by decide +kernel
theorem dX2_weightOf_3 : decode cX2_weightOf 3 = .ok (.istore 4, 2) := by decide +kernel
theorem dX2_weightOf_5 : decode cX2_weightOf 5 = .ok (.iload 4, 2) := by decide +kernel
theorem dX2_weightOf_7 : decode cX2_weightOf 7 = .ok (.iload_n 1, 1) := by decide +kernel
theorem dX2_weightOf_8 : decode cX2_weightOf 8 = .ok (.if_icmp .ge 29, 3) := by decide +kernel
theorem dX2_weightOf_11 : decode cX2_weightOf 11 = .ok (.iload_n 3, 1) := by decide +kernel
theorem dX2_weightOf_12 : decode cX2_weightOf 12 = .ok (.iload_n 0, 1) := by decide +kernel
theorem dX2_weightOf_13 : decode cX2_weightOf 13 = .ok (.iload 4, 2) := by decide +kernel
theorem dX2_weightOf_15 : decode cX2_weightOf 15 = .ok (.ishr, 1) := by decide +kernel
theorem dX2_weightOf_16 : decode cX2_weightOf 16 = .ok (.iconst 1, 1) := by decide +kernel
theorem dX2_weightOf_17 : decode cX2_weightOf 17 = .ok (.iand, 1) := by decide +kernel
theorem dX2_weightOf_18 : decode cX2_weightOf 18 = .ok (.ifCond .eq 7, 3) := by decide +kernel
theorem dX2_weightOf_21 : decode cX2_weightOf 21 = .ok (.iload_n 2, 1) := by decide +kernel
theorem dX2_weightOf_22 : decode cX2_weightOf 22 = .ok (.goto 7, 3) := by decide +kernel
theorem dX2_weightOf_25 : decode cX2_weightOf 25 = .ok (.bipush 10, 2) := by decide +kernel
theorem dX2_weightOf_27 : decode cX2_weightOf 27 = .ok (.iload_n 2, 1) := by decide +kernel
theorem dX2_weightOf_28 : decode cX2_weightOf 28 = .ok (.isub, 1) := by decide +kernel
theorem dX2_weightOf_29 : decode cX2_weightOf 29 = .ok (.imul, 1) := by decide +kernel
theorem dX2_weightOf_30 : decode cX2_weightOf 30 = .ok (.istore_n 3, 1) := by decide +kernel
theorem dX2_weightOf_31 : decode cX2_weightOf 31 = .ok (.iinc 4 1, 3) := by decide +kernel
theorem dX2_weightOf_34 : decode cX2_weightOf 34 = .ok (.goto (-29), 3) := by decide +kernel
theorem dX2_weightOf_37 : decode cX2_weightOf 37 = .ok (.iload_n 3, 1) := by decide +kernel
theorem dX2_weightOf_38 : decode cX2_weightOf 38 = .ok (.ireturn, 1) := by decide +kernel
theorem dX2_isUnharmed_0 : decode cX2_isUnharmed 0 = .ok (.aload_n 0, 1) := by decide +kernel
theorem dX2_isUnharmed_1 : decode cX2_isUnharmed 1 = .ok (.getfield 12, 3) := by decide +kernel
theorem dX2_isUnharmed_4 : decode cX2_isUnharmed 4 = .ok (.aload_n 1, 1) := by decide +kernel
theorem dX2_isUnharmed_5 : decode cX2_isUnharmed 5 = .ok (.invokevirtual 28, 3) := by decide +kernel
theorem dX2_isUnharmed_8 : decode cX2_isUnharmed 8 = .ok (.aload_n 0, 1) := by decide +kernel
theorem dX2_isUnharmed_9 : decode cX2_isUnharmed 9 = .ok (.getfield 12, 3) := by decide +kernel
theorem dX2_isUnharmed_12 : decode cX2_isUnharmed 12 = .ok (.getfield 132, 3) := by decide +kernel
theorem dX2_isUnharmed_15 : decode cX2_isUnharmed 15 = .ok (.iload_n 3, 1) := by decide +kernel
theorem dX2_isUnharmed_16 : decode cX2_isUnharmed 16 = .ok (.putfield 183, 3) := by decide +kernel
theorem dX2_isUnharmed_19 : decode cX2_isUnharmed 19 = .ok (.aload_n 0, 1) := by decide +kernel
theorem dX2_isUnharmed_20 : decode cX2_isUnharmed 20 = .ok (.getfield 12, 3) := by decide +kernel
theorem dX2_isUnharmed_23 : decode cX2_isUnharmed 23 = .ok (.getfield 132, 3) := by decide +kernel
theorem dX2_isUnharmed_26 : decode cX2_isUnharmed 26 = .ok (.iload 4, 2) := by decide +kernel
theorem dX2_isUnharmed_28 : decode cX2_isUnharmed 28 = .ok (.putfield 186, 3) := by decide +kernel
theorem dX2_isUnharmed_31 : decode cX2_isUnharmed 31 = .ok (.iconst 0, 1) := by decide +kernel
theorem dX2_isUnharmed_32 : decode cX2_isUnharmed 32 = .ok (.istore 5, 2) := by decide +kernel
theorem dX2_isUnharmed_34 : decode cX2_isUnharmed 34 = .ok (.iload 5, 2) := by decide +kernel
theorem dX2_isUnharmed_36 : decode cX2_isUnharmed 36 = .ok (.bipush 80, 2) := by decide +kernel
theorem dX2_isUnharmed_38 : decode cX2_isUnharmed 38 = .ok (.if_icmp .ge 45, 3) := by decide +kernel
theorem dX2_isUnharmed_41 : decode cX2_isUnharmed 41 = .ok (.aload_n 0, 1) := by decide +kernel
theorem dX2_isUnharmed_42 : decode cX2_isUnharmed 42 = .ok (.getfield 12, 3) := by decide +kernel
theorem dX2_isUnharmed_45 : decode cX2_isUnharmed 45 = .ok (.aload_n 2, 1) := by decide +kernel
theorem dX2_isUnharmed_46 : decode cX2_isUnharmed 46 = .ok (.invokevirtual 79, 3) := by decide +kernel
theorem dX2_isUnharmed_49 : decode cX2_isUnharmed 49 = .ok (.aload_n 0, 1) := by decide +kernel
theorem dX2_isUnharmed_50 : decode cX2_isUnharmed 50 = .ok (.getfield 12, 3) := by decide +kernel
theorem dX2_isUnharmed_53 : decode cX2_isUnharmed 53 = .ok (.getfield 36, 3) := by decide +kernel
theorem dX2_isUnharmed_56 : decode cX2_isUnharmed 56 = .ok (.getfield 58, 3) := by decide +kernel
theorem dX2_isUnharmed_59 : decode cX2_isUnharmed 59 = .ok (.getfield 67, 3) := by decide +kernel
theorem dX2_isUnharmed_62 : decode cX2_isUnharmed 62 = .ok (.aload_n 1, 1) := by decide +kernel
theorem dX2_isUnharmed_63 : decode cX2_isUnharmed 63 = .ok (.getfield 36, 3) := by decide +kernel
theorem dX2_isUnharmed_66 : decode cX2_isUnharmed 66 = .ok (.getfield 58, 3) := by decide +kernel
theorem dX2_isUnharmed_69 : decode cX2_isUnharmed 69 = .ok (.getfield 67, 3) := by decide +kernel
theorem dX2_isUnharmed_72 : decode cX2_isUnharmed 72 = .ok (.if_icmp .eq 5, 3) := by decide +kernel
theorem dX2_isUnharmed_75 : decode cX2_isUnharmed 75 = .ok (.iconst 0, 1) := by decide +kernel
theorem dX2_isUnharmed_76 : decode cX2_isUnharmed 76 = .ok (.ireturn, 1) := by decide +kernel
theorem dX2_isUnharmed_77 : decode cX2_isUnharmed 77 = .ok (.iinc 5 1, 3) := by decide +kernel
theorem dX2_isUnharmed_80 : decode cX2_isUnharmed 80 = .ok (.goto (-46), 3) := by decide +kernel
theorem dX2_isUnharmed_83 : decode cX2_isUnharmed 83 = .ok (.iconst 1, 1) := by decide +kernel
theorem dX2_isUnharmed_84 : decode cX2_isUnharmed 84 = .ok (.ireturn, 1) := by decide +kernel
theorem dX2_byChance_0 : decode cX2_byChance 0 = .ok (.aload_n 0, 1) := by decide +kernel
theorem dX2_byChance_1 : decode cX2_byChance 1 = .ok (.getfield 12, 3) := by decide +kernel
theorem dX2_byChance_4 : decode cX2_byChance 4 = .ok (.aload_n 1, 1) := by decide +kernel
theorem dX2_byChance_5 : decode cX2_byChance 5 = .ok (.invokevirtual 28, 3) := by decide +kernel
theorem dX2_byChance_8 : decode cX2_byChance 8 = .ok (.aload_n 0, 1) := by decide +kernel
theorem dX2_byChance_9 : decode cX2_byChance 9 = .ok (.iload_n 3, 1) := by decide +kernel
theorem dX2_byChance_10 : decode cX2_byChance 10 = .ok (.putfield 189, 3) := by decide +kernel
theorem dX2_byChance_13 : decode cX2_byChance 13 = .ok (.iconst 0, 1) := by decide +kernel
theorem dX2_byChance_14 : decode cX2_byChance 14 = .ok (.istore 6, 2) := by decide +kernel
theorem dX2_byChance_16 : decode cX2_byChance 16 = .ok (.iconst 0, 1) := by decide +kernel
theorem dX2_byChance_17 : decode cX2_byChance 17 = .ok (.istore 7, 2) := by decide +kernel
theorem dX2_byChance_19 : decode cX2_byChance 19 = .ok (.iload 7, 2) := by decide +kernel
theorem dX2_byChance_21 : decode cX2_byChance 21 = .ok (.iload 4, 2) := by decide +kernel
theorem dX2_byChance_23 : decode cX2_byChance 23 = .ok (.if_icmp .ge 50, 3) := by decide +kernel
theorem dX2_byChance_26 : decode cX2_byChance 26 = .ok (.aload_n 0, 1) := by decide +kernel
theorem dX2_byChance_27 : decode cX2_byChance 27 = .ok (.aload_n 0, 1) := by decide +kernel
theorem dX2_byChance_28 : decode cX2_byChance 28 = .ok (.iconst 5, 1) := by decide +kernel
theorem dX2_byChance_29 : decode cX2_byChance 29 = .ok (.invokevirtual 192, 3) := by decide +kernel
theorem dX2_byChance_32 : decode cX2_byChance 32 = .ok (.invokevirtual 195, 3) := by decide +kernel
theorem dX2_byChance_35 : decode cX2_byChance 35 = .ok (.aload_n 0, 1) := by decide +kernel
theorem dX2_byChance_36 : decode cX2_byChance 36 = .ok (.getfield 12, 3) := by decide +kernel
theorem dX2_byChance_39 : decode cX2_byChance 39 = .ok (.aload_n 2, 1) := by decide +kernel
theorem dX2_byChance_40 : decode cX2_byChance 40 = .ok (.iconst 0, 1) := by decide +kernel
theorem dX2_byChance_41 : decode cX2_byChance 41 = .ok (.bipush 10, 2) := by decide +kernel
theorem dX2_byChance_43 : decode cX2_byChance 43 = .ok (.invokevirtual 32, 3) := by decide +kernel
theorem dX2_byChance_46 : decode cX2_byChance 46 = .ok (.iload 6, 2) := by decide +kernel
theorem dX2_byChance_48 : decode cX2_byChance 48 = .ok (.aload_n 0, 1) := by decide +kernel
theorem dX2_byChance_49 : decode cX2_byChance 49 = .ok (.getfield 12, 3) := by decide +kernel
theorem dX2_byChance_52 : decode cX2_byChance 52 = .ok (.getfield 36, 3) := by decide +kernel
theorem dX2_byChance_55 : decode cX2_byChance 55 = .ok (.aload_n 2, 1) := by decide +kernel
theorem dX2_byChance_56 : decode cX2_byChance 56 = .ok (.getfield 40, 3) := by decide +kernel
theorem dX2_byChance_59 : decode cX2_byChance 59 = .ok (.invokevirtual 46, 3) := by decide +kernel
theorem dX2_byChance_62 : decode cX2_byChance 62 = .ok (.invokestatic 123, 3) := by decide +kernel
theorem dX2_byChance_65 : decode cX2_byChance 65 = .ok (.istore 6, 2) := by decide +kernel
theorem dX2_byChance_67 : decode cX2_byChance 67 = .ok (.iinc 7 1, 3) := by decide +kernel
theorem dX2_byChance_70 : decode cX2_byChance 70 = .ok (.goto (-51), 3) := by decide +kernel
theorem dX2_byChance_73 : decode cX2_byChance 73 = .ok (.iload 5, 2) := by decide +kernel
theorem dX2_byChance_75 : decode cX2_byChance 75 = .ok (.ifCond .ne 28, 3) := by decide +kernel
theorem dX2_byChance_78 : decode cX2_byChance 78 = .ok (.aload_n 0, 1) := by decide +kernel
theorem dX2_byChance_79 : decode cX2_byChance 79 = .ok (.getfield 12, 3) := by decide +kernel
theorem dX2_byChance_82 : decode cX2_byChance 82 = .ok (.getfield 36, 3) := by decide +kernel
theorem dX2_byChance_85 : decode cX2_byChance 85 = .ok (.getfield 58, 3) := by decide +kernel
theorem dX2_byChance_88 : decode cX2_byChance 88 = .ok (.getfield 67, 3) := by decide +kernel
theorem dX2_byChance_91 : decode cX2_byChance 91 = .ok (.aload_n 1, 1) := by decide +kernel
theorem dX2_byChance_92 : decode cX2_byChance 92 = .ok (.getfield 36, 3) := by decide +kernel
theorem dX2_byChance_95 : decode cX2_byChance 95 = .ok (.getfield 58, 3) := by decide +kernel
theorem dX2_byChance_98 : decode cX2_byChance 98 = .ok (.getfield 67, 3) := by decide +kernel
theorem dX2_byChance_101 : decode cX2_byChance 101 = .ok (.isub, 1) := by decide +kernel
theorem dX2_byChance_102 : decode cX2_byChance 102 = .ok (.ireturn, 1) := by decide +kernel
theorem dX2_byChance_103 : decode cX2_byChance 103 = .ok (.iload 5, 2) := by decide +kernel
theorem dX2_byChance_105 : decode cX2_byChance 105 = .ok (.iconst 1, 1) := by decide +kernel
theorem dX2_byChance_106 : decode cX2_byChance 106 = .ok (.if_icmp .ne 24, 3) := by decide +kernel
theorem dX2_byChance_109 : decode cX2_byChance 109 = .ok (.aload_n 0, 1) := by decide +kernel
theorem dX2_byChance_110 : decode cX2_byChance 110 = .ok (.getfield 12, 3) := by decide +kernel
theorem dX2_byChance_113 : decode cX2_byChance 113 = .ok (.getfield 36, 3) := by decide +kernel
theorem dX2_byChance_116 : decode cX2_byChance 116 = .ok (.getfield 89, 3) := by decide +kernel
theorem dX2_byChance_119 : decode cX2_byChance 119 = .ok (.aload_n 1, 1) := by decide +kernel
theorem dX2_byChance_120 : decode cX2_byChance 120 = .ok (.getfield 36, 3) := by decide +kernel
theorem dX2_byChance_123 : decode cX2_byChance 123 = .ok (.getfield 89, 3) := by decide +kernel
theorem dX2_byChance_126 : decode cX2_byChance 126 = .ok (.isub, 1) := by decide +kernel
theorem dX2_byChance_127 : decode cX2_byChance 127 = .ok (.goto 5, 3) := by decide +kernel
theorem dX2_byChance_130 : decode cX2_byChance 130 = .ok (.iload 6, 2) := by decide +kernel
theorem dX2_byChance_132 : decode cX2_byChance 132 = .ok (.ireturn, 1) := by decide +kernel
theorem dX2_happen_0 : decode cX2_happen 0 = .ok (.iload_n 1, 1) := by decide +kernel
theorem dX2_happen_1 : decode cX2_happen 1 = .ok (.ifCond .ne 21, 3) := by decide +kernel
theorem dX2_happen_4 : decode cX2_happen 4 = .ok (.aload_n 0, 1) := by decide +kernel
theorem dX2_happen_5 : decode cX2_happen 5 = .ok (.getfield 12, 3) := by decide +kernel
theorem dX2_happen_8 : decode cX2_happen 8 = .ok (.getfield 132, 3) := by decide +kernel
theorem dX2_happen_11 : decode cX2_happen 11 = .ok (.aload_n 0, 1) := by decide +kernel
theorem dX2_happen_12 : decode cX2_happen 12 = .ok (.iconst 4, 1) := by decide +kernel
theorem dX2_happen_13 : decode cX2_happen 13 = .ok (.invokevirtual 192, 3) := by decide +kernel
theorem dX2_happen_16 : decode cX2_happen 16 = .ok (.putfield 199, 3) := by decide +kernel
theorem dX2_happen_19 : decode cX2_happen 19 = .ok (.goto 51, 3) := by decide +kernel
theorem dX2_happen_22 : decode cX2_happen 22 = .ok (.iload_n 1, 1) := by decide +kernel
theorem dX2_happen_23 : decode cX2_happen 23 = .ok (.iconst 1, 1) := by decide +kernel
theorem dX2_happen_24 : decode cX2_happen 24 = .ok (.if_icmp .ne 22, 3) := by decide +kernel
theorem dX2_happen_27 : decode cX2_happen 27 = .ok (.aload_n 0, 1) := by decide +kernel
theorem dX2_happen_28 : decode cX2_happen 28 = .ok (.getfield 12, 3) := by decide +kernel
theorem dX2_happen_31 : decode cX2_happen 31 = .ok (.getfield 132, 3) := by decide +kernel
theorem dX2_happen_34 : decode cX2_happen 34 = .ok (.aload_n 0, 1) := by decide +kernel
theorem dX2_happen_35 : decode cX2_happen 35 = .ok (.bipush 12, 2) := by decide +kernel
theorem dX2_happen_37 : decode cX2_happen 37 = .ok (.invokevirtual 192, 3) := by decide +kernel
theorem dX2_happen_40 : decode cX2_happen 40 = .ok (.putfield 202, 3) := by decide +kernel
theorem dX2_happen_43 : decode cX2_happen 43 = .ok (.goto 27, 3) := by decide +kernel
theorem dX2_happen_46 : decode cX2_happen 46 = .ok (.iload_n 1, 1) := by decide +kernel
theorem dX2_happen_47 : decode cX2_happen 47 = .ok (.iconst 2, 1) := by decide +kernel
theorem dX2_happen_48 : decode cX2_happen 48 = .ok (.if_icmp .ne 22, 3) := by decide +kernel
theorem dX2_happen_51 : decode cX2_happen 51 = .ok (.aload_n 0, 1) := by decide +kernel
theorem dX2_happen_52 : decode cX2_happen 52 = .ok (.getfield 12, 3) := by decide +kernel
theorem dX2_happen_55 : decode cX2_happen 55 = .ok (.getfield 132, 3) := by decide +kernel
theorem dX2_happen_58 : decode cX2_happen 58 = .ok (.aload_n 0, 1) := by decide +kernel
theorem dX2_happen_59 : decode cX2_happen 59 = .ok (.bipush 41, 2) := by decide +kernel
theorem dX2_happen_61 : decode cX2_happen 61 = .ok (.invokevirtual 192, 3) := by decide +kernel
theorem dX2_happen_64 : decode cX2_happen 64 = .ok (.bipush 20, 2) := by decide +kernel
theorem dX2_happen_66 : decode cX2_happen 66 = .ok (.isub, 1) := by decide +kernel
theorem dX2_happen_67 : decode cX2_happen 67 = .ok (.putfield 136, 3) := by decide +kernel
theorem dX2_happen_70 : decode cX2_happen 70 = .ok (.return_, 1) := by decide +kernel
theorem dX2_draw_0 : decode cX2_draw 0 = .ok (.aload_n 0, 1) := by decide +kernel
theorem dX2_draw_1 : decode cX2_draw 1 = .ok (.aload_n 0, 1) := by decide +kernel
theorem dX2_draw_2 : decode cX2_draw 2 = .ok (.getfield 189, 3) := by decide +kernel
theorem dX2_draw_5 : decode cX2_draw 5 = .ok (.ldc 205, 2) := by decide +kernel
theorem dX2_draw_7 : decode cX2_draw 7 = .ok (.imul, 1) := by decide +kernel
theorem dX2_draw_8 : decode cX2_draw 8 = .ok (.sipush 12345, 3) := by decide +kernel
theorem dX2_draw_11 : decode cX2_draw 11 = .ok (.iadd, 1) := by decide +kernel
theorem dX2_draw_12 : decode cX2_draw 12 = .ok (.putfield 189, 3) := by decide +kernel
theorem dX2_draw_15 : decode cX2_draw 15 = .ok (.aload_n 0, 1) := by decide +kernel
theorem dX2_draw_16 : decode cX2_draw 16 = .ok (.getfield 189, 3) := by decide +kernel
theorem dX2_draw_19 : decode cX2_draw 19 = .ok (.bipush 16, 2) := by decide +kernel
theorem dX2_draw_21 : decode cX2_draw 21 = .ok (.ishr, 1) := by decide +kernel
theorem dX2_draw_22 : decode cX2_draw 22 = .ok (.sipush 32767, 3) := by decide +kernel
theorem dX2_draw_25 : decode cX2_draw 25 = .ok (.iand, 1) := by decide +kernel
theorem dX2_draw_26 : decode cX2_draw 26 = .ok (.iload_n 1, 1) := by decide +kernel
theorem dX2_draw_27 : decode cX2_draw 27 = .ok (.invokestatic 206, 3) := by decide +kernel
theorem dX2_draw_30 : decode cX2_draw 30 = .ok (.ireturn, 1) := by decide +kernel
theorem dX6_init_0 : decode cX6_init 0 = .ok (.aload_n 0, 1) := by decide +kernel
theorem dX6_init_1 : decode cX6_init 1 = .ok (.invokespecial 3, 3) := by decide +kernel
theorem dX6_init_4 : decode cX6_init 4 = .ok (.aload_n 0, 1) := by decide +kernel
theorem dX6_init_5 : decode cX6_init 5 = .ok (.sipush 700, 3) := by decide +kernel
theorem dX6_init_8 : decode cX6_init 8 = .ok (.newarray .int, 2) := by decide +kernel
theorem dX6_init_10 : decode cX6_init 10 = .ok (.putfield 9, 3) := by decide +kernel
theorem dX6_init_13 : decode cX6_init 13 = .ok (.aload_n 0, 1) := by decide +kernel
theorem dX6_init_14 : decode cX6_init 14 = .ok (.iconst (-1), 1) := by decide +kernel
theorem dX6_init_15 : decode cX6_init 15 = .ok (.putfield 15, 3) := by decide +kernel
theorem dX6_init_18 : decode cX6_init 18 = .ok (.aload_n 0, 1) := by decide +kernel
theorem dX6_init_19 : decode cX6_init 19 = .ok (.new 19, 3) := by decide +kernel
theorem dX6_init_22 : decode cX6_init 22 = .ok (.dup, 1) := by decide +kernel
theorem dX6_init_23 : decode cX6_init 23 = .ok (.invokespecial 21, 3) := by decide +kernel
theorem dX6_init_26 : decode cX6_init 26 = .ok (.putfield 22, 3) := by decide +kernel
theorem dX6_init_29 : decode cX6_init 29 = .ok (.aload_n 0, 1) := by decide +kernel
theorem dX6_init_30 : decode cX6_init 30 = .ok (.aload_n 0, 1) := by decide +kernel
theorem dX6_init_31 : decode cX6_init 31 = .ok (.getfield 22, 3) := by decide +kernel
theorem dX6_init_34 : decode cX6_init 34 = .ok (.getfield 26, 3) := by decide +kernel
theorem dX6_init_37 : decode cX6_init 37 = .ok (.putfield 30, 3) := by decide +kernel
theorem dX6_init_40 : decode cX6_init 40 = .ok (.return_, 1) := by decide +kernel
theorem dX6_addBytes_0 : decode cX6_addBytes 0 = .ok (.bipush 24, 2) := by decide +kernel
theorem dX6_addBytes_2 : decode cX6_addBytes 2 = .ok (.istore_n 2, 1) := by decide +kernel
theorem dX6_addBytes_3 : decode cX6_addBytes 3 = .ok (.iload_n 2, 1) := by decide +kernel
theorem dX6_addBytes_4 : decode cX6_addBytes 4 = .ok (.ifCond .lt 37, 3) := by decide +kernel
theorem dX6_addBytes_7 : decode cX6_addBytes 7 = .ok (.aload_n 0, 1) := by decide +kernel
theorem dX6_addBytes_8 : decode cX6_addBytes 8 = .ok (.getfield 9, 3) := by decide +kernel
theorem dX6_addBytes_11 : decode cX6_addBytes 11 = .ok (.aload_n 0, 1) := by decide +kernel
theorem dX6_addBytes_12 : decode cX6_addBytes 12 = .ok (.getfield 33, 3) := by decide +kernel
theorem dX6_addBytes_15 : decode cX6_addBytes 15 = .ok (.iload_n 1, 1) := by decide +kernel
theorem dX6_addBytes_16 : decode cX6_addBytes 16 = .ok (.iload_n 2, 1) := by decide +kernel
theorem dX6_addBytes_17 : decode cX6_addBytes 17 = .ok (.iushr, 1) := by decide +kernel
theorem dX6_addBytes_18 : decode cX6_addBytes 18 = .ok (.sipush 255, 3) := by decide +kernel
theorem dX6_addBytes_21 : decode cX6_addBytes 21 = .ok (.iand, 1) := by decide +kernel
theorem dX6_addBytes_22 : decode cX6_addBytes 22 = .ok (.invokestatic 36, 3) := by decide +kernel
theorem dX6_addBytes_25 : decode cX6_addBytes 25 = .ok (.aload_n 0, 1) := by decide +kernel
theorem dX6_addBytes_26 : decode cX6_addBytes 26 = .ok (.dup, 1) := by decide +kernel
theorem dX6_addBytes_27 : decode cX6_addBytes 27 = .ok (.getfield 33, 3) := by decide +kernel
theorem dX6_addBytes_30 : decode cX6_addBytes 30 = .ok (.iconst 1, 1) := by decide +kernel
theorem dX6_addBytes_31 : decode cX6_addBytes 31 = .ok (.iadd, 1) := by decide +kernel
theorem dX6_addBytes_32 : decode cX6_addBytes 32 = .ok (.putfield 33, 3) := by decide +kernel
theorem dX6_addBytes_35 : decode cX6_addBytes 35 = .ok (.iinc 2 (-8), 3) := by decide +kernel
theorem dX6_addBytes_38 : decode cX6_addBytes 38 = .ok (.goto (-35), 3) := by decide +kernel
theorem dX6_addBytes_41 : decode cX6_addBytes 41 = .ok (.return_, 1) := by decide +kernel
theorem dX6_exchange_0 : decode cX6_exchange 0 = .ok (.aload_n 0, 1) := by decide +kernel
theorem dX6_exchange_1 : decode cX6_exchange 1 = .ok (.getfield 22, 3) := by decide +kernel
theorem dX6_exchange_4 : decode cX6_exchange 4 = .ok (.astore_n 2, 1) := by decide +kernel
theorem dX6_exchange_5 : decode cX6_exchange 5 = .ok (.aload_n 0, 1) := by decide +kernel
theorem dX6_exchange_6 : decode cX6_exchange 6 = .ok (.aload_n 1, 1) := by decide +kernel
theorem dX6_exchange_7 : decode cX6_exchange 7 = .ok (.putfield 22, 3) := by decide +kernel
theorem dX6_exchange_10 : decode cX6_exchange 10 = .ok (.aload_n 2, 1) := by decide +kernel
theorem dX6_exchange_11 : decode cX6_exchange 11 = .ok (.areturn, 1) := by decide +kernel
theorem dX6_read_0 : decode cX6_read 0 = .ok (.aload_n 0, 1) := by decide +kernel
theorem dX6_read_1 : decode cX6_read 1 = .ok (.iload_n 1, 1) := by decide +kernel
theorem dX6_read_2 : decode cX6_read 2 = .ok (.putfield 40, 3) := by decide +kernel
theorem dX6_read_5 : decode cX6_read 5 = .ok (.aload_n 0, 1) := by decide +kernel
theorem dX6_read_6 : decode cX6_read 6 = .ok (.iconst 0, 1) := by decide +kernel
theorem dX6_read_7 : decode cX6_read 7 = .ok (.putfield 33, 3) := by decide +kernel
theorem dX6_read_10 : decode cX6_read 10 = .ok (.aload_n 0, 1) := by decide +kernel
theorem dX6_read_11 : decode cX6_read 11 = .ok (.iconst 0, 1) := by decide +kernel
theorem dX6_read_12 : decode cX6_read 12 = .ok (.putfield 43, 3) := by decide +kernel
theorem dX6_read_15 : decode cX6_read 15 = .ok (.aload_n 0, 1) := by decide +kernel
theorem dX6_read_16 : decode cX6_read 16 = .ok (.iconst 0, 1) := by decide +kernel
theorem dX6_read_17 : decode cX6_read 17 = .ok (.putfield 46, 3) := by decide +kernel
theorem dX6_read_20 : decode cX6_read 20 = .ok (.aload_n 0, 1) := by decide +kernel
theorem dX6_read_21 : decode cX6_read 21 = .ok (.iconst (-1), 1) := by decide +kernel
theorem dX6_read_22 : decode cX6_read 22 = .ok (.putfield 15, 3) := by decide +kernel
theorem dX6_read_25 : decode cX6_read 25 = .ok (.aload_n 0, 1) := by decide +kernel
theorem dX6_read_26 : decode cX6_read 26 = .ok (.iconst 0, 1) := by decide +kernel
theorem dX6_read_27 : decode cX6_read 27 = .ok (.putfield 49, 3) := by decide +kernel
theorem dX6_read_30 : decode cX6_read 30 = .ok (.aload_n 0, 1) := by decide +kernel
theorem dX6_read_31 : decode cX6_read 31 = .ok (.getfield 22, 3) := by decide +kernel
theorem dX6_read_34 : decode cX6_read 34 = .ok (.invokevirtual 52, 3) := by decide +kernel
theorem dX6_read_37 : decode cX6_read 37 = .ok (.aload_n 0, 1) := by decide +kernel
theorem dX6_read_38 : decode cX6_read 38 = .ok (.invokevirtual 55, 3) := by decide +kernel
theorem dX6_read_41 : decode cX6_read 41 = .ok (.iconst 0, 1) := by decide +kernel
theorem dX6_read_42 : decode cX6_read 42 = .ok (.istore_n 2, 1) := by decide +kernel
theorem dX6_read_43 : decode cX6_read 43 = .ok (.iload_n 2, 1) := by decide +kernel
theorem dX6_read_44 : decode cX6_read 44 = .ok (.sipush 700, 3) := by decide +kernel
theorem dX6_read_47 : decode cX6_read 47 = .ok (.if_icmp .gt 28, 3) := by decide +kernel
theorem dX6_read_50 : decode cX6_read 50 = .ok (.aload_n 0, 1) := by decide +kernel
theorem dX6_read_51 : decode cX6_read 51 = .ok (.getfield 58, 3) := by decide +kernel
theorem dX6_read_54 : decode cX6_read 54 = .ok (.ifCond .eq 21, 3) := by decide +kernel
theorem dX6_read_57 : decode cX6_read 57 = .ok (.aload_n 0, 1) := by decide +kernel
theorem dX6_read_58 : decode cX6_read 58 = .ok (.getfield 58, 3) := by decide +kernel
theorem dX6_read_61 : decode cX6_read 61 = .ok (.iconst (-1), 1) := by decide +kernel
theorem dX6_read_62 : decode cX6_read 62 = .ok (.if_icmp .eq 13, 3) := by decide +kernel
theorem dX6_read_65 : decode cX6_read 65 = .ok (.aload_n 0, 1) := by decide +kernel
theorem dX6_read_66 : decode cX6_read 66 = .ok (.invokevirtual 61, 3) := by decide +kernel
theorem dX6_read_69 : decode cX6_read 69 = .ok (.iinc 2 1, 3) := by decide +kernel
theorem dX6_read_72 : decode cX6_read 72 = .ok (.goto (-29), 3) := by decide +kernel
theorem dX6_read_75 : decode cX6_read 75 = .ok (.aload_n 0, 1) := by decide +kernel
theorem dX6_read_76 : decode cX6_read 76 = .ok (.getfield 46, 3) := by decide +kernel
theorem dX6_read_79 : decode cX6_read 79 = .ok (.ireturn, 1) := by decide +kernel
theorem dX6_fail_0 : decode cX6_fail 0 = .ok (.aload_n 0, 1) := by decide +kernel
theorem dX6_fail_1 : decode cX6_fail 1 = .ok (.getfield 46, 3) := by decide +kernel
theorem dX6_fail_4 : decode cX6_fail 4 = .ok (.ifCond .ne 16, 3) := by decide +kernel
theorem dX6_fail_7 : decode cX6_fail 7 = .ok (.aload_n 0, 1) := by decide +kernel
theorem dX6_fail_8 : decode cX6_fail 8 = .ok (.iload_n 1, 1) := by decide +kernel
theorem dX6_fail_9 : decode cX6_fail 9 = .ok (.putfield 46, 3) := by decide +kernel
theorem dX6_fail_12 : decode cX6_fail 12 = .ok (.aload_n 0, 1) := by decide +kernel
theorem dX6_fail_13 : decode cX6_fail 13 = .ok (.aload_n 0, 1) := by decide +kernel
theorem dX6_fail_14 : decode cX6_fail 14 = .ok (.getfield 64, 3) := by decide +kernel
theorem dX6_fail_17 : decode cX6_fail 17 = .ok (.putfield 15, 3) := by decide +kernel
theorem dX6_fail_20 : decode cX6_fail 20 = .ok (.aload_n 0, 1) := by decide +kernel
theorem dX6_fail_21 : decode cX6_fail 21 = .ok (.iconst (-1), 1) := by decide +kernel
theorem dX6_fail_22 : decode cX6_fail 22 = .ok (.putfield 58, 3) := by decide +kernel
theorem dX6_fail_25 : decode cX6_fail 25 = .ok (.return_, 1) := by decide +kernel
theorem dX6_advance_0 : decode cX6_advance 0 = .ok (.aload_n 0, 1) := by decide +kernel
theorem dX6_advance_1 : decode cX6_advance 1 = .ok (.getfield 46, 3) := by decide +kernel
theorem dX6_advance_4 : decode cX6_advance 4 = .ok (.ifCond .eq 4, 3) := by decide +kernel
theorem dX6_advance_7 : decode cX6_advance 7 = .ok (.return_, 1) := by decide +kernel
theorem dX6_advance_8 : decode cX6_advance 8 = .ok (.aload_n 0, 1) := by decide +kernel
theorem dX6_advance_9 : decode cX6_advance 9 = .ok (.getfield 43, 3) := by decide +kernel
theorem dX6_advance_12 : decode cX6_advance 12 = .ok (.aload_n 0, 1) := by decide +kernel
theorem dX6_advance_13 : decode cX6_advance 13 = .ok (.getfield 40, 3) := by decide +kernel
theorem dX6_advance_16 : decode cX6_advance 16 = .ok (.if_icmp .ge 48, 3) := by decide +kernel
theorem dX6_advance_19 : decode cX6_advance 19 = .ok (.aload_n 0, 1) := by decide +kernel
theorem dX6_advance_20 : decode cX6_advance 20 = .ok (.getfield 9, 3) := by decide +kernel
theorem dX6_advance_23 : decode cX6_advance 23 = .ok (.aload_n 0, 1) := by decide +kernel
theorem dX6_advance_24 : decode cX6_advance 24 = .ok (.getfield 43, 3) := by decide +kernel
theorem dX6_advance_27 : decode cX6_advance 27 = .ok (.invokestatic 67, 3) := by decide +kernel
theorem dX6_advance_30 : decode cX6_advance 30 = .ok (.bipush 32, 2) := by decide +kernel
theorem dX6_advance_32 : decode cX6_advance 32 = .ok (.if_icmp .eq 19, 3) := by decide +kernel
theorem dX6_advance_35 : decode cX6_advance 35 = .ok (.aload_n 0, 1) := by decide +kernel
theorem dX6_advance_36 : decode cX6_advance 36 = .ok (.getfield 9, 3) := by decide +kernel
theorem dX6_advance_39 : decode cX6_advance 39 = .ok (.aload_n 0, 1) := by decide +kernel
theorem dX6_advance_40 : decode cX6_advance 40 = .ok (.getfield 43, 3) := by decide +kernel
theorem dX6_advance_43 : decode cX6_advance 43 = .ok (.invokestatic 67, 3) := by decide +kernel
theorem dX6_advance_46 : decode cX6_advance 46 = .ok (.bipush 10, 2) := by decide +kernel
theorem dX6_advance_48 : decode cX6_advance 48 = .ok (.if_icmp .ne 16, 3) := by decide +kernel
theorem dX6_advance_51 : decode cX6_advance 51 = .ok (.aload_n 0, 1) := by decide +kernel
theorem dX6_advance_52 : decode cX6_advance 52 = .ok (.dup, 1) := by decide +kernel
theorem dX6_advance_53 : decode cX6_advance 53 = .ok (.getfield 43, 3) := by decide +kernel
theorem dX6_advance_56 : decode cX6_advance 56 = .ok (.iconst 1, 1) := by decide +kernel
theorem dX6_advance_57 : decode cX6_advance 57 = .ok (.iadd, 1) := by decide +kernel
theorem dX6_advance_58 : decode cX6_advance 58 = .ok (.putfield 43, 3) := by decide +kernel
theorem dX6_advance_61 : decode cX6_advance 61 = .ok (.goto (-53), 3) := by decide +kernel
theorem dX6_advance_64 : decode cX6_advance 64 = .ok (.aload_n 0, 1) := by decide +kernel
theorem dX6_advance_65 : decode cX6_advance 65 = .ok (.aload_n 0, 1) := by decide +kernel
theorem dX6_advance_66 : decode cX6_advance 66 = .ok (.getfield 43, 3) := by decide +kernel
theorem dX6_advance_69 : decode cX6_advance 69 = .ok (.putfield 64, 3) := by decide +kernel
theorem dX6_advance_72 : decode cX6_advance 72 = .ok (.aload_n 0, 1) := by decide +kernel
theorem dX6_advance_73 : decode cX6_advance 73 = .ok (.getfield 43, 3) := by decide +kernel
theorem dX6_advance_76 : decode cX6_advance 76 = .ok (.aload_n 0, 1) := by decide +kernel
theorem dX6_advance_77 : decode cX6_advance 77 = .ok (.getfield 40, 3) := by decide +kernel
theorem dX6_advance_80 : decode cX6_advance 80 = .ok (.if_icmp .lt 9, 3) := by decide +kernel
theorem dX6_advance_83 : decode cX6_advance 83 = .ok (.aload_n 0, 1) := by decide +kernel
theorem dX6_advance_84 : decode cX6_advance 84 = .ok (.iconst 0, 1) := by decide +kernel
theorem dX6_advance_85 : decode cX6_advance 85 = .ok (.putfield 58, 3) := by decide +kernel
theorem dX6_advance_88 : decode cX6_advance 88 = .ok (.return_, 1) := by decide +kernel
theorem dX6_advance_89 : decode cX6_advance 89 = .ok (.aload_n 0, 1) := by decide +kernel
theorem dX6_advance_90 : decode cX6_advance 90 = .ok (.aload_n 0, 1) := by decide +kernel
theorem dX6_advance_91 : decode cX6_advance 91 = .ok (.getfield 9, 3) := by decide +kernel
theorem dX6_advance_94 : decode cX6_advance 94 = .ok (.aload_n 0, 1) := by decide +kernel
theorem dX6_advance_95 : decode cX6_advance 95 = .ok (.getfield 43, 3) := by decide +kernel
theorem dX6_advance_98 : decode cX6_advance 98 = .ok (.invokestatic 67, 3) := by decide +kernel
theorem dX6_advance_101 : decode cX6_advance 101 = .ok (.invokestatic 71, 3) := by decide +kernel
theorem dX6_advance_104 : decode cX6_advance 104 = .ok (.putfield 58, 3) := by decide +kernel
theorem dX6_advance_107 : decode cX6_advance 107 = .ok (.aload_n 0, 1) := by decide +kernel
theorem dX6_advance_108 : decode cX6_advance 108 = .ok (.dup, 1) := by decide +kernel
theorem dX6_advance_109 : decode cX6_advance 109 = .ok (.getfield 43, 3) := by decide +kernel
theorem dX6_advance_112 : decode cX6_advance 112 = .ok (.iconst 1, 1) := by decide +kernel
theorem dX6_advance_113 : decode cX6_advance 113 = .ok (.iadd, 1) := by decide +kernel
theorem dX6_advance_114 : decode cX6_advance 114 = .ok (.putfield 43, 3) := by decide +kernel
theorem dX6_advance_117 : decode cX6_advance 117 = .ok (.aload_n 0, 1) := by decide +kernel
theorem dX6_advance_118 : decode cX6_advance 118 = .ok (.getfield 58, 3) := by decide +kernel
theorem dX6_advance_121 : decode cX6_advance 121 = .ok (.iconst 2, 1) := by decide +kernel
theorem dX6_advance_122 : decode cX6_advance 122 = .ok (.if_icmp .eq 11, 3) := by decide +kernel
theorem dX6_advance_125 : decode cX6_advance 125 = .ok (.aload_n 0, 1) := by decide +kernel
theorem dX6_advance_126 : decode cX6_advance 126 = .ok (.getfield 58, 3) := by decide +kernel
theorem dX6_advance_129 : decode cX6_advance 129 = .ok (.iconst 3, 1) := by decide +kernel
theorem dX6_advance_130 : decode cX6_advance 130 = .ok (.if_icmp .ne 48, 3) := by decide +kernel
theorem dX6_advance_133 : decode cX6_advance 133 = .ok (.aload_n 0, 1) := by decide +kernel
theorem dX6_advance_134 : decode cX6_advance 134 = .ok (.getfield 43, 3) := by decide +kernel
theorem dX6_advance_137 : decode cX6_advance 137 = .ok (.aload_n 0, 1) := by decide +kernel
theorem dX6_advance_138 : decode cX6_advance 138 = .ok (.getfield 40, 3) := by decide +kernel
theorem dX6_advance_141 : decode cX6_advance 141 = .ok (.if_icmp .ge 37, 3) := by decide +kernel
theorem dX6_advance_144 : decode cX6_advance 144 = .ok (.aload_n 0, 1) := by decide +kernel
theorem dX6_advance_145 : decode cX6_advance 145 = .ok (.getfield 9, 3) := by decide +kernel
theorem dX6_advance_148 : decode cX6_advance 148 = .ok (.aload_n 0, 1) := by decide +kernel
theorem dX6_advance_149 : decode cX6_advance 149 = .ok (.getfield 43, 3) := by decide +kernel
theorem dX6_advance_152 : decode cX6_advance 152 = .ok (.invokestatic 67, 3) := by decide +kernel
theorem dX6_advance_155 : decode cX6_advance 155 = .ok (.invokestatic 71, 3) := by decide +kernel
theorem dX6_advance_158 : decode cX6_advance 158 = .ok (.aload_n 0, 1) := by decide +kernel
theorem dX6_advance_159 : decode cX6_advance 159 = .ok (.getfield 58, 3) := by decide +kernel
theorem dX6_advance_162 : decode cX6_advance 162 = .ok (.if_icmp .ne 16, 3) := by decide +kernel
theorem dX6_advance_165 : decode cX6_advance 165 = .ok (.aload_n 0, 1) := by decide +kernel
theorem dX6_advance_166 : decode cX6_advance 166 = .ok (.dup, 1) := by decide +kernel
theorem dX6_advance_167 : decode cX6_advance 167 = .ok (.getfield 43, 3) := by decide +kernel
theorem dX6_advance_170 : decode cX6_advance 170 = .ok (.iconst 1, 1) := by decide +kernel
theorem dX6_advance_171 : decode cX6_advance 171 = .ok (.iadd, 1) := by decide +kernel
theorem dX6_advance_172 : decode cX6_advance 172 = .ok (.putfield 43, 3) := by decide +kernel
theorem dX6_advance_175 : decode cX6_advance 175 = .ok (.goto (-42), 3) := by decide +kernel
theorem dX6_advance_178 : decode cX6_advance 178 = .ok (.return_, 1) := by decide +kernel
theorem dX6_kindOf_0 : decode cX6_kindOf 0 = .ok (.iload_n 0, 1) := by decide +kernel
theorem dX6_kindOf_1 : decode cX6_kindOf 1 = .ok (.bipush 97, 2) := by decide +kernel
theorem dX6_kindOf_3 : decode cX6_kindOf 3 = .ok (.if_icmp .lt 11, 3) := by decide +kernel
theorem dX6_kindOf_6 : decode cX6_kindOf 6 = .ok (.iload_n 0, 1) := by decide +kernel
theorem dX6_kindOf_7 : decode cX6_kindOf 7 = .ok (.bipush 122, 2) := by decide +kernel
theorem dX6_kindOf_9 : decode cX6_kindOf 9 = .ok (.if_icmp .gt 5, 3) := by decide +kernel
theorem dX6_kindOf_12 : decode cX6_kindOf 12 = .ok (.iconst 2, 1) := by decide +kernel
theorem dX6_kindOf_13 : decode cX6_kindOf 13 = .ok (.ireturn, 1) := by decide +kernel
theorem dX6_kindOf_14 : decode cX6_kindOf 14 = .ok (.iload_n 0, 1) := by decide +kernel
theorem dX6_kindOf_15 : decode cX6_kindOf 15 = .ok (.bipush 48, 2) := by decide +kernel
theorem dX6_kindOf_17 : decode cX6_kindOf 17 = .ok (.if_icmp .lt 11, 3) := by decide +kernel
theorem dX6_kindOf_20 : decode cX6_kindOf 20 = .ok (.iload_n 0, 1) := by decide +kernel
theorem dX6_kindOf_21 : decode cX6_kindOf 21 = .ok (.bipush 57, 2) := by decide +kernel
theorem dX6_kindOf_23 : decode cX6_kindOf 23 = .ok (.if_icmp .gt 5, 3) := by decide +kernel
theorem dX6_kindOf_26 : decode cX6_kindOf 26 = .ok (.iconst 3, 1) := by decide +kernel
theorem dX6_kindOf_27 : decode cX6_kindOf 27 = .ok (.ireturn, 1) := by decide +kernel
theorem dX6_kindOf_28 : decode cX6_kindOf 28 = .ok (.iload_n 0, 1) := by decide +kernel
theorem dX6_kindOf_29 : decode cX6_kindOf 29 = .ok (.tableswitch 105 40 61 #[103, 103, 103, 103, 105, 103, 105, 103, 105, 105, 105, 105, 105, 105, 105, 105, 105, 105, 105, 103, 103, 103], 103) := by decide +kernel
theorem dX6_kindOf_132 : decode cX6_kindOf 132 = .ok (.iload_n 0, 1) := by decide +kernel
theorem dX6_kindOf_133 : decode cX6_kindOf 133 = .ok (.ireturn, 1) := by decide +kernel
theorem dX6_kindOf_134 : decode cX6_kindOf 134 = .ok (.iconst 1, 1) := by decide +kernel
theorem dX6_kindOf_135 : decode cX6_kindOf 135 = .ok (.ireturn, 1) := by decide +kernel
theorem dX6_isWord_0 : decode cX6_isWord 0 = .ok (.aload_n 0, 1) := by decide +kernel
theorem dX6_isWord_1 : decode cX6_isWord 1 = .ok (.getfield 58, 3) := by decide +kernel
theorem dX6_isWord_4 : decode cX6_isWord 4 = .ok (.iconst 2, 1) := by decide +kernel
theorem dX6_isWord_5 : decode cX6_isWord 5 = .ok (.if_icmp .ne 19, 3) := by decide +kernel
theorem dX6_isWord_8 : decode cX6_isWord 8 = .ok (.aload_n 0, 1) := by decide +kernel
theorem dX6_isWord_9 : decode cX6_isWord 9 = .ok (.getfield 43, 3) := by decide +kernel
theorem dX6_isWord_12 : decode cX6_isWord 12 = .ok (.aload_n 0, 1) := by decide +kernel
theorem dX6_isWord_13 : decode cX6_isWord 13 = .ok (.getfield 64, 3) := by decide +kernel
theorem dX6_isWord_16 : decode cX6_isWord 16 = .ok (.isub, 1) := by decide +kernel
theorem dX6_isWord_17 : decode cX6_isWord 17 = .ok (.aload_n 1, 1) := by decide +kernel
theorem dX6_isWord_18 : decode cX6_isWord 18 = .ok (.invokevirtual 75, 3) := by decide +kernel
theorem dX6_isWord_21 : decode cX6_isWord 21 = .ok (.if_icmp .eq 5, 3) := by decide +kernel
theorem dX6_isWord_24 : decode cX6_isWord 24 = .ok (.iconst 0, 1) := by decide +kernel
theorem dX6_isWord_25 : decode cX6_isWord 25 = .ok (.ireturn, 1) := by decide +kernel
theorem dX6_isWord_26 : decode cX6_isWord 26 = .ok (.iconst 0, 1) := by decide +kernel
theorem dX6_isWord_27 : decode cX6_isWord 27 = .ok (.istore_n 2, 1) := by decide +kernel
theorem dX6_isWord_28 : decode cX6_isWord 28 = .ok (.iload_n 2, 1) := by decide +kernel
theorem dX6_isWord_29 : decode cX6_isWord 29 = .ok (.aload_n 1, 1) := by decide +kernel
theorem dX6_isWord_30 : decode cX6_isWord 30 = .ok (.invokevirtual 75, 3) := by decide +kernel
theorem dX6_isWord_33 : decode cX6_isWord 33 = .ok (.if_icmp .ge 32, 3) := by decide +kernel
theorem dX6_isWord_36 : decode cX6_isWord 36 = .ok (.aload_n 0, 1) := by decide +kernel
theorem dX6_isWord_37 : decode cX6_isWord 37 = .ok (.getfield 9, 3) := by decide +kernel
theorem dX6_isWord_40 : decode cX6_isWord 40 = .ok (.aload_n 0, 1) := by decide +kernel
theorem dX6_isWord_41 : decode cX6_isWord 41 = .ok (.getfield 64, 3) := by decide +kernel
theorem dX6_isWord_44 : decode cX6_isWord 44 = .ok (.iload_n 2, 1) := by decide +kernel
theorem dX6_isWord_45 : decode cX6_isWord 45 = .ok (.iadd, 1) := by decide +kernel
theorem dX6_isWord_46 : decode cX6_isWord 46 = .ok (.invokestatic 67, 3) := by decide +kernel
theorem dX6_isWord_49 : decode cX6_isWord 49 = .ok (.aload_n 1, 1) := by decide +kernel
theorem dX6_isWord_50 : decode cX6_isWord 50 = .ok (.iload_n 2, 1) := by decide +kernel
theorem dX6_isWord_51 : decode cX6_isWord 51 = .ok (.invokevirtual 80, 3) := by decide +kernel
theorem dX6_isWord_54 : decode cX6_isWord 54 = .ok (.if_icmp .eq 5, 3) := by decide +kernel
theorem dX6_isWord_57 : decode cX6_isWord 57 = .ok (.iconst 0, 1) := by decide +kernel
theorem dX6_isWord_58 : decode cX6_isWord 58 = .ok (.ireturn, 1) := by decide +kernel
theorem dX6_isWord_59 : decode cX6_isWord 59 = .ok (.iinc 2 1, 3) := by decide +kernel
theorem dX6_isWord_62 : decode cX6_isWord 62 = .ok (.goto (-34), 3) := by decide +kernel
theorem dX6_isWord_65 : decode cX6_isWord 65 = .ok (.iconst 1, 1) := by decide +kernel
theorem dX6_isWord_66 : decode cX6_isWord 66 = .ok (.ireturn, 1) := by decide +kernel
theorem dX6_passSign_0 : decode cX6_passSign 0 = .ok (.aload_n 0, 1) := by decide +kernel
theorem dX6_passSign_1 : decode cX6_passSign 1 = .ok (.getfield 58, 3) := by decide +kernel
theorem dX6_passSign_4 : decode cX6_passSign 4 = .ok (.iload_n 1, 1) := by decide +kernel
theorem dX6_passSign_5 : decode cX6_passSign 5 = .ok (.if_icmp .ne 10, 3) := by decide +kernel
theorem dX6_passSign_8 : decode cX6_passSign 8 = .ok (.aload_n 0, 1) := by decide +kernel
theorem dX6_passSign_9 : decode cX6_passSign 9 = .ok (.invokevirtual 55, 3) := by decide +kernel
theorem dX6_passSign_12 : decode cX6_passSign 12 = .ok (.goto 8, 3) := by decide +kernel
theorem dX6_passSign_15 : decode cX6_passSign 15 = .ok (.aload_n 0, 1) := by decide +kernel
theorem dX6_passSign_16 : decode cX6_passSign 16 = .ok (.iconst 1, 1) := by decide +kernel
theorem dX6_passSign_17 : decode cX6_passSign 17 = .ok (.invokevirtual 84, 3) := by decide +kernel
theorem dX6_passSign_20 : decode cX6_passSign 20 = .ok (.return_, 1) := by decide +kernel
theorem dX6_passNumber_0 : decode cX6_passNumber 0 = .ok (.aload_n 0, 1) := by decide +kernel
theorem dX6_passNumber_1 : decode cX6_passNumber 1 = .ok (.getfield 58, 3) := by decide +kernel
theorem dX6_passNumber_4 : decode cX6_passNumber 4 = .ok (.iconst 3, 1) := by decide +kernel
theorem dX6_passNumber_5 : decode cX6_passNumber 5 = .ok (.if_icmp .eq 10, 3) := by decide +kernel
theorem dX6_passNumber_8 : decode cX6_passNumber 8 = .ok (.aload_n 0, 1) := by decide +kernel
theorem dX6_passNumber_9 : decode cX6_passNumber 9 = .ok (.iconst 1, 1) := by decide +kernel
theorem dX6_passNumber_10 : decode cX6_passNumber 10 = .ok (.invokevirtual 84, 3) := by decide +kernel
theorem dX6_passNumber_13 : decode cX6_passNumber 13 = .ok (.iload_n 1, 1) := by decide +kernel
theorem dX6_passNumber_14 : decode cX6_passNumber 14 = .ok (.ireturn, 1) := by decide +kernel
theorem dX6_passNumber_15 : decode cX6_passNumber 15 = .ok (.aload_n 0, 1) := by decide +kernel
theorem dX6_passNumber_16 : decode cX6_passNumber 16 = .ok (.getfield 43, 3) := by decide +kernel
theorem dX6_passNumber_19 : decode cX6_passNumber 19 = .ok (.aload_n 0, 1) := by decide +kernel
theorem dX6_passNumber_20 : decode cX6_passNumber 20 = .ok (.getfield 64, 3) := by decide +kernel
theorem dX6_passNumber_23 : decode cX6_passNumber 23 = .ok (.isub, 1) := by decide +kernel
theorem dX6_passNumber_24 : decode cX6_passNumber 24 = .ok (.iconst 4, 1) := by decide +kernel
theorem dX6_passNumber_25 : decode cX6_passNumber 25 = .ok (.if_icmp .le 9, 3) := by decide +kernel
theorem dX6_passNumber_28 : decode cX6_passNumber 28 = .ok (.sipush 10000, 3) := by decide +kernel
theorem dX6_passNumber_31 : decode cX6_passNumber 31 = .ok (.goto 7, 3) := by decide +kernel
theorem dX6_passNumber_34 : decode cX6_passNumber 34 = .ok (.aload_n 0, 1) := by decide +kernel
theorem dX6_passNumber_35 : decode cX6_passNumber 35 = .ok (.invokevirtual 88, 3) := by decide +kernel
theorem dX6_passNumber_38 : decode cX6_passNumber 38 = .ok (.istore_n 3, 1) := by decide +kernel
theorem dX6_passNumber_39 : decode cX6_passNumber 39 = .ok (.iload_n 3, 1) := by decide +kernel
theorem dX6_passNumber_40 : decode cX6_passNumber 40 = .ok (.iload_n 1, 1) := by decide +kernel
theorem dX6_passNumber_41 : decode cX6_passNumber 41 = .ok (.if_icmp .lt 8, 3) := by decide +kernel
theorem dX6_passNumber_44 : decode cX6_passNumber 44 = .ok (.iload_n 3, 1) := by decide +kernel
theorem dX6_passNumber_45 : decode cX6_passNumber 45 = .ok (.iload_n 2, 1) := by decide +kernel
theorem dX6_passNumber_46 : decode cX6_passNumber 46 = .ok (.if_icmp .le 10, 3) := by decide +kernel
theorem dX6_passNumber_49 : decode cX6_passNumber 49 = .ok (.aload_n 0, 1) := by decide +kernel
theorem dX6_passNumber_50 : decode cX6_passNumber 50 = .ok (.iconst 2, 1) := by decide +kernel
theorem dX6_passNumber_51 : decode cX6_passNumber 51 = .ok (.invokevirtual 84, 3) := by decide +kernel
theorem dX6_passNumber_54 : decode cX6_passNumber 54 = .ok (.iload_n 1, 1) := by decide +kernel
theorem dX6_passNumber_55 : decode cX6_passNumber 55 = .ok (.ireturn, 1) := by decide +kernel
theorem dX6_passNumber_56 : decode cX6_passNumber 56 = .ok (.aload_n 0, 1) := by decide +kernel
theorem dX6_passNumber_57 : decode cX6_passNumber 57 = .ok (.invokevirtual 55, 3) := by decide +kernel
theorem dX6_passNumber_60 : decode cX6_passNumber 60 = .ok (.iload_n 3, 1) := by decide +kernel
theorem dX6_passNumber_61 : decode cX6_passNumber 61 = .ok (.ireturn, 1) := by decide +kernel
theorem dX6_numberHere_0 : decode cX6_numberHere 0 = .ok (.iconst 0, 1) := by decide +kernel
theorem dX6_numberHere_1 : decode cX6_numberHere 1 = .ok (.istore_n 1, 1) := by decide +kernel
theorem dX6_numberHere_2 : decode cX6_numberHere 2 = .ok (.aload_n 0, 1) := by decide +kernel
theorem dX6_numberHere_3 : decode cX6_numberHere 3 = .ok (.getfield 64, 3) := by decide +kernel
theorem dX6_numberHere_6 : decode cX6_numberHere 6 = .ok (.istore_n 2, 1) := by decide +kernel
theorem dX6_numberHere_7 : decode cX6_numberHere 7 = .ok (.iload_n 2, 1) := by decide +kernel
theorem dX6_numberHere_8 : decode cX6_numberHere 8 = .ok (.aload_n 0, 1) := by decide +kernel
theorem dX6_numberHere_9 : decode cX6_numberHere 9 = .ok (.getfield 43, 3) := by decide +kernel
theorem dX6_numberHere_12 : decode cX6_numberHere 12 = .ok (.if_icmp .ge 26, 3) := by decide +kernel
theorem dX6_numberHere_15 : decode cX6_numberHere 15 = .ok (.bipush 10, 2) := by decide +kernel
theorem dX6_numberHere_17 : decode cX6_numberHere 17 = .ok (.iload_n 1, 1) := by decide +kernel
theorem dX6_numberHere_18 : decode cX6_numberHere 18 = .ok (.imul, 1) := by decide +kernel
theorem dX6_numberHere_19 : decode cX6_numberHere 19 = .ok (.aload_n 0, 1) := by decide +kernel
theorem dX6_numberHere_20 : decode cX6_numberHere 20 = .ok (.getfield 9, 3) := by decide +kernel
theorem dX6_numberHere_23 : decode cX6_numberHere 23 = .ok (.iload_n 2, 1) := by decide +kernel
theorem dX6_numberHere_24 : decode cX6_numberHere 24 = .ok (.invokestatic 67, 3) := by decide +kernel
theorem dX6_numberHere_27 : decode cX6_numberHere 27 = .ok (.iadd, 1) := by decide +kernel
theorem dX6_numberHere_28 : decode cX6_numberHere 28 = .ok (.bipush 48, 2) := by decide +kernel
theorem dX6_numberHere_30 : decode cX6_numberHere 30 = .ok (.isub, 1) := by decide +kernel
theorem dX6_numberHere_31 : decode cX6_numberHere 31 = .ok (.istore_n 1, 1) := by decide +kernel
theorem dX6_numberHere_32 : decode cX6_numberHere 32 = .ok (.iinc 2 1, 3) := by decide +kernel
theorem dX6_numberHere_35 : decode cX6_numberHere 35 = .ok (.goto (-28), 3) := by decide +kernel
theorem dX6_numberHere_38 : decode cX6_numberHere 38 = .ok (.iload_n 1, 1) := by decide +kernel
theorem dX6_numberHere_39 : decode cX6_numberHere 39 = .ok (.ireturn, 1) := by decide +kernel
theorem dX6_clauseHere_0 : decode cX6_clauseHere 0 = .ok (.aload_n 0, 1) := by decide +kernel
theorem dX6_clauseHere_1 : decode cX6_clauseHere 1 = .ok (.ldc 91, 2) := by decide +kernel
theorem dX6_clauseHere_3 : decode cX6_clauseHere 3 = .ok (.invokevirtual 93, 3) := by decide +kernel
theorem dX6_clauseHere_6 : decode cX6_clauseHere 6 = .ok (.ifCond .eq 5, 3) := by decide +kernel
theorem dX6_clauseHere_9 : decode cX6_clauseHere 9 = .ok (.iconst 0, 1) := by decide +kernel
theorem dX6_clauseHere_10 : decode cX6_clauseHere 10 = .ok (.ireturn, 1) := by decide +kernel
theorem dX6_clauseHere_11 : decode cX6_clauseHere 11 = .ok (.aload_n 0, 1) := by decide +kernel
theorem dX6_clauseHere_12 : decode cX6_clauseHere 12 = .ok (.ldc 97, 2) := by decide +kernel
theorem dX6_clauseHere_14 : decode cX6_clauseHere 14 = .ok (.invokevirtual 93, 3) := by decide +kernel
theorem dX6_clauseHere_17 : decode cX6_clauseHere 17 = .ok (.ifCond .eq 5, 3) := by decide +kernel
theorem dX6_clauseHere_20 : decode cX6_clauseHere 20 = .ok (.iconst 1, 1) := by decide +kernel
theorem dX6_clauseHere_21 : decode cX6_clauseHere 21 = .ok (.ireturn, 1) := by decide +kernel
theorem dX6_clauseHere_22 : decode cX6_clauseHere 22 = .ok (.aload_n 0, 1) := by decide +kernel
theorem dX6_clauseHere_23 : decode cX6_clauseHere 23 = .ok (.ldc 99, 2) := by decide +kernel
theorem dX6_clauseHere_25 : decode cX6_clauseHere 25 = .ok (.invokevirtual 93, 3) := by decide +kernel
theorem dX6_clauseHere_28 : decode cX6_clauseHere 28 = .ok (.ifCond .eq 5, 3) := by decide +kernel
theorem dX6_clauseHere_31 : decode cX6_clauseHere 31 = .ok (.iconst 2, 1) := by decide +kernel
theorem dX6_clauseHere_32 : decode cX6_clauseHere 32 = .ok (.ireturn, 1) := by decide +kernel
theorem dX6_clauseHere_33 : decode cX6_clauseHere 33 = .ok (.aload_n 0, 1) := by decide +kernel
theorem dX6_clauseHere_34 : decode cX6_clauseHere 34 = .ok (.ldc 101, 2) := by decide +kernel
theorem dX6_clauseHere_36 : decode cX6_clauseHere 36 = .ok (.invokevirtual 93, 3) := by decide +kernel
theorem dX6_clauseHere_39 : decode cX6_clauseHere 39 = .ok (.ifCond .eq 5, 3) := by decide +kernel
theorem dX6_clauseHere_42 : decode cX6_clauseHere 42 = .ok (.iconst 3, 1) := by decide +kernel
theorem dX6_clauseHere_43 : decode cX6_clauseHere 43 = .ok (.ireturn, 1) := by decide +kernel
theorem dX6_clauseHere_44 : decode cX6_clauseHere 44 = .ok (.aload_n 0, 1) := by decide +kernel
theorem dX6_clauseHere_45 : decode cX6_clauseHere 45 = .ok (.ldc 103, 2) := by decide +kernel
theorem dX6_clauseHere_47 : decode cX6_clauseHere 47 = .ok (.invokevirtual 93, 3) := by decide +kernel
theorem dX6_clauseHere_50 : decode cX6_clauseHere 50 = .ok (.ifCond .eq 5, 3) := by decide +kernel
theorem dX6_clauseHere_53 : decode cX6_clauseHere 53 = .ok (.iconst 4, 1) := by decide +kernel
theorem dX6_clauseHere_54 : decode cX6_clauseHere 54 = .ok (.ireturn, 1) := by decide +kernel
theorem dX6_clauseHere_55 : decode cX6_clauseHere 55 = .ok (.aload_n 0, 1) := by decide +kernel
theorem dX6_clauseHere_56 : decode cX6_clauseHere 56 = .ok (.ldc 105, 2) := by decide +kernel
theorem dX6_clauseHere_58 : decode cX6_clauseHere 58 = .ok (.invokevirtual 93, 3) := by decide +kernel
theorem dX6_clauseHere_61 : decode cX6_clauseHere 61 = .ok (.ifCond .eq 5, 3) := by decide +kernel
theorem dX6_clauseHere_64 : decode cX6_clauseHere 64 = .ok (.iconst 5, 1) := by decide +kernel
theorem dX6_clauseHere_65 : decode cX6_clauseHere 65 = .ok (.ireturn, 1) := by decide +kernel
theorem dX6_clauseHere_66 : decode cX6_clauseHere 66 = .ok (.aload_n 0, 1) := by decide +kernel
theorem dX6_clauseHere_67 : decode cX6_clauseHere 67 = .ok (.ldc 107, 2) := by decide +kernel
theorem dX6_clauseHere_69 : decode cX6_clauseHere 69 = .ok (.invokevirtual 93, 3) := by decide +kernel
theorem dX6_clauseHere_72 : decode cX6_clauseHere 72 = .ok (.ifCond .eq 6, 3) := by decide +kernel
theorem dX6_clauseHere_75 : decode cX6_clauseHere 75 = .ok (.bipush 6, 2) := by decide +kernel
theorem dX6_clauseHere_77 : decode cX6_clauseHere 77 = .ok (.ireturn, 1) := by decide +kernel
theorem dX6_clauseHere_78 : decode cX6_clauseHere 78 = .ok (.aload_n 0, 1) := by decide +kernel
theorem dX6_clauseHere_79 : decode cX6_clauseHere 79 = .ok (.ldc 109, 2) := by decide +kernel
theorem dX6_clauseHere_81 : decode cX6_clauseHere 81 = .ok (.invokevirtual 93, 3) := by decide +kernel
theorem dX6_clauseHere_84 : decode cX6_clauseHere 84 = .ok (.ifCond .eq 6, 3) := by decide +kernel
theorem dX6_clauseHere_87 : decode cX6_clauseHere 87 = .ok (.bipush 7, 2) := by decide +kernel
theorem dX6_clauseHere_89 : decode cX6_clauseHere 89 = .ok (.ireturn, 1) := by decide +kernel
theorem dX6_clauseHere_90 : decode cX6_clauseHere 90 = .ok (.aload_n 0, 1) := by decide +kernel
theorem dX6_clauseHere_91 : decode cX6_clauseHere 91 = .ok (.ldc 110, 2) := by decide +kernel
theorem dX6_clauseHere_93 : decode cX6_clauseHere 93 = .ok (.invokevirtual 93, 3) := by decide +kernel
theorem dX6_clauseHere_96 : decode cX6_clauseHere 96 = .ok (.ifCond .eq 8, 3) := by decide +kernel
theorem dX6_clauseHere_99 : decode cX6_clauseHere 99 = .ok (.bipush 8, 2) := by decide +kernel
theorem dX6_clauseHere_101 : decode cX6_clauseHere 101 = .ok (.goto 4, 3) := by decide +kernel
theorem dX6_clauseHere_104 : decode cX6_clauseHere 104 = .ok (.iconst (-1), 1) := by decide +kernel
theorem dX6_clauseHere_105 : decode cX6_clauseHere 105 = .ok (.ireturn, 1) := by decide +kernel
theorem dX6_readClause_0 : decode cX6_readClause 0 = .ok (.aload_n 0, 1) := by decide +kernel
theorem dX6_readClause_1 : decode cX6_readClause 1 = .ok (.invokevirtual 112, 3) := by decide +kernel
theorem dX6_readClause_4 : decode cX6_readClause 4 = .ok (.istore_n 1, 1) := by decide +kernel
theorem dX6_readClause_5 : decode cX6_readClause 5 = .ok (.iload_n 1, 1) := by decide +kernel
theorem dX6_readClause_6 : decode cX6_readClause 6 = .ok (.iconst (-1), 1) := by decide +kernel
theorem dX6_readClause_7 : decode cX6_readClause 7 = .ok (.if_icmp .ne 9, 3) := by decide +kernel
theorem dX6_readClause_10 : decode cX6_readClause 10 = .ok (.aload_n 0, 1) := by decide +kernel
theorem dX6_readClause_11 : decode cX6_readClause 11 = .ok (.iconst 1, 1) := by decide +kernel
theorem dX6_readClause_12 : decode cX6_readClause 12 = .ok (.invokevirtual 84, 3) := by decide +kernel
theorem dX6_readClause_15 : decode cX6_readClause 15 = .ok (.return_, 1) := by decide +kernel
theorem dX6_readClause_16 : decode cX6_readClause 16 = .ok (.aload_n 0, 1) := by decide +kernel
theorem dX6_readClause_17 : decode cX6_readClause 17 = .ok (.getfield 49, 3) := by decide +kernel
theorem dX6_readClause_20 : decode cX6_readClause 20 = .ok (.iload_n 1, 1) := by decide +kernel
theorem dX6_readClause_21 : decode cX6_readClause 21 = .ok (.ishr, 1) := by decide +kernel
theorem dX6_readClause_22 : decode cX6_readClause 22 = .ok (.iconst 1, 1) := by decide +kernel
theorem dX6_readClause_23 : decode cX6_readClause 23 = .ok (.iand, 1) := by decide +kernel
theorem dX6_readClause_24 : decode cX6_readClause 24 = .ok (.ifCond .eq 9, 3) := by decide +kernel
theorem dX6_readClause_27 : decode cX6_readClause 27 = .ok (.aload_n 0, 1) := by decide +kernel
theorem dX6_readClause_28 : decode cX6_readClause 28 = .ok (.iconst 5, 1) := by decide +kernel
theorem dX6_readClause_29 : decode cX6_readClause 29 = .ok (.invokevirtual 84, 3) := by decide +kernel
theorem dX6_readClause_32 : decode cX6_readClause 32 = .ok (.return_, 1) := by decide +kernel
theorem dX6_readClause_33 : decode cX6_readClause 33 = .ok (.aload_n 0, 1) := by decide +kernel
theorem dX6_readClause_34 : decode cX6_readClause 34 = .ok (.dup, 1) := by decide +kernel
theorem dX6_readClause_35 : decode cX6_readClause 35 = .ok (.getfield 49, 3) := by decide +kernel
theorem dX6_readClause_38 : decode cX6_readClause 38 = .ok (.iconst 1, 1) := by decide +kernel
theorem dX6_readClause_39 : decode cX6_readClause 39 = .ok (.iload_n 1, 1) := by decide +kernel
theorem dX6_readClause_40 : decode cX6_readClause 40 = .ok (.ishl, 1) := by decide +kernel
theorem dX6_readClause_41 : decode cX6_readClause 41 = .ok (.ior, 1) := by decide +kernel
theorem dX6_readClause_42 : decode cX6_readClause 42 = .ok (.putfield 49, 3) := by decide +kernel
theorem dX6_readClause_45 : decode cX6_readClause 45 = .ok (.aload_n 0, 1) := by decide +kernel
theorem dX6_readClause_46 : decode cX6_readClause 46 = .ok (.invokevirtual 55, 3) := by decide +kernel
theorem dX6_readClause_49 : decode cX6_readClause 49 = .ok (.iload_n 1, 1) := by decide +kernel
theorem dX6_readClause_50 : decode cX6_readClause 50 = .ok (.bipush 7, 2) := by decide +kernel
theorem dX6_readClause_52 : decode cX6_readClause 52 = .ok (.if_icmp .eq 9, 3) := by decide +kernel
theorem dX6_readClause_55 : decode cX6_readClause 55 = .ok (.iload_n 1, 1) := by decide +kernel
theorem dX6_readClause_56 : decode cX6_readClause 56 = .ok (.bipush 8, 2) := by decide +kernel
theorem dX6_readClause_58 : decode cX6_readClause 58 = .ok (.if_icmp .ne 39, 3) := by decide +kernel
theorem dX6_readClause_61 : decode cX6_readClause 61 = .ok (.aload_n 0, 1) := by decide +kernel
theorem dX6_readClause_62 : decode cX6_readClause 62 = .ok (.iload_n 1, 1) := by decide +kernel
theorem dX6_readClause_63 : decode cX6_readClause 63 = .ok (.bipush 7, 2) := by decide +kernel
theorem dX6_readClause_65 : decode cX6_readClause 65 = .ok (.if_icmp .ne 13, 3) := by decide +kernel
theorem dX6_readClause_68 : decode cX6_readClause 68 = .ok (.aload_n 0, 1) := by decide +kernel
theorem dX6_readClause_69 : decode cX6_readClause 69 = .ok (.getfield 22, 3) := by decide +kernel
theorem dX6_readClause_72 : decode cX6_readClause 72 = .ok (.getfield 26, 3) := by decide +kernel
theorem dX6_readClause_75 : decode cX6_readClause 75 = .ok (.goto 10, 3) := by decide +kernel
theorem dX6_readClause_78 : decode cX6_readClause 78 = .ok (.aload_n 0, 1) := by decide +kernel
theorem dX6_readClause_79 : decode cX6_readClause 79 = .ok (.getfield 22, 3) := by decide +kernel
theorem dX6_readClause_82 : decode cX6_readClause 82 = .ok (.getfield 115, 3) := by decide +kernel
theorem dX6_readClause_85 : decode cX6_readClause 85 = .ok (.putfield 30, 3) := by decide +kernel
theorem dX6_readClause_88 : decode cX6_readClause 88 = .ok (.aload_n 0, 1) := by decide +kernel
theorem dX6_readClause_89 : decode cX6_readClause 89 = .ok (.iconst 0, 1) := by decide +kernel
theorem dX6_readClause_90 : decode cX6_readClause 90 = .ok (.iconst 0, 1) := by decide +kernel
theorem dX6_readClause_91 : decode cX6_readClause 91 = .ok (.invokevirtual 117, 3) := by decide +kernel
theorem dX6_readClause_94 : decode cX6_readClause 94 = .ok (.goto 8, 3) := by decide +kernel
theorem dX6_readClause_97 : decode cX6_readClause 97 = .ok (.aload_n 0, 1) := by decide +kernel
theorem dX6_readClause_98 : decode cX6_readClause 98 = .ok (.iload_n 1, 1) := by decide +kernel
theorem dX6_readClause_99 : decode cX6_readClause 99 = .ok (.invokevirtual 121, 3) := by decide +kernel
theorem dX6_readClause_102 : decode cX6_readClause 102 = .ok (.aload_n 0, 1) := by decide +kernel
theorem dX6_readClause_103 : decode cX6_readClause 103 = .ok (.bipush 59, 2) := by decide +kernel
theorem dX6_readClause_105 : decode cX6_readClause 105 = .ok (.invokevirtual 124, 3) := by decide +kernel
theorem dX6_readClause_108 : decode cX6_readClause 108 = .ok (.return_, 1) := by decide +kernel
theorem dX6_readSetting_0 : decode cX6_readSetting 0 = .ok (.iload_n 1, 1) := by decide +kernel
theorem dX6_readSetting_1 : decode cX6_readSetting 1 = .ok (.tableswitch 152 0 5 #[39, 56, 73, 104, 121, 135], 39) := by decide +kernel
theorem dX6_readSetting_40 : decode cX6_readSetting 40 = .ok (.aload_n 0, 1) := by decide +kernel
theorem dX6_readSetting_41 : decode cX6_readSetting 41 = .ok (.getfield 22, 3) := by decide +kernel
theorem dX6_readSetting_44 : decode cX6_readSetting 44 = .ok (.aload_n 0, 1) := by decide +kernel
theorem dX6_readSetting_45 : decode cX6_readSetting 45 = .ok (.iconst 1, 1) := by decide +kernel
theorem dX6_readSetting_46 : decode cX6_readSetting 46 = .ok (.bipush 8, 2) := by decide +kernel
theorem dX6_readSetting_48 : decode cX6_readSetting 48 = .ok (.invokevirtual 127, 3) := by decide +kernel
theorem dX6_readSetting_51 : decode cX6_readSetting 51 = .ok (.putfield 131, 3) := by decide +kernel
theorem dX6_readSetting_54 : decode cX6_readSetting 54 = .ok (.goto 103, 3) := by decide +kernel
theorem dX6_readSetting_57 : decode cX6_readSetting 57 = .ok (.aload_n 0, 1) := by decide +kernel
theorem dX6_readSetting_58 : decode cX6_readSetting 58 = .ok (.getfield 22, 3) := by decide +kernel
theorem dX6_readSetting_61 : decode cX6_readSetting 61 = .ok (.aload_n 0, 1) := by decide +kernel
theorem dX6_readSetting_62 : decode cX6_readSetting 62 = .ok (.iconst 1, 1) := by decide +kernel
theorem dX6_readSetting_63 : decode cX6_readSetting 63 = .ok (.bipush 64, 2) := by decide +kernel
theorem dX6_readSetting_65 : decode cX6_readSetting 65 = .ok (.invokevirtual 127, 3) := by decide +kernel
theorem dX6_readSetting_68 : decode cX6_readSetting 68 = .ok (.putfield 133, 3) := by decide +kernel
theorem dX6_readSetting_71 : decode cX6_readSetting 71 = .ok (.goto 86, 3) := by decide +kernel
theorem dX6_readSetting_74 : decode cX6_readSetting 74 = .ok (.aload_n 0, 1) := by decide +kernel
theorem dX6_readSetting_75 : decode cX6_readSetting 75 = .ok (.getfield 22, 3) := by decide +kernel
theorem dX6_readSetting_78 : decode cX6_readSetting 78 = .ok (.aload_n 0, 1) := by decide +kernel
theorem dX6_readSetting_79 : decode cX6_readSetting 79 = .ok (.iconst 0, 1) := by decide +kernel
theorem dX6_readSetting_80 : decode cX6_readSetting 80 = .ok (.bipush 9, 2) := by decide +kernel
theorem dX6_readSetting_82 : decode cX6_readSetting 82 = .ok (.invokevirtual 127, 3) := by decide +kernel
theorem dX6_readSetting_85 : decode cX6_readSetting 85 = .ok (.putfield 135, 3) := by decide +kernel
theorem dX6_readSetting_88 : decode cX6_readSetting 88 = .ok (.aload_n 0, 1) := by decide +kernel
theorem dX6_readSetting_89 : decode cX6_readSetting 89 = .ok (.getfield 22, 3) := by decide +kernel
theorem dX6_readSetting_92 : decode cX6_readSetting 92 = .ok (.aload_n 0, 1) := by decide +kernel
theorem dX6_readSetting_93 : decode cX6_readSetting 93 = .ok (.iconst 0, 1) := by decide +kernel
theorem dX6_readSetting_94 : decode cX6_readSetting 94 = .ok (.bipush 9, 2) := by decide +kernel
theorem dX6_readSetting_96 : decode cX6_readSetting 96 = .ok (.invokevirtual 127, 3) := by decide +kernel
theorem dX6_readSetting_99 : decode cX6_readSetting 99 = .ok (.putfield 138, 3) := by decide +kernel
theorem dX6_readSetting_102 : decode cX6_readSetting 102 = .ok (.goto 55, 3) := by decide +kernel
theorem dX6_readSetting_105 : decode cX6_readSetting 105 = .ok (.aload_n 0, 1) := by decide +kernel
theorem dX6_readSetting_106 : decode cX6_readSetting 106 = .ok (.getfield 22, 3) := by decide +kernel
theorem dX6_readSetting_109 : decode cX6_readSetting 109 = .ok (.aload_n 0, 1) := by decide +kernel
theorem dX6_readSetting_110 : decode cX6_readSetting 110 = .ok (.iconst 1, 1) := by decide +kernel
theorem dX6_readSetting_111 : decode cX6_readSetting 111 = .ok (.bipush 16, 2) := by decide +kernel
theorem dX6_readSetting_113 : decode cX6_readSetting 113 = .ok (.invokevirtual 127, 3) := by decide +kernel
theorem dX6_readSetting_116 : decode cX6_readSetting 116 = .ok (.putfield 141, 3) := by decide +kernel
theorem dX6_readSetting_119 : decode cX6_readSetting 119 = .ok (.goto 38, 3) := by decide +kernel
theorem dX6_readSetting_122 : decode cX6_readSetting 122 = .ok (.aload_n 0, 1) := by decide +kernel
theorem dX6_readSetting_123 : decode cX6_readSetting 123 = .ok (.getfield 22, 3) := by decide +kernel
theorem dX6_readSetting_126 : decode cX6_readSetting 126 = .ok (.aload_n 0, 1) := by decide +kernel
theorem dX6_readSetting_127 : decode cX6_readSetting 127 = .ok (.invokevirtual 143, 3) := by decide +kernel
theorem dX6_readSetting_130 : decode cX6_readSetting 130 = .ok (.putfield 146, 3) := by decide +kernel
theorem dX6_readSetting_133 : decode cX6_readSetting 133 = .ok (.goto 24, 3) := by decide +kernel
theorem dX6_readSetting_136 : decode cX6_readSetting 136 = .ok (.aload_n 0, 1) := by decide +kernel
theorem dX6_readSetting_137 : decode cX6_readSetting 137 = .ok (.getfield 22, 3) := by decide +kernel
theorem dX6_readSetting_140 : decode cX6_readSetting 140 = .ok (.aload_n 0, 1) := by decide +kernel
theorem dX6_readSetting_141 : decode cX6_readSetting 141 = .ok (.iconst 1, 1) := by decide +kernel
theorem dX6_readSetting_142 : decode cX6_readSetting 142 = .ok (.bipush 8, 2) := by decide +kernel
theorem dX6_readSetting_144 : decode cX6_readSetting 144 = .ok (.invokevirtual 127, 3) := by decide +kernel
theorem dX6_readSetting_147 : decode cX6_readSetting 147 = .ok (.putfield 148, 3) := by decide +kernel
theorem dX6_readSetting_150 : decode cX6_readSetting 150 = .ok (.goto 7, 3) := by decide +kernel
theorem dX6_readSetting_153 : decode cX6_readSetting 153 = .ok (.aload_n 0, 1) := by decide +kernel
theorem dX6_readSetting_154 : decode cX6_readSetting 154 = .ok (.invokevirtual 150, 3) := by decide +kernel
theorem dX6_readSetting_157 : decode cX6_readSetting 157 = .ok (.return_, 1) := by decide +kernel
theorem dX6_readOffset_0 : decode cX6_readOffset 0 = .ok (.aload_n 0, 1) := by decide +kernel
theorem dX6_readOffset_1 : decode cX6_readOffset 1 = .ok (.getfield 58, 3) := by decide +kernel
theorem dX6_readOffset_4 : decode cX6_readOffset 4 = .ok (.bipush 45, 2) := by decide +kernel
theorem dX6_readOffset_6 : decode cX6_readOffset 6 = .ok (.if_icmp .eq 11, 3) := by decide +kernel
theorem dX6_readOffset_9 : decode cX6_readOffset 9 = .ok (.aload_n 0, 1) := by decide +kernel
theorem dX6_readOffset_10 : decode cX6_readOffset 10 = .ok (.iconst 0, 1) := by decide +kernel
theorem dX6_readOffset_11 : decode cX6_readOffset 11 = .ok (.bipush 99, 2) := by decide +kernel
theorem dX6_readOffset_13 : decode cX6_readOffset 13 = .ok (.invokevirtual 127, 3) := by decide +kernel
theorem dX6_readOffset_16 : decode cX6_readOffset 16 = .ok (.ireturn, 1) := by decide +kernel
theorem dX6_readOffset_17 : decode cX6_readOffset 17 = .ok (.aload_n 0, 1) := by decide +kernel
theorem dX6_readOffset_18 : decode cX6_readOffset 18 = .ok (.invokevirtual 55, 3) := by decide +kernel
theorem dX6_readOffset_21 : decode cX6_readOffset 21 = .ok (.aload_n 0, 1) := by decide +kernel
theorem dX6_readOffset_22 : decode cX6_readOffset 22 = .ok (.iconst 0, 1) := by decide +kernel
theorem dX6_readOffset_23 : decode cX6_readOffset 23 = .ok (.bipush 99, 2) := by decide +kernel
theorem dX6_readOffset_25 : decode cX6_readOffset 25 = .ok (.invokevirtual 127, 3) := by decide +kernel
theorem dX6_readOffset_28 : decode cX6_readOffset 28 = .ok (.ineg, 1) := by decide +kernel
theorem dX6_readOffset_29 : decode cX6_readOffset 29 = .ok (.ireturn, 1) := by decide +kernel
theorem dX6_readWord_0 : decode cX6_readWord 0 = .ok (.aload_n 0, 1) := by decide +kernel
theorem dX6_readWord_1 : decode cX6_readWord 1 = .ok (.getfield 22, 3) := by decide +kernel
theorem dX6_readWord_4 : decode cX6_readWord 4 = .ok (.getfield 153, 3) := by decide +kernel
theorem dX6_readWord_7 : decode cX6_readWord 7 = .ok (.iconst 0, 1) := by decide +kernel
theorem dX6_readWord_8 : decode cX6_readWord 8 = .ok (.aload_n 0, 1) := by decide +kernel
theorem dX6_readWord_9 : decode cX6_readWord 9 = .ok (.iconst 0, 1) := by decide +kernel
theorem dX6_readWord_10 : decode cX6_readWord 10 = .ok (.sipush 255, 3) := by decide +kernel
theorem dX6_readWord_13 : decode cX6_readWord 13 = .ok (.invokevirtual 127, 3) := by decide +kernel
theorem dX6_readWord_16 : decode cX6_readWord 16 = .ok (.invokestatic 36, 3) := by decide +kernel
theorem dX6_readWord_19 : decode cX6_readWord 19 = .ok (.aload_n 0, 1) := by decide +kernel
theorem dX6_readWord_20 : decode cX6_readWord 20 = .ok (.getfield 22, 3) := by decide +kernel
theorem dX6_readWord_23 : decode cX6_readWord 23 = .ok (.iconst 1, 1) := by decide +kernel
theorem dX6_readWord_24 : decode cX6_readWord 24 = .ok (.putfield 155, 3) := by decide +kernel
theorem dX6_readWord_27 : decode cX6_readWord 27 = .ok (.iconst 1, 1) := by decide +kernel
theorem dX6_readWord_28 : decode cX6_readWord 28 = .ok (.istore_n 1, 1) := by decide +kernel
theorem dX6_readWord_29 : decode cX6_readWord 29 = .ok (.iload_n 1, 1) := by decide +kernel
theorem dX6_readWord_30 : decode cX6_readWord 30 = .ok (.bipush 16, 2) := by decide +kernel
theorem dX6_readWord_32 : decode cX6_readWord 32 = .ok (.if_icmp .ge 46, 3) := by decide +kernel
theorem dX6_readWord_35 : decode cX6_readWord 35 = .ok (.aload_n 0, 1) := by decide +kernel
theorem dX6_readWord_36 : decode cX6_readWord 36 = .ok (.getfield 58, 3) := by decide +kernel
theorem dX6_readWord_39 : decode cX6_readWord 39 = .ok (.iconst 3, 1) := by decide +kernel
theorem dX6_readWord_40 : decode cX6_readWord 40 = .ok (.if_icmp .ne 38, 3) := by decide +kernel
theorem dX6_readWord_43 : decode cX6_readWord 43 = .ok (.aload_n 0, 1) := by decide +kernel
theorem dX6_readWord_44 : decode cX6_readWord 44 = .ok (.getfield 22, 3) := by decide +kernel
theorem dX6_readWord_47 : decode cX6_readWord 47 = .ok (.getfield 153, 3) := by decide +kernel
theorem dX6_readWord_50 : decode cX6_readWord 50 = .ok (.iload_n 1, 1) := by decide +kernel
theorem dX6_readWord_51 : decode cX6_readWord 51 = .ok (.aload_n 0, 1) := by decide +kernel
theorem dX6_readWord_52 : decode cX6_readWord 52 = .ok (.iconst 0, 1) := by decide +kernel
theorem dX6_readWord_53 : decode cX6_readWord 53 = .ok (.sipush 255, 3) := by decide +kernel
theorem dX6_readWord_56 : decode cX6_readWord 56 = .ok (.invokevirtual 127, 3) := by decide +kernel
theorem dX6_readWord_59 : decode cX6_readWord 59 = .ok (.invokestatic 36, 3) := by decide +kernel
theorem dX6_readWord_62 : decode cX6_readWord 62 = .ok (.aload_n 0, 1) := by decide +kernel
theorem dX6_readWord_63 : decode cX6_readWord 63 = .ok (.getfield 22, 3) := by decide +kernel
theorem dX6_readWord_66 : decode cX6_readWord 66 = .ok (.iload_n 1, 1) := by decide +kernel
theorem dX6_readWord_67 : decode cX6_readWord 67 = .ok (.iconst 1, 1) := by decide +kernel
theorem dX6_readWord_68 : decode cX6_readWord 68 = .ok (.iadd, 1) := by decide +kernel
theorem dX6_readWord_69 : decode cX6_readWord 69 = .ok (.putfield 155, 3) := by decide +kernel
theorem dX6_readWord_72 : decode cX6_readWord 72 = .ok (.iinc 1 1, 3) := by decide +kernel
theorem dX6_readWord_75 : decode cX6_readWord 75 = .ok (.goto (-46), 3) := by decide +kernel
theorem dX6_readWord_78 : decode cX6_readWord 78 = .ok (.aload_n 0, 1) := by decide +kernel
theorem dX6_readWord_79 : decode cX6_readWord 79 = .ok (.getfield 58, 3) := by decide +kernel
theorem dX6_readWord_82 : decode cX6_readWord 82 = .ok (.iconst 3, 1) := by decide +kernel
theorem dX6_readWord_83 : decode cX6_readWord 83 = .ok (.if_icmp .ne 8, 3) := by decide +kernel
theorem dX6_readWord_86 : decode cX6_readWord 86 = .ok (.aload_n 0, 1) := by decide +kernel
theorem dX6_readWord_87 : decode cX6_readWord 87 = .ok (.iconst 2, 1) := by decide +kernel
theorem dX6_readWord_88 : decode cX6_readWord 88 = .ok (.invokevirtual 84, 3) := by decide +kernel
theorem dX6_readWord_91 : decode cX6_readWord 91 = .ok (.return_, 1) := by decide +kernel
theorem dX6_readExpr_0 : decode cX6_readExpr 0 = .ok (.iload_n 1, 1) := by decide +kernel
theorem dX6_readExpr_1 : decode cX6_readExpr 1 = .ok (.iconst 5, 1) := by decide +kernel
theorem dX6_readExpr_2 : decode cX6_readExpr 2 = .ok (.if_icmp .lt 9, 3) := by decide +kernel
theorem dX6_readExpr_5 : decode cX6_readExpr 5 = .ok (.aload_n 0, 1) := by decide +kernel
theorem dX6_readExpr_6 : decode cX6_readExpr 6 = .ok (.iload_n 2, 1) := by decide +kernel
theorem dX6_readExpr_7 : decode cX6_readExpr 7 = .ok (.invokevirtual 158, 3) := by decide +kernel
theorem dX6_readExpr_10 : decode cX6_readExpr 10 = .ok (.return_, 1) := by decide +kernel
theorem dX6_readExpr_11 : decode cX6_readExpr 11 = .ok (.iload_n 1, 1) := by decide +kernel
theorem dX6_readExpr_12 : decode cX6_readExpr 12 = .ok (.iconst 2, 1) := by decide +kernel
theorem dX6_readExpr_13 : decode cX6_readExpr 13 = .ok (.if_icmp .ne 10, 3) := by decide +kernel
theorem dX6_readExpr_16 : decode cX6_readExpr 16 = .ok (.aload_n 0, 1) := by decide +kernel
theorem dX6_readExpr_17 : decode cX6_readExpr 17 = .ok (.invokevirtual 161, 3) := by decide +kernel
theorem dX6_readExpr_20 : decode cX6_readExpr 20 = .ok (.goto 4, 3) := by decide +kernel
theorem dX6_readExpr_23 : decode cX6_readExpr 23 = .ok (.iconst 0, 1) := by decide +kernel
theorem dX6_readExpr_24 : decode cX6_readExpr 24 = .ok (.istore_n 3, 1) := by decide +kernel
theorem dX6_readExpr_25 : decode cX6_readExpr 25 = .ok (.aload_n 0, 1) := by decide +kernel
theorem dX6_readExpr_26 : decode cX6_readExpr 26 = .ok (.iload_n 1, 1) := by decide +kernel
theorem dX6_readExpr_27 : decode cX6_readExpr 27 = .ok (.iconst 1, 1) := by decide +kernel
theorem dX6_readExpr_28 : decode cX6_readExpr 28 = .ok (.iadd, 1) := by decide +kernel
theorem dX6_readExpr_29 : decode cX6_readExpr 29 = .ok (.iload_n 2, 1) := by decide +kernel
theorem dX6_readExpr_30 : decode cX6_readExpr 30 = .ok (.invokevirtual 117, 3) := by decide +kernel
theorem dX6_readExpr_33 : decode cX6_readExpr 33 = .ok (.iload_n 1, 1) := by decide +kernel
theorem dX6_readExpr_34 : decode cX6_readExpr 34 = .ok (.iconst 2, 1) := by decide +kernel
theorem dX6_readExpr_35 : decode cX6_readExpr 35 = .ok (.if_icmp .ne 7, 3) := by decide +kernel
theorem dX6_readExpr_38 : decode cX6_readExpr 38 = .ok (.iconst 1, 1) := by decide +kernel
theorem dX6_readExpr_39 : decode cX6_readExpr 39 = .ok (.goto 6, 3) := by decide +kernel
theorem dX6_readExpr_42 : decode cX6_readExpr 42 = .ok (.sipush 700, 3) := by decide +kernel
theorem dX6_readExpr_45 : decode cX6_readExpr 45 = .ok (.istore 4, 2) := by decide +kernel
theorem dX6_readExpr_47 : decode cX6_readExpr 47 = .ok (.iconst 0, 1) := by decide +kernel
theorem dX6_readExpr_48 : decode cX6_readExpr 48 = .ok (.istore 5, 2) := by decide +kernel
theorem dX6_readExpr_50 : decode cX6_readExpr 50 = .ok (.iload 5, 2) := by decide +kernel
theorem dX6_readExpr_52 : decode cX6_readExpr 52 = .ok (.iload 4, 2) := by decide +kernel
theorem dX6_readExpr_54 : decode cX6_readExpr 54 = .ok (.if_icmp .ge 45, 3) := by decide +kernel
theorem dX6_readExpr_57 : decode cX6_readExpr 57 = .ok (.aload_n 0, 1) := by decide +kernel
theorem dX6_readExpr_58 : decode cX6_readExpr 58 = .ok (.iload_n 1, 1) := by decide +kernel
theorem dX6_readExpr_59 : decode cX6_readExpr 59 = .ok (.invokevirtual 164, 3) := by decide +kernel
theorem dX6_readExpr_62 : decode cX6_readExpr 62 = .ok (.ifCond .eq 37, 3) := by decide +kernel
theorem dX6_readExpr_65 : decode cX6_readExpr 65 = .ok (.aload_n 0, 1) := by decide +kernel
theorem dX6_readExpr_66 : decode cX6_readExpr 66 = .ok (.iload_n 1, 1) := by decide +kernel
theorem dX6_readExpr_67 : decode cX6_readExpr 67 = .ok (.invokevirtual 164, 3) := by decide +kernel
theorem dX6_readExpr_70 : decode cX6_readExpr 70 = .ok (.istore 6, 2) := by decide +kernel
theorem dX6_readExpr_72 : decode cX6_readExpr 72 = .ok (.aload_n 0, 1) := by decide +kernel
theorem dX6_readExpr_73 : decode cX6_readExpr 73 = .ok (.invokevirtual 55, 3) := by decide +kernel
theorem dX6_readExpr_76 : decode cX6_readExpr 76 = .ok (.aload_n 0, 1) := by decide +kernel
theorem dX6_readExpr_77 : decode cX6_readExpr 77 = .ok (.iload_n 1, 1) := by decide +kernel
theorem dX6_readExpr_78 : decode cX6_readExpr 78 = .ok (.iconst 1, 1) := by decide +kernel
theorem dX6_readExpr_79 : decode cX6_readExpr 79 = .ok (.iadd, 1) := by decide +kernel
theorem dX6_readExpr_80 : decode cX6_readExpr 80 = .ok (.iload_n 2, 1) := by decide +kernel
theorem dX6_readExpr_81 : decode cX6_readExpr 81 = .ok (.invokevirtual 117, 3) := by decide +kernel
theorem dX6_readExpr_84 : decode cX6_readExpr 84 = .ok (.aload_n 0, 1) := by decide +kernel
theorem dX6_readExpr_85 : decode cX6_readExpr 85 = .ok (.getfield 30, 3) := by decide +kernel
theorem dX6_readExpr_88 : decode cX6_readExpr 88 = .ok (.iload 6, 2) := by decide +kernel
theorem dX6_readExpr_90 : decode cX6_readExpr 90 = .ok (.invokevirtual 167, 3) := by decide +kernel
theorem dX6_readExpr_93 : decode cX6_readExpr 93 = .ok (.iinc 5 1, 3) := by decide +kernel
theorem dX6_readExpr_96 : decode cX6_readExpr 96 = .ok (.goto (-46), 3) := by decide +kernel
theorem dX6_readExpr_99 : decode cX6_readExpr 99 = .ok (.iconst 0, 1) := by decide +kernel
theorem dX6_readExpr_100 : decode cX6_readExpr 100 = .ok (.istore 5, 2) := by decide +kernel
theorem dX6_readExpr_102 : decode cX6_readExpr 102 = .ok (.iload 5, 2) := by decide +kernel
theorem dX6_readExpr_104 : decode cX6_readExpr 104 = .ok (.iload_n 3, 1) := by decide +kernel
theorem dX6_readExpr_105 : decode cX6_readExpr 105 = .ok (.if_icmp .ge 18, 3) := by decide +kernel
theorem dX6_readExpr_108 : decode cX6_readExpr 108 = .ok (.aload_n 0, 1) := by decide +kernel
theorem dX6_readExpr_109 : decode cX6_readExpr 109 = .ok (.getfield 30, 3) := by decide +kernel
theorem dX6_readExpr_112 : decode cX6_readExpr 112 = .ok (.bipush (-5), 2) := by decide +kernel
theorem dX6_readExpr_114 : decode cX6_readExpr 114 = .ok (.invokevirtual 167, 3) := by decide +kernel
theorem dX6_readExpr_117 : decode cX6_readExpr 117 = .ok (.iinc 5 1, 3) := by decide +kernel
theorem dX6_readExpr_120 : decode cX6_readExpr 120 = .ok (.goto (-18), 3) := by decide +kernel
theorem dX6_readExpr_123 : decode cX6_readExpr 123 = .ok (.return_, 1) := by decide +kernel
theorem dX6_readNots_0 : decode cX6_readNots 0 = .ok (.iconst 0, 1) := by decide +kernel
theorem dX6_readNots_1 : decode cX6_readNots 1 = .ok (.istore_n 1, 1) := by decide +kernel
theorem dX6_readNots_2 : decode cX6_readNots 2 = .ok (.iload_n 1, 1) := by decide +kernel
theorem dX6_readNots_3 : decode cX6_readNots 3 = .ok (.bipush 6, 2) := by decide +kernel
theorem dX6_readNots_5 : decode cX6_readNots 5 = .ok (.if_icmp .ge 22, 3) := by decide +kernel
theorem dX6_readNots_8 : decode cX6_readNots 8 = .ok (.aload_n 0, 1) := by decide +kernel
theorem dX6_readNots_9 : decode cX6_readNots 9 = .ok (.ldc 172, 2) := by decide +kernel
theorem dX6_readNots_11 : decode cX6_readNots 11 = .ok (.invokevirtual 93, 3) := by decide +kernel
theorem dX6_readNots_14 : decode cX6_readNots 14 = .ok (.ifCond .eq 13, 3) := by decide +kernel
theorem dX6_readNots_17 : decode cX6_readNots 17 = .ok (.aload_n 0, 1) := by decide +kernel
theorem dX6_readNots_18 : decode cX6_readNots 18 = .ok (.invokevirtual 55, 3) := by decide +kernel
theorem dX6_readNots_21 : decode cX6_readNots 21 = .ok (.iinc 1 1, 3) := by decide +kernel
theorem dX6_readNots_24 : decode cX6_readNots 24 = .ok (.goto (-22), 3) := by decide +kernel
theorem dX6_readNots_27 : decode cX6_readNots 27 = .ok (.aload_n 0, 1) := by decide +kernel
theorem dX6_readNots_28 : decode cX6_readNots 28 = .ok (.ldc 172, 2) := by decide +kernel
theorem dX6_readNots_30 : decode cX6_readNots 30 = .ok (.invokevirtual 93, 3) := by decide +kernel
theorem dX6_readNots_33 : decode cX6_readNots 33 = .ok (.ifCond .eq 8, 3) := by decide +kernel
theorem dX6_readNots_36 : decode cX6_readNots 36 = .ok (.aload_n 0, 1) := by decide +kernel
theorem dX6_readNots_37 : decode cX6_readNots 37 = .ok (.iconst 2, 1) := by decide +kernel
theorem dX6_readNots_38 : decode cX6_readNots 38 = .ok (.invokevirtual 84, 3) := by decide +kernel
theorem dX6_readNots_41 : decode cX6_readNots 41 = .ok (.iload_n 1, 1) := by decide +kernel
theorem dX6_readNots_42 : decode cX6_readNots 42 = .ok (.ireturn, 1) := by decide +kernel
theorem dX6_operatorHere_0 : decode cX6_operatorHere 0 = .ok (.iload_n 1, 1) := by decide +kernel
theorem dX6_operatorHere_1 : decode cX6_operatorHere 1 = .ok (.tableswitch 157 0 4 #[35, 51, 67, 97, 127], 35) := by decide +kernel
theorem dX6_operatorHere_36 : decode cX6_operatorHere 36 = .ok (.aload_n 0, 1) := by decide +kernel
theorem dX6_operatorHere_37 : decode cX6_operatorHere 37 = .ok (.ldc 174, 2) := by decide +kernel
theorem dX6_operatorHere_39 : decode cX6_operatorHere 39 = .ok (.invokevirtual 93, 3) := by decide +kernel
theorem dX6_operatorHere_42 : decode cX6_operatorHere 42 = .ok (.ifCond .eq 8, 3) := by decide +kernel
theorem dX6_operatorHere_45 : decode cX6_operatorHere 45 = .ok (.bipush (-6), 2) := by decide +kernel
theorem dX6_operatorHere_47 : decode cX6_operatorHere 47 = .ok (.goto 4, 3) := by decide +kernel
theorem dX6_operatorHere_50 : decode cX6_operatorHere 50 = .ok (.iconst 0, 1) := by decide +kernel
theorem dX6_operatorHere_51 : decode cX6_operatorHere 51 = .ok (.ireturn, 1) := by decide +kernel
theorem dX6_operatorHere_52 : decode cX6_operatorHere 52 = .ok (.aload_n 0, 1) := by decide +kernel
theorem dX6_operatorHere_53 : decode cX6_operatorHere 53 = .ok (.ldc 176, 2) := by decide +kernel
theorem dX6_operatorHere_55 : decode cX6_operatorHere 55 = .ok (.invokevirtual 93, 3) := by decide +kernel
theorem dX6_operatorHere_58 : decode cX6_operatorHere 58 = .ok (.ifCond .eq 8, 3) := by decide +kernel
theorem dX6_operatorHere_61 : decode cX6_operatorHere 61 = .ok (.bipush (-7), 2) := by decide +kernel
theorem dX6_operatorHere_63 : decode cX6_operatorHere 63 = .ok (.goto 4, 3) := by decide +kernel
theorem dX6_operatorHere_66 : decode cX6_operatorHere 66 = .ok (.iconst 0, 1) := by decide +kernel
theorem dX6_operatorHere_67 : decode cX6_operatorHere 67 = .ok (.ireturn, 1) := by decide +kernel
theorem dX6_operatorHere_68 : decode cX6_operatorHere 68 = .ok (.aload_n 0, 1) := by decide +kernel
theorem dX6_operatorHere_69 : decode cX6_operatorHere 69 = .ok (.getfield 58, 3) := by decide +kernel
theorem dX6_operatorHere_72 : decode cX6_operatorHere 72 = .ok (.bipush 60, 2) := by decide +kernel
theorem dX6_operatorHere_74 : decode cX6_operatorHere 74 = .ok (.if_icmp .ne 8, 3) := by decide +kernel
theorem dX6_operatorHere_77 : decode cX6_operatorHere 77 = .ok (.bipush (-8), 2) := by decide +kernel
theorem dX6_operatorHere_79 : decode cX6_operatorHere 79 = .ok (.goto 18, 3) := by decide +kernel
theorem dX6_operatorHere_82 : decode cX6_operatorHere 82 = .ok (.aload_n 0, 1) := by decide +kernel
theorem dX6_operatorHere_83 : decode cX6_operatorHere 83 = .ok (.getfield 58, 3) := by decide +kernel
theorem dX6_operatorHere_86 : decode cX6_operatorHere 86 = .ok (.bipush 61, 2) := by decide +kernel
theorem dX6_operatorHere_88 : decode cX6_operatorHere 88 = .ok (.if_icmp .ne 8, 3) := by decide +kernel
theorem dX6_operatorHere_91 : decode cX6_operatorHere 91 = .ok (.bipush (-9), 2) := by decide +kernel
theorem dX6_operatorHere_93 : decode cX6_operatorHere 93 = .ok (.goto 4, 3) := by decide +kernel
theorem dX6_operatorHere_96 : decode cX6_operatorHere 96 = .ok (.iconst 0, 1) := by decide +kernel
theorem dX6_operatorHere_97 : decode cX6_operatorHere 97 = .ok (.ireturn, 1) := by decide +kernel
theorem dX6_operatorHere_98 : decode cX6_operatorHere 98 = .ok (.aload_n 0, 1) := by decide +kernel
theorem dX6_operatorHere_99 : decode cX6_operatorHere 99 = .ok (.getfield 58, 3) := by decide +kernel
theorem dX6_operatorHere_102 : decode cX6_operatorHere 102 = .ok (.bipush 43, 2) := by decide +kernel
theorem dX6_operatorHere_104 : decode cX6_operatorHere 104 = .ok (.if_icmp .ne 8, 3) := by decide +kernel
theorem dX6_operatorHere_107 : decode cX6_operatorHere 107 = .ok (.bipush (-10), 2) := by decide +kernel
theorem dX6_operatorHere_109 : decode cX6_operatorHere 109 = .ok (.goto 18, 3) := by decide +kernel
theorem dX6_operatorHere_112 : decode cX6_operatorHere 112 = .ok (.aload_n 0, 1) := by decide +kernel
theorem dX6_operatorHere_113 : decode cX6_operatorHere 113 = .ok (.getfield 58, 3) := by decide +kernel
theorem dX6_operatorHere_116 : decode cX6_operatorHere 116 = .ok (.bipush 45, 2) := by decide +kernel
theorem dX6_operatorHere_118 : decode cX6_operatorHere 118 = .ok (.if_icmp .ne 8, 3) := by decide +kernel
theorem dX6_operatorHere_121 : decode cX6_operatorHere 121 = .ok (.bipush (-11), 2) := by decide +kernel
theorem dX6_operatorHere_123 : decode cX6_operatorHere 123 = .ok (.goto 4, 3) := by decide +kernel
theorem dX6_operatorHere_126 : decode cX6_operatorHere 126 = .ok (.iconst 0, 1) := by decide +kernel
theorem dX6_operatorHere_127 : decode cX6_operatorHere 127 = .ok (.ireturn, 1) := by decide +kernel
theorem dX6_operatorHere_128 : decode cX6_operatorHere 128 = .ok (.aload_n 0, 1) := by decide +kernel
theorem dX6_operatorHere_129 : decode cX6_operatorHere 129 = .ok (.getfield 58, 3) := by decide +kernel
theorem dX6_operatorHere_132 : decode cX6_operatorHere 132 = .ok (.bipush 42, 2) := by decide +kernel
theorem dX6_operatorHere_134 : decode cX6_operatorHere 134 = .ok (.if_icmp .ne 8, 3) := by decide +kernel
theorem dX6_operatorHere_137 : decode cX6_operatorHere 137 = .ok (.bipush (-12), 2) := by decide +kernel
theorem dX6_operatorHere_139 : decode cX6_operatorHere 139 = .ok (.goto 18, 3) := by decide +kernel
theorem dX6_operatorHere_142 : decode cX6_operatorHere 142 = .ok (.aload_n 0, 1) := by decide +kernel
theorem dX6_operatorHere_143 : decode cX6_operatorHere 143 = .ok (.getfield 58, 3) := by decide +kernel
theorem dX6_operatorHere_146 : decode cX6_operatorHere 146 = .ok (.bipush 47, 2) := by decide +kernel
theorem dX6_operatorHere_148 : decode cX6_operatorHere 148 = .ok (.if_icmp .ne 8, 3) := by decide +kernel
theorem dX6_operatorHere_151 : decode cX6_operatorHere 151 = .ok (.bipush (-13), 2) := by decide +kernel
theorem dX6_operatorHere_153 : decode cX6_operatorHere 153 = .ok (.goto 4, 3) := by decide +kernel
theorem dX6_operatorHere_156 : decode cX6_operatorHere 156 = .ok (.iconst 0, 1) := by decide +kernel
theorem dX6_operatorHere_157 : decode cX6_operatorHere 157 = .ok (.ireturn, 1) := by decide +kernel
theorem dX6_operatorHere_158 : decode cX6_operatorHere 158 = .ok (.iconst 0, 1) := by decide +kernel
theorem dX6_operatorHere_159 : decode cX6_operatorHere 159 = .ok (.ireturn, 1) := by decide +kernel
theorem dX6_readPart_0 : decode cX6_readPart 0 = .ok (.aload_n 0, 1) := by decide +kernel
theorem dX6_readPart_1 : decode cX6_readPart 1 = .ok (.getfield 58, 3) := by decide +kernel
theorem dX6_readPart_4 : decode cX6_readPart 4 = .ok (.iconst 3, 1) := by decide +kernel
theorem dX6_readPart_5 : decode cX6_readPart 5 = .ok (.if_icmp .ne 21, 3) := by decide +kernel
theorem dX6_readPart_8 : decode cX6_readPart 8 = .ok (.aload_n 0, 1) := by decide +kernel
theorem dX6_readPart_9 : decode cX6_readPart 9 = .ok (.getfield 30, 3) := by decide +kernel
theorem dX6_readPart_12 : decode cX6_readPart 12 = .ok (.aload_n 0, 1) := by decide +kernel
theorem dX6_readPart_13 : decode cX6_readPart 13 = .ok (.iconst 0, 1) := by decide +kernel
theorem dX6_readPart_14 : decode cX6_readPart 14 = .ok (.sipush 9999, 3) := by decide +kernel
theorem dX6_readPart_17 : decode cX6_readPart 17 = .ok (.invokevirtual 127, 3) := by decide +kernel
theorem dX6_readPart_20 : decode cX6_readPart 20 = .ok (.invokevirtual 167, 3) := by decide +kernel
theorem dX6_readPart_23 : decode cX6_readPart 23 = .ok (.goto 98, 3) := by decide +kernel
theorem dX6_readPart_26 : decode cX6_readPart 26 = .ok (.aload_n 0, 1) := by decide +kernel
theorem dX6_readPart_27 : decode cX6_readPart 27 = .ok (.getfield 58, 3) := by decide +kernel
theorem dX6_readPart_30 : decode cX6_readPart 30 = .ok (.iconst 2, 1) := by decide +kernel
theorem dX6_readPart_31 : decode cX6_readPart 31 = .ok (.if_icmp .ne 10, 3) := by decide +kernel
theorem dX6_readPart_34 : decode cX6_readPart 34 = .ok (.aload_n 0, 1) := by decide +kernel
theorem dX6_readPart_35 : decode cX6_readPart 35 = .ok (.invokevirtual 178, 3) := by decide +kernel
theorem dX6_readPart_38 : decode cX6_readPart 38 = .ok (.goto 83, 3) := by decide +kernel
theorem dX6_readPart_41 : decode cX6_readPart 41 = .ok (.aload_n 0, 1) := by decide +kernel
theorem dX6_readPart_42 : decode cX6_readPart 42 = .ok (.getfield 58, 3) := by decide +kernel
theorem dX6_readPart_45 : decode cX6_readPart 45 = .ok (.bipush 40, 2) := by decide +kernel
theorem dX6_readPart_47 : decode cX6_readPart 47 = .ok (.if_icmp .ne 69, 3) := by decide +kernel
theorem dX6_readPart_50 : decode cX6_readPart 50 = .ok (.aload_n 0, 1) := by decide +kernel
theorem dX6_readPart_51 : decode cX6_readPart 51 = .ok (.invokevirtual 55, 3) := by decide +kernel
theorem dX6_readPart_54 : decode cX6_readPart 54 = .ok (.iload_n 1, 1) := by decide +kernel
theorem dX6_readPart_55 : decode cX6_readPart 55 = .ok (.iconst 1, 1) := by decide +kernel
theorem dX6_readPart_56 : decode cX6_readPart 56 = .ok (.iadd, 1) := by decide +kernel
theorem dX6_readPart_57 : decode cX6_readPart 57 = .ok (.bipush 6, 2) := by decide +kernel
theorem dX6_readPart_59 : decode cX6_readPart 59 = .ok (.if_icmp .ge 14, 3) := by decide +kernel
theorem dX6_readPart_62 : decode cX6_readPart 62 = .ok (.aload_n 0, 1) := by decide +kernel
theorem dX6_readPart_63 : decode cX6_readPart 63 = .ok (.iconst 0, 1) := by decide +kernel
theorem dX6_readPart_64 : decode cX6_readPart 64 = .ok (.iload_n 1, 1) := by decide +kernel
theorem dX6_readPart_65 : decode cX6_readPart 65 = .ok (.iconst 1, 1) := by decide +kernel
theorem dX6_readPart_66 : decode cX6_readPart 66 = .ok (.iadd, 1) := by decide +kernel
theorem dX6_readPart_67 : decode cX6_readPart 67 = .ok (.invokevirtual 117, 3) := by decide +kernel
theorem dX6_readPart_70 : decode cX6_readPart 70 = .ok (.goto 37, 3) := by decide +kernel
theorem dX6_readPart_73 : decode cX6_readPart 73 = .ok (.aload_n 0, 1) := by decide +kernel
theorem dX6_readPart_74 : decode cX6_readPart 74 = .ok (.aload_n 0, 1) := by decide +kernel
theorem dX6_readPart_75 : decode cX6_readPart 75 = .ok (.getfield 58, 3) := by decide +kernel
theorem dX6_readPart_78 : decode cX6_readPart 78 = .ok (.iconst 3, 1) := by decide +kernel
theorem dX6_readPart_79 : decode cX6_readPart 79 = .ok (.if_icmp .eq 20, 3) := by decide +kernel
theorem dX6_readPart_82 : decode cX6_readPart 82 = .ok (.aload_n 0, 1) := by decide +kernel
theorem dX6_readPart_83 : decode cX6_readPart 83 = .ok (.getfield 58, 3) := by decide +kernel
theorem dX6_readPart_86 : decode cX6_readPart 86 = .ok (.iconst 2, 1) := by decide +kernel
theorem dX6_readPart_87 : decode cX6_readPart 87 = .ok (.if_icmp .eq 12, 3) := by decide +kernel
theorem dX6_readPart_90 : decode cX6_readPart 90 = .ok (.aload_n 0, 1) := by decide +kernel
theorem dX6_readPart_91 : decode cX6_readPart 91 = .ok (.getfield 58, 3) := by decide +kernel
theorem dX6_readPart_94 : decode cX6_readPart 94 = .ok (.bipush 40, 2) := by decide +kernel
theorem dX6_readPart_96 : decode cX6_readPart 96 = .ok (.if_icmp .ne 7, 3) := by decide +kernel
theorem dX6_readPart_99 : decode cX6_readPart 99 = .ok (.iconst 2, 1) := by decide +kernel
theorem dX6_readPart_100 : decode cX6_readPart 100 = .ok (.goto 4, 3) := by decide +kernel
theorem dX6_readPart_103 : decode cX6_readPart 103 = .ok (.iconst 1, 1) := by decide +kernel
theorem dX6_readPart_104 : decode cX6_readPart 104 = .ok (.invokevirtual 84, 3) := by decide +kernel
theorem dX6_readPart_107 : decode cX6_readPart 107 = .ok (.aload_n 0, 1) := by decide +kernel
theorem dX6_readPart_108 : decode cX6_readPart 108 = .ok (.bipush 41, 2) := by decide +kernel
theorem dX6_readPart_110 : decode cX6_readPart 110 = .ok (.invokevirtual 124, 3) := by decide +kernel
theorem dX6_readPart_113 : decode cX6_readPart 113 = .ok (.goto 8, 3) := by decide +kernel
theorem dX6_readPart_116 : decode cX6_readPart 116 = .ok (.aload_n 0, 1) := by decide +kernel
theorem dX6_readPart_117 : decode cX6_readPart 117 = .ok (.iconst 1, 1) := by decide +kernel
theorem dX6_readPart_118 : decode cX6_readPart 118 = .ok (.invokevirtual 84, 3) := by decide +kernel
theorem dX6_readPart_121 : decode cX6_readPart 121 = .ok (.return_, 1) := by decide +kernel
theorem dX6_readValue_0 : decode cX6_readValue 0 = .ok (.aload_n 0, 1) := by decide +kernel
theorem dX6_readValue_1 : decode cX6_readValue 1 = .ok (.ldc 181, 2) := by decide +kernel
theorem dX6_readValue_3 : decode cX6_readValue 3 = .ok (.invokevirtual 93, 3) := by decide +kernel
theorem dX6_readValue_6 : decode cX6_readValue 6 = .ok (.ifCond .eq 14, 3) := by decide +kernel
theorem dX6_readValue_9 : decode cX6_readValue 9 = .ok (.aload_n 0, 1) := by decide +kernel
theorem dX6_readValue_10 : decode cX6_readValue 10 = .ok (.getfield 30, 3) := by decide +kernel
theorem dX6_readValue_13 : decode cX6_readValue 13 = .ok (.iconst (-1), 1) := by decide +kernel
theorem dX6_readValue_14 : decode cX6_readValue 14 = .ok (.invokevirtual 167, 3) := by decide +kernel
theorem dX6_readValue_17 : decode cX6_readValue 17 = .ok (.goto 71, 3) := by decide +kernel
theorem dX6_readValue_20 : decode cX6_readValue 20 = .ok (.aload_n 0, 1) := by decide +kernel
theorem dX6_readValue_21 : decode cX6_readValue 21 = .ok (.ldc 183, 2) := by decide +kernel
theorem dX6_readValue_23 : decode cX6_readValue 23 = .ok (.invokevirtual 93, 3) := by decide +kernel
theorem dX6_readValue_26 : decode cX6_readValue 26 = .ok (.ifCond .eq 15, 3) := by decide +kernel
theorem dX6_readValue_29 : decode cX6_readValue 29 = .ok (.aload_n 0, 1) := by decide +kernel
theorem dX6_readValue_30 : decode cX6_readValue 30 = .ok (.getfield 30, 3) := by decide +kernel
theorem dX6_readValue_33 : decode cX6_readValue 33 = .ok (.bipush (-2), 2) := by decide +kernel
theorem dX6_readValue_35 : decode cX6_readValue 35 = .ok (.invokevirtual 167, 3) := by decide +kernel
theorem dX6_readValue_38 : decode cX6_readValue 38 = .ok (.goto 50, 3) := by decide +kernel
theorem dX6_readValue_41 : decode cX6_readValue 41 = .ok (.aload_n 0, 1) := by decide +kernel
theorem dX6_readValue_42 : decode cX6_readValue 42 = .ok (.ldc 185, 2) := by decide +kernel
theorem dX6_readValue_44 : decode cX6_readValue 44 = .ok (.invokevirtual 93, 3) := by decide +kernel
theorem dX6_readValue_47 : decode cX6_readValue 47 = .ok (.ifCond .eq 15, 3) := by decide +kernel
theorem dX6_readValue_50 : decode cX6_readValue 50 = .ok (.aload_n 0, 1) := by decide +kernel
theorem dX6_readValue_51 : decode cX6_readValue 51 = .ok (.getfield 30, 3) := by decide +kernel
theorem dX6_readValue_54 : decode cX6_readValue 54 = .ok (.bipush (-3), 2) := by decide +kernel
theorem dX6_readValue_56 : decode cX6_readValue 56 = .ok (.invokevirtual 167, 3) := by decide +kernel
theorem dX6_readValue_59 : decode cX6_readValue 59 = .ok (.goto 29, 3) := by decide +kernel
theorem dX6_readValue_62 : decode cX6_readValue 62 = .ok (.aload_n 0, 1) := by decide +kernel
theorem dX6_readValue_63 : decode cX6_readValue 63 = .ok (.ldc 187, 2) := by decide +kernel
theorem dX6_readValue_65 : decode cX6_readValue 65 = .ok (.invokevirtual 93, 3) := by decide +kernel
theorem dX6_readValue_68 : decode cX6_readValue 68 = .ok (.ifCond .eq 15, 3) := by decide +kernel
theorem dX6_readValue_71 : decode cX6_readValue 71 = .ok (.aload_n 0, 1) := by decide +kernel
theorem dX6_readValue_72 : decode cX6_readValue 72 = .ok (.getfield 30, 3) := by decide +kernel
theorem dX6_readValue_75 : decode cX6_readValue 75 = .ok (.bipush (-4), 2) := by decide +kernel
theorem dX6_readValue_77 : decode cX6_readValue 77 = .ok (.invokevirtual 167, 3) := by decide +kernel
theorem dX6_readValue_80 : decode cX6_readValue 80 = .ok (.goto 8, 3) := by decide +kernel
theorem dX6_readValue_83 : decode cX6_readValue 83 = .ok (.aload_n 0, 1) := by decide +kernel
theorem dX6_readValue_84 : decode cX6_readValue 84 = .ok (.iconst 3, 1) := by decide +kernel
theorem dX6_readValue_85 : decode cX6_readValue 85 = .ok (.invokevirtual 84, 3) := by decide +kernel
theorem dX6_readValue_88 : decode cX6_readValue 88 = .ok (.aload_n 0, 1) := by decide +kernel
theorem dX6_readValue_89 : decode cX6_readValue 89 = .ok (.invokevirtual 55, 3) := by decide +kernel
theorem dX6_readValue_92 : decode cX6_readValue 92 = .ok (.return_, 1) := by decide +kernel
theorem dX8_init_0 : decode cX8_init 0 = .ok (.aload_n 0, 1) := by decide +kernel
theorem dX8_init_1 : decode cX8_init 1 = .ok (.invokespecial 3, 3) := by decide +kernel
theorem dX8_init_4 : decode cX8_init 4 = .ok (.aload_n 0, 1) := by decide +kernel
theorem dX8_init_5 : decode cX8_init 5 = .ok (.new 9, 3) := by decide +kernel
theorem dX8_init_8 : decode cX8_init 8 = .ok (.dup, 1) := by decide +kernel
theorem dX8_init_9 : decode cX8_init 9 = .ok (.invokespecial 11, 3) := by decide +kernel
theorem dX8_init_12 : decode cX8_init 12 = .ok (.putfield 12, 3) := by decide +kernel
theorem dX8_init_15 : decode cX8_init 15 = .ok (.aload_n 0, 1) := by decide +kernel
theorem dX8_init_16 : decode cX8_init 16 = .ok (.new 9, 3) := by decide +kernel
theorem dX8_init_19 : decode cX8_init 19 = .ok (.dup, 1) := by decide +kernel
theorem dX8_init_20 : decode cX8_init 20 = .ok (.invokespecial 11, 3) := by decide +kernel
theorem dX8_init_23 : decode cX8_init 23 = .ok (.putfield 18, 3) := by decide +kernel
theorem dX8_init_26 : decode cX8_init 26 = .ok (.aload_n 0, 1) := by decide +kernel
theorem dX8_init_27 : decode cX8_init 27 = .ok (.bipush 40, 2) := by decide +kernel
theorem dX8_init_29 : decode cX8_init 29 = .ok (.newarray .int, 2) := by decide +kernel
theorem dX8_init_31 : decode cX8_init 31 = .ok (.putfield 21, 3) := by decide +kernel
theorem dX8_init_34 : decode cX8_init 34 = .ok (.aload_n 0, 1) := by decide +kernel
theorem dX8_init_35 : decode cX8_init 35 = .ok (.bipush 40, 2) := by decide +kernel
theorem dX8_init_37 : decode cX8_init 37 = .ok (.newarray .int, 2) := by decide +kernel
theorem dX8_init_39 : decode cX8_init 39 = .ok (.putfield 25, 3) := by decide +kernel
theorem dX8_init_42 : decode cX8_init 42 = .ok (.aload_n 0, 1) := by decide +kernel
theorem dX8_init_43 : decode cX8_init 43 = .ok (.bipush 8, 2) := by decide +kernel
theorem dX8_init_45 : decode cX8_init 45 = .ok (.newarray .int, 2) := by decide +kernel
theorem dX8_init_47 : decode cX8_init 47 = .ok (.putfield 28, 3) := by decide +kernel
theorem dX8_init_50 : decode cX8_init 50 = .ok (.aload_n 0, 1) := by decide +kernel
theorem dX8_init_51 : decode cX8_init 51 = .ok (.bipush 8, 2) := by decide +kernel
theorem dX8_init_53 : decode cX8_init 53 = .ok (.newarray .int, 2) := by decide +kernel
theorem dX8_init_55 : decode cX8_init 55 = .ok (.putfield 31, 3) := by decide +kernel
theorem dX8_init_58 : decode cX8_init 58 = .ok (.aload_n 0, 1) := by decide +kernel
theorem dX8_init_59 : decode cX8_init 59 = .ok (.iconst 3, 1) := by decide +kernel
theorem dX8_init_60 : decode cX8_init 60 = .ok (.newarray .int, 2) := by decide +kernel
theorem dX8_init_62 : decode cX8_init 62 = .ok (.putfield 34, 3) := by decide +kernel
theorem dX8_init_65 : decode cX8_init 65 = .ok (.return_, 1) := by decide +kernel
theorem dX8_begin_0 : decode cX8_begin 0 = .ok (.aload_n 0, 1) := by decide +kernel
theorem dX8_begin_1 : decode cX8_begin 1 = .ok (.getfield 12, 3) := by decide +kernel
theorem dX8_begin_4 : decode cX8_begin 4 = .ok (.aload_n 1, 1) := by decide +kernel
theorem dX8_begin_5 : decode cX8_begin 5 = .ok (.invokevirtual 37, 3) := by decide +kernel
theorem dX8_begin_8 : decode cX8_begin 8 = .ok (.aload_n 0, 1) := by decide +kernel
theorem dX8_begin_9 : decode cX8_begin 9 = .ok (.getfield 18, 3) := by decide +kernel
theorem dX8_begin_12 : decode cX8_begin 12 = .ok (.aload_n 1, 1) := by decide +kernel
theorem dX8_begin_13 : decode cX8_begin 13 = .ok (.invokevirtual 37, 3) := by decide +kernel
theorem dX8_begin_16 : decode cX8_begin 16 = .ok (.aload_n 0, 1) := by decide +kernel
theorem dX8_begin_17 : decode cX8_begin 17 = .ok (.iconst 0, 1) := by decide +kernel
theorem dX8_begin_18 : decode cX8_begin 18 = .ok (.putfield 41, 3) := by decide +kernel
theorem dX8_begin_21 : decode cX8_begin 21 = .ok (.aload_n 0, 1) := by decide +kernel
theorem dX8_begin_22 : decode cX8_begin 22 = .ok (.iconst 0, 1) := by decide +kernel
theorem dX8_begin_23 : decode cX8_begin 23 = .ok (.putfield 45, 3) := by decide +kernel
theorem dX8_begin_26 : decode cX8_begin 26 = .ok (.return_, 1) := by decide +kernel
theorem dX8_copyFrom_0 : decode cX8_copyFrom 0 = .ok (.aload_n 0, 1) := by decide +kernel
theorem dX8_copyFrom_1 : decode cX8_copyFrom 1 = .ok (.getfield 12, 3) := by decide +kernel
theorem dX8_copyFrom_4 : decode cX8_copyFrom 4 = .ok (.aload_n 1, 1) := by decide +kernel
theorem dX8_copyFrom_5 : decode cX8_copyFrom 5 = .ok (.getfield 12, 3) := by decide +kernel
theorem dX8_copyFrom_8 : decode cX8_copyFrom 8 = .ok (.invokevirtual 48, 3) := by decide +kernel
theorem dX8_copyFrom_11 : decode cX8_copyFrom 11 = .ok (.aload_n 0, 1) := by decide +kernel
theorem dX8_copyFrom_12 : decode cX8_copyFrom 12 = .ok (.getfield 18, 3) := by decide +kernel
theorem dX8_copyFrom_15 : decode cX8_copyFrom 15 = .ok (.aload_n 1, 1) := by decide +kernel
theorem dX8_copyFrom_16 : decode cX8_copyFrom 16 = .ok (.getfield 18, 3) := by decide +kernel
theorem dX8_copyFrom_19 : decode cX8_copyFrom 19 = .ok (.invokevirtual 48, 3) := by decide +kernel
theorem dX8_copyFrom_22 : decode cX8_copyFrom 22 = .ok (.aload_n 0, 1) := by decide +kernel
theorem dX8_copyFrom_23 : decode cX8_copyFrom 23 = .ok (.aload_n 1, 1) := by decide +kernel
theorem dX8_copyFrom_24 : decode cX8_copyFrom 24 = .ok (.getfield 41, 3) := by decide +kernel
theorem dX8_copyFrom_27 : decode cX8_copyFrom 27 = .ok (.putfield 41, 3) := by decide +kernel
theorem dX8_copyFrom_30 : decode cX8_copyFrom 30 = .ok (.aload_n 1, 1) := by decide +kernel
theorem dX8_copyFrom_31 : decode cX8_copyFrom 31 = .ok (.getfield 21, 3) := by decide +kernel
theorem dX8_copyFrom_34 : decode cX8_copyFrom 34 = .ok (.aload_n 0, 1) := by decide +kernel
theorem dX8_copyFrom_35 : decode cX8_copyFrom 35 = .ok (.getfield 21, 3) := by decide +kernel
theorem dX8_copyFrom_38 : decode cX8_copyFrom 38 = .ok (.invokestatic 52, 3) := by decide +kernel
theorem dX8_copyFrom_41 : decode cX8_copyFrom 41 = .ok (.aload_n 1, 1) := by decide +kernel
theorem dX8_copyFrom_42 : decode cX8_copyFrom 42 = .ok (.getfield 25, 3) := by decide +kernel
theorem dX8_copyFrom_45 : decode cX8_copyFrom 45 = .ok (.aload_n 0, 1) := by decide +kernel
theorem dX8_copyFrom_46 : decode cX8_copyFrom 46 = .ok (.getfield 25, 3) := by decide +kernel
theorem dX8_copyFrom_49 : decode cX8_copyFrom 49 = .ok (.invokestatic 52, 3) := by decide +kernel
theorem dX8_copyFrom_52 : decode cX8_copyFrom 52 = .ok (.aload_n 0, 1) := by decide +kernel
theorem dX8_copyFrom_53 : decode cX8_copyFrom 53 = .ok (.aload_n 1, 1) := by decide +kernel
theorem dX8_copyFrom_54 : decode cX8_copyFrom 54 = .ok (.getfield 45, 3) := by decide +kernel
theorem dX8_copyFrom_57 : decode cX8_copyFrom 57 = .ok (.putfield 45, 3) := by decide +kernel
theorem dX8_copyFrom_60 : decode cX8_copyFrom 60 = .ok (.aload_n 1, 1) := by decide +kernel
theorem dX8_copyFrom_61 : decode cX8_copyFrom 61 = .ok (.getfield 28, 3) := by decide +kernel
theorem dX8_copyFrom_64 : decode cX8_copyFrom 64 = .ok (.aload_n 0, 1) := by decide +kernel
theorem dX8_copyFrom_65 : decode cX8_copyFrom 65 = .ok (.getfield 28, 3) := by decide +kernel
theorem dX8_copyFrom_68 : decode cX8_copyFrom 68 = .ok (.invokestatic 52, 3) := by decide +kernel
theorem dX8_copyFrom_71 : decode cX8_copyFrom 71 = .ok (.aload_n 1, 1) := by decide +kernel
theorem dX8_copyFrom_72 : decode cX8_copyFrom 72 = .ok (.getfield 31, 3) := by decide +kernel
theorem dX8_copyFrom_75 : decode cX8_copyFrom 75 = .ok (.aload_n 0, 1) := by decide +kernel
theorem dX8_copyFrom_76 : decode cX8_copyFrom 76 = .ok (.getfield 31, 3) := by decide +kernel
theorem dX8_copyFrom_79 : decode cX8_copyFrom 79 = .ok (.invokestatic 52, 3) := by decide +kernel
theorem dX8_copyFrom_82 : decode cX8_copyFrom 82 = .ok (.aload_n 1, 1) := by decide +kernel
theorem dX8_copyFrom_83 : decode cX8_copyFrom 83 = .ok (.getfield 34, 3) := by decide +kernel
theorem dX8_copyFrom_86 : decode cX8_copyFrom 86 = .ok (.aload_n 0, 1) := by decide +kernel
theorem dX8_copyFrom_87 : decode cX8_copyFrom 87 = .ok (.getfield 34, 3) := by decide +kernel
theorem dX8_copyFrom_90 : decode cX8_copyFrom 90 = .ok (.invokestatic 52, 3) := by decide +kernel
theorem dX8_copyFrom_93 : decode cX8_copyFrom 93 = .ok (.return_, 1) := by decide +kernel
theorem dX8_refuse_0 : decode cX8_refuse 0 = .ok (.aload_n 0, 1) := by decide +kernel
theorem dX8_refuse_1 : decode cX8_refuse 1 = .ok (.getfield 34, 3) := by decide +kernel
theorem dX8_refuse_4 : decode cX8_refuse 4 = .ok (.iload_n 1, 1) := by decide +kernel
theorem dX8_refuse_5 : decode cX8_refuse 5 = .ok (.aload_n 0, 1) := by decide +kernel
theorem dX8_refuse_6 : decode cX8_refuse 6 = .ok (.getfield 34, 3) := by decide +kernel
theorem dX8_refuse_9 : decode cX8_refuse 9 = .ok (.iload_n 1, 1) := by decide +kernel
theorem dX8_refuse_10 : decode cX8_refuse 10 = .ok (.invokestatic 56, 3) := by decide +kernel
theorem dX8_refuse_13 : decode cX8_refuse 13 = .ok (.iconst 1, 1) := by decide +kernel
theorem dX8_refuse_14 : decode cX8_refuse 14 = .ok (.iadd, 1) := by decide +kernel
theorem dX8_refuse_15 : decode cX8_refuse 15 = .ok (.invokestatic 60, 3) := by decide +kernel
theorem dX8_refuse_18 : decode cX8_refuse 18 = .ok (.return_, 1) := by decide +kernel
theorem dX8_act_0 : decode cX8_act 0 = .ok (.aload_n 0, 1) := by decide +kernel
theorem dX8_act_1 : decode cX8_act 1 = .ok (.getfield 41, 3) := by decide +kernel
theorem dX8_act_4 : decode cX8_act 4 = .ok (.bipush 40, 2) := by decide +kernel
theorem dX8_act_6 : decode cX8_act 6 = .ok (.if_icmp .lt 67, 3) := by decide +kernel
theorem dX8_act_9 : decode cX8_act 9 = .ok (.aload_n 0, 1) := by decide +kernel
theorem dX8_act_10 : decode cX8_act 10 = .ok (.getfield 18, 3) := by decide +kernel
theorem dX8_act_13 : decode cX8_act 13 = .ok (.aload_n 1, 1) := by decide +kernel
theorem dX8_act_14 : decode cX8_act 14 = .ok (.aload_n 0, 1) := by decide +kernel
theorem dX8_act_15 : decode cX8_act 15 = .ok (.getfield 21, 3) := by decide +kernel
theorem dX8_act_18 : decode cX8_act 18 = .ok (.iconst 0, 1) := by decide +kernel
theorem dX8_act_19 : decode cX8_act 19 = .ok (.invokestatic 56, 3) := by decide +kernel
theorem dX8_act_22 : decode cX8_act 22 = .ok (.aload_n 0, 1) := by decide +kernel
theorem dX8_act_23 : decode cX8_act 23 = .ok (.getfield 25, 3) := by decide +kernel
theorem dX8_act_26 : decode cX8_act 26 = .ok (.iconst 0, 1) := by decide +kernel
theorem dX8_act_27 : decode cX8_act 27 = .ok (.invokestatic 56, 3) := by decide +kernel
theorem dX8_act_30 : decode cX8_act 30 = .ok (.invokevirtual 64, 3) := by decide +kernel
theorem dX8_act_33 : decode cX8_act 33 = .ok (.aload_n 0, 1) := by decide +kernel
theorem dX8_act_34 : decode cX8_act 34 = .ok (.getfield 21, 3) := by decide +kernel
theorem dX8_act_37 : decode cX8_act 37 = .ok (.iconst 1, 1) := by decide +kernel
theorem dX8_act_38 : decode cX8_act 38 = .ok (.aload_n 0, 1) := by decide +kernel
theorem dX8_act_39 : decode cX8_act 39 = .ok (.getfield 21, 3) := by decide +kernel
theorem dX8_act_42 : decode cX8_act 42 = .ok (.iconst 0, 1) := by decide +kernel
theorem dX8_act_43 : decode cX8_act 43 = .ok (.bipush 39, 2) := by decide +kernel
theorem dX8_act_45 : decode cX8_act 45 = .ok (.invokestatic 68, 3) := by decide +kernel
theorem dX8_act_48 : decode cX8_act 48 = .ok (.aload_n 0, 1) := by decide +kernel
theorem dX8_act_49 : decode cX8_act 49 = .ok (.getfield 25, 3) := by decide +kernel
theorem dX8_act_52 : decode cX8_act 52 = .ok (.iconst 1, 1) := by decide +kernel
theorem dX8_act_53 : decode cX8_act 53 = .ok (.aload_n 0, 1) := by decide +kernel
theorem dX8_act_54 : decode cX8_act 54 = .ok (.getfield 25, 3) := by decide +kernel
theorem dX8_act_57 : decode cX8_act 57 = .ok (.iconst 0, 1) := by decide +kernel
theorem dX8_act_58 : decode cX8_act 58 = .ok (.bipush 39, 2) := by decide +kernel
theorem dX8_act_60 : decode cX8_act 60 = .ok (.invokestatic 68, 3) := by decide +kernel
theorem dX8_act_63 : decode cX8_act 63 = .ok (.aload_n 0, 1) := by decide +kernel
theorem dX8_act_64 : decode cX8_act 64 = .ok (.dup, 1) := by decide +kernel
theorem dX8_act_65 : decode cX8_act 65 = .ok (.getfield 41, 3) := by decide +kernel
theorem dX8_act_68 : decode cX8_act 68 = .ok (.iconst 1, 1) := by decide +kernel
theorem dX8_act_69 : decode cX8_act 69 = .ok (.isub, 1) := by decide +kernel
theorem dX8_act_70 : decode cX8_act 70 = .ok (.putfield 41, 3) := by decide +kernel
theorem dX8_act_73 : decode cX8_act 73 = .ok (.aload_n 0, 1) := by decide +kernel
theorem dX8_act_74 : decode cX8_act 74 = .ok (.getfield 21, 3) := by decide +kernel
theorem dX8_act_77 : decode cX8_act 77 = .ok (.aload_n 0, 1) := by decide +kernel
theorem dX8_act_78 : decode cX8_act 78 = .ok (.getfield 41, 3) := by decide +kernel
theorem dX8_act_81 : decode cX8_act 81 = .ok (.iload_n 2, 1) := by decide +kernel
theorem dX8_act_82 : decode cX8_act 82 = .ok (.invokestatic 60, 3) := by decide +kernel
theorem dX8_act_85 : decode cX8_act 85 = .ok (.aload_n 0, 1) := by decide +kernel
theorem dX8_act_86 : decode cX8_act 86 = .ok (.getfield 25, 3) := by decide +kernel
theorem dX8_act_89 : decode cX8_act 89 = .ok (.aload_n 0, 1) := by decide +kernel
theorem dX8_act_90 : decode cX8_act 90 = .ok (.getfield 41, 3) := by decide +kernel
theorem dX8_act_93 : decode cX8_act 93 = .ok (.iload_n 3, 1) := by decide +kernel
theorem dX8_act_94 : decode cX8_act 94 = .ok (.invokestatic 60, 3) := by decide +kernel
theorem dX8_act_97 : decode cX8_act 97 = .ok (.aload_n 0, 1) := by decide +kernel
theorem dX8_act_98 : decode cX8_act 98 = .ok (.dup, 1) := by decide +kernel
theorem dX8_act_99 : decode cX8_act 99 = .ok (.getfield 41, 3) := by decide +kernel
theorem dX8_act_102 : decode cX8_act 102 = .ok (.iconst 1, 1) := by decide +kernel
theorem dX8_act_103 : decode cX8_act 103 = .ok (.iadd, 1) := by decide +kernel
theorem dX8_act_104 : decode cX8_act 104 = .ok (.putfield 41, 3) := by decide +kernel
theorem dX8_act_107 : decode cX8_act 107 = .ok (.aload_n 0, 1) := by decide +kernel
theorem dX8_act_108 : decode cX8_act 108 = .ok (.getfield 12, 3) := by decide +kernel
theorem dX8_act_111 : decode cX8_act 111 = .ok (.aload_n 1, 1) := by decide +kernel
theorem dX8_act_112 : decode cX8_act 112 = .ok (.iload_n 2, 1) := by decide +kernel
theorem dX8_act_113 : decode cX8_act 113 = .ok (.iload_n 3, 1) := by decide +kernel
theorem dX8_act_114 : decode cX8_act 114 = .ok (.invokevirtual 64, 3) := by decide +kernel
theorem dX8_act_117 : decode cX8_act 117 = .ok (.return_, 1) := by decide +kernel
theorem dX8_takeBack_0 : decode cX8_takeBack 0 = .ok (.aload_n 0, 1) := by decide +kernel
theorem dX8_takeBack_1 : decode cX8_takeBack 1 = .ok (.getfield 41, 3) := by decide +kernel
theorem dX8_takeBack_4 : decode cX8_takeBack 4 = .ok (.ifCond .gt 5, 3) := by decide +kernel
theorem dX8_takeBack_7 : decode cX8_takeBack 7 = .ok (.iconst (-1), 1) := by decide +kernel
theorem dX8_takeBack_8 : decode cX8_takeBack 8 = .ok (.ireturn, 1) := by decide +kernel
theorem dX8_takeBack_9 : decode cX8_takeBack 9 = .ok (.aload_n 0, 1) := by decide +kernel
theorem dX8_takeBack_10 : decode cX8_takeBack 10 = .ok (.dup, 1) := by decide +kernel
theorem dX8_takeBack_11 : decode cX8_takeBack 11 = .ok (.getfield 41, 3) := by decide +kernel
theorem dX8_takeBack_14 : decode cX8_takeBack 14 = .ok (.iconst 1, 1) := by decide +kernel
theorem dX8_takeBack_15 : decode cX8_takeBack 15 = .ok (.isub, 1) := by decide +kernel
theorem dX8_takeBack_16 : decode cX8_takeBack 16 = .ok (.putfield 41, 3) := by decide +kernel
theorem dX8_takeBack_19 : decode cX8_takeBack 19 = .ok (.aload_n 0, 1) := by decide +kernel
theorem dX8_takeBack_20 : decode cX8_takeBack 20 = .ok (.getfield 12, 3) := by decide +kernel
theorem dX8_takeBack_23 : decode cX8_takeBack 23 = .ok (.aload_n 0, 1) := by decide +kernel
theorem dX8_takeBack_24 : decode cX8_takeBack 24 = .ok (.getfield 18, 3) := by decide +kernel
theorem dX8_takeBack_27 : decode cX8_takeBack 27 = .ok (.invokevirtual 48, 3) := by decide +kernel
theorem dX8_takeBack_30 : decode cX8_takeBack 30 = .ok (.iconst 0, 1) := by decide +kernel
theorem dX8_takeBack_31 : decode cX8_takeBack 31 = .ok (.istore_n 2, 1) := by decide +kernel
theorem dX8_takeBack_32 : decode cX8_takeBack 32 = .ok (.iload_n 2, 1) := by decide +kernel
theorem dX8_takeBack_33 : decode cX8_takeBack 33 = .ok (.aload_n 0, 1) := by decide +kernel
theorem dX8_takeBack_34 : decode cX8_takeBack 34 = .ok (.getfield 41, 3) := by decide +kernel
theorem dX8_takeBack_37 : decode cX8_takeBack 37 = .ok (.if_icmp .ge 33, 3) := by decide +kernel
theorem dX8_takeBack_40 : decode cX8_takeBack 40 = .ok (.aload_n 0, 1) := by decide +kernel
theorem dX8_takeBack_41 : decode cX8_takeBack 41 = .ok (.getfield 12, 3) := by decide +kernel
theorem dX8_takeBack_44 : decode cX8_takeBack 44 = .ok (.aload_n 1, 1) := by decide +kernel
theorem dX8_takeBack_45 : decode cX8_takeBack 45 = .ok (.aload_n 0, 1) := by decide +kernel
theorem dX8_takeBack_46 : decode cX8_takeBack 46 = .ok (.getfield 21, 3) := by decide +kernel
theorem dX8_takeBack_49 : decode cX8_takeBack 49 = .ok (.iload_n 2, 1) := by decide +kernel
theorem dX8_takeBack_50 : decode cX8_takeBack 50 = .ok (.invokestatic 56, 3) := by decide +kernel
theorem dX8_takeBack_53 : decode cX8_takeBack 53 = .ok (.aload_n 0, 1) := by decide +kernel
theorem dX8_takeBack_54 : decode cX8_takeBack 54 = .ok (.getfield 25, 3) := by decide +kernel
theorem dX8_takeBack_57 : decode cX8_takeBack 57 = .ok (.iload_n 2, 1) := by decide +kernel
theorem dX8_takeBack_58 : decode cX8_takeBack 58 = .ok (.invokestatic 56, 3) := by decide +kernel
theorem dX8_takeBack_61 : decode cX8_takeBack 61 = .ok (.invokevirtual 64, 3) := by decide +kernel
theorem dX8_takeBack_64 : decode cX8_takeBack 64 = .ok (.iinc 2 1, 3) := by decide +kernel
theorem dX8_takeBack_67 : decode cX8_takeBack 67 = .ok (.goto (-35), 3) := by decide +kernel
theorem dX8_takeBack_70 : decode cX8_takeBack 70 = .ok (.aload_n 0, 1) := by decide +kernel
theorem dX8_takeBack_71 : decode cX8_takeBack 71 = .ok (.getfield 41, 3) := by decide +kernel
theorem dX8_takeBack_74 : decode cX8_takeBack 74 = .ok (.ireturn, 1) := by decide +kernel
theorem dX8_keepNote_0 : decode cX8_keepNote 0 = .ok (.aload_n 0, 1) := by decide +kernel
theorem dX8_keepNote_1 : decode cX8_keepNote 1 = .ok (.getfield 28, 3) := by decide +kernel
theorem dX8_keepNote_4 : decode cX8_keepNote 4 = .ok (.aload_n 0, 1) := by decide +kernel
theorem dX8_keepNote_5 : decode cX8_keepNote 5 = .ok (.getfield 45, 3) := by decide +kernel
theorem dX8_keepNote_8 : decode cX8_keepNote 8 = .ok (.iload_n 1, 1) := by decide +kernel
theorem dX8_keepNote_9 : decode cX8_keepNote 9 = .ok (.invokestatic 60, 3) := by decide +kernel
theorem dX8_keepNote_12 : decode cX8_keepNote 12 = .ok (.aload_n 0, 1) := by decide +kernel
theorem dX8_keepNote_13 : decode cX8_keepNote 13 = .ok (.getfield 31, 3) := by decide +kernel
theorem dX8_keepNote_16 : decode cX8_keepNote 16 = .ok (.aload_n 0, 1) := by decide +kernel
theorem dX8_keepNote_17 : decode cX8_keepNote 17 = .ok (.getfield 45, 3) := by decide +kernel
theorem dX8_keepNote_20 : decode cX8_keepNote 20 = .ok (.iload_n 2, 1) := by decide +kernel
theorem dX8_keepNote_21 : decode cX8_keepNote 21 = .ok (.invokestatic 60, 3) := by decide +kernel
theorem dX8_keepNote_24 : decode cX8_keepNote 24 = .ok (.aload_n 0, 1) := by decide +kernel
theorem dX8_keepNote_25 : decode cX8_keepNote 25 = .ok (.dup, 1) := by decide +kernel
theorem dX8_keepNote_26 : decode cX8_keepNote 26 = .ok (.getfield 45, 3) := by decide +kernel
theorem dX8_keepNote_29 : decode cX8_keepNote 29 = .ok (.iconst 1, 1) := by decide +kernel
theorem dX8_keepNote_30 : decode cX8_keepNote 30 = .ok (.iadd, 1) := by decide +kernel
theorem dX8_keepNote_31 : decode cX8_keepNote 31 = .ok (.putfield 45, 3) := by decide +kernel
theorem dX8_keepNote_34 : decode cX8_keepNote 34 = .ok (.aload_n 0, 1) := by decide +kernel
theorem dX8_keepNote_35 : decode cX8_keepNote 35 = .ok (.getfield 45, 3) := by decide +kernel
theorem dX8_keepNote_38 : decode cX8_keepNote 38 = .ok (.ireturn, 1) := by decide +kernel
theorem dX8_isNoted_0 : decode cX8_isNoted 0 = .ok (.iconst 0, 1) := by decide +kernel
theorem dX8_isNoted_1 : decode cX8_isNoted 1 = .ok (.istore_n 3, 1) := by decide +kernel
theorem dX8_isNoted_2 : decode cX8_isNoted 2 = .ok (.iload_n 3, 1) := by decide +kernel
theorem dX8_isNoted_3 : decode cX8_isNoted 3 = .ok (.aload_n 0, 1) := by decide +kernel
theorem dX8_isNoted_4 : decode cX8_isNoted 4 = .ok (.getfield 45, 3) := by decide +kernel
theorem dX8_isNoted_7 : decode cX8_isNoted 7 = .ok (.if_icmp .ge 35, 3) := by decide +kernel
theorem dX8_isNoted_10 : decode cX8_isNoted 10 = .ok (.aload_n 0, 1) := by decide +kernel
theorem dX8_isNoted_11 : decode cX8_isNoted 11 = .ok (.getfield 28, 3) := by decide +kernel
theorem dX8_isNoted_14 : decode cX8_isNoted 14 = .ok (.iload_n 3, 1) := by decide +kernel
theorem dX8_isNoted_15 : decode cX8_isNoted 15 = .ok (.invokestatic 56, 3) := by decide +kernel
theorem dX8_isNoted_18 : decode cX8_isNoted 18 = .ok (.iload_n 1, 1) := by decide +kernel
theorem dX8_isNoted_19 : decode cX8_isNoted 19 = .ok (.if_icmp .ne 17, 3) := by decide +kernel
theorem dX8_isNoted_22 : decode cX8_isNoted 22 = .ok (.aload_n 0, 1) := by decide +kernel
theorem dX8_isNoted_23 : decode cX8_isNoted 23 = .ok (.getfield 31, 3) := by decide +kernel
theorem dX8_isNoted_26 : decode cX8_isNoted 26 = .ok (.iload_n 3, 1) := by decide +kernel
theorem dX8_isNoted_27 : decode cX8_isNoted 27 = .ok (.invokestatic 56, 3) := by decide +kernel
theorem dX8_isNoted_30 : decode cX8_isNoted 30 = .ok (.iload_n 2, 1) := by decide +kernel
theorem dX8_isNoted_31 : decode cX8_isNoted 31 = .ok (.if_icmp .eq 5, 3) := by decide +kernel
theorem dX8_isNoted_34 : decode cX8_isNoted 34 = .ok (.iconst 0, 1) := by decide +kernel
theorem dX8_isNoted_35 : decode cX8_isNoted 35 = .ok (.ireturn, 1) := by decide +kernel
theorem dX8_isNoted_36 : decode cX8_isNoted 36 = .ok (.iinc 3 1, 3) := by decide +kernel
theorem dX8_isNoted_39 : decode cX8_isNoted 39 = .ok (.goto (-37), 3) := by decide +kernel
theorem dX8_isNoted_42 : decode cX8_isNoted 42 = .ok (.iconst 1, 1) := by decide +kernel
theorem dX8_isNoted_43 : decode cX8_isNoted 43 = .ok (.ireturn, 1) := by decide +kernel
theorem dX10_init_0 : decode cX10_init 0 = .ok (.aload_n 0, 1) := by decide +kernel
theorem dX10_init_1 : decode cX10_init 1 = .ok (.invokespecial 1, 3) := by decide +kernel
theorem dX10_init_4 : decode cX10_init 4 = .ok (.aload_n 0, 1) := by decide +kernel
theorem dX10_init_5 : decode cX10_init 5 = .ok (.new 7, 3) := by decide +kernel
theorem dX10_init_8 : decode cX10_init 8 = .ok (.dup, 1) := by decide +kernel
theorem dX10_init_9 : decode cX10_init 9 = .ok (.invokespecial 9, 3) := by decide +kernel
theorem dX10_init_12 : decode cX10_init 12 = .ok (.putfield 10, 3) := by decide +kernel
theorem dX10_init_15 : decode cX10_init 15 = .ok (.aload_n 0, 1) := by decide +kernel
theorem dX10_init_16 : decode cX10_init 16 = .ok (.new 16, 3) := by decide +kernel
theorem dX10_init_19 : decode cX10_init 19 = .ok (.dup, 1) := by decide +kernel
theorem dX10_init_20 : decode cX10_init 20 = .ok (.invokespecial 18, 3) := by decide +kernel
theorem dX10_init_23 : decode cX10_init 23 = .ok (.putfield 19, 3) := by decide +kernel
theorem dX10_init_26 : decode cX10_init 26 = .ok (.aload_n 0, 1) := by decide +kernel
theorem dX10_init_27 : decode cX10_init 27 = .ok (.new 23, 3) := by decide +kernel
theorem dX10_init_30 : decode cX10_init 30 = .ok (.dup, 1) := by decide +kernel
theorem dX10_init_31 : decode cX10_init 31 = .ok (.invokespecial 25, 3) := by decide +kernel
theorem dX10_init_34 : decode cX10_init 34 = .ok (.putfield 26, 3) := by decide +kernel
theorem dX10_init_37 : decode cX10_init 37 = .ok (.aload_n 0, 1) := by decide +kernel
theorem dX10_init_38 : decode cX10_init 38 = .ok (.new 23, 3) := by decide +kernel
theorem dX10_init_41 : decode cX10_init 41 = .ok (.dup, 1) := by decide +kernel
theorem dX10_init_42 : decode cX10_init 42 = .ok (.invokespecial 25, 3) := by decide +kernel
theorem dX10_init_45 : decode cX10_init 45 = .ok (.putfield 30, 3) := by decide +kernel
theorem dX10_init_48 : decode cX10_init 48 = .ok (.aload_n 0, 1) := by decide +kernel
theorem dX10_init_49 : decode cX10_init 49 = .ok (.new 33, 3) := by decide +kernel
theorem dX10_init_52 : decode cX10_init 52 = .ok (.dup, 1) := by decide +kernel
theorem dX10_init_53 : decode cX10_init 53 = .ok (.invokespecial 35, 3) := by decide +kernel
theorem dX10_init_56 : decode cX10_init 56 = .ok (.putfield 36, 3) := by decide +kernel
theorem dX10_init_59 : decode cX10_init 59 = .ok (.aload_n 0, 1) := by decide +kernel
theorem dX10_init_60 : decode cX10_init 60 = .ok (.getfield 26, 3) := by decide +kernel
theorem dX10_init_63 : decode cX10_init 63 = .ok (.aload_n 0, 1) := by decide +kernel
theorem dX10_init_64 : decode cX10_init 64 = .ok (.getfield 19, 3) := by decide +kernel
theorem dX10_init_67 : decode cX10_init 67 = .ok (.invokevirtual 40, 3) := by decide +kernel
theorem dX10_init_70 : decode cX10_init 70 = .ok (.return_, 1) := by decide +kernel
theorem dX10_feed_0 : decode cX10_feed 0 = .ok (.aload_n 0, 1) := by decide +kernel
theorem dX10_feed_1 : decode cX10_feed 1 = .ok (.getfield 10, 3) := by decide +kernel
theorem dX10_feed_4 : decode cX10_feed 4 = .ok (.getfield 44, 3) := by decide +kernel
theorem dX10_feed_7 : decode cX10_feed 7 = .ok (.bipush 20, 2) := by decide +kernel
theorem dX10_feed_9 : decode cX10_feed 9 = .ok (.iadd, 1) := by decide +kernel
theorem dX10_feed_10 : decode cX10_feed 10 = .ok (.sipush 700, 3) := by decide +kernel
theorem dX10_feed_13 : decode cX10_feed 13 = .ok (.if_icmp .le 5, 3) := by decide +kernel
theorem dX10_feed_16 : decode cX10_feed 16 = .ok (.iconst (-1), 1) := by decide +kernel
theorem dX10_feed_17 : decode cX10_feed 17 = .ok (.ireturn, 1) := by decide +kernel
theorem dX10_feed_18 : decode cX10_feed 18 = .ok (.aload_n 0, 1) := by decide +kernel
theorem dX10_feed_19 : decode cX10_feed 19 = .ok (.getfield 10, 3) := by decide +kernel
theorem dX10_feed_22 : decode cX10_feed 22 = .ok (.iload_n 1, 1) := by decide +kernel
theorem dX10_feed_23 : decode cX10_feed 23 = .ok (.invokevirtual 48, 3) := by decide +kernel
theorem dX10_feed_26 : decode cX10_feed 26 = .ok (.aload_n 0, 1) := by decide +kernel
theorem dX10_feed_27 : decode cX10_feed 27 = .ok (.getfield 10, 3) := by decide +kernel
theorem dX10_feed_30 : decode cX10_feed 30 = .ok (.iload_n 2, 1) := by decide +kernel
theorem dX10_feed_31 : decode cX10_feed 31 = .ok (.invokevirtual 48, 3) := by decide +kernel
theorem dX10_feed_34 : decode cX10_feed 34 = .ok (.aload_n 0, 1) := by decide +kernel
theorem dX10_feed_35 : decode cX10_feed 35 = .ok (.getfield 10, 3) := by decide +kernel
theorem dX10_feed_38 : decode cX10_feed 38 = .ok (.iload_n 3, 1) := by decide +kernel
theorem dX10_feed_39 : decode cX10_feed 39 = .ok (.invokevirtual 48, 3) := by decide +kernel
theorem dX10_feed_42 : decode cX10_feed 42 = .ok (.aload_n 0, 1) := by decide +kernel
theorem dX10_feed_43 : decode cX10_feed 43 = .ok (.getfield 10, 3) := by decide +kernel
theorem dX10_feed_46 : decode cX10_feed 46 = .ok (.iload 4, 2) := by decide +kernel
theorem dX10_feed_48 : decode cX10_feed 48 = .ok (.invokevirtual 48, 3) := by decide +kernel
theorem dX10_feed_51 : decode cX10_feed 51 = .ok (.aload_n 0, 1) := by decide +kernel
theorem dX10_feed_52 : decode cX10_feed 52 = .ok (.getfield 10, 3) := by decide +kernel
theorem dX10_feed_55 : decode cX10_feed 55 = .ok (.iload 5, 2) := by decide +kernel
theorem dX10_feed_57 : decode cX10_feed 57 = .ok (.invokevirtual 48, 3) := by decide +kernel
theorem dX10_feed_60 : decode cX10_feed 60 = .ok (.aload_n 0, 1) := by decide +kernel
theorem dX10_feed_61 : decode cX10_feed 61 = .ok (.getfield 10, 3) := by decide +kernel
theorem dX10_feed_64 : decode cX10_feed 64 = .ok (.getfield 44, 3) := by decide +kernel
theorem dX10_feed_67 : decode cX10_feed 67 = .ok (.ireturn, 1) := by decide +kernel
theorem dX10_line_0 : decode cX10_line 0 = .ok (.iload_n 1, 1) := by decide +kernel
theorem dX10_line_1 : decode cX10_line 1 = .ok (.ifCond .lt 14, 3) := by decide +kernel
theorem dX10_line_4 : decode cX10_line 4 = .ok (.iload_n 1, 1) := by decide +kernel
theorem dX10_line_5 : decode cX10_line 5 = .ok (.aload_n 0, 1) := by decide +kernel
theorem dX10_line_6 : decode cX10_line 6 = .ok (.getfield 10, 3) := by decide +kernel
theorem dX10_line_9 : decode cX10_line 9 = .ok (.getfield 44, 3) := by decide +kernel
theorem dX10_line_12 : decode cX10_line 12 = .ok (.if_icmp .le 13, 3) := by decide +kernel
theorem dX10_line_15 : decode cX10_line 15 = .ok (.new 52, 3) := by decide +kernel
theorem dX10_line_18 : decode cX10_line 18 = .ok (.dup, 1) := by decide +kernel
theorem dX10_line_19 : decode cX10_line 19 = .ok (.ldc 54, 2) := by decide +kernel
theorem dX10_line_21 : decode cX10_line 21 = .ok (.invokespecial 56, 3) := by decide +kernel
theorem dX10_line_24 : decode cX10_line 24 = .ok (.athrow, 1) := by decide +kernel
theorem dX10_line_25 : decode cX10_line 25 = .ok (.aload_n 0, 1) := by decide +kernel
theorem dX10_line_26 : decode cX10_line 26 = .ok (.getfield 10, 3) := by decide +kernel
theorem dX10_line_29 : decode cX10_line 29 = .ok (.iload_n 1, 1) := by decide +kernel
theorem dX10_line_30 : decode cX10_line 30 = .ok (.invokevirtual 59, 3) := by decide +kernel
theorem dX10_line_33 : decode cX10_line 33 = .ok (.istore_n 2, 1) := by decide +kernel
theorem dX10_line_34 : decode cX10_line 34 = .ok (.iload_n 2, 1) := by decide +kernel
theorem dX10_line_35 : decode cX10_line 35 = .ok (.ifCond .eq 13, 3) := by decide +kernel
theorem dX10_line_38 : decode cX10_line 38 = .ok (.aload_n 0, 1) := by decide +kernel
theorem dX10_line_39 : decode cX10_line 39 = .ok (.getfield 26, 3) := by decide +kernel
theorem dX10_line_42 : decode cX10_line 42 = .ok (.iconst 0, 1) := by decide +kernel
theorem dX10_line_43 : decode cX10_line 43 = .ok (.invokevirtual 63, 3) := by decide +kernel
theorem dX10_line_46 : decode cX10_line 46 = .ok (.iload_n 2, 1) := by decide +kernel
theorem dX10_line_47 : decode cX10_line 47 = .ok (.ireturn, 1) := by decide +kernel
theorem dX10_line_48 : decode cX10_line 48 = .ok (.aload_n 0, 1) := by decide +kernel
theorem dX10_line_49 : decode cX10_line 49 = .ok (.aload_n 0, 1) := by decide +kernel
theorem dX10_line_50 : decode cX10_line 50 = .ok (.getfield 10, 3) := by decide +kernel
theorem dX10_line_53 : decode cX10_line 53 = .ok (.aload_n 0, 1) := by decide +kernel
theorem dX10_line_54 : decode cX10_line 54 = .ok (.getfield 19, 3) := by decide +kernel
theorem dX10_line_57 : decode cX10_line 57 = .ok (.invokevirtual 66, 3) := by decide +kernel
theorem dX10_line_60 : decode cX10_line 60 = .ok (.putfield 19, 3) := by decide +kernel
theorem dX10_line_63 : decode cX10_line 63 = .ok (.aload_n 0, 1) := by decide +kernel
theorem dX10_line_64 : decode cX10_line 64 = .ok (.getfield 26, 3) := by decide +kernel
theorem dX10_line_67 : decode cX10_line 67 = .ok (.aload_n 0, 1) := by decide +kernel
theorem dX10_line_68 : decode cX10_line 68 = .ok (.getfield 19, 3) := by decide +kernel
theorem dX10_line_71 : decode cX10_line 71 = .ok (.invokevirtual 40, 3) := by decide +kernel
theorem dX10_line_74 : decode cX10_line 74 = .ok (.aload_n 0, 1) := by decide +kernel
theorem dX10_line_75 : decode cX10_line 75 = .ok (.iconst 0, 1) := by decide +kernel
theorem dX10_line_76 : decode cX10_line 76 = .ok (.putfield 70, 3) := by decide +kernel
theorem dX10_line_79 : decode cX10_line 79 = .ok (.iconst 0, 1) := by decide +kernel
theorem dX10_line_80 : decode cX10_line 80 = .ok (.ireturn, 1) := by decide +kernel
theorem dX10_fault_0 : decode cX10_fault 0 = .ok (.aload_n 0, 1) := by decide +kernel
theorem dX10_fault_1 : decode cX10_fault 1 = .ok (.getfield 10, 3) := by decide +kernel
theorem dX10_fault_4 : decode cX10_fault 4 = .ok (.getfield 74, 3) := by decide +kernel
theorem dX10_fault_7 : decode cX10_fault 7 = .ok (.ireturn, 1) := by decide +kernel
theorem dX10_count_0 : decode cX10_count 0 = .ok (.aload_n 0, 1) := by decide +kernel
theorem dX10_count_1 : decode cX10_count 1 = .ok (.getfield 26, 3) := by decide +kernel
theorem dX10_count_4 : decode cX10_count 4 = .ok (.getfield 77, 3) := by decide +kernel
theorem dX10_count_7 : decode cX10_count 7 = .ok (.astore_n 2, 1) := by decide +kernel
theorem dX10_count_8 : decode cX10_count 8 = .ok (.iload_n 1, 1) := by decide +kernel
theorem dX10_count_9 : decode cX10_count 9 = .ok (.tableswitch 332 0 22 #[107, 112, 120, 128, 136, 144, 155, 166, 177, 188, 203, 211, 219, 227, 242, 250, 261, 272, 280, 288, 296, 308, 320], 107) := by decide +kernel
theorem dX10_count_116 : decode cX10_count 116 = .ok (.aload_n 2, 1) := by decide +kernel
theorem dX10_count_117 : decode cX10_count 117 = .ok (.getfield 81, 3) := by decide +kernel
theorem dX10_count_120 : decode cX10_count 120 = .ok (.ireturn, 1) := by decide +kernel
theorem dX10_count_121 : decode cX10_count 121 = .ok (.aload_n 2, 1) := by decide +kernel
theorem dX10_count_122 : decode cX10_count 122 = .ok (.getfield 86, 3) := by decide +kernel
theorem dX10_count_125 : decode cX10_count 125 = .ok (.getfield 90, 3) := by decide +kernel
theorem dX10_count_128 : decode cX10_count 128 = .ok (.ireturn, 1) := by decide +kernel
theorem dX10_count_129 : decode cX10_count 129 = .ok (.aload_n 2, 1) := by decide +kernel
theorem dX10_count_130 : decode cX10_count 130 = .ok (.getfield 86, 3) := by decide +kernel
theorem dX10_count_133 : decode cX10_count 133 = .ok (.getfield 95, 3) := by decide +kernel
theorem dX10_count_136 : decode cX10_count 136 = .ok (.ireturn, 1) := by decide +kernel
theorem dX10_count_137 : decode cX10_count 137 = .ok (.aload_n 2, 1) := by decide +kernel
theorem dX10_count_138 : decode cX10_count 138 = .ok (.getfield 86, 3) := by decide +kernel
theorem dX10_count_141 : decode cX10_count 141 = .ok (.getfield 98, 3) := by decide +kernel
theorem dX10_count_144 : decode cX10_count 144 = .ok (.ireturn, 1) := by decide +kernel
theorem dX10_count_145 : decode cX10_count 145 = .ok (.aload_n 2, 1) := by decide +kernel
theorem dX10_count_146 : decode cX10_count 146 = .ok (.getfield 86, 3) := by decide +kernel
theorem dX10_count_149 : decode cX10_count 149 = .ok (.getfield 101, 3) := by decide +kernel
theorem dX10_count_152 : decode cX10_count 152 = .ok (.ireturn, 1) := by decide +kernel
theorem dX10_count_153 : decode cX10_count 153 = .ok (.aload_n 2, 1) := by decide +kernel
theorem dX10_count_154 : decode cX10_count 154 = .ok (.getfield 104, 3) := by decide +kernel
theorem dX10_count_157 : decode cX10_count 157 = .ok (.getfield 108, 3) := by decide +kernel
theorem dX10_count_160 : decode cX10_count 160 = .ok (.getfield 114, 3) := by decide +kernel
theorem dX10_count_163 : decode cX10_count 163 = .ok (.ireturn, 1) := by decide +kernel
theorem dX10_count_164 : decode cX10_count 164 = .ok (.aload_n 2, 1) := by decide +kernel
theorem dX10_count_165 : decode cX10_count 165 = .ok (.getfield 104, 3) := by decide +kernel
theorem dX10_count_168 : decode cX10_count 168 = .ok (.getfield 108, 3) := by decide +kernel
theorem dX10_count_171 : decode cX10_count 171 = .ok (.getfield 119, 3) := by decide +kernel
theorem dX10_count_174 : decode cX10_count 174 = .ok (.ireturn, 1) := by decide +kernel
theorem dX10_count_175 : decode cX10_count 175 = .ok (.aload_n 2, 1) := by decide +kernel
theorem dX10_count_176 : decode cX10_count 176 = .ok (.getfield 104, 3) := by decide +kernel
theorem dX10_count_179 : decode cX10_count 179 = .ok (.getfield 122, 3) := by decide +kernel
theorem dX10_count_182 : decode cX10_count 182 = .ok (.getfield 126, 3) := by decide +kernel
theorem dX10_count_185 : decode cX10_count 185 = .ok (.ireturn, 1) := by decide +kernel
theorem dX10_count_186 : decode cX10_count 186 = .ok (.aload_n 2, 1) := by decide +kernel
theorem dX10_count_187 : decode cX10_count 187 = .ok (.getfield 104, 3) := by decide +kernel
theorem dX10_count_190 : decode cX10_count 190 = .ok (.getfield 122, 3) := by decide +kernel
theorem dX10_count_193 : decode cX10_count 193 = .ok (.getfield 131, 3) := by decide +kernel
theorem dX10_count_196 : decode cX10_count 196 = .ok (.ireturn, 1) := by decide +kernel
theorem dX10_count_197 : decode cX10_count 197 = .ok (.aload_n 2, 1) := by decide +kernel
theorem dX10_count_198 : decode cX10_count 198 = .ok (.getfield 104, 3) := by decide +kernel
theorem dX10_count_201 : decode cX10_count 201 = .ok (.aload_n 0, 1) := by decide +kernel
theorem dX10_count_202 : decode cX10_count 202 = .ok (.getfield 19, 3) := by decide +kernel
theorem dX10_count_205 : decode cX10_count 205 = .ok (.getfield 134, 3) := by decide +kernel
theorem dX10_count_208 : decode cX10_count 208 = .ok (.invokevirtual 137, 3) := by decide +kernel
theorem dX10_count_211 : decode cX10_count 211 = .ok (.ireturn, 1) := by decide +kernel
theorem dX10_count_212 : decode cX10_count 212 = .ok (.aload_n 2, 1) := by decide +kernel
theorem dX10_count_213 : decode cX10_count 213 = .ok (.getfield 104, 3) := by decide +kernel
theorem dX10_count_216 : decode cX10_count 216 = .ok (.getfield 140, 3) := by decide +kernel
theorem dX10_count_219 : decode cX10_count 219 = .ok (.ireturn, 1) := by decide +kernel
theorem dX10_count_220 : decode cX10_count 220 = .ok (.aload_n 2, 1) := by decide +kernel
theorem dX10_count_221 : decode cX10_count 221 = .ok (.getfield 104, 3) := by decide +kernel
theorem dX10_count_224 : decode cX10_count 224 = .ok (.getfield 143, 3) := by decide +kernel
theorem dX10_count_227 : decode cX10_count 227 = .ok (.ireturn, 1) := by decide +kernel
theorem dX10_count_228 : decode cX10_count 228 = .ok (.aload_n 2, 1) := by decide +kernel
theorem dX10_count_229 : decode cX10_count 229 = .ok (.getfield 104, 3) := by decide +kernel
theorem dX10_count_232 : decode cX10_count 232 = .ok (.getfield 146, 3) := by decide +kernel
theorem dX10_count_235 : decode cX10_count 235 = .ok (.ireturn, 1) := by decide +kernel
theorem dX10_count_236 : decode cX10_count 236 = .ok (.aload_n 2, 1) := by decide +kernel
theorem dX10_count_237 : decode cX10_count 237 = .ok (.getfield 104, 3) := by decide +kernel
theorem dX10_count_240 : decode cX10_count 240 = .ok (.aload_n 0, 1) := by decide +kernel
theorem dX10_count_241 : decode cX10_count 241 = .ok (.getfield 19, 3) := by decide +kernel
theorem dX10_count_244 : decode cX10_count 244 = .ok (.getfield 134, 3) := by decide +kernel
theorem dX10_count_247 : decode cX10_count 247 = .ok (.invokevirtual 149, 3) := by decide +kernel
theorem dX10_count_250 : decode cX10_count 250 = .ok (.ireturn, 1) := by decide +kernel
theorem dX10_count_251 : decode cX10_count 251 = .ok (.aload_n 2, 1) := by decide +kernel
theorem dX10_count_252 : decode cX10_count 252 = .ok (.getfield 104, 3) := by decide +kernel
theorem dX10_count_255 : decode cX10_count 255 = .ok (.getfield 152, 3) := by decide +kernel
theorem dX10_count_258 : decode cX10_count 258 = .ok (.ireturn, 1) := by decide +kernel
theorem dX10_count_259 : decode cX10_count 259 = .ok (.aload_n 2, 1) := by decide +kernel
theorem dX10_count_260 : decode cX10_count 260 = .ok (.getfield 104, 3) := by decide +kernel
theorem dX10_count_263 : decode cX10_count 263 = .ok (.getfield 122, 3) := by decide +kernel
theorem dX10_count_266 : decode cX10_count 266 = .ok (.getfield 155, 3) := by decide +kernel
theorem dX10_count_269 : decode cX10_count 269 = .ok (.ireturn, 1) := by decide +kernel
theorem dX10_count_270 : decode cX10_count 270 = .ok (.aload_n 2, 1) := by decide +kernel
theorem dX10_count_271 : decode cX10_count 271 = .ok (.getfield 104, 3) := by decide +kernel
theorem dX10_count_274 : decode cX10_count 274 = .ok (.getfield 122, 3) := by decide +kernel
theorem dX10_count_277 : decode cX10_count 277 = .ok (.invokevirtual 158, 3) := by decide +kernel
theorem dX10_count_280 : decode cX10_count 280 = .ok (.ireturn, 1) := by decide +kernel
theorem dX10_count_281 : decode cX10_count 281 = .ok (.aload_n 0, 1) := by decide +kernel
theorem dX10_count_282 : decode cX10_count 282 = .ok (.getfield 26, 3) := by decide +kernel
theorem dX10_count_285 : decode cX10_count 285 = .ok (.getfield 162, 3) := by decide +kernel
theorem dX10_count_288 : decode cX10_count 288 = .ok (.ireturn, 1) := by decide +kernel
theorem dX10_count_289 : decode cX10_count 289 = .ok (.aload_n 0, 1) := by decide +kernel
theorem dX10_count_290 : decode cX10_count 290 = .ok (.getfield 26, 3) := by decide +kernel
theorem dX10_count_293 : decode cX10_count 293 = .ok (.getfield 165, 3) := by decide +kernel
theorem dX10_count_296 : decode cX10_count 296 = .ok (.ireturn, 1) := by decide +kernel
theorem dX10_count_297 : decode cX10_count 297 = .ok (.aload_n 0, 1) := by decide +kernel
theorem dX10_count_298 : decode cX10_count 298 = .ok (.getfield 10, 3) := by decide +kernel
theorem dX10_count_301 : decode cX10_count 301 = .ok (.getfield 44, 3) := by decide +kernel
theorem dX10_count_304 : decode cX10_count 304 = .ok (.ireturn, 1) := by decide +kernel
theorem dX10_count_305 : decode cX10_count 305 = .ok (.aload_n 0, 1) := by decide +kernel
theorem dX10_count_306 : decode cX10_count 306 = .ok (.getfield 26, 3) := by decide +kernel
theorem dX10_count_309 : decode cX10_count 309 = .ok (.getfield 168, 3) := by decide +kernel
theorem dX10_count_312 : decode cX10_count 312 = .ok (.iconst 0, 1) := by decide +kernel
theorem dX10_count_313 : decode cX10_count 313 = .ok (.invokestatic 172, 3) := by decide +kernel
theorem dX10_count_316 : decode cX10_count 316 = .ok (.ireturn, 1) := by decide +kernel
theorem dX10_count_317 : decode cX10_count 317 = .ok (.aload_n 0, 1) := by decide +kernel
theorem dX10_count_318 : decode cX10_count 318 = .ok (.getfield 26, 3) := by decide +kernel
theorem dX10_count_321 : decode cX10_count 321 = .ok (.getfield 168, 3) := by decide +kernel
theorem dX10_count_324 : decode cX10_count 324 = .ok (.iconst 1, 1) := by decide +kernel
theorem dX10_count_325 : decode cX10_count 325 = .ok (.invokestatic 172, 3) := by decide +kernel
theorem dX10_count_328 : decode cX10_count 328 = .ok (.ireturn, 1) := by decide +kernel
theorem dX10_count_329 : decode cX10_count 329 = .ok (.aload_n 0, 1) := by decide +kernel
theorem dX10_count_330 : decode cX10_count 330 = .ok (.getfield 26, 3) := by decide +kernel
theorem dX10_count_333 : decode cX10_count 333 = .ok (.getfield 168, 3) := by decide +kernel
theorem dX10_count_336 : decode cX10_count 336 = .ok (.iconst 2, 1) := by decide +kernel
theorem dX10_count_337 : decode cX10_count 337 = .ok (.invokestatic 172, 3) := by decide +kernel
theorem dX10_count_340 : decode cX10_count 340 = .ok (.ireturn, 1) := by decide +kernel
theorem dX10_count_341 : decode cX10_count 341 = .ok (.new 176, 3) := by decide +kernel
theorem dX10_count_344 : decode cX10_count 344 = .ok (.dup, 1) := by decide +kernel
theorem dX10_count_345 : decode cX10_count 345 = .ok (.ldc 178, 2) := by decide +kernel
theorem dX10_count_347 : decode cX10_count 347 = .ok (.invokespecial 180, 3) := by decide +kernel
theorem dX10_count_350 : decode cX10_count 350 = .ok (.athrow, 1) := by decide +kernel
theorem dX10_set_0 : decode cX10_set 0 = .ok (.aload_n 0, 1) := by decide +kernel
theorem dX10_set_1 : decode cX10_set 1 = .ok (.getfield 26, 3) := by decide +kernel
theorem dX10_set_4 : decode cX10_set 4 = .ok (.getfield 77, 3) := by decide +kernel
theorem dX10_set_7 : decode cX10_set 7 = .ok (.astore_n 2, 1) := by decide +kernel
theorem dX10_set_8 : decode cX10_set 8 = .ok (.iload_n 1, 1) := by decide +kernel
theorem dX10_set_9 : decode cX10_set 9 = .ok (.tableswitch 211 0 14 #[75, 83, 91, 99, 107, 115, 123, 131, 139, 147, 155, 163, 171, 179, 203], 75) := by decide +kernel
theorem dX10_set_84 : decode cX10_set 84 = .ok (.aload_n 0, 1) := by decide +kernel
theorem dX10_set_85 : decode cX10_set 85 = .ok (.getfield 19, 3) := by decide +kernel
theorem dX10_set_88 : decode cX10_set 88 = .ok (.getfield 134, 3) := by decide +kernel
theorem dX10_set_91 : decode cX10_set 91 = .ok (.ireturn, 1) := by decide +kernel
theorem dX10_set_92 : decode cX10_set 92 = .ok (.aload_n 2, 1) := by decide +kernel
theorem dX10_set_93 : decode cX10_set 93 = .ok (.getfield 104, 3) := by decide +kernel
theorem dX10_set_96 : decode cX10_set 96 = .ok (.getfield 181, 3) := by decide +kernel
theorem dX10_set_99 : decode cX10_set 99 = .ok (.ireturn, 1) := by decide +kernel
theorem dX10_set_100 : decode cX10_set 100 = .ok (.aload_n 0, 1) := by decide +kernel
theorem dX10_set_101 : decode cX10_set 101 = .ok (.getfield 19, 3) := by decide +kernel
theorem dX10_set_104 : decode cX10_set 104 = .ok (.getfield 184, 3) := by decide +kernel
theorem dX10_set_107 : decode cX10_set 107 = .ok (.ireturn, 1) := by decide +kernel
theorem dX10_set_108 : decode cX10_set 108 = .ok (.aload_n 0, 1) := by decide +kernel
theorem dX10_set_109 : decode cX10_set 109 = .ok (.getfield 19, 3) := by decide +kernel
theorem dX10_set_112 : decode cX10_set 112 = .ok (.getfield 187, 3) := by decide +kernel
theorem dX10_set_115 : decode cX10_set 115 = .ok (.ireturn, 1) := by decide +kernel
theorem dX10_set_116 : decode cX10_set 116 = .ok (.aload_n 0, 1) := by decide +kernel
theorem dX10_set_117 : decode cX10_set 117 = .ok (.getfield 19, 3) := by decide +kernel
theorem dX10_set_120 : decode cX10_set 120 = .ok (.getfield 190, 3) := by decide +kernel
theorem dX10_set_123 : decode cX10_set 123 = .ok (.ireturn, 1) := by decide +kernel
theorem dX10_set_124 : decode cX10_set 124 = .ok (.aload_n 2, 1) := by decide +kernel
theorem dX10_set_125 : decode cX10_set 125 = .ok (.getfield 86, 3) := by decide +kernel
theorem dX10_set_128 : decode cX10_set 128 = .ok (.getfield 193, 3) := by decide +kernel
theorem dX10_set_131 : decode cX10_set 131 = .ok (.ireturn, 1) := by decide +kernel
theorem dX10_set_132 : decode cX10_set 132 = .ok (.aload_n 0, 1) := by decide +kernel
theorem dX10_set_133 : decode cX10_set 133 = .ok (.getfield 19, 3) := by decide +kernel
theorem dX10_set_136 : decode cX10_set 136 = .ok (.getfield 196, 3) := by decide +kernel
theorem dX10_set_139 : decode cX10_set 139 = .ok (.ireturn, 1) := by decide +kernel
theorem dX10_set_140 : decode cX10_set 140 = .ok (.aload_n 0, 1) := by decide +kernel
theorem dX10_set_141 : decode cX10_set 141 = .ok (.getfield 19, 3) := by decide +kernel
theorem dX10_set_144 : decode cX10_set 144 = .ok (.getfield 199, 3) := by decide +kernel
theorem dX10_set_147 : decode cX10_set 147 = .ok (.ireturn, 1) := by decide +kernel
theorem dX10_set_148 : decode cX10_set 148 = .ok (.aload_n 2, 1) := by decide +kernel
theorem dX10_set_149 : decode cX10_set 149 = .ok (.getfield 104, 3) := by decide +kernel
theorem dX10_set_152 : decode cX10_set 152 = .ok (.getfield 202, 3) := by decide +kernel
theorem dX10_set_155 : decode cX10_set 155 = .ok (.ireturn, 1) := by decide +kernel
theorem dX10_set_156 : decode cX10_set 156 = .ok (.aload_n 2, 1) := by decide +kernel
theorem dX10_set_157 : decode cX10_set 157 = .ok (.getfield 86, 3) := by decide +kernel
theorem dX10_set_160 : decode cX10_set 160 = .ok (.getfield 205, 3) := by decide +kernel
theorem dX10_set_163 : decode cX10_set 163 = .ok (.ireturn, 1) := by decide +kernel
theorem dX10_set_164 : decode cX10_set 164 = .ok (.aload_n 2, 1) := by decide +kernel
theorem dX10_set_165 : decode cX10_set 165 = .ok (.getfield 86, 3) := by decide +kernel
theorem dX10_set_168 : decode cX10_set 168 = .ok (.getfield 208, 3) := by decide +kernel
theorem dX10_set_171 : decode cX10_set 171 = .ok (.ireturn, 1) := by decide +kernel
theorem dX10_set_172 : decode cX10_set 172 = .ok (.aload_n 2, 1) := by decide +kernel
theorem dX10_set_173 : decode cX10_set 173 = .ok (.getfield 86, 3) := by decide +kernel
theorem dX10_set_176 : decode cX10_set 176 = .ok (.getfield 211, 3) := by decide +kernel
theorem dX10_set_179 : decode cX10_set 179 = .ok (.ireturn, 1) := by decide +kernel
theorem dX10_set_180 : decode cX10_set 180 = .ok (.aload_n 2, 1) := by decide +kernel
theorem dX10_set_181 : decode cX10_set 181 = .ok (.getfield 104, 3) := by decide +kernel
theorem dX10_set_184 : decode cX10_set 184 = .ok (.getfield 214, 3) := by decide +kernel
theorem dX10_set_187 : decode cX10_set 187 = .ok (.ireturn, 1) := by decide +kernel
theorem dX10_set_188 : decode cX10_set 188 = .ok (.aload_n 2, 1) := by decide +kernel
theorem dX10_set_189 : decode cX10_set 189 = .ok (.getfield 104, 3) := by decide +kernel
theorem dX10_set_192 : decode cX10_set 192 = .ok (.getfield 108, 3) := by decide +kernel
theorem dX10_set_195 : decode cX10_set 195 = .ok (.getfield 215, 3) := by decide +kernel
theorem dX10_set_198 : decode cX10_set 198 = .ok (.bipush 64, 2) := by decide +kernel
theorem dX10_set_200 : decode cX10_set 200 = .ok (.aload_n 0, 1) := by decide +kernel
theorem dX10_set_201 : decode cX10_set 201 = .ok (.getfield 19, 3) := by decide +kernel
theorem dX10_set_204 : decode cX10_set 204 = .ok (.getfield 134, 3) := by decide +kernel
theorem dX10_set_207 : decode cX10_set 207 = .ok (.imul, 1) := by decide +kernel
theorem dX10_set_208 : decode cX10_set 208 = .ok (.invokestatic 216, 3) := by decide +kernel
theorem dX10_set_211 : decode cX10_set 211 = .ok (.ireturn, 1) := by decide +kernel
theorem dX10_set_212 : decode cX10_set 212 = .ok (.aload_n 2, 1) := by decide +kernel
theorem dX10_set_213 : decode cX10_set 213 = .ok (.getfield 104, 3) := by decide +kernel
theorem dX10_set_216 : decode cX10_set 216 = .ok (.getfield 220, 3) := by decide +kernel
theorem dX10_set_219 : decode cX10_set 219 = .ok (.ireturn, 1) := by decide +kernel
theorem dX10_set_220 : decode cX10_set 220 = .ok (.new 176, 3) := by decide +kernel
theorem dX10_set_223 : decode cX10_set 223 = .ok (.dup, 1) := by decide +kernel
theorem dX10_set_224 : decode cX10_set 224 = .ok (.ldc 223, 2) := by decide +kernel
theorem dX10_set_226 : decode cX10_set 226 = .ok (.invokespecial 180, 3) := by decide +kernel
theorem dX10_set_229 : decode cX10_set 229 = .ok (.athrow, 1) := by decide +kernel
theorem dX10_flying_0 : decode cX10_flying 0 = .ok (.aload_n 0, 1) := by decide +kernel
theorem dX10_flying_1 : decode cX10_flying 1 = .ok (.getfield 26, 3) := by decide +kernel
theorem dX10_flying_4 : decode cX10_flying 4 = .ok (.getfield 77, 3) := by decide +kernel
theorem dX10_flying_7 : decode cX10_flying 7 = .ok (.getfield 86, 3) := by decide +kernel
theorem dX10_flying_10 : decode cX10_flying 10 = .ok (.astore_n 3, 1) := by decide +kernel
theorem dX10_flying_11 : decode cX10_flying 11 = .ok (.iload_n 1, 1) := by decide +kernel
theorem dX10_flying_12 : decode cX10_flying 12 = .ok (.ifCond .lt 20, 3) := by decide +kernel
theorem dX10_flying_15 : decode cX10_flying 15 = .ok (.iload_n 1, 1) := by decide +kernel
theorem dX10_flying_16 : decode cX10_flying 16 = .ok (.aload_n 3, 1) := by decide +kernel
theorem dX10_flying_17 : decode cX10_flying 17 = .ok (.getfield 101, 3) := by decide +kernel
theorem dX10_flying_20 : decode cX10_flying 20 = .ok (.if_icmp .ge 12, 3) := by decide +kernel
theorem dX10_flying_23 : decode cX10_flying 23 = .ok (.iload_n 2, 1) := by decide +kernel
theorem dX10_flying_24 : decode cX10_flying 24 = .ok (.ifCond .lt 8, 3) := by decide +kernel
theorem dX10_flying_27 : decode cX10_flying 27 = .ok (.iload_n 2, 1) := by decide +kernel
theorem dX10_flying_28 : decode cX10_flying 28 = .ok (.iconst 2, 1) := by decide +kernel
theorem dX10_flying_29 : decode cX10_flying 29 = .ok (.if_icmp .le 13, 3) := by decide +kernel
theorem dX10_flying_32 : decode cX10_flying 32 = .ok (.new 176, 3) := by decide +kernel
theorem dX10_flying_35 : decode cX10_flying 35 = .ok (.dup, 1) := by decide +kernel
theorem dX10_flying_36 : decode cX10_flying 36 = .ok (.ldc 225, 2) := by decide +kernel
theorem dX10_flying_38 : decode cX10_flying 38 = .ok (.invokespecial 180, 3) := by decide +kernel
theorem dX10_flying_41 : decode cX10_flying 41 = .ok (.athrow, 1) := by decide +kernel
theorem dX10_flying_42 : decode cX10_flying 42 = .ok (.iload_n 2, 1) := by decide +kernel
theorem dX10_flying_43 : decode cX10_flying 43 = .ok (.ifCond .ne 12, 3) := by decide +kernel
theorem dX10_flying_46 : decode cX10_flying 46 = .ok (.aload_n 3, 1) := by decide +kernel
theorem dX10_flying_47 : decode cX10_flying 47 = .ok (.getfield 227, 3) := by decide +kernel
theorem dX10_flying_50 : decode cX10_flying 50 = .ok (.iload_n 1, 1) := by decide +kernel
theorem dX10_flying_51 : decode cX10_flying 51 = .ok (.invokestatic 172, 3) := by decide +kernel
theorem dX10_flying_54 : decode cX10_flying 54 = .ok (.ireturn, 1) := by decide +kernel
theorem dX10_flying_55 : decode cX10_flying 55 = .ok (.iload_n 2, 1) := by decide +kernel
theorem dX10_flying_56 : decode cX10_flying 56 = .ok (.iconst 1, 1) := by decide +kernel
theorem dX10_flying_57 : decode cX10_flying 57 = .ok (.if_icmp .ne 14, 3) := by decide +kernel
theorem dX10_flying_60 : decode cX10_flying 60 = .ok (.aload_n 3, 1) := by decide +kernel
theorem dX10_flying_61 : decode cX10_flying 61 = .ok (.getfield 230, 3) := by decide +kernel
theorem dX10_flying_64 : decode cX10_flying 64 = .ok (.iload_n 1, 1) := by decide +kernel
theorem dX10_flying_65 : decode cX10_flying 65 = .ok (.invokestatic 172, 3) := by decide +kernel
theorem dX10_flying_68 : decode cX10_flying 68 = .ok (.goto 11, 3) := by decide +kernel
theorem dX10_flying_71 : decode cX10_flying 71 = .ok (.aload_n 3, 1) := by decide +kernel
theorem dX10_flying_72 : decode cX10_flying 72 = .ok (.getfield 233, 3) := by decide +kernel
theorem dX10_flying_75 : decode cX10_flying 75 = .ok (.iload_n 1, 1) := by decide +kernel
theorem dX10_flying_76 : decode cX10_flying 76 = .ok (.invokestatic 172, 3) := by decide +kernel
theorem dX10_flying_79 : decode cX10_flying 79 = .ok (.ireturn, 1) := by decide +kernel
theorem dX10_slot_0 : decode cX10_slot 0 = .ok (.iload_n 1, 1) := by decide +kernel
theorem dX10_slot_1 : decode cX10_slot 1 = .ok (.ifCond .lt 9, 3) := by decide +kernel
theorem dX10_slot_4 : decode cX10_slot 4 = .ok (.iload_n 1, 1) := by decide +kernel
theorem dX10_slot_5 : decode cX10_slot 5 = .ok (.bipush 64, 2) := by decide +kernel
theorem dX10_slot_7 : decode cX10_slot 7 = .ok (.if_icmp .lt 13, 3) := by decide +kernel
theorem dX10_slot_10 : decode cX10_slot 10 = .ok (.new 176, 3) := by decide +kernel
theorem dX10_slot_13 : decode cX10_slot 13 = .ok (.dup, 1) := by decide +kernel
theorem dX10_slot_14 : decode cX10_slot 14 = .ok (.ldc 236, 2) := by decide +kernel
theorem dX10_slot_16 : decode cX10_slot 16 = .ok (.invokespecial 180, 3) := by decide +kernel
theorem dX10_slot_19 : decode cX10_slot 19 = .ok (.athrow, 1) := by decide +kernel
theorem dX10_slot_20 : decode cX10_slot 20 = .ok (.aload_n 0, 1) := by decide +kernel
theorem dX10_slot_21 : decode cX10_slot 21 = .ok (.getfield 26, 3) := by decide +kernel
theorem dX10_slot_24 : decode cX10_slot 24 = .ok (.getfield 77, 3) := by decide +kernel
theorem dX10_slot_27 : decode cX10_slot 27 = .ok (.getfield 104, 3) := by decide +kernel
theorem dX10_slot_30 : decode cX10_slot 30 = .ok (.getfield 108, 3) := by decide +kernel
theorem dX10_slot_33 : decode cX10_slot 33 = .ok (.iload_n 1, 1) := by decide +kernel
theorem dX10_slot_34 : decode cX10_slot 34 = .ok (.aload_n 0, 1) := by decide +kernel
theorem dX10_slot_35 : decode cX10_slot 35 = .ok (.getfield 19, 3) := by decide +kernel
theorem dX10_slot_38 : decode cX10_slot 38 = .ok (.getfield 134, 3) := by decide +kernel
theorem dX10_slot_41 : decode cX10_slot 41 = .ok (.invokevirtual 238, 3) := by decide +kernel
theorem dX10_slot_44 : decode cX10_slot 44 = .ok (.ireturn, 1) := by decide +kernel
theorem dX10_played_0 : decode cX10_played 0 = .ok (.aload_n 0, 1) := by decide +kernel
theorem dX10_played_1 : decode cX10_played 1 = .ok (.getfield 26, 3) := by decide +kernel
theorem dX10_played_4 : decode cX10_played 4 = .ok (.getfield 77, 3) := by decide +kernel
theorem dX10_played_7 : decode cX10_played 7 = .ok (.getfield 104, 3) := by decide +kernel
theorem dX10_played_10 : decode cX10_played 10 = .ok (.getfield 122, 3) := by decide +kernel
theorem dX10_played_13 : decode cX10_played 13 = .ok (.astore_n 3, 1) := by decide +kernel
theorem dX10_played_14 : decode cX10_played 14 = .ok (.iload_n 1, 1) := by decide +kernel
theorem dX10_played_15 : decode cX10_played 15 = .ok (.ifCond .lt 20, 3) := by decide +kernel
theorem dX10_played_18 : decode cX10_played 18 = .ok (.iload_n 1, 1) := by decide +kernel
theorem dX10_played_19 : decode cX10_played 19 = .ok (.aload_n 3, 1) := by decide +kernel
theorem dX10_played_20 : decode cX10_played 20 = .ok (.invokevirtual 241, 3) := by decide +kernel
theorem dX10_played_23 : decode cX10_played 23 = .ok (.if_icmp .ge 12, 3) := by decide +kernel
theorem dX10_played_26 : decode cX10_played 26 = .ok (.iload_n 2, 1) := by decide +kernel
theorem dX10_played_27 : decode cX10_played 27 = .ok (.ifCond .lt 8, 3) := by decide +kernel
theorem dX10_played_30 : decode cX10_played 30 = .ok (.iload_n 2, 1) := by decide +kernel
theorem dX10_played_31 : decode cX10_played 31 = .ok (.iconst 1, 1) := by decide +kernel
theorem dX10_played_32 : decode cX10_played 32 = .ok (.if_icmp .le 13, 3) := by decide +kernel
theorem dX10_played_35 : decode cX10_played 35 = .ok (.new 176, 3) := by decide +kernel
theorem dX10_played_38 : decode cX10_played 38 = .ok (.dup, 1) := by decide +kernel
theorem dX10_played_39 : decode cX10_played 39 = .ok (.ldc 244, 2) := by decide +kernel
theorem dX10_played_41 : decode cX10_played 41 = .ok (.invokespecial 180, 3) := by decide +kernel
theorem dX10_played_44 : decode cX10_played 44 = .ok (.athrow, 1) := by decide +kernel
theorem dX10_played_45 : decode cX10_played 45 = .ok (.iload_n 2, 1) := by decide +kernel
theorem dX10_played_46 : decode cX10_played 46 = .ok (.ifCond .ne 9, 3) := by decide +kernel
theorem dX10_played_49 : decode cX10_played 49 = .ok (.aload_n 3, 1) := by decide +kernel
theorem dX10_played_50 : decode cX10_played 50 = .ok (.iload_n 1, 1) := by decide +kernel
theorem dX10_played_51 : decode cX10_played 51 = .ok (.invokevirtual 246, 3) := by decide +kernel
theorem dX10_played_54 : decode cX10_played 54 = .ok (.ireturn, 1) := by decide +kernel
theorem dX10_played_55 : decode cX10_played 55 = .ok (.aload_n 3, 1) := by decide +kernel
theorem dX10_played_56 : decode cX10_played 56 = .ok (.iload_n 1, 1) := by decide +kernel
theorem dX10_played_57 : decode cX10_played 57 = .ok (.invokevirtual 249, 3) := by decide +kernel
theorem dX10_played_60 : decode cX10_played 60 = .ok (.ifCond .eq 7, 3) := by decide +kernel
theorem dX10_played_63 : decode cX10_played 63 = .ok (.iconst 1, 1) := by decide +kernel
theorem dX10_played_64 : decode cX10_played 64 = .ok (.goto 4, 3) := by decide +kernel
theorem dX10_played_67 : decode cX10_played 67 = .ok (.iconst 0, 1) := by decide +kernel
theorem dX10_played_68 : decode cX10_played 68 = .ok (.ireturn, 1) := by decide +kernel
theorem dX10_spans_0 : decode cX10_spans 0 = .ok (.iload_n 1, 1) := by decide +kernel
theorem dX10_spans_1 : decode cX10_spans 1 = .ok (.iconst 1, 1) := by decide +kernel
theorem dX10_spans_2 : decode cX10_spans 2 = .ok (.if_icmp .lt 10, 3) := by decide +kernel
theorem dX10_spans_5 : decode cX10_spans 5 = .ok (.iload_n 1, 1) := by decide +kernel
theorem dX10_spans_6 : decode cX10_spans 6 = .ok (.sipush 128, 3) := by decide +kernel
theorem dX10_spans_9 : decode cX10_spans 9 = .ok (.if_icmp .le 13, 3) := by decide +kernel
theorem dX10_spans_12 : decode cX10_spans 12 = .ok (.new 52, 3) := by decide +kernel
theorem dX10_spans_15 : decode cX10_spans 15 = .ok (.dup, 1) := by decide +kernel
theorem dX10_spans_16 : decode cX10_spans 16 = .ok (.ldc 253, 2) := by decide +kernel
theorem dX10_spans_18 : decode cX10_spans 18 = .ok (.invokespecial 56, 3) := by decide +kernel
theorem dX10_spans_21 : decode cX10_spans 21 = .ok (.athrow, 1) := by decide +kernel
theorem dX10_spans_22 : decode cX10_spans 22 = .ok (.aload_n 0, 1) := by decide +kernel
theorem dX10_spans_23 : decode cX10_spans 23 = .ok (.getfield 26, 3) := by decide +kernel
theorem dX10_spans_26 : decode cX10_spans 26 = .ok (.getfield 77, 3) := by decide +kernel
theorem dX10_spans_29 : decode cX10_spans 29 = .ok (.getfield 104, 3) := by decide +kernel
theorem dX10_spans_32 : decode cX10_spans 32 = .ok (.getfield 122, 3) := by decide +kernel
theorem dX10_spans_35 : decode cX10_spans 35 = .ok (.iload_n 1, 1) := by decide +kernel
theorem dX10_spans_36 : decode cX10_spans 36 = .ok (.iload_n 2, 1) := by decide +kernel
theorem dX10_spans_37 : decode cX10_spans 37 = .ok (.invokevirtual 255, 3) := by decide +kernel
theorem dX10_spans_40 : decode cX10_spans 40 = .ok (.istore_n 3, 1) := by decide +kernel
theorem dX10_spans_41 : decode cX10_spans 41 = .ok (.iload_n 3, 1) := by decide +kernel
theorem dX10_spans_42 : decode cX10_spans 42 = .ok (.ifCond .ge 14, 3) := by decide +kernel
theorem dX10_spans_45 : decode cX10_spans 45 = .ok (.new 176, 3) := by decide +kernel
theorem dX10_spans_48 : decode cX10_spans 48 = .ok (.dup, 1) := by decide +kernel
theorem dX10_spans_49 : decode cX10_spans 49 = .ok (.ldc_w 258, 3) := by decide +kernel
theorem dX10_spans_52 : decode cX10_spans 52 = .ok (.invokespecial 180, 3) := by decide +kernel
theorem dX10_spans_55 : decode cX10_spans 55 = .ok (.athrow, 1) := by decide +kernel
theorem dX10_spans_56 : decode cX10_spans 56 = .ok (.iload_n 3, 1) := by decide +kernel
theorem dX10_spans_57 : decode cX10_spans 57 = .ok (.ireturn, 1) := by decide +kernel
theorem dX10_sample_0 : decode cX10_sample 0 = .ok (.aload_n 0, 1) := by decide +kernel
theorem dX10_sample_1 : decode cX10_sample 1 = .ok (.getfield 26, 3) := by decide +kernel
theorem dX10_sample_4 : decode cX10_sample 4 = .ok (.getfield 77, 3) := by decide +kernel
theorem dX10_sample_7 : decode cX10_sample 7 = .ok (.getfield 104, 3) := by decide +kernel
theorem dX10_sample_10 : decode cX10_sample 10 = .ok (.getfield 122, 3) := by decide +kernel
theorem dX10_sample_13 : decode cX10_sample 13 = .ok (.astore_n 2, 1) := by decide +kernel
theorem dX10_sample_14 : decode cX10_sample 14 = .ok (.iload_n 1, 1) := by decide +kernel
theorem dX10_sample_15 : decode cX10_sample 15 = .ok (.ifCond .lt 11, 3) := by decide +kernel
theorem dX10_sample_18 : decode cX10_sample 18 = .ok (.iload_n 1, 1) := by decide +kernel
theorem dX10_sample_19 : decode cX10_sample 19 = .ok (.aload_n 2, 1) := by decide +kernel
theorem dX10_sample_20 : decode cX10_sample 20 = .ok (.invokevirtual 158, 3) := by decide +kernel
theorem dX10_sample_23 : decode cX10_sample 23 = .ok (.if_icmp .lt 14, 3) := by decide +kernel
theorem dX10_sample_26 : decode cX10_sample 26 = .ok (.new 176, 3) := by decide +kernel
theorem dX10_sample_29 : decode cX10_sample 29 = .ok (.dup, 1) := by decide +kernel
theorem dX10_sample_30 : decode cX10_sample 30 = .ok (.ldc_w 260, 3) := by decide +kernel
theorem dX10_sample_33 : decode cX10_sample 33 = .ok (.invokespecial 180, 3) := by decide +kernel
theorem dX10_sample_36 : decode cX10_sample 36 = .ok (.athrow, 1) := by decide +kernel
theorem dX10_sample_37 : decode cX10_sample 37 = .ok (.aload_n 2, 1) := by decide +kernel
theorem dX10_sample_38 : decode cX10_sample 38 = .ok (.iload_n 1, 1) := by decide +kernel
theorem dX10_sample_39 : decode cX10_sample 39 = .ok (.invokevirtual 262, 3) := by decide +kernel
theorem dX10_sample_42 : decode cX10_sample 42 = .ok (.ireturn, 1) := by decide +kernel
theorem dX10_wander_0 : decode cX10_wander 0 = .ok (.iload_n 1, 1) := by decide +kernel
theorem dX10_wander_1 : decode cX10_wander 1 = .ok (.iconst 2, 1) := by decide +kernel
theorem dX10_wander_2 : decode cX10_wander 2 = .ok (.if_icmp .lt 10, 3) := by decide +kernel
theorem dX10_wander_5 : decode cX10_wander 5 = .ok (.iload_n 1, 1) := by decide +kernel
theorem dX10_wander_6 : decode cX10_wander 6 = .ok (.sipush 128, 3) := by decide +kernel
theorem dX10_wander_9 : decode cX10_wander 9 = .ok (.if_icmp .le 14, 3) := by decide +kernel
theorem dX10_wander_12 : decode cX10_wander 12 = .ok (.new 52, 3) := by decide +kernel
theorem dX10_wander_15 : decode cX10_wander 15 = .ok (.dup, 1) := by decide +kernel
theorem dX10_wander_16 : decode cX10_wander 16 = .ok (.ldc_w 265, 3) := by decide +kernel
theorem dX10_wander_19 : decode cX10_wander 19 = .ok (.invokespecial 56, 3) := by decide +kernel
theorem dX10_wander_22 : decode cX10_wander 22 = .ok (.athrow, 1) := by decide +kernel
theorem dX10_wander_23 : decode cX10_wander 23 = .ok (.aload_n 0, 1) := by decide +kernel
theorem dX10_wander_24 : decode cX10_wander 24 = .ok (.getfield 26, 3) := by decide +kernel
theorem dX10_wander_27 : decode cX10_wander 27 = .ok (.getfield 77, 3) := by decide +kernel
theorem dX10_wander_30 : decode cX10_wander 30 = .ok (.getfield 104, 3) := by decide +kernel
theorem dX10_wander_33 : decode cX10_wander 33 = .ok (.getfield 122, 3) := by decide +kernel
theorem dX10_wander_36 : decode cX10_wander 36 = .ok (.iload_n 1, 1) := by decide +kernel
theorem dX10_wander_37 : decode cX10_wander 37 = .ok (.invokevirtual 267, 3) := by decide +kernel
theorem dX10_wander_40 : decode cX10_wander 40 = .ok (.ireturn, 1) := by decide +kernel
theorem dX10_steps_0 : decode cX10_steps 0 = .ok (.iload_n 1, 1) := by decide +kernel
theorem dX10_steps_1 : decode cX10_steps 1 = .ok (.iconst 1, 1) := by decide +kernel
theorem dX10_steps_2 : decode cX10_steps 2 = .ok (.if_icmp .lt 27, 3) := by decide +kernel
theorem dX10_steps_5 : decode cX10_steps 5 = .ok (.iload_n 1, 1) := by decide +kernel
theorem dX10_steps_6 : decode cX10_steps 6 = .ok (.bipush 50, 2) := by decide +kernel
theorem dX10_steps_8 : decode cX10_steps 8 = .ok (.if_icmp .gt 21, 3) := by decide +kernel
theorem dX10_steps_11 : decode cX10_steps 11 = .ok (.aload_n 0, 1) := by decide +kernel
theorem dX10_steps_12 : decode cX10_steps 12 = .ok (.getfield 26, 3) := by decide +kernel
theorem dX10_steps_15 : decode cX10_steps 15 = .ok (.getfield 77, 3) := by decide +kernel
theorem dX10_steps_18 : decode cX10_steps 18 = .ok (.getfield 81, 3) := by decide +kernel
theorem dX10_steps_21 : decode cX10_steps 21 = .ok (.iload_n 1, 1) := by decide +kernel
theorem dX10_steps_22 : decode cX10_steps 22 = .ok (.iadd, 1) := by decide +kernel
theorem dX10_steps_23 : decode cX10_steps 23 = .ok (.sipush 20000, 3) := by decide +kernel
theorem dX10_steps_26 : decode cX10_steps 26 = .ok (.if_icmp .le 13, 3) := by decide +kernel
theorem dX10_steps_29 : decode cX10_steps 29 = .ok (.aload_n 0, 1) := by decide +kernel
theorem dX10_steps_30 : decode cX10_steps 30 = .ok (.getfield 26, 3) := by decide +kernel
theorem dX10_steps_33 : decode cX10_steps 33 = .ok (.iconst 1, 1) := by decide +kernel
theorem dX10_steps_34 : decode cX10_steps 34 = .ok (.invokevirtual 63, 3) := by decide +kernel
theorem dX10_steps_37 : decode cX10_steps 37 = .ok (.iconst (-1), 1) := by decide +kernel
theorem dX10_steps_38 : decode cX10_steps 38 = .ok (.ireturn, 1) := by decide +kernel
theorem dX10_steps_39 : decode cX10_steps 39 = .ok (.aload_n 0, 1) := by decide +kernel
theorem dX10_steps_40 : decode cX10_steps 40 = .ok (.getfield 26, 3) := by decide +kernel
theorem dX10_steps_43 : decode cX10_steps 43 = .ok (.aload_n 0, 1) := by decide +kernel
theorem dX10_steps_44 : decode cX10_steps 44 = .ok (.getfield 19, 3) := by decide +kernel
theorem dX10_steps_47 : decode cX10_steps 47 = .ok (.iconst 0, 1) := by decide +kernel
theorem dX10_steps_48 : decode cX10_steps 48 = .ok (.iload_n 1, 1) := by decide +kernel
theorem dX10_steps_49 : decode cX10_steps 49 = .ok (.invokevirtual 270, 3) := by decide +kernel
theorem dX10_steps_52 : decode cX10_steps 52 = .ok (.aload_n 0, 1) := by decide +kernel
theorem dX10_steps_53 : decode cX10_steps 53 = .ok (.getfield 26, 3) := by decide +kernel
theorem dX10_steps_56 : decode cX10_steps 56 = .ok (.getfield 77, 3) := by decide +kernel
theorem dX10_steps_59 : decode cX10_steps 59 = .ok (.getfield 81, 3) := by decide +kernel
theorem dX10_steps_62 : decode cX10_steps 62 = .ok (.ireturn, 1) := by decide +kernel
theorem dX10_lose_0 : decode cX10_lose 0 = .ok (.aload_n 0, 1) := by decide +kernel
theorem dX10_lose_1 : decode cX10_lose 1 = .ok (.getfield 26, 3) := by decide +kernel
theorem dX10_lose_4 : decode cX10_lose 4 = .ok (.getfield 77, 3) := by decide +kernel
theorem dX10_lose_7 : decode cX10_lose 7 = .ok (.getfield 86, 3) := by decide +kernel
theorem dX10_lose_10 : decode cX10_lose 10 = .ok (.getfield 205, 3) := by decide +kernel
theorem dX10_lose_13 : decode cX10_lose 13 = .ok (.istore_n 2, 1) := by decide +kernel
theorem dX10_lose_14 : decode cX10_lose 14 = .ok (.iload_n 1, 1) := by decide +kernel
theorem dX10_lose_15 : decode cX10_lose 15 = .ok (.ifCond .lt 14, 3) := by decide +kernel
theorem dX10_lose_18 : decode cX10_lose 18 = .ok (.iload_n 1, 1) := by decide +kernel
theorem dX10_lose_19 : decode cX10_lose 19 = .ok (.bipush 20, 2) := by decide +kernel
theorem dX10_lose_21 : decode cX10_lose 21 = .ok (.if_icmp .gt 8, 3) := by decide +kernel
theorem dX10_lose_24 : decode cX10_lose 24 = .ok (.iload_n 1, 1) := by decide +kernel
theorem dX10_lose_25 : decode cX10_lose 25 = .ok (.iload_n 2, 1) := by decide +kernel
theorem dX10_lose_26 : decode cX10_lose 26 = .ok (.if_icmp .ne 13, 3) := by decide +kernel
theorem dX10_lose_29 : decode cX10_lose 29 = .ok (.aload_n 0, 1) := by decide +kernel
theorem dX10_lose_30 : decode cX10_lose 30 = .ok (.getfield 26, 3) := by decide +kernel
theorem dX10_lose_33 : decode cX10_lose 33 = .ok (.iconst 1, 1) := by decide +kernel
theorem dX10_lose_34 : decode cX10_lose 34 = .ok (.invokevirtual 63, 3) := by decide +kernel
theorem dX10_lose_37 : decode cX10_lose 37 = .ok (.iconst (-1), 1) := by decide +kernel
theorem dX10_lose_38 : decode cX10_lose 38 = .ok (.ireturn, 1) := by decide +kernel
theorem dX10_lose_39 : decode cX10_lose 39 = .ok (.aload_n 0, 1) := by decide +kernel
theorem dX10_lose_40 : decode cX10_lose 40 = .ok (.getfield 26, 3) := by decide +kernel
theorem dX10_lose_43 : decode cX10_lose 43 = .ok (.aload_n 0, 1) := by decide +kernel
theorem dX10_lose_44 : decode cX10_lose 44 = .ok (.getfield 19, 3) := by decide +kernel
theorem dX10_lose_47 : decode cX10_lose 47 = .ok (.iconst 1, 1) := by decide +kernel
theorem dX10_lose_48 : decode cX10_lose 48 = .ok (.iload_n 1, 1) := by decide +kernel
theorem dX10_lose_49 : decode cX10_lose 49 = .ok (.invokevirtual 270, 3) := by decide +kernel
theorem dX10_lose_52 : decode cX10_lose 52 = .ok (.iload_n 2, 1) := by decide +kernel
theorem dX10_lose_53 : decode cX10_lose 53 = .ok (.ireturn, 1) := by decide +kernel
theorem dX10_stall_0 : decode cX10_stall 0 = .ok (.aload_n 0, 1) := by decide +kernel
theorem dX10_stall_1 : decode cX10_stall 1 = .ok (.getfield 26, 3) := by decide +kernel
theorem dX10_stall_4 : decode cX10_stall 4 = .ok (.getfield 77, 3) := by decide +kernel
theorem dX10_stall_7 : decode cX10_stall 7 = .ok (.getfield 86, 3) := by decide +kernel
theorem dX10_stall_10 : decode cX10_stall 10 = .ok (.getfield 208, 3) := by decide +kernel
theorem dX10_stall_13 : decode cX10_stall 13 = .ok (.istore_n 2, 1) := by decide +kernel
theorem dX10_stall_14 : decode cX10_stall 14 = .ok (.iload_n 1, 1) := by decide +kernel
theorem dX10_stall_15 : decode cX10_stall 15 = .ok (.ifCond .lt 14, 3) := by decide +kernel
theorem dX10_stall_18 : decode cX10_stall 18 = .ok (.iload_n 1, 1) := by decide +kernel
theorem dX10_stall_19 : decode cX10_stall 19 = .ok (.bipush 30, 2) := by decide +kernel
theorem dX10_stall_21 : decode cX10_stall 21 = .ok (.if_icmp .gt 8, 3) := by decide +kernel
theorem dX10_stall_24 : decode cX10_stall 24 = .ok (.iload_n 1, 1) := by decide +kernel
theorem dX10_stall_25 : decode cX10_stall 25 = .ok (.iload_n 2, 1) := by decide +kernel
theorem dX10_stall_26 : decode cX10_stall 26 = .ok (.if_icmp .ne 13, 3) := by decide +kernel
theorem dX10_stall_29 : decode cX10_stall 29 = .ok (.aload_n 0, 1) := by decide +kernel
theorem dX10_stall_30 : decode cX10_stall 30 = .ok (.getfield 26, 3) := by decide +kernel
theorem dX10_stall_33 : decode cX10_stall 33 = .ok (.iconst 1, 1) := by decide +kernel
theorem dX10_stall_34 : decode cX10_stall 34 = .ok (.invokevirtual 63, 3) := by decide +kernel
theorem dX10_stall_37 : decode cX10_stall 37 = .ok (.iconst (-1), 1) := by decide +kernel
theorem dX10_stall_38 : decode cX10_stall 38 = .ok (.ireturn, 1) := by decide +kernel
theorem dX10_stall_39 : decode cX10_stall 39 = .ok (.aload_n 0, 1) := by decide +kernel
theorem dX10_stall_40 : decode cX10_stall 40 = .ok (.getfield 26, 3) := by decide +kernel
theorem dX10_stall_43 : decode cX10_stall 43 = .ok (.aload_n 0, 1) := by decide +kernel
theorem dX10_stall_44 : decode cX10_stall 44 = .ok (.getfield 19, 3) := by decide +kernel
theorem dX10_stall_47 : decode cX10_stall 47 = .ok (.iconst 2, 1) := by decide +kernel
theorem dX10_stall_48 : decode cX10_stall 48 = .ok (.iload_n 1, 1) := by decide +kernel
theorem dX10_stall_49 : decode cX10_stall 49 = .ok (.invokevirtual 270, 3) := by decide +kernel
theorem dX10_stall_52 : decode cX10_stall 52 = .ok (.iload_n 2, 1) := by decide +kernel
theorem dX10_stall_53 : decode cX10_stall 53 = .ok (.ireturn, 1) := by decide +kernel
theorem dX10_turn_0 : decode cX10_turn 0 = .ok (.iload_n 1, 1) := by decide +kernel
theorem dX10_turn_1 : decode cX10_turn 1 = .ok (.ifCond .lt 8, 3) := by decide +kernel
theorem dX10_turn_4 : decode cX10_turn 4 = .ok (.iload_n 1, 1) := by decide +kernel
theorem dX10_turn_5 : decode cX10_turn 5 = .ok (.iconst 2, 1) := by decide +kernel
theorem dX10_turn_6 : decode cX10_turn 6 = .ok (.if_icmp .le 14, 3) := by decide +kernel
theorem dX10_turn_9 : decode cX10_turn 9 = .ok (.new 176, 3) := by decide +kernel
theorem dX10_turn_12 : decode cX10_turn 12 = .ok (.dup, 1) := by decide +kernel
theorem dX10_turn_13 : decode cX10_turn 13 = .ok (.ldc_w 274, 3) := by decide +kernel
theorem dX10_turn_16 : decode cX10_turn 16 = .ok (.invokespecial 180, 3) := by decide +kernel
theorem dX10_turn_19 : decode cX10_turn 19 = .ok (.athrow, 1) := by decide +kernel
theorem dX10_turn_20 : decode cX10_turn 20 = .ok (.aload_n 0, 1) := by decide +kernel
theorem dX10_turn_21 : decode cX10_turn 21 = .ok (.iload_n 1, 1) := by decide +kernel
theorem dX10_turn_22 : decode cX10_turn 22 = .ok (.invokevirtual 276, 3) := by decide +kernel
theorem dX10_turn_25 : decode cX10_turn 25 = .ok (.istore_n 3, 1) := by decide +kernel
theorem dX10_turn_26 : decode cX10_turn 26 = .ok (.iload_n 1, 1) := by decide +kernel
theorem dX10_turn_27 : decode cX10_turn 27 = .ok (.iload_n 2, 1) := by decide +kernel
theorem dX10_turn_28 : decode cX10_turn 28 = .ok (.invokestatic 279, 3) := by decide +kernel
theorem dX10_turn_31 : decode cX10_turn 31 = .ok (.ifCond .eq 8, 3) := by decide +kernel
theorem dX10_turn_34 : decode cX10_turn 34 = .ok (.iload_n 2, 1) := by decide +kernel
theorem dX10_turn_35 : decode cX10_turn 35 = .ok (.iload_n 3, 1) := by decide +kernel
theorem dX10_turn_36 : decode cX10_turn 36 = .ok (.if_icmp .ne 15, 3) := by decide +kernel
theorem dX10_turn_39 : decode cX10_turn 39 = .ok (.aload_n 0, 1) := by decide +kernel
theorem dX10_turn_40 : decode cX10_turn 40 = .ok (.getfield 26, 3) := by decide +kernel
theorem dX10_turn_43 : decode cX10_turn 43 = .ok (.iconst 1, 1) := by decide +kernel
theorem dX10_turn_44 : decode cX10_turn 44 = .ok (.invokevirtual 63, 3) := by decide +kernel
theorem dX10_turn_47 : decode cX10_turn 47 = .ok (.sipush 10000, 3) := by decide +kernel
theorem dX10_turn_50 : decode cX10_turn 50 = .ok (.ireturn, 1) := by decide +kernel
theorem dX10_turn_51 : decode cX10_turn 51 = .ok (.aload_n 0, 1) := by decide +kernel
theorem dX10_turn_52 : decode cX10_turn 52 = .ok (.getfield 26, 3) := by decide +kernel
theorem dX10_turn_55 : decode cX10_turn 55 = .ok (.aload_n 0, 1) := by decide +kernel
theorem dX10_turn_56 : decode cX10_turn 56 = .ok (.getfield 19, 3) := by decide +kernel
theorem dX10_turn_59 : decode cX10_turn 59 = .ok (.iload_n 1, 1) := by decide +kernel
theorem dX10_turn_60 : decode cX10_turn 60 = .ok (.ifCond .ne 7, 3) := by decide +kernel
theorem dX10_turn_63 : decode cX10_turn 63 = .ok (.iconst 3, 1) := by decide +kernel
theorem dX10_turn_64 : decode cX10_turn 64 = .ok (.goto 13, 3) := by decide +kernel
theorem dX10_turn_67 : decode cX10_turn 67 = .ok (.iload_n 1, 1) := by decide +kernel
theorem dX10_turn_68 : decode cX10_turn 68 = .ok (.iconst 1, 1) := by decide +kernel
theorem dX10_turn_69 : decode cX10_turn 69 = .ok (.if_icmp .ne 7, 3) := by decide +kernel
theorem dX10_turn_72 : decode cX10_turn 72 = .ok (.iconst 4, 1) := by decide +kernel
theorem dX10_turn_73 : decode cX10_turn 73 = .ok (.goto 4, 3) := by decide +kernel
theorem dX10_turn_76 : decode cX10_turn 76 = .ok (.iconst 5, 1) := by decide +kernel
theorem dX10_turn_77 : decode cX10_turn 77 = .ok (.iload_n 2, 1) := by decide +kernel
theorem dX10_turn_78 : decode cX10_turn 78 = .ok (.invokevirtual 270, 3) := by decide +kernel
theorem dX10_turn_81 : decode cX10_turn 81 = .ok (.iload_n 3, 1) := by decide +kernel
theorem dX10_turn_82 : decode cX10_turn 82 = .ok (.ireturn, 1) := by decide +kernel
theorem dX10_undo_0 : decode cX10_undo 0 = .ok (.aload_n 0, 1) := by decide +kernel
theorem dX10_undo_1 : decode cX10_undo 1 = .ok (.getfield 26, 3) := by decide +kernel
theorem dX10_undo_4 : decode cX10_undo 4 = .ok (.aload_n 0, 1) := by decide +kernel
theorem dX10_undo_5 : decode cX10_undo 5 = .ok (.getfield 19, 3) := by decide +kernel
theorem dX10_undo_8 : decode cX10_undo 8 = .ok (.invokevirtual 283, 3) := by decide +kernel
theorem dX10_undo_11 : decode cX10_undo 11 = .ok (.ireturn, 1) := by decide +kernel
theorem dX10_then_0 : decode cX10_then 0 = .ok (.iload_n 2, 1) := by decide +kernel
theorem dX10_then_1 : decode cX10_then 1 = .ok (.ifCond .lt 8, 3) := by decide +kernel
theorem dX10_then_4 : decode cX10_then 4 = .ok (.iload_n 2, 1) := by decide +kernel
theorem dX10_then_5 : decode cX10_then 5 = .ok (.iconst 5, 1) := by decide +kernel
theorem dX10_then_6 : decode cX10_then 6 = .ok (.if_icmp .le 14, 3) := by decide +kernel
theorem dX10_then_9 : decode cX10_then 9 = .ok (.new 176, 3) := by decide +kernel
theorem dX10_then_12 : decode cX10_then 12 = .ok (.dup, 1) := by decide +kernel
theorem dX10_then_13 : decode cX10_then 13 = .ok (.ldc_w 287, 3) := by decide +kernel
theorem dX10_then_16 : decode cX10_then 16 = .ok (.invokespecial 180, 3) := by decide +kernel
theorem dX10_then_19 : decode cX10_then 19 = .ok (.athrow, 1) := by decide +kernel
theorem dX10_then_20 : decode cX10_then 20 = .ok (.iload_n 1, 1) := by decide +kernel
theorem dX10_then_21 : decode cX10_then 21 = .ok (.ifCond .lt 10, 3) := by decide +kernel
theorem dX10_then_24 : decode cX10_then 24 = .ok (.iload_n 1, 1) := by decide +kernel
theorem dX10_then_25 : decode cX10_then 25 = .ok (.sipush 400, 3) := by decide +kernel
theorem dX10_then_28 : decode cX10_then 28 = .ok (.if_icmp .le 14, 3) := by decide +kernel
theorem dX10_then_31 : decode cX10_then 31 = .ok (.new 52, 3) := by decide +kernel
theorem dX10_then_34 : decode cX10_then 34 = .ok (.dup, 1) := by decide +kernel
theorem dX10_then_35 : decode cX10_then 35 = .ok (.ldc_w 289, 3) := by decide +kernel
theorem dX10_then_38 : decode cX10_then 38 = .ok (.invokespecial 56, 3) := by decide +kernel
theorem dX10_then_41 : decode cX10_then 41 = .ok (.athrow, 1) := by decide +kernel
theorem dX10_then_42 : decode cX10_then 42 = .ok (.aload_n 0, 1) := by decide +kernel
theorem dX10_then_43 : decode cX10_then 43 = .ok (.getfield 36, 3) := by decide +kernel
theorem dX10_then_46 : decode cX10_then 46 = .ok (.aload_n 0, 1) := by decide +kernel
theorem dX10_then_47 : decode cX10_then 47 = .ok (.getfield 26, 3) := by decide +kernel
theorem dX10_then_50 : decode cX10_then 50 = .ok (.getfield 77, 3) := by decide +kernel
theorem dX10_then_53 : decode cX10_then 53 = .ok (.aload_n 0, 1) := by decide +kernel
theorem dX10_then_54 : decode cX10_then 54 = .ok (.getfield 19, 3) := by decide +kernel
theorem dX10_then_57 : decode cX10_then 57 = .ok (.iload_n 1, 1) := by decide +kernel
theorem dX10_then_58 : decode cX10_then 58 = .ok (.iload_n 2, 1) := by decide +kernel
theorem dX10_then_59 : decode cX10_then 59 = .ok (.invokevirtual 291, 3) := by decide +kernel
theorem dX10_then_62 : decode cX10_then 62 = .ok (.ireturn, 1) := by decide +kernel
theorem dX10_when_0 : decode cX10_when 0 = .ok (.iload_n 1, 1) := by decide +kernel
theorem dX10_when_1 : decode cX10_when 1 = .ok (.ifCond .lt 8, 3) := by decide +kernel
theorem dX10_when_4 : decode cX10_when 4 = .ok (.iload_n 1, 1) := by decide +kernel
theorem dX10_when_5 : decode cX10_when 5 = .ok (.iconst 3, 1) := by decide +kernel
theorem dX10_when_6 : decode cX10_when 6 = .ok (.if_icmp .le 14, 3) := by decide +kernel
theorem dX10_when_9 : decode cX10_when 9 = .ok (.new 176, 3) := by decide +kernel
theorem dX10_when_12 : decode cX10_when 12 = .ok (.dup, 1) := by decide +kernel
theorem dX10_when_13 : decode cX10_when 13 = .ok (.ldc_w 287, 3) := by decide +kernel
theorem dX10_when_16 : decode cX10_when 16 = .ok (.invokespecial 180, 3) := by decide +kernel
theorem dX10_when_19 : decode cX10_when 19 = .ok (.athrow, 1) := by decide +kernel
theorem dX10_when_20 : decode cX10_when 20 = .ok (.iload_n 1, 1) := by decide +kernel
theorem dX10_when_21 : decode cX10_when 21 = .ok (.ifCond .ne 24, 3) := by decide +kernel
theorem dX10_when_24 : decode cX10_when 24 = .ok (.aload_n 0, 1) := by decide +kernel
theorem dX10_when_25 : decode cX10_when 25 = .ok (.getfield 36, 3) := by decide +kernel
theorem dX10_when_28 : decode cX10_when 28 = .ok (.aload_n 0, 1) := by decide +kernel
theorem dX10_when_29 : decode cX10_when 29 = .ok (.getfield 26, 3) := by decide +kernel
theorem dX10_when_32 : decode cX10_when 32 = .ok (.getfield 77, 3) := by decide +kernel
theorem dX10_when_35 : decode cX10_when 35 = .ok (.aload_n 0, 1) := by decide +kernel
theorem dX10_when_36 : decode cX10_when 36 = .ok (.getfield 19, 3) := by decide +kernel
theorem dX10_when_39 : decode cX10_when 39 = .ok (.invokevirtual 295, 3) := by decide +kernel
theorem dX10_when_42 : decode cX10_when 42 = .ok (.goto 22, 3) := by decide +kernel
theorem dX10_when_45 : decode cX10_when 45 = .ok (.aload_n 0, 1) := by decide +kernel
theorem dX10_when_46 : decode cX10_when 46 = .ok (.getfield 36, 3) := by decide +kernel
theorem dX10_when_49 : decode cX10_when 49 = .ok (.aload_n 0, 1) := by decide +kernel
theorem dX10_when_50 : decode cX10_when 50 = .ok (.getfield 26, 3) := by decide +kernel
theorem dX10_when_53 : decode cX10_when 53 = .ok (.getfield 77, 3) := by decide +kernel
theorem dX10_when_56 : decode cX10_when 56 = .ok (.aload_n 0, 1) := by decide +kernel
theorem dX10_when_57 : decode cX10_when 57 = .ok (.getfield 19, 3) := by decide +kernel
theorem dX10_when_60 : decode cX10_when 60 = .ok (.iload_n 1, 1) := by decide +kernel
theorem dX10_when_61 : decode cX10_when 61 = .ok (.invokevirtual 299, 3) := by decide +kernel
theorem dX10_when_64 : decode cX10_when 64 = .ok (.ireturn, 1) := by decide +kernel
theorem dX10_settles_0 : decode cX10_settles 0 = .ok (.aload_n 0, 1) := by decide +kernel
theorem dX10_settles_1 : decode cX10_settles 1 = .ok (.getfield 36, 3) := by decide +kernel
theorem dX10_settles_4 : decode cX10_settles 4 = .ok (.aload_n 0, 1) := by decide +kernel
theorem dX10_settles_5 : decode cX10_settles 5 = .ok (.getfield 26, 3) := by decide +kernel
theorem dX10_settles_8 : decode cX10_settles 8 = .ok (.getfield 77, 3) := by decide +kernel
theorem dX10_settles_11 : decode cX10_settles 11 = .ok (.aload_n 0, 1) := by decide +kernel
theorem dX10_settles_12 : decode cX10_settles 12 = .ok (.getfield 19, 3) := by decide +kernel
theorem dX10_settles_15 : decode cX10_settles 15 = .ok (.invokevirtual 303, 3) := by decide +kernel
theorem dX10_settles_18 : decode cX10_settles 18 = .ok (.ireturn, 1) := by decide +kernel
theorem dX10_toAim_0 : decode cX10_toAim 0 = .ok (.iload_n 2, 1) := by decide +kernel
theorem dX10_toAim_1 : decode cX10_toAim 1 = .ok (.ifCond .lt 8, 3) := by decide +kernel
theorem dX10_toAim_4 : decode cX10_toAim 4 = .ok (.iload_n 2, 1) := by decide +kernel
theorem dX10_toAim_5 : decode cX10_toAim 5 = .ok (.iconst 1, 1) := by decide +kernel
theorem dX10_toAim_6 : decode cX10_toAim 6 = .ok (.if_icmp .le 14, 3) := by decide +kernel
theorem dX10_toAim_9 : decode cX10_toAim 9 = .ok (.new 176, 3) := by decide +kernel
theorem dX10_toAim_12 : decode cX10_toAim 12 = .ok (.dup, 1) := by decide +kernel
theorem dX10_toAim_13 : decode cX10_toAim 13 = .ok (.ldc_w 287, 3) := by decide +kernel
theorem dX10_toAim_16 : decode cX10_toAim 16 = .ok (.invokespecial 180, 3) := by decide +kernel
theorem dX10_toAim_19 : decode cX10_toAim 19 = .ok (.athrow, 1) := by decide +kernel
theorem dX10_toAim_20 : decode cX10_toAim 20 = .ok (.iload_n 1, 1) := by decide +kernel
theorem dX10_toAim_21 : decode cX10_toAim 21 = .ok (.iconst 1, 1) := by decide +kernel
theorem dX10_toAim_22 : decode cX10_toAim 22 = .ok (.if_icmp .lt 10, 3) := by decide +kernel
theorem dX10_toAim_25 : decode cX10_toAim 25 = .ok (.iload_n 1, 1) := by decide +kernel
theorem dX10_toAim_26 : decode cX10_toAim 26 = .ok (.sipush 400, 3) := by decide +kernel
theorem dX10_toAim_29 : decode cX10_toAim 29 = .ok (.if_icmp .le 14, 3) := by decide +kernel
theorem dX10_toAim_32 : decode cX10_toAim 32 = .ok (.new 52, 3) := by decide +kernel
theorem dX10_toAim_35 : decode cX10_toAim 35 = .ok (.dup, 1) := by decide +kernel
theorem dX10_toAim_36 : decode cX10_toAim 36 = .ok (.ldc_w 306, 3) := by decide +kernel
theorem dX10_toAim_39 : decode cX10_toAim 39 = .ok (.invokespecial 56, 3) := by decide +kernel
theorem dX10_toAim_42 : decode cX10_toAim 42 = .ok (.athrow, 1) := by decide +kernel
theorem dX10_toAim_43 : decode cX10_toAim 43 = .ok (.aload_n 0, 1) := by decide +kernel
theorem dX10_toAim_44 : decode cX10_toAim 44 = .ok (.getfield 36, 3) := by decide +kernel
theorem dX10_toAim_47 : decode cX10_toAim 47 = .ok (.aload_n 0, 1) := by decide +kernel
theorem dX10_toAim_48 : decode cX10_toAim 48 = .ok (.getfield 26, 3) := by decide +kernel
theorem dX10_toAim_51 : decode cX10_toAim 51 = .ok (.getfield 77, 3) := by decide +kernel
theorem dX10_toAim_54 : decode cX10_toAim 54 = .ok (.aload_n 0, 1) := by decide +kernel
theorem dX10_toAim_55 : decode cX10_toAim 55 = .ok (.getfield 19, 3) := by decide +kernel
theorem dX10_toAim_58 : decode cX10_toAim 58 = .ok (.iload_n 1, 1) := by decide +kernel
theorem dX10_toAim_59 : decode cX10_toAim 59 = .ok (.invokevirtual 308, 3) := by decide +kernel
theorem dX10_toAim_62 : decode cX10_toAim 62 = .ok (.iload_n 2, 1) := by decide +kernel
theorem dX10_toAim_63 : decode cX10_toAim 63 = .ok (.ifCond .ne 13, 3) := by decide +kernel
theorem dX10_toAim_66 : decode cX10_toAim 66 = .ok (.aload_n 0, 1) := by decide +kernel
theorem dX10_toAim_67 : decode cX10_toAim 67 = .ok (.getfield 36, 3) := by decide +kernel
theorem dX10_toAim_70 : decode cX10_toAim 70 = .ok (.getfield 312, 3) := by decide +kernel
theorem dX10_toAim_73 : decode cX10_toAim 73 = .ok (.goto 10, 3) := by decide +kernel
theorem dX10_toAim_76 : decode cX10_toAim 76 = .ok (.aload_n 0, 1) := by decide +kernel
theorem dX10_toAim_77 : decode cX10_toAim 77 = .ok (.getfield 36, 3) := by decide +kernel
theorem dX10_toAim_80 : decode cX10_toAim 80 = .ok (.getfield 315, 3) := by decide +kernel
theorem dX10_toAim_83 : decode cX10_toAim 83 = .ok (.ireturn, 1) := by decide +kernel
theorem dX10_toGain_0 : decode cX10_toGain 0 = .ok (.iload_n 2, 1) := by decide +kernel
theorem dX10_toGain_1 : decode cX10_toGain 1 = .ok (.ifCond .lt 8, 3) := by decide +kernel
theorem dX10_toGain_4 : decode cX10_toGain 4 = .ok (.iload_n 2, 1) := by decide +kernel
theorem dX10_toGain_5 : decode cX10_toGain 5 = .ok (.iconst 1, 1) := by decide +kernel
theorem dX10_toGain_6 : decode cX10_toGain 6 = .ok (.if_icmp .le 14, 3) := by decide +kernel
theorem dX10_toGain_9 : decode cX10_toGain 9 = .ok (.new 176, 3) := by decide +kernel
theorem dX10_toGain_12 : decode cX10_toGain 12 = .ok (.dup, 1) := by decide +kernel
theorem dX10_toGain_13 : decode cX10_toGain 13 = .ok (.ldc_w 287, 3) := by decide +kernel
theorem dX10_toGain_16 : decode cX10_toGain 16 = .ok (.invokespecial 180, 3) := by decide +kernel
theorem dX10_toGain_19 : decode cX10_toGain 19 = .ok (.athrow, 1) := by decide +kernel
theorem dX10_toGain_20 : decode cX10_toGain 20 = .ok (.iload_n 1, 1) := by decide +kernel
theorem dX10_toGain_21 : decode cX10_toGain 21 = .ok (.iconst 1, 1) := by decide +kernel
theorem dX10_toGain_22 : decode cX10_toGain 22 = .ok (.if_icmp .lt 10, 3) := by decide +kernel
theorem dX10_toGain_25 : decode cX10_toGain 25 = .ok (.iload_n 1, 1) := by decide +kernel
theorem dX10_toGain_26 : decode cX10_toGain 26 = .ok (.sipush 400, 3) := by decide +kernel
theorem dX10_toGain_29 : decode cX10_toGain 29 = .ok (.if_icmp .le 14, 3) := by decide +kernel
theorem dX10_toGain_32 : decode cX10_toGain 32 = .ok (.new 52, 3) := by decide +kernel
theorem dX10_toGain_35 : decode cX10_toGain 35 = .ok (.dup, 1) := by decide +kernel
theorem dX10_toGain_36 : decode cX10_toGain 36 = .ok (.ldc_w 306, 3) := by decide +kernel
theorem dX10_toGain_39 : decode cX10_toGain 39 = .ok (.invokespecial 56, 3) := by decide +kernel
theorem dX10_toGain_42 : decode cX10_toGain 42 = .ok (.athrow, 1) := by decide +kernel
theorem dX10_toGain_43 : decode cX10_toGain 43 = .ok (.aload_n 0, 1) := by decide +kernel
theorem dX10_toGain_44 : decode cX10_toGain 44 = .ok (.getfield 36, 3) := by decide +kernel
theorem dX10_toGain_47 : decode cX10_toGain 47 = .ok (.aload_n 0, 1) := by decide +kernel
theorem dX10_toGain_48 : decode cX10_toGain 48 = .ok (.getfield 26, 3) := by decide +kernel
theorem dX10_toGain_51 : decode cX10_toGain 51 = .ok (.getfield 77, 3) := by decide +kernel
theorem dX10_toGain_54 : decode cX10_toGain 54 = .ok (.aload_n 0, 1) := by decide +kernel
theorem dX10_toGain_55 : decode cX10_toGain 55 = .ok (.getfield 19, 3) := by decide +kernel
theorem dX10_toGain_58 : decode cX10_toGain 58 = .ok (.iload_n 1, 1) := by decide +kernel
theorem dX10_toGain_59 : decode cX10_toGain 59 = .ok (.invokevirtual 318, 3) := by decide +kernel
theorem dX10_toGain_62 : decode cX10_toGain 62 = .ok (.iload_n 2, 1) := by decide +kernel
theorem dX10_toGain_63 : decode cX10_toGain 63 = .ok (.ifCond .ne 13, 3) := by decide +kernel
theorem dX10_toGain_66 : decode cX10_toGain 66 = .ok (.aload_n 0, 1) := by decide +kernel
theorem dX10_toGain_67 : decode cX10_toGain 67 = .ok (.getfield 36, 3) := by decide +kernel
theorem dX10_toGain_70 : decode cX10_toGain 70 = .ok (.getfield 312, 3) := by decide +kernel
theorem dX10_toGain_73 : decode cX10_toGain 73 = .ok (.goto 10, 3) := by decide +kernel
theorem dX10_toGain_76 : decode cX10_toGain 76 = .ok (.aload_n 0, 1) := by decide +kernel
theorem dX10_toGain_77 : decode cX10_toGain 77 = .ok (.getfield 36, 3) := by decide +kernel
theorem dX10_toGain_80 : decode cX10_toGain 80 = .ok (.getfield 315, 3) := by decide +kernel
theorem dX10_toGain_83 : decode cX10_toGain 83 = .ok (.ireturn, 1) := by decide +kernel
theorem dX10_note_0 : decode cX10_note 0 = .ok (.aload_n 0, 1) := by decide +kernel
theorem dX10_note_1 : decode cX10_note 1 = .ok (.getfield 26, 3) := by decide +kernel
theorem dX10_note_4 : decode cX10_note 4 = .ok (.getfield 165, 3) := by decide +kernel
theorem dX10_note_7 : decode cX10_note 7 = .ok (.bipush 8, 2) := by decide +kernel
theorem dX10_note_9 : decode cX10_note 9 = .ok (.if_icmp .ge 24, 3) := by decide +kernel
theorem dX10_note_12 : decode cX10_note 12 = .ok (.iload_n 1, 1) := by decide +kernel
theorem dX10_note_13 : decode cX10_note 13 = .ok (.ifCond .lt 20, 3) := by decide +kernel
theorem dX10_note_16 : decode cX10_note 16 = .ok (.iload_n 1, 1) := by decide +kernel
theorem dX10_note_17 : decode cX10_note 17 = .ok (.bipush 60, 2) := by decide +kernel
theorem dX10_note_19 : decode cX10_note 19 = .ok (.if_icmp .gt 14, 3) := by decide +kernel
theorem dX10_note_22 : decode cX10_note 22 = .ok (.iload_n 2, 1) := by decide +kernel
theorem dX10_note_23 : decode cX10_note 23 = .ok (.ifCond .lt 10, 3) := by decide +kernel
theorem dX10_note_26 : decode cX10_note 26 = .ok (.iload_n 2, 1) := by decide +kernel
theorem dX10_note_27 : decode cX10_note 27 = .ok (.sipush 999, 3) := by decide +kernel
theorem dX10_note_30 : decode cX10_note 30 = .ok (.if_icmp .le 13, 3) := by decide +kernel
theorem dX10_note_33 : decode cX10_note 33 = .ok (.aload_n 0, 1) := by decide +kernel
theorem dX10_note_34 : decode cX10_note 34 = .ok (.getfield 26, 3) := by decide +kernel
theorem dX10_note_37 : decode cX10_note 37 = .ok (.iconst 2, 1) := by decide +kernel
theorem dX10_note_38 : decode cX10_note 38 = .ok (.invokevirtual 63, 3) := by decide +kernel
theorem dX10_note_41 : decode cX10_note 41 = .ok (.iconst (-1), 1) := by decide +kernel
theorem dX10_note_42 : decode cX10_note 42 = .ok (.ireturn, 1) := by decide +kernel
theorem dX10_note_43 : decode cX10_note 43 = .ok (.aload_n 0, 1) := by decide +kernel
theorem dX10_note_44 : decode cX10_note 44 = .ok (.getfield 26, 3) := by decide +kernel
theorem dX10_note_47 : decode cX10_note 47 = .ok (.iload_n 1, 1) := by decide +kernel
theorem dX10_note_48 : decode cX10_note 48 = .ok (.iload_n 2, 1) := by decide +kernel
theorem dX10_note_49 : decode cX10_note 49 = .ok (.invokevirtual 321, 3) := by decide +kernel
theorem dX10_note_52 : decode cX10_note 52 = .ok (.ireturn, 1) := by decide +kernel
theorem dX10_other_0 : decode cX10_other 0 = .ok (.iload_n 1, 1) := by decide +kernel
theorem dX10_other_1 : decode cX10_other 1 = .ok (.ifCond .lt 8, 3) := by decide +kernel
theorem dX10_other_4 : decode cX10_other 4 = .ok (.iload_n 1, 1) := by decide +kernel
theorem dX10_other_5 : decode cX10_other 5 = .ok (.iconst 2, 1) := by decide +kernel
theorem dX10_other_6 : decode cX10_other 6 = .ok (.if_icmp .le 14, 3) := by decide +kernel
theorem dX10_other_9 : decode cX10_other 9 = .ok (.new 176, 3) := by decide +kernel
theorem dX10_other_12 : decode cX10_other 12 = .ok (.dup, 1) := by decide +kernel
theorem dX10_other_13 : decode cX10_other 13 = .ok (.ldc_w 287, 3) := by decide +kernel
theorem dX10_other_16 : decode cX10_other 16 = .ok (.invokespecial 180, 3) := by decide +kernel
theorem dX10_other_19 : decode cX10_other 19 = .ok (.athrow, 1) := by decide +kernel
theorem dX10_other_20 : decode cX10_other 20 = .ok (.iload_n 1, 1) := by decide +kernel
theorem dX10_other_21 : decode cX10_other 21 = .ok (.iconst 2, 1) := by decide +kernel
theorem dX10_other_22 : decode cX10_other 22 = .ok (.if_icmp .ne 40, 3) := by decide +kernel
theorem dX10_other_25 : decode cX10_other 25 = .ok (.aload_n 0, 1) := by decide +kernel
theorem dX10_other_26 : decode cX10_other 26 = .ok (.getfield 36, 3) := by decide +kernel
theorem dX10_other_29 : decode cX10_other 29 = .ok (.aload_n 0, 1) := by decide +kernel
theorem dX10_other_30 : decode cX10_other 30 = .ok (.getfield 26, 3) := by decide +kernel
theorem dX10_other_33 : decode cX10_other 33 = .ok (.aload_n 0, 1) := by decide +kernel
theorem dX10_other_34 : decode cX10_other 34 = .ok (.getfield 19, 3) := by decide +kernel
theorem dX10_other_37 : decode cX10_other 37 = .ok (.aload_n 0, 1) := by decide +kernel
theorem dX10_other_38 : decode cX10_other 38 = .ok (.getfield 26, 3) := by decide +kernel
theorem dX10_other_41 : decode cX10_other 41 = .ok (.getfield 77, 3) := by decide +kernel
theorem dX10_other_44 : decode cX10_other 44 = .ok (.getfield 86, 3) := by decide +kernel
theorem dX10_other_47 : decode cX10_other 47 = .ok (.getfield 193, 3) := by decide +kernel
theorem dX10_other_50 : decode cX10_other 50 = .ok (.invokevirtual 324, 3) := by decide +kernel
theorem dX10_other_53 : decode cX10_other 53 = .ok (.ifCond .eq 7, 3) := by decide +kernel
theorem dX10_other_56 : decode cX10_other 56 = .ok (.iconst 1, 1) := by decide +kernel
theorem dX10_other_57 : decode cX10_other 57 = .ok (.goto 4, 3) := by decide +kernel
theorem dX10_other_60 : decode cX10_other 60 = .ok (.iconst 0, 1) := by decide +kernel
theorem dX10_other_61 : decode cX10_other 61 = .ok (.ireturn, 1) := by decide +kernel
theorem dX10_other_62 : decode cX10_other 62 = .ok (.aload_n 0, 1) := by decide +kernel
theorem dX10_other_63 : decode cX10_other 63 = .ok (.getfield 36, 3) := by decide +kernel
theorem dX10_other_66 : decode cX10_other 66 = .ok (.aload_n 0, 1) := by decide +kernel
theorem dX10_other_67 : decode cX10_other 67 = .ok (.getfield 26, 3) := by decide +kernel
theorem dX10_other_70 : decode cX10_other 70 = .ok (.aload_n 0, 1) := by decide +kernel
theorem dX10_other_71 : decode cX10_other 71 = .ok (.getfield 19, 3) := by decide +kernel
theorem dX10_other_74 : decode cX10_other 74 = .ok (.invokevirtual 328, 3) := by decide +kernel
theorem dX10_other_77 : decode cX10_other 77 = .ok (.iload_n 1, 1) := by decide +kernel
theorem dX10_other_78 : decode cX10_other 78 = .ok (.ifCond .ne 13, 3) := by decide +kernel
theorem dX10_other_81 : decode cX10_other 81 = .ok (.aload_n 0, 1) := by decide +kernel
theorem dX10_other_82 : decode cX10_other 82 = .ok (.getfield 36, 3) := by decide +kernel
theorem dX10_other_85 : decode cX10_other 85 = .ok (.getfield 332, 3) := by decide +kernel
theorem dX10_other_88 : decode cX10_other 88 = .ok (.goto 10, 3) := by decide +kernel
theorem dX10_other_91 : decode cX10_other 91 = .ok (.aload_n 0, 1) := by decide +kernel
theorem dX10_other_92 : decode cX10_other 92 = .ok (.getfield 36, 3) := by decide +kernel
theorem dX10_other_95 : decode cX10_other 95 = .ok (.getfield 335, 3) := by decide +kernel
theorem dX10_other_98 : decode cX10_other 98 = .ok (.ireturn, 1) := by decide +kernel
theorem dX10_look_0 : decode cX10_look 0 = .ok (.iload_n 1, 1) := by decide +kernel
theorem dX10_look_1 : decode cX10_look 1 = .ok (.ifCond .lt 8, 3) := by decide +kernel
theorem dX10_look_4 : decode cX10_look 4 = .ok (.iload_n 1, 1) := by decide +kernel
theorem dX10_look_5 : decode cX10_look 5 = .ok (.iconst 1, 1) := by decide +kernel
theorem dX10_look_6 : decode cX10_look 6 = .ok (.if_icmp .le 14, 3) := by decide +kernel
theorem dX10_look_9 : decode cX10_look 9 = .ok (.new 176, 3) := by decide +kernel
theorem dX10_look_12 : decode cX10_look 12 = .ok (.dup, 1) := by decide +kernel
theorem dX10_look_13 : decode cX10_look 13 = .ok (.ldc_w 287, 3) := by decide +kernel
theorem dX10_look_16 : decode cX10_look 16 = .ok (.invokespecial 180, 3) := by decide +kernel
theorem dX10_look_19 : decode cX10_look 19 = .ok (.athrow, 1) := by decide +kernel
theorem dX10_look_20 : decode cX10_look 20 = .ok (.aload_n 0, 1) := by decide +kernel
theorem dX10_look_21 : decode cX10_look 21 = .ok (.getfield 36, 3) := by decide +kernel
theorem dX10_look_24 : decode cX10_look 24 = .ok (.aload_n 0, 1) := by decide +kernel
theorem dX10_look_25 : decode cX10_look 25 = .ok (.getfield 26, 3) := by decide +kernel
theorem dX10_look_28 : decode cX10_look 28 = .ok (.aload_n 0, 1) := by decide +kernel
theorem dX10_look_29 : decode cX10_look 29 = .ok (.getfield 19, 3) := by decide +kernel
theorem dX10_look_32 : decode cX10_look 32 = .ok (.invokevirtual 328, 3) := by decide +kernel
theorem dX10_look_35 : decode cX10_look 35 = .ok (.aload_n 0, 1) := by decide +kernel
theorem dX10_look_36 : decode cX10_look 36 = .ok (.getfield 36, 3) := by decide +kernel
theorem dX10_look_39 : decode cX10_look 39 = .ok (.invokevirtual 338, 3) := by decide +kernel
theorem dX10_look_42 : decode cX10_look 42 = .ok (.iload_n 1, 1) := by decide +kernel
theorem dX10_look_43 : decode cX10_look 43 = .ok (.ifCond .ne 13, 3) := by decide +kernel
theorem dX10_look_46 : decode cX10_look 46 = .ok (.aload_n 0, 1) := by decide +kernel
theorem dX10_look_47 : decode cX10_look 47 = .ok (.getfield 36, 3) := by decide +kernel
theorem dX10_look_50 : decode cX10_look 50 = .ok (.getfield 312, 3) := by decide +kernel
theorem dX10_look_53 : decode cX10_look 53 = .ok (.goto 10, 3) := by decide +kernel
theorem dX10_look_56 : decode cX10_look 56 = .ok (.aload_n 0, 1) := by decide +kernel
theorem dX10_look_57 : decode cX10_look 57 = .ok (.getfield 36, 3) := by decide +kernel
theorem dX10_look_60 : decode cX10_look 60 = .ok (.getfield 315, 3) := by decide +kernel
theorem dX10_look_63 : decode cX10_look 63 = .ok (.ireturn, 1) := by decide +kernel
theorem dX10_forget_0 : decode cX10_forget 0 = .ok (.aload_n 0, 1) := by decide +kernel
theorem dX10_forget_1 : decode cX10_forget 1 = .ok (.getfield 26, 3) := by decide +kernel
theorem dX10_forget_4 : decode cX10_forget 4 = .ok (.iconst 0, 1) := by decide +kernel
theorem dX10_forget_5 : decode cX10_forget 5 = .ok (.putfield 165, 3) := by decide +kernel
theorem dX10_forget_8 : decode cX10_forget 8 = .ok (.return_, 1) := by decide +kernel
theorem dX10_storms_0 : decode cX10_storms 0 = .ok (.iload_n 1, 1) := by decide +kernel
theorem dX10_storms_1 : decode cX10_storms 1 = .ok (.iconst 1, 1) := by decide +kernel
theorem dX10_storms_2 : decode cX10_storms 2 = .ok (.if_icmp .lt 18, 3) := by decide +kernel
theorem dX10_storms_5 : decode cX10_storms 5 = .ok (.iload_n 1, 1) := by decide +kernel
theorem dX10_storms_6 : decode cX10_storms 6 = .ok (.iconst 5, 1) := by decide +kernel
theorem dX10_storms_7 : decode cX10_storms 7 = .ok (.if_icmp .gt 13, 3) := by decide +kernel
theorem dX10_storms_10 : decode cX10_storms 10 = .ok (.iload_n 2, 1) := by decide +kernel
theorem dX10_storms_11 : decode cX10_storms 11 = .ok (.ifCond .lt 9, 3) := by decide +kernel
theorem dX10_storms_14 : decode cX10_storms 14 = .ok (.iload_n 2, 1) := by decide +kernel
theorem dX10_storms_15 : decode cX10_storms 15 = .ok (.bipush 10, 2) := by decide +kernel
theorem dX10_storms_17 : decode cX10_storms 17 = .ok (.if_icmp .le 14, 3) := by decide +kernel
theorem dX10_storms_20 : decode cX10_storms 20 = .ok (.new 52, 3) := by decide +kernel
theorem dX10_storms_23 : decode cX10_storms 23 = .ok (.dup, 1) := by decide +kernel
theorem dX10_storms_24 : decode cX10_storms 24 = .ok (.ldc_w 341, 3) := by decide +kernel
theorem dX10_storms_27 : decode cX10_storms 27 = .ok (.invokespecial 56, 3) := by decide +kernel
theorem dX10_storms_30 : decode cX10_storms 30 = .ok (.athrow, 1) := by decide +kernel
theorem dX10_storms_31 : decode cX10_storms 31 = .ok (.aload_n 0, 1) := by decide +kernel
theorem dX10_storms_32 : decode cX10_storms 32 = .ok (.getfield 36, 3) := by decide +kernel
theorem dX10_storms_35 : decode cX10_storms 35 = .ok (.aload_n 0, 1) := by decide +kernel
theorem dX10_storms_36 : decode cX10_storms 36 = .ok (.getfield 26, 3) := by decide +kernel
theorem dX10_storms_39 : decode cX10_storms 39 = .ok (.getfield 77, 3) := by decide +kernel
theorem dX10_storms_42 : decode cX10_storms 42 = .ok (.aload_n 0, 1) := by decide +kernel
theorem dX10_storms_43 : decode cX10_storms 43 = .ok (.getfield 19, 3) := by decide +kernel
theorem dX10_storms_46 : decode cX10_storms 46 = .ok (.iload_n 1, 1) := by decide +kernel
theorem dX10_storms_47 : decode cX10_storms 47 = .ok (.iload_n 2, 1) := by decide +kernel
theorem dX10_storms_48 : decode cX10_storms 48 = .ok (.invokevirtual 343, 3) := by decide +kernel
theorem dX10_storms_51 : decode cX10_storms 51 = .ok (.ireturn, 1) := by decide +kernel
theorem dX10_years_0 : decode cX10_years 0 = .ok (.iload_n 3, 1) := by decide +kernel
theorem dX10_years_1 : decode cX10_years 1 = .ok (.ifCond .lt 8, 3) := by decide +kernel
theorem dX10_years_4 : decode cX10_years 4 = .ok (.iload_n 3, 1) := by decide +kernel
theorem dX10_years_5 : decode cX10_years 5 = .ok (.iconst 2, 1) := by decide +kernel
theorem dX10_years_6 : decode cX10_years 6 = .ok (.if_icmp .le 14, 3) := by decide +kernel
theorem dX10_years_9 : decode cX10_years 9 = .ok (.new 176, 3) := by decide +kernel
theorem dX10_years_12 : decode cX10_years 12 = .ok (.dup, 1) := by decide +kernel
theorem dX10_years_13 : decode cX10_years 13 = .ok (.ldc_w 287, 3) := by decide +kernel
theorem dX10_years_16 : decode cX10_years 16 = .ok (.invokespecial 180, 3) := by decide +kernel
theorem dX10_years_19 : decode cX10_years 19 = .ok (.athrow, 1) := by decide +kernel
theorem dX10_years_20 : decode cX10_years 20 = .ok (.iload_n 2, 1) := by decide +kernel
theorem dX10_years_21 : decode cX10_years 21 = .ok (.ifCond .lt 9, 3) := by decide +kernel
theorem dX10_years_24 : decode cX10_years 24 = .ok (.iload_n 2, 1) := by decide +kernel
theorem dX10_years_25 : decode cX10_years 25 = .ok (.bipush 60, 2) := by decide +kernel
theorem dX10_years_27 : decode cX10_years 27 = .ok (.if_icmp .le 14, 3) := by decide +kernel
theorem dX10_years_30 : decode cX10_years 30 = .ok (.new 52, 3) := by decide +kernel
theorem dX10_years_33 : decode cX10_years 33 = .ok (.dup, 1) := by decide +kernel
theorem dX10_years_34 : decode cX10_years 34 = .ok (.ldc_w 346, 3) := by decide +kernel
theorem dX10_years_37 : decode cX10_years 37 = .ok (.invokespecial 56, 3) := by decide +kernel
theorem dX10_years_40 : decode cX10_years 40 = .ok (.athrow, 1) := by decide +kernel
theorem dX10_years_41 : decode cX10_years 41 = .ok (.aload_n 0, 1) := by decide +kernel
theorem dX10_years_42 : decode cX10_years 42 = .ok (.getfield 36, 3) := by decide +kernel
theorem dX10_years_45 : decode cX10_years 45 = .ok (.aload_n 0, 1) := by decide +kernel
theorem dX10_years_46 : decode cX10_years 46 = .ok (.getfield 26, 3) := by decide +kernel
theorem dX10_years_49 : decode cX10_years 49 = .ok (.getfield 77, 3) := by decide +kernel
theorem dX10_years_52 : decode cX10_years 52 = .ok (.aload_n 0, 1) := by decide +kernel
theorem dX10_years_53 : decode cX10_years 53 = .ok (.getfield 19, 3) := by decide +kernel
theorem dX10_years_56 : decode cX10_years 56 = .ok (.iload_n 1, 1) := by decide +kernel
theorem dX10_years_57 : decode cX10_years 57 = .ok (.iload_n 2, 1) := by decide +kernel
theorem dX10_years_58 : decode cX10_years 58 = .ok (.iload_n 3, 1) := by decide +kernel
theorem dX10_years_59 : decode cX10_years 59 = .ok (.invokevirtual 348, 3) := by decide +kernel
theorem dX10_years_62 : decode cX10_years 62 = .ok (.ireturn, 1) := by decide +kernel
theorem dX10_image_0 : decode cX10_image 0 = .ok (.aload_n 0, 1) := by decide +kernel
theorem dX10_image_1 : decode cX10_image 1 = .ok (.getfield 30, 3) := by decide +kernel
theorem dX10_image_4 : decode cX10_image 4 = .ok (.aload_n 0, 1) := by decide +kernel
theorem dX10_image_5 : decode cX10_image 5 = .ok (.getfield 26, 3) := by decide +kernel
theorem dX10_image_8 : decode cX10_image 8 = .ok (.invokevirtual 352, 3) := by decide +kernel
theorem dX10_image_11 : decode cX10_image 11 = .ok (.aload_n 0, 1) := by decide +kernel
theorem dX10_image_12 : decode cX10_image 12 = .ok (.iconst 1, 1) := by decide +kernel
theorem dX10_image_13 : decode cX10_image 13 = .ok (.putfield 70, 3) := by decide +kernel
theorem dX10_image_16 : decode cX10_image 16 = .ok (.return_, 1) := by decide +kernel
theorem dX10_restore_0 : decode cX10_restore 0 = .ok (.aload_n 0, 1) := by decide +kernel
theorem dX10_restore_1 : decode cX10_restore 1 = .ok (.getfield 70, 3) := by decide +kernel
theorem dX10_restore_4 : decode cX10_restore 4 = .ok (.ifCond .ne 5, 3) := by decide +kernel
theorem dX10_restore_7 : decode cX10_restore 7 = .ok (.iconst 0, 1) := by decide +kernel
theorem dX10_restore_8 : decode cX10_restore 8 = .ok (.ireturn, 1) := by decide +kernel
theorem dX10_restore_9 : decode cX10_restore 9 = .ok (.aload_n 0, 1) := by decide +kernel
theorem dX10_restore_10 : decode cX10_restore 10 = .ok (.getfield 26, 3) := by decide +kernel
theorem dX10_restore_13 : decode cX10_restore 13 = .ok (.aload_n 0, 1) := by decide +kernel
theorem dX10_restore_14 : decode cX10_restore 14 = .ok (.getfield 30, 3) := by decide +kernel
theorem dX10_restore_17 : decode cX10_restore 17 = .ok (.invokevirtual 352, 3) := by decide +kernel
theorem dX10_restore_20 : decode cX10_restore 20 = .ok (.iconst 1, 1) := by decide +kernel
theorem dX10_restore_21 : decode cX10_restore 21 = .ok (.ireturn, 1) := by decide +kernel
theorem dX10_turnable_0 : decode cX10_turnable 0 = .ok (.iload_n 1, 1) := by decide +kernel
theorem dX10_turnable_1 : decode cX10_turnable 1 = .ok (.ifCond .ne 17, 3) := by decide +kernel
theorem dX10_turnable_4 : decode cX10_turnable 4 = .ok (.aload_n 0, 1) := by decide +kernel
theorem dX10_turnable_5 : decode cX10_turnable 5 = .ok (.getfield 26, 3) := by decide +kernel
theorem dX10_turnable_8 : decode cX10_turnable 8 = .ok (.getfield 77, 3) := by decide +kernel
theorem dX10_turnable_11 : decode cX10_turnable 11 = .ok (.getfield 86, 3) := by decide +kernel
theorem dX10_turnable_14 : decode cX10_turnable 14 = .ok (.getfield 193, 3) := by decide +kernel
theorem dX10_turnable_17 : decode cX10_turnable 17 = .ok (.ireturn, 1) := by decide +kernel
theorem dX10_turnable_18 : decode cX10_turnable 18 = .ok (.iload_n 1, 1) := by decide +kernel
theorem dX10_turnable_19 : decode cX10_turnable 19 = .ok (.iconst 1, 1) := by decide +kernel
theorem dX10_turnable_20 : decode cX10_turnable 20 = .ok (.if_icmp .ne 19, 3) := by decide +kernel
theorem dX10_turnable_23 : decode cX10_turnable 23 = .ok (.aload_n 0, 1) := by decide +kernel
theorem dX10_turnable_24 : decode cX10_turnable 24 = .ok (.getfield 26, 3) := by decide +kernel
theorem dX10_turnable_27 : decode cX10_turnable 27 = .ok (.getfield 77, 3) := by decide +kernel
theorem dX10_turnable_30 : decode cX10_turnable 30 = .ok (.getfield 104, 3) := by decide +kernel
theorem dX10_turnable_33 : decode cX10_turnable 33 = .ok (.getfield 202, 3) := by decide +kernel
theorem dX10_turnable_36 : decode cX10_turnable 36 = .ok (.goto 16, 3) := by decide +kernel
theorem dX10_turnable_39 : decode cX10_turnable 39 = .ok (.aload_n 0, 1) := by decide +kernel
theorem dX10_turnable_40 : decode cX10_turnable 40 = .ok (.getfield 26, 3) := by decide +kernel
theorem dX10_turnable_43 : decode cX10_turnable 43 = .ok (.getfield 77, 3) := by decide +kernel
theorem dX10_turnable_46 : decode cX10_turnable 46 = .ok (.getfield 104, 3) := by decide +kernel
theorem dX10_turnable_49 : decode cX10_turnable 49 = .ok (.getfield 181, 3) := by decide +kernel
theorem dX10_turnable_52 : decode cX10_turnable 52 = .ok (.ireturn, 1) := by decide +kernel
theorem dX10_canTurn_0 : decode cX10_canTurn 0 = .ok (.iload_n 0, 1) := by decide +kernel
theorem dX10_canTurn_1 : decode cX10_canTurn 1 = .ok (.ifCond .ne 21, 3) := by decide +kernel
theorem dX10_canTurn_4 : decode cX10_canTurn 4 = .ok (.iload_n 1, 1) := by decide +kernel
theorem dX10_canTurn_5 : decode cX10_canTurn 5 = .ok (.bipush (-99), 2) := by decide +kernel
theorem dX10_canTurn_7 : decode cX10_canTurn 7 = .ok (.if_icmp .lt 13, 3) := by decide +kernel
theorem dX10_canTurn_10 : decode cX10_canTurn 10 = .ok (.iload_n 1, 1) := by decide +kernel
theorem dX10_canTurn_11 : decode cX10_canTurn 11 = .ok (.bipush 99, 2) := by decide +kernel
theorem dX10_canTurn_13 : decode cX10_canTurn 13 = .ok (.if_icmp .gt 7, 3) := by decide +kernel
theorem dX10_canTurn_16 : decode cX10_canTurn 16 = .ok (.iconst 1, 1) := by decide +kernel
theorem dX10_canTurn_17 : decode cX10_canTurn 17 = .ok (.goto 4, 3) := by decide +kernel
theorem dX10_canTurn_20 : decode cX10_canTurn 20 = .ok (.iconst 0, 1) := by decide +kernel
theorem dX10_canTurn_21 : decode cX10_canTurn 21 = .ok (.ireturn, 1) := by decide +kernel
theorem dX10_canTurn_22 : decode cX10_canTurn 22 = .ok (.iload_n 0, 1) := by decide +kernel
theorem dX10_canTurn_23 : decode cX10_canTurn 23 = .ok (.iconst 1, 1) := by decide +kernel
theorem dX10_canTurn_24 : decode cX10_canTurn 24 = .ok (.if_icmp .ne 20, 3) := by decide +kernel
theorem dX10_canTurn_27 : decode cX10_canTurn 27 = .ok (.iload_n 1, 1) := by decide +kernel
theorem dX10_canTurn_28 : decode cX10_canTurn 28 = .ok (.ifCond .lt 12, 3) := by decide +kernel
theorem dX10_canTurn_31 : decode cX10_canTurn 31 = .ok (.iload_n 1, 1) := by decide +kernel
theorem dX10_canTurn_32 : decode cX10_canTurn 32 = .ok (.iconst 2, 1) := by decide +kernel
theorem dX10_canTurn_33 : decode cX10_canTurn 33 = .ok (.if_icmp .gt 7, 3) := by decide +kernel
theorem dX10_canTurn_36 : decode cX10_canTurn 36 = .ok (.iconst 1, 1) := by decide +kernel
theorem dX10_canTurn_37 : decode cX10_canTurn 37 = .ok (.goto 23, 3) := by decide +kernel
theorem dX10_canTurn_40 : decode cX10_canTurn 40 = .ok (.iconst 0, 1) := by decide +kernel
theorem dX10_canTurn_41 : decode cX10_canTurn 41 = .ok (.goto 19, 3) := by decide +kernel
theorem dX10_canTurn_44 : decode cX10_canTurn 44 = .ok (.iload_n 1, 1) := by decide +kernel
theorem dX10_canTurn_45 : decode cX10_canTurn 45 = .ok (.iconst 1, 1) := by decide +kernel
theorem dX10_canTurn_46 : decode cX10_canTurn 46 = .ok (.if_icmp .lt 13, 3) := by decide +kernel
theorem dX10_canTurn_49 : decode cX10_canTurn 49 = .ok (.iload_n 1, 1) := by decide +kernel
theorem dX10_canTurn_50 : decode cX10_canTurn 50 = .ok (.bipush 64, 2) := by decide +kernel
theorem dX10_canTurn_52 : decode cX10_canTurn 52 = .ok (.if_icmp .gt 7, 3) := by decide +kernel
theorem dX10_canTurn_55 : decode cX10_canTurn 55 = .ok (.iconst 1, 1) := by decide +kernel
theorem dX10_canTurn_56 : decode cX10_canTurn 56 = .ok (.goto 4, 3) := by decide +kernel
theorem dX10_canTurn_59 : decode cX10_canTurn 59 = .ok (.iconst 0, 1) := by decide +kernel
theorem dX10_canTurn_60 : decode cX10_canTurn 60 = .ok (.ireturn, 1) := by decide +kernel
theorem dX10_at_0 : decode cX10_at 0 = .ok (.iload_n 1, 1) := by decide +kernel
theorem dX10_at_1 : decode cX10_at 1 = .ok (.ifCond .lt 15, 3) := by decide +kernel
theorem dX10_at_4 : decode cX10_at 4 = .ok (.iload_n 1, 1) := by decide +kernel
theorem dX10_at_5 : decode cX10_at 5 = .ok (.aload_n 0, 1) := by decide +kernel
theorem dX10_at_6 : decode cX10_at 6 = .ok (.arraylength, 1) := by decide +kernel
theorem dX10_at_7 : decode cX10_at 7 = .ok (.if_icmp .ge 9, 3) := by decide +kernel
theorem dX10_at_10 : decode cX10_at 10 = .ok (.aload_n 0, 1) := by decide +kernel
theorem dX10_at_11 : decode cX10_at 11 = .ok (.iload_n 1, 1) := by decide +kernel
theorem dX10_at_12 : decode cX10_at 12 = .ok (.iaload, 1) := by decide +kernel
theorem dX10_at_13 : decode cX10_at 13 = .ok (.goto 4, 3) := by decide +kernel
theorem dX10_at_16 : decode cX10_at 16 = .ok (.iconst 0, 1) := by decide +kernel
theorem dX10_at_17 : decode cX10_at 17 = .ok (.ireturn, 1) := by decide +kernel
theorem dX10_put_0 : decode cX10_put 0 = .ok (.iload_n 1, 1) := by decide +kernel
theorem dX10_put_1 : decode cX10_put 1 = .ok (.ifCond .lt 13, 3) := by decide +kernel
theorem dX10_put_4 : decode cX10_put 4 = .ok (.iload_n 1, 1) := by decide +kernel
theorem dX10_put_5 : decode cX10_put 5 = .ok (.aload_n 0, 1) := by decide +kernel
theorem dX10_put_6 : decode cX10_put 6 = .ok (.arraylength, 1) := by decide +kernel
theorem dX10_put_7 : decode cX10_put 7 = .ok (.if_icmp .ge 7, 3) := by decide +kernel
theorem dX10_put_10 : decode cX10_put 10 = .ok (.aload_n 0, 1) := by decide +kernel
theorem dX10_put_11 : decode cX10_put 11 = .ok (.iload_n 1, 1) := by decide +kernel
theorem dX10_put_12 : decode cX10_put 12 = .ok (.iload_n 2, 1) := by decide +kernel
theorem dX10_put_13 : decode cX10_put 13 = .ok (.iastore, 1) := by decide +kernel
theorem dX10_put_14 : decode cX10_put 14 = .ok (.return_, 1) := by decide +kernel
theorem dX10_by_0 : decode cX10_by 0 = .ok (.iload_n 1, 1) := by decide +kernel
theorem dX10_by_1 : decode cX10_by 1 = .ok (.ifCond .ne 7, 3) := by decide +kernel
theorem dX10_by_4 : decode cX10_by 4 = .ok (.iconst 0, 1) := by decide +kernel
theorem dX10_by_5 : decode cX10_by 5 = .ok (.goto 6, 3) := by decide +kernel
theorem dX10_by_8 : decode cX10_by 8 = .ok (.iload_n 0, 1) := by decide +kernel
theorem dX10_by_9 : decode cX10_by 9 = .ok (.iload_n 1, 1) := by decide +kernel
theorem dX10_by_10 : decode cX10_by 10 = .ok (.idiv, 1) := by decide +kernel
theorem dX10_by_11 : decode cX10_by 11 = .ok (.ireturn, 1) := by decide +kernel
theorem dX10_mod_0 : decode cX10_mod 0 = .ok (.iload_n 1, 1) := by decide +kernel
theorem dX10_mod_1 : decode cX10_mod 1 = .ok (.ifCond .gt 7, 3) := by decide +kernel
theorem dX10_mod_4 : decode cX10_mod 4 = .ok (.iconst 0, 1) := by decide +kernel
theorem dX10_mod_5 : decode cX10_mod 5 = .ok (.goto 8, 3) := by decide +kernel
theorem dX10_mod_8 : decode cX10_mod 8 = .ok (.iload_n 0, 1) := by decide +kernel
theorem dX10_mod_9 : decode cX10_mod 9 = .ok (.iload_n 1, 1) := by decide +kernel
theorem dX10_mod_10 : decode cX10_mod 10 = .ok (.invokestatic 356, 3) := by decide +kernel
theorem dX10_mod_13 : decode cX10_mod 13 = .ok (.ireturn, 1) := by decide +kernel
theorem dX10_within_0 : decode cX10_within 0 = .ok (.iload_n 1, 1) := by decide +kernel
theorem dX10_within_1 : decode cX10_within 1 = .ok (.iload_n 2, 1) := by decide +kernel
theorem dX10_within_2 : decode cX10_within 2 = .ok (.iload_n 0, 1) := by decide +kernel
theorem dX10_within_3 : decode cX10_within 3 = .ok (.invokestatic 361, 3) := by decide +kernel
theorem dX10_within_6 : decode cX10_within 6 = .ok (.invokestatic 364, 3) := by decide +kernel
theorem dX10_within_9 : decode cX10_within 9 = .ok (.ireturn, 1) := by decide +kernel
theorem dX10_copyRow_0 : decode cX10_copyRow 0 = .ok (.aload_n 0, 1) := by decide +kernel
theorem dX10_copyRow_1 : decode cX10_copyRow 1 = .ok (.iconst 0, 1) := by decide +kernel
theorem dX10_copyRow_2 : decode cX10_copyRow 2 = .ok (.aload_n 1, 1) := by decide +kernel
theorem dX10_copyRow_3 : decode cX10_copyRow 3 = .ok (.iconst 0, 1) := by decide +kernel
theorem dX10_copyRow_4 : decode cX10_copyRow 4 = .ok (.aload_n 0, 1) := by decide +kernel
theorem dX10_copyRow_5 : decode cX10_copyRow 5 = .ok (.arraylength, 1) := by decide +kernel
theorem dX10_copyRow_6 : decode cX10_copyRow 6 = .ok (.aload_n 1, 1) := by decide +kernel
theorem dX10_copyRow_7 : decode cX10_copyRow 7 = .ok (.arraylength, 1) := by decide +kernel
theorem dX10_copyRow_8 : decode cX10_copyRow 8 = .ok (.invokestatic 361, 3) := by decide +kernel
theorem dX10_copyRow_11 : decode cX10_copyRow 11 = .ok (.invokestatic 367, 3) := by decide +kernel
theorem dX10_copyRow_14 : decode cX10_copyRow 14 = .ok (.return_, 1) := by decide +kernel
