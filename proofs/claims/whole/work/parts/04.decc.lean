theorem dX8_init_0 : decode cX8_init 0 = .ok (.aload_n 0, 1) := by decide +kernel
theorem dX8_init_1 : decode cX8_init 1 = .ok (.invokespecial 3, 3) := by decide +kernel
theorem dX8_init_4 : decode cX8_init 4 = .ok (.aload_n 0, 1) := by decide +kernel
theorem dX8_init_5 : decode cX8_init 5 = .ok (.sipush 379, 3) := by decide +kernel
theorem dX8_init_8 : decode cX8_init 8 = .ok (.newarray .int, 2) := by decide +kernel
theorem dX8_init_10 : decode cX8_init 10 = .ok (.putfield 9, 3) := by decide +kernel
theorem dX8_init_13 : decode cX8_init 13 = .ok (.aload_n 0, 1) := by decide +kernel
theorem dX8_init_14 : decode cX8_init 14 = .ok (.sipush 379, 3) := by decide +kernel
theorem dX8_init_17 : decode cX8_init 17 = .ok (.newarray .int, 2) := by decide +kernel
theorem dX8_init_19 : decode cX8_init 19 = .ok (.putfield 13, 3) := by decide +kernel
theorem dX8_init_22 : decode cX8_init 22 = .ok (.aload_n 0, 1) := by decide +kernel
theorem dX8_init_23 : decode cX8_init 23 = .ok (.sipush 379, 3) := by decide +kernel
theorem dX8_init_26 : decode cX8_init 26 = .ok (.newarray .int, 2) := by decide +kernel
theorem dX8_init_28 : decode cX8_init 28 = .ok (.putfield 16, 3) := by decide +kernel
theorem dX8_init_31 : decode cX8_init 31 = .ok (.aload_n 0, 1) := by decide +kernel
theorem dX8_init_32 : decode cX8_init 32 = .ok (.bipush 7, 2) := by decide +kernel
theorem dX8_init_34 : decode cX8_init 34 = .ok (.newarray .int, 2) := by decide +kernel
theorem dX8_init_36 : decode cX8_init 36 = .ok (.putfield 19, 3) := by decide +kernel
theorem dX8_init_39 : decode cX8_init 39 = .ok (.aload_n 0, 1) := by decide +kernel
theorem dX8_init_40 : decode cX8_init 40 = .ok (.iconst 4, 1) := by decide +kernel
theorem dX8_init_41 : decode cX8_init 41 = .ok (.newarray .int, 2) := by decide +kernel
theorem dX8_init_43 : decode cX8_init 43 = .ok (.putfield 22, 3) := by decide +kernel
theorem dX8_init_46 : decode cX8_init 46 = .ok (.aload_n 0, 1) := by decide +kernel
theorem dX8_init_47 : decode cX8_init 47 = .ok (.iconst 4, 1) := by decide +kernel
theorem dX8_init_48 : decode cX8_init 48 = .ok (.newarray .int, 2) := by decide +kernel
theorem dX8_init_50 : decode cX8_init 50 = .ok (.putfield 25, 3) := by decide +kernel
theorem dX8_init_53 : decode cX8_init 53 = .ok (.aload_n 0, 1) := by decide +kernel
theorem dX8_init_54 : decode cX8_init 54 = .ok (.bipush 96, 2) := by decide +kernel
theorem dX8_init_56 : decode cX8_init 56 = .ok (.newarray .int, 2) := by decide +kernel
theorem dX8_init_58 : decode cX8_init 58 = .ok (.putfield 28, 3) := by decide +kernel
theorem dX8_init_61 : decode cX8_init 61 = .ok (.aload_n 0, 1) := by decide +kernel
theorem dX8_init_62 : decode cX8_init 62 = .ok (.bipush 60, 2) := by decide +kernel
theorem dX8_init_64 : decode cX8_init 64 = .ok (.newarray .int, 2) := by decide +kernel
theorem dX8_init_66 : decode cX8_init 66 = .ok (.putfield 31, 3) := by decide +kernel
theorem dX8_init_69 : decode cX8_init 69 = .ok (.aload_n 0, 1) := by decide +kernel
theorem dX8_init_70 : decode cX8_init 70 = .ok (.bipush 60, 2) := by decide +kernel
theorem dX8_init_72 : decode cX8_init 72 = .ok (.newarray .int, 2) := by decide +kernel
theorem dX8_init_74 : decode cX8_init 74 = .ok (.putfield 34, 3) := by decide +kernel
theorem dX8_init_77 : decode cX8_init 77 = .ok (.aload_n 0, 1) := by decide +kernel
theorem dX8_init_78 : decode cX8_init 78 = .ok (.iconst 3, 1) := by decide +kernel
theorem dX8_init_79 : decode cX8_init 79 = .ok (.newarray .int, 2) := by decide +kernel
theorem dX8_init_81 : decode cX8_init 81 = .ok (.putfield 37, 3) := by decide +kernel
theorem dX8_init_84 : decode cX8_init 84 = .ok (.aload_n 0, 1) := by decide +kernel
theorem dX8_init_85 : decode cX8_init 85 = .ok (.bipush 60, 2) := by decide +kernel
theorem dX8_init_87 : decode cX8_init 87 = .ok (.newarray .int, 2) := by decide +kernel
theorem dX8_init_89 : decode cX8_init 89 = .ok (.putfield 40, 3) := by decide +kernel
theorem dX8_init_92 : decode cX8_init 92 = .ok (.aload_n 0, 1) := by decide +kernel
theorem dX8_init_93 : decode cX8_init 93 = .ok (.bipush 6, 2) := by decide +kernel
theorem dX8_init_95 : decode cX8_init 95 = .ok (.newarray .int, 2) := by decide +kernel
theorem dX8_init_97 : decode cX8_init 97 = .ok (.putfield 43, 3) := by decide +kernel
theorem dX8_init_100 : decode cX8_init 100 = .ok (.aload_n 0, 1) := by decide +kernel
theorem dX8_init_101 : decode cX8_init 101 = .ok (.bipush 6, 2) := by decide +kernel
theorem dX8_init_103 : decode cX8_init 103 = .ok (.newarray .int, 2) := by decide +kernel
theorem dX8_init_105 : decode cX8_init 105 = .ok (.putfield 46, 3) := by decide +kernel
theorem dX8_init_108 : decode cX8_init 108 = .ok (.aload_n 0, 1) := by decide +kernel
theorem dX8_init_109 : decode cX8_init 109 = .ok (.bipush 30, 2) := by decide +kernel
theorem dX8_init_111 : decode cX8_init 111 = .ok (.newarray .int, 2) := by decide +kernel
theorem dX8_init_113 : decode cX8_init 113 = .ok (.putfield 49, 3) := by decide +kernel
theorem dX8_init_116 : decode cX8_init 116 = .ok (.aload_n 0, 1) := by decide +kernel
theorem dX8_init_117 : decode cX8_init 117 = .ok (.getfield 9, 3) := by decide +kernel
theorem dX8_init_120 : decode cX8_init 120 = .ok (.iconst 4, 1) := by decide +kernel
theorem dX8_init_121 : decode cX8_init 121 = .ok (.iconst (-1), 1) := by decide +kernel
theorem dX8_init_122 : decode cX8_init 122 = .ok (.iastore, 1) := by decide +kernel
theorem dX8_init_123 : decode cX8_init 123 = .ok (.aload_n 0, 1) := by decide +kernel
theorem dX8_init_124 : decode cX8_init 124 = .ok (.getfield 9, 3) := by decide +kernel
theorem dX8_init_127 : decode cX8_init 127 = .ok (.bipush 7, 2) := by decide +kernel
theorem dX8_init_129 : decode cX8_init 129 = .ok (.iconst 1, 1) := by decide +kernel
theorem dX8_init_130 : decode cX8_init 130 = .ok (.iastore, 1) := by decide +kernel
theorem dX8_init_131 : decode cX8_init 131 = .ok (.return_, 1) := by decide +kernel
theorem dX8_error_0 : decode cX8_error 0 = .ok (.aload_n 0, 1) := by decide +kernel
theorem dX8_error_1 : decode cX8_error 1 = .ok (.getfield 19, 3) := by decide +kernel
theorem dX8_error_4 : decode cX8_error 4 = .ok (.ldc 52, 2) := by decide +kernel
theorem dX8_error_6 : decode cX8_error 6 = .ok (.iload_n 1, 1) := by decide +kernel
theorem dX8_error_7 : decode cX8_error 7 = .ok (.isub, 1) := by decide +kernel
theorem dX8_error_8 : decode cX8_error 8 = .ok (.dup2, 1) := by decide +kernel
theorem dX8_error_9 : decode cX8_error 9 = .ok (.iaload, 1) := by decide +kernel
theorem dX8_error_10 : decode cX8_error 10 = .ok (.iconst 1, 1) := by decide +kernel
theorem dX8_error_11 : decode cX8_error 11 = .ok (.iadd, 1) := by decide +kernel
theorem dX8_error_12 : decode cX8_error 12 = .ok (.iastore, 1) := by decide +kernel
theorem dX8_error_13 : decode cX8_error 13 = .ok (.iload_n 1, 1) := by decide +kernel
theorem dX8_error_14 : decode cX8_error 14 = .ok (.ireturn, 1) := by decide +kernel
theorem dX8_in_0 : decode cX8_in 0 = .ok (.iload_n 0, 1) := by decide +kernel
theorem dX8_in_1 : decode cX8_in 1 = .ok (.iload_n 1, 1) := by decide +kernel
theorem dX8_in_2 : decode cX8_in 2 = .ok (.if_icmp .lt 12, 3) := by decide +kernel
theorem dX8_in_5 : decode cX8_in 5 = .ok (.iload_n 0, 1) := by decide +kernel
theorem dX8_in_6 : decode cX8_in 6 = .ok (.iload_n 2, 1) := by decide +kernel
theorem dX8_in_7 : decode cX8_in 7 = .ok (.if_icmp .gt 7, 3) := by decide +kernel
theorem dX8_in_10 : decode cX8_in 10 = .ok (.iconst 1, 1) := by decide +kernel
theorem dX8_in_11 : decode cX8_in 11 = .ok (.goto 4, 3) := by decide +kernel
theorem dX8_in_14 : decode cX8_in 14 = .ok (.iconst 0, 1) := by decide +kernel
theorem dX8_in_15 : decode cX8_in 15 = .ok (.ireturn, 1) := by decide +kernel
theorem dX8_held_0 : decode cX8_held 0 = .ok (.iload_n 0, 1) := by decide +kernel
theorem dX8_held_1 : decode cX8_held 1 = .ok (.iload_n 1, 1) := by decide +kernel
theorem dX8_held_2 : decode cX8_held 2 = .ok (.if_icmp .ge 7, 3) := by decide +kernel
theorem dX8_held_5 : decode cX8_held 5 = .ok (.iload_n 1, 1) := by decide +kernel
theorem dX8_held_6 : decode cX8_held 6 = .ok (.goto 13, 3) := by decide +kernel
theorem dX8_held_9 : decode cX8_held 9 = .ok (.iload_n 0, 1) := by decide +kernel
theorem dX8_held_10 : decode cX8_held 10 = .ok (.iload_n 2, 1) := by decide +kernel
theorem dX8_held_11 : decode cX8_held 11 = .ok (.if_icmp .le 7, 3) := by decide +kernel
theorem dX8_held_14 : decode cX8_held 14 = .ok (.iload_n 2, 1) := by decide +kernel
theorem dX8_held_15 : decode cX8_held 15 = .ok (.goto 4, 3) := by decide +kernel
theorem dX8_held_18 : decode cX8_held 18 = .ok (.iload_n 0, 1) := by decide +kernel
theorem dX8_held_19 : decode cX8_held 19 = .ok (.ireturn, 1) := by decide +kernel
theorem dX8_copyAll_0 : decode cX8_copyAll 0 = .ok (.iconst 0, 1) := by decide +kernel
theorem dX8_copyAll_1 : decode cX8_copyAll 1 = .ok (.istore_n 2, 1) := by decide +kernel
theorem dX8_copyAll_2 : decode cX8_copyAll 2 = .ok (.iload_n 2, 1) := by decide +kernel
theorem dX8_copyAll_3 : decode cX8_copyAll 3 = .ok (.sipush 379, 3) := by decide +kernel
theorem dX8_copyAll_6 : decode cX8_copyAll 6 = .ok (.if_icmp .ge 15, 3) := by decide +kernel
theorem dX8_copyAll_9 : decode cX8_copyAll 9 = .ok (.aload_n 1, 1) := by decide +kernel
theorem dX8_copyAll_10 : decode cX8_copyAll 10 = .ok (.iload_n 2, 1) := by decide +kernel
theorem dX8_copyAll_11 : decode cX8_copyAll 11 = .ok (.aload_n 0, 1) := by decide +kernel
theorem dX8_copyAll_12 : decode cX8_copyAll 12 = .ok (.iload_n 2, 1) := by decide +kernel
theorem dX8_copyAll_13 : decode cX8_copyAll 13 = .ok (.iaload, 1) := by decide +kernel
theorem dX8_copyAll_14 : decode cX8_copyAll 14 = .ok (.iastore, 1) := by decide +kernel
theorem dX8_copyAll_15 : decode cX8_copyAll 15 = .ok (.iinc 2 1, 3) := by decide +kernel
theorem dX8_copyAll_18 : decode cX8_copyAll 18 = .ok (.goto (-16), 3) := by decide +kernel
theorem dX8_copyAll_21 : decode cX8_copyAll 21 = .ok (.return_, 1) := by decide +kernel
theorem dX8_thinks_0 : decode cX8_thinks 0 = .ok (.aload_n 0, 1) := by decide +kernel
theorem dX8_thinks_1 : decode cX8_thinks 1 = .ok (.getfield 9, 3) := by decide +kernel
theorem dX8_thinks_4 : decode cX8_thinks 4 = .ok (.aload_n 0, 1) := by decide +kernel
theorem dX8_thinks_5 : decode cX8_thinks 5 = .ok (.getfield 16, 3) := by decide +kernel
theorem dX8_thinks_8 : decode cX8_thinks 8 = .ok (.invokestatic 53, 3) := by decide +kernel
theorem dX8_thinks_11 : decode cX8_thinks 11 = .ok (.return_, 1) := by decide +kernel
theorem dX8_putsBack_0 : decode cX8_putsBack 0 = .ok (.aload_n 0, 1) := by decide +kernel
theorem dX8_putsBack_1 : decode cX8_putsBack 1 = .ok (.getfield 16, 3) := by decide +kernel
theorem dX8_putsBack_4 : decode cX8_putsBack 4 = .ok (.aload_n 0, 1) := by decide +kernel
theorem dX8_putsBack_5 : decode cX8_putsBack 5 = .ok (.getfield 9, 3) := by decide +kernel
theorem dX8_putsBack_8 : decode cX8_putsBack 8 = .ok (.invokestatic 53, 3) := by decide +kernel
theorem dX8_putsBack_11 : decode cX8_putsBack 11 = .ok (.return_, 1) := by decide +kernel
theorem dX8_bits_0 : decode cX8_bits 0 = .ok (.iconst 0, 1) := by decide +kernel
theorem dX8_bits_1 : decode cX8_bits 1 = .ok (.istore_n 1, 1) := by decide +kernel
theorem dX8_bits_2 : decode cX8_bits 2 = .ok (.iload_n 0, 1) := by decide +kernel
theorem dX8_bits_3 : decode cX8_bits 3 = .ok (.istore_n 2, 1) := by decide +kernel
theorem dX8_bits_4 : decode cX8_bits 4 = .ok (.iload_n 2, 1) := by decide +kernel
theorem dX8_bits_5 : decode cX8_bits 5 = .ok (.ifCond .eq 15, 3) := by decide +kernel
theorem dX8_bits_8 : decode cX8_bits 8 = .ok (.iinc 1 1, 3) := by decide +kernel
theorem dX8_bits_11 : decode cX8_bits 11 = .ok (.iload_n 2, 1) := by decide +kernel
theorem dX8_bits_12 : decode cX8_bits 12 = .ok (.iload_n 2, 1) := by decide +kernel
theorem dX8_bits_13 : decode cX8_bits 13 = .ok (.iconst 1, 1) := by decide +kernel
theorem dX8_bits_14 : decode cX8_bits 14 = .ok (.isub, 1) := by decide +kernel
theorem dX8_bits_15 : decode cX8_bits 15 = .ok (.iand, 1) := by decide +kernel
theorem dX8_bits_16 : decode cX8_bits 16 = .ok (.istore_n 2, 1) := by decide +kernel
theorem dX8_bits_17 : decode cX8_bits 17 = .ok (.goto (-13), 3) := by decide +kernel
theorem dX8_bits_20 : decode cX8_bits 20 = .ok (.iload_n 1, 1) := by decide +kernel
theorem dX8_bits_21 : decode cX8_bits 21 = .ok (.ireturn, 1) := by decide +kernel
theorem dX8_isThing_0 : decode cX8_isThing 0 = .ok (.iload_n 1, 1) := by decide +kernel
theorem dX8_isThing_1 : decode cX8_isThing 1 = .ok (.iconst 0, 1) := by decide +kernel
theorem dX8_isThing_2 : decode cX8_isThing 2 = .ok (.aload_n 0, 1) := by decide +kernel
theorem dX8_isThing_3 : decode cX8_isThing 3 = .ok (.getfield 9, 3) := by decide +kernel
theorem dX8_isThing_6 : decode cX8_isThing 6 = .ok (.iconst 2, 1) := by decide +kernel
theorem dX8_isThing_7 : decode cX8_isThing 7 = .ok (.iaload, 1) := by decide +kernel
theorem dX8_isThing_8 : decode cX8_isThing 8 = .ok (.iconst 1, 1) := by decide +kernel
theorem dX8_isThing_9 : decode cX8_isThing 9 = .ok (.isub, 1) := by decide +kernel
theorem dX8_isThing_10 : decode cX8_isThing 10 = .ok (.invokestatic 57, 3) := by decide +kernel
theorem dX8_isThing_13 : decode cX8_isThing 13 = .ok (.ireturn, 1) := by decide +kernel
theorem dX8_becomes_0 : decode cX8_becomes 0 = .ok (.aload_n 0, 1) := by decide +kernel
theorem dX8_becomes_1 : decode cX8_becomes 1 = .ok (.getfield 9, 3) := by decide +kernel
theorem dX8_becomes_4 : decode cX8_becomes 4 = .ok (.iload_n 1, 1) := by decide +kernel
theorem dX8_becomes_5 : decode cX8_becomes 5 = .ok (.iaload, 1) := by decide +kernel
theorem dX8_becomes_6 : decode cX8_becomes 6 = .ok (.istore_n 3, 1) := by decide +kernel
theorem dX8_becomes_7 : decode cX8_becomes 7 = .ok (.aload_n 0, 1) := by decide +kernel
theorem dX8_becomes_8 : decode cX8_becomes 8 = .ok (.getfield 9, 3) := by decide +kernel
theorem dX8_becomes_11 : decode cX8_becomes 11 = .ok (.iload_n 1, 1) := by decide +kernel
theorem dX8_becomes_12 : decode cX8_becomes 12 = .ok (.iload_n 2, 1) := by decide +kernel
theorem dX8_becomes_13 : decode cX8_becomes 13 = .ok (.iastore, 1) := by decide +kernel
theorem dX8_becomes_14 : decode cX8_becomes 14 = .ok (.iload_n 3, 1) := by decide +kernel
theorem dX8_becomes_15 : decode cX8_becomes 15 = .ok (.ireturn, 1) := by decide +kernel
theorem dX8_of_0 : decode cX8_of 0 = .ok (.aload_n 0, 1) := by decide +kernel
theorem dX8_of_1 : decode cX8_of 1 = .ok (.getfield 9, 3) := by decide +kernel
theorem dX8_of_4 : decode cX8_of 4 = .ok (.bipush 17, 2) := by decide +kernel
theorem dX8_of_6 : decode cX8_of 6 = .ok (.iconst 4, 1) := by decide +kernel
theorem dX8_of_7 : decode cX8_of 7 = .ok (.iload_n 1, 1) := by decide +kernel
theorem dX8_of_8 : decode cX8_of 8 = .ok (.imul, 1) := by decide +kernel
theorem dX8_of_9 : decode cX8_of 9 = .ok (.iadd, 1) := by decide +kernel
theorem dX8_of_10 : decode cX8_of 10 = .ok (.iload_n 2, 1) := by decide +kernel
theorem dX8_of_11 : decode cX8_of 11 = .ok (.iadd, 1) := by decide +kernel
theorem dX8_of_12 : decode cX8_of 12 = .ok (.iaload, 1) := by decide +kernel
theorem dX8_of_13 : decode cX8_of 13 = .ok (.ireturn, 1) := by decide +kernel
theorem dX8_sinksOf_0 : decode cX8_sinksOf 0 = .ok (.aload_n 0, 1) := by decide +kernel
theorem dX8_sinksOf_1 : decode cX8_sinksOf 1 = .ok (.iload_n 1, 1) := by decide +kernel
theorem dX8_sinksOf_2 : decode cX8_sinksOf 2 = .ok (.iconst 2, 1) := by decide +kernel
theorem dX8_sinksOf_3 : decode cX8_sinksOf 3 = .ok (.invokevirtual 61, 3) := by decide +kernel
theorem dX8_sinksOf_6 : decode cX8_sinksOf 6 = .ok (.istore_n 2, 1) := by decide +kernel
theorem dX8_sinksOf_7 : decode cX8_sinksOf 7 = .ok (.aload_n 0, 1) := by decide +kernel
theorem dX8_sinksOf_8 : decode cX8_sinksOf 8 = .ok (.iload_n 1, 1) := by decide +kernel
theorem dX8_sinksOf_9 : decode cX8_sinksOf 9 = .ok (.iconst 0, 1) := by decide +kernel
theorem dX8_sinksOf_10 : decode cX8_sinksOf 10 = .ok (.invokevirtual 61, 3) := by decide +kernel
theorem dX8_sinksOf_13 : decode cX8_sinksOf 13 = .ok (.tableswitch 97 1 5 #[35, 44, 48, 60, 84], 35) := by decide +kernel
theorem dX8_sinksOf_48 : decode cX8_sinksOf 48 = .ok (.iload_n 2, 1) := by decide +kernel
theorem dX8_sinksOf_49 : decode cX8_sinksOf 49 = .ok (.aload_n 0, 1) := by decide +kernel
theorem dX8_sinksOf_50 : decode cX8_sinksOf 50 = .ok (.iload_n 1, 1) := by decide +kernel
theorem dX8_sinksOf_51 : decode cX8_sinksOf 51 = .ok (.iconst 1, 1) := by decide +kernel
theorem dX8_sinksOf_52 : decode cX8_sinksOf 52 = .ok (.invokevirtual 61, 3) := by decide +kernel
theorem dX8_sinksOf_55 : decode cX8_sinksOf 55 = .ok (.iadd, 1) := by decide +kernel
theorem dX8_sinksOf_56 : decode cX8_sinksOf 56 = .ok (.ireturn, 1) := by decide +kernel
theorem dX8_sinksOf_57 : decode cX8_sinksOf 57 = .ok (.iload_n 2, 1) := by decide +kernel
theorem dX8_sinksOf_58 : decode cX8_sinksOf 58 = .ok (.iconst 2, 1) := by decide +kernel
theorem dX8_sinksOf_59 : decode cX8_sinksOf 59 = .ok (.idiv, 1) := by decide +kernel
theorem dX8_sinksOf_60 : decode cX8_sinksOf 60 = .ok (.ireturn, 1) := by decide +kernel
theorem dX8_sinksOf_61 : decode cX8_sinksOf 61 = .ok (.iload_n 2, 1) := by decide +kernel
theorem dX8_sinksOf_62 : decode cX8_sinksOf 62 = .ok (.bipush 9, 2) := by decide +kernel
theorem dX8_sinksOf_64 : decode cX8_sinksOf 64 = .ok (.iadd, 1) := by decide +kernel
theorem dX8_sinksOf_65 : decode cX8_sinksOf 65 = .ok (.aload_n 0, 1) := by decide +kernel
theorem dX8_sinksOf_66 : decode cX8_sinksOf 66 = .ok (.iload_n 1, 1) := by decide +kernel
theorem dX8_sinksOf_67 : decode cX8_sinksOf 67 = .ok (.iconst 3, 1) := by decide +kernel
theorem dX8_sinksOf_68 : decode cX8_sinksOf 68 = .ok (.invokevirtual 61, 3) := by decide +kernel
theorem dX8_sinksOf_71 : decode cX8_sinksOf 71 = .ok (.isub, 1) := by decide +kernel
theorem dX8_sinksOf_72 : decode cX8_sinksOf 72 = .ok (.ireturn, 1) := by decide +kernel
theorem dX8_sinksOf_73 : decode cX8_sinksOf 73 = .ok (.aload_n 0, 1) := by decide +kernel
theorem dX8_sinksOf_74 : decode cX8_sinksOf 74 = .ok (.getfield 9, 3) := by decide +kernel
theorem dX8_sinksOf_77 : decode cX8_sinksOf 77 = .ok (.iconst 0, 1) := by decide +kernel
theorem dX8_sinksOf_78 : decode cX8_sinksOf 78 = .ok (.iaload, 1) := by decide +kernel
theorem dX8_sinksOf_79 : decode cX8_sinksOf 79 = .ok (.iconst 2, 1) := by decide +kernel
theorem dX8_sinksOf_80 : decode cX8_sinksOf 80 = .ok (.irem, 1) := by decide +kernel
theorem dX8_sinksOf_81 : decode cX8_sinksOf 81 = .ok (.ifCond .ne 14, 3) := by decide +kernel
theorem dX8_sinksOf_84 : decode cX8_sinksOf 84 = .ok (.iload_n 2, 1) := by decide +kernel
theorem dX8_sinksOf_85 : decode cX8_sinksOf 85 = .ok (.aload_n 0, 1) := by decide +kernel
theorem dX8_sinksOf_86 : decode cX8_sinksOf 86 = .ok (.iload_n 1, 1) := by decide +kernel
theorem dX8_sinksOf_87 : decode cX8_sinksOf 87 = .ok (.iconst 1, 1) := by decide +kernel
theorem dX8_sinksOf_88 : decode cX8_sinksOf 88 = .ok (.invokevirtual 61, 3) := by decide +kernel
theorem dX8_sinksOf_91 : decode cX8_sinksOf 91 = .ok (.iadd, 1) := by decide +kernel
theorem dX8_sinksOf_92 : decode cX8_sinksOf 92 = .ok (.goto 4, 3) := by decide +kernel
theorem dX8_sinksOf_95 : decode cX8_sinksOf 95 = .ok (.iconst 0, 1) := by decide +kernel
theorem dX8_sinksOf_96 : decode cX8_sinksOf 96 = .ok (.ireturn, 1) := by decide +kernel
theorem dX8_sinksOf_97 : decode cX8_sinksOf 97 = .ok (.iload_n 2, 1) := by decide +kernel
theorem dX8_sinksOf_98 : decode cX8_sinksOf 98 = .ok (.iconst 2, 1) := by decide +kernel
theorem dX8_sinksOf_99 : decode cX8_sinksOf 99 = .ok (.idiv, 1) := by decide +kernel
theorem dX8_sinksOf_100 : decode cX8_sinksOf 100 = .ok (.aload_n 0, 1) := by decide +kernel
theorem dX8_sinksOf_101 : decode cX8_sinksOf 101 = .ok (.getfield 9, 3) := by decide +kernel
theorem dX8_sinksOf_104 : decode cX8_sinksOf 104 = .ok (.iconst 0, 1) := by decide +kernel
theorem dX8_sinksOf_105 : decode cX8_sinksOf 105 = .ok (.iaload, 1) := by decide +kernel
theorem dX8_sinksOf_106 : decode cX8_sinksOf 106 = .ok (.iconst 3, 1) := by decide +kernel
theorem dX8_sinksOf_107 : decode cX8_sinksOf 107 = .ok (.irem, 1) := by decide +kernel
theorem dX8_sinksOf_108 : decode cX8_sinksOf 108 = .ok (.iadd, 1) := by decide +kernel
theorem dX8_sinksOf_109 : decode cX8_sinksOf 109 = .ok (.ireturn, 1) := by decide +kernel
theorem dX8_sinksOf_110 : decode cX8_sinksOf 110 = .ok (.iload_n 2, 1) := by decide +kernel
theorem dX8_sinksOf_111 : decode cX8_sinksOf 111 = .ok (.ireturn, 1) := by decide +kernel
theorem dX8_feelsOf_0 : decode cX8_feelsOf 0 = .ok (.aload_n 0, 1) := by decide +kernel
theorem dX8_feelsOf_1 : decode cX8_feelsOf 1 = .ok (.iload_n 1, 1) := by decide +kernel
theorem dX8_feelsOf_2 : decode cX8_feelsOf 2 = .ok (.iconst 3, 1) := by decide +kernel
theorem dX8_feelsOf_3 : decode cX8_feelsOf 3 = .ok (.invokevirtual 61, 3) := by decide +kernel
theorem dX8_feelsOf_6 : decode cX8_feelsOf 6 = .ok (.istore_n 2, 1) := by decide +kernel
theorem dX8_feelsOf_7 : decode cX8_feelsOf 7 = .ok (.aload_n 0, 1) := by decide +kernel
theorem dX8_feelsOf_8 : decode cX8_feelsOf 8 = .ok (.iload_n 1, 1) := by decide +kernel
theorem dX8_feelsOf_9 : decode cX8_feelsOf 9 = .ok (.iconst 1, 1) := by decide +kernel
theorem dX8_feelsOf_10 : decode cX8_feelsOf 10 = .ok (.invokevirtual 61, 3) := by decide +kernel
theorem dX8_feelsOf_13 : decode cX8_feelsOf 13 = .ok (.istore_n 3, 1) := by decide +kernel
theorem dX8_feelsOf_14 : decode cX8_feelsOf 14 = .ok (.aload_n 0, 1) := by decide +kernel
theorem dX8_feelsOf_15 : decode cX8_feelsOf 15 = .ok (.iload_n 1, 1) := by decide +kernel
theorem dX8_feelsOf_16 : decode cX8_feelsOf 16 = .ok (.iconst 0, 1) := by decide +kernel
theorem dX8_feelsOf_17 : decode cX8_feelsOf 17 = .ok (.invokevirtual 61, 3) := by decide +kernel
theorem dX8_feelsOf_20 : decode cX8_feelsOf 20 = .ok (.tableswitch 71 1 6 #[40, 44, 71, 48, 63, 69], 40) := by decide +kernel
theorem dX8_feelsOf_60 : decode cX8_feelsOf 60 = .ok (.iload_n 2, 1) := by decide +kernel
theorem dX8_feelsOf_61 : decode cX8_feelsOf 61 = .ok (.iconst 2, 1) := by decide +kernel
theorem dX8_feelsOf_62 : decode cX8_feelsOf 62 = .ok (.idiv, 1) := by decide +kernel
theorem dX8_feelsOf_63 : decode cX8_feelsOf 63 = .ok (.ireturn, 1) := by decide +kernel
theorem dX8_feelsOf_64 : decode cX8_feelsOf 64 = .ok (.iload_n 2, 1) := by decide +kernel
theorem dX8_feelsOf_65 : decode cX8_feelsOf 65 = .ok (.iload_n 3, 1) := by decide +kernel
theorem dX8_feelsOf_66 : decode cX8_feelsOf 66 = .ok (.iadd, 1) := by decide +kernel
theorem dX8_feelsOf_67 : decode cX8_feelsOf 67 = .ok (.ireturn, 1) := by decide +kernel
theorem dX8_feelsOf_68 : decode cX8_feelsOf 68 = .ok (.iload_n 2, 1) := by decide +kernel
theorem dX8_feelsOf_69 : decode cX8_feelsOf 69 = .ok (.iconst 4, 1) := by decide +kernel
theorem dX8_feelsOf_70 : decode cX8_feelsOf 70 = .ok (.if_icmp .ge 7, 3) := by decide +kernel
theorem dX8_feelsOf_73 : decode cX8_feelsOf 73 = .ok (.iconst 0, 1) := by decide +kernel
theorem dX8_feelsOf_74 : decode cX8_feelsOf 74 = .ok (.goto 8, 3) := by decide +kernel
theorem dX8_feelsOf_77 : decode cX8_feelsOf 77 = .ok (.iload_n 2, 1) := by decide +kernel
theorem dX8_feelsOf_78 : decode cX8_feelsOf 78 = .ok (.iconst 2, 1) := by decide +kernel
theorem dX8_feelsOf_79 : decode cX8_feelsOf 79 = .ok (.idiv, 1) := by decide +kernel
theorem dX8_feelsOf_80 : decode cX8_feelsOf 80 = .ok (.iconst 1, 1) := by decide +kernel
theorem dX8_feelsOf_81 : decode cX8_feelsOf 81 = .ok (.isub, 1) := by decide +kernel
theorem dX8_feelsOf_82 : decode cX8_feelsOf 82 = .ok (.ireturn, 1) := by decide +kernel
theorem dX8_feelsOf_83 : decode cX8_feelsOf 83 = .ok (.iconst 2, 1) := by decide +kernel
theorem dX8_feelsOf_84 : decode cX8_feelsOf 84 = .ok (.iload_n 2, 1) := by decide +kernel
theorem dX8_feelsOf_85 : decode cX8_feelsOf 85 = .ok (.iload_n 3, 1) := by decide +kernel
theorem dX8_feelsOf_86 : decode cX8_feelsOf 86 = .ok (.iadd, 1) := by decide +kernel
theorem dX8_feelsOf_87 : decode cX8_feelsOf 87 = .ok (.imul, 1) := by decide +kernel
theorem dX8_feelsOf_88 : decode cX8_feelsOf 88 = .ok (.ireturn, 1) := by decide +kernel
theorem dX8_feelsOf_89 : decode cX8_feelsOf 89 = .ok (.iload_n 3, 1) := by decide +kernel
theorem dX8_feelsOf_90 : decode cX8_feelsOf 90 = .ok (.ireturn, 1) := by decide +kernel
theorem dX8_feelsOf_91 : decode cX8_feelsOf 91 = .ok (.iload_n 2, 1) := by decide +kernel
theorem dX8_feelsOf_92 : decode cX8_feelsOf 92 = .ok (.ireturn, 1) := by decide +kernel
theorem dX8_whereIs_0 : decode cX8_whereIs 0 = .ok (.iconst 0, 1) := by decide +kernel
theorem dX8_whereIs_1 : decode cX8_whereIs 1 = .ok (.istore_n 2, 1) := by decide +kernel
theorem dX8_whereIs_2 : decode cX8_whereIs 2 = .ok (.iload_n 2, 1) := by decide +kernel
theorem dX8_whereIs_3 : decode cX8_whereIs 3 = .ok (.aload_n 0, 1) := by decide +kernel
theorem dX8_whereIs_4 : decode cX8_whereIs 4 = .ok (.getfield 9, 3) := by decide +kernel
theorem dX8_whereIs_7 : decode cX8_whereIs 7 = .ok (.iconst 3, 1) := by decide +kernel
theorem dX8_whereIs_8 : decode cX8_whereIs 8 = .ok (.iaload, 1) := by decide +kernel
theorem dX8_whereIs_9 : decode cX8_whereIs 9 = .ok (.if_icmp .ge 24, 3) := by decide +kernel
theorem dX8_whereIs_12 : decode cX8_whereIs 12 = .ok (.aload_n 0, 1) := by decide +kernel
theorem dX8_whereIs_13 : decode cX8_whereIs 13 = .ok (.getfield 9, 3) := by decide +kernel
theorem dX8_whereIs_16 : decode cX8_whereIs 16 = .ok (.bipush 8, 2) := by decide +kernel
theorem dX8_whereIs_18 : decode cX8_whereIs 18 = .ok (.iload_n 2, 1) := by decide +kernel
theorem dX8_whereIs_19 : decode cX8_whereIs 19 = .ok (.iadd, 1) := by decide +kernel
theorem dX8_whereIs_20 : decode cX8_whereIs 20 = .ok (.iaload, 1) := by decide +kernel
theorem dX8_whereIs_21 : decode cX8_whereIs 21 = .ok (.iload_n 1, 1) := by decide +kernel
theorem dX8_whereIs_22 : decode cX8_whereIs 22 = .ok (.if_icmp .ne 5, 3) := by decide +kernel
theorem dX8_whereIs_25 : decode cX8_whereIs 25 = .ok (.iload_n 2, 1) := by decide +kernel
theorem dX8_whereIs_26 : decode cX8_whereIs 26 = .ok (.ireturn, 1) := by decide +kernel
theorem dX8_whereIs_27 : decode cX8_whereIs 27 = .ok (.iinc 2 1, 3) := by decide +kernel
theorem dX8_whereIs_30 : decode cX8_whereIs 30 = .ok (.goto (-28), 3) := by decide +kernel
theorem dX8_whereIs_33 : decode cX8_whereIs 33 = .ok (.aload_n 0, 1) := by decide +kernel
theorem dX8_whereIs_34 : decode cX8_whereIs 34 = .ok (.getfield 9, 3) := by decide +kernel
theorem dX8_whereIs_37 : decode cX8_whereIs 37 = .ok (.iconst 4, 1) := by decide +kernel
theorem dX8_whereIs_38 : decode cX8_whereIs 38 = .ok (.iaload, 1) := by decide +kernel
theorem dX8_whereIs_39 : decode cX8_whereIs 39 = .ok (.iload_n 1, 1) := by decide +kernel
theorem dX8_whereIs_40 : decode cX8_whereIs 40 = .ok (.if_icmp .ne 7, 3) := by decide +kernel
theorem dX8_whereIs_43 : decode cX8_whereIs 43 = .ok (.iconst (-1), 1) := by decide +kernel
theorem dX8_whereIs_44 : decode cX8_whereIs 44 = .ok (.goto 5, 3) := by decide +kernel
theorem dX8_whereIs_47 : decode cX8_whereIs 47 = .ok (.bipush (-2), 2) := by decide +kernel
theorem dX8_whereIs_49 : decode cX8_whereIs 49 = .ok (.ireturn, 1) := by decide +kernel
theorem dX8_goesFrom_0 : decode cX8_goesFrom 0 = .ok (.aload_n 0, 1) := by decide +kernel
theorem dX8_goesFrom_1 : decode cX8_goesFrom 1 = .ok (.getfield 9, 3) := by decide +kernel
theorem dX8_goesFrom_4 : decode cX8_goesFrom 4 = .ok (.iconst 3, 1) := by decide +kernel
theorem dX8_goesFrom_5 : decode cX8_goesFrom 5 = .ok (.dup2, 1) := by decide +kernel
theorem dX8_goesFrom_6 : decode cX8_goesFrom 6 = .ok (.iaload, 1) := by decide +kernel
theorem dX8_goesFrom_7 : decode cX8_goesFrom 7 = .ok (.iconst 1, 1) := by decide +kernel
theorem dX8_goesFrom_8 : decode cX8_goesFrom 8 = .ok (.isub, 1) := by decide +kernel
theorem dX8_goesFrom_9 : decode cX8_goesFrom 9 = .ok (.iastore, 1) := by decide +kernel
theorem dX8_goesFrom_10 : decode cX8_goesFrom 10 = .ok (.iload_n 1, 1) := by decide +kernel
theorem dX8_goesFrom_11 : decode cX8_goesFrom 11 = .ok (.istore_n 2, 1) := by decide +kernel
theorem dX8_goesFrom_12 : decode cX8_goesFrom 12 = .ok (.iload_n 2, 1) := by decide +kernel
theorem dX8_goesFrom_13 : decode cX8_goesFrom 13 = .ok (.aload_n 0, 1) := by decide +kernel
theorem dX8_goesFrom_14 : decode cX8_goesFrom 14 = .ok (.getfield 9, 3) := by decide +kernel
theorem dX8_goesFrom_17 : decode cX8_goesFrom 17 = .ok (.iconst 3, 1) := by decide +kernel
theorem dX8_goesFrom_18 : decode cX8_goesFrom 18 = .ok (.iaload, 1) := by decide +kernel
theorem dX8_goesFrom_19 : decode cX8_goesFrom 19 = .ok (.if_icmp .ge 29, 3) := by decide +kernel
theorem dX8_goesFrom_22 : decode cX8_goesFrom 22 = .ok (.aload_n 0, 1) := by decide +kernel
theorem dX8_goesFrom_23 : decode cX8_goesFrom 23 = .ok (.getfield 9, 3) := by decide +kernel
theorem dX8_goesFrom_26 : decode cX8_goesFrom 26 = .ok (.bipush 8, 2) := by decide +kernel
theorem dX8_goesFrom_28 : decode cX8_goesFrom 28 = .ok (.iload_n 2, 1) := by decide +kernel
theorem dX8_goesFrom_29 : decode cX8_goesFrom 29 = .ok (.iadd, 1) := by decide +kernel
theorem dX8_goesFrom_30 : decode cX8_goesFrom 30 = .ok (.aload_n 0, 1) := by decide +kernel
theorem dX8_goesFrom_31 : decode cX8_goesFrom 31 = .ok (.getfield 9, 3) := by decide +kernel
theorem dX8_goesFrom_34 : decode cX8_goesFrom 34 = .ok (.bipush 8, 2) := by decide +kernel
theorem dX8_goesFrom_36 : decode cX8_goesFrom 36 = .ok (.iload_n 2, 1) := by decide +kernel
theorem dX8_goesFrom_37 : decode cX8_goesFrom 37 = .ok (.iadd, 1) := by decide +kernel
theorem dX8_goesFrom_38 : decode cX8_goesFrom 38 = .ok (.iconst 1, 1) := by decide +kernel
theorem dX8_goesFrom_39 : decode cX8_goesFrom 39 = .ok (.iadd, 1) := by decide +kernel
theorem dX8_goesFrom_40 : decode cX8_goesFrom 40 = .ok (.iaload, 1) := by decide +kernel
theorem dX8_goesFrom_41 : decode cX8_goesFrom 41 = .ok (.iastore, 1) := by decide +kernel
theorem dX8_goesFrom_42 : decode cX8_goesFrom 42 = .ok (.iinc 2 1, 3) := by decide +kernel
theorem dX8_goesFrom_45 : decode cX8_goesFrom 45 = .ok (.goto (-33), 3) := by decide +kernel
theorem dX8_goesFrom_48 : decode cX8_goesFrom 48 = .ok (.return_, 1) := by decide +kernel
theorem dX8_goesOnTop_0 : decode cX8_goesOnTop 0 = .ok (.aload_n 0, 1) := by decide +kernel
theorem dX8_goesOnTop_1 : decode cX8_goesOnTop 1 = .ok (.getfield 9, 3) := by decide +kernel
theorem dX8_goesOnTop_4 : decode cX8_goesOnTop 4 = .ok (.iconst 3, 1) := by decide +kernel
theorem dX8_goesOnTop_5 : decode cX8_goesOnTop 5 = .ok (.iaload, 1) := by decide +kernel
theorem dX8_goesOnTop_6 : decode cX8_goesOnTop 6 = .ok (.istore_n 2, 1) := by decide +kernel
theorem dX8_goesOnTop_7 : decode cX8_goesOnTop 7 = .ok (.iload_n 2, 1) := by decide +kernel
theorem dX8_goesOnTop_8 : decode cX8_goesOnTop 8 = .ok (.ifCond .le 29, 3) := by decide +kernel
theorem dX8_goesOnTop_11 : decode cX8_goesOnTop 11 = .ok (.aload_n 0, 1) := by decide +kernel
theorem dX8_goesOnTop_12 : decode cX8_goesOnTop 12 = .ok (.getfield 9, 3) := by decide +kernel
theorem dX8_goesOnTop_15 : decode cX8_goesOnTop 15 = .ok (.bipush 8, 2) := by decide +kernel
theorem dX8_goesOnTop_17 : decode cX8_goesOnTop 17 = .ok (.iload_n 2, 1) := by decide +kernel
theorem dX8_goesOnTop_18 : decode cX8_goesOnTop 18 = .ok (.iadd, 1) := by decide +kernel
theorem dX8_goesOnTop_19 : decode cX8_goesOnTop 19 = .ok (.aload_n 0, 1) := by decide +kernel
theorem dX8_goesOnTop_20 : decode cX8_goesOnTop 20 = .ok (.getfield 9, 3) := by decide +kernel
theorem dX8_goesOnTop_23 : decode cX8_goesOnTop 23 = .ok (.bipush 8, 2) := by decide +kernel
theorem dX8_goesOnTop_25 : decode cX8_goesOnTop 25 = .ok (.iload_n 2, 1) := by decide +kernel
theorem dX8_goesOnTop_26 : decode cX8_goesOnTop 26 = .ok (.iadd, 1) := by decide +kernel
theorem dX8_goesOnTop_27 : decode cX8_goesOnTop 27 = .ok (.iconst 1, 1) := by decide +kernel
theorem dX8_goesOnTop_28 : decode cX8_goesOnTop 28 = .ok (.isub, 1) := by decide +kernel
theorem dX8_goesOnTop_29 : decode cX8_goesOnTop 29 = .ok (.iaload, 1) := by decide +kernel
theorem dX8_goesOnTop_30 : decode cX8_goesOnTop 30 = .ok (.iastore, 1) := by decide +kernel
theorem dX8_goesOnTop_31 : decode cX8_goesOnTop 31 = .ok (.iinc 2 (-1), 3) := by decide +kernel
theorem dX8_goesOnTop_34 : decode cX8_goesOnTop 34 = .ok (.goto (-27), 3) := by decide +kernel
theorem dX8_goesOnTop_37 : decode cX8_goesOnTop 37 = .ok (.aload_n 0, 1) := by decide +kernel
theorem dX8_goesOnTop_38 : decode cX8_goesOnTop 38 = .ok (.getfield 9, 3) := by decide +kernel
theorem dX8_goesOnTop_41 : decode cX8_goesOnTop 41 = .ok (.bipush 8, 2) := by decide +kernel
theorem dX8_goesOnTop_43 : decode cX8_goesOnTop 43 = .ok (.iload_n 1, 1) := by decide +kernel
theorem dX8_goesOnTop_44 : decode cX8_goesOnTop 44 = .ok (.iastore, 1) := by decide +kernel
theorem dX8_goesOnTop_45 : decode cX8_goesOnTop 45 = .ok (.aload_n 0, 1) := by decide +kernel
theorem dX8_goesOnTop_46 : decode cX8_goesOnTop 46 = .ok (.getfield 9, 3) := by decide +kernel
theorem dX8_goesOnTop_49 : decode cX8_goesOnTop 49 = .ok (.iconst 3, 1) := by decide +kernel
theorem dX8_goesOnTop_50 : decode cX8_goesOnTop 50 = .ok (.dup2, 1) := by decide +kernel
theorem dX8_goesOnTop_51 : decode cX8_goesOnTop 51 = .ok (.iaload, 1) := by decide +kernel
theorem dX8_goesOnTop_52 : decode cX8_goesOnTop 52 = .ok (.iconst 1, 1) := by decide +kernel
theorem dX8_goesOnTop_53 : decode cX8_goesOnTop 53 = .ok (.iadd, 1) := by decide +kernel
theorem dX8_goesOnTop_54 : decode cX8_goesOnTop 54 = .ok (.iastore, 1) := by decide +kernel
theorem dX8_goesOnTop_55 : decode cX8_goesOnTop 55 = .ok (.return_, 1) := by decide +kernel
theorem dX8_aStep_0 : decode cX8_aStep 0 = .ok (.iconst 0, 1) := by decide +kernel
theorem dX8_aStep_1 : decode cX8_aStep 1 = .ok (.istore_n 1, 1) := by decide +kernel
theorem dX8_aStep_2 : decode cX8_aStep 2 = .ok (.iconst 0, 1) := by decide +kernel
theorem dX8_aStep_3 : decode cX8_aStep 3 = .ok (.istore_n 2, 1) := by decide +kernel
theorem dX8_aStep_4 : decode cX8_aStep 4 = .ok (.iload_n 2, 1) := by decide +kernel
theorem dX8_aStep_5 : decode cX8_aStep 5 = .ok (.aload_n 0, 1) := by decide +kernel
theorem dX8_aStep_6 : decode cX8_aStep 6 = .ok (.getfield 9, 3) := by decide +kernel
theorem dX8_aStep_9 : decode cX8_aStep 9 = .ok (.iconst 3, 1) := by decide +kernel
theorem dX8_aStep_10 : decode cX8_aStep 10 = .ok (.iaload, 1) := by decide +kernel
theorem dX8_aStep_11 : decode cX8_aStep 11 = .ok (.iconst 1, 1) := by decide +kernel
theorem dX8_aStep_12 : decode cX8_aStep 12 = .ok (.isub, 1) := by decide +kernel
theorem dX8_aStep_13 : decode cX8_aStep 13 = .ok (.if_icmp .ge 71, 3) := by decide +kernel
theorem dX8_aStep_16 : decode cX8_aStep 16 = .ok (.aload_n 0, 1) := by decide +kernel
theorem dX8_aStep_17 : decode cX8_aStep 17 = .ok (.getfield 9, 3) := by decide +kernel
theorem dX8_aStep_20 : decode cX8_aStep 20 = .ok (.bipush 8, 2) := by decide +kernel
theorem dX8_aStep_22 : decode cX8_aStep 22 = .ok (.iload_n 2, 1) := by decide +kernel
theorem dX8_aStep_23 : decode cX8_aStep 23 = .ok (.iadd, 1) := by decide +kernel
theorem dX8_aStep_24 : decode cX8_aStep 24 = .ok (.iaload, 1) := by decide +kernel
theorem dX8_aStep_25 : decode cX8_aStep 25 = .ok (.istore_n 3, 1) := by decide +kernel
theorem dX8_aStep_26 : decode cX8_aStep 26 = .ok (.aload_n 0, 1) := by decide +kernel
theorem dX8_aStep_27 : decode cX8_aStep 27 = .ok (.getfield 9, 3) := by decide +kernel
theorem dX8_aStep_30 : decode cX8_aStep 30 = .ok (.bipush 8, 2) := by decide +kernel
theorem dX8_aStep_32 : decode cX8_aStep 32 = .ok (.iload_n 2, 1) := by decide +kernel
theorem dX8_aStep_33 : decode cX8_aStep 33 = .ok (.iadd, 1) := by decide +kernel
theorem dX8_aStep_34 : decode cX8_aStep 34 = .ok (.iconst 1, 1) := by decide +kernel
theorem dX8_aStep_35 : decode cX8_aStep 35 = .ok (.iadd, 1) := by decide +kernel
theorem dX8_aStep_36 : decode cX8_aStep 36 = .ok (.iaload, 1) := by decide +kernel
theorem dX8_aStep_37 : decode cX8_aStep 37 = .ok (.istore 4, 2) := by decide +kernel
theorem dX8_aStep_39 : decode cX8_aStep 39 = .ok (.aload_n 0, 1) := by decide +kernel
theorem dX8_aStep_40 : decode cX8_aStep 40 = .ok (.iload_n 3, 1) := by decide +kernel
theorem dX8_aStep_41 : decode cX8_aStep 41 = .ok (.invokevirtual 65, 3) := by decide +kernel
theorem dX8_aStep_44 : decode cX8_aStep 44 = .ok (.aload_n 0, 1) := by decide +kernel
theorem dX8_aStep_45 : decode cX8_aStep 45 = .ok (.iload 4, 2) := by decide +kernel
theorem dX8_aStep_47 : decode cX8_aStep 47 = .ok (.invokevirtual 65, 3) := by decide +kernel
theorem dX8_aStep_50 : decode cX8_aStep 50 = .ok (.if_icmp .le 28, 3) := by decide +kernel
theorem dX8_aStep_53 : decode cX8_aStep 53 = .ok (.aload_n 0, 1) := by decide +kernel
theorem dX8_aStep_54 : decode cX8_aStep 54 = .ok (.getfield 9, 3) := by decide +kernel
theorem dX8_aStep_57 : decode cX8_aStep 57 = .ok (.bipush 8, 2) := by decide +kernel
theorem dX8_aStep_59 : decode cX8_aStep 59 = .ok (.iload_n 2, 1) := by decide +kernel
theorem dX8_aStep_60 : decode cX8_aStep 60 = .ok (.iadd, 1) := by decide +kernel
theorem dX8_aStep_61 : decode cX8_aStep 61 = .ok (.iload 4, 2) := by decide +kernel
theorem dX8_aStep_63 : decode cX8_aStep 63 = .ok (.iastore, 1) := by decide +kernel
theorem dX8_aStep_64 : decode cX8_aStep 64 = .ok (.aload_n 0, 1) := by decide +kernel
theorem dX8_aStep_65 : decode cX8_aStep 65 = .ok (.getfield 9, 3) := by decide +kernel
theorem dX8_aStep_68 : decode cX8_aStep 68 = .ok (.bipush 8, 2) := by decide +kernel
theorem dX8_aStep_70 : decode cX8_aStep 70 = .ok (.iload_n 2, 1) := by decide +kernel
theorem dX8_aStep_71 : decode cX8_aStep 71 = .ok (.iadd, 1) := by decide +kernel
theorem dX8_aStep_72 : decode cX8_aStep 72 = .ok (.iconst 1, 1) := by decide +kernel
theorem dX8_aStep_73 : decode cX8_aStep 73 = .ok (.iadd, 1) := by decide +kernel
theorem dX8_aStep_74 : decode cX8_aStep 74 = .ok (.iload_n 3, 1) := by decide +kernel
theorem dX8_aStep_75 : decode cX8_aStep 75 = .ok (.iastore, 1) := by decide +kernel
theorem dX8_aStep_76 : decode cX8_aStep 76 = .ok (.iconst 1, 1) := by decide +kernel
theorem dX8_aStep_77 : decode cX8_aStep 77 = .ok (.istore_n 1, 1) := by decide +kernel
theorem dX8_aStep_78 : decode cX8_aStep 78 = .ok (.iinc 2 1, 3) := by decide +kernel
theorem dX8_aStep_81 : decode cX8_aStep 81 = .ok (.goto (-77), 3) := by decide +kernel
theorem dX8_aStep_84 : decode cX8_aStep 84 = .ok (.aload_n 0, 1) := by decide +kernel
theorem dX8_aStep_85 : decode cX8_aStep 85 = .ok (.getfield 9, 3) := by decide +kernel
theorem dX8_aStep_88 : decode cX8_aStep 88 = .ok (.iconst 0, 1) := by decide +kernel
theorem dX8_aStep_89 : decode cX8_aStep 89 = .ok (.dup2, 1) := by decide +kernel
theorem dX8_aStep_90 : decode cX8_aStep 90 = .ok (.iaload, 1) := by decide +kernel
theorem dX8_aStep_91 : decode cX8_aStep 91 = .ok (.iconst 1, 1) := by decide +kernel
theorem dX8_aStep_92 : decode cX8_aStep 92 = .ok (.iadd, 1) := by decide +kernel
theorem dX8_aStep_93 : decode cX8_aStep 93 = .ok (.iastore, 1) := by decide +kernel
theorem dX8_aStep_94 : decode cX8_aStep 94 = .ok (.iload_n 1, 1) := by decide +kernel
theorem dX8_aStep_95 : decode cX8_aStep 95 = .ok (.ireturn, 1) := by decide +kernel
theorem dX8_steps_0 : decode cX8_steps 0 = .ok (.iconst 0, 1) := by decide +kernel
theorem dX8_steps_1 : decode cX8_steps 1 = .ok (.istore_n 2, 1) := by decide +kernel
theorem dX8_steps_2 : decode cX8_steps 2 = .ok (.iload_n 2, 1) := by decide +kernel
theorem dX8_steps_3 : decode cX8_steps 3 = .ok (.iload_n 1, 1) := by decide +kernel
theorem dX8_steps_4 : decode cX8_steps 4 = .ok (.if_icmp .ge 14, 3) := by decide +kernel
theorem dX8_steps_7 : decode cX8_steps 7 = .ok (.aload_n 0, 1) := by decide +kernel
theorem dX8_steps_8 : decode cX8_steps 8 = .ok (.invokevirtual 69, 3) := by decide +kernel
theorem dX8_steps_11 : decode cX8_steps 11 = .ok (.istore_n 3, 1) := by decide +kernel
theorem dX8_steps_12 : decode cX8_steps 12 = .ok (.iinc 2 1, 3) := by decide +kernel
theorem dX8_steps_15 : decode cX8_steps 15 = .ok (.goto (-13), 3) := by decide +kernel
theorem dX8_steps_18 : decode cX8_steps 18 = .ok (.return_, 1) := by decide +kernel
theorem dX8_isKm_0 : decode cX8_isKm 0 = .ok (.iload_n 0, 1) := by decide +kernel
theorem dX8_isKm_1 : decode cX8_isKm 1 = .ok (.iconst 0, 1) := by decide +kernel
theorem dX8_isKm_2 : decode cX8_isKm 2 = .ok (.bipush 69, 2) := by decide +kernel
theorem dX8_isKm_4 : decode cX8_isKm 4 = .ok (.invokestatic 57, 3) := by decide +kernel
theorem dX8_isKm_7 : decode cX8_isKm 7 = .ok (.ireturn, 1) := by decide +kernel
theorem dX8_thing_0 : decode cX8_thing 0 = .ok (.iload_n 1, 1) := by decide +kernel
theorem dX8_thing_1 : decode cX8_thing 1 = .ok (.invokestatic 73, 3) := by decide +kernel
theorem dX8_thing_4 : decode cX8_thing 4 = .ok (.ifCond .eq 23, 3) := by decide +kernel
theorem dX8_thing_7 : decode cX8_thing 7 = .ok (.iload_n 2, 1) := by decide +kernel
theorem dX8_thing_8 : decode cX8_thing 8 = .ok (.iconst 0, 1) := by decide +kernel
theorem dX8_thing_9 : decode cX8_thing 9 = .ok (.bipush 99, 2) := by decide +kernel
theorem dX8_thing_11 : decode cX8_thing 11 = .ok (.invokestatic 57, 3) := by decide +kernel
theorem dX8_thing_14 : decode cX8_thing 14 = .ok (.ifCond .eq 13, 3) := by decide +kernel
theorem dX8_thing_17 : decode cX8_thing 17 = .ok (.iload_n 3, 1) := by decide +kernel
theorem dX8_thing_18 : decode cX8_thing 18 = .ok (.iconst 1, 1) := by decide +kernel
theorem dX8_thing_19 : decode cX8_thing 19 = .ok (.bipush 9, 2) := by decide +kernel
theorem dX8_thing_21 : decode cX8_thing 21 = .ok (.invokestatic 57, 3) := by decide +kernel
theorem dX8_thing_24 : decode cX8_thing 24 = .ok (.ifCond .ne 10, 3) := by decide +kernel
theorem dX8_thing_27 : decode cX8_thing 27 = .ok (.aload_n 0, 1) := by decide +kernel
theorem dX8_thing_28 : decode cX8_thing 28 = .ok (.ldc 77, 2) := by decide +kernel
theorem dX8_thing_30 : decode cX8_thing 30 = .ok (.invokevirtual 78, 3) := by decide +kernel
theorem dX8_thing_33 : decode cX8_thing 33 = .ok (.ireturn, 1) := by decide +kernel
theorem dX8_thing_34 : decode cX8_thing 34 = .ok (.aload_n 0, 1) := by decide +kernel
theorem dX8_thing_35 : decode cX8_thing 35 = .ok (.getfield 9, 3) := by decide +kernel
theorem dX8_thing_38 : decode cX8_thing 38 = .ok (.iconst 2, 1) := by decide +kernel
theorem dX8_thing_39 : decode cX8_thing 39 = .ok (.iaload, 1) := by decide +kernel
theorem dX8_thing_40 : decode cX8_thing 40 = .ok (.istore 4, 2) := by decide +kernel
theorem dX8_thing_42 : decode cX8_thing 42 = .ok (.iload 4, 2) := by decide +kernel
theorem dX8_thing_44 : decode cX8_thing 44 = .ok (.bipush 9, 2) := by decide +kernel
theorem dX8_thing_46 : decode cX8_thing 46 = .ok (.if_icmp .ne 10, 3) := by decide +kernel
theorem dX8_thing_49 : decode cX8_thing 49 = .ok (.aload_n 0, 1) := by decide +kernel
theorem dX8_thing_50 : decode cX8_thing 50 = .ok (.ldc 81, 2) := by decide +kernel
theorem dX8_thing_52 : decode cX8_thing 52 = .ok (.invokevirtual 78, 3) := by decide +kernel
theorem dX8_thing_55 : decode cX8_thing 55 = .ok (.ireturn, 1) := by decide +kernel
theorem dX8_thing_56 : decode cX8_thing 56 = .ok (.aload_n 0, 1) := by decide +kernel
theorem dX8_thing_57 : decode cX8_thing 57 = .ok (.getfield 9, 3) := by decide +kernel
theorem dX8_thing_60 : decode cX8_thing 60 = .ok (.iconst 2, 1) := by decide +kernel
theorem dX8_thing_61 : decode cX8_thing 61 = .ok (.dup2, 1) := by decide +kernel
theorem dX8_thing_62 : decode cX8_thing 62 = .ok (.iaload, 1) := by decide +kernel
theorem dX8_thing_63 : decode cX8_thing 63 = .ok (.iconst 1, 1) := by decide +kernel
theorem dX8_thing_64 : decode cX8_thing 64 = .ok (.iadd, 1) := by decide +kernel
theorem dX8_thing_65 : decode cX8_thing 65 = .ok (.iastore, 1) := by decide +kernel
theorem dX8_thing_66 : decode cX8_thing 66 = .ok (.aload_n 0, 1) := by decide +kernel
theorem dX8_thing_67 : decode cX8_thing 67 = .ok (.getfield 9, 3) := by decide +kernel
theorem dX8_thing_70 : decode cX8_thing 70 = .ok (.bipush 17, 2) := by decide +kernel
theorem dX8_thing_72 : decode cX8_thing 72 = .ok (.iconst 4, 1) := by decide +kernel
theorem dX8_thing_73 : decode cX8_thing 73 = .ok (.iload 4, 2) := by decide +kernel
theorem dX8_thing_75 : decode cX8_thing 75 = .ok (.imul, 1) := by decide +kernel
theorem dX8_thing_76 : decode cX8_thing 76 = .ok (.iadd, 1) := by decide +kernel
theorem dX8_thing_77 : decode cX8_thing 77 = .ok (.iload_n 1, 1) := by decide +kernel
theorem dX8_thing_78 : decode cX8_thing 78 = .ok (.bipush 10, 2) := by decide +kernel
theorem dX8_thing_80 : decode cX8_thing 80 = .ok (.idiv, 1) := by decide +kernel
theorem dX8_thing_81 : decode cX8_thing 81 = .ok (.iastore, 1) := by decide +kernel
theorem dX8_thing_82 : decode cX8_thing 82 = .ok (.aload_n 0, 1) := by decide +kernel
theorem dX8_thing_83 : decode cX8_thing 83 = .ok (.getfield 9, 3) := by decide +kernel
theorem dX8_thing_86 : decode cX8_thing 86 = .ok (.bipush 17, 2) := by decide +kernel
theorem dX8_thing_88 : decode cX8_thing 88 = .ok (.iconst 4, 1) := by decide +kernel
theorem dX8_thing_89 : decode cX8_thing 89 = .ok (.iload 4, 2) := by decide +kernel
theorem dX8_thing_91 : decode cX8_thing 91 = .ok (.imul, 1) := by decide +kernel
theorem dX8_thing_92 : decode cX8_thing 92 = .ok (.iadd, 1) := by decide +kernel
theorem dX8_thing_93 : decode cX8_thing 93 = .ok (.iconst 1, 1) := by decide +kernel
theorem dX8_thing_94 : decode cX8_thing 94 = .ok (.iadd, 1) := by decide +kernel
theorem dX8_thing_95 : decode cX8_thing 95 = .ok (.iload_n 1, 1) := by decide +kernel
theorem dX8_thing_96 : decode cX8_thing 96 = .ok (.bipush 10, 2) := by decide +kernel
theorem dX8_thing_98 : decode cX8_thing 98 = .ok (.irem, 1) := by decide +kernel
theorem dX8_thing_99 : decode cX8_thing 99 = .ok (.iastore, 1) := by decide +kernel
theorem dX8_thing_100 : decode cX8_thing 100 = .ok (.aload_n 0, 1) := by decide +kernel
theorem dX8_thing_101 : decode cX8_thing 101 = .ok (.getfield 9, 3) := by decide +kernel
theorem dX8_thing_104 : decode cX8_thing 104 = .ok (.bipush 17, 2) := by decide +kernel
theorem dX8_thing_106 : decode cX8_thing 106 = .ok (.iconst 4, 1) := by decide +kernel
theorem dX8_thing_107 : decode cX8_thing 107 = .ok (.iload 4, 2) := by decide +kernel
theorem dX8_thing_109 : decode cX8_thing 109 = .ok (.imul, 1) := by decide +kernel
theorem dX8_thing_110 : decode cX8_thing 110 = .ok (.iadd, 1) := by decide +kernel
theorem dX8_thing_111 : decode cX8_thing 111 = .ok (.iconst 2, 1) := by decide +kernel
theorem dX8_thing_112 : decode cX8_thing 112 = .ok (.iadd, 1) := by decide +kernel
theorem dX8_thing_113 : decode cX8_thing 113 = .ok (.iload_n 2, 1) := by decide +kernel
theorem dX8_thing_114 : decode cX8_thing 114 = .ok (.iastore, 1) := by decide +kernel
theorem dX8_thing_115 : decode cX8_thing 115 = .ok (.aload_n 0, 1) := by decide +kernel
theorem dX8_thing_116 : decode cX8_thing 116 = .ok (.getfield 9, 3) := by decide +kernel
theorem dX8_thing_119 : decode cX8_thing 119 = .ok (.bipush 17, 2) := by decide +kernel
theorem dX8_thing_121 : decode cX8_thing 121 = .ok (.iconst 4, 1) := by decide +kernel
theorem dX8_thing_122 : decode cX8_thing 122 = .ok (.iload 4, 2) := by decide +kernel
theorem dX8_thing_124 : decode cX8_thing 124 = .ok (.imul, 1) := by decide +kernel
theorem dX8_thing_125 : decode cX8_thing 125 = .ok (.iadd, 1) := by decide +kernel
theorem dX8_thing_126 : decode cX8_thing 126 = .ok (.iconst 3, 1) := by decide +kernel
theorem dX8_thing_127 : decode cX8_thing 127 = .ok (.iadd, 1) := by decide +kernel
theorem dX8_thing_128 : decode cX8_thing 128 = .ok (.iload_n 3, 1) := by decide +kernel
theorem dX8_thing_129 : decode cX8_thing 129 = .ok (.iastore, 1) := by decide +kernel
theorem dX8_thing_130 : decode cX8_thing 130 = .ok (.aload_n 0, 1) := by decide +kernel
theorem dX8_thing_131 : decode cX8_thing 131 = .ok (.iload 4, 2) := by decide +kernel
theorem dX8_thing_133 : decode cX8_thing 133 = .ok (.invokevirtual 82, 3) := by decide +kernel
theorem dX8_thing_136 : decode cX8_thing 136 = .ok (.iload 4, 2) := by decide +kernel
theorem dX8_thing_138 : decode cX8_thing 138 = .ok (.ireturn, 1) := by decide +kernel
theorem dX8_thingIs_0 : decode cX8_thingIs 0 = .ok (.aload_n 0, 1) := by decide +kernel
theorem dX8_thingIs_1 : decode cX8_thingIs 1 = .ok (.iload_n 1, 1) := by decide +kernel
theorem dX8_thingIs_2 : decode cX8_thingIs 2 = .ok (.invokevirtual 86, 3) := by decide +kernel
theorem dX8_thingIs_5 : decode cX8_thingIs 5 = .ok (.ifCond .eq 13, 3) := by decide +kernel
theorem dX8_thingIs_8 : decode cX8_thingIs 8 = .ok (.iload_n 2, 1) := by decide +kernel
theorem dX8_thingIs_9 : decode cX8_thingIs 9 = .ok (.iconst 0, 1) := by decide +kernel
theorem dX8_thingIs_10 : decode cX8_thingIs 10 = .ok (.bipush 6, 2) := by decide +kernel
theorem dX8_thingIs_12 : decode cX8_thingIs 12 = .ok (.invokestatic 57, 3) := by decide +kernel
theorem dX8_thingIs_15 : decode cX8_thingIs 15 = .ok (.ifCond .ne 10, 3) := by decide +kernel
theorem dX8_thingIs_18 : decode cX8_thingIs 18 = .ok (.aload_n 0, 1) := by decide +kernel
theorem dX8_thingIs_19 : decode cX8_thingIs 19 = .ok (.ldc 77, 2) := by decide +kernel
theorem dX8_thingIs_21 : decode cX8_thingIs 21 = .ok (.invokevirtual 78, 3) := by decide +kernel
theorem dX8_thingIs_24 : decode cX8_thingIs 24 = .ok (.ireturn, 1) := by decide +kernel
theorem dX8_thingIs_25 : decode cX8_thingIs 25 = .ok (.iload_n 2, 1) := by decide +kernel
theorem dX8_thingIs_26 : decode cX8_thingIs 26 = .ok (.iconst 4, 1) := by decide +kernel
theorem dX8_thingIs_27 : decode cX8_thingIs 27 = .ok (.if_icmp .ge 12, 3) := by decide +kernel
theorem dX8_thingIs_30 : decode cX8_thingIs 30 = .ok (.aload_n 0, 1) := by decide +kernel
theorem dX8_thingIs_31 : decode cX8_thingIs 31 = .ok (.iload_n 1, 1) := by decide +kernel
theorem dX8_thingIs_32 : decode cX8_thingIs 32 = .ok (.iload_n 2, 1) := by decide +kernel
theorem dX8_thingIs_33 : decode cX8_thingIs 33 = .ok (.invokevirtual 61, 3) := by decide +kernel
theorem dX8_thingIs_36 : decode cX8_thingIs 36 = .ok (.goto 34, 3) := by decide +kernel
theorem dX8_thingIs_39 : decode cX8_thingIs 39 = .ok (.iload_n 2, 1) := by decide +kernel
theorem dX8_thingIs_40 : decode cX8_thingIs 40 = .ok (.iconst 4, 1) := by decide +kernel
theorem dX8_thingIs_41 : decode cX8_thingIs 41 = .ok (.if_icmp .ne 11, 3) := by decide +kernel
theorem dX8_thingIs_44 : decode cX8_thingIs 44 = .ok (.aload_n 0, 1) := by decide +kernel
theorem dX8_thingIs_45 : decode cX8_thingIs 45 = .ok (.iload_n 1, 1) := by decide +kernel
theorem dX8_thingIs_46 : decode cX8_thingIs 46 = .ok (.invokevirtual 89, 3) := by decide +kernel
theorem dX8_thingIs_49 : decode cX8_thingIs 49 = .ok (.goto 21, 3) := by decide +kernel
theorem dX8_thingIs_52 : decode cX8_thingIs 52 = .ok (.iload_n 2, 1) := by decide +kernel
theorem dX8_thingIs_53 : decode cX8_thingIs 53 = .ok (.iconst 5, 1) := by decide +kernel
theorem dX8_thingIs_54 : decode cX8_thingIs 54 = .ok (.if_icmp .ne 11, 3) := by decide +kernel
theorem dX8_thingIs_57 : decode cX8_thingIs 57 = .ok (.aload_n 0, 1) := by decide +kernel
theorem dX8_thingIs_58 : decode cX8_thingIs 58 = .ok (.iload_n 1, 1) := by decide +kernel
theorem dX8_thingIs_59 : decode cX8_thingIs 59 = .ok (.invokevirtual 65, 3) := by decide +kernel
theorem dX8_thingIs_62 : decode cX8_thingIs 62 = .ok (.goto 8, 3) := by decide +kernel
theorem dX8_thingIs_65 : decode cX8_thingIs 65 = .ok (.aload_n 0, 1) := by decide +kernel
theorem dX8_thingIs_66 : decode cX8_thingIs 66 = .ok (.iload_n 1, 1) := by decide +kernel
theorem dX8_thingIs_67 : decode cX8_thingIs 67 = .ok (.invokevirtual 92, 3) := by decide +kernel
theorem dX8_thingIs_70 : decode cX8_thingIs 70 = .ok (.ireturn, 1) := by decide +kernel
theorem dX8_become_0 : decode cX8_become 0 = .ok (.aload_n 0, 1) := by decide +kernel
theorem dX8_become_1 : decode cX8_become 1 = .ok (.iload_n 1, 1) := by decide +kernel
theorem dX8_become_2 : decode cX8_become 2 = .ok (.invokevirtual 86, 3) := by decide +kernel
theorem dX8_become_5 : decode cX8_become 5 = .ok (.ifCond .eq 10, 3) := by decide +kernel
theorem dX8_become_8 : decode cX8_become 8 = .ok (.iload_n 2, 1) := by decide +kernel
theorem dX8_become_9 : decode cX8_become 9 = .ok (.invokestatic 73, 3) := by decide +kernel
theorem dX8_become_12 : decode cX8_become 12 = .ok (.ifCond .ne 10, 3) := by decide +kernel
theorem dX8_become_15 : decode cX8_become 15 = .ok (.aload_n 0, 1) := by decide +kernel
theorem dX8_become_16 : decode cX8_become 16 = .ok (.ldc 77, 2) := by decide +kernel
theorem dX8_become_18 : decode cX8_become 18 = .ok (.invokevirtual 78, 3) := by decide +kernel
theorem dX8_become_21 : decode cX8_become 21 = .ok (.ireturn, 1) := by decide +kernel
theorem dX8_become_22 : decode cX8_become 22 = .ok (.aload_n 0, 1) := by decide +kernel
theorem dX8_become_23 : decode cX8_become 23 = .ok (.getfield 9, 3) := by decide +kernel
theorem dX8_become_26 : decode cX8_become 26 = .ok (.bipush 17, 2) := by decide +kernel
theorem dX8_become_28 : decode cX8_become 28 = .ok (.iconst 4, 1) := by decide +kernel
theorem dX8_become_29 : decode cX8_become 29 = .ok (.iload_n 1, 1) := by decide +kernel
theorem dX8_become_30 : decode cX8_become 30 = .ok (.imul, 1) := by decide +kernel
theorem dX8_become_31 : decode cX8_become 31 = .ok (.iadd, 1) := by decide +kernel
theorem dX8_become_32 : decode cX8_become 32 = .ok (.iconst 1, 1) := by decide +kernel
theorem dX8_become_33 : decode cX8_become 33 = .ok (.iadd, 1) := by decide +kernel
theorem dX8_become_34 : decode cX8_become 34 = .ok (.iload_n 2, 1) := by decide +kernel
theorem dX8_become_35 : decode cX8_become 35 = .ok (.bipush 10, 2) := by decide +kernel
theorem dX8_become_37 : decode cX8_become 37 = .ok (.irem, 1) := by decide +kernel
theorem dX8_become_38 : decode cX8_become 38 = .ok (.iastore, 1) := by decide +kernel
theorem dX8_become_39 : decode cX8_become 39 = .ok (.aload_n 0, 1) := by decide +kernel
theorem dX8_become_40 : decode cX8_become 40 = .ok (.bipush 17, 2) := by decide +kernel
theorem dX8_become_42 : decode cX8_become 42 = .ok (.iconst 4, 1) := by decide +kernel
theorem dX8_become_43 : decode cX8_become 43 = .ok (.iload_n 1, 1) := by decide +kernel
theorem dX8_become_44 : decode cX8_become 44 = .ok (.imul, 1) := by decide +kernel
theorem dX8_become_45 : decode cX8_become 45 = .ok (.iadd, 1) := by decide +kernel
theorem dX8_become_46 : decode cX8_become 46 = .ok (.iload_n 2, 1) := by decide +kernel
theorem dX8_become_47 : decode cX8_become 47 = .ok (.bipush 10, 2) := by decide +kernel
theorem dX8_become_49 : decode cX8_become 49 = .ok (.idiv, 1) := by decide +kernel
theorem dX8_become_50 : decode cX8_become 50 = .ok (.invokevirtual 95, 3) := by decide +kernel
theorem dX8_become_53 : decode cX8_become 53 = .ok (.ireturn, 1) := by decide +kernel
theorem dX8_as_0 : decode cX8_as 0 = .ok (.aload_n 0, 1) := by decide +kernel
theorem dX8_as_1 : decode cX8_as 1 = .ok (.iload_n 1, 1) := by decide +kernel
theorem dX8_as_2 : decode cX8_as 2 = .ok (.invokevirtual 86, 3) := by decide +kernel
theorem dX8_as_5 : decode cX8_as 5 = .ok (.ifCond .eq 13, 3) := by decide +kernel
theorem dX8_as_8 : decode cX8_as 8 = .ok (.iload_n 2, 1) := by decide +kernel
theorem dX8_as_9 : decode cX8_as 9 = .ok (.iconst 0, 1) := by decide +kernel
theorem dX8_as_10 : decode cX8_as 10 = .ok (.bipush 6, 2) := by decide +kernel
theorem dX8_as_12 : decode cX8_as 12 = .ok (.invokestatic 57, 3) := by decide +kernel
theorem dX8_as_15 : decode cX8_as 15 = .ok (.ifCond .ne 10, 3) := by decide +kernel
theorem dX8_as_18 : decode cX8_as 18 = .ok (.aload_n 0, 1) := by decide +kernel
theorem dX8_as_19 : decode cX8_as 19 = .ok (.ldc 77, 2) := by decide +kernel
theorem dX8_as_21 : decode cX8_as 21 = .ok (.invokevirtual 78, 3) := by decide +kernel
theorem dX8_as_24 : decode cX8_as 24 = .ok (.ireturn, 1) := by decide +kernel
theorem dX8_as_25 : decode cX8_as 25 = .ok (.aload_n 0, 1) := by decide +kernel
theorem dX8_as_26 : decode cX8_as 26 = .ok (.iload_n 1, 1) := by decide +kernel
theorem dX8_as_27 : decode cX8_as 27 = .ok (.iconst 0, 1) := by decide +kernel
theorem dX8_as_28 : decode cX8_as 28 = .ok (.invokevirtual 61, 3) := by decide +kernel
theorem dX8_as_31 : decode cX8_as 31 = .ok (.istore_n 3, 1) := by decide +kernel
theorem dX8_as_32 : decode cX8_as 32 = .ok (.iload_n 2, 1) := by decide +kernel
theorem dX8_as_33 : decode cX8_as 33 = .ok (.ifCond .eq 28, 3) := by decide +kernel
theorem dX8_as_36 : decode cX8_as 36 = .ok (.iload_n 2, 1) := by decide +kernel
theorem dX8_as_37 : decode cX8_as 37 = .ok (.iload_n 3, 1) := by decide +kernel
theorem dX8_as_38 : decode cX8_as 38 = .ok (.if_icmp .eq 23, 3) := by decide +kernel
theorem dX8_as_41 : decode cX8_as 41 = .ok (.iload_n 2, 1) := by decide +kernel
theorem dX8_as_42 : decode cX8_as 42 = .ok (.iconst 1, 1) := by decide +kernel
theorem dX8_as_43 : decode cX8_as 43 = .ok (.if_icmp .ne 8, 3) := by decide +kernel
theorem dX8_as_46 : decode cX8_as 46 = .ok (.iload_n 3, 1) := by decide +kernel
theorem dX8_as_47 : decode cX8_as 47 = .ok (.iconst 4, 1) := by decide +kernel
theorem dX8_as_48 : decode cX8_as 48 = .ok (.if_icmp .eq 13, 3) := by decide +kernel
theorem dX8_as_51 : decode cX8_as 51 = .ok (.iload_n 2, 1) := by decide +kernel
theorem dX8_as_52 : decode cX8_as 52 = .ok (.iconst 2, 1) := by decide +kernel
theorem dX8_as_53 : decode cX8_as 53 = .ok (.if_icmp .ne 12, 3) := by decide +kernel
theorem dX8_as_56 : decode cX8_as 56 = .ok (.iload_n 3, 1) := by decide +kernel
theorem dX8_as_57 : decode cX8_as 57 = .ok (.iconst 5, 1) := by decide +kernel
theorem dX8_as_58 : decode cX8_as 58 = .ok (.if_icmp .ne 7, 3) := by decide +kernel
theorem dX8_as_61 : decode cX8_as 61 = .ok (.iconst 1, 1) := by decide +kernel
theorem dX8_as_62 : decode cX8_as 62 = .ok (.goto 4, 3) := by decide +kernel
theorem dX8_as_65 : decode cX8_as 65 = .ok (.iconst 0, 1) := by decide +kernel
theorem dX8_as_66 : decode cX8_as 66 = .ok (.istore 4, 2) := by decide +kernel
theorem dX8_as_68 : decode cX8_as 68 = .ok (.iload 4, 2) := by decide +kernel
theorem dX8_as_70 : decode cX8_as 70 = .ok (.ifCond .eq 12, 3) := by decide +kernel
theorem dX8_as_73 : decode cX8_as 73 = .ok (.aload_n 0, 1) := by decide +kernel
theorem dX8_as_74 : decode cX8_as 74 = .ok (.iload_n 1, 1) := by decide +kernel
theorem dX8_as_75 : decode cX8_as 75 = .ok (.iconst 1, 1) := by decide +kernel
theorem dX8_as_76 : decode cX8_as 76 = .ok (.invokevirtual 61, 3) := by decide +kernel
theorem dX8_as_79 : decode cX8_as 79 = .ok (.goto 9, 3) := by decide +kernel
theorem dX8_as_82 : decode cX8_as 82 = .ok (.aload_n 0, 1) := by decide +kernel
theorem dX8_as_83 : decode cX8_as 83 = .ok (.ldc 98, 2) := by decide +kernel
theorem dX8_as_85 : decode cX8_as 85 = .ok (.invokevirtual 78, 3) := by decide +kernel
theorem dX8_as_88 : decode cX8_as 88 = .ok (.ireturn, 1) := by decide +kernel
theorem dX8_weigh_0 : decode cX8_weigh 0 = .ok (.aload_n 0, 1) := by decide +kernel
theorem dX8_weigh_1 : decode cX8_weigh 1 = .ok (.iload_n 1, 1) := by decide +kernel
theorem dX8_weigh_2 : decode cX8_weigh 2 = .ok (.invokevirtual 86, 3) := by decide +kernel
theorem dX8_weigh_5 : decode cX8_weigh 5 = .ok (.ifCond .eq 29, 3) := by decide +kernel
theorem dX8_weigh_8 : decode cX8_weigh 8 = .ok (.iload_n 2, 1) := by decide +kernel
theorem dX8_weigh_9 : decode cX8_weigh 9 = .ok (.iconst 0, 1) := by decide +kernel
theorem dX8_weigh_10 : decode cX8_weigh 10 = .ok (.bipush 99, 2) := by decide +kernel
theorem dX8_weigh_12 : decode cX8_weigh 12 = .ok (.invokestatic 57, 3) := by decide +kernel
theorem dX8_weigh_15 : decode cX8_weigh 15 = .ok (.ifCond .eq 19, 3) := by decide +kernel
theorem dX8_weigh_18 : decode cX8_weigh 18 = .ok (.aload_n 0, 1) := by decide +kernel
theorem dX8_weigh_19 : decode cX8_weigh 19 = .ok (.bipush 17, 2) := by decide +kernel
theorem dX8_weigh_21 : decode cX8_weigh 21 = .ok (.iconst 4, 1) := by decide +kernel
theorem dX8_weigh_22 : decode cX8_weigh 22 = .ok (.iload_n 1, 1) := by decide +kernel
theorem dX8_weigh_23 : decode cX8_weigh 23 = .ok (.imul, 1) := by decide +kernel
theorem dX8_weigh_24 : decode cX8_weigh 24 = .ok (.iadd, 1) := by decide +kernel
theorem dX8_weigh_25 : decode cX8_weigh 25 = .ok (.iconst 2, 1) := by decide +kernel
theorem dX8_weigh_26 : decode cX8_weigh 26 = .ok (.iadd, 1) := by decide +kernel
theorem dX8_weigh_27 : decode cX8_weigh 27 = .ok (.iload_n 2, 1) := by decide +kernel
theorem dX8_weigh_28 : decode cX8_weigh 28 = .ok (.invokevirtual 95, 3) := by decide +kernel
theorem dX8_weigh_31 : decode cX8_weigh 31 = .ok (.goto 9, 3) := by decide +kernel
theorem dX8_weigh_34 : decode cX8_weigh 34 = .ok (.aload_n 0, 1) := by decide +kernel
theorem dX8_weigh_35 : decode cX8_weigh 35 = .ok (.ldc 77, 2) := by decide +kernel
theorem dX8_weigh_37 : decode cX8_weigh 37 = .ok (.invokevirtual 78, 3) := by decide +kernel
theorem dX8_weigh_40 : decode cX8_weigh 40 = .ok (.ireturn, 1) := by decide +kernel
theorem dX8_at_0 : decode cX8_at 0 = .ok (.iload_n 1, 1) := by decide +kernel
theorem dX8_at_1 : decode cX8_at 1 = .ok (.iconst 0, 1) := by decide +kernel
theorem dX8_at_2 : decode cX8_at 2 = .ok (.aload_n 0, 1) := by decide +kernel
theorem dX8_at_3 : decode cX8_at 3 = .ok (.getfield 9, 3) := by decide +kernel
theorem dX8_at_6 : decode cX8_at 6 = .ok (.iconst 3, 1) := by decide +kernel
theorem dX8_at_7 : decode cX8_at 7 = .ok (.iaload, 1) := by decide +kernel
theorem dX8_at_8 : decode cX8_at 8 = .ok (.iconst 1, 1) := by decide +kernel
theorem dX8_at_9 : decode cX8_at 9 = .ok (.isub, 1) := by decide +kernel
theorem dX8_at_10 : decode cX8_at 10 = .ok (.invokestatic 57, 3) := by decide +kernel
theorem dX8_at_13 : decode cX8_at 13 = .ok (.ifCond .eq 15, 3) := by decide +kernel
theorem dX8_at_16 : decode cX8_at 16 = .ok (.aload_n 0, 1) := by decide +kernel
theorem dX8_at_17 : decode cX8_at 17 = .ok (.getfield 9, 3) := by decide +kernel
theorem dX8_at_20 : decode cX8_at 20 = .ok (.bipush 8, 2) := by decide +kernel
theorem dX8_at_22 : decode cX8_at 22 = .ok (.iload_n 1, 1) := by decide +kernel
theorem dX8_at_23 : decode cX8_at 23 = .ok (.iadd, 1) := by decide +kernel
theorem dX8_at_24 : decode cX8_at 24 = .ok (.iaload, 1) := by decide +kernel
theorem dX8_at_25 : decode cX8_at 25 = .ok (.goto 9, 3) := by decide +kernel
theorem dX8_at_28 : decode cX8_at 28 = .ok (.aload_n 0, 1) := by decide +kernel
theorem dX8_at_29 : decode cX8_at 29 = .ok (.ldc 77, 2) := by decide +kernel
theorem dX8_at_31 : decode cX8_at 31 = .ok (.invokevirtual 78, 3) := by decide +kernel
theorem dX8_at_34 : decode cX8_at 34 = .ok (.ireturn, 1) := by decide +kernel
theorem dX8_leave_0 : decode cX8_leave 0 = .ok (.aload_n 0, 1) := by decide +kernel
theorem dX8_leave_1 : decode cX8_leave 1 = .ok (.iload_n 1, 1) := by decide +kernel
theorem dX8_leave_2 : decode cX8_leave 2 = .ok (.invokevirtual 86, 3) := by decide +kernel
theorem dX8_leave_5 : decode cX8_leave 5 = .ok (.ifCond .ne 10, 3) := by decide +kernel
theorem dX8_leave_8 : decode cX8_leave 8 = .ok (.aload_n 0, 1) := by decide +kernel
theorem dX8_leave_9 : decode cX8_leave 9 = .ok (.ldc 77, 2) := by decide +kernel
theorem dX8_leave_11 : decode cX8_leave 11 = .ok (.invokevirtual 78, 3) := by decide +kernel
theorem dX8_leave_14 : decode cX8_leave 14 = .ok (.ireturn, 1) := by decide +kernel
theorem dX8_leave_15 : decode cX8_leave 15 = .ok (.aload_n 0, 1) := by decide +kernel
theorem dX8_leave_16 : decode cX8_leave 16 = .ok (.iload_n 1, 1) := by decide +kernel
theorem dX8_leave_17 : decode cX8_leave 17 = .ok (.invokevirtual 89, 3) := by decide +kernel
theorem dX8_leave_20 : decode cX8_leave 20 = .ok (.istore_n 2, 1) := by decide +kernel
theorem dX8_leave_21 : decode cX8_leave 21 = .ok (.iload_n 2, 1) := by decide +kernel
theorem dX8_leave_22 : decode cX8_leave 22 = .ok (.bipush (-2), 2) := by decide +kernel
theorem dX8_leave_24 : decode cX8_leave 24 = .ok (.if_icmp .ne 10, 3) := by decide +kernel
theorem dX8_leave_27 : decode cX8_leave 27 = .ok (.aload_n 0, 1) := by decide +kernel
theorem dX8_leave_28 : decode cX8_leave 28 = .ok (.ldc 99, 2) := by decide +kernel
theorem dX8_leave_30 : decode cX8_leave 30 = .ok (.invokevirtual 78, 3) := by decide +kernel
theorem dX8_leave_33 : decode cX8_leave 33 = .ok (.ireturn, 1) := by decide +kernel
theorem dX8_leave_34 : decode cX8_leave 34 = .ok (.iload_n 2, 1) := by decide +kernel
theorem dX8_leave_35 : decode cX8_leave 35 = .ok (.iconst (-1), 1) := by decide +kernel
theorem dX8_leave_36 : decode cX8_leave 36 = .ok (.if_icmp .ne 13, 3) := by decide +kernel
theorem dX8_leave_39 : decode cX8_leave 39 = .ok (.aload_n 0, 1) := by decide +kernel
theorem dX8_leave_40 : decode cX8_leave 40 = .ok (.getfield 9, 3) := by decide +kernel
theorem dX8_leave_43 : decode cX8_leave 43 = .ok (.iconst 4, 1) := by decide +kernel
theorem dX8_leave_44 : decode cX8_leave 44 = .ok (.iconst (-1), 1) := by decide +kernel
theorem dX8_leave_45 : decode cX8_leave 45 = .ok (.iastore, 1) := by decide +kernel
theorem dX8_leave_46 : decode cX8_leave 46 = .ok (.goto 8, 3) := by decide +kernel
theorem dX8_leave_49 : decode cX8_leave 49 = .ok (.aload_n 0, 1) := by decide +kernel
theorem dX8_leave_50 : decode cX8_leave 50 = .ok (.iload_n 2, 1) := by decide +kernel
theorem dX8_leave_51 : decode cX8_leave 51 = .ok (.invokevirtual 100, 3) := by decide +kernel
theorem dX8_leave_54 : decode cX8_leave 54 = .ok (.aload_n 0, 1) := by decide +kernel
theorem dX8_leave_55 : decode cX8_leave 55 = .ok (.getfield 9, 3) := by decide +kernel
theorem dX8_leave_58 : decode cX8_leave 58 = .ok (.iconst 3, 1) := by decide +kernel
theorem dX8_leave_59 : decode cX8_leave 59 = .ok (.iaload, 1) := by decide +kernel
theorem dX8_leave_60 : decode cX8_leave 60 = .ok (.ireturn, 1) := by decide +kernel
theorem dX8_stow_0 : decode cX8_stow 0 = .ok (.aload_n 0, 1) := by decide +kernel
theorem dX8_stow_1 : decode cX8_stow 1 = .ok (.iload_n 1, 1) := by decide +kernel
theorem dX8_stow_2 : decode cX8_stow 2 = .ok (.invokevirtual 86, 3) := by decide +kernel
theorem dX8_stow_5 : decode cX8_stow 5 = .ok (.ifCond .ne 10, 3) := by decide +kernel
theorem dX8_stow_8 : decode cX8_stow 8 = .ok (.aload_n 0, 1) := by decide +kernel
theorem dX8_stow_9 : decode cX8_stow 9 = .ok (.ldc 77, 2) := by decide +kernel
theorem dX8_stow_11 : decode cX8_stow 11 = .ok (.invokevirtual 78, 3) := by decide +kernel
theorem dX8_stow_14 : decode cX8_stow 14 = .ok (.ireturn, 1) := by decide +kernel
theorem dX8_stow_15 : decode cX8_stow 15 = .ok (.aload_n 0, 1) := by decide +kernel
theorem dX8_stow_16 : decode cX8_stow 16 = .ok (.iload_n 1, 1) := by decide +kernel
theorem dX8_stow_17 : decode cX8_stow 17 = .ok (.invokevirtual 89, 3) := by decide +kernel
theorem dX8_stow_20 : decode cX8_stow 20 = .ok (.bipush (-2), 2) := by decide +kernel
theorem dX8_stow_22 : decode cX8_stow 22 = .ok (.if_icmp .eq 10, 3) := by decide +kernel
theorem dX8_stow_25 : decode cX8_stow 25 = .ok (.aload_n 0, 1) := by decide +kernel
theorem dX8_stow_26 : decode cX8_stow 26 = .ok (.ldc 99, 2) := by decide +kernel
theorem dX8_stow_28 : decode cX8_stow 28 = .ok (.invokevirtual 78, 3) := by decide +kernel
theorem dX8_stow_31 : decode cX8_stow 31 = .ok (.ireturn, 1) := by decide +kernel
theorem dX8_stow_32 : decode cX8_stow 32 = .ok (.aload_n 0, 1) := by decide +kernel
theorem dX8_stow_33 : decode cX8_stow 33 = .ok (.iload_n 1, 1) := by decide +kernel
theorem dX8_stow_34 : decode cX8_stow 34 = .ok (.invokevirtual 82, 3) := by decide +kernel
theorem dX8_stow_37 : decode cX8_stow 37 = .ok (.aload_n 0, 1) := by decide +kernel
theorem dX8_stow_38 : decode cX8_stow 38 = .ok (.getfield 9, 3) := by decide +kernel
theorem dX8_stow_41 : decode cX8_stow 41 = .ok (.iconst 3, 1) := by decide +kernel
theorem dX8_stow_42 : decode cX8_stow 42 = .ok (.iaload, 1) := by decide +kernel
theorem dX8_stow_43 : decode cX8_stow 43 = .ok (.ireturn, 1) := by decide +kernel
theorem dX8_zip_0 : decode cX8_zip 0 = .ok (.iload_n 1, 1) := by decide +kernel
theorem dX8_zip_1 : decode cX8_zip 1 = .ok (.iconst (-1), 1) := by decide +kernel
theorem dX8_zip_2 : decode cX8_zip 2 = .ok (.if_icmp .eq 18, 3) := by decide +kernel
theorem dX8_zip_5 : decode cX8_zip 5 = .ok (.aload_n 0, 1) := by decide +kernel
theorem dX8_zip_6 : decode cX8_zip 6 = .ok (.iload_n 1, 1) := by decide +kernel
theorem dX8_zip_7 : decode cX8_zip 7 = .ok (.invokevirtual 86, 3) := by decide +kernel
theorem dX8_zip_10 : decode cX8_zip 10 = .ok (.ifCond .ne 10, 3) := by decide +kernel
theorem dX8_zip_13 : decode cX8_zip 13 = .ok (.aload_n 0, 1) := by decide +kernel
theorem dX8_zip_14 : decode cX8_zip 14 = .ok (.ldc 77, 2) := by decide +kernel
theorem dX8_zip_16 : decode cX8_zip 16 = .ok (.invokevirtual 78, 3) := by decide +kernel
theorem dX8_zip_19 : decode cX8_zip 19 = .ok (.ireturn, 1) := by decide +kernel
theorem dX8_zip_20 : decode cX8_zip 20 = .ok (.iload_n 1, 1) := by decide +kernel
theorem dX8_zip_21 : decode cX8_zip 21 = .ok (.iconst (-1), 1) := by decide +kernel
theorem dX8_zip_22 : decode cX8_zip 22 = .ok (.if_icmp .eq 18, 3) := by decide +kernel
theorem dX8_zip_25 : decode cX8_zip 25 = .ok (.aload_n 0, 1) := by decide +kernel
theorem dX8_zip_26 : decode cX8_zip 26 = .ok (.iload_n 1, 1) := by decide +kernel
theorem dX8_zip_27 : decode cX8_zip 27 = .ok (.invokevirtual 89, 3) := by decide +kernel
theorem dX8_zip_30 : decode cX8_zip 30 = .ok (.ifCond .ge 10, 3) := by decide +kernel
theorem dX8_zip_33 : decode cX8_zip 33 = .ok (.aload_n 0, 1) := by decide +kernel
theorem dX8_zip_34 : decode cX8_zip 34 = .ok (.ldc 99, 2) := by decide +kernel
theorem dX8_zip_36 : decode cX8_zip 36 = .ok (.invokevirtual 78, 3) := by decide +kernel
theorem dX8_zip_39 : decode cX8_zip 39 = .ok (.ireturn, 1) := by decide +kernel
theorem dX8_zip_40 : decode cX8_zip 40 = .ok (.aload_n 0, 1) := by decide +kernel
theorem dX8_zip_41 : decode cX8_zip 41 = .ok (.getfield 9, 3) := by decide +kernel
theorem dX8_zip_44 : decode cX8_zip 44 = .ok (.iconst 4, 1) := by decide +kernel
theorem dX8_zip_45 : decode cX8_zip 45 = .ok (.iaload, 1) := by decide +kernel
theorem dX8_zip_46 : decode cX8_zip 46 = .ok (.istore_n 2, 1) := by decide +kernel
theorem dX8_zip_47 : decode cX8_zip 47 = .ok (.aload_n 0, 1) := by decide +kernel
theorem dX8_zip_48 : decode cX8_zip 48 = .ok (.getfield 9, 3) := by decide +kernel
theorem dX8_zip_51 : decode cX8_zip 51 = .ok (.iconst 4, 1) := by decide +kernel
theorem dX8_zip_52 : decode cX8_zip 52 = .ok (.iconst (-1), 1) := by decide +kernel
theorem dX8_zip_53 : decode cX8_zip 53 = .ok (.iastore, 1) := by decide +kernel
theorem dX8_zip_54 : decode cX8_zip 54 = .ok (.iload_n 1, 1) := by decide +kernel
theorem dX8_zip_55 : decode cX8_zip 55 = .ok (.iconst (-1), 1) := by decide +kernel
theorem dX8_zip_56 : decode cX8_zip 56 = .ok (.if_icmp .eq 12, 3) := by decide +kernel
theorem dX8_zip_59 : decode cX8_zip 59 = .ok (.aload_n 0, 1) := by decide +kernel
theorem dX8_zip_60 : decode cX8_zip 60 = .ok (.aload_n 0, 1) := by decide +kernel
theorem dX8_zip_61 : decode cX8_zip 61 = .ok (.iload_n 1, 1) := by decide +kernel
theorem dX8_zip_62 : decode cX8_zip 62 = .ok (.invokevirtual 89, 3) := by decide +kernel
theorem dX8_zip_65 : decode cX8_zip 65 = .ok (.invokevirtual 100, 3) := by decide +kernel
theorem dX8_zip_68 : decode cX8_zip 68 = .ok (.iload_n 2, 1) := by decide +kernel
theorem dX8_zip_69 : decode cX8_zip 69 = .ok (.iconst (-1), 1) := by decide +kernel
theorem dX8_zip_70 : decode cX8_zip 70 = .ok (.if_icmp .eq 8, 3) := by decide +kernel
theorem dX8_zip_73 : decode cX8_zip 73 = .ok (.aload_n 0, 1) := by decide +kernel
theorem dX8_zip_74 : decode cX8_zip 74 = .ok (.iload_n 2, 1) := by decide +kernel
theorem dX8_zip_75 : decode cX8_zip 75 = .ok (.invokevirtual 82, 3) := by decide +kernel
theorem dX8_zip_78 : decode cX8_zip 78 = .ok (.aload_n 0, 1) := by decide +kernel
theorem dX8_zip_79 : decode cX8_zip 79 = .ok (.getfield 9, 3) := by decide +kernel
theorem dX8_zip_82 : decode cX8_zip 82 = .ok (.iconst 4, 1) := by decide +kernel
theorem dX8_zip_83 : decode cX8_zip 83 = .ok (.iload_n 1, 1) := by decide +kernel
theorem dX8_zip_84 : decode cX8_zip 84 = .ok (.iastore, 1) := by decide +kernel
theorem dX8_zip_85 : decode cX8_zip 85 = .ok (.iload_n 2, 1) := by decide +kernel
theorem dX8_zip_86 : decode cX8_zip 86 = .ok (.ireturn, 1) := by decide +kernel
theorem dX8_feed_0 : decode cX8_feed 0 = .ok (.iload_n 3, 1) := by decide +kernel
theorem dX8_feed_1 : decode cX8_feed 1 = .ok (.iconst 1, 1) := by decide +kernel
theorem dX8_feed_2 : decode cX8_feed 2 = .ok (.bipush 8, 2) := by decide +kernel
theorem dX8_feed_4 : decode cX8_feed 4 = .ok (.invokestatic 57, 3) := by decide +kernel
theorem dX8_feed_7 : decode cX8_feed 7 = .ok (.ifCond .ne 10, 3) := by decide +kernel
theorem dX8_feed_10 : decode cX8_feed 10 = .ok (.aload_n 0, 1) := by decide +kernel
theorem dX8_feed_11 : decode cX8_feed 11 = .ok (.ldc 77, 2) := by decide +kernel
theorem dX8_feed_13 : decode cX8_feed 13 = .ok (.invokevirtual 78, 3) := by decide +kernel
theorem dX8_feed_16 : decode cX8_feed 16 = .ok (.ireturn, 1) := by decide +kernel
theorem dX8_feed_17 : decode cX8_feed 17 = .ok (.aload_n 0, 1) := by decide +kernel
theorem dX8_feed_18 : decode cX8_feed 18 = .ok (.getfield 9, 3) := by decide +kernel
theorem dX8_feed_21 : decode cX8_feed 21 = .ok (.iconst 5, 1) := by decide +kernel
theorem dX8_feed_22 : decode cX8_feed 22 = .ok (.iaload, 1) := by decide +kernel
theorem dX8_feed_23 : decode cX8_feed 23 = .ok (.iload_n 3, 1) := by decide +kernel
theorem dX8_feed_24 : decode cX8_feed 24 = .ok (.iadd, 1) := by decide +kernel
theorem dX8_feed_25 : decode cX8_feed 25 = .ok (.bipush 60, 2) := by decide +kernel
theorem dX8_feed_27 : decode cX8_feed 27 = .ok (.if_icmp .le 10, 3) := by decide +kernel
theorem dX8_feed_30 : decode cX8_feed 30 = .ok (.aload_n 0, 1) := by decide +kernel
theorem dX8_feed_31 : decode cX8_feed 31 = .ok (.ldc 81, 2) := by decide +kernel
theorem dX8_feed_33 : decode cX8_feed 33 = .ok (.invokevirtual 78, 3) := by decide +kernel
theorem dX8_feed_36 : decode cX8_feed 36 = .ok (.ireturn, 1) := by decide +kernel
theorem dX8_feed_37 : decode cX8_feed 37 = .ok (.iconst 0, 1) := by decide +kernel
theorem dX8_feed_38 : decode cX8_feed 38 = .ok (.istore 4, 2) := by decide +kernel
theorem dX8_feed_40 : decode cX8_feed 40 = .ok (.iload 4, 2) := by decide +kernel
theorem dX8_feed_42 : decode cX8_feed 42 = .ok (.iload_n 3, 1) := by decide +kernel
theorem dX8_feed_43 : decode cX8_feed 43 = .ok (.if_icmp .ge 45, 3) := by decide +kernel
theorem dX8_feed_46 : decode cX8_feed 46 = .ok (.aload_n 0, 1) := by decide +kernel
theorem dX8_feed_47 : decode cX8_feed 47 = .ok (.getfield 9, 3) := by decide +kernel
theorem dX8_feed_50 : decode cX8_feed 50 = .ok (.bipush 53, 2) := by decide +kernel
theorem dX8_feed_52 : decode cX8_feed 52 = .ok (.aload_n 0, 1) := by decide +kernel
theorem dX8_feed_53 : decode cX8_feed 53 = .ok (.getfield 9, 3) := by decide +kernel
theorem dX8_feed_56 : decode cX8_feed 56 = .ok (.iconst 5, 1) := by decide +kernel
theorem dX8_feed_57 : decode cX8_feed 57 = .ok (.iaload, 1) := by decide +kernel
theorem dX8_feed_58 : decode cX8_feed 58 = .ok (.iadd, 1) := by decide +kernel
theorem dX8_feed_59 : decode cX8_feed 59 = .ok (.lload_n 1, 1) := by decide +kernel
theorem dX8_feed_60 : decode cX8_feed 60 = .ok (.bipush 8, 2) := by decide +kernel
theorem dX8_feed_62 : decode cX8_feed 62 = .ok (.iload 4, 2) := by decide +kernel
theorem dX8_feed_64 : decode cX8_feed 64 = .ok (.imul, 1) := by decide +kernel
theorem dX8_feed_65 : decode cX8_feed 65 = .ok (.lshr, 1) := by decide +kernel
theorem dX8_feed_66 : decode cX8_feed 66 = .ok (.ldc2_w 103, 3) := by decide +kernel
theorem dX8_feed_69 : decode cX8_feed 69 = .ok (.land, 1) := by decide +kernel
theorem dX8_feed_70 : decode cX8_feed 70 = .ok (.l2i, 1) := by decide +kernel
theorem dX8_feed_71 : decode cX8_feed 71 = .ok (.iastore, 1) := by decide +kernel
theorem dX8_feed_72 : decode cX8_feed 72 = .ok (.aload_n 0, 1) := by decide +kernel
theorem dX8_feed_73 : decode cX8_feed 73 = .ok (.getfield 9, 3) := by decide +kernel
theorem dX8_feed_76 : decode cX8_feed 76 = .ok (.iconst 5, 1) := by decide +kernel
theorem dX8_feed_77 : decode cX8_feed 77 = .ok (.dup2, 1) := by decide +kernel
theorem dX8_feed_78 : decode cX8_feed 78 = .ok (.iaload, 1) := by decide +kernel
theorem dX8_feed_79 : decode cX8_feed 79 = .ok (.iconst 1, 1) := by decide +kernel
theorem dX8_feed_80 : decode cX8_feed 80 = .ok (.iadd, 1) := by decide +kernel
theorem dX8_feed_81 : decode cX8_feed 81 = .ok (.iastore, 1) := by decide +kernel
theorem dX8_feed_82 : decode cX8_feed 82 = .ok (.iinc 4 1, 3) := by decide +kernel
theorem dX8_feed_85 : decode cX8_feed 85 = .ok (.goto (-45), 3) := by decide +kernel
theorem dX8_feed_88 : decode cX8_feed 88 = .ok (.aload_n 0, 1) := by decide +kernel
theorem dX8_feed_89 : decode cX8_feed 89 = .ok (.getfield 9, 3) := by decide +kernel
theorem dX8_feed_92 : decode cX8_feed 92 = .ok (.iconst 5, 1) := by decide +kernel
theorem dX8_feed_93 : decode cX8_feed 93 = .ok (.iaload, 1) := by decide +kernel
theorem dX8_feed_94 : decode cX8_feed 94 = .ok (.ireturn, 1) := by decide +kernel
theorem dX8_look_0 : decode cX8_look 0 = .ok (.aload_n 0, 1) := by decide +kernel
theorem dX8_look_1 : decode cX8_look 1 = .ok (.getfield 105, 3) := by decide +kernel
theorem dX8_look_4 : decode cX8_look 4 = .ok (.aload_n 0, 1) := by decide +kernel
theorem dX8_look_5 : decode cX8_look 5 = .ok (.getfield 9, 3) := by decide +kernel
theorem dX8_look_8 : decode cX8_look 8 = .ok (.iconst 5, 1) := by decide +kernel
theorem dX8_look_9 : decode cX8_look 9 = .ok (.iaload, 1) := by decide +kernel
theorem dX8_look_10 : decode cX8_look 10 = .ok (.if_icmp .ge 18, 3) := by decide +kernel
theorem dX8_look_13 : decode cX8_look 13 = .ok (.aload_n 0, 1) := by decide +kernel
theorem dX8_look_14 : decode cX8_look 14 = .ok (.getfield 9, 3) := by decide +kernel
theorem dX8_look_17 : decode cX8_look 17 = .ok (.bipush 53, 2) := by decide +kernel
theorem dX8_look_19 : decode cX8_look 19 = .ok (.aload_n 0, 1) := by decide +kernel
theorem dX8_look_20 : decode cX8_look 20 = .ok (.getfield 105, 3) := by decide +kernel
theorem dX8_look_23 : decode cX8_look 23 = .ok (.iadd, 1) := by decide +kernel
theorem dX8_look_24 : decode cX8_look 24 = .ok (.iaload, 1) := by decide +kernel
theorem dX8_look_25 : decode cX8_look 25 = .ok (.goto 4, 3) := by decide +kernel
theorem dX8_look_28 : decode cX8_look 28 = .ok (.iconst (-1), 1) := by decide +kernel
theorem dX8_look_29 : decode cX8_look 29 = .ok (.ireturn, 1) := by decide +kernel
theorem dX8_step_0 : decode cX8_step 0 = .ok (.aload_n 0, 1) := by decide +kernel
theorem dX8_step_1 : decode cX8_step 1 = .ok (.getfield 109, 3) := by decide +kernel
theorem dX8_step_4 : decode cX8_step 4 = .ok (.aload_n 0, 1) := by decide +kernel
theorem dX8_step_5 : decode cX8_step 5 = .ok (.getfield 31, 3) := by decide +kernel
theorem dX8_step_8 : decode cX8_step 8 = .ok (.arraylength, 1) := by decide +kernel
theorem dX8_step_9 : decode cX8_step 9 = .ok (.if_icmp .ge 33, 3) := by decide +kernel
theorem dX8_step_12 : decode cX8_step 12 = .ok (.aload_n 0, 1) := by decide +kernel
theorem dX8_step_13 : decode cX8_step 13 = .ok (.getfield 31, 3) := by decide +kernel
theorem dX8_step_16 : decode cX8_step 16 = .ok (.aload_n 0, 1) := by decide +kernel
theorem dX8_step_17 : decode cX8_step 17 = .ok (.getfield 109, 3) := by decide +kernel
theorem dX8_step_20 : decode cX8_step 20 = .ok (.iload_n 1, 1) := by decide +kernel
theorem dX8_step_21 : decode cX8_step 21 = .ok (.iastore, 1) := by decide +kernel
theorem dX8_step_22 : decode cX8_step 22 = .ok (.aload_n 0, 1) := by decide +kernel
theorem dX8_step_23 : decode cX8_step 23 = .ok (.getfield 34, 3) := by decide +kernel
theorem dX8_step_26 : decode cX8_step 26 = .ok (.aload_n 0, 1) := by decide +kernel
theorem dX8_step_27 : decode cX8_step 27 = .ok (.getfield 109, 3) := by decide +kernel
theorem dX8_step_30 : decode cX8_step 30 = .ok (.iload_n 2, 1) := by decide +kernel
theorem dX8_step_31 : decode cX8_step 31 = .ok (.iastore, 1) := by decide +kernel
theorem dX8_step_32 : decode cX8_step 32 = .ok (.aload_n 0, 1) := by decide +kernel
theorem dX8_step_33 : decode cX8_step 33 = .ok (.dup, 1) := by decide +kernel
theorem dX8_step_34 : decode cX8_step 34 = .ok (.getfield 109, 3) := by decide +kernel
theorem dX8_step_37 : decode cX8_step 37 = .ok (.iconst 1, 1) := by decide +kernel
theorem dX8_step_38 : decode cX8_step 38 = .ok (.iadd, 1) := by decide +kernel
theorem dX8_step_39 : decode cX8_step 39 = .ok (.putfield 109, 3) := by decide +kernel
theorem dX8_step_42 : decode cX8_step 42 = .ok (.return_, 1) := by decide +kernel
theorem dX8_nameOf_0 : decode cX8_nameOf 0 = .ok (.iload_n 1, 1) := by decide +kernel
theorem dX8_nameOf_1 : decode cX8_nameOf 1 = .ok (.tableswitch 119 100 110 #[59, 119, 59, 119, 119, 119, 119, 106, 119, 82, 82], 59) := by decide +kernel
theorem dX8_nameOf_60 : decode cX8_nameOf 60 = .ok (.aload_n 0, 1) := by decide +kernel
theorem dX8_nameOf_61 : decode cX8_nameOf 61 = .ok (.getfield 112, 3) := by decide +kernel
theorem dX8_nameOf_64 : decode cX8_nameOf 64 = .ok (.ifCond .eq 7, 3) := by decide +kernel
theorem dX8_nameOf_67 : decode cX8_nameOf 67 = .ok (.iconst (-1), 1) := by decide +kernel
theorem dX8_nameOf_68 : decode cX8_nameOf 68 = .ok (.goto 14, 3) := by decide +kernel
theorem dX8_nameOf_71 : decode cX8_nameOf 71 = .ok (.iload_n 1, 1) := by decide +kernel
theorem dX8_nameOf_72 : decode cX8_nameOf 72 = .ok (.bipush 102, 2) := by decide +kernel
theorem dX8_nameOf_74 : decode cX8_nameOf 74 = .ok (.if_icmp .ne 7, 3) := by decide +kernel
theorem dX8_nameOf_77 : decode cX8_nameOf 77 = .ok (.iconst 0, 1) := by decide +kernel
theorem dX8_nameOf_78 : decode cX8_nameOf 78 = .ok (.goto 4, 3) := by decide +kernel
theorem dX8_nameOf_81 : decode cX8_nameOf 81 = .ok (.iconst 1, 1) := by decide +kernel
theorem dX8_nameOf_82 : decode cX8_nameOf 82 = .ok (.ireturn, 1) := by decide +kernel
theorem dX8_nameOf_83 : decode cX8_nameOf 83 = .ok (.aload_n 0, 1) := by decide +kernel
theorem dX8_nameOf_84 : decode cX8_nameOf 84 = .ok (.getfield 112, 3) := by decide +kernel
theorem dX8_nameOf_87 : decode cX8_nameOf 87 = .ok (.iconst 1, 1) := by decide +kernel
theorem dX8_nameOf_88 : decode cX8_nameOf 88 = .ok (.if_icmp .eq 7, 3) := by decide +kernel
theorem dX8_nameOf_91 : decode cX8_nameOf 91 = .ok (.iconst (-1), 1) := by decide +kernel
theorem dX8_nameOf_92 : decode cX8_nameOf 92 = .ok (.goto 14, 3) := by decide +kernel
theorem dX8_nameOf_95 : decode cX8_nameOf 95 = .ok (.iload_n 1, 1) := by decide +kernel
theorem dX8_nameOf_96 : decode cX8_nameOf 96 = .ok (.bipush 110, 2) := by decide +kernel
theorem dX8_nameOf_98 : decode cX8_nameOf 98 = .ok (.if_icmp .ne 7, 3) := by decide +kernel
theorem dX8_nameOf_101 : decode cX8_nameOf 101 = .ok (.iconst 0, 1) := by decide +kernel
theorem dX8_nameOf_102 : decode cX8_nameOf 102 = .ok (.goto 4, 3) := by decide +kernel
theorem dX8_nameOf_105 : decode cX8_nameOf 105 = .ok (.iconst 2, 1) := by decide +kernel
theorem dX8_nameOf_106 : decode cX8_nameOf 106 = .ok (.ireturn, 1) := by decide +kernel
theorem dX8_nameOf_107 : decode cX8_nameOf 107 = .ok (.aload_n 0, 1) := by decide +kernel
theorem dX8_nameOf_108 : decode cX8_nameOf 108 = .ok (.getfield 112, 3) := by decide +kernel
theorem dX8_nameOf_111 : decode cX8_nameOf 111 = .ok (.ifCond .ne 7, 3) := by decide +kernel
theorem dX8_nameOf_114 : decode cX8_nameOf 114 = .ok (.iconst 2, 1) := by decide +kernel
theorem dX8_nameOf_115 : decode cX8_nameOf 115 = .ok (.goto 4, 3) := by decide +kernel
theorem dX8_nameOf_118 : decode cX8_nameOf 118 = .ok (.iconst 1, 1) := by decide +kernel
theorem dX8_nameOf_119 : decode cX8_nameOf 119 = .ok (.ireturn, 1) := by decide +kernel
theorem dX8_nameOf_120 : decode cX8_nameOf 120 = .ok (.iconst (-1), 1) := by decide +kernel
theorem dX8_nameOf_121 : decode cX8_nameOf 121 = .ok (.ireturn, 1) := by decide +kernel
theorem dX8_number_0 : decode cX8_number 0 = .ok (.iconst 0, 1) := by decide +kernel
theorem dX8_number_1 : decode cX8_number 1 = .ok (.istore_n 1, 1) := by decide +kernel
theorem dX8_number_2 : decode cX8_number 2 = .ok (.iconst 0, 1) := by decide +kernel
theorem dX8_number_3 : decode cX8_number 3 = .ok (.istore_n 2, 1) := by decide +kernel
theorem dX8_number_4 : decode cX8_number 4 = .ok (.iload_n 2, 1) := by decide +kernel
theorem dX8_number_5 : decode cX8_number 5 = .ok (.iconst 4, 1) := by decide +kernel
theorem dX8_number_6 : decode cX8_number 6 = .ok (.if_icmp .ge 46, 3) := by decide +kernel
theorem dX8_number_9 : decode cX8_number 9 = .ok (.aload_n 0, 1) := by decide +kernel
theorem dX8_number_10 : decode cX8_number 10 = .ok (.invokevirtual 115, 3) := by decide +kernel
theorem dX8_number_13 : decode cX8_number 13 = .ok (.bipush 48, 2) := by decide +kernel
theorem dX8_number_15 : decode cX8_number 15 = .ok (.bipush 57, 2) := by decide +kernel
theorem dX8_number_17 : decode cX8_number 17 = .ok (.invokestatic 57, 3) := by decide +kernel
theorem dX8_number_20 : decode cX8_number 20 = .ok (.ifCond .eq 32, 3) := by decide +kernel
theorem dX8_number_23 : decode cX8_number 23 = .ok (.bipush 10, 2) := by decide +kernel
theorem dX8_number_25 : decode cX8_number 25 = .ok (.iload_n 1, 1) := by decide +kernel
theorem dX8_number_26 : decode cX8_number 26 = .ok (.imul, 1) := by decide +kernel
theorem dX8_number_27 : decode cX8_number 27 = .ok (.aload_n 0, 1) := by decide +kernel
theorem dX8_number_28 : decode cX8_number 28 = .ok (.invokevirtual 115, 3) := by decide +kernel
theorem dX8_number_31 : decode cX8_number 31 = .ok (.iadd, 1) := by decide +kernel
theorem dX8_number_32 : decode cX8_number 32 = .ok (.bipush 48, 2) := by decide +kernel
theorem dX8_number_34 : decode cX8_number 34 = .ok (.isub, 1) := by decide +kernel
theorem dX8_number_35 : decode cX8_number 35 = .ok (.istore_n 1, 1) := by decide +kernel
theorem dX8_number_36 : decode cX8_number 36 = .ok (.aload_n 0, 1) := by decide +kernel
theorem dX8_number_37 : decode cX8_number 37 = .ok (.dup, 1) := by decide +kernel
theorem dX8_number_38 : decode cX8_number 38 = .ok (.getfield 105, 3) := by decide +kernel
theorem dX8_number_41 : decode cX8_number 41 = .ok (.iconst 1, 1) := by decide +kernel
theorem dX8_number_42 : decode cX8_number 42 = .ok (.iadd, 1) := by decide +kernel
theorem dX8_number_43 : decode cX8_number 43 = .ok (.putfield 105, 3) := by decide +kernel
theorem dX8_number_46 : decode cX8_number 46 = .ok (.iinc 2 1, 3) := by decide +kernel
theorem dX8_number_49 : decode cX8_number 49 = .ok (.goto (-45), 3) := by decide +kernel
theorem dX8_number_52 : decode cX8_number 52 = .ok (.aload_n 0, 1) := by decide +kernel
theorem dX8_number_53 : decode cX8_number 53 = .ok (.iload_n 2, 1) := by decide +kernel
theorem dX8_number_54 : decode cX8_number 54 = .ok (.ifCond .ne 7, 3) := by decide +kernel
theorem dX8_number_57 : decode cX8_number 57 = .ok (.iconst 1, 1) := by decide +kernel
theorem dX8_number_58 : decode cX8_number 58 = .ok (.goto 4, 3) := by decide +kernel
theorem dX8_number_61 : decode cX8_number 61 = .ok (.iconst 0, 1) := by decide +kernel
theorem dX8_number_62 : decode cX8_number 62 = .ok (.putfield 119, 3) := by decide +kernel
theorem dX8_number_65 : decode cX8_number 65 = .ok (.aload_n 0, 1) := by decide +kernel
theorem dX8_number_66 : decode cX8_number 66 = .ok (.iconst 1, 1) := by decide +kernel
theorem dX8_number_67 : decode cX8_number 67 = .ok (.iload_n 1, 1) := by decide +kernel
theorem dX8_number_68 : decode cX8_number 68 = .ok (.invokevirtual 123, 3) := by decide +kernel
theorem dX8_number_71 : decode cX8_number 71 = .ok (.return_, 1) := by decide +kernel
theorem dX8_opens_0 : decode cX8_opens 0 = .ok (.aload_n 0, 1) := by decide +kernel
theorem dX8_opens_1 : decode cX8_opens 1 = .ok (.getfield 127, 3) := by decide +kernel
theorem dX8_opens_4 : decode cX8_opens 4 = .ok (.iconst 5, 1) := by decide +kernel
theorem dX8_opens_5 : decode cX8_opens 5 = .ok (.if_icmp .ne 9, 3) := by decide +kernel
theorem dX8_opens_8 : decode cX8_opens 8 = .ok (.aload_n 0, 1) := by decide +kernel
theorem dX8_opens_9 : decode cX8_opens 9 = .ok (.iconst 1, 1) := by decide +kernel
theorem dX8_opens_10 : decode cX8_opens 10 = .ok (.putfield 119, 3) := by decide +kernel
theorem dX8_opens_13 : decode cX8_opens 13 = .ok (.return_, 1) := by decide +kernel
theorem dX8_opens_14 : decode cX8_opens 14 = .ok (.aload_n 0, 1) := by decide +kernel
theorem dX8_opens_15 : decode cX8_opens 15 = .ok (.dup, 1) := by decide +kernel
theorem dX8_opens_16 : decode cX8_opens 16 = .ok (.getfield 127, 3) := by decide +kernel
theorem dX8_opens_19 : decode cX8_opens 19 = .ok (.iconst 1, 1) := by decide +kernel
theorem dX8_opens_20 : decode cX8_opens 20 = .ok (.iadd, 1) := by decide +kernel
theorem dX8_opens_21 : decode cX8_opens 21 = .ok (.putfield 127, 3) := by decide +kernel
theorem dX8_opens_24 : decode cX8_opens 24 = .ok (.aload_n 0, 1) := by decide +kernel
theorem dX8_opens_25 : decode cX8_opens 25 = .ok (.dup, 1) := by decide +kernel
theorem dX8_opens_26 : decode cX8_opens 26 = .ok (.getfield 105, 3) := by decide +kernel
theorem dX8_opens_29 : decode cX8_opens 29 = .ok (.iconst 1, 1) := by decide +kernel
theorem dX8_opens_30 : decode cX8_opens 30 = .ok (.iadd, 1) := by decide +kernel
theorem dX8_opens_31 : decode cX8_opens 31 = .ok (.putfield 105, 3) := by decide +kernel
theorem dX8_opens_34 : decode cX8_opens 34 = .ok (.iload_n 1, 1) := by decide +kernel
theorem dX8_opens_35 : decode cX8_opens 35 = .ok (.bipush 33, 2) := by decide +kernel
theorem dX8_opens_37 : decode cX8_opens 37 = .ok (.if_icmp .ne 16, 3) := by decide +kernel
theorem dX8_opens_40 : decode cX8_opens 40 = .ok (.aload_n 0, 1) := by decide +kernel
theorem dX8_opens_41 : decode cX8_opens 41 = .ok (.invokevirtual 130, 3) := by decide +kernel
theorem dX8_opens_44 : decode cX8_opens 44 = .ok (.aload_n 0, 1) := by decide +kernel
theorem dX8_opens_45 : decode cX8_opens 45 = .ok (.iconst 3, 1) := by decide +kernel
theorem dX8_opens_46 : decode cX8_opens 46 = .ok (.iconst 0, 1) := by decide +kernel
theorem dX8_opens_47 : decode cX8_opens 47 = .ok (.invokevirtual 123, 3) := by decide +kernel
theorem dX8_opens_50 : decode cX8_opens 50 = .ok (.goto 53, 3) := by decide +kernel
theorem dX8_opens_53 : decode cX8_opens 53 = .ok (.aload_n 0, 1) := by decide +kernel
theorem dX8_opens_54 : decode cX8_opens 54 = .ok (.invokevirtual 133, 3) := by decide +kernel
theorem dX8_opens_57 : decode cX8_opens 57 = .ok (.aload_n 0, 1) := by decide +kernel
theorem dX8_opens_58 : decode cX8_opens 58 = .ok (.aload_n 0, 1) := by decide +kernel
theorem dX8_opens_59 : decode cX8_opens 59 = .ok (.getfield 119, 3) := by decide +kernel
theorem dX8_opens_62 : decode cX8_opens 62 = .ok (.ifCond .ne 12, 3) := by decide +kernel
theorem dX8_opens_65 : decode cX8_opens 65 = .ok (.aload_n 0, 1) := by decide +kernel
theorem dX8_opens_66 : decode cX8_opens 66 = .ok (.invokevirtual 115, 3) := by decide +kernel
theorem dX8_opens_69 : decode cX8_opens 69 = .ok (.bipush 41, 2) := by decide +kernel
theorem dX8_opens_71 : decode cX8_opens 71 = .ok (.if_icmp .eq 7, 3) := by decide +kernel
theorem dX8_opens_74 : decode cX8_opens 74 = .ok (.iconst 1, 1) := by decide +kernel
theorem dX8_opens_75 : decode cX8_opens 75 = .ok (.goto 4, 3) := by decide +kernel
theorem dX8_opens_78 : decode cX8_opens 78 = .ok (.iconst 0, 1) := by decide +kernel
theorem dX8_opens_79 : decode cX8_opens 79 = .ok (.putfield 119, 3) := by decide +kernel
theorem dX8_opens_82 : decode cX8_opens 82 = .ok (.aload_n 0, 1) := by decide +kernel
theorem dX8_opens_83 : decode cX8_opens 83 = .ok (.dup, 1) := by decide +kernel
theorem dX8_opens_84 : decode cX8_opens 84 = .ok (.getfield 105, 3) := by decide +kernel
theorem dX8_opens_87 : decode cX8_opens 87 = .ok (.aload_n 0, 1) := by decide +kernel
theorem dX8_opens_88 : decode cX8_opens 88 = .ok (.getfield 119, 3) := by decide +kernel
theorem dX8_opens_91 : decode cX8_opens 91 = .ok (.ifCond .eq 7, 3) := by decide +kernel
theorem dX8_opens_94 : decode cX8_opens 94 = .ok (.iconst 0, 1) := by decide +kernel
theorem dX8_opens_95 : decode cX8_opens 95 = .ok (.goto 4, 3) := by decide +kernel
theorem dX8_opens_98 : decode cX8_opens 98 = .ok (.iconst 1, 1) := by decide +kernel
theorem dX8_opens_99 : decode cX8_opens 99 = .ok (.iadd, 1) := by decide +kernel
theorem dX8_opens_100 : decode cX8_opens 100 = .ok (.putfield 105, 3) := by decide +kernel
theorem dX8_opens_103 : decode cX8_opens 103 = .ok (.aload_n 0, 1) := by decide +kernel
theorem dX8_opens_104 : decode cX8_opens 104 = .ok (.dup, 1) := by decide +kernel
theorem dX8_opens_105 : decode cX8_opens 105 = .ok (.getfield 127, 3) := by decide +kernel
theorem dX8_opens_108 : decode cX8_opens 108 = .ok (.iconst 1, 1) := by decide +kernel
theorem dX8_opens_109 : decode cX8_opens 109 = .ok (.isub, 1) := by decide +kernel
theorem dX8_opens_110 : decode cX8_opens 110 = .ok (.putfield 127, 3) := by decide +kernel
theorem dX8_opens_113 : decode cX8_opens 113 = .ok (.return_, 1) := by decide +kernel
theorem dX8_one_0 : decode cX8_one 0 = .ok (.aload_n 0, 1) := by decide +kernel
theorem dX8_one_1 : decode cX8_one 1 = .ok (.invokevirtual 115, 3) := by decide +kernel
theorem dX8_one_4 : decode cX8_one 4 = .ok (.istore_n 1, 1) := by decide +kernel
theorem dX8_one_5 : decode cX8_one 5 = .ok (.aload_n 0, 1) := by decide +kernel
theorem dX8_one_6 : decode cX8_one 6 = .ok (.iload_n 1, 1) := by decide +kernel
theorem dX8_one_7 : decode cX8_one 7 = .ok (.invokevirtual 136, 3) := by decide +kernel
theorem dX8_one_10 : decode cX8_one 10 = .ok (.istore_n 2, 1) := by decide +kernel
theorem dX8_one_11 : decode cX8_one 11 = .ok (.iload_n 2, 1) := by decide +kernel
theorem dX8_one_12 : decode cX8_one 12 = .ok (.ifCond .lt 22, 3) := by decide +kernel
theorem dX8_one_15 : decode cX8_one 15 = .ok (.aload_n 0, 1) := by decide +kernel
theorem dX8_one_16 : decode cX8_one 16 = .ok (.dup, 1) := by decide +kernel
theorem dX8_one_17 : decode cX8_one 17 = .ok (.getfield 105, 3) := by decide +kernel
theorem dX8_one_20 : decode cX8_one 20 = .ok (.iconst 1, 1) := by decide +kernel
theorem dX8_one_21 : decode cX8_one 21 = .ok (.iadd, 1) := by decide +kernel
theorem dX8_one_22 : decode cX8_one 22 = .ok (.putfield 105, 3) := by decide +kernel
theorem dX8_one_25 : decode cX8_one 25 = .ok (.aload_n 0, 1) := by decide +kernel
theorem dX8_one_26 : decode cX8_one 26 = .ok (.iconst 2, 1) := by decide +kernel
theorem dX8_one_27 : decode cX8_one 27 = .ok (.iload_n 2, 1) := by decide +kernel
theorem dX8_one_28 : decode cX8_one 28 = .ok (.invokevirtual 123, 3) := by decide +kernel
theorem dX8_one_31 : decode cX8_one 31 = .ok (.goto 27, 3) := by decide +kernel
theorem dX8_one_34 : decode cX8_one 34 = .ok (.iload_n 1, 1) := by decide +kernel
theorem dX8_one_35 : decode cX8_one 35 = .ok (.bipush 33, 2) := by decide +kernel
theorem dX8_one_37 : decode cX8_one 37 = .ok (.if_icmp .eq 9, 3) := by decide +kernel
theorem dX8_one_40 : decode cX8_one 40 = .ok (.iload_n 1, 1) := by decide +kernel
theorem dX8_one_41 : decode cX8_one 41 = .ok (.bipush 40, 2) := by decide +kernel
theorem dX8_one_43 : decode cX8_one 43 = .ok (.if_icmp .ne 11, 3) := by decide +kernel
theorem dX8_one_46 : decode cX8_one 46 = .ok (.aload_n 0, 1) := by decide +kernel
theorem dX8_one_47 : decode cX8_one 47 = .ok (.iload_n 1, 1) := by decide +kernel
theorem dX8_one_48 : decode cX8_one 48 = .ok (.invokevirtual 139, 3) := by decide +kernel
theorem dX8_one_51 : decode cX8_one 51 = .ok (.goto 7, 3) := by decide +kernel
theorem dX8_one_54 : decode cX8_one 54 = .ok (.aload_n 0, 1) := by decide +kernel
theorem dX8_one_55 : decode cX8_one 55 = .ok (.invokevirtual 142, 3) := by decide +kernel
theorem dX8_one_58 : decode cX8_one 58 = .ok (.return_, 1) := by decide +kernel
theorem dX8_times_0 : decode cX8_times 0 = .ok (.aload_n 0, 1) := by decide +kernel
theorem dX8_times_1 : decode cX8_times 1 = .ok (.invokevirtual 130, 3) := by decide +kernel
theorem dX8_times_4 : decode cX8_times 4 = .ok (.aload_n 0, 1) := by decide +kernel
theorem dX8_times_5 : decode cX8_times 5 = .ok (.getfield 119, 3) := by decide +kernel
theorem dX8_times_8 : decode cX8_times 8 = .ok (.ifCond .ne 58, 3) := by decide +kernel
theorem dX8_times_11 : decode cX8_times 11 = .ok (.aload_n 0, 1) := by decide +kernel
theorem dX8_times_12 : decode cX8_times 12 = .ok (.invokevirtual 115, 3) := by decide +kernel
theorem dX8_times_15 : decode cX8_times 15 = .ok (.bipush 42, 2) := by decide +kernel
theorem dX8_times_17 : decode cX8_times 17 = .ok (.if_icmp .eq 21, 3) := by decide +kernel
theorem dX8_times_20 : decode cX8_times 20 = .ok (.aload_n 0, 1) := by decide +kernel
theorem dX8_times_21 : decode cX8_times 21 = .ok (.invokevirtual 115, 3) := by decide +kernel
theorem dX8_times_24 : decode cX8_times 24 = .ok (.bipush 47, 2) := by decide +kernel
theorem dX8_times_26 : decode cX8_times 26 = .ok (.if_icmp .eq 12, 3) := by decide +kernel
theorem dX8_times_29 : decode cX8_times 29 = .ok (.aload_n 0, 1) := by decide +kernel
theorem dX8_times_30 : decode cX8_times 30 = .ok (.invokevirtual 115, 3) := by decide +kernel
theorem dX8_times_33 : decode cX8_times 33 = .ok (.bipush 37, 2) := by decide +kernel
theorem dX8_times_35 : decode cX8_times 35 = .ok (.if_icmp .ne 31, 3) := by decide +kernel
theorem dX8_times_38 : decode cX8_times 38 = .ok (.aload_n 0, 1) := by decide +kernel
theorem dX8_times_39 : decode cX8_times 39 = .ok (.invokevirtual 115, 3) := by decide +kernel
theorem dX8_times_42 : decode cX8_times 42 = .ok (.istore_n 1, 1) := by decide +kernel
theorem dX8_times_43 : decode cX8_times 43 = .ok (.aload_n 0, 1) := by decide +kernel
theorem dX8_times_44 : decode cX8_times 44 = .ok (.dup, 1) := by decide +kernel
theorem dX8_times_45 : decode cX8_times 45 = .ok (.getfield 105, 3) := by decide +kernel
theorem dX8_times_48 : decode cX8_times 48 = .ok (.iconst 1, 1) := by decide +kernel
theorem dX8_times_49 : decode cX8_times 49 = .ok (.iadd, 1) := by decide +kernel
theorem dX8_times_50 : decode cX8_times 50 = .ok (.putfield 105, 3) := by decide +kernel
theorem dX8_times_53 : decode cX8_times 53 = .ok (.aload_n 0, 1) := by decide +kernel
theorem dX8_times_54 : decode cX8_times 54 = .ok (.invokevirtual 130, 3) := by decide +kernel
theorem dX8_times_57 : decode cX8_times 57 = .ok (.aload_n 0, 1) := by decide +kernel
theorem dX8_times_58 : decode cX8_times 58 = .ok (.iload_n 1, 1) := by decide +kernel
theorem dX8_times_59 : decode cX8_times 59 = .ok (.iconst 0, 1) := by decide +kernel
theorem dX8_times_60 : decode cX8_times 60 = .ok (.invokevirtual 123, 3) := by decide +kernel
theorem dX8_times_63 : decode cX8_times 63 = .ok (.goto (-59), 3) := by decide +kernel
theorem dX8_times_66 : decode cX8_times 66 = .ok (.return_, 1) := by decide +kernel
theorem dX8_sum_0 : decode cX8_sum 0 = .ok (.aload_n 0, 1) := by decide +kernel
theorem dX8_sum_1 : decode cX8_sum 1 = .ok (.invokevirtual 145, 3) := by decide +kernel
theorem dX8_sum_4 : decode cX8_sum 4 = .ok (.aload_n 0, 1) := by decide +kernel
theorem dX8_sum_5 : decode cX8_sum 5 = .ok (.getfield 119, 3) := by decide +kernel
theorem dX8_sum_8 : decode cX8_sum 8 = .ok (.ifCond .ne 49, 3) := by decide +kernel
theorem dX8_sum_11 : decode cX8_sum 11 = .ok (.aload_n 0, 1) := by decide +kernel
theorem dX8_sum_12 : decode cX8_sum 12 = .ok (.invokevirtual 115, 3) := by decide +kernel
theorem dX8_sum_15 : decode cX8_sum 15 = .ok (.bipush 43, 2) := by decide +kernel
theorem dX8_sum_17 : decode cX8_sum 17 = .ok (.if_icmp .eq 12, 3) := by decide +kernel
theorem dX8_sum_20 : decode cX8_sum 20 = .ok (.aload_n 0, 1) := by decide +kernel
theorem dX8_sum_21 : decode cX8_sum 21 = .ok (.invokevirtual 115, 3) := by decide +kernel
theorem dX8_sum_24 : decode cX8_sum 24 = .ok (.bipush 45, 2) := by decide +kernel
theorem dX8_sum_26 : decode cX8_sum 26 = .ok (.if_icmp .ne 31, 3) := by decide +kernel
theorem dX8_sum_29 : decode cX8_sum 29 = .ok (.aload_n 0, 1) := by decide +kernel
theorem dX8_sum_30 : decode cX8_sum 30 = .ok (.invokevirtual 115, 3) := by decide +kernel
theorem dX8_sum_33 : decode cX8_sum 33 = .ok (.istore_n 1, 1) := by decide +kernel
theorem dX8_sum_34 : decode cX8_sum 34 = .ok (.aload_n 0, 1) := by decide +kernel
theorem dX8_sum_35 : decode cX8_sum 35 = .ok (.dup, 1) := by decide +kernel
theorem dX8_sum_36 : decode cX8_sum 36 = .ok (.getfield 105, 3) := by decide +kernel
theorem dX8_sum_39 : decode cX8_sum 39 = .ok (.iconst 1, 1) := by decide +kernel
theorem dX8_sum_40 : decode cX8_sum 40 = .ok (.iadd, 1) := by decide +kernel
theorem dX8_sum_41 : decode cX8_sum 41 = .ok (.putfield 105, 3) := by decide +kernel
theorem dX8_sum_44 : decode cX8_sum 44 = .ok (.aload_n 0, 1) := by decide +kernel
theorem dX8_sum_45 : decode cX8_sum 45 = .ok (.invokevirtual 145, 3) := by decide +kernel
theorem dX8_sum_48 : decode cX8_sum 48 = .ok (.aload_n 0, 1) := by decide +kernel
theorem dX8_sum_49 : decode cX8_sum 49 = .ok (.iload_n 1, 1) := by decide +kernel
theorem dX8_sum_50 : decode cX8_sum 50 = .ok (.iconst 0, 1) := by decide +kernel
theorem dX8_sum_51 : decode cX8_sum 51 = .ok (.invokevirtual 123, 3) := by decide +kernel
theorem dX8_sum_54 : decode cX8_sum 54 = .ok (.goto (-50), 3) := by decide +kernel
theorem dX8_sum_57 : decode cX8_sum 57 = .ok (.return_, 1) := by decide +kernel
theorem dX8_compares_0 : decode cX8_compares 0 = .ok (.aload_n 0, 1) := by decide +kernel
theorem dX8_compares_1 : decode cX8_compares 1 = .ok (.invokevirtual 148, 3) := by decide +kernel
theorem dX8_compares_4 : decode cX8_compares 4 = .ok (.aload_n 0, 1) := by decide +kernel
theorem dX8_compares_5 : decode cX8_compares 5 = .ok (.invokevirtual 115, 3) := by decide +kernel
theorem dX8_compares_8 : decode cX8_compares 8 = .ok (.istore_n 1, 1) := by decide +kernel
theorem dX8_compares_9 : decode cX8_compares 9 = .ok (.aload_n 0, 1) := by decide +kernel
theorem dX8_compares_10 : decode cX8_compares 10 = .ok (.getfield 119, 3) := by decide +kernel
theorem dX8_compares_13 : decode cX8_compares 13 = .ok (.ifCond .ne 41, 3) := by decide +kernel
theorem dX8_compares_16 : decode cX8_compares 16 = .ok (.iload_n 1, 1) := by decide +kernel
theorem dX8_compares_17 : decode cX8_compares 17 = .ok (.bipush 60, 2) := by decide +kernel
theorem dX8_compares_19 : decode cX8_compares 19 = .ok (.if_icmp .eq 15, 3) := by decide +kernel
theorem dX8_compares_22 : decode cX8_compares 22 = .ok (.iload_n 1, 1) := by decide +kernel
theorem dX8_compares_23 : decode cX8_compares 23 = .ok (.bipush 61, 2) := by decide +kernel
theorem dX8_compares_25 : decode cX8_compares 25 = .ok (.if_icmp .eq 9, 3) := by decide +kernel
theorem dX8_compares_28 : decode cX8_compares 28 = .ok (.iload_n 1, 1) := by decide +kernel
theorem dX8_compares_29 : decode cX8_compares 29 = .ok (.bipush 62, 2) := by decide +kernel
theorem dX8_compares_31 : decode cX8_compares 31 = .ok (.if_icmp .ne 23, 3) := by decide +kernel
theorem dX8_compares_34 : decode cX8_compares 34 = .ok (.aload_n 0, 1) := by decide +kernel
theorem dX8_compares_35 : decode cX8_compares 35 = .ok (.dup, 1) := by decide +kernel
theorem dX8_compares_36 : decode cX8_compares 36 = .ok (.getfield 105, 3) := by decide +kernel
theorem dX8_compares_39 : decode cX8_compares 39 = .ok (.iconst 1, 1) := by decide +kernel
theorem dX8_compares_40 : decode cX8_compares 40 = .ok (.iadd, 1) := by decide +kernel
theorem dX8_compares_41 : decode cX8_compares 41 = .ok (.putfield 105, 3) := by decide +kernel
theorem dX8_compares_44 : decode cX8_compares 44 = .ok (.aload_n 0, 1) := by decide +kernel
theorem dX8_compares_45 : decode cX8_compares 45 = .ok (.invokevirtual 148, 3) := by decide +kernel
theorem dX8_compares_48 : decode cX8_compares 48 = .ok (.aload_n 0, 1) := by decide +kernel
theorem dX8_compares_49 : decode cX8_compares 49 = .ok (.iload_n 1, 1) := by decide +kernel
theorem dX8_compares_50 : decode cX8_compares 50 = .ok (.iconst 0, 1) := by decide +kernel
theorem dX8_compares_51 : decode cX8_compares 51 = .ok (.invokevirtual 123, 3) := by decide +kernel
theorem dX8_compares_54 : decode cX8_compares 54 = .ok (.return_, 1) := by decide +kernel
theorem dX8_all_0 : decode cX8_all 0 = .ok (.aload_n 0, 1) := by decide +kernel
theorem dX8_all_1 : decode cX8_all 1 = .ok (.invokevirtual 151, 3) := by decide +kernel
theorem dX8_all_4 : decode cX8_all 4 = .ok (.aload_n 0, 1) := by decide +kernel
theorem dX8_all_5 : decode cX8_all 5 = .ok (.getfield 119, 3) := by decide +kernel
theorem dX8_all_8 : decode cX8_all 8 = .ok (.ifCond .ne 36, 3) := by decide +kernel
theorem dX8_all_11 : decode cX8_all 11 = .ok (.aload_n 0, 1) := by decide +kernel
theorem dX8_all_12 : decode cX8_all 12 = .ok (.invokevirtual 115, 3) := by decide +kernel
theorem dX8_all_15 : decode cX8_all 15 = .ok (.bipush 38, 2) := by decide +kernel
theorem dX8_all_17 : decode cX8_all 17 = .ok (.if_icmp .ne 27, 3) := by decide +kernel
theorem dX8_all_20 : decode cX8_all 20 = .ok (.aload_n 0, 1) := by decide +kernel
theorem dX8_all_21 : decode cX8_all 21 = .ok (.dup, 1) := by decide +kernel
theorem dX8_all_22 : decode cX8_all 22 = .ok (.getfield 105, 3) := by decide +kernel
theorem dX8_all_25 : decode cX8_all 25 = .ok (.iconst 1, 1) := by decide +kernel
theorem dX8_all_26 : decode cX8_all 26 = .ok (.iadd, 1) := by decide +kernel
theorem dX8_all_27 : decode cX8_all 27 = .ok (.putfield 105, 3) := by decide +kernel
theorem dX8_all_30 : decode cX8_all 30 = .ok (.aload_n 0, 1) := by decide +kernel
theorem dX8_all_31 : decode cX8_all 31 = .ok (.invokevirtual 151, 3) := by decide +kernel
theorem dX8_all_34 : decode cX8_all 34 = .ok (.aload_n 0, 1) := by decide +kernel
theorem dX8_all_35 : decode cX8_all 35 = .ok (.bipush 38, 2) := by decide +kernel
theorem dX8_all_37 : decode cX8_all 37 = .ok (.iconst 0, 1) := by decide +kernel
theorem dX8_all_38 : decode cX8_all 38 = .ok (.invokevirtual 123, 3) := by decide +kernel
theorem dX8_all_41 : decode cX8_all 41 = .ok (.goto (-37), 3) := by decide +kernel
theorem dX8_all_44 : decode cX8_all 44 = .ok (.return_, 1) := by decide +kernel
theorem dX8_any_0 : decode cX8_any 0 = .ok (.aload_n 0, 1) := by decide +kernel
theorem dX8_any_1 : decode cX8_any 1 = .ok (.invokevirtual 154, 3) := by decide +kernel
theorem dX8_any_4 : decode cX8_any 4 = .ok (.aload_n 0, 1) := by decide +kernel
theorem dX8_any_5 : decode cX8_any 5 = .ok (.getfield 119, 3) := by decide +kernel
theorem dX8_any_8 : decode cX8_any 8 = .ok (.ifCond .ne 36, 3) := by decide +kernel
theorem dX8_any_11 : decode cX8_any 11 = .ok (.aload_n 0, 1) := by decide +kernel
theorem dX8_any_12 : decode cX8_any 12 = .ok (.invokevirtual 115, 3) := by decide +kernel
theorem dX8_any_15 : decode cX8_any 15 = .ok (.bipush 124, 2) := by decide +kernel
theorem dX8_any_17 : decode cX8_any 17 = .ok (.if_icmp .ne 27, 3) := by decide +kernel
theorem dX8_any_20 : decode cX8_any 20 = .ok (.aload_n 0, 1) := by decide +kernel
theorem dX8_any_21 : decode cX8_any 21 = .ok (.dup, 1) := by decide +kernel
theorem dX8_any_22 : decode cX8_any 22 = .ok (.getfield 105, 3) := by decide +kernel
theorem dX8_any_25 : decode cX8_any 25 = .ok (.iconst 1, 1) := by decide +kernel
theorem dX8_any_26 : decode cX8_any 26 = .ok (.iadd, 1) := by decide +kernel
theorem dX8_any_27 : decode cX8_any 27 = .ok (.putfield 105, 3) := by decide +kernel
theorem dX8_any_30 : decode cX8_any 30 = .ok (.aload_n 0, 1) := by decide +kernel
theorem dX8_any_31 : decode cX8_any 31 = .ok (.invokevirtual 154, 3) := by decide +kernel
theorem dX8_any_34 : decode cX8_any 34 = .ok (.aload_n 0, 1) := by decide +kernel
theorem dX8_any_35 : decode cX8_any 35 = .ok (.bipush 124, 2) := by decide +kernel
theorem dX8_any_37 : decode cX8_any 37 = .ok (.iconst 0, 1) := by decide +kernel
theorem dX8_any_38 : decode cX8_any 38 = .ok (.invokevirtual 123, 3) := by decide +kernel
theorem dX8_any_41 : decode cX8_any 41 = .ok (.goto (-37), 3) := by decide +kernel
theorem dX8_any_44 : decode cX8_any 44 = .ok (.return_, 1) := by decide +kernel
theorem dX8_text_0 : decode cX8_text 0 = .ok (.iload_n 1, 1) := by decide +kernel
theorem dX8_text_1 : decode cX8_text 1 = .ok (.iconst 0, 1) := by decide +kernel
theorem dX8_text_2 : decode cX8_text 2 = .ok (.iconst 1, 1) := by decide +kernel
theorem dX8_text_3 : decode cX8_text 3 = .ok (.invokestatic 57, 3) := by decide +kernel
theorem dX8_text_6 : decode cX8_text 6 = .ok (.ifCond .ne 10, 3) := by decide +kernel
theorem dX8_text_9 : decode cX8_text 9 = .ok (.aload_n 0, 1) := by decide +kernel
theorem dX8_text_10 : decode cX8_text 10 = .ok (.ldc 77, 2) := by decide +kernel
theorem dX8_text_12 : decode cX8_text 12 = .ok (.invokevirtual 78, 3) := by decide +kernel
theorem dX8_text_15 : decode cX8_text 15 = .ok (.ireturn, 1) := by decide +kernel
theorem dX8_text_16 : decode cX8_text 16 = .ok (.aload_n 0, 1) := by decide +kernel
theorem dX8_text_17 : decode cX8_text 17 = .ok (.iload_n 1, 1) := by decide +kernel
theorem dX8_text_18 : decode cX8_text 18 = .ok (.putfield 112, 3) := by decide +kernel
theorem dX8_text_21 : decode cX8_text 21 = .ok (.aload_n 0, 1) := by decide +kernel
theorem dX8_text_22 : decode cX8_text 22 = .ok (.iconst 0, 1) := by decide +kernel
theorem dX8_text_23 : decode cX8_text 23 = .ok (.putfield 109, 3) := by decide +kernel
theorem dX8_text_26 : decode cX8_text 26 = .ok (.aload_n 0, 1) := by decide +kernel
theorem dX8_text_27 : decode cX8_text 27 = .ok (.iconst 0, 1) := by decide +kernel
theorem dX8_text_28 : decode cX8_text 28 = .ok (.putfield 105, 3) := by decide +kernel
theorem dX8_text_31 : decode cX8_text 31 = .ok (.aload_n 0, 1) := by decide +kernel
theorem dX8_text_32 : decode cX8_text 32 = .ok (.iconst 0, 1) := by decide +kernel
theorem dX8_text_33 : decode cX8_text 33 = .ok (.putfield 127, 3) := by decide +kernel
theorem dX8_text_36 : decode cX8_text 36 = .ok (.aload_n 0, 1) := by decide +kernel
theorem dX8_text_37 : decode cX8_text 37 = .ok (.iconst 0, 1) := by decide +kernel
theorem dX8_text_38 : decode cX8_text 38 = .ok (.putfield 119, 3) := by decide +kernel
theorem dX8_text_41 : decode cX8_text 41 = .ok (.aload_n 0, 1) := by decide +kernel
theorem dX8_text_42 : decode cX8_text 42 = .ok (.invokevirtual 133, 3) := by decide +kernel
theorem dX8_text_45 : decode cX8_text 45 = .ok (.aload_n 0, 1) := by decide +kernel
theorem dX8_text_46 : decode cX8_text 46 = .ok (.aload_n 0, 1) := by decide +kernel
theorem dX8_text_47 : decode cX8_text 47 = .ok (.getfield 119, 3) := by decide +kernel
theorem dX8_text_50 : decode cX8_text 50 = .ok (.ifCond .ne 16, 3) := by decide +kernel
theorem dX8_text_53 : decode cX8_text 53 = .ok (.aload_n 0, 1) := by decide +kernel
theorem dX8_text_54 : decode cX8_text 54 = .ok (.getfield 105, 3) := by decide +kernel
theorem dX8_text_57 : decode cX8_text 57 = .ok (.aload_n 0, 1) := by decide +kernel
theorem dX8_text_58 : decode cX8_text 58 = .ok (.getfield 9, 3) := by decide +kernel
theorem dX8_text_61 : decode cX8_text 61 = .ok (.iconst 5, 1) := by decide +kernel
theorem dX8_text_62 : decode cX8_text 62 = .ok (.iaload, 1) := by decide +kernel
theorem dX8_text_63 : decode cX8_text 63 = .ok (.if_icmp .ge 7, 3) := by decide +kernel
theorem dX8_text_66 : decode cX8_text 66 = .ok (.iconst 1, 1) := by decide +kernel
theorem dX8_text_67 : decode cX8_text 67 = .ok (.goto 4, 3) := by decide +kernel
theorem dX8_text_70 : decode cX8_text 70 = .ok (.iconst 0, 1) := by decide +kernel
theorem dX8_text_71 : decode cX8_text 71 = .ok (.putfield 119, 3) := by decide +kernel
theorem dX8_text_74 : decode cX8_text 74 = .ok (.aload_n 0, 1) := by decide +kernel
theorem dX8_text_75 : decode cX8_text 75 = .ok (.getfield 9, 3) := by decide +kernel
theorem dX8_text_78 : decode cX8_text 78 = .ok (.iconst 5, 1) := by decide +kernel
theorem dX8_text_79 : decode cX8_text 79 = .ok (.iconst 0, 1) := by decide +kernel
theorem dX8_text_80 : decode cX8_text 80 = .ok (.iastore, 1) := by decide +kernel
theorem dX8_text_81 : decode cX8_text 81 = .ok (.aload_n 0, 1) := by decide +kernel
theorem dX8_text_82 : decode cX8_text 82 = .ok (.getfield 119, 3) := by decide +kernel
theorem dX8_text_85 : decode cX8_text 85 = .ok (.ifCond .eq 11, 3) := by decide +kernel
theorem dX8_text_88 : decode cX8_text 88 = .ok (.bipush (-10), 2) := by decide +kernel
theorem dX8_text_90 : decode cX8_text 90 = .ok (.aload_n 0, 1) := by decide +kernel
theorem dX8_text_91 : decode cX8_text 91 = .ok (.getfield 105, 3) := by decide +kernel
theorem dX8_text_94 : decode cX8_text 94 = .ok (.isub, 1) := by decide +kernel
theorem dX8_text_95 : decode cX8_text 95 = .ok (.ireturn, 1) := by decide +kernel
theorem dX8_text_96 : decode cX8_text 96 = .ok (.sipush 137, 3) := by decide +kernel
theorem dX8_text_99 : decode cX8_text 99 = .ok (.bipush 121, 2) := by decide +kernel
theorem dX8_text_101 : decode cX8_text 101 = .ok (.iload_n 1, 1) := by decide +kernel
theorem dX8_text_102 : decode cX8_text 102 = .ok (.imul, 1) := by decide +kernel
theorem dX8_text_103 : decode cX8_text 103 = .ok (.iadd, 1) := by decide +kernel
theorem dX8_text_104 : decode cX8_text 104 = .ok (.istore_n 2, 1) := by decide +kernel
theorem dX8_text_105 : decode cX8_text 105 = .ok (.aload_n 0, 1) := by decide +kernel
theorem dX8_text_106 : decode cX8_text 106 = .ok (.getfield 9, 3) := by decide +kernel
theorem dX8_text_109 : decode cX8_text 109 = .ok (.iload_n 2, 1) := by decide +kernel
theorem dX8_text_110 : decode cX8_text 110 = .ok (.aload_n 0, 1) := by decide +kernel
theorem dX8_text_111 : decode cX8_text 111 = .ok (.getfield 109, 3) := by decide +kernel
theorem dX8_text_114 : decode cX8_text 114 = .ok (.iastore, 1) := by decide +kernel
theorem dX8_text_115 : decode cX8_text 115 = .ok (.iconst 0, 1) := by decide +kernel
theorem dX8_text_116 : decode cX8_text 116 = .ok (.istore_n 3, 1) := by decide +kernel
theorem dX8_text_117 : decode cX8_text 117 = .ok (.iload_n 3, 1) := by decide +kernel
theorem dX8_text_118 : decode cX8_text 118 = .ok (.aload_n 0, 1) := by decide +kernel
theorem dX8_text_119 : decode cX8_text 119 = .ok (.getfield 109, 3) := by decide +kernel
theorem dX8_text_122 : decode cX8_text 122 = .ok (.if_icmp .ge 42, 3) := by decide +kernel
theorem dX8_text_125 : decode cX8_text 125 = .ok (.aload_n 0, 1) := by decide +kernel
theorem dX8_text_126 : decode cX8_text 126 = .ok (.getfield 9, 3) := by decide +kernel
theorem dX8_text_129 : decode cX8_text 129 = .ok (.iload_n 2, 1) := by decide +kernel
theorem dX8_text_130 : decode cX8_text 130 = .ok (.iconst 1, 1) := by decide +kernel
theorem dX8_text_131 : decode cX8_text 131 = .ok (.iadd, 1) := by decide +kernel
theorem dX8_text_132 : decode cX8_text 132 = .ok (.iload_n 3, 1) := by decide +kernel
theorem dX8_text_133 : decode cX8_text 133 = .ok (.iadd, 1) := by decide +kernel
theorem dX8_text_134 : decode cX8_text 134 = .ok (.aload_n 0, 1) := by decide +kernel
theorem dX8_text_135 : decode cX8_text 135 = .ok (.getfield 31, 3) := by decide +kernel
theorem dX8_text_138 : decode cX8_text 138 = .ok (.iload_n 3, 1) := by decide +kernel
theorem dX8_text_139 : decode cX8_text 139 = .ok (.iaload, 1) := by decide +kernel
theorem dX8_text_140 : decode cX8_text 140 = .ok (.iastore, 1) := by decide +kernel
theorem dX8_text_141 : decode cX8_text 141 = .ok (.aload_n 0, 1) := by decide +kernel
theorem dX8_text_142 : decode cX8_text 142 = .ok (.getfield 9, 3) := by decide +kernel
theorem dX8_text_145 : decode cX8_text 145 = .ok (.iload_n 2, 1) := by decide +kernel
theorem dX8_text_146 : decode cX8_text 146 = .ok (.bipush 61, 2) := by decide +kernel
theorem dX8_text_148 : decode cX8_text 148 = .ok (.iadd, 1) := by decide +kernel
theorem dX8_text_149 : decode cX8_text 149 = .ok (.iload_n 3, 1) := by decide +kernel
theorem dX8_text_150 : decode cX8_text 150 = .ok (.iadd, 1) := by decide +kernel
theorem dX8_text_151 : decode cX8_text 151 = .ok (.aload_n 0, 1) := by decide +kernel
theorem dX8_text_152 : decode cX8_text 152 = .ok (.getfield 34, 3) := by decide +kernel
theorem dX8_text_155 : decode cX8_text 155 = .ok (.iload_n 3, 1) := by decide +kernel
theorem dX8_text_156 : decode cX8_text 156 = .ok (.iaload, 1) := by decide +kernel
theorem dX8_text_157 : decode cX8_text 157 = .ok (.iastore, 1) := by decide +kernel
theorem dX8_text_158 : decode cX8_text 158 = .ok (.iinc 3 1, 3) := by decide +kernel
theorem dX8_text_161 : decode cX8_text 161 = .ok (.goto (-44), 3) := by decide +kernel
theorem dX8_text_164 : decode cX8_text 164 = .ok (.iconst 1, 1) := by decide +kernel
theorem dX8_text_165 : decode cX8_text 165 = .ok (.ireturn, 1) := by decide +kernel
theorem dX8_untell_0 : decode cX8_untell 0 = .ok (.iload_n 1, 1) := by decide +kernel
theorem dX8_untell_1 : decode cX8_untell 1 = .ok (.iconst 0, 1) := by decide +kernel
theorem dX8_untell_2 : decode cX8_untell 2 = .ok (.iconst 1, 1) := by decide +kernel
theorem dX8_untell_3 : decode cX8_untell 3 = .ok (.invokestatic 57, 3) := by decide +kernel
theorem dX8_untell_6 : decode cX8_untell 6 = .ok (.ifCond .ne 10, 3) := by decide +kernel
theorem dX8_untell_9 : decode cX8_untell 9 = .ok (.aload_n 0, 1) := by decide +kernel
theorem dX8_untell_10 : decode cX8_untell 10 = .ok (.ldc 77, 2) := by decide +kernel
theorem dX8_untell_12 : decode cX8_untell 12 = .ok (.invokevirtual 78, 3) := by decide +kernel
theorem dX8_untell_15 : decode cX8_untell 15 = .ok (.ireturn, 1) := by decide +kernel
theorem dX8_untell_16 : decode cX8_untell 16 = .ok (.aload_n 0, 1) := by decide +kernel
theorem dX8_untell_17 : decode cX8_untell 17 = .ok (.sipush 137, 3) := by decide +kernel
theorem dX8_untell_20 : decode cX8_untell 20 = .ok (.bipush 121, 2) := by decide +kernel
theorem dX8_untell_22 : decode cX8_untell 22 = .ok (.iload_n 1, 1) := by decide +kernel
theorem dX8_untell_23 : decode cX8_untell 23 = .ok (.imul, 1) := by decide +kernel
theorem dX8_untell_24 : decode cX8_untell 24 = .ok (.iadd, 1) := by decide +kernel
theorem dX8_untell_25 : decode cX8_untell 25 = .ok (.iconst 0, 1) := by decide +kernel
theorem dX8_untell_26 : decode cX8_untell 26 = .ok (.invokevirtual 95, 3) := by decide +kernel
theorem dX8_untell_29 : decode cX8_untell 29 = .ok (.ifCond .le 7, 3) := by decide +kernel
theorem dX8_untell_32 : decode cX8_untell 32 = .ok (.iconst 1, 1) := by decide +kernel
theorem dX8_untell_33 : decode cX8_untell 33 = .ok (.goto 4, 3) := by decide +kernel
theorem dX8_untell_36 : decode cX8_untell 36 = .ok (.iconst 0, 1) := by decide +kernel
theorem dX8_untell_37 : decode cX8_untell 37 = .ok (.ireturn, 1) := by decide +kernel
theorem dX8_twoOf_0 : decode cX8_twoOf 0 = .ok (.iload_n 0, 1) := by decide +kernel
theorem dX8_twoOf_1 : decode cX8_twoOf 1 = .ok (.tableswitch 202 37 62 #[143, 188, 202, 202, 202, 127, 119, 202, 123, 202, 131, 202, 202, 202, 202, 202, 202, 202, 202, 202, 202, 202, 202, 155, 166, 177], 119) := by decide +kernel
theorem dX8_twoOf_120 : decode cX8_twoOf 120 = .ok (.iload_n 1, 1) := by decide +kernel
theorem dX8_twoOf_121 : decode cX8_twoOf 121 = .ok (.iload_n 2, 1) := by decide +kernel
theorem dX8_twoOf_122 : decode cX8_twoOf 122 = .ok (.iadd, 1) := by decide +kernel
theorem dX8_twoOf_123 : decode cX8_twoOf 123 = .ok (.ireturn, 1) := by decide +kernel
theorem dX8_twoOf_124 : decode cX8_twoOf 124 = .ok (.iload_n 1, 1) := by decide +kernel
theorem dX8_twoOf_125 : decode cX8_twoOf 125 = .ok (.iload_n 2, 1) := by decide +kernel
theorem dX8_twoOf_126 : decode cX8_twoOf 126 = .ok (.isub, 1) := by decide +kernel
theorem dX8_twoOf_127 : decode cX8_twoOf 127 = .ok (.ireturn, 1) := by decide +kernel
theorem dX8_twoOf_128 : decode cX8_twoOf 128 = .ok (.iload_n 1, 1) := by decide +kernel
theorem dX8_twoOf_129 : decode cX8_twoOf 129 = .ok (.iload_n 2, 1) := by decide +kernel
theorem dX8_twoOf_130 : decode cX8_twoOf 130 = .ok (.imul, 1) := by decide +kernel
theorem dX8_twoOf_131 : decode cX8_twoOf 131 = .ok (.ireturn, 1) := by decide +kernel
theorem dX8_twoOf_132 : decode cX8_twoOf 132 = .ok (.iload_n 2, 1) := by decide +kernel
theorem dX8_twoOf_133 : decode cX8_twoOf 133 = .ok (.ifCond .ne 7, 3) := by decide +kernel
theorem dX8_twoOf_136 : decode cX8_twoOf 136 = .ok (.iconst 0, 1) := by decide +kernel
theorem dX8_twoOf_137 : decode cX8_twoOf 137 = .ok (.goto 6, 3) := by decide +kernel
theorem dX8_twoOf_140 : decode cX8_twoOf 140 = .ok (.iload_n 1, 1) := by decide +kernel
theorem dX8_twoOf_141 : decode cX8_twoOf 141 = .ok (.iload_n 2, 1) := by decide +kernel
theorem dX8_twoOf_142 : decode cX8_twoOf 142 = .ok (.idiv, 1) := by decide +kernel
theorem dX8_twoOf_143 : decode cX8_twoOf 143 = .ok (.ireturn, 1) := by decide +kernel
theorem dX8_twoOf_144 : decode cX8_twoOf 144 = .ok (.iload_n 2, 1) := by decide +kernel
theorem dX8_twoOf_145 : decode cX8_twoOf 145 = .ok (.ifCond .ne 7, 3) := by decide +kernel
theorem dX8_twoOf_148 : decode cX8_twoOf 148 = .ok (.iconst 0, 1) := by decide +kernel
theorem dX8_twoOf_149 : decode cX8_twoOf 149 = .ok (.goto 6, 3) := by decide +kernel
theorem dX8_twoOf_152 : decode cX8_twoOf 152 = .ok (.iload_n 1, 1) := by decide +kernel
theorem dX8_twoOf_153 : decode cX8_twoOf 153 = .ok (.iload_n 2, 1) := by decide +kernel
theorem dX8_twoOf_154 : decode cX8_twoOf 154 = .ok (.irem, 1) := by decide +kernel
theorem dX8_twoOf_155 : decode cX8_twoOf 155 = .ok (.ireturn, 1) := by decide +kernel
theorem dX8_twoOf_156 : decode cX8_twoOf 156 = .ok (.iload_n 1, 1) := by decide +kernel
theorem dX8_twoOf_157 : decode cX8_twoOf 157 = .ok (.iload_n 2, 1) := by decide +kernel
theorem dX8_twoOf_158 : decode cX8_twoOf 158 = .ok (.if_icmp .ge 7, 3) := by decide +kernel
theorem dX8_twoOf_161 : decode cX8_twoOf 161 = .ok (.iconst 1, 1) := by decide +kernel
theorem dX8_twoOf_162 : decode cX8_twoOf 162 = .ok (.goto 4, 3) := by decide +kernel
theorem dX8_twoOf_165 : decode cX8_twoOf 165 = .ok (.iconst 0, 1) := by decide +kernel
theorem dX8_twoOf_166 : decode cX8_twoOf 166 = .ok (.ireturn, 1) := by decide +kernel
theorem dX8_twoOf_167 : decode cX8_twoOf 167 = .ok (.iload_n 1, 1) := by decide +kernel
theorem dX8_twoOf_168 : decode cX8_twoOf 168 = .ok (.iload_n 2, 1) := by decide +kernel
theorem dX8_twoOf_169 : decode cX8_twoOf 169 = .ok (.if_icmp .ne 7, 3) := by decide +kernel
theorem dX8_twoOf_172 : decode cX8_twoOf 172 = .ok (.iconst 1, 1) := by decide +kernel
theorem dX8_twoOf_173 : decode cX8_twoOf 173 = .ok (.goto 4, 3) := by decide +kernel
theorem dX8_twoOf_176 : decode cX8_twoOf 176 = .ok (.iconst 0, 1) := by decide +kernel
theorem dX8_twoOf_177 : decode cX8_twoOf 177 = .ok (.ireturn, 1) := by decide +kernel
theorem dX8_twoOf_178 : decode cX8_twoOf 178 = .ok (.iload_n 1, 1) := by decide +kernel
theorem dX8_twoOf_179 : decode cX8_twoOf 179 = .ok (.iload_n 2, 1) := by decide +kernel
theorem dX8_twoOf_180 : decode cX8_twoOf 180 = .ok (.if_icmp .le 7, 3) := by decide +kernel
theorem dX8_twoOf_183 : decode cX8_twoOf 183 = .ok (.iconst 1, 1) := by decide +kernel
theorem dX8_twoOf_184 : decode cX8_twoOf 184 = .ok (.goto 4, 3) := by decide +kernel
theorem dX8_twoOf_187 : decode cX8_twoOf 187 = .ok (.iconst 0, 1) := by decide +kernel
theorem dX8_twoOf_188 : decode cX8_twoOf 188 = .ok (.ireturn, 1) := by decide +kernel
theorem dX8_twoOf_189 : decode cX8_twoOf 189 = .ok (.iload_n 1, 1) := by decide +kernel
theorem dX8_twoOf_190 : decode cX8_twoOf 190 = .ok (.ifCond .eq 11, 3) := by decide +kernel
theorem dX8_twoOf_193 : decode cX8_twoOf 193 = .ok (.iload_n 2, 1) := by decide +kernel
theorem dX8_twoOf_194 : decode cX8_twoOf 194 = .ok (.ifCond .eq 7, 3) := by decide +kernel
theorem dX8_twoOf_197 : decode cX8_twoOf 197 = .ok (.iconst 1, 1) := by decide +kernel
theorem dX8_twoOf_198 : decode cX8_twoOf 198 = .ok (.goto 4, 3) := by decide +kernel
theorem dX8_twoOf_201 : decode cX8_twoOf 201 = .ok (.iconst 0, 1) := by decide +kernel
theorem dX8_twoOf_202 : decode cX8_twoOf 202 = .ok (.ireturn, 1) := by decide +kernel
theorem dX8_twoOf_203 : decode cX8_twoOf 203 = .ok (.iload_n 1, 1) := by decide +kernel
theorem dX8_twoOf_204 : decode cX8_twoOf 204 = .ok (.ifCond .ne 7, 3) := by decide +kernel
theorem dX8_twoOf_207 : decode cX8_twoOf 207 = .ok (.iload_n 2, 1) := by decide +kernel
theorem dX8_twoOf_208 : decode cX8_twoOf 208 = .ok (.ifCond .eq 7, 3) := by decide +kernel
theorem dX8_twoOf_211 : decode cX8_twoOf 211 = .ok (.iconst 1, 1) := by decide +kernel
theorem dX8_twoOf_212 : decode cX8_twoOf 212 = .ok (.goto 4, 3) := by decide +kernel
theorem dX8_twoOf_215 : decode cX8_twoOf 215 = .ok (.iconst 0, 1) := by decide +kernel
theorem dX8_twoOf_216 : decode cX8_twoOf 216 = .ok (.ireturn, 1) := by decide +kernel
theorem dX8_works_0 : decode cX8_works 0 = .ok (.iconst 0, 1) := by decide +kernel
theorem dX8_works_1 : decode cX8_works 1 = .ok (.istore_n 2, 1) := by decide +kernel
theorem dX8_works_2 : decode cX8_works 2 = .ok (.iconst 0, 1) := by decide +kernel
theorem dX8_works_3 : decode cX8_works 3 = .ok (.istore_n 3, 1) := by decide +kernel
theorem dX8_works_4 : decode cX8_works 4 = .ok (.iload_n 3, 1) := by decide +kernel
theorem dX8_works_5 : decode cX8_works 5 = .ok (.aload_n 0, 1) := by decide +kernel
theorem dX8_works_6 : decode cX8_works 6 = .ok (.getfield 9, 3) := by decide +kernel
theorem dX8_works_9 : decode cX8_works 9 = .ok (.iload_n 1, 1) := by decide +kernel
theorem dX8_works_10 : decode cX8_works 10 = .ok (.iaload, 1) := by decide +kernel
theorem dX8_works_11 : decode cX8_works 11 = .ok (.if_icmp .ge 144, 3) := by decide +kernel
theorem dX8_works_14 : decode cX8_works 14 = .ok (.aload_n 0, 1) := by decide +kernel
theorem dX8_works_15 : decode cX8_works 15 = .ok (.getfield 9, 3) := by decide +kernel
theorem dX8_works_18 : decode cX8_works 18 = .ok (.iload_n 1, 1) := by decide +kernel
theorem dX8_works_19 : decode cX8_works 19 = .ok (.iconst 1, 1) := by decide +kernel
theorem dX8_works_20 : decode cX8_works 20 = .ok (.iadd, 1) := by decide +kernel
theorem dX8_works_21 : decode cX8_works 21 = .ok (.iload_n 3, 1) := by decide +kernel
theorem dX8_works_22 : decode cX8_works 22 = .ok (.iadd, 1) := by decide +kernel
theorem dX8_works_23 : decode cX8_works 23 = .ok (.iaload, 1) := by decide +kernel
theorem dX8_works_24 : decode cX8_works 24 = .ok (.istore 4, 2) := by decide +kernel
theorem dX8_works_26 : decode cX8_works 26 = .ok (.iload 4, 2) := by decide +kernel
theorem dX8_works_28 : decode cX8_works 28 = .ok (.iconst 1, 1) := by decide +kernel
theorem dX8_works_29 : decode cX8_works 29 = .ok (.if_icmp .eq 9, 3) := by decide +kernel
theorem dX8_works_32 : decode cX8_works 32 = .ok (.iload 4, 2) := by decide +kernel
theorem dX8_works_34 : decode cX8_works 34 = .ok (.iconst 2, 1) := by decide +kernel
theorem dX8_works_35 : decode cX8_works 35 = .ok (.if_icmp .ne 51, 3) := by decide +kernel
theorem dX8_works_38 : decode cX8_works 38 = .ok (.aload_n 0, 1) := by decide +kernel
theorem dX8_works_39 : decode cX8_works 39 = .ok (.getfield 40, 3) := by decide +kernel
theorem dX8_works_42 : decode cX8_works 42 = .ok (.iload_n 2, 1) := by decide +kernel
theorem dX8_works_43 : decode cX8_works 43 = .ok (.iload 4, 2) := by decide +kernel
theorem dX8_works_45 : decode cX8_works 45 = .ok (.iconst 1, 1) := by decide +kernel
theorem dX8_works_46 : decode cX8_works 46 = .ok (.if_icmp .ne 17, 3) := by decide +kernel
theorem dX8_works_49 : decode cX8_works 49 = .ok (.aload_n 0, 1) := by decide +kernel
theorem dX8_works_50 : decode cX8_works 50 = .ok (.getfield 9, 3) := by decide +kernel
theorem dX8_works_53 : decode cX8_works 53 = .ok (.iload_n 1, 1) := by decide +kernel
theorem dX8_works_54 : decode cX8_works 54 = .ok (.bipush 61, 2) := by decide +kernel
theorem dX8_works_56 : decode cX8_works 56 = .ok (.iadd, 1) := by decide +kernel
theorem dX8_works_57 : decode cX8_works 57 = .ok (.iload_n 3, 1) := by decide +kernel
theorem dX8_works_58 : decode cX8_works 58 = .ok (.iadd, 1) := by decide +kernel
theorem dX8_works_59 : decode cX8_works 59 = .ok (.iaload, 1) := by decide +kernel
theorem dX8_works_60 : decode cX8_works 60 = .ok (.goto 19, 3) := by decide +kernel
theorem dX8_works_63 : decode cX8_works 63 = .ok (.aload_n 0, 1) := by decide +kernel
theorem dX8_works_64 : decode cX8_works 64 = .ok (.getfield 37, 3) := by decide +kernel
theorem dX8_works_67 : decode cX8_works 67 = .ok (.aload_n 0, 1) := by decide +kernel
theorem dX8_works_68 : decode cX8_works 68 = .ok (.getfield 9, 3) := by decide +kernel
theorem dX8_works_71 : decode cX8_works 71 = .ok (.iload_n 1, 1) := by decide +kernel
theorem dX8_works_72 : decode cX8_works 72 = .ok (.bipush 61, 2) := by decide +kernel
theorem dX8_works_74 : decode cX8_works 74 = .ok (.iadd, 1) := by decide +kernel
theorem dX8_works_75 : decode cX8_works 75 = .ok (.iload_n 3, 1) := by decide +kernel
theorem dX8_works_76 : decode cX8_works 76 = .ok (.iadd, 1) := by decide +kernel
theorem dX8_works_77 : decode cX8_works 77 = .ok (.iaload, 1) := by decide +kernel
theorem dX8_works_78 : decode cX8_works 78 = .ok (.iaload, 1) := by decide +kernel
theorem dX8_works_79 : decode cX8_works 79 = .ok (.iastore, 1) := by decide +kernel
theorem dX8_works_80 : decode cX8_works 80 = .ok (.iinc 2 1, 3) := by decide +kernel
theorem dX8_works_83 : decode cX8_works 83 = .ok (.goto 66, 3) := by decide +kernel
theorem dX8_works_86 : decode cX8_works 86 = .ok (.iload 4, 2) := by decide +kernel
theorem dX8_works_88 : decode cX8_works 88 = .ok (.iconst 3, 1) := by decide +kernel
theorem dX8_works_89 : decode cX8_works 89 = .ok (.if_icmp .ne 30, 3) := by decide +kernel
theorem dX8_works_92 : decode cX8_works 92 = .ok (.aload_n 0, 1) := by decide +kernel
theorem dX8_works_93 : decode cX8_works 93 = .ok (.getfield 40, 3) := by decide +kernel
theorem dX8_works_96 : decode cX8_works 96 = .ok (.iload_n 2, 1) := by decide +kernel
theorem dX8_works_97 : decode cX8_works 97 = .ok (.iconst 1, 1) := by decide +kernel
theorem dX8_works_98 : decode cX8_works 98 = .ok (.isub, 1) := by decide +kernel
theorem dX8_works_99 : decode cX8_works 99 = .ok (.aload_n 0, 1) := by decide +kernel
theorem dX8_works_100 : decode cX8_works 100 = .ok (.getfield 40, 3) := by decide +kernel
theorem dX8_works_103 : decode cX8_works 103 = .ok (.iload_n 2, 1) := by decide +kernel
theorem dX8_works_104 : decode cX8_works 104 = .ok (.iconst 1, 1) := by decide +kernel
theorem dX8_works_105 : decode cX8_works 105 = .ok (.isub, 1) := by decide +kernel
theorem dX8_works_106 : decode cX8_works 106 = .ok (.iaload, 1) := by decide +kernel
theorem dX8_works_107 : decode cX8_works 107 = .ok (.ifCond .ne 7, 3) := by decide +kernel
theorem dX8_works_110 : decode cX8_works 110 = .ok (.iconst 1, 1) := by decide +kernel
theorem dX8_works_111 : decode cX8_works 111 = .ok (.goto 4, 3) := by decide +kernel
theorem dX8_works_114 : decode cX8_works 114 = .ok (.iconst 0, 1) := by decide +kernel
theorem dX8_works_115 : decode cX8_works 115 = .ok (.iastore, 1) := by decide +kernel
theorem dX8_works_116 : decode cX8_works 116 = .ok (.goto 33, 3) := by decide +kernel
theorem dX8_works_119 : decode cX8_works 119 = .ok (.iinc 2 (-1), 3) := by decide +kernel
theorem dX8_works_122 : decode cX8_works 122 = .ok (.aload_n 0, 1) := by decide +kernel
theorem dX8_works_123 : decode cX8_works 123 = .ok (.getfield 40, 3) := by decide +kernel
theorem dX8_works_126 : decode cX8_works 126 = .ok (.iload_n 2, 1) := by decide +kernel
theorem dX8_works_127 : decode cX8_works 127 = .ok (.iconst 1, 1) := by decide +kernel
theorem dX8_works_128 : decode cX8_works 128 = .ok (.isub, 1) := by decide +kernel
theorem dX8_works_129 : decode cX8_works 129 = .ok (.iload 4, 2) := by decide +kernel
theorem dX8_works_131 : decode cX8_works 131 = .ok (.aload_n 0, 1) := by decide +kernel
theorem dX8_works_132 : decode cX8_works 132 = .ok (.getfield 40, 3) := by decide +kernel
theorem dX8_works_135 : decode cX8_works 135 = .ok (.iload_n 2, 1) := by decide +kernel
theorem dX8_works_136 : decode cX8_works 136 = .ok (.iconst 1, 1) := by decide +kernel
theorem dX8_works_137 : decode cX8_works 137 = .ok (.isub, 1) := by decide +kernel
theorem dX8_works_138 : decode cX8_works 138 = .ok (.iaload, 1) := by decide +kernel
theorem dX8_works_139 : decode cX8_works 139 = .ok (.aload_n 0, 1) := by decide +kernel
theorem dX8_works_140 : decode cX8_works 140 = .ok (.getfield 40, 3) := by decide +kernel
theorem dX8_works_143 : decode cX8_works 143 = .ok (.iload_n 2, 1) := by decide +kernel
theorem dX8_works_144 : decode cX8_works 144 = .ok (.iaload, 1) := by decide +kernel
theorem dX8_works_145 : decode cX8_works 145 = .ok (.invokestatic 157, 3) := by decide +kernel
theorem dX8_works_148 : decode cX8_works 148 = .ok (.iastore, 1) := by decide +kernel
theorem dX8_works_149 : decode cX8_works 149 = .ok (.iinc 3 1, 3) := by decide +kernel
theorem dX8_works_152 : decode cX8_works 152 = .ok (.goto (-148), 3) := by decide +kernel
theorem dX8_works_155 : decode cX8_works 155 = .ok (.aload_n 0, 1) := by decide +kernel
theorem dX8_works_156 : decode cX8_works 156 = .ok (.getfield 40, 3) := by decide +kernel
theorem dX8_works_159 : decode cX8_works 159 = .ok (.iconst 0, 1) := by decide +kernel
theorem dX8_works_160 : decode cX8_works 160 = .ok (.iaload, 1) := by decide +kernel
theorem dX8_works_161 : decode cX8_works 161 = .ok (.ireturn, 1) := by decide +kernel
theorem dX8_gives_0 : decode cX8_gives 0 = .ok (.sipush 137, 3) := by decide +kernel
theorem dX8_gives_3 : decode cX8_gives 3 = .ok (.bipush 121, 2) := by decide +kernel
theorem dX8_gives_5 : decode cX8_gives 5 = .ok (.iload_n 1, 1) := by decide +kernel
theorem dX8_gives_6 : decode cX8_gives 6 = .ok (.imul, 1) := by decide +kernel
theorem dX8_gives_7 : decode cX8_gives 7 = .ok (.iadd, 1) := by decide +kernel
theorem dX8_gives_8 : decode cX8_gives 8 = .ok (.istore 5, 2) := by decide +kernel
theorem dX8_gives_10 : decode cX8_gives 10 = .ok (.aload_n 0, 1) := by decide +kernel
theorem dX8_gives_11 : decode cX8_gives 11 = .ok (.getfield 37, 3) := by decide +kernel
theorem dX8_gives_14 : decode cX8_gives 14 = .ok (.iconst 0, 1) := by decide +kernel
theorem dX8_gives_15 : decode cX8_gives 15 = .ok (.iload_n 2, 1) := by decide +kernel
theorem dX8_gives_16 : decode cX8_gives 16 = .ok (.iastore, 1) := by decide +kernel
theorem dX8_gives_17 : decode cX8_gives 17 = .ok (.aload_n 0, 1) := by decide +kernel
theorem dX8_gives_18 : decode cX8_gives 18 = .ok (.getfield 37, 3) := by decide +kernel
theorem dX8_gives_21 : decode cX8_gives 21 = .ok (.iconst 1, 1) := by decide +kernel
theorem dX8_gives_22 : decode cX8_gives 22 = .ok (.iload_n 3, 1) := by decide +kernel
theorem dX8_gives_23 : decode cX8_gives 23 = .ok (.iastore, 1) := by decide +kernel
theorem dX8_gives_24 : decode cX8_gives 24 = .ok (.aload_n 0, 1) := by decide +kernel
theorem dX8_gives_25 : decode cX8_gives 25 = .ok (.getfield 37, 3) := by decide +kernel
theorem dX8_gives_28 : decode cX8_gives 28 = .ok (.iconst 2, 1) := by decide +kernel
theorem dX8_gives_29 : decode cX8_gives 29 = .ok (.iload 4, 2) := by decide +kernel
theorem dX8_gives_31 : decode cX8_gives 31 = .ok (.iastore, 1) := by decide +kernel
theorem dX8_gives_32 : decode cX8_gives 32 = .ok (.aload_n 0, 1) := by decide +kernel
theorem dX8_gives_33 : decode cX8_gives 33 = .ok (.getfield 9, 3) := by decide +kernel
theorem dX8_gives_36 : decode cX8_gives 36 = .ok (.iload 5, 2) := by decide +kernel
theorem dX8_gives_38 : decode cX8_gives 38 = .ok (.iaload, 1) := by decide +kernel
theorem dX8_gives_39 : decode cX8_gives 39 = .ok (.ifCond .le 12, 3) := by decide +kernel
theorem dX8_gives_42 : decode cX8_gives 42 = .ok (.aload_n 0, 1) := by decide +kernel
theorem dX8_gives_43 : decode cX8_gives 43 = .ok (.iload 5, 2) := by decide +kernel
theorem dX8_gives_45 : decode cX8_gives 45 = .ok (.invokevirtual 161, 3) := by decide +kernel
theorem dX8_gives_48 : decode cX8_gives 48 = .ok (.goto 15, 3) := by decide +kernel
theorem dX8_gives_51 : decode cX8_gives 51 = .ok (.iload_n 1, 1) := by decide +kernel
theorem dX8_gives_52 : decode cX8_gives 52 = .ok (.ifCond .ne 9, 3) := by decide +kernel
theorem dX8_gives_55 : decode cX8_gives 55 = .ok (.iload_n 2, 1) := by decide +kernel
theorem dX8_gives_56 : decode cX8_gives 56 = .ok (.iload_n 3, 1) := by decide +kernel
theorem dX8_gives_57 : decode cX8_gives 57 = .ok (.iadd, 1) := by decide +kernel
theorem dX8_gives_58 : decode cX8_gives 58 = .ok (.goto 5, 3) := by decide +kernel
theorem dX8_gives_61 : decode cX8_gives 61 = .ok (.iload 4, 2) := by decide +kernel
theorem dX8_gives_63 : decode cX8_gives 63 = .ok (.istore 6, 2) := by decide +kernel
theorem dX8_gives_65 : decode cX8_gives 65 = .ok (.iload 6, 2) := by decide +kernel
theorem dX8_gives_67 : decode cX8_gives 67 = .ok (.iconst 0, 1) := by decide +kernel
theorem dX8_gives_68 : decode cX8_gives 68 = .ok (.bipush 99, 2) := by decide +kernel
theorem dX8_gives_70 : decode cX8_gives 70 = .ok (.invokestatic 164, 3) := by decide +kernel
theorem dX8_gives_73 : decode cX8_gives 73 = .ok (.ireturn, 1) := by decide +kernel
theorem dX8_law_0 : decode cX8_law 0 = .ok (.iload_n 1, 1) := by decide +kernel
theorem dX8_law_1 : decode cX8_law 1 = .ok (.iconst 0, 1) := by decide +kernel
theorem dX8_law_2 : decode cX8_law 2 = .ok (.iconst 1, 1) := by decide +kernel
theorem dX8_law_3 : decode cX8_law 3 = .ok (.invokestatic 57, 3) := by decide +kernel
theorem dX8_law_6 : decode cX8_law 6 = .ok (.ifCond .eq 15, 3) := by decide +kernel
theorem dX8_law_9 : decode cX8_law 9 = .ok (.aload_n 0, 1) := by decide +kernel
theorem dX8_law_10 : decode cX8_law 10 = .ok (.iload_n 1, 1) := by decide +kernel
theorem dX8_law_11 : decode cX8_law 11 = .ok (.iload_n 2, 1) := by decide +kernel
theorem dX8_law_12 : decode cX8_law 12 = .ok (.iload_n 3, 1) := by decide +kernel
theorem dX8_law_13 : decode cX8_law 13 = .ok (.iload 4, 2) := by decide +kernel
theorem dX8_law_15 : decode cX8_law 15 = .ok (.invokevirtual 167, 3) := by decide +kernel
theorem dX8_law_18 : decode cX8_law 18 = .ok (.goto 9, 3) := by decide +kernel
theorem dX8_law_21 : decode cX8_law 21 = .ok (.aload_n 0, 1) := by decide +kernel
theorem dX8_law_22 : decode cX8_law 22 = .ok (.ldc 77, 2) := by decide +kernel
theorem dX8_law_24 : decode cX8_law 24 = .ok (.invokevirtual 78, 3) := by decide +kernel
theorem dX8_law_27 : decode cX8_law 27 = .ok (.ireturn, 1) := by decide +kernel
theorem dX8_usedOf_0 : decode cX8_usedOf 0 = .ok (.aload_n 0, 1) := by decide +kernel
theorem dX8_usedOf_1 : decode cX8_usedOf 1 = .ok (.iconst 1, 1) := by decide +kernel
theorem dX8_usedOf_2 : decode cX8_usedOf 2 = .ok (.iload_n 1, 1) := by decide +kernel
theorem dX8_usedOf_3 : decode cX8_usedOf 3 = .ok (.aload_n 0, 1) := by decide +kernel
theorem dX8_usedOf_4 : decode cX8_usedOf 4 = .ok (.iload_n 1, 1) := by decide +kernel
theorem dX8_usedOf_5 : decode cX8_usedOf 5 = .ok (.iconst 0, 1) := by decide +kernel
theorem dX8_usedOf_6 : decode cX8_usedOf 6 = .ok (.invokevirtual 61, 3) := by decide +kernel
theorem dX8_usedOf_9 : decode cX8_usedOf 9 = .ok (.aload_n 0, 1) := by decide +kernel
theorem dX8_usedOf_10 : decode cX8_usedOf 10 = .ok (.iload_n 1, 1) := by decide +kernel
theorem dX8_usedOf_11 : decode cX8_usedOf 11 = .ok (.iconst 1, 1) := by decide +kernel
theorem dX8_usedOf_12 : decode cX8_usedOf 12 = .ok (.invokevirtual 61, 3) := by decide +kernel
theorem dX8_usedOf_15 : decode cX8_usedOf 15 = .ok (.invokevirtual 167, 3) := by decide +kernel
theorem dX8_usedOf_18 : decode cX8_usedOf 18 = .ok (.ireturn, 1) := by decide +kernel
theorem dX8_feelingTo_0 : decode cX8_feelingTo 0 = .ok (.iconst 0, 1) := by decide +kernel
theorem dX8_feelingTo_1 : decode cX8_feelingTo 1 = .ok (.istore_n 2, 1) := by decide +kernel
theorem dX8_feelingTo_2 : decode cX8_feelingTo 2 = .ok (.iconst 0, 1) := by decide +kernel
theorem dX8_feelingTo_3 : decode cX8_feelingTo 3 = .ok (.istore_n 3, 1) := by decide +kernel
theorem dX8_feelingTo_4 : decode cX8_feelingTo 4 = .ok (.iload_n 3, 1) := by decide +kernel
theorem dX8_feelingTo_5 : decode cX8_feelingTo 5 = .ok (.iload_n 1, 1) := by decide +kernel
theorem dX8_feelingTo_6 : decode cX8_feelingTo 6 = .ok (.if_icmp .gt 42, 3) := by decide +kernel
theorem dX8_feelingTo_9 : decode cX8_feelingTo 9 = .ok (.aload_n 0, 1) := by decide +kernel
theorem dX8_feelingTo_10 : decode cX8_feelingTo 10 = .ok (.getfield 9, 3) := by decide +kernel
theorem dX8_feelingTo_13 : decode cX8_feelingTo 13 = .ok (.bipush 8, 2) := by decide +kernel
theorem dX8_feelingTo_15 : decode cX8_feelingTo 15 = .ok (.iload_n 3, 1) := by decide +kernel
theorem dX8_feelingTo_16 : decode cX8_feelingTo 16 = .ok (.iadd, 1) := by decide +kernel
theorem dX8_feelingTo_17 : decode cX8_feelingTo 17 = .ok (.iaload, 1) := by decide +kernel
theorem dX8_feelingTo_18 : decode cX8_feelingTo 18 = .ok (.istore 4, 2) := by decide +kernel
theorem dX8_feelingTo_20 : decode cX8_feelingTo 20 = .ok (.iload_n 2, 1) := by decide +kernel
theorem dX8_feelingTo_21 : decode cX8_feelingTo 21 = .ok (.aload_n 0, 1) := by decide +kernel
theorem dX8_feelingTo_22 : decode cX8_feelingTo 22 = .ok (.iconst 0, 1) := by decide +kernel
theorem dX8_feelingTo_23 : decode cX8_feelingTo 23 = .ok (.aload_n 0, 1) := by decide +kernel
theorem dX8_feelingTo_24 : decode cX8_feelingTo 24 = .ok (.iload 4, 2) := by decide +kernel
theorem dX8_feelingTo_26 : decode cX8_feelingTo 26 = .ok (.invokevirtual 92, 3) := by decide +kernel
theorem dX8_feelingTo_29 : decode cX8_feelingTo 29 = .ok (.iload_n 3, 1) := by decide +kernel
theorem dX8_feelingTo_30 : decode cX8_feelingTo 30 = .ok (.aload_n 0, 1) := by decide +kernel
theorem dX8_feelingTo_31 : decode cX8_feelingTo 31 = .ok (.iload 4, 2) := by decide +kernel
theorem dX8_feelingTo_33 : decode cX8_feelingTo 33 = .ok (.iconst 0, 1) := by decide +kernel
theorem dX8_feelingTo_34 : decode cX8_feelingTo 34 = .ok (.invokevirtual 61, 3) := by decide +kernel
theorem dX8_feelingTo_37 : decode cX8_feelingTo 37 = .ok (.invokevirtual 167, 3) := by decide +kernel
theorem dX8_feelingTo_40 : decode cX8_feelingTo 40 = .ok (.iadd, 1) := by decide +kernel
theorem dX8_feelingTo_41 : decode cX8_feelingTo 41 = .ok (.istore_n 2, 1) := by decide +kernel
theorem dX8_feelingTo_42 : decode cX8_feelingTo 42 = .ok (.iinc 3 1, 3) := by decide +kernel
theorem dX8_feelingTo_45 : decode cX8_feelingTo 45 = .ok (.goto (-41), 3) := by decide +kernel
theorem dX8_feelingTo_48 : decode cX8_feelingTo 48 = .ok (.iload_n 2, 1) := by decide +kernel
theorem dX8_feelingTo_49 : decode cX8_feelingTo 49 = .ok (.ireturn, 1) := by decide +kernel
theorem dX8_timeOf_0 : decode cX8_timeOf 0 = .ok (.aload_n 0, 1) := by decide +kernel
theorem dX8_timeOf_1 : decode cX8_timeOf 1 = .ok (.iload_n 1, 1) := by decide +kernel
theorem dX8_timeOf_2 : decode cX8_timeOf 2 = .ok (.invokevirtual 89, 3) := by decide +kernel
theorem dX8_timeOf_5 : decode cX8_timeOf 5 = .ok (.istore_n 3, 1) := by decide +kernel
theorem dX8_timeOf_6 : decode cX8_timeOf 6 = .ok (.iload_n 3, 1) := by decide +kernel
theorem dX8_timeOf_7 : decode cX8_timeOf 7 = .ok (.iconst (-1), 1) := by decide +kernel
theorem dX8_timeOf_8 : decode cX8_timeOf 8 = .ok (.if_icmp .ne 5, 3) := by decide +kernel
theorem dX8_timeOf_11 : decode cX8_timeOf 11 = .ok (.iconst 4, 1) := by decide +kernel
theorem dX8_timeOf_12 : decode cX8_timeOf 12 = .ok (.ireturn, 1) := by decide +kernel
theorem dX8_timeOf_13 : decode cX8_timeOf 13 = .ok (.iload_n 2, 1) := by decide +kernel
theorem dX8_timeOf_14 : decode cX8_timeOf 14 = .ok (.ifCond .ne 11, 3) := by decide +kernel
theorem dX8_timeOf_17 : decode cX8_timeOf 17 = .ok (.aload_n 0, 1) := by decide +kernel
theorem dX8_timeOf_18 : decode cX8_timeOf 18 = .ok (.iload_n 3, 1) := by decide +kernel
theorem dX8_timeOf_19 : decode cX8_timeOf 19 = .ok (.invokevirtual 171, 3) := by decide +kernel
theorem dX8_timeOf_22 : decode cX8_timeOf 22 = .ok (.goto 27, 3) := by decide +kernel
theorem dX8_timeOf_25 : decode cX8_timeOf 25 = .ok (.iload_n 2, 1) := by decide +kernel
theorem dX8_timeOf_26 : decode cX8_timeOf 26 = .ok (.iconst 1, 1) := by decide +kernel
theorem dX8_timeOf_27 : decode cX8_timeOf 27 = .ok (.if_icmp .ne 11, 3) := by decide +kernel
theorem dX8_timeOf_30 : decode cX8_timeOf 30 = .ok (.iconst 3, 1) := by decide +kernel
theorem dX8_timeOf_31 : decode cX8_timeOf 31 = .ok (.iconst 2, 1) := by decide +kernel
theorem dX8_timeOf_32 : decode cX8_timeOf 32 = .ok (.iload_n 3, 1) := by decide +kernel
theorem dX8_timeOf_33 : decode cX8_timeOf 33 = .ok (.imul, 1) := by decide +kernel
theorem dX8_timeOf_34 : decode cX8_timeOf 34 = .ok (.iadd, 1) := by decide +kernel
theorem dX8_timeOf_35 : decode cX8_timeOf 35 = .ok (.goto 14, 3) := by decide +kernel
theorem dX8_timeOf_38 : decode cX8_timeOf 38 = .ok (.bipush 9, 2) := by decide +kernel
theorem dX8_timeOf_40 : decode cX8_timeOf 40 = .ok (.iconst 2, 1) := by decide +kernel
theorem dX8_timeOf_41 : decode cX8_timeOf 41 = .ok (.aload_n 0, 1) := by decide +kernel
theorem dX8_timeOf_42 : decode cX8_timeOf 42 = .ok (.getfield 9, 3) := by decide +kernel
theorem dX8_timeOf_45 : decode cX8_timeOf 45 = .ok (.iconst 3, 1) := by decide +kernel
theorem dX8_timeOf_46 : decode cX8_timeOf 46 = .ok (.iaload, 1) := by decide +kernel
theorem dX8_timeOf_47 : decode cX8_timeOf 47 = .ok (.imul, 1) := by decide +kernel
theorem dX8_timeOf_48 : decode cX8_timeOf 48 = .ok (.iadd, 1) := by decide +kernel
theorem dX8_timeOf_49 : decode cX8_timeOf 49 = .ok (.ireturn, 1) := by decide +kernel
theorem dX8_bestWay_0 : decode cX8_bestWay 0 = .ok (.iconst 0, 1) := by decide +kernel
theorem dX8_bestWay_1 : decode cX8_bestWay 1 = .ok (.istore_n 2, 1) := by decide +kernel
theorem dX8_bestWay_2 : decode cX8_bestWay 2 = .ok (.iconst 1, 1) := by decide +kernel
theorem dX8_bestWay_3 : decode cX8_bestWay 3 = .ok (.istore_n 3, 1) := by decide +kernel
theorem dX8_bestWay_4 : decode cX8_bestWay 4 = .ok (.iload_n 3, 1) := by decide +kernel
theorem dX8_bestWay_5 : decode cX8_bestWay 5 = .ok (.iconst 3, 1) := by decide +kernel
theorem dX8_bestWay_6 : decode cX8_bestWay 6 = .ok (.if_icmp .ge 30, 3) := by decide +kernel
theorem dX8_bestWay_9 : decode cX8_bestWay 9 = .ok (.aload_n 0, 1) := by decide +kernel
theorem dX8_bestWay_10 : decode cX8_bestWay 10 = .ok (.iload_n 1, 1) := by decide +kernel
theorem dX8_bestWay_11 : decode cX8_bestWay 11 = .ok (.iload_n 3, 1) := by decide +kernel
theorem dX8_bestWay_12 : decode cX8_bestWay 12 = .ok (.invokevirtual 174, 3) := by decide +kernel
theorem dX8_bestWay_15 : decode cX8_bestWay 15 = .ok (.aload_n 0, 1) := by decide +kernel
theorem dX8_bestWay_16 : decode cX8_bestWay 16 = .ok (.iload_n 1, 1) := by decide +kernel
theorem dX8_bestWay_17 : decode cX8_bestWay 17 = .ok (.iload_n 2, 1) := by decide +kernel
theorem dX8_bestWay_18 : decode cX8_bestWay 18 = .ok (.invokevirtual 174, 3) := by decide +kernel
theorem dX8_bestWay_21 : decode cX8_bestWay 21 = .ok (.if_icmp .ge 7, 3) := by decide +kernel
theorem dX8_bestWay_24 : decode cX8_bestWay 24 = .ok (.iload_n 3, 1) := by decide +kernel
theorem dX8_bestWay_25 : decode cX8_bestWay 25 = .ok (.goto 4, 3) := by decide +kernel
theorem dX8_bestWay_28 : decode cX8_bestWay 28 = .ok (.iload_n 2, 1) := by decide +kernel
theorem dX8_bestWay_29 : decode cX8_bestWay 29 = .ok (.istore_n 2, 1) := by decide +kernel
theorem dX8_bestWay_30 : decode cX8_bestWay 30 = .ok (.iinc 3 1, 3) := by decide +kernel
theorem dX8_bestWay_33 : decode cX8_bestWay 33 = .ok (.goto (-29), 3) := by decide +kernel
theorem dX8_bestWay_36 : decode cX8_bestWay 36 = .ok (.iload_n 2, 1) := by decide +kernel
theorem dX8_bestWay_37 : decode cX8_bestWay 37 = .ok (.ireturn, 1) := by decide +kernel
theorem dX8_seconds_0 : decode cX8_seconds 0 = .ok (.aload_n 0, 1) := by decide +kernel
theorem dX8_seconds_1 : decode cX8_seconds 1 = .ok (.iload_n 1, 1) := by decide +kernel
theorem dX8_seconds_2 : decode cX8_seconds 2 = .ok (.invokevirtual 86, 3) := by decide +kernel
theorem dX8_seconds_5 : decode cX8_seconds 5 = .ok (.ifCond .eq 12, 3) := by decide +kernel
theorem dX8_seconds_8 : decode cX8_seconds 8 = .ok (.iload_n 2, 1) := by decide +kernel
theorem dX8_seconds_9 : decode cX8_seconds 9 = .ok (.iconst 0, 1) := by decide +kernel
theorem dX8_seconds_10 : decode cX8_seconds 10 = .ok (.iconst 2, 1) := by decide +kernel
theorem dX8_seconds_11 : decode cX8_seconds 11 = .ok (.invokestatic 57, 3) := by decide +kernel
theorem dX8_seconds_14 : decode cX8_seconds 14 = .ok (.ifCond .ne 10, 3) := by decide +kernel
theorem dX8_seconds_17 : decode cX8_seconds 17 = .ok (.aload_n 0, 1) := by decide +kernel
theorem dX8_seconds_18 : decode cX8_seconds 18 = .ok (.ldc 77, 2) := by decide +kernel
theorem dX8_seconds_20 : decode cX8_seconds 20 = .ok (.invokevirtual 78, 3) := by decide +kernel
theorem dX8_seconds_23 : decode cX8_seconds 23 = .ok (.ireturn, 1) := by decide +kernel
theorem dX8_seconds_24 : decode cX8_seconds 24 = .ok (.aload_n 0, 1) := by decide +kernel
theorem dX8_seconds_25 : decode cX8_seconds 25 = .ok (.iload_n 1, 1) := by decide +kernel
theorem dX8_seconds_26 : decode cX8_seconds 26 = .ok (.invokevirtual 89, 3) := by decide +kernel
theorem dX8_seconds_29 : decode cX8_seconds 29 = .ok (.bipush (-2), 2) := by decide +kernel
theorem dX8_seconds_31 : decode cX8_seconds 31 = .ok (.if_icmp .ne 12, 3) := by decide +kernel
theorem dX8_seconds_34 : decode cX8_seconds 34 = .ok (.aload_n 0, 1) := by decide +kernel
theorem dX8_seconds_35 : decode cX8_seconds 35 = .ok (.ldc 99, 2) := by decide +kernel
theorem dX8_seconds_37 : decode cX8_seconds 37 = .ok (.invokevirtual 78, 3) := by decide +kernel
theorem dX8_seconds_40 : decode cX8_seconds 40 = .ok (.goto 9, 3) := by decide +kernel
theorem dX8_seconds_43 : decode cX8_seconds 43 = .ok (.aload_n 0, 1) := by decide +kernel
theorem dX8_seconds_44 : decode cX8_seconds 44 = .ok (.iload_n 1, 1) := by decide +kernel
theorem dX8_seconds_45 : decode cX8_seconds 45 = .ok (.iload_n 2, 1) := by decide +kernel
theorem dX8_seconds_46 : decode cX8_seconds 46 = .ok (.invokevirtual 174, 3) := by decide +kernel
theorem dX8_seconds_49 : decode cX8_seconds 49 = .ok (.ireturn, 1) := by decide +kernel
theorem dX8_best_0 : decode cX8_best 0 = .ok (.aload_n 0, 1) := by decide +kernel
theorem dX8_best_1 : decode cX8_best 1 = .ok (.iload_n 1, 1) := by decide +kernel
theorem dX8_best_2 : decode cX8_best 2 = .ok (.invokevirtual 86, 3) := by decide +kernel
theorem dX8_best_5 : decode cX8_best 5 = .ok (.ifCond .eq 12, 3) := by decide +kernel
theorem dX8_best_8 : decode cX8_best 8 = .ok (.iload_n 2, 1) := by decide +kernel
theorem dX8_best_9 : decode cX8_best 9 = .ok (.iconst 0, 1) := by decide +kernel
theorem dX8_best_10 : decode cX8_best 10 = .ok (.iconst 1, 1) := by decide +kernel
theorem dX8_best_11 : decode cX8_best 11 = .ok (.invokestatic 57, 3) := by decide +kernel
theorem dX8_best_14 : decode cX8_best 14 = .ok (.ifCond .ne 10, 3) := by decide +kernel
theorem dX8_best_17 : decode cX8_best 17 = .ok (.aload_n 0, 1) := by decide +kernel
theorem dX8_best_18 : decode cX8_best 18 = .ok (.ldc 77, 2) := by decide +kernel
theorem dX8_best_20 : decode cX8_best 20 = .ok (.invokevirtual 78, 3) := by decide +kernel
theorem dX8_best_23 : decode cX8_best 23 = .ok (.ireturn, 1) := by decide +kernel
theorem dX8_best_24 : decode cX8_best 24 = .ok (.aload_n 0, 1) := by decide +kernel
theorem dX8_best_25 : decode cX8_best 25 = .ok (.iload_n 1, 1) := by decide +kernel
theorem dX8_best_26 : decode cX8_best 26 = .ok (.invokevirtual 89, 3) := by decide +kernel
theorem dX8_best_29 : decode cX8_best 29 = .ok (.bipush (-2), 2) := by decide +kernel
theorem dX8_best_31 : decode cX8_best 31 = .ok (.if_icmp .ne 10, 3) := by decide +kernel
theorem dX8_best_34 : decode cX8_best 34 = .ok (.aload_n 0, 1) := by decide +kernel
theorem dX8_best_35 : decode cX8_best 35 = .ok (.ldc 99, 2) := by decide +kernel
theorem dX8_best_37 : decode cX8_best 37 = .ok (.invokevirtual 78, 3) := by decide +kernel
theorem dX8_best_40 : decode cX8_best 40 = .ok (.ireturn, 1) := by decide +kernel
theorem dX8_best_41 : decode cX8_best 41 = .ok (.aload_n 0, 1) := by decide +kernel
theorem dX8_best_42 : decode cX8_best 42 = .ok (.iload_n 1, 1) := by decide +kernel
theorem dX8_best_43 : decode cX8_best 43 = .ok (.invokevirtual 177, 3) := by decide +kernel
theorem dX8_best_46 : decode cX8_best 46 = .ok (.istore_n 3, 1) := by decide +kernel
theorem dX8_best_47 : decode cX8_best 47 = .ok (.iload_n 2, 1) := by decide +kernel
theorem dX8_best_48 : decode cX8_best 48 = .ok (.ifCond .ne 7, 3) := by decide +kernel
theorem dX8_best_51 : decode cX8_best 51 = .ok (.iload_n 3, 1) := by decide +kernel
theorem dX8_best_52 : decode cX8_best 52 = .ok (.goto 9, 3) := by decide +kernel
theorem dX8_best_55 : decode cX8_best 55 = .ok (.aload_n 0, 1) := by decide +kernel
theorem dX8_best_56 : decode cX8_best 56 = .ok (.iload_n 1, 1) := by decide +kernel
theorem dX8_best_57 : decode cX8_best 57 = .ok (.iload_n 3, 1) := by decide +kernel
theorem dX8_best_58 : decode cX8_best 58 = .ok (.invokevirtual 174, 3) := by decide +kernel
theorem dX8_best_61 : decode cX8_best 61 = .ok (.ireturn, 1) := by decide +kernel
theorem dX8_turnsOver_0 : decode cX8_turnsOver 0 = .ok (.aload_n 0, 1) := by decide +kernel
theorem dX8_turnsOver_1 : decode cX8_turnsOver 1 = .ok (.getfield 9, 3) := by decide +kernel
theorem dX8_turnsOver_4 : decode cX8_turnsOver 4 = .ok (.iconst 3, 1) := by decide +kernel
theorem dX8_turnsOver_5 : decode cX8_turnsOver 5 = .ok (.iaload, 1) := by decide +kernel
theorem dX8_turnsOver_6 : decode cX8_turnsOver 6 = .ok (.istore_n 1, 1) := by decide +kernel
theorem dX8_turnsOver_7 : decode cX8_turnsOver 7 = .ok (.iconst 0, 1) := by decide +kernel
theorem dX8_turnsOver_8 : decode cX8_turnsOver 8 = .ok (.istore_n 2, 1) := by decide +kernel
theorem dX8_turnsOver_9 : decode cX8_turnsOver 9 = .ok (.iload_n 2, 1) := by decide +kernel
theorem dX8_turnsOver_10 : decode cX8_turnsOver 10 = .ok (.iload_n 1, 1) := by decide +kernel
theorem dX8_turnsOver_11 : decode cX8_turnsOver 11 = .ok (.iconst 2, 1) := by decide +kernel
theorem dX8_turnsOver_12 : decode cX8_turnsOver 12 = .ok (.idiv, 1) := by decide +kernel
theorem dX8_turnsOver_13 : decode cX8_turnsOver 13 = .ok (.if_icmp .ge 55, 3) := by decide +kernel
theorem dX8_turnsOver_16 : decode cX8_turnsOver 16 = .ok (.aload_n 0, 1) := by decide +kernel
theorem dX8_turnsOver_17 : decode cX8_turnsOver 17 = .ok (.getfield 9, 3) := by decide +kernel
theorem dX8_turnsOver_20 : decode cX8_turnsOver 20 = .ok (.bipush 8, 2) := by decide +kernel
theorem dX8_turnsOver_22 : decode cX8_turnsOver 22 = .ok (.iload_n 2, 1) := by decide +kernel
theorem dX8_turnsOver_23 : decode cX8_turnsOver 23 = .ok (.iadd, 1) := by decide +kernel
theorem dX8_turnsOver_24 : decode cX8_turnsOver 24 = .ok (.iaload, 1) := by decide +kernel
theorem dX8_turnsOver_25 : decode cX8_turnsOver 25 = .ok (.istore_n 3, 1) := by decide +kernel
theorem dX8_turnsOver_26 : decode cX8_turnsOver 26 = .ok (.aload_n 0, 1) := by decide +kernel
theorem dX8_turnsOver_27 : decode cX8_turnsOver 27 = .ok (.getfield 9, 3) := by decide +kernel
theorem dX8_turnsOver_30 : decode cX8_turnsOver 30 = .ok (.bipush 8, 2) := by decide +kernel
theorem dX8_turnsOver_32 : decode cX8_turnsOver 32 = .ok (.iload_n 2, 1) := by decide +kernel
theorem dX8_turnsOver_33 : decode cX8_turnsOver 33 = .ok (.iadd, 1) := by decide +kernel
theorem dX8_turnsOver_34 : decode cX8_turnsOver 34 = .ok (.aload_n 0, 1) := by decide +kernel
theorem dX8_turnsOver_35 : decode cX8_turnsOver 35 = .ok (.getfield 9, 3) := by decide +kernel
theorem dX8_turnsOver_38 : decode cX8_turnsOver 38 = .ok (.bipush 8, 2) := by decide +kernel
theorem dX8_turnsOver_40 : decode cX8_turnsOver 40 = .ok (.iload_n 1, 1) := by decide +kernel
theorem dX8_turnsOver_41 : decode cX8_turnsOver 41 = .ok (.iadd, 1) := by decide +kernel
theorem dX8_turnsOver_42 : decode cX8_turnsOver 42 = .ok (.iconst 1, 1) := by decide +kernel
theorem dX8_turnsOver_43 : decode cX8_turnsOver 43 = .ok (.isub, 1) := by decide +kernel
theorem dX8_turnsOver_44 : decode cX8_turnsOver 44 = .ok (.iload_n 2, 1) := by decide +kernel
theorem dX8_turnsOver_45 : decode cX8_turnsOver 45 = .ok (.isub, 1) := by decide +kernel
theorem dX8_turnsOver_46 : decode cX8_turnsOver 46 = .ok (.iaload, 1) := by decide +kernel
theorem dX8_turnsOver_47 : decode cX8_turnsOver 47 = .ok (.iastore, 1) := by decide +kernel
theorem dX8_turnsOver_48 : decode cX8_turnsOver 48 = .ok (.aload_n 0, 1) := by decide +kernel
theorem dX8_turnsOver_49 : decode cX8_turnsOver 49 = .ok (.getfield 9, 3) := by decide +kernel
theorem dX8_turnsOver_52 : decode cX8_turnsOver 52 = .ok (.bipush 8, 2) := by decide +kernel
theorem dX8_turnsOver_54 : decode cX8_turnsOver 54 = .ok (.iload_n 1, 1) := by decide +kernel
theorem dX8_turnsOver_55 : decode cX8_turnsOver 55 = .ok (.iadd, 1) := by decide +kernel
theorem dX8_turnsOver_56 : decode cX8_turnsOver 56 = .ok (.iconst 1, 1) := by decide +kernel
theorem dX8_turnsOver_57 : decode cX8_turnsOver 57 = .ok (.isub, 1) := by decide +kernel
theorem dX8_turnsOver_58 : decode cX8_turnsOver 58 = .ok (.iload_n 2, 1) := by decide +kernel
theorem dX8_turnsOver_59 : decode cX8_turnsOver 59 = .ok (.isub, 1) := by decide +kernel
theorem dX8_turnsOver_60 : decode cX8_turnsOver 60 = .ok (.iload_n 3, 1) := by decide +kernel
theorem dX8_turnsOver_61 : decode cX8_turnsOver 61 = .ok (.iastore, 1) := by decide +kernel
theorem dX8_turnsOver_62 : decode cX8_turnsOver 62 = .ok (.iinc 2 1, 3) := by decide +kernel
theorem dX8_turnsOver_65 : decode cX8_turnsOver 65 = .ok (.goto (-56), 3) := by decide +kernel
theorem dX8_turnsOver_68 : decode cX8_turnsOver 68 = .ok (.return_, 1) := by decide +kernel
theorem dX8_taken_0 : decode cX8_taken 0 = .ok (.aload_n 0, 1) := by decide +kernel
theorem dX8_taken_1 : decode cX8_taken 1 = .ok (.iload_n 1, 1) := by decide +kernel
theorem dX8_taken_2 : decode cX8_taken 2 = .ok (.iload_n 2, 1) := by decide +kernel
theorem dX8_taken_3 : decode cX8_taken 3 = .ok (.invokevirtual 174, 3) := by decide +kernel
theorem dX8_taken_6 : decode cX8_taken 6 = .ok (.istore_n 3, 1) := by decide +kernel
theorem dX8_taken_7 : decode cX8_taken 7 = .ok (.aload_n 0, 1) := by decide +kernel
theorem dX8_taken_8 : decode cX8_taken 8 = .ok (.getfield 9, 3) := by decide +kernel
theorem dX8_taken_11 : decode cX8_taken 11 = .ok (.iconst 1, 1) := by decide +kernel
theorem dX8_taken_12 : decode cX8_taken 12 = .ok (.aload_n 0, 1) := by decide +kernel
theorem dX8_taken_13 : decode cX8_taken 13 = .ok (.getfield 9, 3) := by decide +kernel
theorem dX8_taken_16 : decode cX8_taken 16 = .ok (.iconst 1, 1) := by decide +kernel
theorem dX8_taken_17 : decode cX8_taken 17 = .ok (.iaload, 1) := by decide +kernel
theorem dX8_taken_18 : decode cX8_taken 18 = .ok (.iload_n 3, 1) := by decide +kernel
theorem dX8_taken_19 : decode cX8_taken 19 = .ok (.iadd, 1) := by decide +kernel
theorem dX8_taken_20 : decode cX8_taken 20 = .ok (.iconst 0, 1) := by decide +kernel
theorem dX8_taken_21 : decode cX8_taken 21 = .ok (.ldc 180, 2) := by decide +kernel
theorem dX8_taken_23 : decode cX8_taken 23 = .ok (.invokestatic 164, 3) := by decide +kernel
theorem dX8_taken_26 : decode cX8_taken 26 = .ok (.iastore, 1) := by decide +kernel
theorem dX8_taken_27 : decode cX8_taken 27 = .ok (.aload_n 0, 1) := by decide +kernel
theorem dX8_taken_28 : decode cX8_taken 28 = .ok (.iload_n 1, 1) := by decide +kernel
theorem dX8_taken_29 : decode cX8_taken 29 = .ok (.invokevirtual 89, 3) := by decide +kernel
theorem dX8_taken_32 : decode cX8_taken 32 = .ok (.ifCond .lt 26, 3) := by decide +kernel
theorem dX8_taken_35 : decode cX8_taken 35 = .ok (.iload_n 2, 1) := by decide +kernel
theorem dX8_taken_36 : decode cX8_taken 36 = .ok (.iconst 2, 1) := by decide +kernel
theorem dX8_taken_37 : decode cX8_taken 37 = .ok (.if_icmp .ne 7, 3) := by decide +kernel
theorem dX8_taken_40 : decode cX8_taken 40 = .ok (.aload_n 0, 1) := by decide +kernel
theorem dX8_taken_41 : decode cX8_taken 41 = .ok (.invokevirtual 181, 3) := by decide +kernel
theorem dX8_taken_44 : decode cX8_taken 44 = .ok (.aload_n 0, 1) := by decide +kernel
theorem dX8_taken_45 : decode cX8_taken 45 = .ok (.aload_n 0, 1) := by decide +kernel
theorem dX8_taken_46 : decode cX8_taken 46 = .ok (.iload_n 1, 1) := by decide +kernel
theorem dX8_taken_47 : decode cX8_taken 47 = .ok (.invokevirtual 89, 3) := by decide +kernel
theorem dX8_taken_50 : decode cX8_taken 50 = .ok (.invokevirtual 100, 3) := by decide +kernel
theorem dX8_taken_53 : decode cX8_taken 53 = .ok (.aload_n 0, 1) := by decide +kernel
theorem dX8_taken_54 : decode cX8_taken 54 = .ok (.iload_n 1, 1) := by decide +kernel
theorem dX8_taken_55 : decode cX8_taken 55 = .ok (.invokevirtual 82, 3) := by decide +kernel
theorem dX8_taken_58 : decode cX8_taken 58 = .ok (.iload_n 3, 1) := by decide +kernel
theorem dX8_taken_59 : decode cX8_taken 59 = .ok (.ireturn, 1) := by decide +kernel
theorem dX8_takes_0 : decode cX8_takes 0 = .ok (.aload_n 0, 1) := by decide +kernel
theorem dX8_takes_1 : decode cX8_takes 1 = .ok (.iload_n 1, 1) := by decide +kernel
theorem dX8_takes_2 : decode cX8_takes 2 = .ok (.invokevirtual 86, 3) := by decide +kernel
theorem dX8_takes_5 : decode cX8_takes 5 = .ok (.ifCond .eq 12, 3) := by decide +kernel
theorem dX8_takes_8 : decode cX8_takes 8 = .ok (.iload_n 2, 1) := by decide +kernel
theorem dX8_takes_9 : decode cX8_takes 9 = .ok (.iconst 0, 1) := by decide +kernel
theorem dX8_takes_10 : decode cX8_takes 10 = .ok (.iconst 2, 1) := by decide +kernel
theorem dX8_takes_11 : decode cX8_takes 11 = .ok (.invokestatic 57, 3) := by decide +kernel
theorem dX8_takes_14 : decode cX8_takes 14 = .ok (.ifCond .ne 10, 3) := by decide +kernel
theorem dX8_takes_17 : decode cX8_takes 17 = .ok (.aload_n 0, 1) := by decide +kernel
theorem dX8_takes_18 : decode cX8_takes 18 = .ok (.ldc 77, 2) := by decide +kernel
theorem dX8_takes_20 : decode cX8_takes 20 = .ok (.invokevirtual 78, 3) := by decide +kernel
theorem dX8_takes_23 : decode cX8_takes 23 = .ok (.ireturn, 1) := by decide +kernel
theorem dX8_takes_24 : decode cX8_takes 24 = .ok (.aload_n 0, 1) := by decide +kernel
theorem dX8_takes_25 : decode cX8_takes 25 = .ok (.iload_n 1, 1) := by decide +kernel
theorem dX8_takes_26 : decode cX8_takes 26 = .ok (.invokevirtual 89, 3) := by decide +kernel
theorem dX8_takes_29 : decode cX8_takes 29 = .ok (.bipush (-2), 2) := by decide +kernel
theorem dX8_takes_31 : decode cX8_takes 31 = .ok (.if_icmp .ne 12, 3) := by decide +kernel
theorem dX8_takes_34 : decode cX8_takes 34 = .ok (.aload_n 0, 1) := by decide +kernel
theorem dX8_takes_35 : decode cX8_takes 35 = .ok (.ldc 99, 2) := by decide +kernel
theorem dX8_takes_37 : decode cX8_takes 37 = .ok (.invokevirtual 78, 3) := by decide +kernel
theorem dX8_takes_40 : decode cX8_takes 40 = .ok (.goto 9, 3) := by decide +kernel
theorem dX8_takes_43 : decode cX8_takes 43 = .ok (.aload_n 0, 1) := by decide +kernel
theorem dX8_takes_44 : decode cX8_takes 44 = .ok (.iload_n 1, 1) := by decide +kernel
theorem dX8_takes_45 : decode cX8_takes 45 = .ok (.iload_n 2, 1) := by decide +kernel
theorem dX8_takes_46 : decode cX8_takes 46 = .ok (.invokevirtual 184, 3) := by decide +kernel
theorem dX8_takes_49 : decode cX8_takes 49 = .ok (.ireturn, 1) := by decide +kernel
theorem dX8_walks_0 : decode cX8_walks 0 = .ok (.iload_n 1, 1) := by decide +kernel
theorem dX8_walks_1 : decode cX8_walks 1 = .ok (.iconst 1, 1) := by decide +kernel
theorem dX8_walks_2 : decode cX8_walks 2 = .ok (.bipush 100, 2) := by decide +kernel
theorem dX8_walks_4 : decode cX8_walks 4 = .ok (.invokestatic 57, 3) := by decide +kernel
theorem dX8_walks_7 : decode cX8_walks 7 = .ok (.ifCond .ne 10, 3) := by decide +kernel
theorem dX8_walks_10 : decode cX8_walks 10 = .ok (.aload_n 0, 1) := by decide +kernel
theorem dX8_walks_11 : decode cX8_walks 11 = .ok (.ldc 77, 2) := by decide +kernel
theorem dX8_walks_13 : decode cX8_walks 13 = .ok (.invokevirtual 78, 3) := by decide +kernel
theorem dX8_walks_16 : decode cX8_walks 16 = .ok (.ireturn, 1) := by decide +kernel
theorem dX8_walks_17 : decode cX8_walks 17 = .ok (.aload_n 0, 1) := by decide +kernel
theorem dX8_walks_18 : decode cX8_walks 18 = .ok (.getfield 9, 3) := by decide +kernel
theorem dX8_walks_21 : decode cX8_walks 21 = .ok (.iconst 0, 1) := by decide +kernel
theorem dX8_walks_22 : decode cX8_walks 22 = .ok (.iaload, 1) := by decide +kernel
theorem dX8_walks_23 : decode cX8_walks 23 = .ok (.iload_n 1, 1) := by decide +kernel
theorem dX8_walks_24 : decode cX8_walks 24 = .ok (.iadd, 1) := by decide +kernel
theorem dX8_walks_25 : decode cX8_walks 25 = .ok (.sipush 9999, 3) := by decide +kernel
theorem dX8_walks_28 : decode cX8_walks 28 = .ok (.if_icmp .le 10, 3) := by decide +kernel
theorem dX8_walks_31 : decode cX8_walks 31 = .ok (.aload_n 0, 1) := by decide +kernel
theorem dX8_walks_32 : decode cX8_walks 32 = .ok (.ldc 99, 2) := by decide +kernel
theorem dX8_walks_34 : decode cX8_walks 34 = .ok (.invokevirtual 78, 3) := by decide +kernel
theorem dX8_walks_37 : decode cX8_walks 37 = .ok (.ireturn, 1) := by decide +kernel
theorem dX8_walks_38 : decode cX8_walks 38 = .ok (.aload_n 0, 1) := by decide +kernel
theorem dX8_walks_39 : decode cX8_walks 39 = .ok (.iload_n 1, 1) := by decide +kernel
theorem dX8_walks_40 : decode cX8_walks 40 = .ok (.invokevirtual 187, 3) := by decide +kernel
theorem dX8_walks_43 : decode cX8_walks 43 = .ok (.aload_n 0, 1) := by decide +kernel
theorem dX8_walks_44 : decode cX8_walks 44 = .ok (.getfield 9, 3) := by decide +kernel
theorem dX8_walks_47 : decode cX8_walks 47 = .ok (.iconst 0, 1) := by decide +kernel
theorem dX8_walks_48 : decode cX8_walks 48 = .ok (.iaload, 1) := by decide +kernel
theorem dX8_walks_49 : decode cX8_walks 49 = .ok (.ireturn, 1) := by decide +kernel
theorem dX8_draw_0 : decode cX8_draw 0 = .ok (.aload_n 0, 1) := by decide +kernel
theorem dX8_draw_1 : decode cX8_draw 1 = .ok (.getfield 9, 3) := by decide +kernel
theorem dX8_draw_4 : decode cX8_draw 4 = .ok (.bipush 7, 2) := by decide +kernel
theorem dX8_draw_6 : decode cX8_draw 6 = .ok (.aload_n 0, 1) := by decide +kernel
theorem dX8_draw_7 : decode cX8_draw 7 = .ok (.getfield 9, 3) := by decide +kernel
theorem dX8_draw_10 : decode cX8_draw 10 = .ok (.bipush 7, 2) := by decide +kernel
theorem dX8_draw_12 : decode cX8_draw 12 = .ok (.iaload, 1) := by decide +kernel
theorem dX8_draw_13 : decode cX8_draw 13 = .ok (.ldc 190, 2) := by decide +kernel
theorem dX8_draw_15 : decode cX8_draw 15 = .ok (.imul, 1) := by decide +kernel
theorem dX8_draw_16 : decode cX8_draw 16 = .ok (.sipush 12345, 3) := by decide +kernel
theorem dX8_draw_19 : decode cX8_draw 19 = .ok (.iadd, 1) := by decide +kernel
theorem dX8_draw_20 : decode cX8_draw 20 = .ok (.iastore, 1) := by decide +kernel
theorem dX8_draw_21 : decode cX8_draw 21 = .ok (.aload_n 0, 1) := by decide +kernel
theorem dX8_draw_22 : decode cX8_draw 22 = .ok (.getfield 9, 3) := by decide +kernel
theorem dX8_draw_25 : decode cX8_draw 25 = .ok (.bipush 7, 2) := by decide +kernel
theorem dX8_draw_27 : decode cX8_draw 27 = .ok (.iaload, 1) := by decide +kernel
theorem dX8_draw_28 : decode cX8_draw 28 = .ok (.bipush 8, 2) := by decide +kernel
theorem dX8_draw_30 : decode cX8_draw 30 = .ok (.iushr, 1) := by decide +kernel
theorem dX8_draw_31 : decode cX8_draw 31 = .ok (.ireturn, 1) := by decide +kernel
theorem dX8_drawn_0 : decode cX8_drawn 0 = .ok (.aload_n 0, 1) := by decide +kernel
theorem dX8_drawn_1 : decode cX8_drawn 1 = .ok (.getfield 9, 3) := by decide +kernel
theorem dX8_drawn_4 : decode cX8_drawn 4 = .ok (.iconst 2, 1) := by decide +kernel
theorem dX8_drawn_5 : decode cX8_drawn 5 = .ok (.iaload, 1) := by decide +kernel
theorem dX8_drawn_6 : decode cX8_drawn 6 = .ok (.ifCond .le 17, 3) := by decide +kernel
theorem dX8_drawn_9 : decode cX8_drawn 9 = .ok (.aload_n 0, 1) := by decide +kernel
theorem dX8_drawn_10 : decode cX8_drawn 10 = .ok (.invokevirtual 191, 3) := by decide +kernel
theorem dX8_drawn_13 : decode cX8_drawn 13 = .ok (.aload_n 0, 1) := by decide +kernel
theorem dX8_drawn_14 : decode cX8_drawn 14 = .ok (.getfield 9, 3) := by decide +kernel
theorem dX8_drawn_17 : decode cX8_drawn 17 = .ok (.iconst 2, 1) := by decide +kernel
theorem dX8_drawn_18 : decode cX8_drawn 18 = .ok (.iaload, 1) := by decide +kernel
theorem dX8_drawn_19 : decode cX8_drawn 19 = .ok (.irem, 1) := by decide +kernel
theorem dX8_drawn_20 : decode cX8_drawn 20 = .ok (.goto 4, 3) := by decide +kernel
theorem dX8_drawn_23 : decode cX8_drawn 23 = .ok (.iconst (-1), 1) := by decide +kernel
theorem dX8_drawn_24 : decode cX8_drawn 24 = .ok (.istore_n 1, 1) := by decide +kernel
theorem dX8_drawn_25 : decode cX8_drawn 25 = .ok (.iload_n 1, 1) := by decide +kernel
theorem dX8_drawn_26 : decode cX8_drawn 26 = .ok (.ifCond .lt 24, 3) := by decide +kernel
theorem dX8_drawn_29 : decode cX8_drawn 29 = .ok (.aload_n 0, 1) := by decide +kernel
theorem dX8_drawn_30 : decode cX8_drawn 30 = .ok (.iload_n 1, 1) := by decide +kernel
theorem dX8_drawn_31 : decode cX8_drawn 31 = .ok (.invokevirtual 89, 3) := by decide +kernel
theorem dX8_drawn_34 : decode cX8_drawn 34 = .ok (.bipush (-2), 2) := by decide +kernel
theorem dX8_drawn_36 : decode cX8_drawn 36 = .ok (.if_icmp .eq 14, 3) := by decide +kernel
theorem dX8_drawn_39 : decode cX8_drawn 39 = .ok (.aload_n 0, 1) := by decide +kernel
theorem dX8_drawn_40 : decode cX8_drawn 40 = .ok (.iload_n 1, 1) := by decide +kernel
theorem dX8_drawn_41 : decode cX8_drawn 41 = .ok (.aload_n 0, 1) := by decide +kernel
theorem dX8_drawn_42 : decode cX8_drawn 42 = .ok (.iload_n 1, 1) := by decide +kernel
theorem dX8_drawn_43 : decode cX8_drawn 43 = .ok (.invokevirtual 177, 3) := by decide +kernel
theorem dX8_drawn_46 : decode cX8_drawn 46 = .ok (.invokevirtual 184, 3) := by decide +kernel
theorem dX8_drawn_49 : decode cX8_drawn 49 = .ok (.istore_n 2, 1) := by decide +kernel
theorem dX8_drawn_50 : decode cX8_drawn 50 = .ok (.aload_n 0, 1) := by decide +kernel
theorem dX8_drawn_51 : decode cX8_drawn 51 = .ok (.iconst 1, 1) := by decide +kernel
theorem dX8_drawn_52 : decode cX8_drawn 52 = .ok (.aload_n 0, 1) := by decide +kernel
theorem dX8_drawn_53 : decode cX8_drawn 53 = .ok (.invokevirtual 191, 3) := by decide +kernel
theorem dX8_drawn_56 : decode cX8_drawn 56 = .ok (.iconst 3, 1) := by decide +kernel
theorem dX8_drawn_57 : decode cX8_drawn 57 = .ok (.irem, 1) := by decide +kernel
theorem dX8_drawn_58 : decode cX8_drawn 58 = .ok (.iadd, 1) := by decide +kernel
theorem dX8_drawn_59 : decode cX8_drawn 59 = .ok (.invokevirtual 187, 3) := by decide +kernel
theorem dX8_drawn_62 : decode cX8_drawn 62 = .ok (.return_, 1) := by decide +kernel
theorem dX8_loose_0 : decode cX8_loose 0 = .ok (.iload_n 1, 1) := by decide +kernel
theorem dX8_loose_1 : decode cX8_loose 1 = .ok (.iconst 1, 1) := by decide +kernel
theorem dX8_loose_2 : decode cX8_loose 2 = .ok (.bipush 20, 2) := by decide +kernel
theorem dX8_loose_4 : decode cX8_loose 4 = .ok (.invokestatic 57, 3) := by decide +kernel
theorem dX8_loose_7 : decode cX8_loose 7 = .ok (.ifCond .ne 10, 3) := by decide +kernel
theorem dX8_loose_10 : decode cX8_loose 10 = .ok (.aload_n 0, 1) := by decide +kernel
theorem dX8_loose_11 : decode cX8_loose 11 = .ok (.ldc 77, 2) := by decide +kernel
theorem dX8_loose_13 : decode cX8_loose 13 = .ok (.invokevirtual 78, 3) := by decide +kernel
theorem dX8_loose_16 : decode cX8_loose 16 = .ok (.ireturn, 1) := by decide +kernel
theorem dX8_loose_17 : decode cX8_loose 17 = .ok (.aload_n 0, 1) := by decide +kernel
theorem dX8_loose_18 : decode cX8_loose 18 = .ok (.getfield 9, 3) := by decide +kernel
theorem dX8_loose_21 : decode cX8_loose 21 = .ok (.iconst 0, 1) := by decide +kernel
theorem dX8_loose_22 : decode cX8_loose 22 = .ok (.iaload, 1) := by decide +kernel
theorem dX8_loose_23 : decode cX8_loose 23 = .ok (.iconst 3, 1) := by decide +kernel
theorem dX8_loose_24 : decode cX8_loose 24 = .ok (.iload_n 1, 1) := by decide +kernel
theorem dX8_loose_25 : decode cX8_loose 25 = .ok (.imul, 1) := by decide +kernel
theorem dX8_loose_26 : decode cX8_loose 26 = .ok (.iadd, 1) := by decide +kernel
theorem dX8_loose_27 : decode cX8_loose 27 = .ok (.sipush 9999, 3) := by decide +kernel
theorem dX8_loose_30 : decode cX8_loose 30 = .ok (.if_icmp .le 10, 3) := by decide +kernel
theorem dX8_loose_33 : decode cX8_loose 33 = .ok (.aload_n 0, 1) := by decide +kernel
theorem dX8_loose_34 : decode cX8_loose 34 = .ok (.ldc 99, 2) := by decide +kernel
theorem dX8_loose_36 : decode cX8_loose 36 = .ok (.invokevirtual 78, 3) := by decide +kernel
theorem dX8_loose_39 : decode cX8_loose 39 = .ok (.ireturn, 1) := by decide +kernel
theorem dX8_loose_40 : decode cX8_loose 40 = .ok (.iconst 0, 1) := by decide +kernel
theorem dX8_loose_41 : decode cX8_loose 41 = .ok (.istore_n 2, 1) := by decide +kernel
theorem dX8_loose_42 : decode cX8_loose 42 = .ok (.iload_n 2, 1) := by decide +kernel
theorem dX8_loose_43 : decode cX8_loose 43 = .ok (.iload_n 1, 1) := by decide +kernel
theorem dX8_loose_44 : decode cX8_loose 44 = .ok (.if_icmp .ge 13, 3) := by decide +kernel
theorem dX8_loose_47 : decode cX8_loose 47 = .ok (.aload_n 0, 1) := by decide +kernel
theorem dX8_loose_48 : decode cX8_loose 48 = .ok (.invokevirtual 194, 3) := by decide +kernel
theorem dX8_loose_51 : decode cX8_loose 51 = .ok (.iinc 2 1, 3) := by decide +kernel
theorem dX8_loose_54 : decode cX8_loose 54 = .ok (.goto (-12), 3) := by decide +kernel
theorem dX8_loose_57 : decode cX8_loose 57 = .ok (.aload_n 0, 1) := by decide +kernel
theorem dX8_loose_58 : decode cX8_loose 58 = .ok (.getfield 9, 3) := by decide +kernel
theorem dX8_loose_61 : decode cX8_loose 61 = .ok (.iconst 1, 1) := by decide +kernel
theorem dX8_loose_62 : decode cX8_loose 62 = .ok (.iaload, 1) := by decide +kernel
theorem dX8_loose_63 : decode cX8_loose 63 = .ok (.ireturn, 1) := by decide +kernel
theorem dX8_seed_0 : decode cX8_seed 0 = .ok (.aload_n 0, 1) := by decide +kernel
theorem dX8_seed_1 : decode cX8_seed 1 = .ok (.bipush 7, 2) := by decide +kernel
theorem dX8_seed_3 : decode cX8_seed 3 = .ok (.iload_n 1, 1) := by decide +kernel
theorem dX8_seed_4 : decode cX8_seed 4 = .ok (.invokevirtual 95, 3) := by decide +kernel
theorem dX8_seed_7 : decode cX8_seed 7 = .ok (.ireturn, 1) := by decide +kernel
theorem dX8_then_0 : decode cX8_then 0 = .ok (.aload_n 0, 1) := by decide +kernel
theorem dX8_then_1 : decode cX8_then 1 = .ok (.iload_n 1, 1) := by decide +kernel
theorem dX8_then_2 : decode cX8_then 2 = .ok (.invokevirtual 86, 3) := by decide +kernel
theorem dX8_then_5 : decode cX8_then 5 = .ok (.ifCond .eq 13, 3) := by decide +kernel
theorem dX8_then_8 : decode cX8_then 8 = .ok (.iload_n 2, 1) := by decide +kernel
theorem dX8_then_9 : decode cX8_then 9 = .ok (.iconst 0, 1) := by decide +kernel
theorem dX8_then_10 : decode cX8_then 10 = .ok (.bipush 100, 2) := by decide +kernel
theorem dX8_then_12 : decode cX8_then 12 = .ok (.invokestatic 57, 3) := by decide +kernel
theorem dX8_then_15 : decode cX8_then 15 = .ok (.ifCond .ne 10, 3) := by decide +kernel
theorem dX8_then_18 : decode cX8_then 18 = .ok (.aload_n 0, 1) := by decide +kernel
theorem dX8_then_19 : decode cX8_then 19 = .ok (.ldc 77, 2) := by decide +kernel
theorem dX8_then_21 : decode cX8_then 21 = .ok (.invokevirtual 78, 3) := by decide +kernel
theorem dX8_then_24 : decode cX8_then 24 = .ok (.ireturn, 1) := by decide +kernel
theorem dX8_then_25 : decode cX8_then 25 = .ok (.aload_n 0, 1) := by decide +kernel
theorem dX8_then_26 : decode cX8_then 26 = .ok (.invokevirtual 197, 3) := by decide +kernel
theorem dX8_then_29 : decode cX8_then 29 = .ok (.aload_n 0, 1) := by decide +kernel
theorem dX8_then_30 : decode cX8_then 30 = .ok (.iload_n 2, 1) := by decide +kernel
theorem dX8_then_31 : decode cX8_then 31 = .ok (.invokevirtual 187, 3) := by decide +kernel
theorem dX8_then_34 : decode cX8_then 34 = .ok (.aload_n 0, 1) := by decide +kernel
theorem dX8_then_35 : decode cX8_then 35 = .ok (.iload_n 1, 1) := by decide +kernel
theorem dX8_then_36 : decode cX8_then 36 = .ok (.invokevirtual 89, 3) := by decide +kernel
theorem dX8_then_39 : decode cX8_then 39 = .ok (.istore_n 3, 1) := by decide +kernel
theorem dX8_then_40 : decode cX8_then 40 = .ok (.aload_n 0, 1) := by decide +kernel
theorem dX8_then_41 : decode cX8_then 41 = .ok (.invokevirtual 200, 3) := by decide +kernel
theorem dX8_then_44 : decode cX8_then 44 = .ok (.iload_n 3, 1) := by decide +kernel
theorem dX8_then_45 : decode cX8_then 45 = .ok (.ireturn, 1) := by decide +kernel
theorem dX8_settles_0 : decode cX8_settles 0 = .ok (.aload_n 0, 1) := by decide +kernel
theorem dX8_settles_1 : decode cX8_settles 1 = .ok (.invokevirtual 197, 3) := by decide +kernel
theorem dX8_settles_4 : decode cX8_settles 4 = .ok (.iconst 0, 1) := by decide +kernel
theorem dX8_settles_5 : decode cX8_settles 5 = .ok (.istore_n 1, 1) := by decide +kernel
theorem dX8_settles_6 : decode cX8_settles 6 = .ok (.iload_n 1, 1) := by decide +kernel
theorem dX8_settles_7 : decode cX8_settles 7 = .ok (.bipush 99, 2) := by decide +kernel
theorem dX8_settles_9 : decode cX8_settles 9 = .ok (.if_icmp .gt 16, 3) := by decide +kernel
theorem dX8_settles_12 : decode cX8_settles 12 = .ok (.aload_n 0, 1) := by decide +kernel
theorem dX8_settles_13 : decode cX8_settles 13 = .ok (.invokevirtual 69, 3) := by decide +kernel
theorem dX8_settles_16 : decode cX8_settles 16 = .ok (.ifCond .eq 9, 3) := by decide +kernel
theorem dX8_settles_19 : decode cX8_settles 19 = .ok (.iinc 1 1, 3) := by decide +kernel
theorem dX8_settles_22 : decode cX8_settles 22 = .ok (.goto (-16), 3) := by decide +kernel
theorem dX8_settles_25 : decode cX8_settles 25 = .ok (.aload_n 0, 1) := by decide +kernel
theorem dX8_settles_26 : decode cX8_settles 26 = .ok (.invokevirtual 200, 3) := by decide +kernel
theorem dX8_settles_29 : decode cX8_settles 29 = .ok (.iload_n 1, 1) := by decide +kernel
theorem dX8_settles_30 : decode cX8_settles 30 = .ok (.bipush 99, 2) := by decide +kernel
theorem dX8_settles_32 : decode cX8_settles 32 = .ok (.if_icmp .le 12, 3) := by decide +kernel
theorem dX8_settles_35 : decode cX8_settles 35 = .ok (.aload_n 0, 1) := by decide +kernel
theorem dX8_settles_36 : decode cX8_settles 36 = .ok (.ldc 203, 2) := by decide +kernel
theorem dX8_settles_38 : decode cX8_settles 38 = .ok (.invokevirtual 78, 3) := by decide +kernel
theorem dX8_settles_41 : decode cX8_settles 41 = .ok (.goto 4, 3) := by decide +kernel
theorem dX8_settles_44 : decode cX8_settles 44 = .ok (.iload_n 1, 1) := by decide +kernel
theorem dX8_settles_45 : decode cX8_settles 45 = .ok (.ireturn, 1) := by decide +kernel
theorem dX8_packing_0 : decode cX8_packing 0 = .ok (.aload_n 0, 1) := by decide +kernel
theorem dX8_packing_1 : decode cX8_packing 1 = .ok (.getfield 9, 3) := by decide +kernel
theorem dX8_packing_4 : decode cX8_packing 4 = .ok (.iconst 0, 1) := by decide +kernel
theorem dX8_packing_5 : decode cX8_packing 5 = .ok (.iaload, 1) := by decide +kernel
theorem dX8_packing_6 : decode cX8_packing 6 = .ok (.istore_n 2, 1) := by decide +kernel
theorem dX8_packing_7 : decode cX8_packing 7 = .ok (.iconst 0, 1) := by decide +kernel
theorem dX8_packing_8 : decode cX8_packing 8 = .ok (.istore_n 3, 1) := by decide +kernel
theorem dX8_packing_9 : decode cX8_packing 9 = .ok (.iload_n 3, 1) := by decide +kernel
theorem dX8_packing_10 : decode cX8_packing 10 = .ok (.aload_n 0, 1) := by decide +kernel
theorem dX8_packing_11 : decode cX8_packing 11 = .ok (.getfield 9, 3) := by decide +kernel
theorem dX8_packing_14 : decode cX8_packing 14 = .ok (.iconst 3, 1) := by decide +kernel
theorem dX8_packing_15 : decode cX8_packing 15 = .ok (.iaload, 1) := by decide +kernel
theorem dX8_packing_16 : decode cX8_packing 16 = .ok (.if_icmp .ge 24, 3) := by decide +kernel
theorem dX8_packing_19 : decode cX8_packing 19 = .ok (.aload_n 0, 1) := by decide +kernel
theorem dX8_packing_20 : decode cX8_packing 20 = .ok (.getfield 9, 3) := by decide +kernel
theorem dX8_packing_23 : decode cX8_packing 23 = .ok (.bipush 8, 2) := by decide +kernel
theorem dX8_packing_25 : decode cX8_packing 25 = .ok (.iload_n 3, 1) := by decide +kernel
theorem dX8_packing_26 : decode cX8_packing 26 = .ok (.iadd, 1) := by decide +kernel
theorem dX8_packing_27 : decode cX8_packing 27 = .ok (.aload_n 0, 1) := by decide +kernel
theorem dX8_packing_28 : decode cX8_packing 28 = .ok (.getfield 46, 3) := by decide +kernel
theorem dX8_packing_31 : decode cX8_packing 31 = .ok (.iload_n 3, 1) := by decide +kernel
theorem dX8_packing_32 : decode cX8_packing 32 = .ok (.iaload, 1) := by decide +kernel
theorem dX8_packing_33 : decode cX8_packing 33 = .ok (.iastore, 1) := by decide +kernel
theorem dX8_packing_34 : decode cX8_packing 34 = .ok (.iinc 3 1, 3) := by decide +kernel
theorem dX8_packing_37 : decode cX8_packing 37 = .ok (.goto (-28), 3) := by decide +kernel
theorem dX8_packing_40 : decode cX8_packing 40 = .ok (.aload_n 0, 1) := by decide +kernel
theorem dX8_packing_41 : decode cX8_packing 41 = .ok (.iload_n 1, 1) := by decide +kernel
theorem dX8_packing_42 : decode cX8_packing 42 = .ok (.invokevirtual 187, 3) := by decide +kernel
theorem dX8_packing_45 : decode cX8_packing 45 = .ok (.iconst 0, 1) := by decide +kernel
theorem dX8_packing_46 : decode cX8_packing 46 = .ok (.istore_n 3, 1) := by decide +kernel
theorem dX8_packing_47 : decode cX8_packing 47 = .ok (.iconst 0, 1) := by decide +kernel
theorem dX8_packing_48 : decode cX8_packing 48 = .ok (.istore 4, 2) := by decide +kernel
theorem dX8_packing_50 : decode cX8_packing 50 = .ok (.iload 4, 2) := by decide +kernel
theorem dX8_packing_52 : decode cX8_packing 52 = .ok (.aload_n 0, 1) := by decide +kernel
theorem dX8_packing_53 : decode cX8_packing 53 = .ok (.getfield 9, 3) := by decide +kernel
theorem dX8_packing_56 : decode cX8_packing 56 = .ok (.iconst 3, 1) := by decide +kernel
theorem dX8_packing_57 : decode cX8_packing 57 = .ok (.iaload, 1) := by decide +kernel
theorem dX8_packing_58 : decode cX8_packing 58 = .ok (.if_icmp .ge 33, 3) := by decide +kernel
theorem dX8_packing_61 : decode cX8_packing 61 = .ok (.iload_n 3, 1) := by decide +kernel
theorem dX8_packing_62 : decode cX8_packing 62 = .ok (.aload_n 0, 1) := by decide +kernel
theorem dX8_packing_63 : decode cX8_packing 63 = .ok (.aload_n 0, 1) := by decide +kernel
theorem dX8_packing_64 : decode cX8_packing 64 = .ok (.getfield 9, 3) := by decide +kernel
theorem dX8_packing_67 : decode cX8_packing 67 = .ok (.bipush 8, 2) := by decide +kernel
theorem dX8_packing_69 : decode cX8_packing 69 = .ok (.iload 4, 2) := by decide +kernel
theorem dX8_packing_71 : decode cX8_packing 71 = .ok (.iadd, 1) := by decide +kernel
theorem dX8_packing_72 : decode cX8_packing 72 = .ok (.iaload, 1) := by decide +kernel
theorem dX8_packing_73 : decode cX8_packing 73 = .ok (.invokevirtual 204, 3) := by decide +kernel
theorem dX8_packing_76 : decode cX8_packing 76 = .ok (.aload_n 0, 1) := by decide +kernel
theorem dX8_packing_77 : decode cX8_packing 77 = .ok (.iload 4, 2) := by decide +kernel
theorem dX8_packing_79 : decode cX8_packing 79 = .ok (.invokevirtual 171, 3) := by decide +kernel
theorem dX8_packing_82 : decode cX8_packing 82 = .ok (.imul, 1) := by decide +kernel
theorem dX8_packing_83 : decode cX8_packing 83 = .ok (.iadd, 1) := by decide +kernel
theorem dX8_packing_84 : decode cX8_packing 84 = .ok (.istore_n 3, 1) := by decide +kernel
theorem dX8_packing_85 : decode cX8_packing 85 = .ok (.iinc 4 1, 3) := by decide +kernel
theorem dX8_packing_88 : decode cX8_packing 88 = .ok (.goto (-38), 3) := by decide +kernel
theorem dX8_packing_91 : decode cX8_packing 91 = .ok (.aload_n 0, 1) := by decide +kernel
theorem dX8_packing_92 : decode cX8_packing 92 = .ok (.getfield 9, 3) := by decide +kernel
theorem dX8_packing_95 : decode cX8_packing 95 = .ok (.iconst 0, 1) := by decide +kernel
theorem dX8_packing_96 : decode cX8_packing 96 = .ok (.iload_n 2, 1) := by decide +kernel
theorem dX8_packing_97 : decode cX8_packing 97 = .ok (.iastore, 1) := by decide +kernel
theorem dX8_packing_98 : decode cX8_packing 98 = .ok (.iload_n 3, 1) := by decide +kernel
theorem dX8_packing_99 : decode cX8_packing 99 = .ok (.ireturn, 1) := by decide +kernel
theorem dX8_packs_0 : decode cX8_packs 0 = .ok (.iload_n 1, 1) := by decide +kernel
theorem dX8_packs_1 : decode cX8_packs 1 = .ok (.aload_n 0, 1) := by decide +kernel
theorem dX8_packs_2 : decode cX8_packs 2 = .ok (.getfield 9, 3) := by decide +kernel
theorem dX8_packs_5 : decode cX8_packs 5 = .ok (.iconst 3, 1) := by decide +kernel
theorem dX8_packs_6 : decode cX8_packs 6 = .ok (.iaload, 1) := by decide +kernel
theorem dX8_packs_7 : decode cX8_packs 7 = .ok (.if_icmp .ne 62, 3) := by decide +kernel
theorem dX8_packs_10 : decode cX8_packs 10 = .ok (.aload_n 0, 1) := by decide +kernel
theorem dX8_packs_11 : decode cX8_packs 11 = .ok (.iload_n 3, 1) := by decide +kernel
theorem dX8_packs_12 : decode cX8_packs 12 = .ok (.invokevirtual 207, 3) := by decide +kernel
theorem dX8_packs_15 : decode cX8_packs 15 = .ok (.istore 4, 2) := by decide +kernel
theorem dX8_packs_17 : decode cX8_packs 17 = .ok (.aload_n 0, 1) := by decide +kernel
theorem dX8_packs_18 : decode cX8_packs 18 = .ok (.getfield 210, 3) := by decide +kernel
theorem dX8_packs_21 : decode cX8_packs 21 = .ok (.ifCond .lt 12, 3) := by decide +kernel
theorem dX8_packs_24 : decode cX8_packs 24 = .ok (.iload 4, 2) := by decide +kernel
theorem dX8_packs_26 : decode cX8_packs 26 = .ok (.aload_n 0, 1) := by decide +kernel
theorem dX8_packs_27 : decode cX8_packs 27 = .ok (.getfield 210, 3) := by decide +kernel
theorem dX8_packs_30 : decode cX8_packs 30 = .ok (.if_icmp .ge 38, 3) := by decide +kernel
theorem dX8_packs_33 : decode cX8_packs 33 = .ok (.aload_n 0, 1) := by decide +kernel
theorem dX8_packs_34 : decode cX8_packs 34 = .ok (.iload 4, 2) := by decide +kernel
theorem dX8_packs_36 : decode cX8_packs 36 = .ok (.putfield 210, 3) := by decide +kernel
theorem dX8_packs_39 : decode cX8_packs 39 = .ok (.iconst 0, 1) := by decide +kernel
theorem dX8_packs_40 : decode cX8_packs 40 = .ok (.istore 5, 2) := by decide +kernel
theorem dX8_packs_42 : decode cX8_packs 42 = .ok (.iload 5, 2) := by decide +kernel
theorem dX8_packs_44 : decode cX8_packs 44 = .ok (.iload_n 1, 1) := by decide +kernel
theorem dX8_packs_45 : decode cX8_packs 45 = .ok (.if_icmp .ge 23, 3) := by decide +kernel
theorem dX8_packs_48 : decode cX8_packs 48 = .ok (.aload_n 0, 1) := by decide +kernel
theorem dX8_packs_49 : decode cX8_packs 49 = .ok (.getfield 43, 3) := by decide +kernel
theorem dX8_packs_52 : decode cX8_packs 52 = .ok (.iload 5, 2) := by decide +kernel
theorem dX8_packs_54 : decode cX8_packs 54 = .ok (.aload_n 0, 1) := by decide +kernel
theorem dX8_packs_55 : decode cX8_packs 55 = .ok (.getfield 46, 3) := by decide +kernel
theorem dX8_packs_58 : decode cX8_packs 58 = .ok (.iload 5, 2) := by decide +kernel
theorem dX8_packs_60 : decode cX8_packs 60 = .ok (.iaload, 1) := by decide +kernel
theorem dX8_packs_61 : decode cX8_packs 61 = .ok (.iastore, 1) := by decide +kernel
theorem dX8_packs_62 : decode cX8_packs 62 = .ok (.iinc 5 1, 3) := by decide +kernel
theorem dX8_packs_65 : decode cX8_packs 65 = .ok (.goto (-23), 3) := by decide +kernel
theorem dX8_packs_68 : decode cX8_packs 68 = .ok (.return_, 1) := by decide +kernel
theorem dX8_packs_69 : decode cX8_packs 69 = .ok (.iconst 0, 1) := by decide +kernel
theorem dX8_packs_70 : decode cX8_packs 70 = .ok (.istore 4, 2) := by decide +kernel
theorem dX8_packs_72 : decode cX8_packs 72 = .ok (.iload 4, 2) := by decide +kernel
theorem dX8_packs_74 : decode cX8_packs 74 = .ok (.aload_n 0, 1) := by decide +kernel
theorem dX8_packs_75 : decode cX8_packs 75 = .ok (.getfield 9, 3) := by decide +kernel
theorem dX8_packs_78 : decode cX8_packs 78 = .ok (.iconst 2, 1) := by decide +kernel
theorem dX8_packs_79 : decode cX8_packs 79 = .ok (.iaload, 1) := by decide +kernel
theorem dX8_packs_80 : decode cX8_packs 80 = .ok (.if_icmp .ge 43, 3) := by decide +kernel
theorem dX8_packs_83 : decode cX8_packs 83 = .ok (.iload_n 2, 1) := by decide +kernel
theorem dX8_packs_84 : decode cX8_packs 84 = .ok (.iload 4, 2) := by decide +kernel
theorem dX8_packs_86 : decode cX8_packs 86 = .ok (.ishr, 1) := by decide +kernel
theorem dX8_packs_87 : decode cX8_packs 87 = .ok (.iconst 1, 1) := by decide +kernel
theorem dX8_packs_88 : decode cX8_packs 88 = .ok (.iand, 1) := by decide +kernel
theorem dX8_packs_89 : decode cX8_packs 89 = .ok (.iconst 1, 1) := by decide +kernel
theorem dX8_packs_90 : decode cX8_packs 90 = .ok (.if_icmp .ne 27, 3) := by decide +kernel
theorem dX8_packs_93 : decode cX8_packs 93 = .ok (.aload_n 0, 1) := by decide +kernel
theorem dX8_packs_94 : decode cX8_packs 94 = .ok (.getfield 46, 3) := by decide +kernel
theorem dX8_packs_97 : decode cX8_packs 97 = .ok (.iload_n 1, 1) := by decide +kernel
theorem dX8_packs_98 : decode cX8_packs 98 = .ok (.iload 4, 2) := by decide +kernel
theorem dX8_packs_100 : decode cX8_packs 100 = .ok (.iastore, 1) := by decide +kernel
theorem dX8_packs_101 : decode cX8_packs 101 = .ok (.aload_n 0, 1) := by decide +kernel
theorem dX8_packs_102 : decode cX8_packs 102 = .ok (.iload_n 1, 1) := by decide +kernel
theorem dX8_packs_103 : decode cX8_packs 103 = .ok (.iconst 1, 1) := by decide +kernel
theorem dX8_packs_104 : decode cX8_packs 104 = .ok (.iadd, 1) := by decide +kernel
theorem dX8_packs_105 : decode cX8_packs 105 = .ok (.iload_n 2, 1) := by decide +kernel
theorem dX8_packs_106 : decode cX8_packs 106 = .ok (.iconst 1, 1) := by decide +kernel
theorem dX8_packs_107 : decode cX8_packs 107 = .ok (.iload 4, 2) := by decide +kernel
theorem dX8_packs_109 : decode cX8_packs 109 = .ok (.ishl, 1) := by decide +kernel
theorem dX8_packs_110 : decode cX8_packs 110 = .ok (.iconst (-1), 1) := by decide +kernel
theorem dX8_packs_111 : decode cX8_packs 111 = .ok (.ixor, 1) := by decide +kernel
theorem dX8_packs_112 : decode cX8_packs 112 = .ok (.iand, 1) := by decide +kernel
theorem dX8_packs_113 : decode cX8_packs 113 = .ok (.iload_n 3, 1) := by decide +kernel
theorem dX8_packs_114 : decode cX8_packs 114 = .ok (.invokevirtual 213, 3) := by decide +kernel
theorem dX8_packs_117 : decode cX8_packs 117 = .ok (.iinc 4 1, 3) := by decide +kernel
theorem dX8_packs_120 : decode cX8_packs 120 = .ok (.goto (-48), 3) := by decide +kernel
theorem dX8_packs_123 : decode cX8_packs 123 = .ok (.return_, 1) := by decide +kernel
theorem dX8_inside_0 : decode cX8_inside 0 = .ok (.iconst 0, 1) := by decide +kernel
theorem dX8_inside_1 : decode cX8_inside 1 = .ok (.istore_n 1, 1) := by decide +kernel
theorem dX8_inside_2 : decode cX8_inside 2 = .ok (.iconst 0, 1) := by decide +kernel
theorem dX8_inside_3 : decode cX8_inside 3 = .ok (.istore_n 2, 1) := by decide +kernel
theorem dX8_inside_4 : decode cX8_inside 4 = .ok (.iload_n 2, 1) := by decide +kernel
theorem dX8_inside_5 : decode cX8_inside 5 = .ok (.aload_n 0, 1) := by decide +kernel
theorem dX8_inside_6 : decode cX8_inside 6 = .ok (.getfield 9, 3) := by decide +kernel
theorem dX8_inside_9 : decode cX8_inside 9 = .ok (.iconst 3, 1) := by decide +kernel
theorem dX8_inside_10 : decode cX8_inside 10 = .ok (.iaload, 1) := by decide +kernel
theorem dX8_inside_11 : decode cX8_inside 11 = .ok (.if_icmp .ge 23, 3) := by decide +kernel
theorem dX8_inside_14 : decode cX8_inside 14 = .ok (.iload_n 1, 1) := by decide +kernel
theorem dX8_inside_15 : decode cX8_inside 15 = .ok (.iconst 1, 1) := by decide +kernel
theorem dX8_inside_16 : decode cX8_inside 16 = .ok (.aload_n 0, 1) := by decide +kernel
theorem dX8_inside_17 : decode cX8_inside 17 = .ok (.getfield 9, 3) := by decide +kernel
theorem dX8_inside_20 : decode cX8_inside 20 = .ok (.bipush 8, 2) := by decide +kernel
theorem dX8_inside_22 : decode cX8_inside 22 = .ok (.iload_n 2, 1) := by decide +kernel
theorem dX8_inside_23 : decode cX8_inside 23 = .ok (.iadd, 1) := by decide +kernel
theorem dX8_inside_24 : decode cX8_inside 24 = .ok (.iaload, 1) := by decide +kernel
theorem dX8_inside_25 : decode cX8_inside 25 = .ok (.ishl, 1) := by decide +kernel
theorem dX8_inside_26 : decode cX8_inside 26 = .ok (.ior, 1) := by decide +kernel
theorem dX8_inside_27 : decode cX8_inside 27 = .ok (.istore_n 1, 1) := by decide +kernel
theorem dX8_inside_28 : decode cX8_inside 28 = .ok (.iinc 2 1, 3) := by decide +kernel
theorem dX8_inside_31 : decode cX8_inside 31 = .ok (.goto (-27), 3) := by decide +kernel
theorem dX8_inside_34 : decode cX8_inside 34 = .ok (.iload_n 1, 1) := by decide +kernel
theorem dX8_inside_35 : decode cX8_inside 35 = .ok (.ireturn, 1) := by decide +kernel
theorem dX8_pack_0 : decode cX8_pack 0 = .ok (.iload_n 1, 1) := by decide +kernel
theorem dX8_pack_1 : decode cX8_pack 1 = .ok (.iconst 0, 1) := by decide +kernel
theorem dX8_pack_2 : decode cX8_pack 2 = .ok (.bipush 20, 2) := by decide +kernel
theorem dX8_pack_4 : decode cX8_pack 4 = .ok (.invokestatic 57, 3) := by decide +kernel
theorem dX8_pack_7 : decode cX8_pack 7 = .ok (.ifCond .eq 12, 3) := by decide +kernel
theorem dX8_pack_10 : decode cX8_pack 10 = .ok (.iload_n 2, 1) := by decide +kernel
theorem dX8_pack_11 : decode cX8_pack 11 = .ok (.iconst (-1), 1) := by decide +kernel
theorem dX8_pack_12 : decode cX8_pack 12 = .ok (.iconst 5, 1) := by decide +kernel
theorem dX8_pack_13 : decode cX8_pack 13 = .ok (.invokestatic 57, 3) := by decide +kernel
theorem dX8_pack_16 : decode cX8_pack 16 = .ok (.ifCond .ne 10, 3) := by decide +kernel
theorem dX8_pack_19 : decode cX8_pack 19 = .ok (.aload_n 0, 1) := by decide +kernel
theorem dX8_pack_20 : decode cX8_pack 20 = .ok (.ldc 77, 2) := by decide +kernel
theorem dX8_pack_22 : decode cX8_pack 22 = .ok (.invokevirtual 78, 3) := by decide +kernel
theorem dX8_pack_25 : decode cX8_pack 25 = .ok (.ireturn, 1) := by decide +kernel
theorem dX8_pack_26 : decode cX8_pack 26 = .ok (.aload_n 0, 1) := by decide +kernel
theorem dX8_pack_27 : decode cX8_pack 27 = .ok (.getfield 9, 3) := by decide +kernel
theorem dX8_pack_30 : decode cX8_pack 30 = .ok (.iconst 3, 1) := by decide +kernel
theorem dX8_pack_31 : decode cX8_pack 31 = .ok (.iaload, 1) := by decide +kernel
theorem dX8_pack_32 : decode cX8_pack 32 = .ok (.bipush 6, 2) := by decide +kernel
theorem dX8_pack_34 : decode cX8_pack 34 = .ok (.if_icmp .le 10, 3) := by decide +kernel
theorem dX8_pack_37 : decode cX8_pack 37 = .ok (.aload_n 0, 1) := by decide +kernel
theorem dX8_pack_38 : decode cX8_pack 38 = .ok (.ldc 99, 2) := by decide +kernel
theorem dX8_pack_40 : decode cX8_pack 40 = .ok (.invokevirtual 78, 3) := by decide +kernel
theorem dX8_pack_43 : decode cX8_pack 43 = .ok (.ireturn, 1) := by decide +kernel
theorem dX8_pack_44 : decode cX8_pack 44 = .ok (.iload_n 2, 1) := by decide +kernel
theorem dX8_pack_45 : decode cX8_pack 45 = .ok (.aload_n 0, 1) := by decide +kernel
theorem dX8_pack_46 : decode cX8_pack 46 = .ok (.getfield 9, 3) := by decide +kernel
theorem dX8_pack_49 : decode cX8_pack 49 = .ok (.iconst 3, 1) := by decide +kernel
theorem dX8_pack_50 : decode cX8_pack 50 = .ok (.iaload, 1) := by decide +kernel
theorem dX8_pack_51 : decode cX8_pack 51 = .ok (.if_icmp .lt 10, 3) := by decide +kernel
theorem dX8_pack_54 : decode cX8_pack 54 = .ok (.aload_n 0, 1) := by decide +kernel
theorem dX8_pack_55 : decode cX8_pack 55 = .ok (.ldc 203, 2) := by decide +kernel
theorem dX8_pack_57 : decode cX8_pack 57 = .ok (.invokevirtual 78, 3) := by decide +kernel
theorem dX8_pack_60 : decode cX8_pack 60 = .ok (.ireturn, 1) := by decide +kernel
theorem dX8_pack_61 : decode cX8_pack 61 = .ok (.aload_n 0, 1) := by decide +kernel
theorem dX8_pack_62 : decode cX8_pack 62 = .ok (.invokevirtual 197, 3) := by decide +kernel
theorem dX8_pack_65 : decode cX8_pack 65 = .ok (.aload_n 0, 1) := by decide +kernel
theorem dX8_pack_66 : decode cX8_pack 66 = .ok (.iconst (-1), 1) := by decide +kernel
theorem dX8_pack_67 : decode cX8_pack 67 = .ok (.putfield 210, 3) := by decide +kernel
theorem dX8_pack_70 : decode cX8_pack 70 = .ok (.aload_n 0, 1) := by decide +kernel
theorem dX8_pack_71 : decode cX8_pack 71 = .ok (.iconst 0, 1) := by decide +kernel
theorem dX8_pack_72 : decode cX8_pack 72 = .ok (.aload_n 0, 1) := by decide +kernel
theorem dX8_pack_73 : decode cX8_pack 73 = .ok (.invokevirtual 217, 3) := by decide +kernel
theorem dX8_pack_76 : decode cX8_pack 76 = .ok (.iload_n 1, 1) := by decide +kernel
theorem dX8_pack_77 : decode cX8_pack 77 = .ok (.invokevirtual 213, 3) := by decide +kernel
theorem dX8_pack_80 : decode cX8_pack 80 = .ok (.aload_n 0, 1) := by decide +kernel
theorem dX8_pack_81 : decode cX8_pack 81 = .ok (.invokevirtual 200, 3) := by decide +kernel
theorem dX8_pack_84 : decode cX8_pack 84 = .ok (.iload_n 2, 1) := by decide +kernel
theorem dX8_pack_85 : decode cX8_pack 85 = .ok (.ifCond .ge 10, 3) := by decide +kernel
theorem dX8_pack_88 : decode cX8_pack 88 = .ok (.aload_n 0, 1) := by decide +kernel
theorem dX8_pack_89 : decode cX8_pack 89 = .ok (.getfield 210, 3) := by decide +kernel
theorem dX8_pack_92 : decode cX8_pack 92 = .ok (.goto 9, 3) := by decide +kernel
theorem dX8_pack_95 : decode cX8_pack 95 = .ok (.aload_n 0, 1) := by decide +kernel
theorem dX8_pack_96 : decode cX8_pack 96 = .ok (.getfield 43, 3) := by decide +kernel
theorem dX8_pack_99 : decode cX8_pack 99 = .ok (.iload_n 2, 1) := by decide +kernel
theorem dX8_pack_100 : decode cX8_pack 100 = .ok (.iaload, 1) := by decide +kernel
theorem dX8_pack_101 : decode cX8_pack 101 = .ok (.ireturn, 1) := by decide +kernel
theorem dX8_out_0 : decode cX8_out 0 = .ok (.aload_n 0, 1) := by decide +kernel
theorem dX8_out_1 : decode cX8_out 1 = .ok (.iload_n 1, 1) := by decide +kernel
theorem dX8_out_2 : decode cX8_out 2 = .ok (.invokevirtual 86, 3) := by decide +kernel
theorem dX8_out_5 : decode cX8_out 5 = .ok (.ifCond .eq 23, 3) := by decide +kernel
theorem dX8_out_8 : decode cX8_out 8 = .ok (.iload_n 2, 1) := by decide +kernel
theorem dX8_out_9 : decode cX8_out 9 = .ok (.iconst 0, 1) := by decide +kernel
theorem dX8_out_10 : decode cX8_out 10 = .ok (.sipush 999, 3) := by decide +kernel
theorem dX8_out_13 : decode cX8_out 13 = .ok (.invokestatic 57, 3) := by decide +kernel
theorem dX8_out_16 : decode cX8_out 16 = .ok (.ifCond .eq 12, 3) := by decide +kernel
theorem dX8_out_19 : decode cX8_out 19 = .ok (.iload_n 3, 1) := by decide +kernel
theorem dX8_out_20 : decode cX8_out 20 = .ok (.iconst 0, 1) := by decide +kernel
theorem dX8_out_21 : decode cX8_out 21 = .ok (.iconst 1, 1) := by decide +kernel
theorem dX8_out_22 : decode cX8_out 22 = .ok (.invokestatic 57, 3) := by decide +kernel
theorem dX8_out_25 : decode cX8_out 25 = .ok (.ifCond .ne 10, 3) := by decide +kernel
theorem dX8_out_28 : decode cX8_out 28 = .ok (.aload_n 0, 1) := by decide +kernel
theorem dX8_out_29 : decode cX8_out 29 = .ok (.ldc 77, 2) := by decide +kernel
theorem dX8_out_31 : decode cX8_out 31 = .ok (.invokevirtual 78, 3) := by decide +kernel
theorem dX8_out_34 : decode cX8_out 34 = .ok (.ireturn, 1) := by decide +kernel
theorem dX8_out_35 : decode cX8_out 35 = .ok (.aload_n 0, 1) := by decide +kernel
theorem dX8_out_36 : decode cX8_out 36 = .ok (.iload_n 1, 1) := by decide +kernel
theorem dX8_out_37 : decode cX8_out 37 = .ok (.invokevirtual 89, 3) := by decide +kernel
theorem dX8_out_40 : decode cX8_out 40 = .ok (.ifCond .ge 10, 3) := by decide +kernel
theorem dX8_out_43 : decode cX8_out 43 = .ok (.aload_n 0, 1) := by decide +kernel
theorem dX8_out_44 : decode cX8_out 44 = .ok (.ldc 99, 2) := by decide +kernel
theorem dX8_out_46 : decode cX8_out 46 = .ok (.invokevirtual 78, 3) := by decide +kernel
theorem dX8_out_49 : decode cX8_out 49 = .ok (.ireturn, 1) := by decide +kernel
theorem dX8_out_50 : decode cX8_out 50 = .ok (.aload_n 0, 1) := by decide +kernel
theorem dX8_out_51 : decode cX8_out 51 = .ok (.invokevirtual 217, 3) := by decide +kernel
theorem dX8_out_54 : decode cX8_out 54 = .ok (.iconst 1, 1) := by decide +kernel
theorem dX8_out_55 : decode cX8_out 55 = .ok (.iload_n 1, 1) := by decide +kernel
theorem dX8_out_56 : decode cX8_out 56 = .ok (.ishl, 1) := by decide +kernel
theorem dX8_out_57 : decode cX8_out 57 = .ok (.iconst (-1), 1) := by decide +kernel
theorem dX8_out_58 : decode cX8_out 58 = .ok (.ixor, 1) := by decide +kernel
theorem dX8_out_59 : decode cX8_out 59 = .ok (.iand, 1) := by decide +kernel
theorem dX8_out_60 : decode cX8_out 60 = .ok (.istore 4, 2) := by decide +kernel
theorem dX8_out_62 : decode cX8_out 62 = .ok (.aload_n 0, 1) := by decide +kernel
theorem dX8_out_63 : decode cX8_out 63 = .ok (.invokevirtual 197, 3) := by decide +kernel
theorem dX8_out_66 : decode cX8_out 66 = .ok (.iconst (-1), 1) := by decide +kernel
theorem dX8_out_67 : decode cX8_out 67 = .ok (.istore 5, 2) := by decide +kernel
theorem dX8_out_69 : decode cX8_out 69 = .ok (.iconst 0, 1) := by decide +kernel
theorem dX8_out_70 : decode cX8_out 70 = .ok (.istore 6, 2) := by decide +kernel
theorem dX8_out_72 : decode cX8_out 72 = .ok (.iload 6, 2) := by decide +kernel
theorem dX8_out_74 : decode cX8_out 74 = .ok (.iload 4, 2) := by decide +kernel
theorem dX8_out_76 : decode cX8_out 76 = .ok (.if_icmp .gt 106, 3) := by decide +kernel
theorem dX8_out_79 : decode cX8_out 79 = .ok (.iload 6, 2) := by decide +kernel
theorem dX8_out_81 : decode cX8_out 81 = .ok (.iload 4, 2) := by decide +kernel
theorem dX8_out_83 : decode cX8_out 83 = .ok (.iconst (-1), 1) := by decide +kernel
theorem dX8_out_84 : decode cX8_out 84 = .ok (.ixor, 1) := by decide +kernel
theorem dX8_out_85 : decode cX8_out 85 = .ok (.iand, 1) := by decide +kernel
theorem dX8_out_86 : decode cX8_out 86 = .ok (.ifCond .ne 90, 3) := by decide +kernel
theorem dX8_out_89 : decode cX8_out 89 = .ok (.iload 5, 2) := by decide +kernel
theorem dX8_out_91 : decode cX8_out 91 = .ok (.ifCond .lt 16, 3) := by decide +kernel
theorem dX8_out_94 : decode cX8_out 94 = .ok (.iload 6, 2) := by decide +kernel
theorem dX8_out_96 : decode cX8_out 96 = .ok (.invokestatic 220, 3) := by decide +kernel
theorem dX8_out_99 : decode cX8_out 99 = .ok (.iload 5, 2) := by decide +kernel
theorem dX8_out_101 : decode cX8_out 101 = .ok (.invokestatic 220, 3) := by decide +kernel
theorem dX8_out_104 : decode cX8_out 104 = .ok (.if_icmp .ge 72, 3) := by decide +kernel
theorem dX8_out_107 : decode cX8_out 107 = .ok (.aload_n 0, 1) := by decide +kernel
theorem dX8_out_108 : decode cX8_out 108 = .ok (.getfield 9, 3) := by decide +kernel
theorem dX8_out_111 : decode cX8_out 111 = .ok (.iconst 3, 1) := by decide +kernel
theorem dX8_out_112 : decode cX8_out 112 = .ok (.iaload, 1) := by decide +kernel
theorem dX8_out_113 : decode cX8_out 113 = .ok (.iconst 1, 1) := by decide +kernel
theorem dX8_out_114 : decode cX8_out 114 = .ok (.isub, 1) := by decide +kernel
theorem dX8_out_115 : decode cX8_out 115 = .ok (.istore 7, 2) := by decide +kernel
theorem dX8_out_117 : decode cX8_out 117 = .ok (.iload 7, 2) := by decide +kernel
theorem dX8_out_119 : decode cX8_out 119 = .ok (.ifCond .lt 34, 3) := by decide +kernel
theorem dX8_out_122 : decode cX8_out 122 = .ok (.iload 6, 2) := by decide +kernel
theorem dX8_out_124 : decode cX8_out 124 = .ok (.aload_n 0, 1) := by decide +kernel
theorem dX8_out_125 : decode cX8_out 125 = .ok (.getfield 9, 3) := by decide +kernel
theorem dX8_out_128 : decode cX8_out 128 = .ok (.bipush 8, 2) := by decide +kernel
theorem dX8_out_130 : decode cX8_out 130 = .ok (.iload 7, 2) := by decide +kernel
theorem dX8_out_132 : decode cX8_out 132 = .ok (.iadd, 1) := by decide +kernel
theorem dX8_out_133 : decode cX8_out 133 = .ok (.iaload, 1) := by decide +kernel
theorem dX8_out_134 : decode cX8_out 134 = .ok (.ishr, 1) := by decide +kernel
theorem dX8_out_135 : decode cX8_out 135 = .ok (.iconst 1, 1) := by decide +kernel
theorem dX8_out_136 : decode cX8_out 136 = .ok (.iand, 1) := by decide +kernel
theorem dX8_out_137 : decode cX8_out 137 = .ok (.iconst 1, 1) := by decide +kernel
theorem dX8_out_138 : decode cX8_out 138 = .ok (.if_icmp .ne 9, 3) := by decide +kernel
theorem dX8_out_141 : decode cX8_out 141 = .ok (.aload_n 0, 1) := by decide +kernel
theorem dX8_out_142 : decode cX8_out 142 = .ok (.iload 7, 2) := by decide +kernel
theorem dX8_out_144 : decode cX8_out 144 = .ok (.invokevirtual 100, 3) := by decide +kernel
theorem dX8_out_147 : decode cX8_out 147 = .ok (.iinc 7 (-1), 3) := by decide +kernel
theorem dX8_out_150 : decode cX8_out 150 = .ok (.goto (-33), 3) := by decide +kernel
theorem dX8_out_153 : decode cX8_out 153 = .ok (.aload_n 0, 1) := by decide +kernel
theorem dX8_out_154 : decode cX8_out 154 = .ok (.iload_n 1, 1) := by decide +kernel
theorem dX8_out_155 : decode cX8_out 155 = .ok (.iconst 0, 1) := by decide +kernel
theorem dX8_out_156 : decode cX8_out 156 = .ok (.invokevirtual 174, 3) := by decide +kernel
theorem dX8_out_159 : decode cX8_out 159 = .ok (.iload_n 2, 1) := by decide +kernel
theorem dX8_out_160 : decode cX8_out 160 = .ok (.if_icmp .gt 8, 3) := by decide +kernel
theorem dX8_out_163 : decode cX8_out 163 = .ok (.iload 6, 2) := by decide +kernel
theorem dX8_out_165 : decode cX8_out 165 = .ok (.goto 5, 3) := by decide +kernel
theorem dX8_out_168 : decode cX8_out 168 = .ok (.iload 5, 2) := by decide +kernel
theorem dX8_out_170 : decode cX8_out 170 = .ok (.istore 5, 2) := by decide +kernel
theorem dX8_out_172 : decode cX8_out 172 = .ok (.aload_n 0, 1) := by decide +kernel
theorem dX8_out_173 : decode cX8_out 173 = .ok (.invokevirtual 200, 3) := by decide +kernel
theorem dX8_out_176 : decode cX8_out 176 = .ok (.iinc 6 1, 3) := by decide +kernel
theorem dX8_out_179 : decode cX8_out 179 = .ok (.goto (-107), 3) := by decide +kernel
theorem dX8_out_182 : decode cX8_out 182 = .ok (.iload 5, 2) := by decide +kernel
theorem dX8_out_184 : decode cX8_out 184 = .ok (.ifCond .ge 12, 3) := by decide +kernel
theorem dX8_out_187 : decode cX8_out 187 = .ok (.aload_n 0, 1) := by decide +kernel
theorem dX8_out_188 : decode cX8_out 188 = .ok (.ldc 203, 2) := by decide +kernel
theorem dX8_out_190 : decode cX8_out 190 = .ok (.invokevirtual 78, 3) := by decide +kernel
theorem dX8_out_193 : decode cX8_out 193 = .ok (.goto 17, 3) := by decide +kernel
theorem dX8_out_196 : decode cX8_out 196 = .ok (.iload_n 3, 1) := by decide +kernel
theorem dX8_out_197 : decode cX8_out 197 = .ok (.ifCond .ne 11, 3) := by decide +kernel
theorem dX8_out_200 : decode cX8_out 200 = .ok (.iload 5, 2) := by decide +kernel
theorem dX8_out_202 : decode cX8_out 202 = .ok (.invokestatic 220, 3) := by decide +kernel
theorem dX8_out_205 : decode cX8_out 205 = .ok (.goto 5, 3) := by decide +kernel
theorem dX8_out_208 : decode cX8_out 208 = .ok (.iload 5, 2) := by decide +kernel
theorem dX8_out_210 : decode cX8_out 210 = .ok (.ireturn, 1) := by decide +kernel
theorem dX8_odds_0 : decode cX8_odds 0 = .ok (.iload_n 1, 1) := by decide +kernel
theorem dX8_odds_1 : decode cX8_odds 1 = .ok (.iconst 0, 1) := by decide +kernel
theorem dX8_odds_2 : decode cX8_odds 2 = .ok (.sipush 999, 3) := by decide +kernel
theorem dX8_odds_5 : decode cX8_odds 5 = .ok (.invokestatic 57, 3) := by decide +kernel
theorem dX8_odds_8 : decode cX8_odds 8 = .ok (.ifCond .eq 12, 3) := by decide +kernel
theorem dX8_odds_11 : decode cX8_odds 11 = .ok (.iload_n 2, 1) := by decide +kernel
theorem dX8_odds_12 : decode cX8_odds 12 = .ok (.iconst 0, 1) := by decide +kernel
theorem dX8_odds_13 : decode cX8_odds 13 = .ok (.iconst 1, 1) := by decide +kernel
theorem dX8_odds_14 : decode cX8_odds 14 = .ok (.invokestatic 57, 3) := by decide +kernel
theorem dX8_odds_17 : decode cX8_odds 17 = .ok (.ifCond .ne 10, 3) := by decide +kernel
theorem dX8_odds_20 : decode cX8_odds 20 = .ok (.aload_n 0, 1) := by decide +kernel
theorem dX8_odds_21 : decode cX8_odds 21 = .ok (.ldc 77, 2) := by decide +kernel
theorem dX8_odds_23 : decode cX8_odds 23 = .ok (.invokevirtual 78, 3) := by decide +kernel
theorem dX8_odds_26 : decode cX8_odds 26 = .ok (.ireturn, 1) := by decide +kernel
theorem dX8_odds_27 : decode cX8_odds 27 = .ok (.iconst 0, 1) := by decide +kernel
theorem dX8_odds_28 : decode cX8_odds 28 = .ok (.istore_n 3, 1) := by decide +kernel
theorem dX8_odds_29 : decode cX8_odds 29 = .ok (.iconst 0, 1) := by decide +kernel
theorem dX8_odds_30 : decode cX8_odds 30 = .ok (.istore 4, 2) := by decide +kernel
theorem dX8_odds_32 : decode cX8_odds 32 = .ok (.iconst 0, 1) := by decide +kernel
theorem dX8_odds_33 : decode cX8_odds 33 = .ok (.istore 5, 2) := by decide +kernel
theorem dX8_odds_35 : decode cX8_odds 35 = .ok (.iload 5, 2) := by decide +kernel
theorem dX8_odds_37 : decode cX8_odds 37 = .ok (.aload_n 0, 1) := by decide +kernel
theorem dX8_odds_38 : decode cX8_odds 38 = .ok (.getfield 9, 3) := by decide +kernel
theorem dX8_odds_41 : decode cX8_odds 41 = .ok (.iconst 2, 1) := by decide +kernel
theorem dX8_odds_42 : decode cX8_odds 42 = .ok (.iaload, 1) := by decide +kernel
theorem dX8_odds_43 : decode cX8_odds 43 = .ok (.if_icmp .ge 60, 3) := by decide +kernel
theorem dX8_odds_46 : decode cX8_odds 46 = .ok (.aload_n 0, 1) := by decide +kernel
theorem dX8_odds_47 : decode cX8_odds 47 = .ok (.iload 5, 2) := by decide +kernel
theorem dX8_odds_49 : decode cX8_odds 49 = .ok (.invokevirtual 89, 3) := by decide +kernel
theorem dX8_odds_52 : decode cX8_odds 52 = .ok (.bipush (-2), 2) := by decide +kernel
theorem dX8_odds_54 : decode cX8_odds 54 = .ok (.if_icmp .eq 43, 3) := by decide +kernel
theorem dX8_odds_57 : decode cX8_odds 57 = .ok (.aload_n 0, 1) := by decide +kernel
theorem dX8_odds_58 : decode cX8_odds 58 = .ok (.iload 5, 2) := by decide +kernel
theorem dX8_odds_60 : decode cX8_odds 60 = .ok (.invokevirtual 204, 3) := by decide +kernel
theorem dX8_odds_63 : decode cX8_odds 63 = .ok (.istore 6, 2) := by decide +kernel
theorem dX8_odds_65 : decode cX8_odds 65 = .ok (.iload 4, 2) := by decide +kernel
theorem dX8_odds_67 : decode cX8_odds 67 = .ok (.iload 6, 2) := by decide +kernel
theorem dX8_odds_69 : decode cX8_odds 69 = .ok (.iadd, 1) := by decide +kernel
theorem dX8_odds_70 : decode cX8_odds 70 = .ok (.istore 4, 2) := by decide +kernel
theorem dX8_odds_72 : decode cX8_odds 72 = .ok (.iload_n 3, 1) := by decide +kernel
theorem dX8_odds_73 : decode cX8_odds 73 = .ok (.aload_n 0, 1) := by decide +kernel
theorem dX8_odds_74 : decode cX8_odds 74 = .ok (.iload 5, 2) := by decide +kernel
theorem dX8_odds_76 : decode cX8_odds 76 = .ok (.aload_n 0, 1) := by decide +kernel
theorem dX8_odds_77 : decode cX8_odds 77 = .ok (.iload 5, 2) := by decide +kernel
theorem dX8_odds_79 : decode cX8_odds 79 = .ok (.invokevirtual 177, 3) := by decide +kernel
theorem dX8_odds_82 : decode cX8_odds 82 = .ok (.invokevirtual 174, 3) := by decide +kernel
theorem dX8_odds_85 : decode cX8_odds 85 = .ok (.iload_n 1, 1) := by decide +kernel
theorem dX8_odds_86 : decode cX8_odds 86 = .ok (.if_icmp .gt 8, 3) := by decide +kernel
theorem dX8_odds_89 : decode cX8_odds 89 = .ok (.iload 6, 2) := by decide +kernel
theorem dX8_odds_91 : decode cX8_odds 91 = .ok (.goto 4, 3) := by decide +kernel
theorem dX8_odds_94 : decode cX8_odds 94 = .ok (.iconst 0, 1) := by decide +kernel
theorem dX8_odds_95 : decode cX8_odds 95 = .ok (.iadd, 1) := by decide +kernel
theorem dX8_odds_96 : decode cX8_odds 96 = .ok (.istore_n 3, 1) := by decide +kernel
theorem dX8_odds_97 : decode cX8_odds 97 = .ok (.iinc 5 1, 3) := by decide +kernel
theorem dX8_odds_100 : decode cX8_odds 100 = .ok (.goto (-65), 3) := by decide +kernel
theorem dX8_odds_103 : decode cX8_odds 103 = .ok (.iload 4, 2) := by decide +kernel
theorem dX8_odds_105 : decode cX8_odds 105 = .ok (.ifCond .ne 10, 3) := by decide +kernel
theorem dX8_odds_108 : decode cX8_odds 108 = .ok (.aload_n 0, 1) := by decide +kernel
theorem dX8_odds_109 : decode cX8_odds 109 = .ok (.ldc 99, 2) := by decide +kernel
theorem dX8_odds_111 : decode cX8_odds 111 = .ok (.invokevirtual 78, 3) := by decide +kernel
theorem dX8_odds_114 : decode cX8_odds 114 = .ok (.ireturn, 1) := by decide +kernel
theorem dX8_odds_115 : decode cX8_odds 115 = .ok (.iload_n 3, 1) := by decide +kernel
theorem dX8_odds_116 : decode cX8_odds 116 = .ok (.istore 5, 2) := by decide +kernel
theorem dX8_odds_118 : decode cX8_odds 118 = .ok (.iload 4, 2) := by decide +kernel
theorem dX8_odds_120 : decode cX8_odds 120 = .ok (.istore 6, 2) := by decide +kernel
theorem dX8_odds_122 : decode cX8_odds 122 = .ok (.iload 5, 2) := by decide +kernel
theorem dX8_odds_124 : decode cX8_odds 124 = .ok (.ifCond .eq 21, 3) := by decide +kernel
theorem dX8_odds_127 : decode cX8_odds 127 = .ok (.iload 6, 2) := by decide +kernel
theorem dX8_odds_129 : decode cX8_odds 129 = .ok (.iload 5, 2) := by decide +kernel
theorem dX8_odds_131 : decode cX8_odds 131 = .ok (.irem, 1) := by decide +kernel
theorem dX8_odds_132 : decode cX8_odds 132 = .ok (.istore 7, 2) := by decide +kernel
theorem dX8_odds_134 : decode cX8_odds 134 = .ok (.iload 5, 2) := by decide +kernel
theorem dX8_odds_136 : decode cX8_odds 136 = .ok (.istore 6, 2) := by decide +kernel
theorem dX8_odds_138 : decode cX8_odds 138 = .ok (.iload 7, 2) := by decide +kernel
theorem dX8_odds_140 : decode cX8_odds 140 = .ok (.istore 5, 2) := by decide +kernel
theorem dX8_odds_142 : decode cX8_odds 142 = .ok (.goto (-20), 3) := by decide +kernel
theorem dX8_odds_145 : decode cX8_odds 145 = .ok (.iload_n 2, 1) := by decide +kernel
theorem dX8_odds_146 : decode cX8_odds 146 = .ok (.ifCond .ne 10, 3) := by decide +kernel
theorem dX8_odds_149 : decode cX8_odds 149 = .ok (.iload_n 3, 1) := by decide +kernel
theorem dX8_odds_150 : decode cX8_odds 150 = .ok (.iload 6, 2) := by decide +kernel
theorem dX8_odds_152 : decode cX8_odds 152 = .ok (.idiv, 1) := by decide +kernel
theorem dX8_odds_153 : decode cX8_odds 153 = .ok (.goto 8, 3) := by decide +kernel
theorem dX8_odds_156 : decode cX8_odds 156 = .ok (.iload 4, 2) := by decide +kernel
theorem dX8_odds_158 : decode cX8_odds 158 = .ok (.iload 6, 2) := by decide +kernel
theorem dX8_odds_160 : decode cX8_odds 160 = .ok (.idiv, 1) := by decide +kernel
theorem dX8_odds_161 : decode cX8_odds 161 = .ok (.ireturn, 1) := by decide +kernel
theorem dX8_rightOf_0 : decode cX8_rightOf 0 = .ok (.iconst 0, 1) := by decide +kernel
theorem dX8_rightOf_1 : decode cX8_rightOf 1 = .ok (.istore_n 2, 1) := by decide +kernel
theorem dX8_rightOf_2 : decode cX8_rightOf 2 = .ok (.iload_n 2, 1) := by decide +kernel
theorem dX8_rightOf_3 : decode cX8_rightOf 3 = .ok (.aload_n 0, 1) := by decide +kernel
theorem dX8_rightOf_4 : decode cX8_rightOf 4 = .ok (.getfield 25, 3) := by decide +kernel
theorem dX8_rightOf_7 : decode cX8_rightOf 7 = .ok (.iload_n 1, 1) := by decide +kernel
theorem dX8_rightOf_8 : decode cX8_rightOf 8 = .ok (.iaload, 1) := by decide +kernel
theorem dX8_rightOf_9 : decode cX8_rightOf 9 = .ok (.if_icmp .ge 42, 3) := by decide +kernel
theorem dX8_rightOf_12 : decode cX8_rightOf 12 = .ok (.iload_n 2, 1) := by decide +kernel
theorem dX8_rightOf_13 : decode cX8_rightOf 13 = .ok (.aload_n 0, 1) := by decide +kernel
theorem dX8_rightOf_14 : decode cX8_rightOf 14 = .ok (.getfield 9, 3) := by decide +kernel
theorem dX8_rightOf_17 : decode cX8_rightOf 17 = .ok (.iconst 3, 1) := by decide +kernel
theorem dX8_rightOf_18 : decode cX8_rightOf 18 = .ok (.iaload, 1) := by decide +kernel
theorem dX8_rightOf_19 : decode cX8_rightOf 19 = .ok (.if_icmp .ge 32, 3) := by decide +kernel
theorem dX8_rightOf_22 : decode cX8_rightOf 22 = .ok (.aload_n 0, 1) := by decide +kernel
theorem dX8_rightOf_23 : decode cX8_rightOf 23 = .ok (.getfield 28, 3) := by decide +kernel
theorem dX8_rightOf_26 : decode cX8_rightOf 26 = .ok (.bipush 24, 2) := by decide +kernel
theorem dX8_rightOf_28 : decode cX8_rightOf 28 = .ok (.iload_n 1, 1) := by decide +kernel
theorem dX8_rightOf_29 : decode cX8_rightOf 29 = .ok (.imul, 1) := by decide +kernel
theorem dX8_rightOf_30 : decode cX8_rightOf 30 = .ok (.iload_n 2, 1) := by decide +kernel
theorem dX8_rightOf_31 : decode cX8_rightOf 31 = .ok (.iadd, 1) := by decide +kernel
theorem dX8_rightOf_32 : decode cX8_rightOf 32 = .ok (.iaload, 1) := by decide +kernel
theorem dX8_rightOf_33 : decode cX8_rightOf 33 = .ok (.aload_n 0, 1) := by decide +kernel
theorem dX8_rightOf_34 : decode cX8_rightOf 34 = .ok (.getfield 9, 3) := by decide +kernel
theorem dX8_rightOf_37 : decode cX8_rightOf 37 = .ok (.bipush 8, 2) := by decide +kernel
theorem dX8_rightOf_39 : decode cX8_rightOf 39 = .ok (.iload_n 2, 1) := by decide +kernel
theorem dX8_rightOf_40 : decode cX8_rightOf 40 = .ok (.iadd, 1) := by decide +kernel
theorem dX8_rightOf_41 : decode cX8_rightOf 41 = .ok (.iaload, 1) := by decide +kernel
theorem dX8_rightOf_42 : decode cX8_rightOf 42 = .ok (.if_icmp .ne 9, 3) := by decide +kernel
theorem dX8_rightOf_45 : decode cX8_rightOf 45 = .ok (.iinc 2 1, 3) := by decide +kernel
theorem dX8_rightOf_48 : decode cX8_rightOf 48 = .ok (.goto (-46), 3) := by decide +kernel
theorem dX8_rightOf_51 : decode cX8_rightOf 51 = .ok (.iload_n 2, 1) := by decide +kernel
theorem dX8_rightOf_52 : decode cX8_rightOf 52 = .ok (.ireturn, 1) := by decide +kernel
theorem dX8_fits_0 : decode cX8_fits 0 = .ok (.aload_n 0, 1) := by decide +kernel
theorem dX8_fits_1 : decode cX8_fits 1 = .ok (.iload_n 1, 1) := by decide +kernel
theorem dX8_fits_2 : decode cX8_fits 2 = .ok (.invokevirtual 223, 3) := by decide +kernel
theorem dX8_fits_5 : decode cX8_fits 5 = .ok (.istore_n 2, 1) := by decide +kernel
theorem dX8_fits_6 : decode cX8_fits 6 = .ok (.iload_n 2, 1) := by decide +kernel
theorem dX8_fits_7 : decode cX8_fits 7 = .ok (.ifCond .eq 9, 3) := by decide +kernel
theorem dX8_fits_10 : decode cX8_fits 10 = .ok (.aload_n 0, 1) := by decide +kernel
theorem dX8_fits_11 : decode cX8_fits 11 = .ok (.iload_n 2, 1) := by decide +kernel
theorem dX8_fits_12 : decode cX8_fits 12 = .ok (.invokevirtual 78, 3) := by decide +kernel
theorem dX8_fits_15 : decode cX8_fits 15 = .ok (.ireturn, 1) := by decide +kernel
theorem dX8_fits_16 : decode cX8_fits 16 = .ok (.aload_n 0, 1) := by decide +kernel
theorem dX8_fits_17 : decode cX8_fits 17 = .ok (.getfield 25, 3) := by decide +kernel
theorem dX8_fits_20 : decode cX8_fits 20 = .ok (.iload_n 1, 1) := by decide +kernel
theorem dX8_fits_21 : decode cX8_fits 21 = .ok (.iaload, 1) := by decide +kernel
theorem dX8_fits_22 : decode cX8_fits 22 = .ok (.aload_n 0, 1) := by decide +kernel
theorem dX8_fits_23 : decode cX8_fits 23 = .ok (.getfield 9, 3) := by decide +kernel
theorem dX8_fits_26 : decode cX8_fits 26 = .ok (.iconst 3, 1) := by decide +kernel
theorem dX8_fits_27 : decode cX8_fits 27 = .ok (.iaload, 1) := by decide +kernel
theorem dX8_fits_28 : decode cX8_fits 28 = .ok (.if_icmp .eq 10, 3) := by decide +kernel
theorem dX8_fits_31 : decode cX8_fits 31 = .ok (.aload_n 0, 1) := by decide +kernel
theorem dX8_fits_32 : decode cX8_fits 32 = .ok (.ldc 203, 2) := by decide +kernel
theorem dX8_fits_34 : decode cX8_fits 34 = .ok (.invokevirtual 78, 3) := by decide +kernel
theorem dX8_fits_37 : decode cX8_fits 37 = .ok (.ireturn, 1) := by decide +kernel
theorem dX8_fits_38 : decode cX8_fits 38 = .ok (.aload_n 0, 1) := by decide +kernel
theorem dX8_fits_39 : decode cX8_fits 39 = .ok (.invokevirtual 197, 3) := by decide +kernel
theorem dX8_fits_42 : decode cX8_fits 42 = .ok (.iconst 0, 1) := by decide +kernel
theorem dX8_fits_43 : decode cX8_fits 43 = .ok (.istore_n 3, 1) := by decide +kernel
theorem dX8_fits_44 : decode cX8_fits 44 = .ok (.iload_n 3, 1) := by decide +kernel
theorem dX8_fits_45 : decode cX8_fits 45 = .ok (.bipush 99, 2) := by decide +kernel
theorem dX8_fits_47 : decode cX8_fits 47 = .ok (.if_icmp .gt 28, 3) := by decide +kernel
theorem dX8_fits_50 : decode cX8_fits 50 = .ok (.aload_n 0, 1) := by decide +kernel
theorem dX8_fits_51 : decode cX8_fits 51 = .ok (.iload_n 1, 1) := by decide +kernel
theorem dX8_fits_52 : decode cX8_fits 52 = .ok (.invokevirtual 226, 3) := by decide +kernel
theorem dX8_fits_55 : decode cX8_fits 55 = .ok (.aload_n 0, 1) := by decide +kernel
theorem dX8_fits_56 : decode cX8_fits 56 = .ok (.getfield 25, 3) := by decide +kernel
theorem dX8_fits_59 : decode cX8_fits 59 = .ok (.iload_n 1, 1) := by decide +kernel
theorem dX8_fits_60 : decode cX8_fits 60 = .ok (.iaload, 1) := by decide +kernel
theorem dX8_fits_61 : decode cX8_fits 61 = .ok (.if_icmp .ge 14, 3) := by decide +kernel
theorem dX8_fits_64 : decode cX8_fits 64 = .ok (.aload_n 0, 1) := by decide +kernel
theorem dX8_fits_65 : decode cX8_fits 65 = .ok (.iconst 1, 1) := by decide +kernel
theorem dX8_fits_66 : decode cX8_fits 66 = .ok (.invokevirtual 187, 3) := by decide +kernel
theorem dX8_fits_69 : decode cX8_fits 69 = .ok (.iinc 3 1, 3) := by decide +kernel
theorem dX8_fits_72 : decode cX8_fits 72 = .ok (.goto (-28), 3) := by decide +kernel
theorem dX8_fits_75 : decode cX8_fits 75 = .ok (.aload_n 0, 1) := by decide +kernel
theorem dX8_fits_76 : decode cX8_fits 76 = .ok (.invokevirtual 200, 3) := by decide +kernel
theorem dX8_fits_79 : decode cX8_fits 79 = .ok (.iload_n 3, 1) := by decide +kernel
theorem dX8_fits_80 : decode cX8_fits 80 = .ok (.bipush 99, 2) := by decide +kernel
theorem dX8_fits_82 : decode cX8_fits 82 = .ok (.if_icmp .le 12, 3) := by decide +kernel
theorem dX8_fits_85 : decode cX8_fits 85 = .ok (.aload_n 0, 1) := by decide +kernel
theorem dX8_fits_86 : decode cX8_fits 86 = .ok (.ldc 203, 2) := by decide +kernel
theorem dX8_fits_88 : decode cX8_fits 88 = .ok (.invokevirtual 78, 3) := by decide +kernel
theorem dX8_fits_91 : decode cX8_fits 91 = .ok (.goto 4, 3) := by decide +kernel
theorem dX8_fits_94 : decode cX8_fits 94 = .ok (.iload_n 3, 1) := by decide +kernel
theorem dX8_fits_95 : decode cX8_fits 95 = .ok (.ireturn, 1) := by decide +kernel
theorem dX8_begins_0 : decode cX8_begins 0 = .ok (.aload_n 0, 1) := by decide +kernel
theorem dX8_begins_1 : decode cX8_begins 1 = .ok (.getfield 229, 3) := by decide +kernel
theorem dX8_begins_4 : decode cX8_begins 4 = .ok (.bipush 30, 2) := by decide +kernel
theorem dX8_begins_6 : decode cX8_begins 6 = .ok (.if_icmp .ge 23, 3) := by decide +kernel
theorem dX8_begins_9 : decode cX8_begins 9 = .ok (.aload_n 0, 1) := by decide +kernel
theorem dX8_begins_10 : decode cX8_begins 10 = .ok (.getfield 49, 3) := by decide +kernel
theorem dX8_begins_13 : decode cX8_begins 13 = .ok (.aload_n 0, 1) := by decide +kernel
theorem dX8_begins_14 : decode cX8_begins 14 = .ok (.getfield 229, 3) := by decide +kernel
theorem dX8_begins_17 : decode cX8_begins 17 = .ok (.iload_n 1, 1) := by decide +kernel
theorem dX8_begins_18 : decode cX8_begins 18 = .ok (.iastore, 1) := by decide +kernel
theorem dX8_begins_19 : decode cX8_begins 19 = .ok (.aload_n 0, 1) := by decide +kernel
theorem dX8_begins_20 : decode cX8_begins 20 = .ok (.dup, 1) := by decide +kernel
theorem dX8_begins_21 : decode cX8_begins 21 = .ok (.getfield 229, 3) := by decide +kernel
theorem dX8_begins_24 : decode cX8_begins 24 = .ok (.iconst 1, 1) := by decide +kernel
theorem dX8_begins_25 : decode cX8_begins 25 = .ok (.iadd, 1) := by decide +kernel
theorem dX8_begins_26 : decode cX8_begins 26 = .ok (.putfield 229, 3) := by decide +kernel
theorem dX8_begins_29 : decode cX8_begins 29 = .ok (.return_, 1) := by decide +kernel
theorem dX8_plainRattles_0 : decode cX8_plainRattles 0 = .ok (.aload_n 0, 1) := by decide +kernel
theorem dX8_plainRattles_1 : decode cX8_plainRattles 1 = .ok (.bipush 10, 2) := by decide +kernel
theorem dX8_plainRattles_3 : decode cX8_plainRattles 3 = .ok (.invokevirtual 232, 3) := by decide +kernel
theorem dX8_plainRattles_6 : decode cX8_plainRattles 6 = .ok (.iload_n 2, 1) := by decide +kernel
theorem dX8_plainRattles_7 : decode cX8_plainRattles 7 = .ok (.iload_n 1, 1) := by decide +kernel
theorem dX8_plainRattles_8 : decode cX8_plainRattles 8 = .ok (.iadd, 1) := by decide +kernel
theorem dX8_plainRattles_9 : decode cX8_plainRattles 9 = .ok (.ireturn, 1) := by decide +kernel
theorem dX8_keysRattles_0 : decode cX8_keysRattles 0 = .ok (.aload_n 0, 1) := by decide +kernel
theorem dX8_keysRattles_1 : decode cX8_keysRattles 1 = .ok (.bipush 20, 2) := by decide +kernel
theorem dX8_keysRattles_3 : decode cX8_keysRattles 3 = .ok (.invokevirtual 232, 3) := by decide +kernel
theorem dX8_keysRattles_6 : decode cX8_keysRattles 6 = .ok (.aload_n 0, 1) := by decide +kernel
theorem dX8_keysRattles_7 : decode cX8_keysRattles 7 = .ok (.iload_n 1, 1) := by decide +kernel
theorem dX8_keysRattles_8 : decode cX8_keysRattles 8 = .ok (.iload_n 2, 1) := by decide +kernel
theorem dX8_keysRattles_9 : decode cX8_keysRattles 9 = .ok (.invokevirtual 235, 3) := by decide +kernel
theorem dX8_keysRattles_12 : decode cX8_keysRattles 12 = .ok (.iconst 4, 1) := by decide +kernel
theorem dX8_keysRattles_13 : decode cX8_keysRattles 13 = .ok (.isub, 1) := by decide +kernel
theorem dX8_keysRattles_14 : decode cX8_keysRattles 14 = .ok (.ireturn, 1) := by decide +kernel
theorem dX8_rattles_0 : decode cX8_rattles 0 = .ok (.aload_n 0, 1) := by decide +kernel
theorem dX8_rattles_1 : decode cX8_rattles 1 = .ok (.iload_n 1, 1) := by decide +kernel
theorem dX8_rattles_2 : decode cX8_rattles 2 = .ok (.iconst 0, 1) := by decide +kernel
theorem dX8_rattles_3 : decode cX8_rattles 3 = .ok (.invokevirtual 61, 3) := by decide +kernel
theorem dX8_rattles_6 : decode cX8_rattles 6 = .ok (.lookupswitch 65 #[(1, 34), (4, 41), (6, 56)], 34) := by decide +kernel
theorem dX8_rattles_40 : decode cX8_rattles 40 = .ok (.aload_n 0, 1) := by decide +kernel
theorem dX8_rattles_41 : decode cX8_rattles 41 = .ok (.iload_n 1, 1) := by decide +kernel
theorem dX8_rattles_42 : decode cX8_rattles 42 = .ok (.iload_n 2, 1) := by decide +kernel
theorem dX8_rattles_43 : decode cX8_rattles 43 = .ok (.invokevirtual 238, 3) := by decide +kernel
theorem dX8_rattles_46 : decode cX8_rattles 46 = .ok (.ireturn, 1) := by decide +kernel
theorem dX8_rattles_47 : decode cX8_rattles 47 = .ok (.aload_n 0, 1) := by decide +kernel
theorem dX8_rattles_48 : decode cX8_rattles 48 = .ok (.bipush 50, 2) := by decide +kernel
theorem dX8_rattles_50 : decode cX8_rattles 50 = .ok (.invokevirtual 232, 3) := by decide +kernel
theorem dX8_rattles_53 : decode cX8_rattles 53 = .ok (.aload_n 0, 1) := by decide +kernel
theorem dX8_rattles_54 : decode cX8_rattles 54 = .ok (.iload_n 1, 1) := by decide +kernel
theorem dX8_rattles_55 : decode cX8_rattles 55 = .ok (.iload_n 2, 1) := by decide +kernel
theorem dX8_rattles_56 : decode cX8_rattles 56 = .ok (.invokevirtual 238, 3) := by decide +kernel
theorem dX8_rattles_59 : decode cX8_rattles 59 = .ok (.iconst 3, 1) := by decide +kernel
theorem dX8_rattles_60 : decode cX8_rattles 60 = .ok (.imul, 1) := by decide +kernel
theorem dX8_rattles_61 : decode cX8_rattles 61 = .ok (.ireturn, 1) := by decide +kernel
theorem dX8_rattles_62 : decode cX8_rattles 62 = .ok (.aload_n 0, 1) := by decide +kernel
theorem dX8_rattles_63 : decode cX8_rattles 63 = .ok (.bipush 70, 2) := by decide +kernel
theorem dX8_rattles_65 : decode cX8_rattles 65 = .ok (.invokevirtual 232, 3) := by decide +kernel
theorem dX8_rattles_68 : decode cX8_rattles 68 = .ok (.bipush 9, 2) := by decide +kernel
theorem dX8_rattles_70 : decode cX8_rattles 70 = .ok (.ireturn, 1) := by decide +kernel
theorem dX8_rattles_71 : decode cX8_rattles 71 = .ok (.aload_n 0, 1) := by decide +kernel
theorem dX8_rattles_72 : decode cX8_rattles 72 = .ok (.iload_n 1, 1) := by decide +kernel
theorem dX8_rattles_73 : decode cX8_rattles 73 = .ok (.iload_n 2, 1) := by decide +kernel
theorem dX8_rattles_74 : decode cX8_rattles 74 = .ok (.invokevirtual 235, 3) := by decide +kernel
theorem dX8_rattles_77 : decode cX8_rattles 77 = .ok (.ireturn, 1) := by decide +kernel
theorem dX8_plainRustles_0 : decode cX8_plainRustles 0 = .ok (.aload_n 0, 1) := by decide +kernel
theorem dX8_plainRustles_1 : decode cX8_plainRustles 1 = .ok (.bipush 11, 2) := by decide +kernel
theorem dX8_plainRustles_3 : decode cX8_plainRustles 3 = .ok (.invokevirtual 232, 3) := by decide +kernel
theorem dX8_plainRustles_6 : decode cX8_plainRustles 6 = .ok (.aload_n 0, 1) := by decide +kernel
theorem dX8_plainRustles_7 : decode cX8_plainRustles 7 = .ok (.iload_n 1, 1) := by decide +kernel
theorem dX8_plainRustles_8 : decode cX8_plainRustles 8 = .ok (.iload_n 2, 1) := by decide +kernel
theorem dX8_plainRustles_9 : decode cX8_plainRustles 9 = .ok (.invokevirtual 241, 3) := by decide +kernel
theorem dX8_plainRustles_12 : decode cX8_plainRustles 12 = .ok (.iconst 2, 1) := by decide +kernel
theorem dX8_plainRustles_13 : decode cX8_plainRustles 13 = .ok (.imul, 1) := by decide +kernel
theorem dX8_plainRustles_14 : decode cX8_plainRustles 14 = .ok (.ireturn, 1) := by decide +kernel
theorem dX8_paperRustles_0 : decode cX8_paperRustles 0 = .ok (.aload_n 0, 1) := by decide +kernel
theorem dX8_paperRustles_1 : decode cX8_paperRustles 1 = .ok (.bipush 30, 2) := by decide +kernel
theorem dX8_paperRustles_3 : decode cX8_paperRustles 3 = .ok (.invokevirtual 232, 3) := by decide +kernel
theorem dX8_paperRustles_6 : decode cX8_paperRustles 6 = .ok (.aload_n 0, 1) := by decide +kernel
theorem dX8_paperRustles_7 : decode cX8_paperRustles 7 = .ok (.iload_n 1, 1) := by decide +kernel
theorem dX8_paperRustles_8 : decode cX8_paperRustles 8 = .ok (.iload_n 2, 1) := by decide +kernel
theorem dX8_paperRustles_9 : decode cX8_paperRustles 9 = .ok (.invokevirtual 244, 3) := by decide +kernel
theorem dX8_paperRustles_12 : decode cX8_paperRustles 12 = .ok (.ineg, 1) := by decide +kernel
theorem dX8_paperRustles_13 : decode cX8_paperRustles 13 = .ok (.ireturn, 1) := by decide +kernel
theorem dX8_rustles_0 : decode cX8_rustles 0 = .ok (.aload_n 0, 1) := by decide +kernel
theorem dX8_rustles_1 : decode cX8_rustles 1 = .ok (.iload_n 1, 1) := by decide +kernel
theorem dX8_rustles_2 : decode cX8_rustles 2 = .ok (.iconst 0, 1) := by decide +kernel
theorem dX8_rustles_3 : decode cX8_rustles 3 = .ok (.invokevirtual 61, 3) := by decide +kernel
theorem dX8_rustles_6 : decode cX8_rustles 6 = .ok (.tableswitch 76 2 6 #[34, 76, 76, 41, 56], 34) := by decide +kernel
theorem dX8_rustles_40 : decode cX8_rustles 40 = .ok (.aload_n 0, 1) := by decide +kernel
theorem dX8_rustles_41 : decode cX8_rustles 41 = .ok (.iload_n 1, 1) := by decide +kernel
theorem dX8_rustles_42 : decode cX8_rustles 42 = .ok (.iload_n 2, 1) := by decide +kernel
theorem dX8_rustles_43 : decode cX8_rustles 43 = .ok (.invokevirtual 247, 3) := by decide +kernel
theorem dX8_rustles_46 : decode cX8_rustles 46 = .ok (.ireturn, 1) := by decide +kernel
theorem dX8_rustles_47 : decode cX8_rustles 47 = .ok (.aload_n 0, 1) := by decide +kernel
theorem dX8_rustles_48 : decode cX8_rustles 48 = .ok (.bipush 60, 2) := by decide +kernel
theorem dX8_rustles_50 : decode cX8_rustles 50 = .ok (.invokevirtual 232, 3) := by decide +kernel
theorem dX8_rustles_53 : decode cX8_rustles 53 = .ok (.aload_n 0, 1) := by decide +kernel
theorem dX8_rustles_54 : decode cX8_rustles 54 = .ok (.iload_n 1, 1) := by decide +kernel
theorem dX8_rustles_55 : decode cX8_rustles 55 = .ok (.iload_n 2, 1) := by decide +kernel
theorem dX8_rustles_56 : decode cX8_rustles 56 = .ok (.iconst 1, 1) := by decide +kernel
theorem dX8_rustles_57 : decode cX8_rustles 57 = .ok (.iadd, 1) := by decide +kernel
theorem dX8_rustles_58 : decode cX8_rustles 58 = .ok (.invokevirtual 247, 3) := by decide +kernel
theorem dX8_rustles_61 : decode cX8_rustles 61 = .ok (.ireturn, 1) := by decide +kernel
theorem dX8_rustles_62 : decode cX8_rustles 62 = .ok (.aload_n 0, 1) := by decide +kernel
theorem dX8_rustles_63 : decode cX8_rustles 63 = .ok (.bipush 71, 2) := by decide +kernel
theorem dX8_rustles_65 : decode cX8_rustles 65 = .ok (.invokevirtual 232, 3) := by decide +kernel
theorem dX8_rustles_68 : decode cX8_rustles 68 = .ok (.aload_n 0, 1) := by decide +kernel
theorem dX8_rustles_69 : decode cX8_rustles 69 = .ok (.iload_n 1, 1) := by decide +kernel
theorem dX8_rustles_70 : decode cX8_rustles 70 = .ok (.iload_n 2, 1) := by decide +kernel
theorem dX8_rustles_71 : decode cX8_rustles 71 = .ok (.invokevirtual 244, 3) := by decide +kernel
theorem dX8_rustles_74 : decode cX8_rustles 74 = .ok (.aload_n 0, 1) := by decide +kernel
theorem dX8_rustles_75 : decode cX8_rustles 75 = .ok (.iload_n 1, 1) := by decide +kernel
theorem dX8_rustles_76 : decode cX8_rustles 76 = .ok (.iconst 1, 1) := by decide +kernel
theorem dX8_rustles_77 : decode cX8_rustles 77 = .ok (.invokevirtual 61, 3) := by decide +kernel
theorem dX8_rustles_80 : decode cX8_rustles 80 = .ok (.iadd, 1) := by decide +kernel
theorem dX8_rustles_81 : decode cX8_rustles 81 = .ok (.ireturn, 1) := by decide +kernel
theorem dX8_rustles_82 : decode cX8_rustles 82 = .ok (.aload_n 0, 1) := by decide +kernel
theorem dX8_rustles_83 : decode cX8_rustles 83 = .ok (.iload_n 1, 1) := by decide +kernel
theorem dX8_rustles_84 : decode cX8_rustles 84 = .ok (.iload_n 2, 1) := by decide +kernel
theorem dX8_rustles_85 : decode cX8_rustles 85 = .ok (.invokevirtual 244, 3) := by decide +kernel
theorem dX8_rustles_88 : decode cX8_rustles 88 = .ok (.ireturn, 1) := by decide +kernel
theorem dX8_plainRings_0 : decode cX8_plainRings 0 = .ok (.aload_n 0, 1) := by decide +kernel
theorem dX8_plainRings_1 : decode cX8_plainRings 1 = .ok (.bipush 12, 2) := by decide +kernel
theorem dX8_plainRings_3 : decode cX8_plainRings 3 = .ok (.invokevirtual 232, 3) := by decide +kernel
theorem dX8_plainRings_6 : decode cX8_plainRings 6 = .ok (.aload_n 0, 1) := by decide +kernel
theorem dX8_plainRings_7 : decode cX8_plainRings 7 = .ok (.iload_n 1, 1) := by decide +kernel
theorem dX8_plainRings_8 : decode cX8_plainRings 8 = .ok (.iload_n 2, 1) := by decide +kernel
theorem dX8_plainRings_9 : decode cX8_plainRings 9 = .ok (.invokevirtual 250, 3) := by decide +kernel
theorem dX8_plainRings_12 : decode cX8_plainRings 12 = .ok (.aload_n 0, 1) := by decide +kernel
theorem dX8_plainRings_13 : decode cX8_plainRings 13 = .ok (.iload_n 1, 1) := by decide +kernel
theorem dX8_plainRings_14 : decode cX8_plainRings 14 = .ok (.iconst 1, 1) := by decide +kernel
theorem dX8_plainRings_15 : decode cX8_plainRings 15 = .ok (.invokevirtual 61, 3) := by decide +kernel
theorem dX8_plainRings_18 : decode cX8_plainRings 18 = .ok (.isub, 1) := by decide +kernel
theorem dX8_plainRings_19 : decode cX8_plainRings 19 = .ok (.ireturn, 1) := by decide +kernel
theorem dX8_rings_0 : decode cX8_rings 0 = .ok (.aload_n 0, 1) := by decide +kernel
theorem dX8_rings_1 : decode cX8_rings 1 = .ok (.iload_n 1, 1) := by decide +kernel
theorem dX8_rings_2 : decode cX8_rings 2 = .ok (.iconst 0, 1) := by decide +kernel
theorem dX8_rings_3 : decode cX8_rings 3 = .ok (.invokevirtual 61, 3) := by decide +kernel
theorem dX8_rings_6 : decode cX8_rings 6 = .ok (.lookupswitch 56 #[(3, 26), (4, 41)], 26) := by decide +kernel
theorem dX8_rings_32 : decode cX8_rings 32 = .ok (.aload_n 0, 1) := by decide +kernel
theorem dX8_rings_33 : decode cX8_rings 33 = .ok (.bipush 40, 2) := by decide +kernel
theorem dX8_rings_35 : decode cX8_rings 35 = .ok (.invokevirtual 232, 3) := by decide +kernel
theorem dX8_rings_38 : decode cX8_rings 38 = .ok (.aload_n 0, 1) := by decide +kernel
theorem dX8_rings_39 : decode cX8_rings 39 = .ok (.iload_n 1, 1) := by decide +kernel
theorem dX8_rings_40 : decode cX8_rings 40 = .ok (.iload_n 2, 1) := by decide +kernel
theorem dX8_rings_41 : decode cX8_rings 41 = .ok (.iconst 2, 1) := by decide +kernel
theorem dX8_rings_42 : decode cX8_rings 42 = .ok (.idiv, 1) := by decide +kernel
theorem dX8_rings_43 : decode cX8_rings 43 = .ok (.invokevirtual 253, 3) := by decide +kernel
theorem dX8_rings_46 : decode cX8_rings 46 = .ok (.ireturn, 1) := by decide +kernel
theorem dX8_rings_47 : decode cX8_rings 47 = .ok (.aload_n 0, 1) := by decide +kernel
theorem dX8_rings_48 : decode cX8_rings 48 = .ok (.bipush 51, 2) := by decide +kernel
theorem dX8_rings_50 : decode cX8_rings 50 = .ok (.invokevirtual 232, 3) := by decide +kernel
theorem dX8_rings_53 : decode cX8_rings 53 = .ok (.aload_n 0, 1) := by decide +kernel
theorem dX8_rings_54 : decode cX8_rings 54 = .ok (.iload_n 1, 1) := by decide +kernel
theorem dX8_rings_55 : decode cX8_rings 55 = .ok (.iload_n 2, 1) := by decide +kernel
theorem dX8_rings_56 : decode cX8_rings 56 = .ok (.invokevirtual 253, 3) := by decide +kernel
theorem dX8_rings_59 : decode cX8_rings 59 = .ok (.iload_n 1, 1) := by decide +kernel
theorem dX8_rings_60 : decode cX8_rings 60 = .ok (.ixor, 1) := by decide +kernel
theorem dX8_rings_61 : decode cX8_rings 61 = .ok (.ireturn, 1) := by decide +kernel
theorem dX8_rings_62 : decode cX8_rings 62 = .ok (.aload_n 0, 1) := by decide +kernel
theorem dX8_rings_63 : decode cX8_rings 63 = .ok (.iload_n 1, 1) := by decide +kernel
theorem dX8_rings_64 : decode cX8_rings 64 = .ok (.iload_n 2, 1) := by decide +kernel
theorem dX8_rings_65 : decode cX8_rings 65 = .ok (.invokevirtual 253, 3) := by decide +kernel
theorem dX8_rings_68 : decode cX8_rings 68 = .ok (.ireturn, 1) := by decide +kernel
theorem dX8_plainParts_0 : decode cX8_plainParts 0 = .ok (.aload_n 0, 1) := by decide +kernel
theorem dX8_plainParts_1 : decode cX8_plainParts 1 = .ok (.bipush 13, 2) := by decide +kernel
theorem dX8_plainParts_3 : decode cX8_plainParts 3 = .ok (.invokevirtual 232, 3) := by decide +kernel
theorem dX8_plainParts_6 : decode cX8_plainParts 6 = .ok (.aload_n 0, 1) := by decide +kernel
theorem dX8_plainParts_7 : decode cX8_plainParts 7 = .ok (.iload_n 1, 1) := by decide +kernel
theorem dX8_plainParts_8 : decode cX8_plainParts 8 = .ok (.iconst 1, 1) := by decide +kernel
theorem dX8_plainParts_9 : decode cX8_plainParts 9 = .ok (.invokevirtual 61, 3) := by decide +kernel
theorem dX8_plainParts_12 : decode cX8_plainParts 12 = .ok (.iload_n 1, 1) := by decide +kernel
theorem dX8_plainParts_13 : decode cX8_plainParts 13 = .ok (.isub, 1) := by decide +kernel
theorem dX8_plainParts_14 : decode cX8_plainParts 14 = .ok (.istore_n 3, 1) := by decide +kernel
theorem dX8_plainParts_15 : decode cX8_plainParts 15 = .ok (.aload_n 0, 1) := by decide +kernel
theorem dX8_plainParts_16 : decode cX8_plainParts 16 = .ok (.iload_n 3, 1) := by decide +kernel
theorem dX8_plainParts_17 : decode cX8_plainParts 17 = .ok (.ifCond .ne 7, 3) := by decide +kernel
theorem dX8_plainParts_20 : decode cX8_plainParts 20 = .ok (.iconst 1, 1) := by decide +kernel
theorem dX8_plainParts_21 : decode cX8_plainParts 21 = .ok (.goto 4, 3) := by decide +kernel
theorem dX8_plainParts_24 : decode cX8_plainParts 24 = .ok (.iconst 0, 1) := by decide +kernel
theorem dX8_plainParts_25 : decode cX8_plainParts 25 = .ok (.putfield 256, 3) := by decide +kernel
theorem dX8_plainParts_28 : decode cX8_plainParts 28 = .ok (.aload_n 0, 1) := by decide +kernel
theorem dX8_plainParts_29 : decode cX8_plainParts 29 = .ok (.getfield 256, 3) := by decide +kernel
theorem dX8_plainParts_32 : decode cX8_plainParts 32 = .ok (.ifCond .eq 7, 3) := by decide +kernel
theorem dX8_plainParts_35 : decode cX8_plainParts 35 = .ok (.iconst 0, 1) := by decide +kernel
theorem dX8_plainParts_36 : decode cX8_plainParts 36 = .ok (.goto 6, 3) := by decide +kernel
theorem dX8_plainParts_39 : decode cX8_plainParts 39 = .ok (.iload_n 2, 1) := by decide +kernel
theorem dX8_plainParts_40 : decode cX8_plainParts 40 = .ok (.iload_n 3, 1) := by decide +kernel
theorem dX8_plainParts_41 : decode cX8_plainParts 41 = .ok (.idiv, 1) := by decide +kernel
theorem dX8_plainParts_42 : decode cX8_plainParts 42 = .ok (.ireturn, 1) := by decide +kernel
theorem dX8_parts_0 : decode cX8_parts 0 = .ok (.aload_n 0, 1) := by decide +kernel
theorem dX8_parts_1 : decode cX8_parts 1 = .ok (.iload_n 1, 1) := by decide +kernel
theorem dX8_parts_2 : decode cX8_parts 2 = .ok (.iconst 0, 1) := by decide +kernel
theorem dX8_parts_3 : decode cX8_parts 3 = .ok (.invokevirtual 61, 3) := by decide +kernel
theorem dX8_parts_6 : decode cX8_parts 6 = .ok (.iconst 1, 1) := by decide +kernel
theorem dX8_parts_7 : decode cX8_parts 7 = .ok (.if_icmp .eq 13, 3) := by decide +kernel
theorem dX8_parts_10 : decode cX8_parts 10 = .ok (.aload_n 0, 1) := by decide +kernel
theorem dX8_parts_11 : decode cX8_parts 11 = .ok (.iload_n 1, 1) := by decide +kernel
theorem dX8_parts_12 : decode cX8_parts 12 = .ok (.iconst 0, 1) := by decide +kernel
theorem dX8_parts_13 : decode cX8_parts 13 = .ok (.invokevirtual 61, 3) := by decide +kernel
theorem dX8_parts_16 : decode cX8_parts 16 = .ok (.iconst 4, 1) := by decide +kernel
theorem dX8_parts_17 : decode cX8_parts 17 = .ok (.if_icmp .ne 36, 3) := by decide +kernel
theorem dX8_parts_20 : decode cX8_parts 20 = .ok (.aload_n 0, 1) := by decide +kernel
theorem dX8_parts_21 : decode cX8_parts 21 = .ok (.bipush 21, 2) := by decide +kernel
theorem dX8_parts_23 : decode cX8_parts 23 = .ok (.invokevirtual 232, 3) := by decide +kernel
theorem dX8_parts_26 : decode cX8_parts 26 = .ok (.aload_n 0, 1) := by decide +kernel
theorem dX8_parts_27 : decode cX8_parts 27 = .ok (.iload_n 1, 1) := by decide +kernel
theorem dX8_parts_28 : decode cX8_parts 28 = .ok (.iload_n 2, 1) := by decide +kernel
theorem dX8_parts_29 : decode cX8_parts 29 = .ok (.invokevirtual 259, 3) := by decide +kernel
theorem dX8_parts_32 : decode cX8_parts 32 = .ok (.istore_n 3, 1) := by decide +kernel
theorem dX8_parts_33 : decode cX8_parts 33 = .ok (.aload_n 0, 1) := by decide +kernel
theorem dX8_parts_34 : decode cX8_parts 34 = .ok (.getfield 256, 3) := by decide +kernel
theorem dX8_parts_37 : decode cX8_parts 37 = .ok (.ifCond .eq 7, 3) := by decide +kernel
theorem dX8_parts_40 : decode cX8_parts 40 = .ok (.iconst 0, 1) := by decide +kernel
theorem dX8_parts_41 : decode cX8_parts 41 = .ok (.goto 11, 3) := by decide +kernel
theorem dX8_parts_44 : decode cX8_parts 44 = .ok (.iload_n 3, 1) := by decide +kernel
theorem dX8_parts_45 : decode cX8_parts 45 = .ok (.aload_n 0, 1) := by decide +kernel
theorem dX8_parts_46 : decode cX8_parts 46 = .ok (.iload_n 1, 1) := by decide +kernel
theorem dX8_parts_47 : decode cX8_parts 47 = .ok (.iconst 1, 1) := by decide +kernel
theorem dX8_parts_48 : decode cX8_parts 48 = .ok (.invokevirtual 250, 3) := by decide +kernel
theorem dX8_parts_51 : decode cX8_parts 51 = .ok (.iadd, 1) := by decide +kernel
theorem dX8_parts_52 : decode cX8_parts 52 = .ok (.ireturn, 1) := by decide +kernel
theorem dX8_parts_53 : decode cX8_parts 53 = .ok (.aload_n 0, 1) := by decide +kernel
theorem dX8_parts_54 : decode cX8_parts 54 = .ok (.iload_n 1, 1) := by decide +kernel
theorem dX8_parts_55 : decode cX8_parts 55 = .ok (.iload_n 2, 1) := by decide +kernel
theorem dX8_parts_56 : decode cX8_parts 56 = .ok (.invokevirtual 259, 3) := by decide +kernel
theorem dX8_parts_59 : decode cX8_parts 59 = .ok (.ireturn, 1) := by decide +kernel
theorem dX8_voice_0 : decode cX8_voice 0 = .ok (.aload_n 0, 1) := by decide +kernel
theorem dX8_voice_1 : decode cX8_voice 1 = .ok (.iload_n 1, 1) := by decide +kernel
theorem dX8_voice_2 : decode cX8_voice 2 = .ok (.invokevirtual 86, 3) := by decide +kernel
theorem dX8_voice_5 : decode cX8_voice 5 = .ok (.ifCond .eq 12, 3) := by decide +kernel
theorem dX8_voice_8 : decode cX8_voice 8 = .ok (.iload_n 2, 1) := by decide +kernel
theorem dX8_voice_9 : decode cX8_voice 9 = .ok (.iconst 0, 1) := by decide +kernel
theorem dX8_voice_10 : decode cX8_voice 10 = .ok (.iconst 3, 1) := by decide +kernel
theorem dX8_voice_11 : decode cX8_voice 11 = .ok (.invokestatic 57, 3) := by decide +kernel
theorem dX8_voice_14 : decode cX8_voice 14 = .ok (.ifCond .ne 10, 3) := by decide +kernel
theorem dX8_voice_17 : decode cX8_voice 17 = .ok (.aload_n 0, 1) := by decide +kernel
theorem dX8_voice_18 : decode cX8_voice 18 = .ok (.ldc 77, 2) := by decide +kernel
theorem dX8_voice_20 : decode cX8_voice 20 = .ok (.invokevirtual 78, 3) := by decide +kernel
theorem dX8_voice_23 : decode cX8_voice 23 = .ok (.ireturn, 1) := by decide +kernel
theorem dX8_voice_24 : decode cX8_voice 24 = .ok (.aload_n 0, 1) := by decide +kernel
theorem dX8_voice_25 : decode cX8_voice 25 = .ok (.iconst 0, 1) := by decide +kernel
theorem dX8_voice_26 : decode cX8_voice 26 = .ok (.putfield 229, 3) := by decide +kernel
theorem dX8_voice_29 : decode cX8_voice 29 = .ok (.aload_n 0, 1) := by decide +kernel
theorem dX8_voice_30 : decode cX8_voice 30 = .ok (.iconst 0, 1) := by decide +kernel
theorem dX8_voice_31 : decode cX8_voice 31 = .ok (.putfield 256, 3) := by decide +kernel
theorem dX8_voice_34 : decode cX8_voice 34 = .ok (.iload_n 2, 1) := by decide +kernel
theorem dX8_voice_35 : decode cX8_voice 35 = .ok (.ifCond .ne 12, 3) := by decide +kernel
theorem dX8_voice_38 : decode cX8_voice 38 = .ok (.aload_n 0, 1) := by decide +kernel
theorem dX8_voice_39 : decode cX8_voice 39 = .ok (.iload_n 1, 1) := by decide +kernel
theorem dX8_voice_40 : decode cX8_voice 40 = .ok (.iload_n 3, 1) := by decide +kernel
theorem dX8_voice_41 : decode cX8_voice 41 = .ok (.invokevirtual 241, 3) := by decide +kernel
theorem dX8_voice_44 : decode cX8_voice 44 = .ok (.goto 37, 3) := by decide +kernel
theorem dX8_voice_47 : decode cX8_voice 47 = .ok (.iload_n 2, 1) := by decide +kernel
theorem dX8_voice_48 : decode cX8_voice 48 = .ok (.iconst 1, 1) := by decide +kernel
theorem dX8_voice_49 : decode cX8_voice 49 = .ok (.if_icmp .ne 12, 3) := by decide +kernel
theorem dX8_voice_52 : decode cX8_voice 52 = .ok (.aload_n 0, 1) := by decide +kernel
theorem dX8_voice_53 : decode cX8_voice 53 = .ok (.iload_n 1, 1) := by decide +kernel
theorem dX8_voice_54 : decode cX8_voice 54 = .ok (.iload_n 3, 1) := by decide +kernel
theorem dX8_voice_55 : decode cX8_voice 55 = .ok (.invokevirtual 250, 3) := by decide +kernel
theorem dX8_voice_58 : decode cX8_voice 58 = .ok (.goto 23, 3) := by decide +kernel
theorem dX8_voice_61 : decode cX8_voice 61 = .ok (.iload_n 2, 1) := by decide +kernel
theorem dX8_voice_62 : decode cX8_voice 62 = .ok (.iconst 2, 1) := by decide +kernel
theorem dX8_voice_63 : decode cX8_voice 63 = .ok (.if_icmp .ne 12, 3) := by decide +kernel
theorem dX8_voice_66 : decode cX8_voice 66 = .ok (.aload_n 0, 1) := by decide +kernel
theorem dX8_voice_67 : decode cX8_voice 67 = .ok (.iload_n 1, 1) := by decide +kernel
theorem dX8_voice_68 : decode cX8_voice 68 = .ok (.iload_n 3, 1) := by decide +kernel
theorem dX8_voice_69 : decode cX8_voice 69 = .ok (.invokevirtual 262, 3) := by decide +kernel
theorem dX8_voice_72 : decode cX8_voice 72 = .ok (.goto 9, 3) := by decide +kernel
theorem dX8_voice_75 : decode cX8_voice 75 = .ok (.aload_n 0, 1) := by decide +kernel
theorem dX8_voice_76 : decode cX8_voice 76 = .ok (.iload_n 1, 1) := by decide +kernel
theorem dX8_voice_77 : decode cX8_voice 77 = .ok (.iload_n 3, 1) := by decide +kernel
theorem dX8_voice_78 : decode cX8_voice 78 = .ok (.invokevirtual 265, 3) := by decide +kernel
theorem dX8_voice_81 : decode cX8_voice 81 = .ok (.istore 4, 2) := by decide +kernel
theorem dX8_voice_83 : decode cX8_voice 83 = .ok (.aload_n 0, 1) := by decide +kernel
theorem dX8_voice_84 : decode cX8_voice 84 = .ok (.getfield 256, 3) := by decide +kernel
theorem dX8_voice_87 : decode cX8_voice 87 = .ok (.ifCond .eq 13, 3) := by decide +kernel
theorem dX8_voice_90 : decode cX8_voice 90 = .ok (.aload_n 0, 1) := by decide +kernel
theorem dX8_voice_91 : decode cX8_voice 91 = .ok (.ldc_w 268, 3) := by decide +kernel
theorem dX8_voice_94 : decode cX8_voice 94 = .ok (.invokevirtual 78, 3) := by decide +kernel
theorem dX8_voice_97 : decode cX8_voice 97 = .ok (.goto 5, 3) := by decide +kernel
theorem dX8_voice_100 : decode cX8_voice 100 = .ok (.iload 4, 2) := by decide +kernel
theorem dX8_voice_102 : decode cX8_voice 102 = .ok (.ireturn, 1) := by decide +kernel
theorem dX8_body_0 : decode cX8_body 0 = .ok (.iload_n 1, 1) := by decide +kernel
theorem dX8_body_1 : decode cX8_body 1 = .ok (.iconst 0, 1) := by decide +kernel
theorem dX8_body_2 : decode cX8_body 2 = .ok (.aload_n 0, 1) := by decide +kernel
theorem dX8_body_3 : decode cX8_body 3 = .ok (.getfield 229, 3) := by decide +kernel
theorem dX8_body_6 : decode cX8_body 6 = .ok (.iconst 1, 1) := by decide +kernel
theorem dX8_body_7 : decode cX8_body 7 = .ok (.isub, 1) := by decide +kernel
theorem dX8_body_8 : decode cX8_body 8 = .ok (.invokestatic 57, 3) := by decide +kernel
theorem dX8_body_11 : decode cX8_body 11 = .ok (.ifCond .eq 12, 3) := by decide +kernel
theorem dX8_body_14 : decode cX8_body 14 = .ok (.aload_n 0, 1) := by decide +kernel
theorem dX8_body_15 : decode cX8_body 15 = .ok (.getfield 49, 3) := by decide +kernel
theorem dX8_body_18 : decode cX8_body 18 = .ok (.iload_n 1, 1) := by decide +kernel
theorem dX8_body_19 : decode cX8_body 19 = .ok (.iaload, 1) := by decide +kernel
theorem dX8_body_20 : decode cX8_body 20 = .ok (.goto 9, 3) := by decide +kernel
theorem dX8_body_23 : decode cX8_body 23 = .ok (.aload_n 0, 1) := by decide +kernel
theorem dX8_body_24 : decode cX8_body 24 = .ok (.ldc 203, 2) := by decide +kernel
theorem dX8_body_26 : decode cX8_body 26 = .ok (.invokevirtual 78, 3) := by decide +kernel
theorem dX8_body_29 : decode cX8_body 29 = .ok (.ireturn, 1) := by decide +kernel
theorem dX8_isSheet_0 : decode cX8_isSheet 0 = .ok (.iload_n 0, 1) := by decide +kernel
theorem dX8_isSheet_1 : decode cX8_isSheet 1 = .ok (.iconst 0, 1) := by decide +kernel
theorem dX8_isSheet_2 : decode cX8_isSheet 2 = .ok (.iconst 3, 1) := by decide +kernel
theorem dX8_isSheet_3 : decode cX8_isSheet 3 = .ok (.invokestatic 57, 3) := by decide +kernel
theorem dX8_isSheet_6 : decode cX8_isSheet 6 = .ok (.ireturn, 1) := by decide +kernel
theorem dX8_sheet_0 : decode cX8_sheet 0 = .ok (.iload_n 1, 1) := by decide +kernel
theorem dX8_sheet_1 : decode cX8_sheet 1 = .ok (.invokestatic 269, 3) := by decide +kernel
theorem dX8_sheet_4 : decode cX8_sheet 4 = .ok (.ifCond .eq 25, 3) := by decide +kernel
theorem dX8_sheet_7 : decode cX8_sheet 7 = .ok (.iload_n 2, 1) := by decide +kernel
theorem dX8_sheet_8 : decode cX8_sheet 8 = .ok (.ifCond .eq 28, 3) := by decide +kernel
theorem dX8_sheet_11 : decode cX8_sheet 11 = .ok (.iload_n 2, 1) := by decide +kernel
theorem dX8_sheet_12 : decode cX8_sheet 12 = .ok (.bipush 8, 2) := by decide +kernel
theorem dX8_sheet_14 : decode cX8_sheet 14 = .ok (.if_icmp .eq 22, 3) := by decide +kernel
theorem dX8_sheet_17 : decode cX8_sheet 17 = .ok (.iload_n 2, 1) := by decide +kernel
theorem dX8_sheet_18 : decode cX8_sheet 18 = .ok (.bipush 16, 2) := by decide +kernel
theorem dX8_sheet_20 : decode cX8_sheet 20 = .ok (.if_icmp .eq 16, 3) := by decide +kernel
theorem dX8_sheet_23 : decode cX8_sheet 23 = .ok (.iload_n 2, 1) := by decide +kernel
theorem dX8_sheet_24 : decode cX8_sheet 24 = .ok (.bipush 32, 2) := by decide +kernel
theorem dX8_sheet_26 : decode cX8_sheet 26 = .ok (.if_icmp .eq 10, 3) := by decide +kernel
theorem dX8_sheet_29 : decode cX8_sheet 29 = .ok (.aload_n 0, 1) := by decide +kernel
theorem dX8_sheet_30 : decode cX8_sheet 30 = .ok (.ldc 77, 2) := by decide +kernel
theorem dX8_sheet_32 : decode cX8_sheet 32 = .ok (.invokevirtual 78, 3) := by decide +kernel
theorem dX8_sheet_35 : decode cX8_sheet 35 = .ok (.ireturn, 1) := by decide +kernel
theorem dX8_sheet_36 : decode cX8_sheet 36 = .ok (.iload_n 2, 1) := by decide +kernel
theorem dX8_sheet_37 : decode cX8_sheet 37 = .ok (.ifCond .le 14, 3) := by decide +kernel
theorem dX8_sheet_40 : decode cX8_sheet 40 = .ok (.iload_n 3, 1) := by decide +kernel
theorem dX8_sheet_41 : decode cX8_sheet 41 = .ok (.ifCond .ge 10, 3) := by decide +kernel
theorem dX8_sheet_44 : decode cX8_sheet 44 = .ok (.aload_n 0, 1) := by decide +kernel
theorem dX8_sheet_45 : decode cX8_sheet 45 = .ok (.ldc 99, 2) := by decide +kernel
theorem dX8_sheet_47 : decode cX8_sheet 47 = .ok (.invokevirtual 78, 3) := by decide +kernel
theorem dX8_sheet_50 : decode cX8_sheet 50 = .ok (.ireturn, 1) := by decide +kernel
theorem dX8_sheet_51 : decode cX8_sheet 51 = .ok (.iload_n 2, 1) := by decide +kernel
theorem dX8_sheet_52 : decode cX8_sheet 52 = .ok (.ifCond .le 16, 3) := by decide +kernel
theorem dX8_sheet_55 : decode cX8_sheet 55 = .ok (.iload_n 3, 1) := by decide +kernel
theorem dX8_sheet_56 : decode cX8_sheet 56 = .ok (.bipush 24, 2) := by decide +kernel
theorem dX8_sheet_58 : decode cX8_sheet 58 = .ok (.if_icmp .le 10, 3) := by decide +kernel
theorem dX8_sheet_61 : decode cX8_sheet 61 = .ok (.aload_n 0, 1) := by decide +kernel
theorem dX8_sheet_62 : decode cX8_sheet 62 = .ok (.ldc 77, 2) := by decide +kernel
theorem dX8_sheet_64 : decode cX8_sheet 64 = .ok (.invokevirtual 78, 3) := by decide +kernel
theorem dX8_sheet_67 : decode cX8_sheet 67 = .ok (.ireturn, 1) := by decide +kernel
theorem dX8_sheet_68 : decode cX8_sheet 68 = .ok (.aload_n 0, 1) := by decide +kernel
theorem dX8_sheet_69 : decode cX8_sheet 69 = .ok (.getfield 22, 3) := by decide +kernel
theorem dX8_sheet_72 : decode cX8_sheet 72 = .ok (.iload_n 1, 1) := by decide +kernel
theorem dX8_sheet_73 : decode cX8_sheet 73 = .ok (.iload_n 2, 1) := by decide +kernel
theorem dX8_sheet_74 : decode cX8_sheet 74 = .ok (.iastore, 1) := by decide +kernel
theorem dX8_sheet_75 : decode cX8_sheet 75 = .ok (.aload_n 0, 1) := by decide +kernel
theorem dX8_sheet_76 : decode cX8_sheet 76 = .ok (.getfield 25, 3) := by decide +kernel
theorem dX8_sheet_79 : decode cX8_sheet 79 = .ok (.iload_n 1, 1) := by decide +kernel
theorem dX8_sheet_80 : decode cX8_sheet 80 = .ok (.iload_n 2, 1) := by decide +kernel
theorem dX8_sheet_81 : decode cX8_sheet 81 = .ok (.ifCond .ne 7, 3) := by decide +kernel
theorem dX8_sheet_84 : decode cX8_sheet 84 = .ok (.iconst 0, 1) := by decide +kernel
theorem dX8_sheet_85 : decode cX8_sheet 85 = .ok (.goto 4, 3) := by decide +kernel
theorem dX8_sheet_88 : decode cX8_sheet 88 = .ok (.iload_n 3, 1) := by decide +kernel
theorem dX8_sheet_89 : decode cX8_sheet 89 = .ok (.iastore, 1) := by decide +kernel
theorem dX8_sheet_90 : decode cX8_sheet 90 = .ok (.iconst 0, 1) := by decide +kernel
theorem dX8_sheet_91 : decode cX8_sheet 91 = .ok (.istore 4, 2) := by decide +kernel
theorem dX8_sheet_93 : decode cX8_sheet 93 = .ok (.iload 4, 2) := by decide +kernel
theorem dX8_sheet_95 : decode cX8_sheet 95 = .ok (.bipush 24, 2) := by decide +kernel
theorem dX8_sheet_97 : decode cX8_sheet 97 = .ok (.if_icmp .ge 22, 3) := by decide +kernel
theorem dX8_sheet_100 : decode cX8_sheet 100 = .ok (.aload_n 0, 1) := by decide +kernel
theorem dX8_sheet_101 : decode cX8_sheet 101 = .ok (.getfield 28, 3) := by decide +kernel
theorem dX8_sheet_104 : decode cX8_sheet 104 = .ok (.bipush 24, 2) := by decide +kernel
theorem dX8_sheet_106 : decode cX8_sheet 106 = .ok (.iload_n 1, 1) := by decide +kernel
theorem dX8_sheet_107 : decode cX8_sheet 107 = .ok (.imul, 1) := by decide +kernel
theorem dX8_sheet_108 : decode cX8_sheet 108 = .ok (.iload 4, 2) := by decide +kernel
theorem dX8_sheet_110 : decode cX8_sheet 110 = .ok (.iadd, 1) := by decide +kernel
theorem dX8_sheet_111 : decode cX8_sheet 111 = .ok (.iconst 0, 1) := by decide +kernel
theorem dX8_sheet_112 : decode cX8_sheet 112 = .ok (.iastore, 1) := by decide +kernel
theorem dX8_sheet_113 : decode cX8_sheet 113 = .ok (.iinc 4 1, 3) := by decide +kernel
theorem dX8_sheet_116 : decode cX8_sheet 116 = .ok (.goto (-23), 3) := by decide +kernel
theorem dX8_sheet_119 : decode cX8_sheet 119 = .ok (.iconst 1, 1) := by decide +kernel
theorem dX8_sheet_120 : decode cX8_sheet 120 = .ok (.ireturn, 1) := by decide +kernel
theorem dX8_notThere_0 : decode cX8_notThere 0 = .ok (.iload_n 1, 1) := by decide +kernel
theorem dX8_notThere_1 : decode cX8_notThere 1 = .ok (.invokestatic 269, 3) := by decide +kernel
theorem dX8_notThere_4 : decode cX8_notThere 4 = .ok (.ifCond .ne 8, 3) := by decide +kernel
theorem dX8_notThere_7 : decode cX8_notThere 7 = .ok (.ldc 77, 2) := by decide +kernel
theorem dX8_notThere_9 : decode cX8_notThere 9 = .ok (.goto 18, 3) := by decide +kernel
theorem dX8_notThere_12 : decode cX8_notThere 12 = .ok (.aload_n 0, 1) := by decide +kernel
theorem dX8_notThere_13 : decode cX8_notThere 13 = .ok (.getfield 22, 3) := by decide +kernel
theorem dX8_notThere_16 : decode cX8_notThere 16 = .ok (.iload_n 1, 1) := by decide +kernel
theorem dX8_notThere_17 : decode cX8_notThere 17 = .ok (.iaload, 1) := by decide +kernel
theorem dX8_notThere_18 : decode cX8_notThere 18 = .ok (.ifCond .ne 8, 3) := by decide +kernel
theorem dX8_notThere_21 : decode cX8_notThere 21 = .ok (.ldc 203, 2) := by decide +kernel
theorem dX8_notThere_23 : decode cX8_notThere 23 = .ok (.goto 4, 3) := by decide +kernel
theorem dX8_notThere_26 : decode cX8_notThere 26 = .ok (.iconst 0, 1) := by decide +kernel
theorem dX8_notThere_27 : decode cX8_notThere 27 = .ok (.ireturn, 1) := by decide +kernel
theorem dX8_put_0 : decode cX8_put 0 = .ok (.aload_n 0, 1) := by decide +kernel
theorem dX8_put_1 : decode cX8_put 1 = .ok (.iload_n 1, 1) := by decide +kernel
theorem dX8_put_2 : decode cX8_put 2 = .ok (.invokevirtual 223, 3) := by decide +kernel
theorem dX8_put_5 : decode cX8_put 5 = .ok (.istore 4, 2) := by decide +kernel
theorem dX8_put_7 : decode cX8_put 7 = .ok (.iload 4, 2) := by decide +kernel
theorem dX8_put_9 : decode cX8_put 9 = .ok (.ifCond .ne 24, 3) := by decide +kernel
theorem dX8_put_12 : decode cX8_put 12 = .ok (.iload_n 2, 1) := by decide +kernel
theorem dX8_put_13 : decode cX8_put 13 = .ok (.iconst 0, 1) := by decide +kernel
theorem dX8_put_14 : decode cX8_put 14 = .ok (.aload_n 0, 1) := by decide +kernel
theorem dX8_put_15 : decode cX8_put 15 = .ok (.getfield 25, 3) := by decide +kernel
theorem dX8_put_18 : decode cX8_put 18 = .ok (.iload_n 1, 1) := by decide +kernel
theorem dX8_put_19 : decode cX8_put 19 = .ok (.iaload, 1) := by decide +kernel
theorem dX8_put_20 : decode cX8_put 20 = .ok (.iconst 1, 1) := by decide +kernel
theorem dX8_put_21 : decode cX8_put 21 = .ok (.isub, 1) := by decide +kernel
theorem dX8_put_22 : decode cX8_put 22 = .ok (.invokestatic 57, 3) := by decide +kernel
theorem dX8_put_25 : decode cX8_put 25 = .ok (.ifCond .ne 8, 3) := by decide +kernel
theorem dX8_put_28 : decode cX8_put 28 = .ok (.ldc 77, 2) := by decide +kernel
theorem dX8_put_30 : decode cX8_put 30 = .ok (.goto 5, 3) := by decide +kernel
theorem dX8_put_33 : decode cX8_put 33 = .ok (.iload 4, 2) := by decide +kernel
theorem dX8_put_35 : decode cX8_put 35 = .ok (.istore 4, 2) := by decide +kernel
theorem dX8_put_37 : decode cX8_put 37 = .ok (.iload 4, 2) := by decide +kernel
theorem dX8_put_39 : decode cX8_put 39 = .ok (.ifCond .eq 10, 3) := by decide +kernel
theorem dX8_put_42 : decode cX8_put 42 = .ok (.aload_n 0, 1) := by decide +kernel
theorem dX8_put_43 : decode cX8_put 43 = .ok (.iload 4, 2) := by decide +kernel
theorem dX8_put_45 : decode cX8_put 45 = .ok (.invokevirtual 78, 3) := by decide +kernel
theorem dX8_put_48 : decode cX8_put 48 = .ok (.ireturn, 1) := by decide +kernel
theorem dX8_put_49 : decode cX8_put 49 = .ok (.aload_n 0, 1) := by decide +kernel
theorem dX8_put_50 : decode cX8_put 50 = .ok (.getfield 28, 3) := by decide +kernel
theorem dX8_put_53 : decode cX8_put 53 = .ok (.bipush 24, 2) := by decide +kernel
theorem dX8_put_55 : decode cX8_put 55 = .ok (.iload_n 1, 1) := by decide +kernel
theorem dX8_put_56 : decode cX8_put 56 = .ok (.imul, 1) := by decide +kernel
theorem dX8_put_57 : decode cX8_put 57 = .ok (.iload_n 2, 1) := by decide +kernel
theorem dX8_put_58 : decode cX8_put 58 = .ok (.iadd, 1) := by decide +kernel
theorem dX8_put_59 : decode cX8_put 59 = .ok (.aload_n 0, 1) := by decide +kernel
theorem dX8_put_60 : decode cX8_put 60 = .ok (.getfield 22, 3) := by decide +kernel
theorem dX8_put_63 : decode cX8_put 63 = .ok (.iload_n 1, 1) := by decide +kernel
theorem dX8_put_64 : decode cX8_put 64 = .ok (.iaload, 1) := by decide +kernel
theorem dX8_put_65 : decode cX8_put 65 = .ok (.bipush 8, 2) := by decide +kernel
theorem dX8_put_67 : decode cX8_put 67 = .ok (.if_icmp .ne 8, 3) := by decide +kernel
theorem dX8_put_70 : decode cX8_put 70 = .ok (.iload_n 3, 1) := by decide +kernel
theorem dX8_put_71 : decode cX8_put 71 = .ok (.i2b, 1) := by decide +kernel
theorem dX8_put_72 : decode cX8_put 72 = .ok (.goto 20, 3) := by decide +kernel
theorem dX8_put_75 : decode cX8_put 75 = .ok (.aload_n 0, 1) := by decide +kernel
theorem dX8_put_76 : decode cX8_put 76 = .ok (.getfield 22, 3) := by decide +kernel
theorem dX8_put_79 : decode cX8_put 79 = .ok (.iload_n 1, 1) := by decide +kernel
theorem dX8_put_80 : decode cX8_put 80 = .ok (.iaload, 1) := by decide +kernel
theorem dX8_put_81 : decode cX8_put 81 = .ok (.bipush 16, 2) := by decide +kernel
theorem dX8_put_83 : decode cX8_put 83 = .ok (.if_icmp .ne 8, 3) := by decide +kernel
theorem dX8_put_86 : decode cX8_put 86 = .ok (.iload_n 3, 1) := by decide +kernel
theorem dX8_put_87 : decode cX8_put 87 = .ok (.i2s, 1) := by decide +kernel
theorem dX8_put_88 : decode cX8_put 88 = .ok (.goto 4, 3) := by decide +kernel
theorem dX8_put_91 : decode cX8_put 91 = .ok (.iload_n 3, 1) := by decide +kernel
theorem dX8_put_92 : decode cX8_put 92 = .ok (.iastore, 1) := by decide +kernel
theorem dX8_put_93 : decode cX8_put 93 = .ok (.iconst 1, 1) := by decide +kernel
theorem dX8_put_94 : decode cX8_put 94 = .ok (.ireturn, 1) := by decide +kernel
theorem dX8_notMoved_0 : decode cX8_notMoved 0 = .ok (.iload_n 1, 1) := by decide +kernel
theorem dX8_notMoved_1 : decode cX8_notMoved 1 = .ok (.invokestatic 269, 3) := by decide +kernel
theorem dX8_notMoved_4 : decode cX8_notMoved 4 = .ok (.ifCond .eq 10, 3) := by decide +kernel
theorem dX8_notMoved_7 : decode cX8_notMoved 7 = .ok (.iload_n 3, 1) := by decide +kernel
theorem dX8_notMoved_8 : decode cX8_notMoved 8 = .ok (.invokestatic 269, 3) := by decide +kernel
theorem dX8_notMoved_11 : decode cX8_notMoved 11 = .ok (.ifCond .ne 6, 3) := by decide +kernel
theorem dX8_notMoved_14 : decode cX8_notMoved 14 = .ok (.ldc 77, 2) := by decide +kernel
theorem dX8_notMoved_16 : decode cX8_notMoved 16 = .ok (.ireturn, 1) := by decide +kernel
theorem dX8_notMoved_17 : decode cX8_notMoved 17 = .ok (.aload_n 0, 1) := by decide +kernel
theorem dX8_notMoved_18 : decode cX8_notMoved 18 = .ok (.getfield 22, 3) := by decide +kernel
theorem dX8_notMoved_21 : decode cX8_notMoved 21 = .ok (.iload_n 1, 1) := by decide +kernel
theorem dX8_notMoved_22 : decode cX8_notMoved 22 = .ok (.iaload, 1) := by decide +kernel
theorem dX8_notMoved_23 : decode cX8_notMoved 23 = .ok (.ifCond .eq 12, 3) := by decide +kernel
theorem dX8_notMoved_26 : decode cX8_notMoved 26 = .ok (.aload_n 0, 1) := by decide +kernel
theorem dX8_notMoved_27 : decode cX8_notMoved 27 = .ok (.getfield 22, 3) := by decide +kernel
theorem dX8_notMoved_30 : decode cX8_notMoved 30 = .ok (.iload_n 3, 1) := by decide +kernel
theorem dX8_notMoved_31 : decode cX8_notMoved 31 = .ok (.iaload, 1) := by decide +kernel
theorem dX8_notMoved_32 : decode cX8_notMoved 32 = .ok (.ifCond .ne 6, 3) := by decide +kernel
theorem dX8_notMoved_35 : decode cX8_notMoved 35 = .ok (.ldc 203, 2) := by decide +kernel
theorem dX8_notMoved_37 : decode cX8_notMoved 37 = .ok (.ireturn, 1) := by decide +kernel
theorem dX8_notMoved_38 : decode cX8_notMoved 38 = .ok (.aload_n 0, 1) := by decide +kernel
theorem dX8_notMoved_39 : decode cX8_notMoved 39 = .ok (.getfield 22, 3) := by decide +kernel
theorem dX8_notMoved_42 : decode cX8_notMoved 42 = .ok (.iload_n 1, 1) := by decide +kernel
theorem dX8_notMoved_43 : decode cX8_notMoved 43 = .ok (.iaload, 1) := by decide +kernel
theorem dX8_notMoved_44 : decode cX8_notMoved 44 = .ok (.aload_n 0, 1) := by decide +kernel
theorem dX8_notMoved_45 : decode cX8_notMoved 45 = .ok (.getfield 22, 3) := by decide +kernel
theorem dX8_notMoved_48 : decode cX8_notMoved 48 = .ok (.iload_n 3, 1) := by decide +kernel
theorem dX8_notMoved_49 : decode cX8_notMoved 49 = .ok (.iaload, 1) := by decide +kernel
theorem dX8_notMoved_50 : decode cX8_notMoved 50 = .ok (.if_icmp .eq 6, 3) := by decide +kernel
theorem dX8_notMoved_53 : decode cX8_notMoved 53 = .ok (.ldc 98, 2) := by decide +kernel
theorem dX8_notMoved_55 : decode cX8_notMoved 55 = .ok (.ireturn, 1) := by decide +kernel
theorem dX8_notMoved_56 : decode cX8_notMoved 56 = .ok (.iload 5, 2) := by decide +kernel
theorem dX8_notMoved_58 : decode cX8_notMoved 58 = .ok (.ifCond .lt 43, 3) := by decide +kernel
theorem dX8_notMoved_61 : decode cX8_notMoved 61 = .ok (.iload_n 2, 1) := by decide +kernel
theorem dX8_notMoved_62 : decode cX8_notMoved 62 = .ok (.ifCond .lt 39, 3) := by decide +kernel
theorem dX8_notMoved_65 : decode cX8_notMoved 65 = .ok (.iload 4, 2) := by decide +kernel
theorem dX8_notMoved_67 : decode cX8_notMoved 67 = .ok (.ifCond .lt 34, 3) := by decide +kernel
theorem dX8_notMoved_70 : decode cX8_notMoved 70 = .ok (.iload 5, 2) := by decide +kernel
theorem dX8_notMoved_72 : decode cX8_notMoved 72 = .ok (.aload_n 0, 1) := by decide +kernel
theorem dX8_notMoved_73 : decode cX8_notMoved 73 = .ok (.getfield 25, 3) := by decide +kernel
theorem dX8_notMoved_76 : decode cX8_notMoved 76 = .ok (.iload_n 1, 1) := by decide +kernel
theorem dX8_notMoved_77 : decode cX8_notMoved 77 = .ok (.iaload, 1) := by decide +kernel
theorem dX8_notMoved_78 : decode cX8_notMoved 78 = .ok (.iload_n 2, 1) := by decide +kernel
theorem dX8_notMoved_79 : decode cX8_notMoved 79 = .ok (.isub, 1) := by decide +kernel
theorem dX8_notMoved_80 : decode cX8_notMoved 80 = .ok (.if_icmp .gt 21, 3) := by decide +kernel
theorem dX8_notMoved_83 : decode cX8_notMoved 83 = .ok (.iload 5, 2) := by decide +kernel
theorem dX8_notMoved_85 : decode cX8_notMoved 85 = .ok (.aload_n 0, 1) := by decide +kernel
theorem dX8_notMoved_86 : decode cX8_notMoved 86 = .ok (.getfield 25, 3) := by decide +kernel
theorem dX8_notMoved_89 : decode cX8_notMoved 89 = .ok (.iload_n 3, 1) := by decide +kernel
theorem dX8_notMoved_90 : decode cX8_notMoved 90 = .ok (.iaload, 1) := by decide +kernel
theorem dX8_notMoved_91 : decode cX8_notMoved 91 = .ok (.iload 4, 2) := by decide +kernel
theorem dX8_notMoved_93 : decode cX8_notMoved 93 = .ok (.isub, 1) := by decide +kernel
theorem dX8_notMoved_94 : decode cX8_notMoved 94 = .ok (.if_icmp .gt 7, 3) := by decide +kernel
theorem dX8_notMoved_97 : decode cX8_notMoved 97 = .ok (.iconst 1, 1) := by decide +kernel
theorem dX8_notMoved_98 : decode cX8_notMoved 98 = .ok (.goto 4, 3) := by decide +kernel
theorem dX8_notMoved_101 : decode cX8_notMoved 101 = .ok (.iconst 0, 1) := by decide +kernel
theorem dX8_notMoved_102 : decode cX8_notMoved 102 = .ok (.istore 6, 2) := by decide +kernel
theorem dX8_notMoved_104 : decode cX8_notMoved 104 = .ok (.iload 6, 2) := by decide +kernel
theorem dX8_notMoved_106 : decode cX8_notMoved 106 = .ok (.ifCond .eq 7, 3) := by decide +kernel
theorem dX8_notMoved_109 : decode cX8_notMoved 109 = .ok (.iconst 0, 1) := by decide +kernel
theorem dX8_notMoved_110 : decode cX8_notMoved 110 = .ok (.goto 5, 3) := by decide +kernel
theorem dX8_notMoved_113 : decode cX8_notMoved 113 = .ok (.ldc 77, 2) := by decide +kernel
theorem dX8_notMoved_115 : decode cX8_notMoved 115 = .ok (.ireturn, 1) := by decide +kernel
theorem dX8_move_0 : decode cX8_move 0 = .ok (.aload_n 0, 1) := by decide +kernel
theorem dX8_move_1 : decode cX8_move 1 = .ok (.iload_n 1, 1) := by decide +kernel
theorem dX8_move_2 : decode cX8_move 2 = .ok (.iload_n 2, 1) := by decide +kernel
theorem dX8_move_3 : decode cX8_move 3 = .ok (.iload_n 3, 1) := by decide +kernel
theorem dX8_move_4 : decode cX8_move 4 = .ok (.iload 4, 2) := by decide +kernel
theorem dX8_move_6 : decode cX8_move 6 = .ok (.iload 5, 2) := by decide +kernel
theorem dX8_move_8 : decode cX8_move 8 = .ok (.invokevirtual 272, 3) := by decide +kernel
theorem dX8_move_11 : decode cX8_move 11 = .ok (.istore 6, 2) := by decide +kernel
theorem dX8_move_13 : decode cX8_move 13 = .ok (.iload 6, 2) := by decide +kernel
theorem dX8_move_15 : decode cX8_move 15 = .ok (.ifCond .eq 10, 3) := by decide +kernel
theorem dX8_move_18 : decode cX8_move 18 = .ok (.aload_n 0, 1) := by decide +kernel
theorem dX8_move_19 : decode cX8_move 19 = .ok (.iload 6, 2) := by decide +kernel
theorem dX8_move_21 : decode cX8_move 21 = .ok (.invokevirtual 78, 3) := by decide +kernel
theorem dX8_move_24 : decode cX8_move 24 = .ok (.ireturn, 1) := by decide +kernel
theorem dX8_move_25 : decode cX8_move 25 = .ok (.iconst 0, 1) := by decide +kernel
theorem dX8_move_26 : decode cX8_move 26 = .ok (.istore 7, 2) := by decide +kernel
theorem dX8_move_28 : decode cX8_move 28 = .ok (.iload 7, 2) := by decide +kernel
theorem dX8_move_30 : decode cX8_move 30 = .ok (.iload 5, 2) := by decide +kernel
theorem dX8_move_32 : decode cX8_move 32 = .ok (.if_icmp .ge 58, 3) := by decide +kernel
theorem dX8_move_35 : decode cX8_move 35 = .ok (.iload_n 2, 1) := by decide +kernel
theorem dX8_move_36 : decode cX8_move 36 = .ok (.iload 4, 2) := by decide +kernel
theorem dX8_move_38 : decode cX8_move 38 = .ok (.if_icmp .ge 13, 3) := by decide +kernel
theorem dX8_move_41 : decode cX8_move 41 = .ok (.iload 5, 2) := by decide +kernel
theorem dX8_move_43 : decode cX8_move 43 = .ok (.iconst 1, 1) := by decide +kernel
theorem dX8_move_44 : decode cX8_move 44 = .ok (.isub, 1) := by decide +kernel
theorem dX8_move_45 : decode cX8_move 45 = .ok (.iload 7, 2) := by decide +kernel
theorem dX8_move_47 : decode cX8_move 47 = .ok (.isub, 1) := by decide +kernel
theorem dX8_move_48 : decode cX8_move 48 = .ok (.goto 5, 3) := by decide +kernel
theorem dX8_move_51 : decode cX8_move 51 = .ok (.iload 7, 2) := by decide +kernel
theorem dX8_move_53 : decode cX8_move 53 = .ok (.istore 8, 2) := by decide +kernel
theorem dX8_move_55 : decode cX8_move 55 = .ok (.aload_n 0, 1) := by decide +kernel
theorem dX8_move_56 : decode cX8_move 56 = .ok (.getfield 28, 3) := by decide +kernel
theorem dX8_move_59 : decode cX8_move 59 = .ok (.bipush 24, 2) := by decide +kernel
theorem dX8_move_61 : decode cX8_move 61 = .ok (.iload_n 3, 1) := by decide +kernel
theorem dX8_move_62 : decode cX8_move 62 = .ok (.imul, 1) := by decide +kernel
theorem dX8_move_63 : decode cX8_move 63 = .ok (.iload 4, 2) := by decide +kernel
theorem dX8_move_65 : decode cX8_move 65 = .ok (.iadd, 1) := by decide +kernel
theorem dX8_move_66 : decode cX8_move 66 = .ok (.iload 8, 2) := by decide +kernel
theorem dX8_move_68 : decode cX8_move 68 = .ok (.iadd, 1) := by decide +kernel
theorem dX8_move_69 : decode cX8_move 69 = .ok (.aload_n 0, 1) := by decide +kernel
theorem dX8_move_70 : decode cX8_move 70 = .ok (.getfield 28, 3) := by decide +kernel
theorem dX8_move_73 : decode cX8_move 73 = .ok (.bipush 24, 2) := by decide +kernel
theorem dX8_move_75 : decode cX8_move 75 = .ok (.iload_n 1, 1) := by decide +kernel
theorem dX8_move_76 : decode cX8_move 76 = .ok (.imul, 1) := by decide +kernel
theorem dX8_move_77 : decode cX8_move 77 = .ok (.iload_n 2, 1) := by decide +kernel
theorem dX8_move_78 : decode cX8_move 78 = .ok (.iadd, 1) := by decide +kernel
theorem dX8_move_79 : decode cX8_move 79 = .ok (.iload 8, 2) := by decide +kernel
theorem dX8_move_81 : decode cX8_move 81 = .ok (.iadd, 1) := by decide +kernel
theorem dX8_move_82 : decode cX8_move 82 = .ok (.iaload, 1) := by decide +kernel
theorem dX8_move_83 : decode cX8_move 83 = .ok (.iastore, 1) := by decide +kernel
theorem dX8_move_84 : decode cX8_move 84 = .ok (.iinc 7 1, 3) := by decide +kernel
theorem dX8_move_87 : decode cX8_move 87 = .ok (.goto (-59), 3) := by decide +kernel
theorem dX8_move_90 : decode cX8_move 90 = .ok (.iload 5, 2) := by decide +kernel
theorem dX8_move_92 : decode cX8_move 92 = .ok (.ireturn, 1) := by decide +kernel
theorem dX8_weights_0 : decode cX8_weights 0 = .ok (.aload_n 0, 1) := by decide +kernel
theorem dX8_weights_1 : decode cX8_weights 1 = .ok (.iload_n 1, 1) := by decide +kernel
theorem dX8_weights_2 : decode cX8_weights 2 = .ok (.invokevirtual 223, 3) := by decide +kernel
theorem dX8_weights_5 : decode cX8_weights 5 = .ok (.istore_n 2, 1) := by decide +kernel
theorem dX8_weights_6 : decode cX8_weights 6 = .ok (.iload_n 2, 1) := by decide +kernel
theorem dX8_weights_7 : decode cX8_weights 7 = .ok (.ifCond .eq 9, 3) := by decide +kernel
theorem dX8_weights_10 : decode cX8_weights 10 = .ok (.aload_n 0, 1) := by decide +kernel
theorem dX8_weights_11 : decode cX8_weights 11 = .ok (.iload_n 2, 1) := by decide +kernel
theorem dX8_weights_12 : decode cX8_weights 12 = .ok (.invokevirtual 78, 3) := by decide +kernel
theorem dX8_weights_15 : decode cX8_weights 15 = .ok (.ireturn, 1) := by decide +kernel
theorem dX8_weights_16 : decode cX8_weights 16 = .ok (.iconst 0, 1) := by decide +kernel
theorem dX8_weights_17 : decode cX8_weights 17 = .ok (.istore_n 3, 1) := by decide +kernel
theorem dX8_weights_18 : decode cX8_weights 18 = .ok (.iload_n 3, 1) := by decide +kernel
theorem dX8_weights_19 : decode cX8_weights 19 = .ok (.aload_n 0, 1) := by decide +kernel
theorem dX8_weights_20 : decode cX8_weights 20 = .ok (.getfield 25, 3) := by decide +kernel
theorem dX8_weights_23 : decode cX8_weights 23 = .ok (.iload_n 1, 1) := by decide +kernel
theorem dX8_weights_24 : decode cX8_weights 24 = .ok (.iaload, 1) := by decide +kernel
theorem dX8_weights_25 : decode cX8_weights 25 = .ok (.if_icmp .ge 63, 3) := by decide +kernel
theorem dX8_weights_28 : decode cX8_weights 28 = .ok (.iload_n 3, 1) := by decide +kernel
theorem dX8_weights_29 : decode cX8_weights 29 = .ok (.aload_n 0, 1) := by decide +kernel
theorem dX8_weights_30 : decode cX8_weights 30 = .ok (.getfield 9, 3) := by decide +kernel
theorem dX8_weights_33 : decode cX8_weights 33 = .ok (.iconst 2, 1) := by decide +kernel
theorem dX8_weights_34 : decode cX8_weights 34 = .ok (.iaload, 1) := by decide +kernel
theorem dX8_weights_35 : decode cX8_weights 35 = .ok (.if_icmp .ge 53, 3) := by decide +kernel
theorem dX8_weights_38 : decode cX8_weights 38 = .ok (.aload_n 0, 1) := by decide +kernel
theorem dX8_weights_39 : decode cX8_weights 39 = .ok (.getfield 28, 3) := by decide +kernel
theorem dX8_weights_42 : decode cX8_weights 42 = .ok (.bipush 24, 2) := by decide +kernel
theorem dX8_weights_44 : decode cX8_weights 44 = .ok (.iload_n 1, 1) := by decide +kernel
theorem dX8_weights_45 : decode cX8_weights 45 = .ok (.imul, 1) := by decide +kernel
theorem dX8_weights_46 : decode cX8_weights 46 = .ok (.iload_n 3, 1) := by decide +kernel
theorem dX8_weights_47 : decode cX8_weights 47 = .ok (.iadd, 1) := by decide +kernel
theorem dX8_weights_48 : decode cX8_weights 48 = .ok (.iaload, 1) := by decide +kernel
theorem dX8_weights_49 : decode cX8_weights 49 = .ok (.iconst 0, 1) := by decide +kernel
theorem dX8_weights_50 : decode cX8_weights 50 = .ok (.bipush 99, 2) := by decide +kernel
theorem dX8_weights_52 : decode cX8_weights 52 = .ok (.invokestatic 57, 3) := by decide +kernel
theorem dX8_weights_55 : decode cX8_weights 55 = .ok (.ifCond .eq 33, 3) := by decide +kernel
theorem dX8_weights_58 : decode cX8_weights 58 = .ok (.aload_n 0, 1) := by decide +kernel
theorem dX8_weights_59 : decode cX8_weights 59 = .ok (.getfield 9, 3) := by decide +kernel
theorem dX8_weights_62 : decode cX8_weights 62 = .ok (.bipush 17, 2) := by decide +kernel
theorem dX8_weights_64 : decode cX8_weights 64 = .ok (.iconst 4, 1) := by decide +kernel
theorem dX8_weights_65 : decode cX8_weights 65 = .ok (.iload_n 3, 1) := by decide +kernel
theorem dX8_weights_66 : decode cX8_weights 66 = .ok (.imul, 1) := by decide +kernel
theorem dX8_weights_67 : decode cX8_weights 67 = .ok (.iadd, 1) := by decide +kernel
theorem dX8_weights_68 : decode cX8_weights 68 = .ok (.iconst 2, 1) := by decide +kernel
theorem dX8_weights_69 : decode cX8_weights 69 = .ok (.iadd, 1) := by decide +kernel
theorem dX8_weights_70 : decode cX8_weights 70 = .ok (.aload_n 0, 1) := by decide +kernel
theorem dX8_weights_71 : decode cX8_weights 71 = .ok (.getfield 28, 3) := by decide +kernel
theorem dX8_weights_74 : decode cX8_weights 74 = .ok (.bipush 24, 2) := by decide +kernel
theorem dX8_weights_76 : decode cX8_weights 76 = .ok (.iload_n 1, 1) := by decide +kernel
theorem dX8_weights_77 : decode cX8_weights 77 = .ok (.imul, 1) := by decide +kernel
theorem dX8_weights_78 : decode cX8_weights 78 = .ok (.iload_n 3, 1) := by decide +kernel
theorem dX8_weights_79 : decode cX8_weights 79 = .ok (.iadd, 1) := by decide +kernel
theorem dX8_weights_80 : decode cX8_weights 80 = .ok (.iaload, 1) := by decide +kernel
theorem dX8_weights_81 : decode cX8_weights 81 = .ok (.iastore, 1) := by decide +kernel
theorem dX8_weights_82 : decode cX8_weights 82 = .ok (.iinc 3 1, 3) := by decide +kernel
theorem dX8_weights_85 : decode cX8_weights 85 = .ok (.goto (-67), 3) := by decide +kernel
theorem dX8_weights_88 : decode cX8_weights 88 = .ok (.iload_n 3, 1) := by decide +kernel
theorem dX8_weights_89 : decode cX8_weights 89 = .ok (.ireturn, 1) := by decide +kernel
theorem dX8_judge_0 : decode cX8_judge 0 = .ok (.aload_n 0, 1) := by decide +kernel
theorem dX8_judge_1 : decode cX8_judge 1 = .ok (.iload_n 1, 1) := by decide +kernel
theorem dX8_judge_2 : decode cX8_judge 2 = .ok (.invokevirtual 223, 3) := by decide +kernel
theorem dX8_judge_5 : decode cX8_judge 5 = .ok (.istore_n 2, 1) := by decide +kernel
theorem dX8_judge_6 : decode cX8_judge 6 = .ok (.iload_n 2, 1) := by decide +kernel
theorem dX8_judge_7 : decode cX8_judge 7 = .ok (.ifCond .eq 11, 3) := by decide +kernel
theorem dX8_judge_10 : decode cX8_judge 10 = .ok (.aload_n 0, 1) := by decide +kernel
theorem dX8_judge_11 : decode cX8_judge 11 = .ok (.iload_n 2, 1) := by decide +kernel
theorem dX8_judge_12 : decode cX8_judge 12 = .ok (.invokevirtual 78, 3) := by decide +kernel
theorem dX8_judge_15 : decode cX8_judge 15 = .ok (.goto 8, 3) := by decide +kernel
theorem dX8_judge_18 : decode cX8_judge 18 = .ok (.aload_n 0, 1) := by decide +kernel
theorem dX8_judge_19 : decode cX8_judge 19 = .ok (.iload_n 1, 1) := by decide +kernel
theorem dX8_judge_20 : decode cX8_judge 20 = .ok (.invokevirtual 226, 3) := by decide +kernel
theorem dX8_judge_23 : decode cX8_judge 23 = .ok (.ireturn, 1) := by decide +kernel
theorem dX8_image_0 : decode cX8_image 0 = .ok (.aload_n 0, 1) := by decide +kernel
theorem dX8_image_1 : decode cX8_image 1 = .ok (.getfield 9, 3) := by decide +kernel
theorem dX8_image_4 : decode cX8_image 4 = .ok (.aload_n 0, 1) := by decide +kernel
theorem dX8_image_5 : decode cX8_image 5 = .ok (.getfield 13, 3) := by decide +kernel
theorem dX8_image_8 : decode cX8_image 8 = .ok (.invokestatic 53, 3) := by decide +kernel
theorem dX8_image_11 : decode cX8_image 11 = .ok (.aload_n 0, 1) := by decide +kernel
theorem dX8_image_12 : decode cX8_image 12 = .ok (.dup, 1) := by decide +kernel
theorem dX8_image_13 : decode cX8_image 13 = .ok (.getfield 276, 3) := by decide +kernel
theorem dX8_image_16 : decode cX8_image 16 = .ok (.iconst 1, 1) := by decide +kernel
theorem dX8_image_17 : decode cX8_image 17 = .ok (.iadd, 1) := by decide +kernel
theorem dX8_image_18 : decode cX8_image 18 = .ok (.putfield 276, 3) := by decide +kernel
theorem dX8_image_21 : decode cX8_image 21 = .ok (.aload_n 0, 1) := by decide +kernel
theorem dX8_image_22 : decode cX8_image 22 = .ok (.getfield 276, 3) := by decide +kernel
theorem dX8_image_25 : decode cX8_image 25 = .ok (.ireturn, 1) := by decide +kernel
theorem dX8_restore_0 : decode cX8_restore 0 = .ok (.aload_n 0, 1) := by decide +kernel
theorem dX8_restore_1 : decode cX8_restore 1 = .ok (.getfield 276, 3) := by decide +kernel
theorem dX8_restore_4 : decode cX8_restore 4 = .ok (.ifCond .ne 10, 3) := by decide +kernel
theorem dX8_restore_7 : decode cX8_restore 7 = .ok (.aload_n 0, 1) := by decide +kernel
theorem dX8_restore_8 : decode cX8_restore 8 = .ok (.ldc 203, 2) := by decide +kernel
theorem dX8_restore_10 : decode cX8_restore 10 = .ok (.invokevirtual 78, 3) := by decide +kernel
theorem dX8_restore_13 : decode cX8_restore 13 = .ok (.ireturn, 1) := by decide +kernel
theorem dX8_restore_14 : decode cX8_restore 14 = .ok (.aload_n 0, 1) := by decide +kernel
theorem dX8_restore_15 : decode cX8_restore 15 = .ok (.getfield 13, 3) := by decide +kernel
theorem dX8_restore_18 : decode cX8_restore 18 = .ok (.aload_n 0, 1) := by decide +kernel
theorem dX8_restore_19 : decode cX8_restore 19 = .ok (.getfield 9, 3) := by decide +kernel
theorem dX8_restore_22 : decode cX8_restore 22 = .ok (.invokestatic 53, 3) := by decide +kernel
theorem dX8_restore_25 : decode cX8_restore 25 = .ok (.aload_n 0, 1) := by decide +kernel
theorem dX8_restore_26 : decode cX8_restore 26 = .ok (.getfield 9, 3) := by decide +kernel
theorem dX8_restore_29 : decode cX8_restore 29 = .ok (.iconst 0, 1) := by decide +kernel
theorem dX8_restore_30 : decode cX8_restore 30 = .ok (.iaload, 1) := by decide +kernel
theorem dX8_restore_31 : decode cX8_restore 31 = .ok (.ireturn, 1) := by decide +kernel
theorem dX8_tell_0 : decode cX8_tell 0 = .ok (.aload_n 0, 1) := by decide +kernel
theorem dX8_tell_1 : decode cX8_tell 1 = .ok (.getfield 9, 3) := by decide +kernel
theorem dX8_tell_4 : decode cX8_tell 4 = .ok (.bipush 6, 2) := by decide +kernel
theorem dX8_tell_6 : decode cX8_tell 6 = .ok (.iaload, 1) := by decide +kernel
theorem dX8_tell_7 : decode cX8_tell 7 = .ok (.bipush 24, 2) := by decide +kernel
theorem dX8_tell_9 : decode cX8_tell 9 = .ok (.if_icmp .ne 10, 3) := by decide +kernel
theorem dX8_tell_12 : decode cX8_tell 12 = .ok (.aload_n 0, 1) := by decide +kernel
theorem dX8_tell_13 : decode cX8_tell 13 = .ok (.ldc 81, 2) := by decide +kernel
theorem dX8_tell_15 : decode cX8_tell 15 = .ok (.invokevirtual 78, 3) := by decide +kernel
theorem dX8_tell_18 : decode cX8_tell 18 = .ok (.ireturn, 1) := by decide +kernel
theorem dX8_tell_19 : decode cX8_tell 19 = .ok (.aload_n 0, 1) := by decide +kernel
theorem dX8_tell_20 : decode cX8_tell 20 = .ok (.getfield 9, 3) := by decide +kernel
theorem dX8_tell_23 : decode cX8_tell 23 = .ok (.bipush 113, 2) := by decide +kernel
theorem dX8_tell_25 : decode cX8_tell 25 = .ok (.aload_n 0, 1) := by decide +kernel
theorem dX8_tell_26 : decode cX8_tell 26 = .ok (.getfield 9, 3) := by decide +kernel
theorem dX8_tell_29 : decode cX8_tell 29 = .ok (.bipush 6, 2) := by decide +kernel
theorem dX8_tell_31 : decode cX8_tell 31 = .ok (.iaload, 1) := by decide +kernel
theorem dX8_tell_32 : decode cX8_tell 32 = .ok (.iadd, 1) := by decide +kernel
theorem dX8_tell_33 : decode cX8_tell 33 = .ok (.iload_n 1, 1) := by decide +kernel
theorem dX8_tell_34 : decode cX8_tell 34 = .ok (.iastore, 1) := by decide +kernel
theorem dX8_tell_35 : decode cX8_tell 35 = .ok (.aload_n 0, 1) := by decide +kernel
theorem dX8_tell_36 : decode cX8_tell 36 = .ok (.getfield 9, 3) := by decide +kernel
theorem dX8_tell_39 : decode cX8_tell 39 = .ok (.bipush 6, 2) := by decide +kernel
theorem dX8_tell_41 : decode cX8_tell 41 = .ok (.dup2, 1) := by decide +kernel
theorem dX8_tell_42 : decode cX8_tell 42 = .ok (.iaload, 1) := by decide +kernel
theorem dX8_tell_43 : decode cX8_tell 43 = .ok (.iconst 1, 1) := by decide +kernel
theorem dX8_tell_44 : decode cX8_tell 44 = .ok (.iadd, 1) := by decide +kernel
theorem dX8_tell_45 : decode cX8_tell 45 = .ok (.iastore, 1) := by decide +kernel
theorem dX8_tell_46 : decode cX8_tell 46 = .ok (.aload_n 0, 1) := by decide +kernel
theorem dX8_tell_47 : decode cX8_tell 47 = .ok (.getfield 9, 3) := by decide +kernel
theorem dX8_tell_50 : decode cX8_tell 50 = .ok (.bipush 6, 2) := by decide +kernel
theorem dX8_tell_52 : decode cX8_tell 52 = .ok (.iaload, 1) := by decide +kernel
theorem dX8_tell_53 : decode cX8_tell 53 = .ok (.ireturn, 1) := by decide +kernel
theorem dX8_check_0 : decode cX8_check 0 = .ok (.aload_n 0, 1) := by decide +kernel
theorem dX8_check_1 : decode cX8_check 1 = .ok (.getfield 9, 3) := by decide +kernel
theorem dX8_check_4 : decode cX8_check 4 = .ok (.bipush 6, 2) := by decide +kernel
theorem dX8_check_6 : decode cX8_check 6 = .ok (.iaload, 1) := by decide +kernel
theorem dX8_check_7 : decode cX8_check 7 = .ok (.istore_n 1, 1) := by decide +kernel
theorem dX8_check_8 : decode cX8_check 8 = .ok (.aload_n 0, 1) := by decide +kernel
theorem dX8_check_9 : decode cX8_check 9 = .ok (.getfield 9, 3) := by decide +kernel
theorem dX8_check_12 : decode cX8_check 12 = .ok (.bipush 6, 2) := by decide +kernel
theorem dX8_check_14 : decode cX8_check 14 = .ok (.iconst 0, 1) := by decide +kernel
theorem dX8_check_15 : decode cX8_check 15 = .ok (.iastore, 1) := by decide +kernel
theorem dX8_check_16 : decode cX8_check 16 = .ok (.iconst 0, 1) := by decide +kernel
theorem dX8_check_17 : decode cX8_check 17 = .ok (.istore_n 2, 1) := by decide +kernel
theorem dX8_check_18 : decode cX8_check 18 = .ok (.iload_n 2, 1) := by decide +kernel
theorem dX8_check_19 : decode cX8_check 19 = .ok (.iload_n 1, 1) := by decide +kernel
theorem dX8_check_20 : decode cX8_check 20 = .ok (.if_icmp .ge 44, 3) := by decide +kernel
theorem dX8_check_23 : decode cX8_check 23 = .ok (.iload_n 2, 1) := by decide +kernel
theorem dX8_check_24 : decode cX8_check 24 = .ok (.aload_n 0, 1) := by decide +kernel
theorem dX8_check_25 : decode cX8_check 25 = .ok (.getfield 9, 3) := by decide +kernel
theorem dX8_check_28 : decode cX8_check 28 = .ok (.iconst 3, 1) := by decide +kernel
theorem dX8_check_29 : decode cX8_check 29 = .ok (.iaload, 1) := by decide +kernel
theorem dX8_check_30 : decode cX8_check 30 = .ok (.if_icmp .ge 24, 3) := by decide +kernel
theorem dX8_check_33 : decode cX8_check 33 = .ok (.aload_n 0, 1) := by decide +kernel
theorem dX8_check_34 : decode cX8_check 34 = .ok (.getfield 9, 3) := by decide +kernel
theorem dX8_check_37 : decode cX8_check 37 = .ok (.bipush 113, 2) := by decide +kernel
theorem dX8_check_39 : decode cX8_check 39 = .ok (.iload_n 2, 1) := by decide +kernel
theorem dX8_check_40 : decode cX8_check 40 = .ok (.iadd, 1) := by decide +kernel
theorem dX8_check_41 : decode cX8_check 41 = .ok (.iaload, 1) := by decide +kernel
theorem dX8_check_42 : decode cX8_check 42 = .ok (.aload_n 0, 1) := by decide +kernel
theorem dX8_check_43 : decode cX8_check 43 = .ok (.getfield 9, 3) := by decide +kernel
theorem dX8_check_46 : decode cX8_check 46 = .ok (.bipush 8, 2) := by decide +kernel
theorem dX8_check_48 : decode cX8_check 48 = .ok (.iload_n 2, 1) := by decide +kernel
theorem dX8_check_49 : decode cX8_check 49 = .ok (.iadd, 1) := by decide +kernel
theorem dX8_check_50 : decode cX8_check 50 = .ok (.iaload, 1) := by decide +kernel
theorem dX8_check_51 : decode cX8_check 51 = .ok (.if_icmp .eq 7, 3) := by decide +kernel
theorem dX8_check_54 : decode cX8_check 54 = .ok (.iconst 1, 1) := by decide +kernel
theorem dX8_check_55 : decode cX8_check 55 = .ok (.iload_n 2, 1) := by decide +kernel
theorem dX8_check_56 : decode cX8_check 56 = .ok (.iadd, 1) := by decide +kernel
theorem dX8_check_57 : decode cX8_check 57 = .ok (.ireturn, 1) := by decide +kernel
theorem dX8_check_58 : decode cX8_check 58 = .ok (.iinc 2 1, 3) := by decide +kernel
theorem dX8_check_61 : decode cX8_check 61 = .ok (.goto (-43), 3) := by decide +kernel
theorem dX8_check_64 : decode cX8_check 64 = .ok (.iconst 0, 1) := by decide +kernel
theorem dX8_check_65 : decode cX8_check 65 = .ok (.ireturn, 1) := by decide +kernel
theorem dX8_count_0 : decode cX8_count 0 = .ok (.iload_n 1, 1) := by decide +kernel
theorem dX8_count_1 : decode cX8_count 1 = .ok (.tableswitch 114 0 8 #[51, 58, 65, 72, 79, 86, 93, 101, 106], 51) := by decide +kernel
theorem dX8_count_52 : decode cX8_count 52 = .ok (.aload_n 0, 1) := by decide +kernel
theorem dX8_count_53 : decode cX8_count 53 = .ok (.getfield 9, 3) := by decide +kernel
theorem dX8_count_56 : decode cX8_count 56 = .ok (.iconst 2, 1) := by decide +kernel
theorem dX8_count_57 : decode cX8_count 57 = .ok (.iaload, 1) := by decide +kernel
theorem dX8_count_58 : decode cX8_count 58 = .ok (.ireturn, 1) := by decide +kernel
theorem dX8_count_59 : decode cX8_count 59 = .ok (.aload_n 0, 1) := by decide +kernel
theorem dX8_count_60 : decode cX8_count 60 = .ok (.getfield 9, 3) := by decide +kernel
theorem dX8_count_63 : decode cX8_count 63 = .ok (.iconst 3, 1) := by decide +kernel
theorem dX8_count_64 : decode cX8_count 64 = .ok (.iaload, 1) := by decide +kernel
theorem dX8_count_65 : decode cX8_count 65 = .ok (.ireturn, 1) := by decide +kernel
theorem dX8_count_66 : decode cX8_count 66 = .ok (.aload_n 0, 1) := by decide +kernel
theorem dX8_count_67 : decode cX8_count 67 = .ok (.getfield 9, 3) := by decide +kernel
theorem dX8_count_70 : decode cX8_count 70 = .ok (.iconst 0, 1) := by decide +kernel
theorem dX8_count_71 : decode cX8_count 71 = .ok (.iaload, 1) := by decide +kernel
theorem dX8_count_72 : decode cX8_count 72 = .ok (.ireturn, 1) := by decide +kernel
theorem dX8_count_73 : decode cX8_count 73 = .ok (.aload_n 0, 1) := by decide +kernel
theorem dX8_count_74 : decode cX8_count 74 = .ok (.getfield 9, 3) := by decide +kernel
theorem dX8_count_77 : decode cX8_count 77 = .ok (.iconst 1, 1) := by decide +kernel
theorem dX8_count_78 : decode cX8_count 78 = .ok (.iaload, 1) := by decide +kernel
theorem dX8_count_79 : decode cX8_count 79 = .ok (.ireturn, 1) := by decide +kernel
theorem dX8_count_80 : decode cX8_count 80 = .ok (.aload_n 0, 1) := by decide +kernel
theorem dX8_count_81 : decode cX8_count 81 = .ok (.getfield 9, 3) := by decide +kernel
theorem dX8_count_84 : decode cX8_count 84 = .ok (.iconst 4, 1) := by decide +kernel
theorem dX8_count_85 : decode cX8_count 85 = .ok (.iaload, 1) := by decide +kernel
theorem dX8_count_86 : decode cX8_count 86 = .ok (.ireturn, 1) := by decide +kernel
theorem dX8_count_87 : decode cX8_count 87 = .ok (.aload_n 0, 1) := by decide +kernel
theorem dX8_count_88 : decode cX8_count 88 = .ok (.getfield 9, 3) := by decide +kernel
theorem dX8_count_91 : decode cX8_count 91 = .ok (.iconst 5, 1) := by decide +kernel
theorem dX8_count_92 : decode cX8_count 92 = .ok (.iaload, 1) := by decide +kernel
theorem dX8_count_93 : decode cX8_count 93 = .ok (.ireturn, 1) := by decide +kernel
theorem dX8_count_94 : decode cX8_count 94 = .ok (.aload_n 0, 1) := by decide +kernel
theorem dX8_count_95 : decode cX8_count 95 = .ok (.getfield 9, 3) := by decide +kernel
theorem dX8_count_98 : decode cX8_count 98 = .ok (.bipush 6, 2) := by decide +kernel
theorem dX8_count_100 : decode cX8_count 100 = .ok (.iaload, 1) := by decide +kernel
theorem dX8_count_101 : decode cX8_count 101 = .ok (.ireturn, 1) := by decide +kernel
theorem dX8_count_102 : decode cX8_count 102 = .ok (.aload_n 0, 1) := by decide +kernel
theorem dX8_count_103 : decode cX8_count 103 = .ok (.getfield 229, 3) := by decide +kernel
theorem dX8_count_106 : decode cX8_count 106 = .ok (.ireturn, 1) := by decide +kernel
theorem dX8_count_107 : decode cX8_count 107 = .ok (.aload_n 0, 1) := by decide +kernel
theorem dX8_count_108 : decode cX8_count 108 = .ok (.getfield 9, 3) := by decide +kernel
theorem dX8_count_111 : decode cX8_count 111 = .ok (.bipush 7, 2) := by decide +kernel
theorem dX8_count_113 : decode cX8_count 113 = .ok (.iaload, 1) := by decide +kernel
theorem dX8_count_114 : decode cX8_count 114 = .ok (.ireturn, 1) := by decide +kernel
theorem dX8_count_115 : decode cX8_count 115 = .ok (.aload_n 0, 1) := by decide +kernel
theorem dX8_count_116 : decode cX8_count 116 = .ok (.ldc 77, 2) := by decide +kernel
theorem dX8_count_118 : decode cX8_count 118 = .ok (.invokevirtual 78, 3) := by decide +kernel
theorem dX8_count_121 : decode cX8_count 121 = .ok (.ireturn, 1) := by decide +kernel
theorem dX8_told_0 : decode cX8_told 0 = .ok (.iload_n 1, 1) := by decide +kernel
theorem dX8_told_1 : decode cX8_told 1 = .ok (.iconst 1, 1) := by decide +kernel
theorem dX8_told_2 : decode cX8_told 2 = .ok (.bipush 6, 2) := by decide +kernel
theorem dX8_told_4 : decode cX8_told 4 = .ok (.invokestatic 57, 3) := by decide +kernel
theorem dX8_told_7 : decode cX8_told 7 = .ok (.ifCond .eq 12, 3) := by decide +kernel
theorem dX8_told_10 : decode cX8_told 10 = .ok (.aload_n 0, 1) := by decide +kernel
theorem dX8_told_11 : decode cX8_told 11 = .ok (.getfield 19, 3) := by decide +kernel
theorem dX8_told_14 : decode cX8_told 14 = .ok (.iload_n 1, 1) := by decide +kernel
theorem dX8_told_15 : decode cX8_told 15 = .ok (.iaload, 1) := by decide +kernel
theorem dX8_told_16 : decode cX8_told 16 = .ok (.goto 9, 3) := by decide +kernel
theorem dX8_told_19 : decode cX8_told 19 = .ok (.aload_n 0, 1) := by decide +kernel
theorem dX8_told_20 : decode cX8_told 20 = .ok (.ldc 77, 2) := by decide +kernel
theorem dX8_told_22 : decode cX8_told 22 = .ok (.invokevirtual 78, 3) := by decide +kernel
theorem dX8_told_25 : decode cX8_told 25 = .ok (.ireturn, 1) := by decide +kernel
