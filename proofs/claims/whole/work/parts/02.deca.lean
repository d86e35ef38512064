theorem dX0_init_0 : decode cX0_init 0 = .ok (.aload_n 0, 1) := by decide +kernel
theorem dX0_init_1 : decode cX0_init 1 = .ok (.invokespecial 3, 3) := by decide +kernel
theorem dX0_init_4 : decode cX0_init 4 = .ok (.aload_n 0, 1) := by decide +kernel
theorem dX0_init_5 : decode cX0_init 5 = .ok (.bipush 9, 2) := by decide +kernel
theorem dX0_init_7 : decode cX0_init 7 = .ok (.anewarray 9, 3) := by decide +kernel
theorem dX0_init_10 : decode cX0_init 10 = .ok (.putfield 11, 3) := by decide +kernel
theorem dX0_init_13 : decode cX0_init 13 = .ok (.aload_n 0, 1) := by decide +kernel
theorem dX0_init_14 : decode cX0_init 14 = .ok (.new 17, 3) := by decide +kernel
theorem dX0_init_17 : decode cX0_init 17 = .ok (.dup, 1) := by decide +kernel
theorem dX0_init_18 : decode cX0_init 18 = .ok (.bipush 9, 2) := by decide +kernel
theorem dX0_init_20 : decode cX0_init 20 = .ok (.invokespecial 19, 3) := by decide +kernel
theorem dX0_init_23 : decode cX0_init 23 = .ok (.putfield 22, 3) := by decide +kernel
theorem dX0_init_26 : decode cX0_init 26 = .ok (.aload_n 0, 1) := by decide +kernel
theorem dX0_init_27 : decode cX0_init 27 = .ok (.iconst (-1), 1) := by decide +kernel
theorem dX0_init_28 : decode cX0_init 28 = .ok (.putfield 26, 3) := by decide +kernel
theorem dX0_init_31 : decode cX0_init 31 = .ok (.aload_n 0, 1) := by decide +kernel
theorem dX0_init_32 : decode cX0_init 32 = .ok (.iconst 1, 1) := by decide +kernel
theorem dX0_init_33 : decode cX0_init 33 = .ok (.putfield 30, 3) := by decide +kernel
theorem dX0_init_36 : decode cX0_init 36 = .ok (.aload_n 0, 1) := by decide +kernel
theorem dX0_init_37 : decode cX0_init 37 = .ok (.new 17, 3) := by decide +kernel
theorem dX0_init_40 : decode cX0_init 40 = .ok (.dup, 1) := by decide +kernel
theorem dX0_init_41 : decode cX0_init 41 = .ok (.bipush 60, 2) := by decide +kernel
theorem dX0_init_43 : decode cX0_init 43 = .ok (.invokespecial 19, 3) := by decide +kernel
theorem dX0_init_46 : decode cX0_init 46 = .ok (.putfield 33, 3) := by decide +kernel
theorem dX0_init_49 : decode cX0_init 49 = .ok (.aload_n 0, 1) := by decide +kernel
theorem dX0_init_50 : decode cX0_init 50 = .ok (.iconst 2, 1) := by decide +kernel
theorem dX0_init_51 : decode cX0_init 51 = .ok (.anewarray 36, 3) := by decide +kernel
theorem dX0_init_54 : decode cX0_init 54 = .ok (.putfield 38, 3) := by decide +kernel
theorem dX0_init_57 : decode cX0_init 57 = .ok (.aload_n 0, 1) := by decide +kernel
theorem dX0_init_58 : decode cX0_init 58 = .ok (.new 17, 3) := by decide +kernel
theorem dX0_init_61 : decode cX0_init 61 = .ok (.dup, 1) := by decide +kernel
theorem dX0_init_62 : decode cX0_init 62 = .ok (.bipush 24, 2) := by decide +kernel
theorem dX0_init_64 : decode cX0_init 64 = .ok (.invokespecial 19, 3) := by decide +kernel
theorem dX0_init_67 : decode cX0_init 67 = .ok (.putfield 42, 3) := by decide +kernel
theorem dX0_init_70 : decode cX0_init 70 = .ok (.aload_n 0, 1) := by decide +kernel
theorem dX0_init_71 : decode cX0_init 71 = .ok (.bipush 54, 2) := by decide +kernel
theorem dX0_init_73 : decode cX0_init 73 = .ok (.newarray .int, 2) := by decide +kernel
theorem dX0_init_75 : decode cX0_init 75 = .ok (.putfield 45, 3) := by decide +kernel
theorem dX0_init_78 : decode cX0_init 78 = .ok (.iconst 0, 1) := by decide +kernel
theorem dX0_init_79 : decode cX0_init 79 = .ok (.istore_n 1, 1) := by decide +kernel
theorem dX0_init_80 : decode cX0_init 80 = .ok (.iload_n 1, 1) := by decide +kernel
theorem dX0_init_81 : decode cX0_init 81 = .ok (.bipush 9, 2) := by decide +kernel
theorem dX0_init_83 : decode cX0_init 83 = .ok (.if_icmp .ge 22, 3) := by decide +kernel
theorem dX0_init_86 : decode cX0_init 86 = .ok (.aload_n 0, 1) := by decide +kernel
theorem dX0_init_87 : decode cX0_init 87 = .ok (.getfield 11, 3) := by decide +kernel
theorem dX0_init_90 : decode cX0_init 90 = .ok (.iload_n 1, 1) := by decide +kernel
theorem dX0_init_91 : decode cX0_init 91 = .ok (.new 9, 3) := by decide +kernel
theorem dX0_init_94 : decode cX0_init 94 = .ok (.dup, 1) := by decide +kernel
theorem dX0_init_95 : decode cX0_init 95 = .ok (.invokespecial 49, 3) := by decide +kernel
theorem dX0_init_98 : decode cX0_init 98 = .ok (.aastore, 1) := by decide +kernel
theorem dX0_init_99 : decode cX0_init 99 = .ok (.iinc 1 1, 3) := by decide +kernel
theorem dX0_init_102 : decode cX0_init 102 = .ok (.goto (-22), 3) := by decide +kernel
theorem dX0_init_105 : decode cX0_init 105 = .ok (.iconst 0, 1) := by decide +kernel
theorem dX0_init_106 : decode cX0_init 106 = .ok (.istore_n 1, 1) := by decide +kernel
theorem dX0_init_107 : decode cX0_init 107 = .ok (.iload_n 1, 1) := by decide +kernel
theorem dX0_init_108 : decode cX0_init 108 = .ok (.iconst 2, 1) := by decide +kernel
theorem dX0_init_109 : decode cX0_init 109 = .ok (.if_icmp .ge 22, 3) := by decide +kernel
theorem dX0_init_112 : decode cX0_init 112 = .ok (.aload_n 0, 1) := by decide +kernel
theorem dX0_init_113 : decode cX0_init 113 = .ok (.getfield 38, 3) := by decide +kernel
theorem dX0_init_116 : decode cX0_init 116 = .ok (.iload_n 1, 1) := by decide +kernel
theorem dX0_init_117 : decode cX0_init 117 = .ok (.new 36, 3) := by decide +kernel
theorem dX0_init_120 : decode cX0_init 120 = .ok (.dup, 1) := by decide +kernel
theorem dX0_init_121 : decode cX0_init 121 = .ok (.invokespecial 50, 3) := by decide +kernel
theorem dX0_init_124 : decode cX0_init 124 = .ok (.aastore, 1) := by decide +kernel
theorem dX0_init_125 : decode cX0_init 125 = .ok (.iinc 1 1, 3) := by decide +kernel
theorem dX0_init_128 : decode cX0_init 128 = .ok (.goto (-21), 3) := by decide +kernel
theorem dX0_init_131 : decode cX0_init 131 = .ok (.return_, 1) := by decide +kernel
theorem dX0_knows_0 : decode cX0_knows 0 = .ok (.iload_n 1, 1) := by decide +kernel
theorem dX0_knows_1 : decode cX0_knows 1 = .ok (.ifCond .lt 15, 3) := by decide +kernel
theorem dX0_knows_4 : decode cX0_knows 4 = .ok (.iload_n 1, 1) := by decide +kernel
theorem dX0_knows_5 : decode cX0_knows 5 = .ok (.aload_n 0, 1) := by decide +kernel
theorem dX0_knows_6 : decode cX0_knows 6 = .ok (.getfield 51, 3) := by decide +kernel
theorem dX0_knows_9 : decode cX0_knows 9 = .ok (.if_icmp .ge 7, 3) := by decide +kernel
theorem dX0_knows_12 : decode cX0_knows 12 = .ok (.iconst 1, 1) := by decide +kernel
theorem dX0_knows_13 : decode cX0_knows 13 = .ok (.goto 4, 3) := by decide +kernel
theorem dX0_knows_16 : decode cX0_knows 16 = .ok (.iconst 0, 1) := by decide +kernel
theorem dX0_knows_17 : decode cX0_knows 17 = .ok (.ireturn, 1) := by decide +kernel
theorem dX0_addThing_0 : decode cX0_addThing 0 = .ok (.aload_n 0, 1) := by decide +kernel
theorem dX0_addThing_1 : decode cX0_addThing 1 = .ok (.getfield 51, 3) := by decide +kernel
theorem dX0_addThing_4 : decode cX0_addThing 4 = .ok (.istore 4, 2) := by decide +kernel
theorem dX0_addThing_6 : decode cX0_addThing 6 = .ok (.aload_n 0, 1) := by decide +kernel
theorem dX0_addThing_7 : decode cX0_addThing 7 = .ok (.getfield 11, 3) := by decide +kernel
theorem dX0_addThing_10 : decode cX0_addThing 10 = .ok (.iload 4, 2) := by decide +kernel
theorem dX0_addThing_12 : decode cX0_addThing 12 = .ok (.aaload, 1) := by decide +kernel
theorem dX0_addThing_13 : decode cX0_addThing 13 = .ok (.astore 5, 2) := by decide +kernel
theorem dX0_addThing_15 : decode cX0_addThing 15 = .ok (.aload 5, 2) := by decide +kernel
theorem dX0_addThing_17 : decode cX0_addThing 17 = .ok (.iload_n 1, 1) := by decide +kernel
theorem dX0_addThing_18 : decode cX0_addThing 18 = .ok (.bipush 10, 2) := by decide +kernel
theorem dX0_addThing_20 : decode cX0_addThing 20 = .ok (.idiv, 1) := by decide +kernel
theorem dX0_addThing_21 : decode cX0_addThing 21 = .ok (.putfield 54, 3) := by decide +kernel
theorem dX0_addThing_24 : decode cX0_addThing 24 = .ok (.aload 5, 2) := by decide +kernel
theorem dX0_addThing_26 : decode cX0_addThing 26 = .ok (.iload_n 1, 1) := by decide +kernel
theorem dX0_addThing_27 : decode cX0_addThing 27 = .ok (.bipush 10, 2) := by decide +kernel
theorem dX0_addThing_29 : decode cX0_addThing 29 = .ok (.irem, 1) := by decide +kernel
theorem dX0_addThing_30 : decode cX0_addThing 30 = .ok (.putfield 57, 3) := by decide +kernel
theorem dX0_addThing_33 : decode cX0_addThing 33 = .ok (.aload 5, 2) := by decide +kernel
theorem dX0_addThing_35 : decode cX0_addThing 35 = .ok (.iload_n 2, 1) := by decide +kernel
theorem dX0_addThing_36 : decode cX0_addThing 36 = .ok (.putfield 60, 3) := by decide +kernel
theorem dX0_addThing_39 : decode cX0_addThing 39 = .ok (.aload 5, 2) := by decide +kernel
theorem dX0_addThing_41 : decode cX0_addThing 41 = .ok (.iload_n 3, 1) := by decide +kernel
theorem dX0_addThing_42 : decode cX0_addThing 42 = .ok (.putfield 63, 3) := by decide +kernel
theorem dX0_addThing_45 : decode cX0_addThing 45 = .ok (.aload_n 0, 1) := by decide +kernel
theorem dX0_addThing_46 : decode cX0_addThing 46 = .ok (.dup, 1) := by decide +kernel
theorem dX0_addThing_47 : decode cX0_addThing 47 = .ok (.getfield 51, 3) := by decide +kernel
theorem dX0_addThing_50 : decode cX0_addThing 50 = .ok (.iconst 1, 1) := by decide +kernel
theorem dX0_addThing_51 : decode cX0_addThing 51 = .ok (.iadd, 1) := by decide +kernel
theorem dX0_addThing_52 : decode cX0_addThing 52 = .ok (.putfield 51, 3) := by decide +kernel
theorem dX0_addThing_55 : decode cX0_addThing 55 = .ok (.aload_n 0, 1) := by decide +kernel
theorem dX0_addThing_56 : decode cX0_addThing 56 = .ok (.getfield 22, 3) := by decide +kernel
theorem dX0_addThing_59 : decode cX0_addThing 59 = .ok (.iload 4, 2) := by decide +kernel
theorem dX0_addThing_61 : decode cX0_addThing 61 = .ok (.invokevirtual 66, 3) := by decide +kernel
theorem dX0_addThing_64 : decode cX0_addThing 64 = .ok (.iload 4, 2) := by decide +kernel
theorem dX0_addThing_66 : decode cX0_addThing 66 = .ok (.ireturn, 1) := by decide +kernel
theorem dX0_whereIs_0 : decode cX0_whereIs 0 = .ok (.aload_n 0, 1) := by decide +kernel
theorem dX0_whereIs_1 : decode cX0_whereIs 1 = .ok (.getfield 22, 3) := by decide +kernel
theorem dX0_whereIs_4 : decode cX0_whereIs 4 = .ok (.iload_n 1, 1) := by decide +kernel
theorem dX0_whereIs_5 : decode cX0_whereIs 5 = .ok (.invokevirtual 69, 3) := by decide +kernel
theorem dX0_whereIs_8 : decode cX0_whereIs 8 = .ok (.istore_n 2, 1) := by decide +kernel
theorem dX0_whereIs_9 : decode cX0_whereIs 9 = .ok (.iload_n 2, 1) := by decide +kernel
theorem dX0_whereIs_10 : decode cX0_whereIs 10 = .ok (.ifCond .lt 5, 3) := by decide +kernel
theorem dX0_whereIs_13 : decode cX0_whereIs 13 = .ok (.iload_n 2, 1) := by decide +kernel
theorem dX0_whereIs_14 : decode cX0_whereIs 14 = .ok (.ireturn, 1) := by decide +kernel
theorem dX0_whereIs_15 : decode cX0_whereIs 15 = .ok (.aload_n 0, 1) := by decide +kernel
theorem dX0_whereIs_16 : decode cX0_whereIs 16 = .ok (.getfield 26, 3) := by decide +kernel
theorem dX0_whereIs_19 : decode cX0_whereIs 19 = .ok (.iload_n 1, 1) := by decide +kernel
theorem dX0_whereIs_20 : decode cX0_whereIs 20 = .ok (.if_icmp .ne 7, 3) := by decide +kernel
theorem dX0_whereIs_23 : decode cX0_whereIs 23 = .ok (.iconst (-1), 1) := by decide +kernel
theorem dX0_whereIs_24 : decode cX0_whereIs 24 = .ok (.goto 5, 3) := by decide +kernel
theorem dX0_whereIs_27 : decode cX0_whereIs 27 = .ok (.bipush (-2), 2) := by decide +kernel
theorem dX0_whereIs_29 : decode cX0_whereIs 29 = .ok (.ireturn, 1) := by decide +kernel
theorem dX0_bringOut_0 : decode cX0_bringOut 0 = .ok (.aload_n 0, 1) := by decide +kernel
theorem dX0_bringOut_1 : decode cX0_bringOut 1 = .ok (.getfield 26, 3) := by decide +kernel
theorem dX0_bringOut_4 : decode cX0_bringOut 4 = .ok (.iload_n 1, 1) := by decide +kernel
theorem dX0_bringOut_5 : decode cX0_bringOut 5 = .ok (.if_icmp .ne 8, 3) := by decide +kernel
theorem dX0_bringOut_8 : decode cX0_bringOut 8 = .ok (.aload_n 0, 1) := by decide +kernel
theorem dX0_bringOut_9 : decode cX0_bringOut 9 = .ok (.iconst (-1), 1) := by decide +kernel
theorem dX0_bringOut_10 : decode cX0_bringOut 10 = .ok (.putfield 26, 3) := by decide +kernel
theorem dX0_bringOut_13 : decode cX0_bringOut 13 = .ok (.aload_n 0, 1) := by decide +kernel
theorem dX0_bringOut_14 : decode cX0_bringOut 14 = .ok (.getfield 22, 3) := by decide +kernel
theorem dX0_bringOut_17 : decode cX0_bringOut 17 = .ok (.aload_n 0, 1) := by decide +kernel
theorem dX0_bringOut_18 : decode cX0_bringOut 18 = .ok (.getfield 22, 3) := by decide +kernel
theorem dX0_bringOut_21 : decode cX0_bringOut 21 = .ok (.iload_n 1, 1) := by decide +kernel
theorem dX0_bringOut_22 : decode cX0_bringOut 22 = .ok (.invokevirtual 69, 3) := by decide +kernel
theorem dX0_bringOut_25 : decode cX0_bringOut 25 = .ok (.invokevirtual 73, 3) := by decide +kernel
theorem dX0_bringOut_28 : decode cX0_bringOut 28 = .ok (.return_, 1) := by decide +kernel
theorem dX0_changePocket_0 : decode cX0_changePocket 0 = .ok (.aload_n 0, 1) := by decide +kernel
theorem dX0_changePocket_1 : decode cX0_changePocket 1 = .ok (.getfield 26, 3) := by decide +kernel
theorem dX0_changePocket_4 : decode cX0_changePocket 4 = .ok (.istore_n 2, 1) := by decide +kernel
theorem dX0_changePocket_5 : decode cX0_changePocket 5 = .ok (.iload_n 2, 1) := by decide +kernel
theorem dX0_changePocket_6 : decode cX0_changePocket 6 = .ok (.iconst (-1), 1) := by decide +kernel
theorem dX0_changePocket_7 : decode cX0_changePocket 7 = .ok (.if_icmp .eq 11, 3) := by decide +kernel
theorem dX0_changePocket_10 : decode cX0_changePocket 10 = .ok (.aload_n 0, 1) := by decide +kernel
theorem dX0_changePocket_11 : decode cX0_changePocket 11 = .ok (.getfield 22, 3) := by decide +kernel
theorem dX0_changePocket_14 : decode cX0_changePocket 14 = .ok (.iload_n 2, 1) := by decide +kernel
theorem dX0_changePocket_15 : decode cX0_changePocket 15 = .ok (.invokevirtual 66, 3) := by decide +kernel
theorem dX0_changePocket_18 : decode cX0_changePocket 18 = .ok (.aload_n 0, 1) := by decide +kernel
theorem dX0_changePocket_19 : decode cX0_changePocket 19 = .ok (.getfield 22, 3) := by decide +kernel
theorem dX0_changePocket_22 : decode cX0_changePocket 22 = .ok (.aload_n 0, 1) := by decide +kernel
theorem dX0_changePocket_23 : decode cX0_changePocket 23 = .ok (.getfield 22, 3) := by decide +kernel
theorem dX0_changePocket_26 : decode cX0_changePocket 26 = .ok (.iload_n 1, 1) := by decide +kernel
theorem dX0_changePocket_27 : decode cX0_changePocket 27 = .ok (.invokevirtual 69, 3) := by decide +kernel
theorem dX0_changePocket_30 : decode cX0_changePocket 30 = .ok (.invokevirtual 73, 3) := by decide +kernel
theorem dX0_changePocket_33 : decode cX0_changePocket 33 = .ok (.aload_n 0, 1) := by decide +kernel
theorem dX0_changePocket_34 : decode cX0_changePocket 34 = .ok (.iload_n 1, 1) := by decide +kernel
theorem dX0_changePocket_35 : decode cX0_changePocket 35 = .ok (.putfield 26, 3) := by decide +kernel
theorem dX0_changePocket_38 : decode cX0_changePocket 38 = .ok (.iload_n 2, 1) := by decide +kernel
theorem dX0_changePocket_39 : decode cX0_changePocket 39 = .ok (.ireturn, 1) := by decide +kernel
theorem dX0_takeWeights_0 : decode cX0_takeWeights 0 = .ok (.iconst 0, 1) := by decide +kernel
theorem dX0_takeWeights_1 : decode cX0_takeWeights 1 = .ok (.istore_n 2, 1) := by decide +kernel
theorem dX0_takeWeights_2 : decode cX0_takeWeights 2 = .ok (.iload_n 2, 1) := by decide +kernel
theorem dX0_takeWeights_3 : decode cX0_takeWeights 3 = .ok (.aload_n 1, 1) := by decide +kernel
theorem dX0_takeWeights_4 : decode cX0_takeWeights 4 = .ok (.getfield 76, 3) := by decide +kernel
theorem dX0_takeWeights_7 : decode cX0_takeWeights 7 = .ok (.if_icmp .ge 44, 3) := by decide +kernel
theorem dX0_takeWeights_10 : decode cX0_takeWeights 10 = .ok (.iload_n 2, 1) := by decide +kernel
theorem dX0_takeWeights_11 : decode cX0_takeWeights 11 = .ok (.aload_n 0, 1) := by decide +kernel
theorem dX0_takeWeights_12 : decode cX0_takeWeights 12 = .ok (.getfield 51, 3) := by decide +kernel
theorem dX0_takeWeights_15 : decode cX0_takeWeights 15 = .ok (.if_icmp .ge 36, 3) := by decide +kernel
theorem dX0_takeWeights_18 : decode cX0_takeWeights 18 = .ok (.aload_n 1, 1) := by decide +kernel
theorem dX0_takeWeights_19 : decode cX0_takeWeights 19 = .ok (.getfield 79, 3) := by decide +kernel
theorem dX0_takeWeights_22 : decode cX0_takeWeights 22 = .ok (.iload_n 2, 1) := by decide +kernel
theorem dX0_takeWeights_23 : decode cX0_takeWeights 23 = .ok (.iaload, 1) := by decide +kernel
theorem dX0_takeWeights_24 : decode cX0_takeWeights 24 = .ok (.invokestatic 82, 3) := by decide +kernel
theorem dX0_takeWeights_27 : decode cX0_takeWeights 27 = .ok (.ifCond .eq 24, 3) := by decide +kernel
theorem dX0_takeWeights_30 : decode cX0_takeWeights 30 = .ok (.aload_n 0, 1) := by decide +kernel
theorem dX0_takeWeights_31 : decode cX0_takeWeights 31 = .ok (.getfield 11, 3) := by decide +kernel
theorem dX0_takeWeights_34 : decode cX0_takeWeights 34 = .ok (.iload_n 2, 1) := by decide +kernel
theorem dX0_takeWeights_35 : decode cX0_takeWeights 35 = .ok (.aaload, 1) := by decide +kernel
theorem dX0_takeWeights_36 : decode cX0_takeWeights 36 = .ok (.aload_n 1, 1) := by decide +kernel
theorem dX0_takeWeights_37 : decode cX0_takeWeights 37 = .ok (.getfield 79, 3) := by decide +kernel
theorem dX0_takeWeights_40 : decode cX0_takeWeights 40 = .ok (.iload_n 2, 1) := by decide +kernel
theorem dX0_takeWeights_41 : decode cX0_takeWeights 41 = .ok (.iaload, 1) := by decide +kernel
theorem dX0_takeWeights_42 : decode cX0_takeWeights 42 = .ok (.putfield 60, 3) := by decide +kernel
theorem dX0_takeWeights_45 : decode cX0_takeWeights 45 = .ok (.iinc 2 1, 3) := by decide +kernel
theorem dX0_takeWeights_48 : decode cX0_takeWeights 48 = .ok (.goto (-46), 3) := by decide +kernel
theorem dX0_takeWeights_51 : decode cX0_takeWeights 51 = .ok (.iload_n 2, 1) := by decide +kernel
theorem dX0_takeWeights_52 : decode cX0_takeWeights 52 = .ok (.ireturn, 1) := by decide +kernel
theorem dX0_gives_0 : decode cX0_gives 0 = .ok (.aload_n 0, 1) := by decide +kernel
theorem dX0_gives_1 : decode cX0_gives 1 = .ok (.getfield 38, 3) := by decide +kernel
theorem dX0_gives_4 : decode cX0_gives 4 = .ok (.iload_n 1, 1) := by decide +kernel
theorem dX0_gives_5 : decode cX0_gives 5 = .ok (.aaload, 1) := by decide +kernel
theorem dX0_gives_6 : decode cX0_gives 6 = .ok (.astore 5, 2) := by decide +kernel
theorem dX0_gives_8 : decode cX0_gives 8 = .ok (.iload_n 1, 1) := by decide +kernel
theorem dX0_gives_9 : decode cX0_gives 9 = .ok (.ifCond .ne 9, 3) := by decide +kernel
theorem dX0_gives_12 : decode cX0_gives 12 = .ok (.iload_n 2, 1) := by decide +kernel
theorem dX0_gives_13 : decode cX0_gives 13 = .ok (.iload_n 3, 1) := by decide +kernel
theorem dX0_gives_14 : decode cX0_gives 14 = .ok (.iadd, 1) := by decide +kernel
theorem dX0_gives_15 : decode cX0_gives 15 = .ok (.goto 5, 3) := by decide +kernel
theorem dX0_gives_18 : decode cX0_gives 18 = .ok (.iload 4, 2) := by decide +kernel
theorem dX0_gives_20 : decode cX0_gives 20 = .ok (.istore 6, 2) := by decide +kernel
theorem dX0_gives_22 : decode cX0_gives 22 = .ok (.aload 5, 2) := by decide +kernel
theorem dX0_gives_24 : decode cX0_gives 24 = .ok (.invokevirtual 86, 3) := by decide +kernel
theorem dX0_gives_27 : decode cX0_gives 27 = .ok (.ifCond .eq 14, 3) := by decide +kernel
theorem dX0_gives_30 : decode cX0_gives 30 = .ok (.aload 5, 2) := by decide +kernel
theorem dX0_gives_32 : decode cX0_gives 32 = .ok (.iload_n 2, 1) := by decide +kernel
theorem dX0_gives_33 : decode cX0_gives 33 = .ok (.iload_n 3, 1) := by decide +kernel
theorem dX0_gives_34 : decode cX0_gives 34 = .ok (.iload 4, 2) := by decide +kernel
theorem dX0_gives_36 : decode cX0_gives 36 = .ok (.invokevirtual 90, 3) := by decide +kernel
theorem dX0_gives_39 : decode cX0_gives 39 = .ok (.istore 6, 2) := by decide +kernel
theorem dX0_gives_41 : decode cX0_gives 41 = .ok (.iconst 0, 1) := by decide +kernel
theorem dX0_gives_42 : decode cX0_gives 42 = .ok (.bipush 99, 2) := by decide +kernel
theorem dX0_gives_44 : decode cX0_gives 44 = .ok (.iload 6, 2) := by decide +kernel
theorem dX0_gives_46 : decode cX0_gives 46 = .ok (.invokestatic 94, 3) := by decide +kernel
theorem dX0_gives_49 : decode cX0_gives 49 = .ok (.invokestatic 100, 3) := by decide +kernel
theorem dX0_gives_52 : decode cX0_gives 52 = .ok (.ireturn, 1) := by decide +kernel
theorem dX0_usedOf_0 : decode cX0_usedOf 0 = .ok (.aload_n 0, 1) := by decide +kernel
theorem dX0_usedOf_1 : decode cX0_usedOf 1 = .ok (.iconst 1, 1) := by decide +kernel
theorem dX0_usedOf_2 : decode cX0_usedOf 2 = .ok (.iload_n 1, 1) := by decide +kernel
theorem dX0_usedOf_3 : decode cX0_usedOf 3 = .ok (.aload_n 0, 1) := by decide +kernel
theorem dX0_usedOf_4 : decode cX0_usedOf 4 = .ok (.getfield 11, 3) := by decide +kernel
theorem dX0_usedOf_7 : decode cX0_usedOf 7 = .ok (.iload_n 1, 1) := by decide +kernel
theorem dX0_usedOf_8 : decode cX0_usedOf 8 = .ok (.aaload, 1) := by decide +kernel
theorem dX0_usedOf_9 : decode cX0_usedOf 9 = .ok (.getfield 54, 3) := by decide +kernel
theorem dX0_usedOf_12 : decode cX0_usedOf 12 = .ok (.aload_n 0, 1) := by decide +kernel
theorem dX0_usedOf_13 : decode cX0_usedOf 13 = .ok (.getfield 11, 3) := by decide +kernel
theorem dX0_usedOf_16 : decode cX0_usedOf 16 = .ok (.iload_n 1, 1) := by decide +kernel
theorem dX0_usedOf_17 : decode cX0_usedOf 17 = .ok (.aaload, 1) := by decide +kernel
theorem dX0_usedOf_18 : decode cX0_usedOf 18 = .ok (.getfield 57, 3) := by decide +kernel
theorem dX0_usedOf_21 : decode cX0_usedOf 21 = .ok (.invokevirtual 103, 3) := by decide +kernel
theorem dX0_usedOf_24 : decode cX0_usedOf 24 = .ok (.ireturn, 1) := by decide +kernel
theorem dX0_time_0 : decode cX0_time 0 = .ok (.aload_n 0, 1) := by decide +kernel
theorem dX0_time_1 : decode cX0_time 1 = .ok (.getfield 22, 3) := by decide +kernel
theorem dX0_time_4 : decode cX0_time 4 = .ok (.iload_n 1, 1) := by decide +kernel
theorem dX0_time_5 : decode cX0_time 5 = .ok (.invokevirtual 69, 3) := by decide +kernel
theorem dX0_time_8 : decode cX0_time 8 = .ok (.istore_n 3, 1) := by decide +kernel
theorem dX0_time_9 : decode cX0_time 9 = .ok (.iload_n 3, 1) := by decide +kernel
theorem dX0_time_10 : decode cX0_time 10 = .ok (.ifCond .ge 5, 3) := by decide +kernel
theorem dX0_time_13 : decode cX0_time 13 = .ok (.iconst 4, 1) := by decide +kernel
theorem dX0_time_14 : decode cX0_time 14 = .ok (.ireturn, 1) := by decide +kernel
theorem dX0_time_15 : decode cX0_time 15 = .ok (.iload_n 2, 1) := by decide +kernel
theorem dX0_time_16 : decode cX0_time 16 = .ok (.iconst 1, 1) := by decide +kernel
theorem dX0_time_17 : decode cX0_time 17 = .ok (.if_icmp .ne 9, 3) := by decide +kernel
theorem dX0_time_20 : decode cX0_time 20 = .ok (.iconst 3, 1) := by decide +kernel
theorem dX0_time_21 : decode cX0_time 21 = .ok (.iconst 2, 1) := by decide +kernel
theorem dX0_time_22 : decode cX0_time 22 = .ok (.iload_n 3, 1) := by decide +kernel
theorem dX0_time_23 : decode cX0_time 23 = .ok (.imul, 1) := by decide +kernel
theorem dX0_time_24 : decode cX0_time 24 = .ok (.iadd, 1) := by decide +kernel
theorem dX0_time_25 : decode cX0_time 25 = .ok (.ireturn, 1) := by decide +kernel
theorem dX0_time_26 : decode cX0_time 26 = .ok (.iload_n 2, 1) := by decide +kernel
theorem dX0_time_27 : decode cX0_time 27 = .ok (.iconst 2, 1) := by decide +kernel
theorem dX0_time_28 : decode cX0_time 28 = .ok (.if_icmp .ne 16, 3) := by decide +kernel
theorem dX0_time_31 : decode cX0_time 31 = .ok (.bipush 9, 2) := by decide +kernel
theorem dX0_time_33 : decode cX0_time 33 = .ok (.iconst 2, 1) := by decide +kernel
theorem dX0_time_34 : decode cX0_time 34 = .ok (.aload_n 0, 1) := by decide +kernel
theorem dX0_time_35 : decode cX0_time 35 = .ok (.getfield 22, 3) := by decide +kernel
theorem dX0_time_38 : decode cX0_time 38 = .ok (.getfield 76, 3) := by decide +kernel
theorem dX0_time_41 : decode cX0_time 41 = .ok (.imul, 1) := by decide +kernel
theorem dX0_time_42 : decode cX0_time 42 = .ok (.iadd, 1) := by decide +kernel
theorem dX0_time_43 : decode cX0_time 43 = .ok (.ireturn, 1) := by decide +kernel
theorem dX0_time_44 : decode cX0_time 44 = .ok (.iconst 0, 1) := by decide +kernel
theorem dX0_time_45 : decode cX0_time 45 = .ok (.istore 4, 2) := by decide +kernel
theorem dX0_time_47 : decode cX0_time 47 = .ok (.iconst 0, 1) := by decide +kernel
theorem dX0_time_48 : decode cX0_time 48 = .ok (.istore 5, 2) := by decide +kernel
theorem dX0_time_50 : decode cX0_time 50 = .ok (.iload 5, 2) := by decide +kernel
theorem dX0_time_52 : decode cX0_time 52 = .ok (.iload_n 3, 1) := by decide +kernel
theorem dX0_time_53 : decode cX0_time 53 = .ok (.if_icmp .gt 48, 3) := by decide +kernel
theorem dX0_time_56 : decode cX0_time 56 = .ok (.aload_n 0, 1) := by decide +kernel
theorem dX0_time_57 : decode cX0_time 57 = .ok (.getfield 11, 3) := by decide +kernel
theorem dX0_time_60 : decode cX0_time 60 = .ok (.aload_n 0, 1) := by decide +kernel
theorem dX0_time_61 : decode cX0_time 61 = .ok (.getfield 22, 3) := by decide +kernel
theorem dX0_time_64 : decode cX0_time 64 = .ok (.getfield 79, 3) := by decide +kernel
theorem dX0_time_67 : decode cX0_time 67 = .ok (.iload 5, 2) := by decide +kernel
theorem dX0_time_69 : decode cX0_time 69 = .ok (.iaload, 1) := by decide +kernel
theorem dX0_time_70 : decode cX0_time 70 = .ok (.aaload, 1) := by decide +kernel
theorem dX0_time_71 : decode cX0_time 71 = .ok (.astore 6, 2) := by decide +kernel
theorem dX0_time_73 : decode cX0_time 73 = .ok (.iload 4, 2) := by decide +kernel
theorem dX0_time_75 : decode cX0_time 75 = .ok (.aload_n 0, 1) := by decide +kernel
theorem dX0_time_76 : decode cX0_time 76 = .ok (.iconst 0, 1) := by decide +kernel
theorem dX0_time_77 : decode cX0_time 77 = .ok (.aload 6, 2) := by decide +kernel
theorem dX0_time_79 : decode cX0_time 79 = .ok (.invokevirtual 107, 3) := by decide +kernel
theorem dX0_time_82 : decode cX0_time 82 = .ok (.iload 5, 2) := by decide +kernel
theorem dX0_time_84 : decode cX0_time 84 = .ok (.aload 6, 2) := by decide +kernel
theorem dX0_time_86 : decode cX0_time 86 = .ok (.getfield 54, 3) := by decide +kernel
theorem dX0_time_89 : decode cX0_time 89 = .ok (.invokevirtual 103, 3) := by decide +kernel
theorem dX0_time_92 : decode cX0_time 92 = .ok (.iadd, 1) := by decide +kernel
theorem dX0_time_93 : decode cX0_time 93 = .ok (.istore 4, 2) := by decide +kernel
theorem dX0_time_95 : decode cX0_time 95 = .ok (.iinc 5 1, 3) := by decide +kernel
theorem dX0_time_98 : decode cX0_time 98 = .ok (.goto (-48), 3) := by decide +kernel
theorem dX0_time_101 : decode cX0_time 101 = .ok (.iload 4, 2) := by decide +kernel
theorem dX0_time_103 : decode cX0_time 103 = .ok (.ireturn, 1) := by decide +kernel
theorem dX0_bestWay_0 : decode cX0_bestWay 0 = .ok (.iconst 0, 1) := by decide +kernel
theorem dX0_bestWay_1 : decode cX0_bestWay 1 = .ok (.istore_n 2, 1) := by decide +kernel
theorem dX0_bestWay_2 : decode cX0_bestWay 2 = .ok (.aload_n 0, 1) := by decide +kernel
theorem dX0_bestWay_3 : decode cX0_bestWay 3 = .ok (.iload_n 1, 1) := by decide +kernel
theorem dX0_bestWay_4 : decode cX0_bestWay 4 = .ok (.iconst 0, 1) := by decide +kernel
theorem dX0_bestWay_5 : decode cX0_bestWay 5 = .ok (.invokevirtual 111, 3) := by decide +kernel
theorem dX0_bestWay_8 : decode cX0_bestWay 8 = .ok (.istore_n 3, 1) := by decide +kernel
theorem dX0_bestWay_9 : decode cX0_bestWay 9 = .ok (.iconst 1, 1) := by decide +kernel
theorem dX0_bestWay_10 : decode cX0_bestWay 10 = .ok (.istore 4, 2) := by decide +kernel
theorem dX0_bestWay_12 : decode cX0_bestWay 12 = .ok (.iload 4, 2) := by decide +kernel
theorem dX0_bestWay_14 : decode cX0_bestWay 14 = .ok (.iconst 3, 1) := by decide +kernel
theorem dX0_bestWay_15 : decode cX0_bestWay 15 = .ok (.if_icmp .ge 30, 3) := by decide +kernel
theorem dX0_bestWay_18 : decode cX0_bestWay 18 = .ok (.aload_n 0, 1) := by decide +kernel
theorem dX0_bestWay_19 : decode cX0_bestWay 19 = .ok (.iload_n 1, 1) := by decide +kernel
theorem dX0_bestWay_20 : decode cX0_bestWay 20 = .ok (.iload 4, 2) := by decide +kernel
theorem dX0_bestWay_22 : decode cX0_bestWay 22 = .ok (.invokevirtual 111, 3) := by decide +kernel
theorem dX0_bestWay_25 : decode cX0_bestWay 25 = .ok (.istore 5, 2) := by decide +kernel
theorem dX0_bestWay_27 : decode cX0_bestWay 27 = .ok (.iload 5, 2) := by decide +kernel
theorem dX0_bestWay_29 : decode cX0_bestWay 29 = .ok (.iload_n 3, 1) := by decide +kernel
theorem dX0_bestWay_30 : decode cX0_bestWay 30 = .ok (.if_icmp .ge 9, 3) := by decide +kernel
theorem dX0_bestWay_33 : decode cX0_bestWay 33 = .ok (.iload 5, 2) := by decide +kernel
theorem dX0_bestWay_35 : decode cX0_bestWay 35 = .ok (.istore_n 3, 1) := by decide +kernel
theorem dX0_bestWay_36 : decode cX0_bestWay 36 = .ok (.iload 4, 2) := by decide +kernel
theorem dX0_bestWay_38 : decode cX0_bestWay 38 = .ok (.istore_n 2, 1) := by decide +kernel
theorem dX0_bestWay_39 : decode cX0_bestWay 39 = .ok (.iinc 4 1, 3) := by decide +kernel
theorem dX0_bestWay_42 : decode cX0_bestWay 42 = .ok (.goto (-30), 3) := by decide +kernel
theorem dX0_bestWay_45 : decode cX0_bestWay 45 = .ok (.iload_n 2, 1) := by decide +kernel
theorem dX0_bestWay_46 : decode cX0_bestWay 46 = .ok (.ireturn, 1) := by decide +kernel
theorem dX0_take_0 : decode cX0_take 0 = .ok (.aload_n 0, 1) := by decide +kernel
theorem dX0_take_1 : decode cX0_take 1 = .ok (.iload_n 1, 1) := by decide +kernel
theorem dX0_take_2 : decode cX0_take 2 = .ok (.iload_n 2, 1) := by decide +kernel
theorem dX0_take_3 : decode cX0_take 3 = .ok (.invokevirtual 111, 3) := by decide +kernel
theorem dX0_take_6 : decode cX0_take 6 = .ok (.istore_n 3, 1) := by decide +kernel
theorem dX0_take_7 : decode cX0_take 7 = .ok (.aload_n 0, 1) := by decide +kernel
theorem dX0_take_8 : decode cX0_take 8 = .ok (.ldc 114, 2) := by decide +kernel
theorem dX0_take_10 : decode cX0_take 10 = .ok (.aload_n 0, 1) := by decide +kernel
theorem dX0_take_11 : decode cX0_take 11 = .ok (.getfield 115, 3) := by decide +kernel
theorem dX0_take_14 : decode cX0_take 14 = .ok (.iload_n 3, 1) := by decide +kernel
theorem dX0_take_15 : decode cX0_take 15 = .ok (.iadd, 1) := by decide +kernel
theorem dX0_take_16 : decode cX0_take 16 = .ok (.invokestatic 94, 3) := by decide +kernel
theorem dX0_take_19 : decode cX0_take 19 = .ok (.putfield 115, 3) := by decide +kernel
theorem dX0_take_22 : decode cX0_take 22 = .ok (.aload_n 0, 1) := by decide +kernel
theorem dX0_take_23 : decode cX0_take 23 = .ok (.getfield 26, 3) := by decide +kernel
theorem dX0_take_26 : decode cX0_take 26 = .ok (.iload_n 1, 1) := by decide +kernel
theorem dX0_take_27 : decode cX0_take 27 = .ok (.if_icmp .ne 5, 3) := by decide +kernel
theorem dX0_take_30 : decode cX0_take 30 = .ok (.iload_n 3, 1) := by decide +kernel
theorem dX0_take_31 : decode cX0_take 31 = .ok (.ireturn, 1) := by decide +kernel
theorem dX0_take_32 : decode cX0_take 32 = .ok (.iload_n 2, 1) := by decide +kernel
theorem dX0_take_33 : decode cX0_take 33 = .ok (.iconst 2, 1) := by decide +kernel
theorem dX0_take_34 : decode cX0_take 34 = .ok (.if_icmp .ne 11, 3) := by decide +kernel
theorem dX0_take_37 : decode cX0_take 37 = .ok (.aload_n 0, 1) := by decide +kernel
theorem dX0_take_38 : decode cX0_take 38 = .ok (.getfield 22, 3) := by decide +kernel
theorem dX0_take_41 : decode cX0_take 41 = .ok (.iconst 0, 1) := by decide +kernel
theorem dX0_take_42 : decode cX0_take 42 = .ok (.invokevirtual 118, 3) := by decide +kernel
theorem dX0_take_45 : decode cX0_take 45 = .ok (.aload_n 0, 1) := by decide +kernel
theorem dX0_take_46 : decode cX0_take 46 = .ok (.getfield 22, 3) := by decide +kernel
theorem dX0_take_49 : decode cX0_take 49 = .ok (.aload_n 0, 1) := by decide +kernel
theorem dX0_take_50 : decode cX0_take 50 = .ok (.getfield 22, 3) := by decide +kernel
theorem dX0_take_53 : decode cX0_take 53 = .ok (.iload_n 1, 1) := by decide +kernel
theorem dX0_take_54 : decode cX0_take 54 = .ok (.invokevirtual 69, 3) := by decide +kernel
theorem dX0_take_57 : decode cX0_take 57 = .ok (.invokevirtual 73, 3) := by decide +kernel
theorem dX0_take_60 : decode cX0_take 60 = .ok (.aload_n 0, 1) := by decide +kernel
theorem dX0_take_61 : decode cX0_take 61 = .ok (.getfield 22, 3) := by decide +kernel
theorem dX0_take_64 : decode cX0_take 64 = .ok (.iload_n 1, 1) := by decide +kernel
theorem dX0_take_65 : decode cX0_take 65 = .ok (.invokevirtual 66, 3) := by decide +kernel
theorem dX0_take_68 : decode cX0_take 68 = .ok (.iload_n 3, 1) := by decide +kernel
theorem dX0_take_69 : decode cX0_take 69 = .ok (.ireturn, 1) := by decide +kernel
theorem dX0_learnSinks_0 : decode cX0_learnSinks 0 = .ok (.iconst 0, 1) := by decide +kernel
theorem dX0_learnSinks_1 : decode cX0_learnSinks 1 = .ok (.istore_n 1, 1) := by decide +kernel
theorem dX0_learnSinks_2 : decode cX0_learnSinks 2 = .ok (.iload_n 1, 1) := by decide +kernel
theorem dX0_learnSinks_3 : decode cX0_learnSinks 3 = .ok (.bipush 6, 2) := by decide +kernel
theorem dX0_learnSinks_5 : decode cX0_learnSinks 5 = .ok (.if_icmp .ge 46, 3) := by decide +kernel
theorem dX0_learnSinks_8 : decode cX0_learnSinks 8 = .ok (.iconst 0, 1) := by decide +kernel
theorem dX0_learnSinks_9 : decode cX0_learnSinks 9 = .ok (.istore_n 2, 1) := by decide +kernel
theorem dX0_learnSinks_10 : decode cX0_learnSinks 10 = .ok (.iload_n 2, 1) := by decide +kernel
theorem dX0_learnSinks_11 : decode cX0_learnSinks 11 = .ok (.aload_n 0, 1) := by decide +kernel
theorem dX0_learnSinks_12 : decode cX0_learnSinks 12 = .ok (.getfield 51, 3) := by decide +kernel
theorem dX0_learnSinks_15 : decode cX0_learnSinks 15 = .ok (.if_icmp .ge 30, 3) := by decide +kernel
theorem dX0_learnSinks_18 : decode cX0_learnSinks 18 = .ok (.aload_n 0, 1) := by decide +kernel
theorem dX0_learnSinks_19 : decode cX0_learnSinks 19 = .ok (.getfield 45, 3) := by decide +kernel
theorem dX0_learnSinks_22 : decode cX0_learnSinks 22 = .ok (.iload_n 1, 1) := by decide +kernel
theorem dX0_learnSinks_23 : decode cX0_learnSinks 23 = .ok (.bipush 9, 2) := by decide +kernel
theorem dX0_learnSinks_25 : decode cX0_learnSinks 25 = .ok (.imul, 1) := by decide +kernel
theorem dX0_learnSinks_26 : decode cX0_learnSinks 26 = .ok (.iload_n 2, 1) := by decide +kernel
theorem dX0_learnSinks_27 : decode cX0_learnSinks 27 = .ok (.iadd, 1) := by decide +kernel
theorem dX0_learnSinks_28 : decode cX0_learnSinks 28 = .ok (.aload_n 0, 1) := by decide +kernel
theorem dX0_learnSinks_29 : decode cX0_learnSinks 29 = .ok (.getfield 11, 3) := by decide +kernel
theorem dX0_learnSinks_32 : decode cX0_learnSinks 32 = .ok (.iload_n 2, 1) := by decide +kernel
theorem dX0_learnSinks_33 : decode cX0_learnSinks 33 = .ok (.aaload, 1) := by decide +kernel
theorem dX0_learnSinks_34 : decode cX0_learnSinks 34 = .ok (.iload_n 1, 1) := by decide +kernel
theorem dX0_learnSinks_35 : decode cX0_learnSinks 35 = .ok (.invokevirtual 121, 3) := by decide +kernel
theorem dX0_learnSinks_38 : decode cX0_learnSinks 38 = .ok (.iastore, 1) := by decide +kernel
theorem dX0_learnSinks_39 : decode cX0_learnSinks 39 = .ok (.iinc 2 1, 3) := by decide +kernel
theorem dX0_learnSinks_42 : decode cX0_learnSinks 42 = .ok (.goto (-32), 3) := by decide +kernel
theorem dX0_learnSinks_45 : decode cX0_learnSinks 45 = .ok (.iinc 1 1, 3) := by decide +kernel
theorem dX0_learnSinks_48 : decode cX0_learnSinks 48 = .ok (.goto (-46), 3) := by decide +kernel
theorem dX0_learnSinks_51 : decode cX0_learnSinks 51 = .ok (.return_, 1) := by decide +kernel
theorem dX0_shake_0 : decode cX0_shake 0 = .ok (.iload_n 2, 1) := by decide +kernel
theorem dX0_shake_1 : decode cX0_shake 1 = .ok (.bipush 6, 2) := by decide +kernel
theorem dX0_shake_3 : decode cX0_shake 3 = .ok (.irem, 1) := by decide +kernel
theorem dX0_shake_4 : decode cX0_shake 4 = .ok (.bipush 9, 2) := by decide +kernel
theorem dX0_shake_6 : decode cX0_shake 6 = .ok (.imul, 1) := by decide +kernel
theorem dX0_shake_7 : decode cX0_shake 7 = .ok (.istore_n 3, 1) := by decide +kernel
theorem dX0_shake_8 : decode cX0_shake 8 = .ok (.iconst 0, 1) := by decide +kernel
theorem dX0_shake_9 : decode cX0_shake 9 = .ok (.istore 4, 2) := by decide +kernel
theorem dX0_shake_11 : decode cX0_shake 11 = .ok (.iconst 0, 1) := by decide +kernel
theorem dX0_shake_12 : decode cX0_shake 12 = .ok (.istore 5, 2) := by decide +kernel
theorem dX0_shake_14 : decode cX0_shake 14 = .ok (.iload 5, 2) := by decide +kernel
theorem dX0_shake_16 : decode cX0_shake 16 = .ok (.iconst 1, 1) := by decide +kernel
theorem dX0_shake_17 : decode cX0_shake 17 = .ok (.iadd, 1) := by decide +kernel
theorem dX0_shake_18 : decode cX0_shake 18 = .ok (.aload_n 1, 1) := by decide +kernel
theorem dX0_shake_19 : decode cX0_shake 19 = .ok (.getfield 76, 3) := by decide +kernel
theorem dX0_shake_22 : decode cX0_shake 22 = .ok (.if_icmp .ge 55, 3) := by decide +kernel
theorem dX0_shake_25 : decode cX0_shake 25 = .ok (.aload_n 0, 1) := by decide +kernel
theorem dX0_shake_26 : decode cX0_shake 26 = .ok (.getfield 45, 3) := by decide +kernel
theorem dX0_shake_29 : decode cX0_shake 29 = .ok (.iload_n 3, 1) := by decide +kernel
theorem dX0_shake_30 : decode cX0_shake 30 = .ok (.aload_n 1, 1) := by decide +kernel
theorem dX0_shake_31 : decode cX0_shake 31 = .ok (.getfield 79, 3) := by decide +kernel
theorem dX0_shake_34 : decode cX0_shake 34 = .ok (.iload 5, 2) := by decide +kernel
theorem dX0_shake_36 : decode cX0_shake 36 = .ok (.iaload, 1) := by decide +kernel
theorem dX0_shake_37 : decode cX0_shake 37 = .ok (.iadd, 1) := by decide +kernel
theorem dX0_shake_38 : decode cX0_shake 38 = .ok (.iaload, 1) := by decide +kernel
theorem dX0_shake_39 : decode cX0_shake 39 = .ok (.aload_n 0, 1) := by decide +kernel
theorem dX0_shake_40 : decode cX0_shake 40 = .ok (.getfield 45, 3) := by decide +kernel
theorem dX0_shake_43 : decode cX0_shake 43 = .ok (.iload_n 3, 1) := by decide +kernel
theorem dX0_shake_44 : decode cX0_shake 44 = .ok (.aload_n 1, 1) := by decide +kernel
theorem dX0_shake_45 : decode cX0_shake 45 = .ok (.getfield 79, 3) := by decide +kernel
theorem dX0_shake_48 : decode cX0_shake 48 = .ok (.iload 5, 2) := by decide +kernel
theorem dX0_shake_50 : decode cX0_shake 50 = .ok (.iconst 1, 1) := by decide +kernel
theorem dX0_shake_51 : decode cX0_shake 51 = .ok (.iadd, 1) := by decide +kernel
theorem dX0_shake_52 : decode cX0_shake 52 = .ok (.iaload, 1) := by decide +kernel
theorem dX0_shake_53 : decode cX0_shake 53 = .ok (.iadd, 1) := by decide +kernel
theorem dX0_shake_54 : decode cX0_shake 54 = .ok (.iaload, 1) := by decide +kernel
theorem dX0_shake_55 : decode cX0_shake 55 = .ok (.if_icmp .le 16, 3) := by decide +kernel
theorem dX0_shake_58 : decode cX0_shake 58 = .ok (.aload_n 1, 1) := by decide +kernel
theorem dX0_shake_59 : decode cX0_shake 59 = .ok (.iload 5, 2) := by decide +kernel
theorem dX0_shake_61 : decode cX0_shake 61 = .ok (.iload 5, 2) := by decide +kernel
theorem dX0_shake_63 : decode cX0_shake 63 = .ok (.iconst 1, 1) := by decide +kernel
theorem dX0_shake_64 : decode cX0_shake 64 = .ok (.iadd, 1) := by decide +kernel
theorem dX0_shake_65 : decode cX0_shake 65 = .ok (.invokevirtual 124, 3) := by decide +kernel
theorem dX0_shake_68 : decode cX0_shake 68 = .ok (.iconst 1, 1) := by decide +kernel
theorem dX0_shake_69 : decode cX0_shake 69 = .ok (.istore 4, 2) := by decide +kernel
theorem dX0_shake_71 : decode cX0_shake 71 = .ok (.iinc 5 1, 3) := by decide +kernel
theorem dX0_shake_74 : decode cX0_shake 74 = .ok (.goto (-60), 3) := by decide +kernel
theorem dX0_shake_77 : decode cX0_shake 77 = .ok (.iload 4, 2) := by decide +kernel
theorem dX0_shake_79 : decode cX0_shake 79 = .ok (.ireturn, 1) := by decide +kernel
theorem dX0_walk_0 : decode cX0_walk 0 = .ok (.aload_n 0, 1) := by decide +kernel
theorem dX0_walk_1 : decode cX0_walk 1 = .ok (.invokevirtual 128, 3) := by decide +kernel
theorem dX0_walk_4 : decode cX0_walk 4 = .ok (.iconst 0, 1) := by decide +kernel
theorem dX0_walk_5 : decode cX0_walk 5 = .ok (.istore_n 2, 1) := by decide +kernel
theorem dX0_walk_6 : decode cX0_walk 6 = .ok (.iload_n 2, 1) := by decide +kernel
theorem dX0_walk_7 : decode cX0_walk 7 = .ok (.iload_n 1, 1) := by decide +kernel
theorem dX0_walk_8 : decode cX0_walk 8 = .ok (.if_icmp .ge 32, 3) := by decide +kernel
theorem dX0_walk_11 : decode cX0_walk 11 = .ok (.aload_n 0, 1) := by decide +kernel
theorem dX0_walk_12 : decode cX0_walk 12 = .ok (.aload_n 0, 1) := by decide +kernel
theorem dX0_walk_13 : decode cX0_walk 13 = .ok (.getfield 22, 3) := by decide +kernel
theorem dX0_walk_16 : decode cX0_walk 16 = .ok (.aload_n 0, 1) := by decide +kernel
theorem dX0_walk_17 : decode cX0_walk 17 = .ok (.getfield 131, 3) := by decide +kernel
theorem dX0_walk_20 : decode cX0_walk 20 = .ok (.invokevirtual 134, 3) := by decide +kernel
theorem dX0_walk_23 : decode cX0_walk 23 = .ok (.pop, 1) := by decide +kernel
theorem dX0_walk_24 : decode cX0_walk 24 = .ok (.aload_n 0, 1) := by decide +kernel
theorem dX0_walk_25 : decode cX0_walk 25 = .ok (.dup, 1) := by decide +kernel
theorem dX0_walk_26 : decode cX0_walk 26 = .ok (.getfield 131, 3) := by decide +kernel
theorem dX0_walk_29 : decode cX0_walk 29 = .ok (.iconst 1, 1) := by decide +kernel
theorem dX0_walk_30 : decode cX0_walk 30 = .ok (.iadd, 1) := by decide +kernel
theorem dX0_walk_31 : decode cX0_walk 31 = .ok (.putfield 131, 3) := by decide +kernel
theorem dX0_walk_34 : decode cX0_walk 34 = .ok (.iinc 2 1, 3) := by decide +kernel
theorem dX0_walk_37 : decode cX0_walk 37 = .ok (.goto (-31), 3) := by decide +kernel
theorem dX0_walk_40 : decode cX0_walk 40 = .ok (.return_, 1) := by decide +kernel
theorem dX0_draw_0 : decode cX0_draw 0 = .ok (.aload_n 0, 1) := by decide +kernel
theorem dX0_draw_1 : decode cX0_draw 1 = .ok (.aload_n 0, 1) := by decide +kernel
theorem dX0_draw_2 : decode cX0_draw 2 = .ok (.getfield 30, 3) := by decide +kernel
theorem dX0_draw_5 : decode cX0_draw 5 = .ok (.ldc 138, 2) := by decide +kernel
theorem dX0_draw_7 : decode cX0_draw 7 = .ok (.imul, 1) := by decide +kernel
theorem dX0_draw_8 : decode cX0_draw 8 = .ok (.sipush 12345, 3) := by decide +kernel
theorem dX0_draw_11 : decode cX0_draw 11 = .ok (.iadd, 1) := by decide +kernel
theorem dX0_draw_12 : decode cX0_draw 12 = .ok (.putfield 30, 3) := by decide +kernel
theorem dX0_draw_15 : decode cX0_draw 15 = .ok (.aload_n 0, 1) := by decide +kernel
theorem dX0_draw_16 : decode cX0_draw 16 = .ok (.getfield 30, 3) := by decide +kernel
theorem dX0_draw_19 : decode cX0_draw 19 = .ok (.bipush 8, 2) := by decide +kernel
theorem dX0_draw_21 : decode cX0_draw 21 = .ok (.iushr, 1) := by decide +kernel
theorem dX0_draw_22 : decode cX0_draw 22 = .ok (.ireturn, 1) := by decide +kernel
theorem dX0_goByDraws_0 : decode cX0_goByDraws 0 = .ok (.aload_n 0, 1) := by decide +kernel
theorem dX0_goByDraws_1 : decode cX0_goByDraws 1 = .ok (.getfield 51, 3) := by decide +kernel
theorem dX0_goByDraws_4 : decode cX0_goByDraws 4 = .ok (.ifCond .le 34, 3) := by decide +kernel
theorem dX0_goByDraws_7 : decode cX0_goByDraws 7 = .ok (.aload_n 0, 1) := by decide +kernel
theorem dX0_goByDraws_8 : decode cX0_goByDraws 8 = .ok (.invokevirtual 139, 3) := by decide +kernel
theorem dX0_goByDraws_11 : decode cX0_goByDraws 11 = .ok (.aload_n 0, 1) := by decide +kernel
theorem dX0_goByDraws_12 : decode cX0_goByDraws 12 = .ok (.getfield 51, 3) := by decide +kernel
theorem dX0_goByDraws_15 : decode cX0_goByDraws 15 = .ok (.irem, 1) := by decide +kernel
theorem dX0_goByDraws_16 : decode cX0_goByDraws 16 = .ok (.istore_n 1, 1) := by decide +kernel
theorem dX0_goByDraws_17 : decode cX0_goByDraws 17 = .ok (.aload_n 0, 1) := by decide +kernel
theorem dX0_goByDraws_18 : decode cX0_goByDraws 18 = .ok (.iload_n 1, 1) := by decide +kernel
theorem dX0_goByDraws_19 : decode cX0_goByDraws 19 = .ok (.invokevirtual 142, 3) := by decide +kernel
theorem dX0_goByDraws_22 : decode cX0_goByDraws 22 = .ok (.bipush (-2), 2) := by decide +kernel
theorem dX0_goByDraws_24 : decode cX0_goByDraws 24 = .ok (.if_icmp .eq 14, 3) := by decide +kernel
theorem dX0_goByDraws_27 : decode cX0_goByDraws 27 = .ok (.aload_n 0, 1) := by decide +kernel
theorem dX0_goByDraws_28 : decode cX0_goByDraws 28 = .ok (.iload_n 1, 1) := by decide +kernel
theorem dX0_goByDraws_29 : decode cX0_goByDraws 29 = .ok (.aload_n 0, 1) := by decide +kernel
theorem dX0_goByDraws_30 : decode cX0_goByDraws 30 = .ok (.iload_n 1, 1) := by decide +kernel
theorem dX0_goByDraws_31 : decode cX0_goByDraws 31 = .ok (.invokevirtual 145, 3) := by decide +kernel
theorem dX0_goByDraws_34 : decode cX0_goByDraws 34 = .ok (.invokevirtual 148, 3) := by decide +kernel
theorem dX0_goByDraws_37 : decode cX0_goByDraws 37 = .ok (.pop, 1) := by decide +kernel
theorem dX0_goByDraws_38 : decode cX0_goByDraws 38 = .ok (.aload_n 0, 1) := by decide +kernel
theorem dX0_goByDraws_39 : decode cX0_goByDraws 39 = .ok (.aload_n 0, 1) := by decide +kernel
theorem dX0_goByDraws_40 : decode cX0_goByDraws 40 = .ok (.invokevirtual 139, 3) := by decide +kernel
theorem dX0_goByDraws_43 : decode cX0_goByDraws 43 = .ok (.iconst 3, 1) := by decide +kernel
theorem dX0_goByDraws_44 : decode cX0_goByDraws 44 = .ok (.irem, 1) := by decide +kernel
theorem dX0_goByDraws_45 : decode cX0_goByDraws 45 = .ok (.iconst 1, 1) := by decide +kernel
theorem dX0_goByDraws_46 : decode cX0_goByDraws 46 = .ok (.iadd, 1) := by decide +kernel
theorem dX0_goByDraws_47 : decode cX0_goByDraws 47 = .ok (.invokevirtual 151, 3) := by decide +kernel
theorem dX0_goByDraws_50 : decode cX0_goByDraws 50 = .ok (.return_, 1) := by decide +kernel
theorem dX0_copy_0 : decode cX0_copy 0 = .ok (.iconst 0, 1) := by decide +kernel
theorem dX0_copy_1 : decode cX0_copy 1 = .ok (.istore_n 2, 1) := by decide +kernel
theorem dX0_copy_2 : decode cX0_copy 2 = .ok (.iload_n 2, 1) := by decide +kernel
theorem dX0_copy_3 : decode cX0_copy 3 = .ok (.bipush 9, 2) := by decide +kernel
theorem dX0_copy_5 : decode cX0_copy 5 = .ok (.if_icmp .ge 24, 3) := by decide +kernel
theorem dX0_copy_8 : decode cX0_copy 8 = .ok (.aload_n 0, 1) := by decide +kernel
theorem dX0_copy_9 : decode cX0_copy 9 = .ok (.getfield 11, 3) := by decide +kernel
theorem dX0_copy_12 : decode cX0_copy 12 = .ok (.iload_n 2, 1) := by decide +kernel
theorem dX0_copy_13 : decode cX0_copy 13 = .ok (.aaload, 1) := by decide +kernel
theorem dX0_copy_14 : decode cX0_copy 14 = .ok (.aload_n 1, 1) := by decide +kernel
theorem dX0_copy_15 : decode cX0_copy 15 = .ok (.getfield 11, 3) := by decide +kernel
theorem dX0_copy_18 : decode cX0_copy 18 = .ok (.iload_n 2, 1) := by decide +kernel
theorem dX0_copy_19 : decode cX0_copy 19 = .ok (.aaload, 1) := by decide +kernel
theorem dX0_copy_20 : decode cX0_copy 20 = .ok (.invokevirtual 154, 3) := by decide +kernel
theorem dX0_copy_23 : decode cX0_copy 23 = .ok (.iinc 2 1, 3) := by decide +kernel
theorem dX0_copy_26 : decode cX0_copy 26 = .ok (.goto (-24), 3) := by decide +kernel
theorem dX0_copy_29 : decode cX0_copy 29 = .ok (.aload_n 0, 1) := by decide +kernel
theorem dX0_copy_30 : decode cX0_copy 30 = .ok (.aload_n 1, 1) := by decide +kernel
theorem dX0_copy_31 : decode cX0_copy 31 = .ok (.getfield 51, 3) := by decide +kernel
theorem dX0_copy_34 : decode cX0_copy 34 = .ok (.putfield 51, 3) := by decide +kernel
theorem dX0_copy_37 : decode cX0_copy 37 = .ok (.aload_n 0, 1) := by decide +kernel
theorem dX0_copy_38 : decode cX0_copy 38 = .ok (.getfield 22, 3) := by decide +kernel
theorem dX0_copy_41 : decode cX0_copy 41 = .ok (.aload_n 1, 1) := by decide +kernel
theorem dX0_copy_42 : decode cX0_copy 42 = .ok (.getfield 22, 3) := by decide +kernel
theorem dX0_copy_45 : decode cX0_copy 45 = .ok (.invokevirtual 158, 3) := by decide +kernel
theorem dX0_copy_48 : decode cX0_copy 48 = .ok (.aload_n 0, 1) := by decide +kernel
theorem dX0_copy_49 : decode cX0_copy 49 = .ok (.aload_n 1, 1) := by decide +kernel
theorem dX0_copy_50 : decode cX0_copy 50 = .ok (.getfield 26, 3) := by decide +kernel
theorem dX0_copy_53 : decode cX0_copy 53 = .ok (.putfield 26, 3) := by decide +kernel
theorem dX0_copy_56 : decode cX0_copy 56 = .ok (.aload_n 0, 1) := by decide +kernel
theorem dX0_copy_57 : decode cX0_copy 57 = .ok (.aload_n 1, 1) := by decide +kernel
theorem dX0_copy_58 : decode cX0_copy 58 = .ok (.getfield 131, 3) := by decide +kernel
theorem dX0_copy_61 : decode cX0_copy 61 = .ok (.putfield 131, 3) := by decide +kernel
theorem dX0_copy_64 : decode cX0_copy 64 = .ok (.aload_n 0, 1) := by decide +kernel
theorem dX0_copy_65 : decode cX0_copy 65 = .ok (.aload_n 1, 1) := by decide +kernel
theorem dX0_copy_66 : decode cX0_copy 66 = .ok (.getfield 115, 3) := by decide +kernel
theorem dX0_copy_69 : decode cX0_copy 69 = .ok (.putfield 115, 3) := by decide +kernel
theorem dX0_copy_72 : decode cX0_copy 72 = .ok (.aload_n 0, 1) := by decide +kernel
theorem dX0_copy_73 : decode cX0_copy 73 = .ok (.aload_n 1, 1) := by decide +kernel
theorem dX0_copy_74 : decode cX0_copy 74 = .ok (.getfield 30, 3) := by decide +kernel
theorem dX0_copy_77 : decode cX0_copy 77 = .ok (.putfield 30, 3) := by decide +kernel
theorem dX0_copy_80 : decode cX0_copy 80 = .ok (.aload_n 0, 1) := by decide +kernel
theorem dX0_copy_81 : decode cX0_copy 81 = .ok (.getfield 33, 3) := by decide +kernel
theorem dX0_copy_84 : decode cX0_copy 84 = .ok (.aload_n 1, 1) := by decide +kernel
theorem dX0_copy_85 : decode cX0_copy 85 = .ok (.getfield 33, 3) := by decide +kernel
theorem dX0_copy_88 : decode cX0_copy 88 = .ok (.invokevirtual 158, 3) := by decide +kernel
theorem dX0_copy_91 : decode cX0_copy 91 = .ok (.iconst 0, 1) := by decide +kernel
theorem dX0_copy_92 : decode cX0_copy 92 = .ok (.istore_n 2, 1) := by decide +kernel
theorem dX0_copy_93 : decode cX0_copy 93 = .ok (.iload_n 2, 1) := by decide +kernel
theorem dX0_copy_94 : decode cX0_copy 94 = .ok (.iconst 2, 1) := by decide +kernel
theorem dX0_copy_95 : decode cX0_copy 95 = .ok (.if_icmp .ge 24, 3) := by decide +kernel
theorem dX0_copy_98 : decode cX0_copy 98 = .ok (.aload_n 0, 1) := by decide +kernel
theorem dX0_copy_99 : decode cX0_copy 99 = .ok (.getfield 38, 3) := by decide +kernel
theorem dX0_copy_102 : decode cX0_copy 102 = .ok (.iload_n 2, 1) := by decide +kernel
theorem dX0_copy_103 : decode cX0_copy 103 = .ok (.aaload, 1) := by decide +kernel
theorem dX0_copy_104 : decode cX0_copy 104 = .ok (.aload_n 1, 1) := by decide +kernel
theorem dX0_copy_105 : decode cX0_copy 105 = .ok (.getfield 38, 3) := by decide +kernel
theorem dX0_copy_108 : decode cX0_copy 108 = .ok (.iload_n 2, 1) := by decide +kernel
theorem dX0_copy_109 : decode cX0_copy 109 = .ok (.aaload, 1) := by decide +kernel
theorem dX0_copy_110 : decode cX0_copy 110 = .ok (.invokevirtual 161, 3) := by decide +kernel
theorem dX0_copy_113 : decode cX0_copy 113 = .ok (.iinc 2 1, 3) := by decide +kernel
theorem dX0_copy_116 : decode cX0_copy 116 = .ok (.goto (-23), 3) := by decide +kernel
theorem dX0_copy_119 : decode cX0_copy 119 = .ok (.aload_n 0, 1) := by decide +kernel
theorem dX0_copy_120 : decode cX0_copy 120 = .ok (.getfield 42, 3) := by decide +kernel
theorem dX0_copy_123 : decode cX0_copy 123 = .ok (.aload_n 1, 1) := by decide +kernel
theorem dX0_copy_124 : decode cX0_copy 124 = .ok (.getfield 42, 3) := by decide +kernel
theorem dX0_copy_127 : decode cX0_copy 127 = .ok (.invokevirtual 158, 3) := by decide +kernel
theorem dX0_copy_130 : decode cX0_copy 130 = .ok (.return_, 1) := by decide +kernel
theorem dX1_init_0 : decode cX1_init 0 = .ok (.aload_n 0, 1) := by decide +kernel
theorem dX1_init_1 : decode cX1_init 1 = .ok (.invokespecial 3, 3) := by decide +kernel
theorem dX1_init_4 : decode cX1_init 4 = .ok (.aload_n 0, 1) := by decide +kernel
theorem dX1_init_5 : decode cX1_init 5 = .ok (.iconst 0, 1) := by decide +kernel
theorem dX1_init_6 : decode cX1_init 6 = .ok (.iload_n 1, 1) := by decide +kernel
theorem dX1_init_7 : decode cX1_init 7 = .ok (.invokestatic 9, 3) := by decide +kernel
theorem dX1_init_10 : decode cX1_init 10 = .ok (.newarray .int, 2) := by decide +kernel
theorem dX1_init_12 : decode cX1_init 12 = .ok (.putfield 15, 3) := by decide +kernel
theorem dX1_init_15 : decode cX1_init 15 = .ok (.return_, 1) := by decide +kernel
theorem dX1_has_0 : decode cX1_has 0 = .ok (.iload_n 1, 1) := by decide +kernel
theorem dX1_has_1 : decode cX1_has 1 = .ok (.ifCond .lt 15, 3) := by decide +kernel
theorem dX1_has_4 : decode cX1_has 4 = .ok (.iload_n 1, 1) := by decide +kernel
theorem dX1_has_5 : decode cX1_has 5 = .ok (.aload_n 0, 1) := by decide +kernel
theorem dX1_has_6 : decode cX1_has 6 = .ok (.getfield 21, 3) := by decide +kernel
theorem dX1_has_9 : decode cX1_has 9 = .ok (.if_icmp .ge 7, 3) := by decide +kernel
theorem dX1_has_12 : decode cX1_has 12 = .ok (.iconst 1, 1) := by decide +kernel
theorem dX1_has_13 : decode cX1_has 13 = .ok (.goto 4, 3) := by decide +kernel
theorem dX1_has_16 : decode cX1_has 16 = .ok (.iconst 0, 1) := by decide +kernel
theorem dX1_has_17 : decode cX1_has 17 = .ok (.ireturn, 1) := by decide +kernel
theorem dX1_hasRun_0 : decode cX1_hasRun 0 = .ok (.iload_n 1, 1) := by decide +kernel
theorem dX1_hasRun_1 : decode cX1_hasRun 1 = .ok (.ifCond .lt 29, 3) := by decide +kernel
theorem dX1_hasRun_4 : decode cX1_hasRun 4 = .ok (.iload_n 2, 1) := by decide +kernel
theorem dX1_hasRun_5 : decode cX1_hasRun 5 = .ok (.ifCond .lt 25, 3) := by decide +kernel
theorem dX1_hasRun_8 : decode cX1_hasRun 8 = .ok (.iload_n 1, 1) := by decide +kernel
theorem dX1_hasRun_9 : decode cX1_hasRun 9 = .ok (.aload_n 0, 1) := by decide +kernel
theorem dX1_hasRun_10 : decode cX1_hasRun 10 = .ok (.getfield 21, 3) := by decide +kernel
theorem dX1_hasRun_13 : decode cX1_hasRun 13 = .ok (.if_icmp .gt 17, 3) := by decide +kernel
theorem dX1_hasRun_16 : decode cX1_hasRun 16 = .ok (.iload_n 2, 1) := by decide +kernel
theorem dX1_hasRun_17 : decode cX1_hasRun 17 = .ok (.aload_n 0, 1) := by decide +kernel
theorem dX1_hasRun_18 : decode cX1_hasRun 18 = .ok (.getfield 21, 3) := by decide +kernel
theorem dX1_hasRun_21 : decode cX1_hasRun 21 = .ok (.iload_n 1, 1) := by decide +kernel
theorem dX1_hasRun_22 : decode cX1_hasRun 22 = .ok (.isub, 1) := by decide +kernel
theorem dX1_hasRun_23 : decode cX1_hasRun 23 = .ok (.if_icmp .gt 7, 3) := by decide +kernel
theorem dX1_hasRun_26 : decode cX1_hasRun 26 = .ok (.iconst 1, 1) := by decide +kernel
theorem dX1_hasRun_27 : decode cX1_hasRun 27 = .ok (.goto 4, 3) := by decide +kernel
theorem dX1_hasRun_30 : decode cX1_hasRun 30 = .ok (.iconst 0, 1) := by decide +kernel
theorem dX1_hasRun_31 : decode cX1_hasRun 31 = .ok (.ireturn, 1) := by decide +kernel
theorem dX1_placeOf_0 : decode cX1_placeOf 0 = .ok (.iconst 0, 1) := by decide +kernel
theorem dX1_placeOf_1 : decode cX1_placeOf 1 = .ok (.istore_n 2, 1) := by decide +kernel
theorem dX1_placeOf_2 : decode cX1_placeOf 2 = .ok (.iload_n 2, 1) := by decide +kernel
theorem dX1_placeOf_3 : decode cX1_placeOf 3 = .ok (.aload_n 0, 1) := by decide +kernel
theorem dX1_placeOf_4 : decode cX1_placeOf 4 = .ok (.getfield 21, 3) := by decide +kernel
theorem dX1_placeOf_7 : decode cX1_placeOf 7 = .ok (.if_icmp .ge 21, 3) := by decide +kernel
theorem dX1_placeOf_10 : decode cX1_placeOf 10 = .ok (.aload_n 0, 1) := by decide +kernel
theorem dX1_placeOf_11 : decode cX1_placeOf 11 = .ok (.getfield 15, 3) := by decide +kernel
theorem dX1_placeOf_14 : decode cX1_placeOf 14 = .ok (.iload_n 2, 1) := by decide +kernel
theorem dX1_placeOf_15 : decode cX1_placeOf 15 = .ok (.iaload, 1) := by decide +kernel
theorem dX1_placeOf_16 : decode cX1_placeOf 16 = .ok (.iload_n 1, 1) := by decide +kernel
theorem dX1_placeOf_17 : decode cX1_placeOf 17 = .ok (.if_icmp .ne 5, 3) := by decide +kernel
theorem dX1_placeOf_20 : decode cX1_placeOf 20 = .ok (.iload_n 2, 1) := by decide +kernel
theorem dX1_placeOf_21 : decode cX1_placeOf 21 = .ok (.ireturn, 1) := by decide +kernel
theorem dX1_placeOf_22 : decode cX1_placeOf 22 = .ok (.iinc 2 1, 3) := by decide +kernel
theorem dX1_placeOf_25 : decode cX1_placeOf 25 = .ok (.goto (-23), 3) := by decide +kernel
theorem dX1_placeOf_28 : decode cX1_placeOf 28 = .ok (.iconst (-1), 1) := by decide +kernel
theorem dX1_placeOf_29 : decode cX1_placeOf 29 = .ok (.ireturn, 1) := by decide +kernel
theorem dX1_add_0 : decode cX1_add 0 = .ok (.aload_n 0, 1) := by decide +kernel
theorem dX1_add_1 : decode cX1_add 1 = .ok (.getfield 21, 3) := by decide +kernel
theorem dX1_add_4 : decode cX1_add 4 = .ok (.aload_n 0, 1) := by decide +kernel
theorem dX1_add_5 : decode cX1_add 5 = .ok (.getfield 15, 3) := by decide +kernel
theorem dX1_add_8 : decode cX1_add 8 = .ok (.arraylength, 1) := by decide +kernel
theorem dX1_add_9 : decode cX1_add 9 = .ok (.if_icmp .ge 23, 3) := by decide +kernel
theorem dX1_add_12 : decode cX1_add 12 = .ok (.aload_n 0, 1) := by decide +kernel
theorem dX1_add_13 : decode cX1_add 13 = .ok (.getfield 15, 3) := by decide +kernel
theorem dX1_add_16 : decode cX1_add 16 = .ok (.aload_n 0, 1) := by decide +kernel
theorem dX1_add_17 : decode cX1_add 17 = .ok (.getfield 21, 3) := by decide +kernel
theorem dX1_add_20 : decode cX1_add 20 = .ok (.iload_n 1, 1) := by decide +kernel
theorem dX1_add_21 : decode cX1_add 21 = .ok (.iastore, 1) := by decide +kernel
theorem dX1_add_22 : decode cX1_add 22 = .ok (.aload_n 0, 1) := by decide +kernel
theorem dX1_add_23 : decode cX1_add 23 = .ok (.dup, 1) := by decide +kernel
theorem dX1_add_24 : decode cX1_add 24 = .ok (.getfield 21, 3) := by decide +kernel
theorem dX1_add_27 : decode cX1_add 27 = .ok (.iconst 1, 1) := by decide +kernel
theorem dX1_add_28 : decode cX1_add 28 = .ok (.iadd, 1) := by decide +kernel
theorem dX1_add_29 : decode cX1_add 29 = .ok (.putfield 21, 3) := by decide +kernel
theorem dX1_add_32 : decode cX1_add 32 = .ok (.return_, 1) := by decide +kernel
theorem dX1_addOnTop_0 : decode cX1_addOnTop 0 = .ok (.aload_n 0, 1) := by decide +kernel
theorem dX1_addOnTop_1 : decode cX1_addOnTop 1 = .ok (.getfield 21, 3) := by decide +kernel
theorem dX1_addOnTop_4 : decode cX1_addOnTop 4 = .ok (.aload_n 0, 1) := by decide +kernel
theorem dX1_addOnTop_5 : decode cX1_addOnTop 5 = .ok (.getfield 15, 3) := by decide +kernel
theorem dX1_addOnTop_8 : decode cX1_addOnTop 8 = .ok (.arraylength, 1) := by decide +kernel
theorem dX1_addOnTop_9 : decode cX1_addOnTop 9 = .ok (.if_icmp .ge 37, 3) := by decide +kernel
theorem dX1_addOnTop_12 : decode cX1_addOnTop 12 = .ok (.aload_n 0, 1) := by decide +kernel
theorem dX1_addOnTop_13 : decode cX1_addOnTop 13 = .ok (.getfield 15, 3) := by decide +kernel
theorem dX1_addOnTop_16 : decode cX1_addOnTop 16 = .ok (.iconst 0, 1) := by decide +kernel
theorem dX1_addOnTop_17 : decode cX1_addOnTop 17 = .ok (.aload_n 0, 1) := by decide +kernel
theorem dX1_addOnTop_18 : decode cX1_addOnTop 18 = .ok (.getfield 15, 3) := by decide +kernel
theorem dX1_addOnTop_21 : decode cX1_addOnTop 21 = .ok (.iconst 1, 1) := by decide +kernel
theorem dX1_addOnTop_22 : decode cX1_addOnTop 22 = .ok (.aload_n 0, 1) := by decide +kernel
theorem dX1_addOnTop_23 : decode cX1_addOnTop 23 = .ok (.getfield 21, 3) := by decide +kernel
theorem dX1_addOnTop_26 : decode cX1_addOnTop 26 = .ok (.invokestatic 25, 3) := by decide +kernel
theorem dX1_addOnTop_29 : decode cX1_addOnTop 29 = .ok (.aload_n 0, 1) := by decide +kernel
theorem dX1_addOnTop_30 : decode cX1_addOnTop 30 = .ok (.getfield 15, 3) := by decide +kernel
theorem dX1_addOnTop_33 : decode cX1_addOnTop 33 = .ok (.iconst 0, 1) := by decide +kernel
theorem dX1_addOnTop_34 : decode cX1_addOnTop 34 = .ok (.iload_n 1, 1) := by decide +kernel
theorem dX1_addOnTop_35 : decode cX1_addOnTop 35 = .ok (.iastore, 1) := by decide +kernel
theorem dX1_addOnTop_36 : decode cX1_addOnTop 36 = .ok (.aload_n 0, 1) := by decide +kernel
theorem dX1_addOnTop_37 : decode cX1_addOnTop 37 = .ok (.dup, 1) := by decide +kernel
theorem dX1_addOnTop_38 : decode cX1_addOnTop 38 = .ok (.getfield 21, 3) := by decide +kernel
theorem dX1_addOnTop_41 : decode cX1_addOnTop 41 = .ok (.iconst 1, 1) := by decide +kernel
theorem dX1_addOnTop_42 : decode cX1_addOnTop 42 = .ok (.iadd, 1) := by decide +kernel
theorem dX1_addOnTop_43 : decode cX1_addOnTop 43 = .ok (.putfield 21, 3) := by decide +kernel
theorem dX1_addOnTop_46 : decode cX1_addOnTop 46 = .ok (.return_, 1) := by decide +kernel
theorem dX1_removeAt_0 : decode cX1_removeAt 0 = .ok (.aload_n 0, 1) := by decide +kernel
theorem dX1_removeAt_1 : decode cX1_removeAt 1 = .ok (.iload_n 1, 1) := by decide +kernel
theorem dX1_removeAt_2 : decode cX1_removeAt 2 = .ok (.invokevirtual 31, 3) := by decide +kernel
theorem dX1_removeAt_5 : decode cX1_removeAt 5 = .ok (.ifCond .eq 36, 3) := by decide +kernel
theorem dX1_removeAt_8 : decode cX1_removeAt 8 = .ok (.aload_n 0, 1) := by decide +kernel
theorem dX1_removeAt_9 : decode cX1_removeAt 9 = .ok (.getfield 15, 3) := by decide +kernel
theorem dX1_removeAt_12 : decode cX1_removeAt 12 = .ok (.iload_n 1, 1) := by decide +kernel
theorem dX1_removeAt_13 : decode cX1_removeAt 13 = .ok (.iconst 1, 1) := by decide +kernel
theorem dX1_removeAt_14 : decode cX1_removeAt 14 = .ok (.iadd, 1) := by decide +kernel
theorem dX1_removeAt_15 : decode cX1_removeAt 15 = .ok (.aload_n 0, 1) := by decide +kernel
theorem dX1_removeAt_16 : decode cX1_removeAt 16 = .ok (.getfield 15, 3) := by decide +kernel
theorem dX1_removeAt_19 : decode cX1_removeAt 19 = .ok (.iload_n 1, 1) := by decide +kernel
theorem dX1_removeAt_20 : decode cX1_removeAt 20 = .ok (.aload_n 0, 1) := by decide +kernel
theorem dX1_removeAt_21 : decode cX1_removeAt 21 = .ok (.getfield 21, 3) := by decide +kernel
theorem dX1_removeAt_24 : decode cX1_removeAt 24 = .ok (.iload_n 1, 1) := by decide +kernel
theorem dX1_removeAt_25 : decode cX1_removeAt 25 = .ok (.isub, 1) := by decide +kernel
theorem dX1_removeAt_26 : decode cX1_removeAt 26 = .ok (.iconst 1, 1) := by decide +kernel
theorem dX1_removeAt_27 : decode cX1_removeAt 27 = .ok (.isub, 1) := by decide +kernel
theorem dX1_removeAt_28 : decode cX1_removeAt 28 = .ok (.invokestatic 25, 3) := by decide +kernel
theorem dX1_removeAt_31 : decode cX1_removeAt 31 = .ok (.aload_n 0, 1) := by decide +kernel
theorem dX1_removeAt_32 : decode cX1_removeAt 32 = .ok (.dup, 1) := by decide +kernel
theorem dX1_removeAt_33 : decode cX1_removeAt 33 = .ok (.getfield 21, 3) := by decide +kernel
theorem dX1_removeAt_36 : decode cX1_removeAt 36 = .ok (.iconst 1, 1) := by decide +kernel
theorem dX1_removeAt_37 : decode cX1_removeAt 37 = .ok (.isub, 1) := by decide +kernel
theorem dX1_removeAt_38 : decode cX1_removeAt 38 = .ok (.putfield 21, 3) := by decide +kernel
theorem dX1_removeAt_41 : decode cX1_removeAt 41 = .ok (.return_, 1) := by decide +kernel
theorem dX1_exchange_0 : decode cX1_exchange 0 = .ok (.aload_n 0, 1) := by decide +kernel
theorem dX1_exchange_1 : decode cX1_exchange 1 = .ok (.iload_n 1, 1) := by decide +kernel
theorem dX1_exchange_2 : decode cX1_exchange 2 = .ok (.invokevirtual 31, 3) := by decide +kernel
theorem dX1_exchange_5 : decode cX1_exchange 5 = .ok (.ifCond .eq 37, 3) := by decide +kernel
theorem dX1_exchange_8 : decode cX1_exchange 8 = .ok (.aload_n 0, 1) := by decide +kernel
theorem dX1_exchange_9 : decode cX1_exchange 9 = .ok (.iload_n 2, 1) := by decide +kernel
theorem dX1_exchange_10 : decode cX1_exchange 10 = .ok (.invokevirtual 31, 3) := by decide +kernel
theorem dX1_exchange_13 : decode cX1_exchange 13 = .ok (.ifCond .eq 29, 3) := by decide +kernel
theorem dX1_exchange_16 : decode cX1_exchange 16 = .ok (.aload_n 0, 1) := by decide +kernel
theorem dX1_exchange_17 : decode cX1_exchange 17 = .ok (.getfield 15, 3) := by decide +kernel
theorem dX1_exchange_20 : decode cX1_exchange 20 = .ok (.iload_n 1, 1) := by decide +kernel
theorem dX1_exchange_21 : decode cX1_exchange 21 = .ok (.iaload, 1) := by decide +kernel
theorem dX1_exchange_22 : decode cX1_exchange 22 = .ok (.istore_n 3, 1) := by decide +kernel
theorem dX1_exchange_23 : decode cX1_exchange 23 = .ok (.aload_n 0, 1) := by decide +kernel
theorem dX1_exchange_24 : decode cX1_exchange 24 = .ok (.getfield 15, 3) := by decide +kernel
theorem dX1_exchange_27 : decode cX1_exchange 27 = .ok (.iload_n 1, 1) := by decide +kernel
theorem dX1_exchange_28 : decode cX1_exchange 28 = .ok (.aload_n 0, 1) := by decide +kernel
theorem dX1_exchange_29 : decode cX1_exchange 29 = .ok (.getfield 15, 3) := by decide +kernel
theorem dX1_exchange_32 : decode cX1_exchange 32 = .ok (.iload_n 2, 1) := by decide +kernel
theorem dX1_exchange_33 : decode cX1_exchange 33 = .ok (.iaload, 1) := by decide +kernel
theorem dX1_exchange_34 : decode cX1_exchange 34 = .ok (.iastore, 1) := by decide +kernel
theorem dX1_exchange_35 : decode cX1_exchange 35 = .ok (.aload_n 0, 1) := by decide +kernel
theorem dX1_exchange_36 : decode cX1_exchange 36 = .ok (.getfield 15, 3) := by decide +kernel
theorem dX1_exchange_39 : decode cX1_exchange 39 = .ok (.iload_n 2, 1) := by decide +kernel
theorem dX1_exchange_40 : decode cX1_exchange 40 = .ok (.iload_n 3, 1) := by decide +kernel
theorem dX1_exchange_41 : decode cX1_exchange 41 = .ok (.iastore, 1) := by decide +kernel
theorem dX1_exchange_42 : decode cX1_exchange 42 = .ok (.return_, 1) := by decide +kernel
theorem dX1_turnOverFrom_0 : decode cX1_turnOverFrom 0 = .ok (.iload_n 1, 1) := by decide +kernel
theorem dX1_turnOverFrom_1 : decode cX1_turnOverFrom 1 = .ok (.istore_n 2, 1) := by decide +kernel
theorem dX1_turnOverFrom_2 : decode cX1_turnOverFrom 2 = .ok (.aload_n 0, 1) := by decide +kernel
theorem dX1_turnOverFrom_3 : decode cX1_turnOverFrom 3 = .ok (.getfield 21, 3) := by decide +kernel
theorem dX1_turnOverFrom_6 : decode cX1_turnOverFrom 6 = .ok (.iconst 1, 1) := by decide +kernel
theorem dX1_turnOverFrom_7 : decode cX1_turnOverFrom 7 = .ok (.isub, 1) := by decide +kernel
theorem dX1_turnOverFrom_8 : decode cX1_turnOverFrom 8 = .ok (.istore_n 3, 1) := by decide +kernel
theorem dX1_turnOverFrom_9 : decode cX1_turnOverFrom 9 = .ok (.iload_n 2, 1) := by decide +kernel
theorem dX1_turnOverFrom_10 : decode cX1_turnOverFrom 10 = .ok (.iload_n 3, 1) := by decide +kernel
theorem dX1_turnOverFrom_11 : decode cX1_turnOverFrom 11 = .ok (.if_icmp .ge 18, 3) := by decide +kernel
theorem dX1_turnOverFrom_14 : decode cX1_turnOverFrom 14 = .ok (.aload_n 0, 1) := by decide +kernel
theorem dX1_turnOverFrom_15 : decode cX1_turnOverFrom 15 = .ok (.iload_n 2, 1) := by decide +kernel
theorem dX1_turnOverFrom_16 : decode cX1_turnOverFrom 16 = .ok (.iload_n 3, 1) := by decide +kernel
theorem dX1_turnOverFrom_17 : decode cX1_turnOverFrom 17 = .ok (.invokevirtual 35, 3) := by decide +kernel
theorem dX1_turnOverFrom_20 : decode cX1_turnOverFrom 20 = .ok (.iinc 2 1, 3) := by decide +kernel
theorem dX1_turnOverFrom_23 : decode cX1_turnOverFrom 23 = .ok (.iinc 3 (-1), 3) := by decide +kernel
theorem dX1_turnOverFrom_26 : decode cX1_turnOverFrom 26 = .ok (.goto (-17), 3) := by decide +kernel
theorem dX1_turnOverFrom_29 : decode cX1_turnOverFrom 29 = .ok (.return_, 1) := by decide +kernel
theorem dX1_goToNext_0 : decode cX1_goToNext 0 = .ok (.aload_n 0, 1) := by decide +kernel
theorem dX1_goToNext_1 : decode cX1_goToNext 1 = .ok (.getfield 21, 3) := by decide +kernel
theorem dX1_goToNext_4 : decode cX1_goToNext 4 = .ok (.iconst 2, 1) := by decide +kernel
theorem dX1_goToNext_5 : decode cX1_goToNext 5 = .ok (.isub, 1) := by decide +kernel
theorem dX1_goToNext_6 : decode cX1_goToNext 6 = .ok (.istore_n 1, 1) := by decide +kernel
theorem dX1_goToNext_7 : decode cX1_goToNext 7 = .ok (.iload_n 1, 1) := by decide +kernel
theorem dX1_goToNext_8 : decode cX1_goToNext 8 = .ok (.ifCond .lt 26, 3) := by decide +kernel
theorem dX1_goToNext_11 : decode cX1_goToNext 11 = .ok (.aload_n 0, 1) := by decide +kernel
theorem dX1_goToNext_12 : decode cX1_goToNext 12 = .ok (.getfield 15, 3) := by decide +kernel
theorem dX1_goToNext_15 : decode cX1_goToNext 15 = .ok (.iload_n 1, 1) := by decide +kernel
theorem dX1_goToNext_16 : decode cX1_goToNext 16 = .ok (.iaload, 1) := by decide +kernel
theorem dX1_goToNext_17 : decode cX1_goToNext 17 = .ok (.aload_n 0, 1) := by decide +kernel
theorem dX1_goToNext_18 : decode cX1_goToNext 18 = .ok (.getfield 15, 3) := by decide +kernel
theorem dX1_goToNext_21 : decode cX1_goToNext 21 = .ok (.iload_n 1, 1) := by decide +kernel
theorem dX1_goToNext_22 : decode cX1_goToNext 22 = .ok (.iconst 1, 1) := by decide +kernel
theorem dX1_goToNext_23 : decode cX1_goToNext 23 = .ok (.iadd, 1) := by decide +kernel
theorem dX1_goToNext_24 : decode cX1_goToNext 24 = .ok (.iaload, 1) := by decide +kernel
theorem dX1_goToNext_25 : decode cX1_goToNext 25 = .ok (.if_icmp .lt 9, 3) := by decide +kernel
theorem dX1_goToNext_28 : decode cX1_goToNext 28 = .ok (.iinc 1 (-1), 3) := by decide +kernel
theorem dX1_goToNext_31 : decode cX1_goToNext 31 = .ok (.goto (-24), 3) := by decide +kernel
theorem dX1_goToNext_34 : decode cX1_goToNext 34 = .ok (.iload_n 1, 1) := by decide +kernel
theorem dX1_goToNext_35 : decode cX1_goToNext 35 = .ok (.ifCond .ge 5, 3) := by decide +kernel
theorem dX1_goToNext_38 : decode cX1_goToNext 38 = .ok (.iconst 0, 1) := by decide +kernel
theorem dX1_goToNext_39 : decode cX1_goToNext 39 = .ok (.ireturn, 1) := by decide +kernel
theorem dX1_goToNext_40 : decode cX1_goToNext 40 = .ok (.aload_n 0, 1) := by decide +kernel
theorem dX1_goToNext_41 : decode cX1_goToNext 41 = .ok (.getfield 21, 3) := by decide +kernel
theorem dX1_goToNext_44 : decode cX1_goToNext 44 = .ok (.iconst 1, 1) := by decide +kernel
theorem dX1_goToNext_45 : decode cX1_goToNext 45 = .ok (.isub, 1) := by decide +kernel
theorem dX1_goToNext_46 : decode cX1_goToNext 46 = .ok (.istore_n 2, 1) := by decide +kernel
theorem dX1_goToNext_47 : decode cX1_goToNext 47 = .ok (.iload_n 2, 1) := by decide +kernel
theorem dX1_goToNext_48 : decode cX1_goToNext 48 = .ok (.iload_n 1, 1) := by decide +kernel
theorem dX1_goToNext_49 : decode cX1_goToNext 49 = .ok (.if_icmp .le 24, 3) := by decide +kernel
theorem dX1_goToNext_52 : decode cX1_goToNext 52 = .ok (.aload_n 0, 1) := by decide +kernel
theorem dX1_goToNext_53 : decode cX1_goToNext 53 = .ok (.getfield 15, 3) := by decide +kernel
theorem dX1_goToNext_56 : decode cX1_goToNext 56 = .ok (.iload_n 2, 1) := by decide +kernel
theorem dX1_goToNext_57 : decode cX1_goToNext 57 = .ok (.iaload, 1) := by decide +kernel
theorem dX1_goToNext_58 : decode cX1_goToNext 58 = .ok (.aload_n 0, 1) := by decide +kernel
theorem dX1_goToNext_59 : decode cX1_goToNext 59 = .ok (.getfield 15, 3) := by decide +kernel
theorem dX1_goToNext_62 : decode cX1_goToNext 62 = .ok (.iload_n 1, 1) := by decide +kernel
theorem dX1_goToNext_63 : decode cX1_goToNext 63 = .ok (.iaload, 1) := by decide +kernel
theorem dX1_goToNext_64 : decode cX1_goToNext 64 = .ok (.if_icmp .gt 9, 3) := by decide +kernel
theorem dX1_goToNext_67 : decode cX1_goToNext 67 = .ok (.iinc 2 (-1), 3) := by decide +kernel
theorem dX1_goToNext_70 : decode cX1_goToNext 70 = .ok (.goto (-23), 3) := by decide +kernel
theorem dX1_goToNext_73 : decode cX1_goToNext 73 = .ok (.aload_n 0, 1) := by decide +kernel
theorem dX1_goToNext_74 : decode cX1_goToNext 74 = .ok (.iload_n 1, 1) := by decide +kernel
theorem dX1_goToNext_75 : decode cX1_goToNext 75 = .ok (.iload_n 2, 1) := by decide +kernel
theorem dX1_goToNext_76 : decode cX1_goToNext 76 = .ok (.invokevirtual 35, 3) := by decide +kernel
theorem dX1_goToNext_79 : decode cX1_goToNext 79 = .ok (.aload_n 0, 1) := by decide +kernel
theorem dX1_goToNext_80 : decode cX1_goToNext 80 = .ok (.iload_n 1, 1) := by decide +kernel
theorem dX1_goToNext_81 : decode cX1_goToNext 81 = .ok (.iconst 1, 1) := by decide +kernel
theorem dX1_goToNext_82 : decode cX1_goToNext 82 = .ok (.iadd, 1) := by decide +kernel
theorem dX1_goToNext_83 : decode cX1_goToNext 83 = .ok (.invokevirtual 39, 3) := by decide +kernel
theorem dX1_goToNext_86 : decode cX1_goToNext 86 = .ok (.iconst 1, 1) := by decide +kernel
theorem dX1_goToNext_87 : decode cX1_goToNext 87 = .ok (.ireturn, 1) := by decide +kernel
theorem dX1_alikeWith_0 : decode cX1_alikeWith 0 = .ok (.iconst 0, 1) := by decide +kernel
theorem dX1_alikeWith_1 : decode cX1_alikeWith 1 = .ok (.istore_n 2, 1) := by decide +kernel
theorem dX1_alikeWith_2 : decode cX1_alikeWith 2 = .ok (.iload_n 2, 1) := by decide +kernel
theorem dX1_alikeWith_3 : decode cX1_alikeWith 3 = .ok (.aload_n 0, 1) := by decide +kernel
theorem dX1_alikeWith_4 : decode cX1_alikeWith 4 = .ok (.getfield 21, 3) := by decide +kernel
theorem dX1_alikeWith_7 : decode cX1_alikeWith 7 = .ok (.if_icmp .ge 32, 3) := by decide +kernel
theorem dX1_alikeWith_10 : decode cX1_alikeWith 10 = .ok (.iload_n 2, 1) := by decide +kernel
theorem dX1_alikeWith_11 : decode cX1_alikeWith 11 = .ok (.aload_n 1, 1) := by decide +kernel
theorem dX1_alikeWith_12 : decode cX1_alikeWith 12 = .ok (.getfield 21, 3) := by decide +kernel
theorem dX1_alikeWith_15 : decode cX1_alikeWith 15 = .ok (.if_icmp .ge 24, 3) := by decide +kernel
theorem dX1_alikeWith_18 : decode cX1_alikeWith 18 = .ok (.aload_n 0, 1) := by decide +kernel
theorem dX1_alikeWith_19 : decode cX1_alikeWith 19 = .ok (.getfield 15, 3) := by decide +kernel
theorem dX1_alikeWith_22 : decode cX1_alikeWith 22 = .ok (.iload_n 2, 1) := by decide +kernel
theorem dX1_alikeWith_23 : decode cX1_alikeWith 23 = .ok (.iaload, 1) := by decide +kernel
theorem dX1_alikeWith_24 : decode cX1_alikeWith 24 = .ok (.aload_n 1, 1) := by decide +kernel
theorem dX1_alikeWith_25 : decode cX1_alikeWith 25 = .ok (.getfield 15, 3) := by decide +kernel
theorem dX1_alikeWith_28 : decode cX1_alikeWith 28 = .ok (.iload_n 2, 1) := by decide +kernel
theorem dX1_alikeWith_29 : decode cX1_alikeWith 29 = .ok (.iaload, 1) := by decide +kernel
theorem dX1_alikeWith_30 : decode cX1_alikeWith 30 = .ok (.if_icmp .ne 9, 3) := by decide +kernel
theorem dX1_alikeWith_33 : decode cX1_alikeWith 33 = .ok (.iinc 2 1, 3) := by decide +kernel
theorem dX1_alikeWith_36 : decode cX1_alikeWith 36 = .ok (.goto (-34), 3) := by decide +kernel
theorem dX1_alikeWith_39 : decode cX1_alikeWith 39 = .ok (.iload_n 2, 1) := by decide +kernel
theorem dX1_alikeWith_40 : decode cX1_alikeWith 40 = .ok (.ireturn, 1) := by decide +kernel
theorem dX1_copy_0 : decode cX1_copy 0 = .ok (.aload_n 1, 1) := by decide +kernel
theorem dX1_copy_1 : decode cX1_copy 1 = .ok (.getfield 21, 3) := by decide +kernel
theorem dX1_copy_4 : decode cX1_copy 4 = .ok (.aload_n 0, 1) := by decide +kernel
theorem dX1_copy_5 : decode cX1_copy 5 = .ok (.getfield 15, 3) := by decide +kernel
theorem dX1_copy_8 : decode cX1_copy 8 = .ok (.arraylength, 1) := by decide +kernel
theorem dX1_copy_9 : decode cX1_copy 9 = .ok (.invokestatic 43, 3) := by decide +kernel
theorem dX1_copy_12 : decode cX1_copy 12 = .ok (.istore_n 2, 1) := by decide +kernel
theorem dX1_copy_13 : decode cX1_copy 13 = .ok (.aload_n 1, 1) := by decide +kernel
theorem dX1_copy_14 : decode cX1_copy 14 = .ok (.getfield 15, 3) := by decide +kernel
theorem dX1_copy_17 : decode cX1_copy 17 = .ok (.iconst 0, 1) := by decide +kernel
theorem dX1_copy_18 : decode cX1_copy 18 = .ok (.aload_n 0, 1) := by decide +kernel
theorem dX1_copy_19 : decode cX1_copy 19 = .ok (.getfield 15, 3) := by decide +kernel
theorem dX1_copy_22 : decode cX1_copy 22 = .ok (.iconst 0, 1) := by decide +kernel
theorem dX1_copy_23 : decode cX1_copy 23 = .ok (.iload_n 2, 1) := by decide +kernel
theorem dX1_copy_24 : decode cX1_copy 24 = .ok (.invokestatic 25, 3) := by decide +kernel
theorem dX1_copy_27 : decode cX1_copy 27 = .ok (.aload_n 0, 1) := by decide +kernel
theorem dX1_copy_28 : decode cX1_copy 28 = .ok (.iload_n 2, 1) := by decide +kernel
theorem dX1_copy_29 : decode cX1_copy 29 = .ok (.putfield 21, 3) := by decide +kernel
theorem dX1_copy_32 : decode cX1_copy 32 = .ok (.return_, 1) := by decide +kernel
theorem dX2_init_0 : decode cX2_init 0 = .ok (.aload_n 0, 1) := by decide +kernel
theorem dX2_init_1 : decode cX2_init 1 = .ok (.invokespecial 3, 3) := by decide +kernel
theorem dX2_init_4 : decode cX2_init 4 = .ok (.aload_n 0, 1) := by decide +kernel
theorem dX2_init_5 : decode cX2_init 5 = .ok (.new 9, 3) := by decide +kernel
theorem dX2_init_8 : decode cX2_init 8 = .ok (.dup, 1) := by decide +kernel
theorem dX2_init_9 : decode cX2_init 9 = .ok (.bipush 24, 2) := by decide +kernel
theorem dX2_init_11 : decode cX2_init 11 = .ok (.invokespecial 11, 3) := by decide +kernel
theorem dX2_init_14 : decode cX2_init 14 = .ok (.putfield 14, 3) := by decide +kernel
theorem dX2_init_17 : decode cX2_init 17 = .ok (.return_, 1) := by decide +kernel
theorem dX2_isMissing_0 : decode cX2_isMissing 0 = .ok (.aload_n 0, 1) := by decide +kernel
theorem dX2_isMissing_1 : decode cX2_isMissing 1 = .ok (.getfield 20, 3) := by decide +kernel
theorem dX2_isMissing_4 : decode cX2_isMissing 4 = .ok (.ifCond .ne 7, 3) := by decide +kernel
theorem dX2_isMissing_7 : decode cX2_isMissing 7 = .ok (.iconst 1, 1) := by decide +kernel
theorem dX2_isMissing_8 : decode cX2_isMissing 8 = .ok (.goto 4, 3) := by decide +kernel
theorem dX2_isMissing_11 : decode cX2_isMissing 11 = .ok (.iconst 0, 1) := by decide +kernel
theorem dX2_isMissing_12 : decode cX2_isMissing 12 = .ok (.ireturn, 1) := by decide +kernel
theorem dX2_begin_0 : decode cX2_begin 0 = .ok (.aload_n 0, 1) := by decide +kernel
theorem dX2_begin_1 : decode cX2_begin 1 = .ok (.iload_n 1, 1) := by decide +kernel
theorem dX2_begin_2 : decode cX2_begin 2 = .ok (.putfield 20, 3) := by decide +kernel
theorem dX2_begin_5 : decode cX2_begin 5 = .ok (.aload_n 0, 1) := by decide +kernel
theorem dX2_begin_6 : decode cX2_begin 6 = .ok (.getfield 14, 3) := by decide +kernel
theorem dX2_begin_9 : decode cX2_begin 9 = .ok (.iconst 0, 1) := by decide +kernel
theorem dX2_begin_10 : decode cX2_begin 10 = .ok (.putfield 24, 3) := by decide +kernel
theorem dX2_begin_13 : decode cX2_begin 13 = .ok (.iconst 0, 1) := by decide +kernel
theorem dX2_begin_14 : decode cX2_begin 14 = .ok (.istore_n 3, 1) := by decide +kernel
theorem dX2_begin_15 : decode cX2_begin 15 = .ok (.iload_n 3, 1) := by decide +kernel
theorem dX2_begin_16 : decode cX2_begin 16 = .ok (.iload_n 2, 1) := by decide +kernel
theorem dX2_begin_17 : decode cX2_begin 17 = .ok (.if_icmp .ge 17, 3) := by decide +kernel
theorem dX2_begin_20 : decode cX2_begin 20 = .ok (.aload_n 0, 1) := by decide +kernel
theorem dX2_begin_21 : decode cX2_begin 21 = .ok (.getfield 14, 3) := by decide +kernel
theorem dX2_begin_24 : decode cX2_begin 24 = .ok (.iconst 0, 1) := by decide +kernel
theorem dX2_begin_25 : decode cX2_begin 25 = .ok (.invokevirtual 27, 3) := by decide +kernel
theorem dX2_begin_28 : decode cX2_begin 28 = .ok (.iinc 3 1, 3) := by decide +kernel
theorem dX2_begin_31 : decode cX2_begin 31 = .ok (.goto (-16), 3) := by decide +kernel
theorem dX2_begin_34 : decode cX2_begin 34 = .ok (.return_, 1) := by decide +kernel
theorem dX2_write_0 : decode cX2_write 0 = .ok (.aload_n 0, 1) := by decide +kernel
theorem dX2_write_1 : decode cX2_write 1 = .ok (.getfield 14, 3) := by decide +kernel
theorem dX2_write_4 : decode cX2_write 4 = .ok (.iload_n 1, 1) := by decide +kernel
theorem dX2_write_5 : decode cX2_write 5 = .ok (.invokevirtual 30, 3) := by decide +kernel
theorem dX2_write_8 : decode cX2_write 8 = .ok (.ifCond .eq 35, 3) := by decide +kernel
theorem dX2_write_11 : decode cX2_write 11 = .ok (.aload_n 0, 1) := by decide +kernel
theorem dX2_write_12 : decode cX2_write 12 = .ok (.getfield 14, 3) := by decide +kernel
theorem dX2_write_15 : decode cX2_write 15 = .ok (.getfield 34, 3) := by decide +kernel
theorem dX2_write_18 : decode cX2_write 18 = .ok (.iload_n 1, 1) := by decide +kernel
theorem dX2_write_19 : decode cX2_write 19 = .ok (.aload_n 0, 1) := by decide +kernel
theorem dX2_write_20 : decode cX2_write 20 = .ok (.getfield 20, 3) := by decide +kernel
theorem dX2_write_23 : decode cX2_write 23 = .ok (.bipush 32, 2) := by decide +kernel
theorem dX2_write_25 : decode cX2_write 25 = .ok (.if_icmp .ne 7, 3) := by decide +kernel
theorem dX2_write_28 : decode cX2_write 28 = .ok (.iload_n 2, 1) := by decide +kernel
theorem dX2_write_29 : decode cX2_write 29 = .ok (.goto 13, 3) := by decide +kernel
theorem dX2_write_32 : decode cX2_write 32 = .ok (.iload_n 2, 1) := by decide +kernel
theorem dX2_write_33 : decode cX2_write 33 = .ok (.iconst 1, 1) := by decide +kernel
theorem dX2_write_34 : decode cX2_write 34 = .ok (.aload_n 0, 1) := by decide +kernel
theorem dX2_write_35 : decode cX2_write 35 = .ok (.getfield 20, 3) := by decide +kernel
theorem dX2_write_38 : decode cX2_write 38 = .ok (.ishl, 1) := by decide +kernel
theorem dX2_write_39 : decode cX2_write 39 = .ok (.iconst 1, 1) := by decide +kernel
theorem dX2_write_40 : decode cX2_write 40 = .ok (.isub, 1) := by decide +kernel
theorem dX2_write_41 : decode cX2_write 41 = .ok (.iand, 1) := by decide +kernel
theorem dX2_write_42 : decode cX2_write 42 = .ok (.iastore, 1) := by decide +kernel
theorem dX2_write_43 : decode cX2_write 43 = .ok (.return_, 1) := by decide +kernel
theorem dX3_init_0 : decode cX3_init 0 = .ok (.aload_n 0, 1) := by decide +kernel
theorem dX3_init_1 : decode cX3_init 1 = .ok (.invokespecial 3, 3) := by decide +kernel
theorem dX3_init_4 : decode cX3_init 4 = .ok (.aload_n 0, 1) := by decide +kernel
theorem dX3_init_5 : decode cX3_init 5 = .ok (.new 9, 3) := by decide +kernel
theorem dX3_init_8 : decode cX3_init 8 = .ok (.dup, 1) := by decide +kernel
theorem dX3_init_9 : decode cX3_init 9 = .ok (.bipush 60, 2) := by decide +kernel
theorem dX3_init_11 : decode cX3_init 11 = .ok (.invokespecial 11, 3) := by decide +kernel
theorem dX3_init_14 : decode cX3_init 14 = .ok (.putfield 14, 3) := by decide +kernel
theorem dX3_init_17 : decode cX3_init 17 = .ok (.aload_n 0, 1) := by decide +kernel
theorem dX3_init_18 : decode cX3_init 18 = .ok (.new 9, 3) := by decide +kernel
theorem dX3_init_21 : decode cX3_init 21 = .ok (.dup, 1) := by decide +kernel
theorem dX3_init_22 : decode cX3_init 22 = .ok (.bipush 60, 2) := by decide +kernel
theorem dX3_init_24 : decode cX3_init 24 = .ok (.invokespecial 11, 3) := by decide +kernel
theorem dX3_init_27 : decode cX3_init 27 = .ok (.putfield 20, 3) := by decide +kernel
theorem dX3_init_30 : decode cX3_init 30 = .ok (.aload_n 0, 1) := by decide +kernel
theorem dX3_init_31 : decode cX3_init 31 = .ok (.bipush 60, 2) := by decide +kernel
theorem dX3_init_33 : decode cX3_init 33 = .ok (.newarray .int, 2) := by decide +kernel
theorem dX3_init_35 : decode cX3_init 35 = .ok (.putfield 23, 3) := by decide +kernel
theorem dX3_init_38 : decode cX3_init 38 = .ok (.aload_n 0, 1) := by decide +kernel
theorem dX3_init_39 : decode cX3_init 39 = .ok (.ldc 27, 2) := by decide +kernel
theorem dX3_init_41 : decode cX3_init 41 = .ok (.putfield 29, 3) := by decide +kernel
theorem dX3_init_44 : decode cX3_init 44 = .ok (.return_, 1) := by decide +kernel
theorem dX3_isThere_0 : decode cX3_isThere 0 = .ok (.aload_n 0, 1) := by decide +kernel
theorem dX3_isThere_1 : decode cX3_isThere 1 = .ok (.getfield 14, 3) := by decide +kernel
theorem dX3_isThere_4 : decode cX3_isThere 4 = .ok (.getfield 33, 3) := by decide +kernel
theorem dX3_isThere_7 : decode cX3_isThere 7 = .ok (.ifCond .le 7, 3) := by decide +kernel
theorem dX3_isThere_10 : decode cX3_isThere 10 = .ok (.iconst 1, 1) := by decide +kernel
theorem dX3_isThere_11 : decode cX3_isThere 11 = .ok (.goto 4, 3) := by decide +kernel
theorem dX3_isThere_14 : decode cX3_isThere 14 = .ok (.iconst 0, 1) := by decide +kernel
theorem dX3_isThere_15 : decode cX3_isThere 15 = .ok (.ireturn, 1) := by decide +kernel
theorem dX3_read_0 : decode cX3_read 0 = .ok (.aload_n 0, 1) := by decide +kernel
theorem dX3_read_1 : decode cX3_read 1 = .ok (.aload_n 1, 1) := by decide +kernel
theorem dX3_read_2 : decode cX3_read 2 = .ok (.putfield 37, 3) := by decide +kernel
theorem dX3_read_5 : decode cX3_read 5 = .ok (.aload_n 0, 1) := by decide +kernel
theorem dX3_read_6 : decode cX3_read 6 = .ok (.aload_n 2, 1) := by decide +kernel
theorem dX3_read_7 : decode cX3_read 7 = .ok (.putfield 29, 3) := by decide +kernel
theorem dX3_read_10 : decode cX3_read 10 = .ok (.aload_n 0, 1) := by decide +kernel
theorem dX3_read_11 : decode cX3_read 11 = .ok (.iconst 0, 1) := by decide +kernel
theorem dX3_read_12 : decode cX3_read 12 = .ok (.putfield 40, 3) := by decide +kernel
theorem dX3_read_15 : decode cX3_read 15 = .ok (.aload_n 0, 1) := by decide +kernel
theorem dX3_read_16 : decode cX3_read 16 = .ok (.getfield 20, 3) := by decide +kernel
theorem dX3_read_19 : decode cX3_read 19 = .ok (.iconst 0, 1) := by decide +kernel
theorem dX3_read_20 : decode cX3_read 20 = .ok (.putfield 33, 3) := by decide +kernel
theorem dX3_read_23 : decode cX3_read 23 = .ok (.aload_n 0, 1) := by decide +kernel
theorem dX3_read_24 : decode cX3_read 24 = .ok (.iconst 0, 1) := by decide +kernel
theorem dX3_read_25 : decode cX3_read 25 = .ok (.iconst 0, 1) := by decide +kernel
theorem dX3_read_26 : decode cX3_read 26 = .ok (.invokevirtual 43, 3) := by decide +kernel
theorem dX3_read_29 : decode cX3_read 29 = .ok (.ifCond .eq 14, 3) := by decide +kernel
theorem dX3_read_32 : decode cX3_read 32 = .ok (.aload_n 0, 1) := by decide +kernel
theorem dX3_read_33 : decode cX3_read 33 = .ok (.getfield 40, 3) := by decide +kernel
theorem dX3_read_36 : decode cX3_read 36 = .ok (.aload_n 1, 1) := by decide +kernel
theorem dX3_read_37 : decode cX3_read 37 = .ok (.getfield 33, 3) := by decide +kernel
theorem dX3_read_40 : decode cX3_read 40 = .ok (.if_icmp .ge 8, 3) := by decide +kernel
theorem dX3_read_43 : decode cX3_read 43 = .ok (.aload_n 0, 1) := by decide +kernel
theorem dX3_read_44 : decode cX3_read 44 = .ok (.getfield 40, 3) := by decide +kernel
theorem dX3_read_47 : decode cX3_read 47 = .ok (.ireturn, 1) := by decide +kernel
theorem dX3_read_48 : decode cX3_read 48 = .ok (.aload_n 0, 1) := by decide +kernel
theorem dX3_read_49 : decode cX3_read 49 = .ok (.getfield 14, 3) := by decide +kernel
theorem dX3_read_52 : decode cX3_read 52 = .ok (.aload_n 0, 1) := by decide +kernel
theorem dX3_read_53 : decode cX3_read 53 = .ok (.getfield 20, 3) := by decide +kernel
theorem dX3_read_56 : decode cX3_read 56 = .ok (.invokevirtual 47, 3) := by decide +kernel
theorem dX3_read_59 : decode cX3_read 59 = .ok (.iconst (-1), 1) := by decide +kernel
theorem dX3_read_60 : decode cX3_read 60 = .ok (.ireturn, 1) := by decide +kernel
theorem dX3_reads_0 : decode cX3_reads 0 = .ok (.iload_n 1, 1) := by decide +kernel
theorem dX3_reads_1 : decode cX3_reads 1 = .ok (.iconst 5, 1) := by decide +kernel
theorem dX3_reads_2 : decode cX3_reads 2 = .ok (.if_icmp .lt 9, 3) := by decide +kernel
theorem dX3_reads_5 : decode cX3_reads 5 = .ok (.aload_n 0, 1) := by decide +kernel
theorem dX3_reads_6 : decode cX3_reads 6 = .ok (.iload_n 2, 1) := by decide +kernel
theorem dX3_reads_7 : decode cX3_reads 7 = .ok (.invokevirtual 51, 3) := by decide +kernel
theorem dX3_reads_10 : decode cX3_reads 10 = .ok (.ireturn, 1) := by decide +kernel
theorem dX3_reads_11 : decode cX3_reads 11 = .ok (.aload_n 0, 1) := by decide +kernel
theorem dX3_reads_12 : decode cX3_reads 12 = .ok (.iload_n 1, 1) := by decide +kernel
theorem dX3_reads_13 : decode cX3_reads 13 = .ok (.iconst 1, 1) := by decide +kernel
theorem dX3_reads_14 : decode cX3_reads 14 = .ok (.iadd, 1) := by decide +kernel
theorem dX3_reads_15 : decode cX3_reads 15 = .ok (.iload_n 2, 1) := by decide +kernel
theorem dX3_reads_16 : decode cX3_reads 16 = .ok (.invokevirtual 43, 3) := by decide +kernel
theorem dX3_reads_19 : decode cX3_reads 19 = .ok (.ifCond .ne 5, 3) := by decide +kernel
theorem dX3_reads_22 : decode cX3_reads 22 = .ok (.iconst 0, 1) := by decide +kernel
theorem dX3_reads_23 : decode cX3_reads 23 = .ok (.ireturn, 1) := by decide +kernel
theorem dX3_reads_24 : decode cX3_reads 24 = .ok (.iconst 0, 1) := by decide +kernel
theorem dX3_reads_25 : decode cX3_reads 25 = .ok (.istore_n 3, 1) := by decide +kernel
theorem dX3_reads_26 : decode cX3_reads 26 = .ok (.iload_n 3, 1) := by decide +kernel
theorem dX3_reads_27 : decode cX3_reads 27 = .ok (.bipush 60, 2) := by decide +kernel
theorem dX3_reads_29 : decode cX3_reads 29 = .ok (.if_icmp .ge 66, 3) := by decide +kernel
theorem dX3_reads_32 : decode cX3_reads 32 = .ok (.aload_n 0, 1) := by decide +kernel
theorem dX3_reads_33 : decode cX3_reads 33 = .ok (.iload_n 1, 1) := by decide +kernel
theorem dX3_reads_34 : decode cX3_reads 34 = .ok (.invokestatic 55, 3) := by decide +kernel
theorem dX3_reads_37 : decode cX3_reads 37 = .ok (.invokevirtual 59, 3) := by decide +kernel
theorem dX3_reads_40 : decode cX3_reads 40 = .ok (.ifCond .eq 55, 3) := by decide +kernel
theorem dX3_reads_43 : decode cX3_reads 43 = .ok (.aload_n 0, 1) := by decide +kernel
theorem dX3_reads_44 : decode cX3_reads 44 = .ok (.invokevirtual 63, 3) := by decide +kernel
theorem dX3_reads_47 : decode cX3_reads 47 = .ok (.istore 4, 2) := by decide +kernel
theorem dX3_reads_49 : decode cX3_reads 49 = .ok (.aload_n 0, 1) := by decide +kernel
theorem dX3_reads_50 : decode cX3_reads 50 = .ok (.dup, 1) := by decide +kernel
theorem dX3_reads_51 : decode cX3_reads 51 = .ok (.getfield 40, 3) := by decide +kernel
theorem dX3_reads_54 : decode cX3_reads 54 = .ok (.iconst 1, 1) := by decide +kernel
theorem dX3_reads_55 : decode cX3_reads 55 = .ok (.iadd, 1) := by decide +kernel
theorem dX3_reads_56 : decode cX3_reads 56 = .ok (.putfield 40, 3) := by decide +kernel
theorem dX3_reads_59 : decode cX3_reads 59 = .ok (.aload_n 0, 1) := by decide +kernel
theorem dX3_reads_60 : decode cX3_reads 60 = .ok (.iload_n 1, 1) := by decide +kernel
theorem dX3_reads_61 : decode cX3_reads 61 = .ok (.iconst 1, 1) := by decide +kernel
theorem dX3_reads_62 : decode cX3_reads 62 = .ok (.iadd, 1) := by decide +kernel
theorem dX3_reads_63 : decode cX3_reads 63 = .ok (.iload_n 2, 1) := by decide +kernel
theorem dX3_reads_64 : decode cX3_reads 64 = .ok (.invokevirtual 43, 3) := by decide +kernel
theorem dX3_reads_67 : decode cX3_reads 67 = .ok (.ifCond .ne 5, 3) := by decide +kernel
theorem dX3_reads_70 : decode cX3_reads 70 = .ok (.iconst 0, 1) := by decide +kernel
theorem dX3_reads_71 : decode cX3_reads 71 = .ok (.ireturn, 1) := by decide +kernel
theorem dX3_reads_72 : decode cX3_reads 72 = .ok (.aload_n 0, 1) := by decide +kernel
theorem dX3_reads_73 : decode cX3_reads 73 = .ok (.getfield 20, 3) := by decide +kernel
theorem dX3_reads_76 : decode cX3_reads 76 = .ok (.iload 4, 2) := by decide +kernel
theorem dX3_reads_78 : decode cX3_reads 78 = .ok (.ineg, 1) := by decide +kernel
theorem dX3_reads_79 : decode cX3_reads 79 = .ok (.invokevirtual 67, 3) := by decide +kernel
theorem dX3_reads_82 : decode cX3_reads 82 = .ok (.iload_n 1, 1) := by decide +kernel
theorem dX3_reads_83 : decode cX3_reads 83 = .ok (.iconst 2, 1) := by decide +kernel
theorem dX3_reads_84 : decode cX3_reads 84 = .ok (.if_icmp .ne 5, 3) := by decide +kernel
theorem dX3_reads_87 : decode cX3_reads 87 = .ok (.iconst 1, 1) := by decide +kernel
theorem dX3_reads_88 : decode cX3_reads 88 = .ok (.ireturn, 1) := by decide +kernel
theorem dX3_reads_89 : decode cX3_reads 89 = .ok (.iinc 3 1, 3) := by decide +kernel
theorem dX3_reads_92 : decode cX3_reads 92 = .ok (.goto (-66), 3) := by decide +kernel
theorem dX3_reads_95 : decode cX3_reads 95 = .ok (.iconst 1, 1) := by decide +kernel
theorem dX3_reads_96 : decode cX3_reads 96 = .ok (.ireturn, 1) := by decide +kernel
theorem dX3_readsSingle_0 : decode cX3_readsSingle 0 = .ok (.aload_n 0, 1) := by decide +kernel
theorem dX3_readsSingle_1 : decode cX3_readsSingle 1 = .ok (.ldc 70, 2) := by decide +kernel
theorem dX3_readsSingle_3 : decode cX3_readsSingle 3 = .ok (.invokevirtual 59, 3) := by decide +kernel
theorem dX3_readsSingle_6 : decode cX3_readsSingle 6 = .ok (.ifCond .eq 9, 3) := by decide +kernel
theorem dX3_readsSingle_9 : decode cX3_readsSingle 9 = .ok (.aload_n 0, 1) := by decide +kernel
theorem dX3_readsSingle_10 : decode cX3_readsSingle 10 = .ok (.invokevirtual 72, 3) := by decide +kernel
theorem dX3_readsSingle_13 : decode cX3_readsSingle 13 = .ok (.iconst 1, 1) := by decide +kernel
theorem dX3_readsSingle_14 : decode cX3_readsSingle 14 = .ok (.ireturn, 1) := by decide +kernel
theorem dX3_readsSingle_15 : decode cX3_readsSingle 15 = .ok (.aload_n 0, 1) := by decide +kernel
theorem dX3_readsSingle_16 : decode cX3_readsSingle 16 = .ok (.aload_n 0, 1) := by decide +kernel
theorem dX3_readsSingle_17 : decode cX3_readsSingle 17 = .ok (.getfield 29, 3) := by decide +kernel
theorem dX3_readsSingle_20 : decode cX3_readsSingle 20 = .ok (.invokevirtual 59, 3) := by decide +kernel
theorem dX3_readsSingle_23 : decode cX3_readsSingle 23 = .ok (.ifCond .eq 36, 3) := by decide +kernel
theorem dX3_readsSingle_26 : decode cX3_readsSingle 26 = .ok (.aload_n 0, 1) := by decide +kernel
theorem dX3_readsSingle_27 : decode cX3_readsSingle 27 = .ok (.getfield 20, 3) := by decide +kernel
theorem dX3_readsSingle_30 : decode cX3_readsSingle 30 = .ok (.iconst (-1), 1) := by decide +kernel
theorem dX3_readsSingle_31 : decode cX3_readsSingle 31 = .ok (.aload_n 0, 1) := by decide +kernel
theorem dX3_readsSingle_32 : decode cX3_readsSingle 32 = .ok (.getfield 29, 3) := by decide +kernel
theorem dX3_readsSingle_35 : decode cX3_readsSingle 35 = .ok (.aload_n 0, 1) := by decide +kernel
theorem dX3_readsSingle_36 : decode cX3_readsSingle 36 = .ok (.invokevirtual 63, 3) := by decide +kernel
theorem dX3_readsSingle_39 : decode cX3_readsSingle 39 = .ok (.i2c, 1) := by decide +kernel
theorem dX3_readsSingle_40 : decode cX3_readsSingle 40 = .ok (.invokevirtual 75, 3) := by decide +kernel
theorem dX3_readsSingle_43 : decode cX3_readsSingle 43 = .ok (.isub, 1) := by decide +kernel
theorem dX3_readsSingle_44 : decode cX3_readsSingle 44 = .ok (.invokevirtual 67, 3) := by decide +kernel
theorem dX3_readsSingle_47 : decode cX3_readsSingle 47 = .ok (.aload_n 0, 1) := by decide +kernel
theorem dX3_readsSingle_48 : decode cX3_readsSingle 48 = .ok (.dup, 1) := by decide +kernel
theorem dX3_readsSingle_49 : decode cX3_readsSingle 49 = .ok (.getfield 40, 3) := by decide +kernel
theorem dX3_readsSingle_52 : decode cX3_readsSingle 52 = .ok (.iconst 1, 1) := by decide +kernel
theorem dX3_readsSingle_53 : decode cX3_readsSingle 53 = .ok (.iadd, 1) := by decide +kernel
theorem dX3_readsSingle_54 : decode cX3_readsSingle 54 = .ok (.putfield 40, 3) := by decide +kernel
theorem dX3_readsSingle_57 : decode cX3_readsSingle 57 = .ok (.iconst 1, 1) := by decide +kernel
theorem dX3_readsSingle_58 : decode cX3_readsSingle 58 = .ok (.ireturn, 1) := by decide +kernel
theorem dX3_readsSingle_59 : decode cX3_readsSingle 59 = .ok (.iload_n 1, 1) := by decide +kernel
theorem dX3_readsSingle_60 : decode cX3_readsSingle 60 = .ok (.iconst 5, 1) := by decide +kernel
theorem dX3_readsSingle_61 : decode cX3_readsSingle 61 = .ok (.if_icmp .ge 12, 3) := by decide +kernel
theorem dX3_readsSingle_64 : decode cX3_readsSingle 64 = .ok (.aload_n 0, 1) := by decide +kernel
theorem dX3_readsSingle_65 : decode cX3_readsSingle 65 = .ok (.ldc 81, 2) := by decide +kernel
theorem dX3_readsSingle_67 : decode cX3_readsSingle 67 = .ok (.invokevirtual 59, 3) := by decide +kernel
theorem dX3_readsSingle_70 : decode cX3_readsSingle 70 = .ok (.ifCond .ne 5, 3) := by decide +kernel
theorem dX3_readsSingle_73 : decode cX3_readsSingle 73 = .ok (.iconst 0, 1) := by decide +kernel
theorem dX3_readsSingle_74 : decode cX3_readsSingle 74 = .ok (.ireturn, 1) := by decide +kernel
theorem dX3_readsSingle_75 : decode cX3_readsSingle 75 = .ok (.aload_n 0, 1) := by decide +kernel
theorem dX3_readsSingle_76 : decode cX3_readsSingle 76 = .ok (.invokevirtual 63, 3) := by decide +kernel
theorem dX3_readsSingle_79 : decode cX3_readsSingle 79 = .ok (.bipush 33, 2) := by decide +kernel
theorem dX3_readsSingle_81 : decode cX3_readsSingle 81 = .ok (.if_icmp .ne 7, 3) := by decide +kernel
theorem dX3_readsSingle_84 : decode cX3_readsSingle 84 = .ok (.iconst 1, 1) := by decide +kernel
theorem dX3_readsSingle_85 : decode cX3_readsSingle 85 = .ok (.goto 4, 3) := by decide +kernel
theorem dX3_readsSingle_88 : decode cX3_readsSingle 88 = .ok (.iconst 0, 1) := by decide +kernel
theorem dX3_readsSingle_89 : decode cX3_readsSingle 89 = .ok (.istore_n 2, 1) := by decide +kernel
theorem dX3_readsSingle_90 : decode cX3_readsSingle 90 = .ok (.aload_n 0, 1) := by decide +kernel
theorem dX3_readsSingle_91 : decode cX3_readsSingle 91 = .ok (.dup, 1) := by decide +kernel
theorem dX3_readsSingle_92 : decode cX3_readsSingle 92 = .ok (.getfield 40, 3) := by decide +kernel
theorem dX3_readsSingle_95 : decode cX3_readsSingle 95 = .ok (.iconst 1, 1) := by decide +kernel
theorem dX3_readsSingle_96 : decode cX3_readsSingle 96 = .ok (.iadd, 1) := by decide +kernel
theorem dX3_readsSingle_97 : decode cX3_readsSingle 97 = .ok (.putfield 40, 3) := by decide +kernel
theorem dX3_readsSingle_100 : decode cX3_readsSingle 100 = .ok (.iload_n 2, 1) := by decide +kernel
theorem dX3_readsSingle_101 : decode cX3_readsSingle 101 = .ok (.ifCond .eq 22, 3) := by decide +kernel
theorem dX3_readsSingle_104 : decode cX3_readsSingle 104 = .ok (.aload_n 0, 1) := by decide +kernel
theorem dX3_readsSingle_105 : decode cX3_readsSingle 105 = .ok (.iload_n 1, 1) := by decide +kernel
theorem dX3_readsSingle_106 : decode cX3_readsSingle 106 = .ok (.iconst 1, 1) := by decide +kernel
theorem dX3_readsSingle_107 : decode cX3_readsSingle 107 = .ok (.iadd, 1) := by decide +kernel
theorem dX3_readsSingle_108 : decode cX3_readsSingle 108 = .ok (.invokevirtual 51, 3) := by decide +kernel
theorem dX3_readsSingle_111 : decode cX3_readsSingle 111 = .ok (.istore_n 3, 1) := by decide +kernel
theorem dX3_readsSingle_112 : decode cX3_readsSingle 112 = .ok (.aload_n 0, 1) := by decide +kernel
theorem dX3_readsSingle_113 : decode cX3_readsSingle 113 = .ok (.getfield 20, 3) := by decide +kernel
theorem dX3_readsSingle_116 : decode cX3_readsSingle 116 = .ok (.bipush (-33), 2) := by decide +kernel
theorem dX3_readsSingle_118 : decode cX3_readsSingle 118 = .ok (.invokevirtual 67, 3) := by decide +kernel
theorem dX3_readsSingle_121 : decode cX3_readsSingle 121 = .ok (.iload_n 3, 1) := by decide +kernel
theorem dX3_readsSingle_122 : decode cX3_readsSingle 122 = .ok (.ireturn, 1) := by decide +kernel
theorem dX3_readsSingle_123 : decode cX3_readsSingle 123 = .ok (.aload_n 0, 1) := by decide +kernel
theorem dX3_readsSingle_124 : decode cX3_readsSingle 124 = .ok (.iconst 0, 1) := by decide +kernel
theorem dX3_readsSingle_125 : decode cX3_readsSingle 125 = .ok (.iload_n 1, 1) := by decide +kernel
theorem dX3_readsSingle_126 : decode cX3_readsSingle 126 = .ok (.iconst 1, 1) := by decide +kernel
theorem dX3_readsSingle_127 : decode cX3_readsSingle 127 = .ok (.iadd, 1) := by decide +kernel
theorem dX3_readsSingle_128 : decode cX3_readsSingle 128 = .ok (.invokevirtual 43, 3) := by decide +kernel
theorem dX3_readsSingle_131 : decode cX3_readsSingle 131 = .ok (.ifCond .eq 12, 3) := by decide +kernel
theorem dX3_readsSingle_134 : decode cX3_readsSingle 134 = .ok (.aload_n 0, 1) := by decide +kernel
theorem dX3_readsSingle_135 : decode cX3_readsSingle 135 = .ok (.invokevirtual 63, 3) := by decide +kernel
theorem dX3_readsSingle_138 : decode cX3_readsSingle 138 = .ok (.bipush 41, 2) := by decide +kernel
theorem dX3_readsSingle_140 : decode cX3_readsSingle 140 = .ok (.if_icmp .eq 5, 3) := by decide +kernel
theorem dX3_readsSingle_143 : decode cX3_readsSingle 143 = .ok (.iconst 0, 1) := by decide +kernel
theorem dX3_readsSingle_144 : decode cX3_readsSingle 144 = .ok (.ireturn, 1) := by decide +kernel
theorem dX3_readsSingle_145 : decode cX3_readsSingle 145 = .ok (.aload_n 0, 1) := by decide +kernel
theorem dX3_readsSingle_146 : decode cX3_readsSingle 146 = .ok (.dup, 1) := by decide +kernel
theorem dX3_readsSingle_147 : decode cX3_readsSingle 147 = .ok (.getfield 40, 3) := by decide +kernel
theorem dX3_readsSingle_150 : decode cX3_readsSingle 150 = .ok (.iconst 1, 1) := by decide +kernel
theorem dX3_readsSingle_151 : decode cX3_readsSingle 151 = .ok (.iadd, 1) := by decide +kernel
theorem dX3_readsSingle_152 : decode cX3_readsSingle 152 = .ok (.putfield 40, 3) := by decide +kernel
theorem dX3_readsSingle_155 : decode cX3_readsSingle 155 = .ok (.iconst 1, 1) := by decide +kernel
theorem dX3_readsSingle_156 : decode cX3_readsSingle 156 = .ok (.ireturn, 1) := by decide +kernel
theorem dX3_readNumber_0 : decode cX3_readNumber 0 = .ok (.iconst 0, 1) := by decide +kernel
theorem dX3_readNumber_1 : decode cX3_readNumber 1 = .ok (.istore_n 1, 1) := by decide +kernel
theorem dX3_readNumber_2 : decode cX3_readNumber 2 = .ok (.iconst 0, 1) := by decide +kernel
theorem dX3_readNumber_3 : decode cX3_readNumber 3 = .ok (.istore_n 2, 1) := by decide +kernel
theorem dX3_readNumber_4 : decode cX3_readNumber 4 = .ok (.iload_n 2, 1) := by decide +kernel
theorem dX3_readNumber_5 : decode cX3_readNumber 5 = .ok (.iconst 4, 1) := by decide +kernel
theorem dX3_readNumber_6 : decode cX3_readNumber 6 = .ok (.if_icmp .ge 41, 3) := by decide +kernel
theorem dX3_readNumber_9 : decode cX3_readNumber 9 = .ok (.aload_n 0, 1) := by decide +kernel
theorem dX3_readNumber_10 : decode cX3_readNumber 10 = .ok (.ldc 70, 2) := by decide +kernel
theorem dX3_readNumber_12 : decode cX3_readNumber 12 = .ok (.invokevirtual 59, 3) := by decide +kernel
theorem dX3_readNumber_15 : decode cX3_readNumber 15 = .ok (.ifCond .eq 32, 3) := by decide +kernel
theorem dX3_readNumber_18 : decode cX3_readNumber 18 = .ok (.bipush 10, 2) := by decide +kernel
theorem dX3_readNumber_20 : decode cX3_readNumber 20 = .ok (.iload_n 1, 1) := by decide +kernel
theorem dX3_readNumber_21 : decode cX3_readNumber 21 = .ok (.imul, 1) := by decide +kernel
theorem dX3_readNumber_22 : decode cX3_readNumber 22 = .ok (.aload_n 0, 1) := by decide +kernel
theorem dX3_readNumber_23 : decode cX3_readNumber 23 = .ok (.invokevirtual 63, 3) := by decide +kernel
theorem dX3_readNumber_26 : decode cX3_readNumber 26 = .ok (.iadd, 1) := by decide +kernel
theorem dX3_readNumber_27 : decode cX3_readNumber 27 = .ok (.bipush 48, 2) := by decide +kernel
theorem dX3_readNumber_29 : decode cX3_readNumber 29 = .ok (.isub, 1) := by decide +kernel
theorem dX3_readNumber_30 : decode cX3_readNumber 30 = .ok (.istore_n 1, 1) := by decide +kernel
theorem dX3_readNumber_31 : decode cX3_readNumber 31 = .ok (.aload_n 0, 1) := by decide +kernel
theorem dX3_readNumber_32 : decode cX3_readNumber 32 = .ok (.dup, 1) := by decide +kernel
theorem dX3_readNumber_33 : decode cX3_readNumber 33 = .ok (.getfield 40, 3) := by decide +kernel
theorem dX3_readNumber_36 : decode cX3_readNumber 36 = .ok (.iconst 1, 1) := by decide +kernel
theorem dX3_readNumber_37 : decode cX3_readNumber 37 = .ok (.iadd, 1) := by decide +kernel
theorem dX3_readNumber_38 : decode cX3_readNumber 38 = .ok (.putfield 40, 3) := by decide +kernel
theorem dX3_readNumber_41 : decode cX3_readNumber 41 = .ok (.iinc 2 1, 3) := by decide +kernel
theorem dX3_readNumber_44 : decode cX3_readNumber 44 = .ok (.goto (-40), 3) := by decide +kernel
theorem dX3_readNumber_47 : decode cX3_readNumber 47 = .ok (.aload_n 0, 1) := by decide +kernel
theorem dX3_readNumber_48 : decode cX3_readNumber 48 = .ok (.getfield 20, 3) := by decide +kernel
theorem dX3_readNumber_51 : decode cX3_readNumber 51 = .ok (.iload_n 1, 1) := by decide +kernel
theorem dX3_readNumber_52 : decode cX3_readNumber 52 = .ok (.invokevirtual 67, 3) := by decide +kernel
theorem dX3_readNumber_55 : decode cX3_readNumber 55 = .ok (.return_, 1) := by decide +kernel
theorem dX3_signsOf_0 : decode cX3_signsOf 0 = .ok (.iload_n 0, 1) := by decide +kernel
theorem dX3_signsOf_1 : decode cX3_signsOf 1 = .ok (.tableswitch 43 0 3 #[31, 34, 37, 40], 31) := by decide +kernel
theorem dX3_signsOf_32 : decode cX3_signsOf 32 = .ok (.ldc 83, 2) := by decide +kernel
theorem dX3_signsOf_34 : decode cX3_signsOf 34 = .ok (.areturn, 1) := by decide +kernel
theorem dX3_signsOf_35 : decode cX3_signsOf 35 = .ok (.ldc 85, 2) := by decide +kernel
theorem dX3_signsOf_37 : decode cX3_signsOf 37 = .ok (.areturn, 1) := by decide +kernel
theorem dX3_signsOf_38 : decode cX3_signsOf 38 = .ok (.ldc 87, 2) := by decide +kernel
theorem dX3_signsOf_40 : decode cX3_signsOf 40 = .ok (.areturn, 1) := by decide +kernel
theorem dX3_signsOf_41 : decode cX3_signsOf 41 = .ok (.ldc 89, 2) := by decide +kernel
theorem dX3_signsOf_43 : decode cX3_signsOf 43 = .ok (.areturn, 1) := by decide +kernel
theorem dX3_signsOf_44 : decode cX3_signsOf 44 = .ok (.ldc 91, 2) := by decide +kernel
theorem dX3_signsOf_46 : decode cX3_signsOf 46 = .ok (.areturn, 1) := by decide +kernel
theorem dX3_here_0 : decode cX3_here 0 = .ok (.aload_n 0, 1) := by decide +kernel
theorem dX3_here_1 : decode cX3_here 1 = .ok (.getfield 37, 3) := by decide +kernel
theorem dX3_here_4 : decode cX3_here 4 = .ok (.ifnull 32, 3) := by decide +kernel
theorem dX3_here_7 : decode cX3_here 7 = .ok (.aload_n 0, 1) := by decide +kernel
theorem dX3_here_8 : decode cX3_here 8 = .ok (.getfield 37, 3) := by decide +kernel
theorem dX3_here_11 : decode cX3_here 11 = .ok (.aload_n 0, 1) := by decide +kernel
theorem dX3_here_12 : decode cX3_here 12 = .ok (.getfield 40, 3) := by decide +kernel
theorem dX3_here_15 : decode cX3_here 15 = .ok (.invokevirtual 93, 3) := by decide +kernel
theorem dX3_here_18 : decode cX3_here 18 = .ok (.ifCond .eq 18, 3) := by decide +kernel
theorem dX3_here_21 : decode cX3_here 21 = .ok (.aload_n 0, 1) := by decide +kernel
theorem dX3_here_22 : decode cX3_here 22 = .ok (.getfield 37, 3) := by decide +kernel
theorem dX3_here_25 : decode cX3_here 25 = .ok (.getfield 96, 3) := by decide +kernel
theorem dX3_here_28 : decode cX3_here 28 = .ok (.aload_n 0, 1) := by decide +kernel
theorem dX3_here_29 : decode cX3_here 29 = .ok (.getfield 40, 3) := by decide +kernel
theorem dX3_here_32 : decode cX3_here 32 = .ok (.iaload, 1) := by decide +kernel
theorem dX3_here_33 : decode cX3_here 33 = .ok (.goto 4, 3) := by decide +kernel
theorem dX3_here_36 : decode cX3_here 36 = .ok (.iconst (-1), 1) := by decide +kernel
theorem dX3_here_37 : decode cX3_here 37 = .ok (.ireturn, 1) := by decide +kernel
theorem dX3_standsIn_0 : decode cX3_standsIn 0 = .ok (.aload_n 0, 1) := by decide +kernel
theorem dX3_standsIn_1 : decode cX3_standsIn 1 = .ok (.invokevirtual 63, 3) := by decide +kernel
theorem dX3_standsIn_4 : decode cX3_standsIn 4 = .ok (.istore_n 2, 1) := by decide +kernel
theorem dX3_standsIn_5 : decode cX3_standsIn 5 = .ok (.iload_n 2, 1) := by decide +kernel
theorem dX3_standsIn_6 : decode cX3_standsIn 6 = .ok (.ifCond .lt 16, 3) := by decide +kernel
theorem dX3_standsIn_9 : decode cX3_standsIn 9 = .ok (.aload_n 1, 1) := by decide +kernel
theorem dX3_standsIn_10 : decode cX3_standsIn 10 = .ok (.iload_n 2, 1) := by decide +kernel
theorem dX3_standsIn_11 : decode cX3_standsIn 11 = .ok (.i2c, 1) := by decide +kernel
theorem dX3_standsIn_12 : decode cX3_standsIn 12 = .ok (.invokevirtual 75, 3) := by decide +kernel
theorem dX3_standsIn_15 : decode cX3_standsIn 15 = .ok (.ifCond .lt 7, 3) := by decide +kernel
theorem dX3_standsIn_18 : decode cX3_standsIn 18 = .ok (.iconst 1, 1) := by decide +kernel
theorem dX3_standsIn_19 : decode cX3_standsIn 19 = .ok (.goto 4, 3) := by decide +kernel
theorem dX3_standsIn_22 : decode cX3_standsIn 22 = .ok (.iconst 0, 1) := by decide +kernel
theorem dX3_standsIn_23 : decode cX3_standsIn 23 = .ok (.ireturn, 1) := by decide +kernel
theorem dX3_value_0 : decode cX3_value 0 = .ok (.iconst 0, 1) := by decide +kernel
theorem dX3_value_1 : decode cX3_value 1 = .ok (.istore 4, 2) := by decide +kernel
theorem dX3_value_3 : decode cX3_value 3 = .ok (.iconst 0, 1) := by decide +kernel
theorem dX3_value_4 : decode cX3_value 4 = .ok (.istore 5, 2) := by decide +kernel
theorem dX3_value_6 : decode cX3_value 6 = .ok (.iload 5, 2) := by decide +kernel
theorem dX3_value_8 : decode cX3_value 8 = .ok (.aload_n 0, 1) := by decide +kernel
theorem dX3_value_9 : decode cX3_value 9 = .ok (.getfield 14, 3) := by decide +kernel
theorem dX3_value_12 : decode cX3_value 12 = .ok (.getfield 33, 3) := by decide +kernel
theorem dX3_value_15 : decode cX3_value 15 = .ok (.if_icmp .ge 171, 3) := by decide +kernel
theorem dX3_value_18 : decode cX3_value 18 = .ok (.aload_n 0, 1) := by decide +kernel
theorem dX3_value_19 : decode cX3_value 19 = .ok (.getfield 14, 3) := by decide +kernel
theorem dX3_value_22 : decode cX3_value 22 = .ok (.getfield 96, 3) := by decide +kernel
theorem dX3_value_25 : decode cX3_value 25 = .ok (.iload 5, 2) := by decide +kernel
theorem dX3_value_27 : decode cX3_value 27 = .ok (.iaload, 1) := by decide +kernel
theorem dX3_value_28 : decode cX3_value 28 = .ok (.istore 6, 2) := by decide +kernel
theorem dX3_value_30 : decode cX3_value 30 = .ok (.iload 6, 2) := by decide +kernel
theorem dX3_value_32 : decode cX3_value 32 = .ok (.bipush (-3), 2) := by decide +kernel
theorem dX3_value_34 : decode cX3_value 34 = .ok (.if_icmp .lt 60, 3) := by decide +kernel
theorem dX3_value_37 : decode cX3_value 37 = .ok (.iload 4, 2) := by decide +kernel
theorem dX3_value_39 : decode cX3_value 39 = .ok (.aload_n 0, 1) := by decide +kernel
theorem dX3_value_40 : decode cX3_value 40 = .ok (.getfield 23, 3) := by decide +kernel
theorem dX3_value_43 : decode cX3_value 43 = .ok (.arraylength, 1) := by decide +kernel
theorem dX3_value_44 : decode cX3_value 44 = .ok (.if_icmp .lt 5, 3) := by decide +kernel
theorem dX3_value_47 : decode cX3_value 47 = .ok (.iconst 0, 1) := by decide +kernel
theorem dX3_value_48 : decode cX3_value 48 = .ok (.ireturn, 1) := by decide +kernel
theorem dX3_value_49 : decode cX3_value 49 = .ok (.aload_n 0, 1) := by decide +kernel
theorem dX3_value_50 : decode cX3_value 50 = .ok (.getfield 23, 3) := by decide +kernel
theorem dX3_value_53 : decode cX3_value 53 = .ok (.iload 4, 2) := by decide +kernel
theorem dX3_value_55 : decode cX3_value 55 = .ok (.iload 6, 2) := by decide +kernel
theorem dX3_value_57 : decode cX3_value 57 = .ok (.ifCond .lt 8, 3) := by decide +kernel
theorem dX3_value_60 : decode cX3_value 60 = .ok (.iload 6, 2) := by decide +kernel
theorem dX3_value_62 : decode cX3_value 62 = .ok (.goto 25, 3) := by decide +kernel
theorem dX3_value_65 : decode cX3_value 65 = .ok (.iload 6, 2) := by decide +kernel
theorem dX3_value_67 : decode cX3_value 67 = .ok (.iconst (-1), 1) := by decide +kernel
theorem dX3_value_68 : decode cX3_value 68 = .ok (.if_icmp .ne 7, 3) := by decide +kernel
theorem dX3_value_71 : decode cX3_value 71 = .ok (.iload_n 1, 1) := by decide +kernel
theorem dX3_value_72 : decode cX3_value 72 = .ok (.goto 15, 3) := by decide +kernel
theorem dX3_value_75 : decode cX3_value 75 = .ok (.iload 6, 2) := by decide +kernel
theorem dX3_value_77 : decode cX3_value 77 = .ok (.bipush (-2), 2) := by decide +kernel
theorem dX3_value_79 : decode cX3_value 79 = .ok (.if_icmp .ne 7, 3) := by decide +kernel
theorem dX3_value_82 : decode cX3_value 82 = .ok (.iload_n 2, 1) := by decide +kernel
theorem dX3_value_83 : decode cX3_value 83 = .ok (.goto 4, 3) := by decide +kernel
theorem dX3_value_86 : decode cX3_value 86 = .ok (.iload_n 3, 1) := by decide +kernel
theorem dX3_value_87 : decode cX3_value 87 = .ok (.iastore, 1) := by decide +kernel
theorem dX3_value_88 : decode cX3_value 88 = .ok (.iinc 4 1, 3) := by decide +kernel
theorem dX3_value_91 : decode cX3_value 91 = .ok (.goto 89, 3) := by decide +kernel
theorem dX3_value_94 : decode cX3_value 94 = .ok (.iload 6, 2) := by decide +kernel
theorem dX3_value_96 : decode cX3_value 96 = .ok (.bipush (-33), 2) := by decide +kernel
theorem dX3_value_98 : decode cX3_value 98 = .ok (.if_icmp .ne 40, 3) := by decide +kernel
theorem dX3_value_101 : decode cX3_value 101 = .ok (.iload 4, 2) := by decide +kernel
theorem dX3_value_103 : decode cX3_value 103 = .ok (.iconst 1, 1) := by decide +kernel
theorem dX3_value_104 : decode cX3_value 104 = .ok (.if_icmp .ge 5, 3) := by decide +kernel
theorem dX3_value_107 : decode cX3_value 107 = .ok (.iconst 0, 1) := by decide +kernel
theorem dX3_value_108 : decode cX3_value 108 = .ok (.ireturn, 1) := by decide +kernel
theorem dX3_value_109 : decode cX3_value 109 = .ok (.aload_n 0, 1) := by decide +kernel
theorem dX3_value_110 : decode cX3_value 110 = .ok (.getfield 23, 3) := by decide +kernel
theorem dX3_value_113 : decode cX3_value 113 = .ok (.iload 4, 2) := by decide +kernel
theorem dX3_value_115 : decode cX3_value 115 = .ok (.iconst 1, 1) := by decide +kernel
theorem dX3_value_116 : decode cX3_value 116 = .ok (.isub, 1) := by decide +kernel
theorem dX3_value_117 : decode cX3_value 117 = .ok (.aload_n 0, 1) := by decide +kernel
theorem dX3_value_118 : decode cX3_value 118 = .ok (.getfield 23, 3) := by decide +kernel
theorem dX3_value_121 : decode cX3_value 121 = .ok (.iload 4, 2) := by decide +kernel
theorem dX3_value_123 : decode cX3_value 123 = .ok (.iconst 1, 1) := by decide +kernel
theorem dX3_value_124 : decode cX3_value 124 = .ok (.isub, 1) := by decide +kernel
theorem dX3_value_125 : decode cX3_value 125 = .ok (.iaload, 1) := by decide +kernel
theorem dX3_value_126 : decode cX3_value 126 = .ok (.ifCond .ne 7, 3) := by decide +kernel
theorem dX3_value_129 : decode cX3_value 129 = .ok (.iconst 1, 1) := by decide +kernel
theorem dX3_value_130 : decode cX3_value 130 = .ok (.goto 4, 3) := by decide +kernel
theorem dX3_value_133 : decode cX3_value 133 = .ok (.iconst 0, 1) := by decide +kernel
theorem dX3_value_134 : decode cX3_value 134 = .ok (.iastore, 1) := by decide +kernel
theorem dX3_value_135 : decode cX3_value 135 = .ok (.goto 45, 3) := by decide +kernel
theorem dX3_value_138 : decode cX3_value 138 = .ok (.iload 4, 2) := by decide +kernel
theorem dX3_value_140 : decode cX3_value 140 = .ok (.iconst 2, 1) := by decide +kernel
theorem dX3_value_141 : decode cX3_value 141 = .ok (.if_icmp .ge 5, 3) := by decide +kernel
theorem dX3_value_144 : decode cX3_value 144 = .ok (.iconst 0, 1) := by decide +kernel
theorem dX3_value_145 : decode cX3_value 145 = .ok (.ireturn, 1) := by decide +kernel
theorem dX3_value_146 : decode cX3_value 146 = .ok (.iinc 4 (-1), 3) := by decide +kernel
theorem dX3_value_149 : decode cX3_value 149 = .ok (.aload_n 0, 1) := by decide +kernel
theorem dX3_value_150 : decode cX3_value 150 = .ok (.getfield 23, 3) := by decide +kernel
theorem dX3_value_153 : decode cX3_value 153 = .ok (.iload 4, 2) := by decide +kernel
theorem dX3_value_155 : decode cX3_value 155 = .ok (.iconst 1, 1) := by decide +kernel
theorem dX3_value_156 : decode cX3_value 156 = .ok (.isub, 1) := by decide +kernel
theorem dX3_value_157 : decode cX3_value 157 = .ok (.iload 6, 2) := by decide +kernel
theorem dX3_value_159 : decode cX3_value 159 = .ok (.ineg, 1) := by decide +kernel
theorem dX3_value_160 : decode cX3_value 160 = .ok (.aload_n 0, 1) := by decide +kernel
theorem dX3_value_161 : decode cX3_value 161 = .ok (.getfield 23, 3) := by decide +kernel
theorem dX3_value_164 : decode cX3_value 164 = .ok (.iload 4, 2) := by decide +kernel
theorem dX3_value_166 : decode cX3_value 166 = .ok (.iconst 1, 1) := by decide +kernel
theorem dX3_value_167 : decode cX3_value 167 = .ok (.isub, 1) := by decide +kernel
theorem dX3_value_168 : decode cX3_value 168 = .ok (.iaload, 1) := by decide +kernel
theorem dX3_value_169 : decode cX3_value 169 = .ok (.aload_n 0, 1) := by decide +kernel
theorem dX3_value_170 : decode cX3_value 170 = .ok (.getfield 23, 3) := by decide +kernel
theorem dX3_value_173 : decode cX3_value 173 = .ok (.iload 4, 2) := by decide +kernel
theorem dX3_value_175 : decode cX3_value 175 = .ok (.iaload, 1) := by decide +kernel
theorem dX3_value_176 : decode cX3_value 176 = .ok (.invokestatic 99, 3) := by decide +kernel
theorem dX3_value_179 : decode cX3_value 179 = .ok (.iastore, 1) := by decide +kernel
theorem dX3_value_180 : decode cX3_value 180 = .ok (.iinc 5 1, 3) := by decide +kernel
theorem dX3_value_183 : decode cX3_value 183 = .ok (.goto (-177), 3) := by decide +kernel
theorem dX3_value_186 : decode cX3_value 186 = .ok (.iload 4, 2) := by decide +kernel
theorem dX3_value_188 : decode cX3_value 188 = .ok (.ifCond .le 12, 3) := by decide +kernel
theorem dX3_value_191 : decode cX3_value 191 = .ok (.aload_n 0, 1) := by decide +kernel
theorem dX3_value_192 : decode cX3_value 192 = .ok (.getfield 23, 3) := by decide +kernel
theorem dX3_value_195 : decode cX3_value 195 = .ok (.iconst 0, 1) := by decide +kernel
theorem dX3_value_196 : decode cX3_value 196 = .ok (.iaload, 1) := by decide +kernel
theorem dX3_value_197 : decode cX3_value 197 = .ok (.goto 4, 3) := by decide +kernel
theorem dX3_value_200 : decode cX3_value 200 = .ok (.iconst 0, 1) := by decide +kernel
theorem dX3_value_201 : decode cX3_value 201 = .ok (.ireturn, 1) := by decide +kernel
theorem dX3_joined_0 : decode cX3_joined 0 = .ok (.iload_n 0, 1) := by decide +kernel
theorem dX3_joined_1 : decode cX3_joined 1 = .ok (.lookupswitch 168 #[(38, 97), (42, 152), (43, 144), (45, 148), (47, 156), (60, 111), (61, 122), (62, 133), (124, 83)], 83) := by decide +kernel
theorem dX3_joined_84 : decode cX3_joined 84 = .ok (.iload_n 1, 1) := by decide +kernel
theorem dX3_joined_85 : decode cX3_joined 85 = .ok (.ifCond .ne 7, 3) := by decide +kernel
theorem dX3_joined_88 : decode cX3_joined 88 = .ok (.iload_n 2, 1) := by decide +kernel
theorem dX3_joined_89 : decode cX3_joined 89 = .ok (.ifCond .eq 7, 3) := by decide +kernel
theorem dX3_joined_92 : decode cX3_joined 92 = .ok (.iconst 1, 1) := by decide +kernel
theorem dX3_joined_93 : decode cX3_joined 93 = .ok (.goto 4, 3) := by decide +kernel
theorem dX3_joined_96 : decode cX3_joined 96 = .ok (.iconst 0, 1) := by decide +kernel
theorem dX3_joined_97 : decode cX3_joined 97 = .ok (.ireturn, 1) := by decide +kernel
theorem dX3_joined_98 : decode cX3_joined 98 = .ok (.iload_n 1, 1) := by decide +kernel
theorem dX3_joined_99 : decode cX3_joined 99 = .ok (.ifCond .eq 11, 3) := by decide +kernel
theorem dX3_joined_102 : decode cX3_joined 102 = .ok (.iload_n 2, 1) := by decide +kernel
theorem dX3_joined_103 : decode cX3_joined 103 = .ok (.ifCond .eq 7, 3) := by decide +kernel
theorem dX3_joined_106 : decode cX3_joined 106 = .ok (.iconst 1, 1) := by decide +kernel
theorem dX3_joined_107 : decode cX3_joined 107 = .ok (.goto 4, 3) := by decide +kernel
theorem dX3_joined_110 : decode cX3_joined 110 = .ok (.iconst 0, 1) := by decide +kernel
theorem dX3_joined_111 : decode cX3_joined 111 = .ok (.ireturn, 1) := by decide +kernel
theorem dX3_joined_112 : decode cX3_joined 112 = .ok (.iload_n 1, 1) := by decide +kernel
theorem dX3_joined_113 : decode cX3_joined 113 = .ok (.iload_n 2, 1) := by decide +kernel
theorem dX3_joined_114 : decode cX3_joined 114 = .ok (.if_icmp .ge 7, 3) := by decide +kernel
theorem dX3_joined_117 : decode cX3_joined 117 = .ok (.iconst 1, 1) := by decide +kernel
theorem dX3_joined_118 : decode cX3_joined 118 = .ok (.goto 4, 3) := by decide +kernel
theorem dX3_joined_121 : decode cX3_joined 121 = .ok (.iconst 0, 1) := by decide +kernel
theorem dX3_joined_122 : decode cX3_joined 122 = .ok (.ireturn, 1) := by decide +kernel
theorem dX3_joined_123 : decode cX3_joined 123 = .ok (.iload_n 1, 1) := by decide +kernel
theorem dX3_joined_124 : decode cX3_joined 124 = .ok (.iload_n 2, 1) := by decide +kernel
theorem dX3_joined_125 : decode cX3_joined 125 = .ok (.if_icmp .ne 7, 3) := by decide +kernel
theorem dX3_joined_128 : decode cX3_joined 128 = .ok (.iconst 1, 1) := by decide +kernel
theorem dX3_joined_129 : decode cX3_joined 129 = .ok (.goto 4, 3) := by decide +kernel
theorem dX3_joined_132 : decode cX3_joined 132 = .ok (.iconst 0, 1) := by decide +kernel
theorem dX3_joined_133 : decode cX3_joined 133 = .ok (.ireturn, 1) := by decide +kernel
theorem dX3_joined_134 : decode cX3_joined 134 = .ok (.iload_n 1, 1) := by decide +kernel
theorem dX3_joined_135 : decode cX3_joined 135 = .ok (.iload_n 2, 1) := by decide +kernel
theorem dX3_joined_136 : decode cX3_joined 136 = .ok (.if_icmp .le 7, 3) := by decide +kernel
theorem dX3_joined_139 : decode cX3_joined 139 = .ok (.iconst 1, 1) := by decide +kernel
theorem dX3_joined_140 : decode cX3_joined 140 = .ok (.goto 4, 3) := by decide +kernel
theorem dX3_joined_143 : decode cX3_joined 143 = .ok (.iconst 0, 1) := by decide +kernel
theorem dX3_joined_144 : decode cX3_joined 144 = .ok (.ireturn, 1) := by decide +kernel
theorem dX3_joined_145 : decode cX3_joined 145 = .ok (.iload_n 1, 1) := by decide +kernel
theorem dX3_joined_146 : decode cX3_joined 146 = .ok (.iload_n 2, 1) := by decide +kernel
theorem dX3_joined_147 : decode cX3_joined 147 = .ok (.iadd, 1) := by decide +kernel
theorem dX3_joined_148 : decode cX3_joined 148 = .ok (.ireturn, 1) := by decide +kernel
theorem dX3_joined_149 : decode cX3_joined 149 = .ok (.iload_n 1, 1) := by decide +kernel
theorem dX3_joined_150 : decode cX3_joined 150 = .ok (.iload_n 2, 1) := by decide +kernel
theorem dX3_joined_151 : decode cX3_joined 151 = .ok (.isub, 1) := by decide +kernel
theorem dX3_joined_152 : decode cX3_joined 152 = .ok (.ireturn, 1) := by decide +kernel
theorem dX3_joined_153 : decode cX3_joined 153 = .ok (.iload_n 1, 1) := by decide +kernel
theorem dX3_joined_154 : decode cX3_joined 154 = .ok (.iload_n 2, 1) := by decide +kernel
theorem dX3_joined_155 : decode cX3_joined 155 = .ok (.imul, 1) := by decide +kernel
theorem dX3_joined_156 : decode cX3_joined 156 = .ok (.ireturn, 1) := by decide +kernel
theorem dX3_joined_157 : decode cX3_joined 157 = .ok (.iload_n 2, 1) := by decide +kernel
theorem dX3_joined_158 : decode cX3_joined 158 = .ok (.ifCond .ne 7, 3) := by decide +kernel
theorem dX3_joined_161 : decode cX3_joined 161 = .ok (.iconst 0, 1) := by decide +kernel
theorem dX3_joined_162 : decode cX3_joined 162 = .ok (.goto 6, 3) := by decide +kernel
theorem dX3_joined_165 : decode cX3_joined 165 = .ok (.iload_n 1, 1) := by decide +kernel
theorem dX3_joined_166 : decode cX3_joined 166 = .ok (.iload_n 2, 1) := by decide +kernel
theorem dX3_joined_167 : decode cX3_joined 167 = .ok (.idiv, 1) := by decide +kernel
theorem dX3_joined_168 : decode cX3_joined 168 = .ok (.ireturn, 1) := by decide +kernel
theorem dX3_joined_169 : decode cX3_joined 169 = .ok (.iload_n 2, 1) := by decide +kernel
theorem dX3_joined_170 : decode cX3_joined 170 = .ok (.ifCond .ne 7, 3) := by decide +kernel
theorem dX3_joined_173 : decode cX3_joined 173 = .ok (.iconst 0, 1) := by decide +kernel
theorem dX3_joined_174 : decode cX3_joined 174 = .ok (.goto 6, 3) := by decide +kernel
theorem dX3_joined_177 : decode cX3_joined 177 = .ok (.iload_n 1, 1) := by decide +kernel
theorem dX3_joined_178 : decode cX3_joined 178 = .ok (.iload_n 2, 1) := by decide +kernel
theorem dX3_joined_179 : decode cX3_joined 179 = .ok (.irem, 1) := by decide +kernel
theorem dX3_joined_180 : decode cX3_joined 180 = .ok (.ireturn, 1) := by decide +kernel
theorem dX3_copy_0 : decode cX3_copy 0 = .ok (.aload_n 0, 1) := by decide +kernel
theorem dX3_copy_1 : decode cX3_copy 1 = .ok (.getfield 14, 3) := by decide +kernel
theorem dX3_copy_4 : decode cX3_copy 4 = .ok (.aload_n 1, 1) := by decide +kernel
theorem dX3_copy_5 : decode cX3_copy 5 = .ok (.getfield 14, 3) := by decide +kernel
theorem dX3_copy_8 : decode cX3_copy 8 = .ok (.invokevirtual 47, 3) := by decide +kernel
theorem dX3_copy_11 : decode cX3_copy 11 = .ok (.return_, 1) := by decide +kernel
theorem dX4_init_0 : decode cX4_init 0 = .ok (.aload_n 0, 1) := by decide +kernel
theorem dX4_init_1 : decode cX4_init 1 = .ok (.invokespecial 3, 3) := by decide +kernel
theorem dX4_init_4 : decode cX4_init 4 = .ok (.return_, 1) := by decide +kernel
theorem dX4_sinks_0 : decode cX4_sinks 0 = .ok (.aload_n 0, 1) := by decide +kernel
theorem dX4_sinks_1 : decode cX4_sinks 1 = .ok (.getfield 9, 3) := by decide +kernel
theorem dX4_sinks_4 : decode cX4_sinks 4 = .ok (.tableswitch 97 1 5 #[36, 46, 53, 66, 86], 36) := by decide +kernel
theorem dX4_sinks_40 : decode cX4_sinks 40 = .ok (.aload_n 0, 1) := by decide +kernel
theorem dX4_sinks_41 : decode cX4_sinks 41 = .ok (.getfield 15, 3) := by decide +kernel
theorem dX4_sinks_44 : decode cX4_sinks 44 = .ok (.aload_n 0, 1) := by decide +kernel
theorem dX4_sinks_45 : decode cX4_sinks 45 = .ok (.getfield 18, 3) := by decide +kernel
theorem dX4_sinks_48 : decode cX4_sinks 48 = .ok (.iadd, 1) := by decide +kernel
theorem dX4_sinks_49 : decode cX4_sinks 49 = .ok (.ireturn, 1) := by decide +kernel
theorem dX4_sinks_50 : decode cX4_sinks 50 = .ok (.aload_n 0, 1) := by decide +kernel
theorem dX4_sinks_51 : decode cX4_sinks 51 = .ok (.getfield 15, 3) := by decide +kernel
theorem dX4_sinks_54 : decode cX4_sinks 54 = .ok (.iconst 2, 1) := by decide +kernel
theorem dX4_sinks_55 : decode cX4_sinks 55 = .ok (.idiv, 1) := by decide +kernel
theorem dX4_sinks_56 : decode cX4_sinks 56 = .ok (.ireturn, 1) := by decide +kernel
theorem dX4_sinks_57 : decode cX4_sinks 57 = .ok (.aload_n 0, 1) := by decide +kernel
theorem dX4_sinks_58 : decode cX4_sinks 58 = .ok (.getfield 15, 3) := by decide +kernel
theorem dX4_sinks_61 : decode cX4_sinks 61 = .ok (.bipush 9, 2) := by decide +kernel
theorem dX4_sinks_63 : decode cX4_sinks 63 = .ok (.iadd, 1) := by decide +kernel
theorem dX4_sinks_64 : decode cX4_sinks 64 = .ok (.aload_n 0, 1) := by decide +kernel
theorem dX4_sinks_65 : decode cX4_sinks 65 = .ok (.getfield 21, 3) := by decide +kernel
theorem dX4_sinks_68 : decode cX4_sinks 68 = .ok (.isub, 1) := by decide +kernel
theorem dX4_sinks_69 : decode cX4_sinks 69 = .ok (.ireturn, 1) := by decide +kernel
theorem dX4_sinks_70 : decode cX4_sinks 70 = .ok (.iload_n 1, 1) := by decide +kernel
theorem dX4_sinks_71 : decode cX4_sinks 71 = .ok (.iconst 2, 1) := by decide +kernel
theorem dX4_sinks_72 : decode cX4_sinks 72 = .ok (.irem, 1) := by decide +kernel
theorem dX4_sinks_73 : decode cX4_sinks 73 = .ok (.ifCond .ne 15, 3) := by decide +kernel
theorem dX4_sinks_76 : decode cX4_sinks 76 = .ok (.aload_n 0, 1) := by decide +kernel
theorem dX4_sinks_77 : decode cX4_sinks 77 = .ok (.getfield 15, 3) := by decide +kernel
theorem dX4_sinks_80 : decode cX4_sinks 80 = .ok (.aload_n 0, 1) := by decide +kernel
theorem dX4_sinks_81 : decode cX4_sinks 81 = .ok (.getfield 18, 3) := by decide +kernel
theorem dX4_sinks_84 : decode cX4_sinks 84 = .ok (.iadd, 1) := by decide +kernel
theorem dX4_sinks_85 : decode cX4_sinks 85 = .ok (.goto 4, 3) := by decide +kernel
theorem dX4_sinks_88 : decode cX4_sinks 88 = .ok (.iconst 0, 1) := by decide +kernel
theorem dX4_sinks_89 : decode cX4_sinks 89 = .ok (.ireturn, 1) := by decide +kernel
theorem dX4_sinks_90 : decode cX4_sinks 90 = .ok (.aload_n 0, 1) := by decide +kernel
theorem dX4_sinks_91 : decode cX4_sinks 91 = .ok (.getfield 15, 3) := by decide +kernel
theorem dX4_sinks_94 : decode cX4_sinks 94 = .ok (.iconst 2, 1) := by decide +kernel
theorem dX4_sinks_95 : decode cX4_sinks 95 = .ok (.idiv, 1) := by decide +kernel
theorem dX4_sinks_96 : decode cX4_sinks 96 = .ok (.iload_n 1, 1) := by decide +kernel
theorem dX4_sinks_97 : decode cX4_sinks 97 = .ok (.iconst 3, 1) := by decide +kernel
theorem dX4_sinks_98 : decode cX4_sinks 98 = .ok (.irem, 1) := by decide +kernel
theorem dX4_sinks_99 : decode cX4_sinks 99 = .ok (.iadd, 1) := by decide +kernel
theorem dX4_sinks_100 : decode cX4_sinks 100 = .ok (.ireturn, 1) := by decide +kernel
theorem dX4_sinks_101 : decode cX4_sinks 101 = .ok (.aload_n 0, 1) := by decide +kernel
theorem dX4_sinks_102 : decode cX4_sinks 102 = .ok (.getfield 15, 3) := by decide +kernel
theorem dX4_sinks_105 : decode cX4_sinks 105 = .ok (.ireturn, 1) := by decide +kernel
theorem dX4_feels_0 : decode cX4_feels 0 = .ok (.aload_n 0, 1) := by decide +kernel
theorem dX4_feels_1 : decode cX4_feels 1 = .ok (.getfield 9, 3) := by decide +kernel
theorem dX4_feels_4 : decode cX4_feels 4 = .ok (.tableswitch 87 1 6 #[40, 47, 87, 57, 70, 82], 40) := by decide +kernel
theorem dX4_feels_44 : decode cX4_feels 44 = .ok (.aload_n 0, 1) := by decide +kernel
theorem dX4_feels_45 : decode cX4_feels 45 = .ok (.getfield 21, 3) := by decide +kernel
theorem dX4_feels_48 : decode cX4_feels 48 = .ok (.iconst 2, 1) := by decide +kernel
theorem dX4_feels_49 : decode cX4_feels 49 = .ok (.idiv, 1) := by decide +kernel
theorem dX4_feels_50 : decode cX4_feels 50 = .ok (.ireturn, 1) := by decide +kernel
theorem dX4_feels_51 : decode cX4_feels 51 = .ok (.aload_n 0, 1) := by decide +kernel
theorem dX4_feels_52 : decode cX4_feels 52 = .ok (.getfield 21, 3) := by decide +kernel
theorem dX4_feels_55 : decode cX4_feels 55 = .ok (.aload_n 0, 1) := by decide +kernel
theorem dX4_feels_56 : decode cX4_feels 56 = .ok (.getfield 18, 3) := by decide +kernel
theorem dX4_feels_59 : decode cX4_feels 59 = .ok (.iadd, 1) := by decide +kernel
theorem dX4_feels_60 : decode cX4_feels 60 = .ok (.ireturn, 1) := by decide +kernel
theorem dX4_feels_61 : decode cX4_feels 61 = .ok (.iconst 0, 1) := by decide +kernel
theorem dX4_feels_62 : decode cX4_feels 62 = .ok (.aload_n 0, 1) := by decide +kernel
theorem dX4_feels_63 : decode cX4_feels 63 = .ok (.getfield 21, 3) := by decide +kernel
theorem dX4_feels_66 : decode cX4_feels 66 = .ok (.iconst 2, 1) := by decide +kernel
theorem dX4_feels_67 : decode cX4_feels 67 = .ok (.idiv, 1) := by decide +kernel
theorem dX4_feels_68 : decode cX4_feels 68 = .ok (.iconst 1, 1) := by decide +kernel
theorem dX4_feels_69 : decode cX4_feels 69 = .ok (.isub, 1) := by decide +kernel
theorem dX4_feels_70 : decode cX4_feels 70 = .ok (.invokestatic 24, 3) := by decide +kernel
theorem dX4_feels_73 : decode cX4_feels 73 = .ok (.ireturn, 1) := by decide +kernel
theorem dX4_feels_74 : decode cX4_feels 74 = .ok (.iconst 2, 1) := by decide +kernel
theorem dX4_feels_75 : decode cX4_feels 75 = .ok (.aload_n 0, 1) := by decide +kernel
theorem dX4_feels_76 : decode cX4_feels 76 = .ok (.getfield 21, 3) := by decide +kernel
theorem dX4_feels_79 : decode cX4_feels 79 = .ok (.aload_n 0, 1) := by decide +kernel
theorem dX4_feels_80 : decode cX4_feels 80 = .ok (.getfield 18, 3) := by decide +kernel
theorem dX4_feels_83 : decode cX4_feels 83 = .ok (.iadd, 1) := by decide +kernel
theorem dX4_feels_84 : decode cX4_feels 84 = .ok (.imul, 1) := by decide +kernel
theorem dX4_feels_85 : decode cX4_feels 85 = .ok (.ireturn, 1) := by decide +kernel
theorem dX4_feels_86 : decode cX4_feels 86 = .ok (.aload_n 0, 1) := by decide +kernel
theorem dX4_feels_87 : decode cX4_feels 87 = .ok (.getfield 18, 3) := by decide +kernel
theorem dX4_feels_90 : decode cX4_feels 90 = .ok (.ireturn, 1) := by decide +kernel
theorem dX4_feels_91 : decode cX4_feels 91 = .ok (.aload_n 0, 1) := by decide +kernel
theorem dX4_feels_92 : decode cX4_feels 92 = .ok (.getfield 21, 3) := by decide +kernel
theorem dX4_feels_95 : decode cX4_feels 95 = .ok (.ireturn, 1) := by decide +kernel
theorem dX4_isOf_0 : decode cX4_isOf 0 = .ok (.aload_n 0, 1) := by decide +kernel
theorem dX4_isOf_1 : decode cX4_isOf 1 = .ok (.getfield 9, 3) := by decide +kernel
theorem dX4_isOf_4 : decode cX4_isOf 4 = .ok (.istore_n 2, 1) := by decide +kernel
theorem dX4_isOf_5 : decode cX4_isOf 5 = .ok (.iconst 0, 1) := by decide +kernel
theorem dX4_isOf_6 : decode cX4_isOf 6 = .ok (.istore_n 3, 1) := by decide +kernel
theorem dX4_isOf_7 : decode cX4_isOf 7 = .ok (.iload_n 3, 1) := by decide +kernel
theorem dX4_isOf_8 : decode cX4_isOf 8 = .ok (.bipush 7, 2) := by decide +kernel
theorem dX4_isOf_10 : decode cX4_isOf 10 = .ok (.if_icmp .ge 26, 3) := by decide +kernel
theorem dX4_isOf_13 : decode cX4_isOf 13 = .ok (.iload_n 2, 1) := by decide +kernel
theorem dX4_isOf_14 : decode cX4_isOf 14 = .ok (.ifCond .lt 22, 3) := by decide +kernel
theorem dX4_isOf_17 : decode cX4_isOf 17 = .ok (.iload_n 2, 1) := by decide +kernel
theorem dX4_isOf_18 : decode cX4_isOf 18 = .ok (.iload_n 1, 1) := by decide +kernel
theorem dX4_isOf_19 : decode cX4_isOf 19 = .ok (.if_icmp .ne 5, 3) := by decide +kernel
theorem dX4_isOf_22 : decode cX4_isOf 22 = .ok (.iconst 1, 1) := by decide +kernel
theorem dX4_isOf_23 : decode cX4_isOf 23 = .ok (.ireturn, 1) := by decide +kernel
theorem dX4_isOf_24 : decode cX4_isOf 24 = .ok (.getstatic 30, 3) := by decide +kernel
theorem dX4_isOf_27 : decode cX4_isOf 27 = .ok (.iload_n 2, 1) := by decide +kernel
theorem dX4_isOf_28 : decode cX4_isOf 28 = .ok (.iaload, 1) := by decide +kernel
theorem dX4_isOf_29 : decode cX4_isOf 29 = .ok (.istore_n 2, 1) := by decide +kernel
theorem dX4_isOf_30 : decode cX4_isOf 30 = .ok (.iinc 3 1, 3) := by decide +kernel
theorem dX4_isOf_33 : decode cX4_isOf 33 = .ok (.goto (-26), 3) := by decide +kernel
theorem dX4_isOf_36 : decode cX4_isOf 36 = .ok (.iconst 0, 1) := by decide +kernel
theorem dX4_isOf_37 : decode cX4_isOf 37 = .ok (.ireturn, 1) := by decide +kernel
theorem dX4_copy_0 : decode cX4_copy 0 = .ok (.aload_n 0, 1) := by decide +kernel
theorem dX4_copy_1 : decode cX4_copy 1 = .ok (.aload_n 1, 1) := by decide +kernel
theorem dX4_copy_2 : decode cX4_copy 2 = .ok (.getfield 9, 3) := by decide +kernel
theorem dX4_copy_5 : decode cX4_copy 5 = .ok (.putfield 9, 3) := by decide +kernel
theorem dX4_copy_8 : decode cX4_copy 8 = .ok (.aload_n 0, 1) := by decide +kernel
theorem dX4_copy_9 : decode cX4_copy 9 = .ok (.aload_n 1, 1) := by decide +kernel
theorem dX4_copy_10 : decode cX4_copy 10 = .ok (.getfield 18, 3) := by decide +kernel
theorem dX4_copy_13 : decode cX4_copy 13 = .ok (.putfield 18, 3) := by decide +kernel
theorem dX4_copy_16 : decode cX4_copy 16 = .ok (.aload_n 0, 1) := by decide +kernel
theorem dX4_copy_17 : decode cX4_copy 17 = .ok (.aload_n 1, 1) := by decide +kernel
theorem dX4_copy_18 : decode cX4_copy 18 = .ok (.getfield 15, 3) := by decide +kernel
theorem dX4_copy_21 : decode cX4_copy 21 = .ok (.putfield 15, 3) := by decide +kernel
theorem dX4_copy_24 : decode cX4_copy 24 = .ok (.aload_n 0, 1) := by decide +kernel
theorem dX4_copy_25 : decode cX4_copy 25 = .ok (.aload_n 1, 1) := by decide +kernel
theorem dX4_copy_26 : decode cX4_copy 26 = .ok (.getfield 21, 3) := by decide +kernel
theorem dX4_copy_29 : decode cX4_copy 29 = .ok (.putfield 21, 3) := by decide +kernel
theorem dX4_copy_32 : decode cX4_copy 32 = .ok (.return_, 1) := by decide +kernel
theorem dX5_init_0 : decode cX5_init 0 = .ok (.aload_n 0, 1) := by decide +kernel
theorem dX5_init_1 : decode cX5_init 1 = .ok (.invokespecial 3, 3) := by decide +kernel
theorem dX5_init_4 : decode cX5_init 4 = .ok (.aload_n 0, 1) := by decide +kernel
theorem dX5_init_5 : decode cX5_init 5 = .ok (.new 9, 3) := by decide +kernel
theorem dX5_init_8 : decode cX5_init 8 = .ok (.dup, 1) := by decide +kernel
theorem dX5_init_9 : decode cX5_init 9 = .ok (.bipush 9, 2) := by decide +kernel
theorem dX5_init_11 : decode cX5_init 11 = .ok (.invokespecial 11, 3) := by decide +kernel
theorem dX5_init_14 : decode cX5_init 14 = .ok (.putfield 14, 3) := by decide +kernel
theorem dX5_init_17 : decode cX5_init 17 = .ok (.aload_n 0, 1) := by decide +kernel
theorem dX5_init_18 : decode cX5_init 18 = .ok (.new 9, 3) := by decide +kernel
theorem dX5_init_21 : decode cX5_init 21 = .ok (.dup, 1) := by decide +kernel
theorem dX5_init_22 : decode cX5_init 22 = .ok (.bipush 9, 2) := by decide +kernel
theorem dX5_init_24 : decode cX5_init 24 = .ok (.invokespecial 11, 3) := by decide +kernel
theorem dX5_init_27 : decode cX5_init 27 = .ok (.putfield 20, 3) := by decide +kernel
theorem dX5_init_30 : decode cX5_init 30 = .ok (.aload_n 0, 1) := by decide +kernel
theorem dX5_init_31 : decode cX5_init 31 = .ok (.new 9, 3) := by decide +kernel
theorem dX5_init_34 : decode cX5_init 34 = .ok (.dup, 1) := by decide +kernel
theorem dX5_init_35 : decode cX5_init 35 = .ok (.bipush 9, 2) := by decide +kernel
theorem dX5_init_37 : decode cX5_init 37 = .ok (.invokespecial 11, 3) := by decide +kernel
theorem dX5_init_40 : decode cX5_init 40 = .ok (.putfield 23, 3) := by decide +kernel
theorem dX5_init_43 : decode cX5_init 43 = .ok (.aload_n 0, 1) := by decide +kernel
theorem dX5_init_44 : decode cX5_init 44 = .ok (.bipush 81, 2) := by decide +kernel
theorem dX5_init_46 : decode cX5_init 46 = .ok (.newarray .int, 2) := by decide +kernel
theorem dX5_init_48 : decode cX5_init 48 = .ok (.putfield 26, 3) := by decide +kernel
theorem dX5_init_51 : decode cX5_init 51 = .ok (.aload_n 0, 1) := by decide +kernel
theorem dX5_init_52 : decode cX5_init 52 = .ok (.bipush 9, 2) := by decide +kernel
theorem dX5_init_54 : decode cX5_init 54 = .ok (.newarray .int, 2) := by decide +kernel
theorem dX5_init_56 : decode cX5_init 56 = .ok (.putfield 30, 3) := by decide +kernel
theorem dX5_init_59 : decode cX5_init 59 = .ok (.return_, 1) := by decide +kernel
theorem dX5_whereThen_0 : decode cX5_whereThen 0 = .ok (.aload_n 1, 1) := by decide +kernel
theorem dX5_whereThen_1 : decode cX5_whereThen 1 = .ok (.invokevirtual 33, 3) := by decide +kernel
theorem dX5_whereThen_4 : decode cX5_whereThen 4 = .ok (.aload_n 0, 1) := by decide +kernel
theorem dX5_whereThen_5 : decode cX5_whereThen 5 = .ok (.getfield 23, 3) := by decide +kernel
theorem dX5_whereThen_8 : decode cX5_whereThen 8 = .ok (.aload_n 1, 1) := by decide +kernel
theorem dX5_whereThen_9 : decode cX5_whereThen 9 = .ok (.getfield 38, 3) := by decide +kernel
theorem dX5_whereThen_12 : decode cX5_whereThen 12 = .ok (.invokevirtual 41, 3) := by decide +kernel
theorem dX5_whereThen_15 : decode cX5_whereThen 15 = .ok (.iconst 0, 1) := by decide +kernel
theorem dX5_whereThen_16 : decode cX5_whereThen 16 = .ok (.istore 4, 2) := by decide +kernel
theorem dX5_whereThen_18 : decode cX5_whereThen 18 = .ok (.iload 4, 2) := by decide +kernel
theorem dX5_whereThen_20 : decode cX5_whereThen 20 = .ok (.iload_n 3, 1) := by decide +kernel
theorem dX5_whereThen_21 : decode cX5_whereThen 21 = .ok (.if_icmp .ge 25, 3) := by decide +kernel
theorem dX5_whereThen_24 : decode cX5_whereThen 24 = .ok (.aload_n 1, 1) := by decide +kernel
theorem dX5_whereThen_25 : decode cX5_whereThen 25 = .ok (.aload_n 0, 1) := by decide +kernel
theorem dX5_whereThen_26 : decode cX5_whereThen 26 = .ok (.getfield 23, 3) := by decide +kernel
theorem dX5_whereThen_29 : decode cX5_whereThen 29 = .ok (.aload_n 1, 1) := by decide +kernel
theorem dX5_whereThen_30 : decode cX5_whereThen 30 = .ok (.getfield 45, 3) := by decide +kernel
theorem dX5_whereThen_33 : decode cX5_whereThen 33 = .ok (.iload 4, 2) := by decide +kernel
theorem dX5_whereThen_35 : decode cX5_whereThen 35 = .ok (.iadd, 1) := by decide +kernel
theorem dX5_whereThen_36 : decode cX5_whereThen 36 = .ok (.invokevirtual 49, 3) := by decide +kernel
theorem dX5_whereThen_39 : decode cX5_whereThen 39 = .ok (.pop, 1) := by decide +kernel
theorem dX5_whereThen_40 : decode cX5_whereThen 40 = .ok (.iinc 4 1, 3) := by decide +kernel
theorem dX5_whereThen_43 : decode cX5_whereThen 43 = .ok (.goto (-25), 3) := by decide +kernel
theorem dX5_whereThen_46 : decode cX5_whereThen 46 = .ok (.aload_n 0, 1) := by decide +kernel
theorem dX5_whereThen_47 : decode cX5_whereThen 47 = .ok (.getfield 23, 3) := by decide +kernel
theorem dX5_whereThen_50 : decode cX5_whereThen 50 = .ok (.iload_n 2, 1) := by decide +kernel
theorem dX5_whereThen_51 : decode cX5_whereThen 51 = .ok (.invokevirtual 53, 3) := by decide +kernel
theorem dX5_whereThen_54 : decode cX5_whereThen 54 = .ok (.istore 4, 2) := by decide +kernel
theorem dX5_whereThen_56 : decode cX5_whereThen 56 = .ok (.iload 4, 2) := by decide +kernel
theorem dX5_whereThen_58 : decode cX5_whereThen 58 = .ok (.ifCond .lt 8, 3) := by decide +kernel
theorem dX5_whereThen_61 : decode cX5_whereThen 61 = .ok (.iload 4, 2) := by decide +kernel
theorem dX5_whereThen_63 : decode cX5_whereThen 63 = .ok (.goto 8, 3) := by decide +kernel
theorem dX5_whereThen_66 : decode cX5_whereThen 66 = .ok (.aload_n 1, 1) := by decide +kernel
theorem dX5_whereThen_67 : decode cX5_whereThen 67 = .ok (.iload_n 2, 1) := by decide +kernel
theorem dX5_whereThen_68 : decode cX5_whereThen 68 = .ok (.invokevirtual 57, 3) := by decide +kernel
theorem dX5_whereThen_71 : decode cX5_whereThen 71 = .ok (.ireturn, 1) := by decide +kernel
theorem dX5_stepsToSettle_0 : decode cX5_stepsToSettle 0 = .ok (.aload_n 1, 1) := by decide +kernel
theorem dX5_stepsToSettle_1 : decode cX5_stepsToSettle 1 = .ok (.invokevirtual 33, 3) := by decide +kernel
theorem dX5_stepsToSettle_4 : decode cX5_stepsToSettle 4 = .ok (.aload_n 0, 1) := by decide +kernel
theorem dX5_stepsToSettle_5 : decode cX5_stepsToSettle 5 = .ok (.getfield 23, 3) := by decide +kernel
theorem dX5_stepsToSettle_8 : decode cX5_stepsToSettle 8 = .ok (.aload_n 1, 1) := by decide +kernel
theorem dX5_stepsToSettle_9 : decode cX5_stepsToSettle 9 = .ok (.getfield 38, 3) := by decide +kernel
theorem dX5_stepsToSettle_12 : decode cX5_stepsToSettle 12 = .ok (.invokevirtual 41, 3) := by decide +kernel
theorem dX5_stepsToSettle_15 : decode cX5_stepsToSettle 15 = .ok (.iconst 0, 1) := by decide +kernel
theorem dX5_stepsToSettle_16 : decode cX5_stepsToSettle 16 = .ok (.istore_n 2, 1) := by decide +kernel
theorem dX5_stepsToSettle_17 : decode cX5_stepsToSettle 17 = .ok (.iload_n 2, 1) := by decide +kernel
theorem dX5_stepsToSettle_18 : decode cX5_stepsToSettle 18 = .ok (.bipush 99, 2) := by decide +kernel
theorem dX5_stepsToSettle_20 : decode cX5_stepsToSettle 20 = .ok (.if_icmp .gt 28, 3) := by decide +kernel
theorem dX5_stepsToSettle_23 : decode cX5_stepsToSettle 23 = .ok (.aload_n 1, 1) := by decide +kernel
theorem dX5_stepsToSettle_24 : decode cX5_stepsToSettle 24 = .ok (.aload_n 0, 1) := by decide +kernel
theorem dX5_stepsToSettle_25 : decode cX5_stepsToSettle 25 = .ok (.getfield 23, 3) := by decide +kernel
theorem dX5_stepsToSettle_28 : decode cX5_stepsToSettle 28 = .ok (.aload_n 1, 1) := by decide +kernel
theorem dX5_stepsToSettle_29 : decode cX5_stepsToSettle 29 = .ok (.getfield 45, 3) := by decide +kernel
theorem dX5_stepsToSettle_32 : decode cX5_stepsToSettle 32 = .ok (.iload_n 2, 1) := by decide +kernel
theorem dX5_stepsToSettle_33 : decode cX5_stepsToSettle 33 = .ok (.iadd, 1) := by decide +kernel
theorem dX5_stepsToSettle_34 : decode cX5_stepsToSettle 34 = .ok (.invokevirtual 49, 3) := by decide +kernel
theorem dX5_stepsToSettle_37 : decode cX5_stepsToSettle 37 = .ok (.ifCond .ne 5, 3) := by decide +kernel
theorem dX5_stepsToSettle_40 : decode cX5_stepsToSettle 40 = .ok (.iload_n 2, 1) := by decide +kernel
theorem dX5_stepsToSettle_41 : decode cX5_stepsToSettle 41 = .ok (.ireturn, 1) := by decide +kernel
theorem dX5_stepsToSettle_42 : decode cX5_stepsToSettle 42 = .ok (.iinc 2 1, 3) := by decide +kernel
theorem dX5_stepsToSettle_45 : decode cX5_stepsToSettle 45 = .ok (.goto (-28), 3) := by decide +kernel
theorem dX5_stepsToSettle_48 : decode cX5_stepsToSettle 48 = .ok (.iconst (-1), 1) := by decide +kernel
theorem dX5_stepsToSettle_49 : decode cX5_stepsToSettle 49 = .ok (.ireturn, 1) := by decide +kernel
theorem dX5_stepsToBe_0 : decode cX5_stepsToBe 0 = .ok (.aload_n 2, 1) := by decide +kernel
theorem dX5_stepsToBe_1 : decode cX5_stepsToBe 1 = .ok (.getfield 60, 3) := by decide +kernel
theorem dX5_stepsToBe_4 : decode cX5_stepsToBe 4 = .ok (.aload_n 1, 1) := by decide +kernel
theorem dX5_stepsToBe_5 : decode cX5_stepsToBe 5 = .ok (.getfield 38, 3) := by decide +kernel
theorem dX5_stepsToBe_8 : decode cX5_stepsToBe 8 = .ok (.getfield 60, 3) := by decide +kernel
theorem dX5_stepsToBe_11 : decode cX5_stepsToBe 11 = .ok (.if_icmp .eq 5, 3) := by decide +kernel
theorem dX5_stepsToBe_14 : decode cX5_stepsToBe 14 = .ok (.iconst (-1), 1) := by decide +kernel
theorem dX5_stepsToBe_15 : decode cX5_stepsToBe 15 = .ok (.ireturn, 1) := by decide +kernel
theorem dX5_stepsToBe_16 : decode cX5_stepsToBe 16 = .ok (.aload_n 1, 1) := by decide +kernel
theorem dX5_stepsToBe_17 : decode cX5_stepsToBe 17 = .ok (.invokevirtual 33, 3) := by decide +kernel
theorem dX5_stepsToBe_20 : decode cX5_stepsToBe 20 = .ok (.aload_n 0, 1) := by decide +kernel
theorem dX5_stepsToBe_21 : decode cX5_stepsToBe 21 = .ok (.getfield 23, 3) := by decide +kernel
theorem dX5_stepsToBe_24 : decode cX5_stepsToBe 24 = .ok (.aload_n 1, 1) := by decide +kernel
theorem dX5_stepsToBe_25 : decode cX5_stepsToBe 25 = .ok (.getfield 38, 3) := by decide +kernel
theorem dX5_stepsToBe_28 : decode cX5_stepsToBe 28 = .ok (.invokevirtual 41, 3) := by decide +kernel
theorem dX5_stepsToBe_31 : decode cX5_stepsToBe 31 = .ok (.iconst 0, 1) := by decide +kernel
theorem dX5_stepsToBe_32 : decode cX5_stepsToBe 32 = .ok (.istore_n 3, 1) := by decide +kernel
theorem dX5_stepsToBe_33 : decode cX5_stepsToBe 33 = .ok (.iload_n 3, 1) := by decide +kernel
theorem dX5_stepsToBe_34 : decode cX5_stepsToBe 34 = .ok (.bipush 99, 2) := by decide +kernel
theorem dX5_stepsToBe_36 : decode cX5_stepsToBe 36 = .ok (.if_icmp .gt 44, 3) := by decide +kernel
theorem dX5_stepsToBe_39 : decode cX5_stepsToBe 39 = .ok (.aload_n 2, 1) := by decide +kernel
theorem dX5_stepsToBe_40 : decode cX5_stepsToBe 40 = .ok (.aload_n 0, 1) := by decide +kernel
theorem dX5_stepsToBe_41 : decode cX5_stepsToBe 41 = .ok (.getfield 23, 3) := by decide +kernel
theorem dX5_stepsToBe_44 : decode cX5_stepsToBe 44 = .ok (.invokevirtual 63, 3) := by decide +kernel
theorem dX5_stepsToBe_47 : decode cX5_stepsToBe 47 = .ok (.aload_n 0, 1) := by decide +kernel
theorem dX5_stepsToBe_48 : decode cX5_stepsToBe 48 = .ok (.getfield 23, 3) := by decide +kernel
theorem dX5_stepsToBe_51 : decode cX5_stepsToBe 51 = .ok (.getfield 60, 3) := by decide +kernel
theorem dX5_stepsToBe_54 : decode cX5_stepsToBe 54 = .ok (.if_icmp .ne 5, 3) := by decide +kernel
theorem dX5_stepsToBe_57 : decode cX5_stepsToBe 57 = .ok (.iload_n 3, 1) := by decide +kernel
theorem dX5_stepsToBe_58 : decode cX5_stepsToBe 58 = .ok (.ireturn, 1) := by decide +kernel
theorem dX5_stepsToBe_59 : decode cX5_stepsToBe 59 = .ok (.aload_n 1, 1) := by decide +kernel
theorem dX5_stepsToBe_60 : decode cX5_stepsToBe 60 = .ok (.aload_n 0, 1) := by decide +kernel
theorem dX5_stepsToBe_61 : decode cX5_stepsToBe 61 = .ok (.getfield 23, 3) := by decide +kernel
theorem dX5_stepsToBe_64 : decode cX5_stepsToBe 64 = .ok (.aload_n 1, 1) := by decide +kernel
theorem dX5_stepsToBe_65 : decode cX5_stepsToBe 65 = .ok (.getfield 45, 3) := by decide +kernel
theorem dX5_stepsToBe_68 : decode cX5_stepsToBe 68 = .ok (.iload_n 3, 1) := by decide +kernel
theorem dX5_stepsToBe_69 : decode cX5_stepsToBe 69 = .ok (.iadd, 1) := by decide +kernel
theorem dX5_stepsToBe_70 : decode cX5_stepsToBe 70 = .ok (.invokevirtual 49, 3) := by decide +kernel
theorem dX5_stepsToBe_73 : decode cX5_stepsToBe 73 = .ok (.pop, 1) := by decide +kernel
theorem dX5_stepsToBe_74 : decode cX5_stepsToBe 74 = .ok (.iinc 3 1, 3) := by decide +kernel
theorem dX5_stepsToBe_77 : decode cX5_stepsToBe 77 = .ok (.goto (-44), 3) := by decide +kernel
theorem dX5_stepsToBe_80 : decode cX5_stepsToBe 80 = .ok (.iconst (-1), 1) := by decide +kernel
theorem dX5_stepsToBe_81 : decode cX5_stepsToBe 81 = .ok (.ireturn, 1) := by decide +kernel
theorem dX5_packFor_0 : decode cX5_packFor 0 = .ok (.aload_n 1, 1) := by decide +kernel
theorem dX5_packFor_1 : decode cX5_packFor 1 = .ok (.invokevirtual 33, 3) := by decide +kernel
theorem dX5_packFor_4 : decode cX5_packFor 4 = .ok (.aload_n 0, 1) := by decide +kernel
theorem dX5_packFor_5 : decode cX5_packFor 5 = .ok (.aload_n 1, 1) := by decide +kernel
theorem dX5_packFor_6 : decode cX5_packFor 6 = .ok (.invokevirtual 67, 3) := by decide +kernel
theorem dX5_packFor_9 : decode cX5_packFor 9 = .ok (.aload_n 0, 1) := by decide +kernel
theorem dX5_packFor_10 : decode cX5_packFor 10 = .ok (.getfield 20, 3) := by decide +kernel
theorem dX5_packFor_13 : decode cX5_packFor 13 = .ok (.iconst 0, 1) := by decide +kernel
theorem dX5_packFor_14 : decode cX5_packFor 14 = .ok (.putfield 60, 3) := by decide +kernel
theorem dX5_packFor_17 : decode cX5_packFor 17 = .ok (.iconst 0, 1) := by decide +kernel
theorem dX5_packFor_18 : decode cX5_packFor 18 = .ok (.istore_n 3, 1) := by decide +kernel
theorem dX5_packFor_19 : decode cX5_packFor 19 = .ok (.iload_n 3, 1) := by decide +kernel
theorem dX5_packFor_20 : decode cX5_packFor 20 = .ok (.aload_n 1, 1) := by decide +kernel
theorem dX5_packFor_21 : decode cX5_packFor 21 = .ok (.getfield 71, 3) := by decide +kernel
theorem dX5_packFor_24 : decode cX5_packFor 24 = .ok (.if_icmp .ge 28, 3) := by decide +kernel
theorem dX5_packFor_27 : decode cX5_packFor 27 = .ok (.aload_n 1, 1) := by decide +kernel
theorem dX5_packFor_28 : decode cX5_packFor 28 = .ok (.getfield 38, 3) := by decide +kernel
theorem dX5_packFor_31 : decode cX5_packFor 31 = .ok (.iload_n 3, 1) := by decide +kernel
theorem dX5_packFor_32 : decode cX5_packFor 32 = .ok (.invokevirtual 53, 3) := by decide +kernel
theorem dX5_packFor_35 : decode cX5_packFor 35 = .ok (.ifCond .lt 11, 3) := by decide +kernel
theorem dX5_packFor_38 : decode cX5_packFor 38 = .ok (.aload_n 0, 1) := by decide +kernel
theorem dX5_packFor_39 : decode cX5_packFor 39 = .ok (.getfield 20, 3) := by decide +kernel
theorem dX5_packFor_42 : decode cX5_packFor 42 = .ok (.iload_n 3, 1) := by decide +kernel
theorem dX5_packFor_43 : decode cX5_packFor 43 = .ok (.invokevirtual 74, 3) := by decide +kernel
theorem dX5_packFor_46 : decode cX5_packFor 46 = .ok (.iinc 3 1, 3) := by decide +kernel
theorem dX5_packFor_49 : decode cX5_packFor 49 = .ok (.goto (-30), 3) := by decide +kernel
theorem dX5_packFor_52 : decode cX5_packFor 52 = .ok (.ldc 77, 2) := by decide +kernel
theorem dX5_packFor_54 : decode cX5_packFor 54 = .ok (.istore_n 3, 1) := by decide +kernel
theorem dX5_packFor_55 : decode cX5_packFor 55 = .ok (.iconst 0, 1) := by decide +kernel
theorem dX5_packFor_56 : decode cX5_packFor 56 = .ok (.istore 4, 2) := by decide +kernel
theorem dX5_packFor_58 : decode cX5_packFor 58 = .ok (.iload 4, 2) := by decide +kernel
theorem dX5_packFor_60 : decode cX5_packFor 60 = .ok (.sipush 720, 3) := by decide +kernel
theorem dX5_packFor_63 : decode cX5_packFor 63 = .ok (.if_icmp .ge 50, 3) := by decide +kernel
theorem dX5_packFor_66 : decode cX5_packFor 66 = .ok (.aload_n 0, 1) := by decide +kernel
theorem dX5_packFor_67 : decode cX5_packFor 67 = .ok (.aload_n 1, 1) := by decide +kernel
theorem dX5_packFor_68 : decode cX5_packFor 68 = .ok (.iload_n 2, 1) := by decide +kernel
theorem dX5_packFor_69 : decode cX5_packFor 69 = .ok (.invokevirtual 78, 3) := by decide +kernel
theorem dX5_packFor_72 : decode cX5_packFor 72 = .ok (.istore 5, 2) := by decide +kernel
theorem dX5_packFor_74 : decode cX5_packFor 74 = .ok (.iload 5, 2) := by decide +kernel
theorem dX5_packFor_76 : decode cX5_packFor 76 = .ok (.iload_n 3, 1) := by decide +kernel
theorem dX5_packFor_77 : decode cX5_packFor 77 = .ok (.if_icmp .ge 17, 3) := by decide +kernel
theorem dX5_packFor_80 : decode cX5_packFor 80 = .ok (.iload 5, 2) := by decide +kernel
theorem dX5_packFor_82 : decode cX5_packFor 82 = .ok (.istore_n 3, 1) := by decide +kernel
theorem dX5_packFor_83 : decode cX5_packFor 83 = .ok (.aload_n 0, 1) := by decide +kernel
theorem dX5_packFor_84 : decode cX5_packFor 84 = .ok (.getfield 14, 3) := by decide +kernel
theorem dX5_packFor_87 : decode cX5_packFor 87 = .ok (.aload_n 0, 1) := by decide +kernel
theorem dX5_packFor_88 : decode cX5_packFor 88 = .ok (.getfield 20, 3) := by decide +kernel
theorem dX5_packFor_91 : decode cX5_packFor 91 = .ok (.invokevirtual 41, 3) := by decide +kernel
theorem dX5_packFor_94 : decode cX5_packFor 94 = .ok (.aload_n 0, 1) := by decide +kernel
theorem dX5_packFor_95 : decode cX5_packFor 95 = .ok (.getfield 20, 3) := by decide +kernel
theorem dX5_packFor_98 : decode cX5_packFor 98 = .ok (.invokevirtual 82, 3) := by decide +kernel
theorem dX5_packFor_101 : decode cX5_packFor 101 = .ok (.ifCond .ne 6, 3) := by decide +kernel
theorem dX5_packFor_104 : decode cX5_packFor 104 = .ok (.goto 9, 3) := by decide +kernel
theorem dX5_packFor_107 : decode cX5_packFor 107 = .ok (.iinc 4 1, 3) := by decide +kernel
theorem dX5_packFor_110 : decode cX5_packFor 110 = .ok (.goto (-52), 3) := by decide +kernel
theorem dX5_packFor_113 : decode cX5_packFor 113 = .ok (.iload_n 3, 1) := by decide +kernel
theorem dX5_packFor_114 : decode cX5_packFor 114 = .ok (.ireturn, 1) := by decide +kernel
theorem dX5_costOfStart_0 : decode cX5_costOfStart 0 = .ok (.aload_n 0, 1) := by decide +kernel
theorem dX5_costOfStart_1 : decode cX5_costOfStart 1 = .ok (.getfield 23, 3) := by decide +kernel
theorem dX5_costOfStart_4 : decode cX5_costOfStart 4 = .ok (.aload_n 0, 1) := by decide +kernel
theorem dX5_costOfStart_5 : decode cX5_costOfStart 5 = .ok (.getfield 20, 3) := by decide +kernel
theorem dX5_costOfStart_8 : decode cX5_costOfStart 8 = .ok (.invokevirtual 41, 3) := by decide +kernel
theorem dX5_costOfStart_11 : decode cX5_costOfStart 11 = .ok (.iconst 0, 1) := by decide +kernel
theorem dX5_costOfStart_12 : decode cX5_costOfStart 12 = .ok (.istore_n 3, 1) := by decide +kernel
theorem dX5_costOfStart_13 : decode cX5_costOfStart 13 = .ok (.iload_n 3, 1) := by decide +kernel
theorem dX5_costOfStart_14 : decode cX5_costOfStart 14 = .ok (.iload_n 2, 1) := by decide +kernel
theorem dX5_costOfStart_15 : decode cX5_costOfStart 15 = .ok (.if_icmp .ge 24, 3) := by decide +kernel
theorem dX5_costOfStart_18 : decode cX5_costOfStart 18 = .ok (.aload_n 1, 1) := by decide +kernel
theorem dX5_costOfStart_19 : decode cX5_costOfStart 19 = .ok (.aload_n 0, 1) := by decide +kernel
theorem dX5_costOfStart_20 : decode cX5_costOfStart 20 = .ok (.getfield 23, 3) := by decide +kernel
theorem dX5_costOfStart_23 : decode cX5_costOfStart 23 = .ok (.aload_n 1, 1) := by decide +kernel
theorem dX5_costOfStart_24 : decode cX5_costOfStart 24 = .ok (.getfield 45, 3) := by decide +kernel
theorem dX5_costOfStart_27 : decode cX5_costOfStart 27 = .ok (.iload_n 3, 1) := by decide +kernel
theorem dX5_costOfStart_28 : decode cX5_costOfStart 28 = .ok (.iadd, 1) := by decide +kernel
theorem dX5_costOfStart_29 : decode cX5_costOfStart 29 = .ok (.invokevirtual 49, 3) := by decide +kernel
theorem dX5_costOfStart_32 : decode cX5_costOfStart 32 = .ok (.pop, 1) := by decide +kernel
theorem dX5_costOfStart_33 : decode cX5_costOfStart 33 = .ok (.iinc 3 1, 3) := by decide +kernel
theorem dX5_costOfStart_36 : decode cX5_costOfStart 36 = .ok (.goto (-23), 3) := by decide +kernel
theorem dX5_costOfStart_39 : decode cX5_costOfStart 39 = .ok (.iconst 0, 1) := by decide +kernel
theorem dX5_costOfStart_40 : decode cX5_costOfStart 40 = .ok (.istore_n 3, 1) := by decide +kernel
theorem dX5_costOfStart_41 : decode cX5_costOfStart 41 = .ok (.iconst 0, 1) := by decide +kernel
theorem dX5_costOfStart_42 : decode cX5_costOfStart 42 = .ok (.istore 4, 2) := by decide +kernel
theorem dX5_costOfStart_44 : decode cX5_costOfStart 44 = .ok (.iconst 0, 1) := by decide +kernel
theorem dX5_costOfStart_45 : decode cX5_costOfStart 45 = .ok (.istore 5, 2) := by decide +kernel
theorem dX5_costOfStart_47 : decode cX5_costOfStart 47 = .ok (.iload 5, 2) := by decide +kernel
theorem dX5_costOfStart_49 : decode cX5_costOfStart 49 = .ok (.aload_n 0, 1) := by decide +kernel
theorem dX5_costOfStart_50 : decode cX5_costOfStart 50 = .ok (.getfield 23, 3) := by decide +kernel
theorem dX5_costOfStart_53 : decode cX5_costOfStart 53 = .ok (.getfield 60, 3) := by decide +kernel
theorem dX5_costOfStart_56 : decode cX5_costOfStart 56 = .ok (.if_icmp .ge 51, 3) := by decide +kernel
theorem dX5_costOfStart_59 : decode cX5_costOfStart 59 = .ok (.aload_n 0, 1) := by decide +kernel
theorem dX5_costOfStart_60 : decode cX5_costOfStart 60 = .ok (.getfield 23, 3) := by decide +kernel
theorem dX5_costOfStart_63 : decode cX5_costOfStart 63 = .ok (.getfield 86, 3) := by decide +kernel
theorem dX5_costOfStart_66 : decode cX5_costOfStart 66 = .ok (.iload 5, 2) := by decide +kernel
theorem dX5_costOfStart_68 : decode cX5_costOfStart 68 = .ok (.iaload, 1) := by decide +kernel
theorem dX5_costOfStart_69 : decode cX5_costOfStart 69 = .ok (.istore 6, 2) := by decide +kernel
theorem dX5_costOfStart_71 : decode cX5_costOfStart 71 = .ok (.iload_n 3, 1) := by decide +kernel
theorem dX5_costOfStart_72 : decode cX5_costOfStart 72 = .ok (.aload_n 0, 1) := by decide +kernel
theorem dX5_costOfStart_73 : decode cX5_costOfStart 73 = .ok (.getfield 26, 3) := by decide +kernel
theorem dX5_costOfStart_76 : decode cX5_costOfStart 76 = .ok (.iload 6, 2) := by decide +kernel
theorem dX5_costOfStart_78 : decode cX5_costOfStart 78 = .ok (.bipush 9, 2) := by decide +kernel
theorem dX5_costOfStart_80 : decode cX5_costOfStart 80 = .ok (.imul, 1) := by decide +kernel
theorem dX5_costOfStart_81 : decode cX5_costOfStart 81 = .ok (.iload 5, 2) := by decide +kernel
theorem dX5_costOfStart_83 : decode cX5_costOfStart 83 = .ok (.iadd, 1) := by decide +kernel
theorem dX5_costOfStart_84 : decode cX5_costOfStart 84 = .ok (.iaload, 1) := by decide +kernel
theorem dX5_costOfStart_85 : decode cX5_costOfStart 85 = .ok (.iadd, 1) := by decide +kernel
theorem dX5_costOfStart_86 : decode cX5_costOfStart 86 = .ok (.istore_n 3, 1) := by decide +kernel
theorem dX5_costOfStart_87 : decode cX5_costOfStart 87 = .ok (.iload 4, 2) := by decide +kernel
theorem dX5_costOfStart_89 : decode cX5_costOfStart 89 = .ok (.aload_n 0, 1) := by decide +kernel
theorem dX5_costOfStart_90 : decode cX5_costOfStart 90 = .ok (.getfield 30, 3) := by decide +kernel
theorem dX5_costOfStart_93 : decode cX5_costOfStart 93 = .ok (.iload 6, 2) := by decide +kernel
theorem dX5_costOfStart_95 : decode cX5_costOfStart 95 = .ok (.iaload, 1) := by decide +kernel
theorem dX5_costOfStart_96 : decode cX5_costOfStart 96 = .ok (.iload_n 3, 1) := by decide +kernel
theorem dX5_costOfStart_97 : decode cX5_costOfStart 97 = .ok (.imul, 1) := by decide +kernel
theorem dX5_costOfStart_98 : decode cX5_costOfStart 98 = .ok (.iadd, 1) := by decide +kernel
theorem dX5_costOfStart_99 : decode cX5_costOfStart 99 = .ok (.istore 4, 2) := by decide +kernel
theorem dX5_costOfStart_101 : decode cX5_costOfStart 101 = .ok (.iinc 5 1, 3) := by decide +kernel
theorem dX5_costOfStart_104 : decode cX5_costOfStart 104 = .ok (.goto (-57), 3) := by decide +kernel
theorem dX5_costOfStart_107 : decode cX5_costOfStart 107 = .ok (.iload 4, 2) := by decide +kernel
theorem dX5_costOfStart_109 : decode cX5_costOfStart 109 = .ok (.ireturn, 1) := by decide +kernel
theorem dX5_learnUses_0 : decode cX5_learnUses 0 = .ok (.iconst 0, 1) := by decide +kernel
theorem dX5_learnUses_1 : decode cX5_learnUses 1 = .ok (.istore_n 2, 1) := by decide +kernel
theorem dX5_learnUses_2 : decode cX5_learnUses 2 = .ok (.iload_n 2, 1) := by decide +kernel
theorem dX5_learnUses_3 : decode cX5_learnUses 3 = .ok (.aload_n 1, 1) := by decide +kernel
theorem dX5_learnUses_4 : decode cX5_learnUses 4 = .ok (.getfield 71, 3) := by decide +kernel
theorem dX5_learnUses_7 : decode cX5_learnUses 7 = .ok (.if_icmp .ge 75, 3) := by decide +kernel
theorem dX5_learnUses_10 : decode cX5_learnUses 10 = .ok (.aload_n 1, 1) := by decide +kernel
theorem dX5_learnUses_11 : decode cX5_learnUses 11 = .ok (.getfield 89, 3) := by decide +kernel
theorem dX5_learnUses_14 : decode cX5_learnUses 14 = .ok (.iload_n 2, 1) := by decide +kernel
theorem dX5_learnUses_15 : decode cX5_learnUses 15 = .ok (.aaload, 1) := by decide +kernel
theorem dX5_learnUses_16 : decode cX5_learnUses 16 = .ok (.astore_n 3, 1) := by decide +kernel
theorem dX5_learnUses_17 : decode cX5_learnUses 17 = .ok (.aload_n 0, 1) := by decide +kernel
theorem dX5_learnUses_18 : decode cX5_learnUses 18 = .ok (.getfield 30, 3) := by decide +kernel
theorem dX5_learnUses_21 : decode cX5_learnUses 21 = .ok (.iload_n 2, 1) := by decide +kernel
theorem dX5_learnUses_22 : decode cX5_learnUses 22 = .ok (.aload_n 1, 1) := by decide +kernel
theorem dX5_learnUses_23 : decode cX5_learnUses 23 = .ok (.iload_n 2, 1) := by decide +kernel
theorem dX5_learnUses_24 : decode cX5_learnUses 24 = .ok (.invokevirtual 93, 3) := by decide +kernel
theorem dX5_learnUses_27 : decode cX5_learnUses 27 = .ok (.iastore, 1) := by decide +kernel
theorem dX5_learnUses_28 : decode cX5_learnUses 28 = .ok (.iconst 0, 1) := by decide +kernel
theorem dX5_learnUses_29 : decode cX5_learnUses 29 = .ok (.istore 4, 2) := by decide +kernel
theorem dX5_learnUses_31 : decode cX5_learnUses 31 = .ok (.iload 4, 2) := by decide +kernel
theorem dX5_learnUses_33 : decode cX5_learnUses 33 = .ok (.aload_n 1, 1) := by decide +kernel
theorem dX5_learnUses_34 : decode cX5_learnUses 34 = .ok (.getfield 38, 3) := by decide +kernel
theorem dX5_learnUses_37 : decode cX5_learnUses 37 = .ok (.getfield 60, 3) := by decide +kernel
theorem dX5_learnUses_40 : decode cX5_learnUses 40 = .ok (.if_icmp .ge 36, 3) := by decide +kernel
theorem dX5_learnUses_43 : decode cX5_learnUses 43 = .ok (.aload_n 0, 1) := by decide +kernel
theorem dX5_learnUses_44 : decode cX5_learnUses 44 = .ok (.getfield 26, 3) := by decide +kernel
theorem dX5_learnUses_47 : decode cX5_learnUses 47 = .ok (.iload_n 2, 1) := by decide +kernel
theorem dX5_learnUses_48 : decode cX5_learnUses 48 = .ok (.bipush 9, 2) := by decide +kernel
theorem dX5_learnUses_50 : decode cX5_learnUses 50 = .ok (.imul, 1) := by decide +kernel
theorem dX5_learnUses_51 : decode cX5_learnUses 51 = .ok (.iload 4, 2) := by decide +kernel
theorem dX5_learnUses_53 : decode cX5_learnUses 53 = .ok (.iadd, 1) := by decide +kernel
theorem dX5_learnUses_54 : decode cX5_learnUses 54 = .ok (.aload_n 1, 1) := by decide +kernel
theorem dX5_learnUses_55 : decode cX5_learnUses 55 = .ok (.iconst 0, 1) := by decide +kernel
theorem dX5_learnUses_56 : decode cX5_learnUses 56 = .ok (.aload_n 3, 1) := by decide +kernel
theorem dX5_learnUses_57 : decode cX5_learnUses 57 = .ok (.invokevirtual 96, 3) := by decide +kernel
theorem dX5_learnUses_60 : decode cX5_learnUses 60 = .ok (.iload 4, 2) := by decide +kernel
theorem dX5_learnUses_62 : decode cX5_learnUses 62 = .ok (.aload_n 3, 1) := by decide +kernel
theorem dX5_learnUses_63 : decode cX5_learnUses 63 = .ok (.getfield 102, 3) := by decide +kernel
theorem dX5_learnUses_66 : decode cX5_learnUses 66 = .ok (.invokevirtual 105, 3) := by decide +kernel
theorem dX5_learnUses_69 : decode cX5_learnUses 69 = .ok (.iastore, 1) := by decide +kernel
theorem dX5_learnUses_70 : decode cX5_learnUses 70 = .ok (.iinc 4 1, 3) := by decide +kernel
theorem dX5_learnUses_73 : decode cX5_learnUses 73 = .ok (.goto (-42), 3) := by decide +kernel
theorem dX5_learnUses_76 : decode cX5_learnUses 76 = .ok (.iinc 2 1, 3) := by decide +kernel
theorem dX5_learnUses_79 : decode cX5_learnUses 79 = .ok (.goto (-77), 3) := by decide +kernel
theorem dX5_learnUses_82 : decode cX5_learnUses 82 = .ok (.return_, 1) := by decide +kernel
theorem dX5_setLeftOut_0 : decode cX5_setLeftOut 0 = .ok (.aload_n 0, 1) := by decide +kernel
theorem dX5_setLeftOut_1 : decode cX5_setLeftOut 1 = .ok (.aload_n 1, 1) := by decide +kernel
theorem dX5_setLeftOut_2 : decode cX5_setLeftOut 2 = .ok (.invokevirtual 67, 3) := by decide +kernel
theorem dX5_setLeftOut_5 : decode cX5_setLeftOut 5 = .ok (.iconst 0, 1) := by decide +kernel
theorem dX5_setLeftOut_6 : decode cX5_setLeftOut 6 = .ok (.istore 4, 2) := by decide +kernel
theorem dX5_setLeftOut_8 : decode cX5_setLeftOut 8 = .ok (.iconst 0, 1) := by decide +kernel
theorem dX5_setLeftOut_9 : decode cX5_setLeftOut 9 = .ok (.istore 5, 2) := by decide +kernel
theorem dX5_setLeftOut_11 : decode cX5_setLeftOut 11 = .ok (.iload 5, 2) := by decide +kernel
theorem dX5_setLeftOut_13 : decode cX5_setLeftOut 13 = .ok (.aload_n 1, 1) := by decide +kernel
theorem dX5_setLeftOut_14 : decode cX5_setLeftOut 14 = .ok (.getfield 38, 3) := by decide +kernel
theorem dX5_setLeftOut_17 : decode cX5_setLeftOut 17 = .ok (.getfield 60, 3) := by decide +kernel
theorem dX5_setLeftOut_20 : decode cX5_setLeftOut 20 = .ok (.if_icmp .ge 26, 3) := by decide +kernel
theorem dX5_setLeftOut_23 : decode cX5_setLeftOut 23 = .ok (.iload 4, 2) := by decide +kernel
theorem dX5_setLeftOut_25 : decode cX5_setLeftOut 25 = .ok (.iconst 1, 1) := by decide +kernel
theorem dX5_setLeftOut_26 : decode cX5_setLeftOut 26 = .ok (.aload_n 1, 1) := by decide +kernel
theorem dX5_setLeftOut_27 : decode cX5_setLeftOut 27 = .ok (.getfield 38, 3) := by decide +kernel
theorem dX5_setLeftOut_30 : decode cX5_setLeftOut 30 = .ok (.getfield 86, 3) := by decide +kernel
theorem dX5_setLeftOut_33 : decode cX5_setLeftOut 33 = .ok (.iload 5, 2) := by decide +kernel
theorem dX5_setLeftOut_35 : decode cX5_setLeftOut 35 = .ok (.iaload, 1) := by decide +kernel
theorem dX5_setLeftOut_36 : decode cX5_setLeftOut 36 = .ok (.ishl, 1) := by decide +kernel
theorem dX5_setLeftOut_37 : decode cX5_setLeftOut 37 = .ok (.ior, 1) := by decide +kernel
theorem dX5_setLeftOut_38 : decode cX5_setLeftOut 38 = .ok (.istore 4, 2) := by decide +kernel
theorem dX5_setLeftOut_40 : decode cX5_setLeftOut 40 = .ok (.iinc 5 1, 3) := by decide +kernel
theorem dX5_setLeftOut_43 : decode cX5_setLeftOut 43 = .ok (.goto (-32), 3) := by decide +kernel
theorem dX5_setLeftOut_46 : decode cX5_setLeftOut 46 = .ok (.iload 4, 2) := by decide +kernel
theorem dX5_setLeftOut_48 : decode cX5_setLeftOut 48 = .ok (.iconst 1, 1) := by decide +kernel
theorem dX5_setLeftOut_49 : decode cX5_setLeftOut 49 = .ok (.iload_n 2, 1) := by decide +kernel
theorem dX5_setLeftOut_50 : decode cX5_setLeftOut 50 = .ok (.ishl, 1) := by decide +kernel
theorem dX5_setLeftOut_51 : decode cX5_setLeftOut 51 = .ok (.iconst (-1), 1) := by decide +kernel
theorem dX5_setLeftOut_52 : decode cX5_setLeftOut 52 = .ok (.ixor, 1) := by decide +kernel
theorem dX5_setLeftOut_53 : decode cX5_setLeftOut 53 = .ok (.iand, 1) := by decide +kernel
theorem dX5_setLeftOut_54 : decode cX5_setLeftOut 54 = .ok (.istore 4, 2) := by decide +kernel
theorem dX5_setLeftOut_56 : decode cX5_setLeftOut 56 = .ok (.iconst (-1), 1) := by decide +kernel
theorem dX5_setLeftOut_57 : decode cX5_setLeftOut 57 = .ok (.istore 5, 2) := by decide +kernel
theorem dX5_setLeftOut_59 : decode cX5_setLeftOut 59 = .ok (.bipush 9, 2) := by decide +kernel
theorem dX5_setLeftOut_61 : decode cX5_setLeftOut 61 = .ok (.istore 6, 2) := by decide +kernel
theorem dX5_setLeftOut_63 : decode cX5_setLeftOut 63 = .ok (.iconst 0, 1) := by decide +kernel
theorem dX5_setLeftOut_64 : decode cX5_setLeftOut 64 = .ok (.istore 7, 2) := by decide +kernel
theorem dX5_setLeftOut_66 : decode cX5_setLeftOut 66 = .ok (.iload 7, 2) := by decide +kernel
theorem dX5_setLeftOut_68 : decode cX5_setLeftOut 68 = .ok (.iload 4, 2) := by decide +kernel
theorem dX5_setLeftOut_70 : decode cX5_setLeftOut 70 = .ok (.if_icmp .gt 56, 3) := by decide +kernel
theorem dX5_setLeftOut_73 : decode cX5_setLeftOut 73 = .ok (.iload 7, 2) := by decide +kernel
theorem dX5_setLeftOut_75 : decode cX5_setLeftOut 75 = .ok (.invokestatic 109, 3) := by decide +kernel
theorem dX5_setLeftOut_78 : decode cX5_setLeftOut 78 = .ok (.istore 8, 2) := by decide +kernel
theorem dX5_setLeftOut_80 : decode cX5_setLeftOut 80 = .ok (.iload 7, 2) := by decide +kernel
theorem dX5_setLeftOut_82 : decode cX5_setLeftOut 82 = .ok (.iload 4, 2) := by decide +kernel
theorem dX5_setLeftOut_84 : decode cX5_setLeftOut 84 = .ok (.iconst (-1), 1) := by decide +kernel
theorem dX5_setLeftOut_85 : decode cX5_setLeftOut 85 = .ok (.ixor, 1) := by decide +kernel
theorem dX5_setLeftOut_86 : decode cX5_setLeftOut 86 = .ok (.iand, 1) := by decide +kernel
theorem dX5_setLeftOut_87 : decode cX5_setLeftOut 87 = .ok (.ifCond .ne 33, 3) := by decide +kernel
theorem dX5_setLeftOut_90 : decode cX5_setLeftOut 90 = .ok (.iload 8, 2) := by decide +kernel
theorem dX5_setLeftOut_92 : decode cX5_setLeftOut 92 = .ok (.iload 6, 2) := by decide +kernel
theorem dX5_setLeftOut_94 : decode cX5_setLeftOut 94 = .ok (.if_icmp .ge 26, 3) := by decide +kernel
theorem dX5_setLeftOut_97 : decode cX5_setLeftOut 97 = .ok (.aload_n 0, 1) := by decide +kernel
theorem dX5_setLeftOut_98 : decode cX5_setLeftOut 98 = .ok (.aload_n 1, 1) := by decide +kernel
theorem dX5_setLeftOut_99 : decode cX5_setLeftOut 99 = .ok (.getfield 38, 3) := by decide +kernel
theorem dX5_setLeftOut_102 : decode cX5_setLeftOut 102 = .ok (.iload_n 2, 1) := by decide +kernel
theorem dX5_setLeftOut_103 : decode cX5_setLeftOut 103 = .ok (.iload 7, 2) := by decide +kernel
theorem dX5_setLeftOut_105 : decode cX5_setLeftOut 105 = .ok (.invokevirtual 114, 3) := by decide +kernel
theorem dX5_setLeftOut_108 : decode cX5_setLeftOut 108 = .ok (.iload_n 3, 1) := by decide +kernel
theorem dX5_setLeftOut_109 : decode cX5_setLeftOut 109 = .ok (.if_icmp .gt 11, 3) := by decide +kernel
theorem dX5_setLeftOut_112 : decode cX5_setLeftOut 112 = .ok (.iload 7, 2) := by decide +kernel
theorem dX5_setLeftOut_114 : decode cX5_setLeftOut 114 = .ok (.istore 5, 2) := by decide +kernel
theorem dX5_setLeftOut_116 : decode cX5_setLeftOut 116 = .ok (.iload 8, 2) := by decide +kernel
theorem dX5_setLeftOut_118 : decode cX5_setLeftOut 118 = .ok (.istore 6, 2) := by decide +kernel
theorem dX5_setLeftOut_120 : decode cX5_setLeftOut 120 = .ok (.iinc 7 1, 3) := by decide +kernel
theorem dX5_setLeftOut_123 : decode cX5_setLeftOut 123 = .ok (.goto (-57), 3) := by decide +kernel
theorem dX5_setLeftOut_126 : decode cX5_setLeftOut 126 = .ok (.iload 5, 2) := by decide +kernel
theorem dX5_setLeftOut_128 : decode cX5_setLeftOut 128 = .ok (.ireturn, 1) := by decide +kernel
theorem dX5_timeWithout_0 : decode cX5_timeWithout 0 = .ok (.iconst 0, 1) := by decide +kernel
theorem dX5_timeWithout_1 : decode cX5_timeWithout 1 = .ok (.istore 4, 2) := by decide +kernel
theorem dX5_timeWithout_3 : decode cX5_timeWithout 3 = .ok (.iconst 0, 1) := by decide +kernel
theorem dX5_timeWithout_4 : decode cX5_timeWithout 4 = .ok (.istore 5, 2) := by decide +kernel
theorem dX5_timeWithout_6 : decode cX5_timeWithout 6 = .ok (.iconst 0, 1) := by decide +kernel
theorem dX5_timeWithout_7 : decode cX5_timeWithout 7 = .ok (.istore 6, 2) := by decide +kernel
theorem dX5_timeWithout_9 : decode cX5_timeWithout 9 = .ok (.iload 6, 2) := by decide +kernel
theorem dX5_timeWithout_11 : decode cX5_timeWithout 11 = .ok (.aload_n 1, 1) := by decide +kernel
theorem dX5_timeWithout_12 : decode cX5_timeWithout 12 = .ok (.getfield 60, 3) := by decide +kernel
theorem dX5_timeWithout_15 : decode cX5_timeWithout 15 = .ok (.if_icmp .ge 57, 3) := by decide +kernel
theorem dX5_timeWithout_18 : decode cX5_timeWithout 18 = .ok (.aload_n 1, 1) := by decide +kernel
theorem dX5_timeWithout_19 : decode cX5_timeWithout 19 = .ok (.getfield 86, 3) := by decide +kernel
theorem dX5_timeWithout_22 : decode cX5_timeWithout 22 = .ok (.iload 6, 2) := by decide +kernel
theorem dX5_timeWithout_24 : decode cX5_timeWithout 24 = .ok (.iaload, 1) := by decide +kernel
theorem dX5_timeWithout_25 : decode cX5_timeWithout 25 = .ok (.istore 7, 2) := by decide +kernel
theorem dX5_timeWithout_27 : decode cX5_timeWithout 27 = .ok (.iload_n 3, 1) := by decide +kernel
theorem dX5_timeWithout_28 : decode cX5_timeWithout 28 = .ok (.iload 7, 2) := by decide +kernel
theorem dX5_timeWithout_30 : decode cX5_timeWithout 30 = .ok (.iushr, 1) := by decide +kernel
theorem dX5_timeWithout_31 : decode cX5_timeWithout 31 = .ok (.iconst 1, 1) := by decide +kernel
theorem dX5_timeWithout_32 : decode cX5_timeWithout 32 = .ok (.iand, 1) := by decide +kernel
theorem dX5_timeWithout_33 : decode cX5_timeWithout 33 = .ok (.ifCond .ne 24, 3) := by decide +kernel
theorem dX5_timeWithout_36 : decode cX5_timeWithout 36 = .ok (.iload 5, 2) := by decide +kernel
theorem dX5_timeWithout_38 : decode cX5_timeWithout 38 = .ok (.aload_n 0, 1) := by decide +kernel
theorem dX5_timeWithout_39 : decode cX5_timeWithout 39 = .ok (.getfield 26, 3) := by decide +kernel
theorem dX5_timeWithout_42 : decode cX5_timeWithout 42 = .ok (.iload 7, 2) := by decide +kernel
theorem dX5_timeWithout_44 : decode cX5_timeWithout 44 = .ok (.bipush 9, 2) := by decide +kernel
theorem dX5_timeWithout_46 : decode cX5_timeWithout 46 = .ok (.imul, 1) := by decide +kernel
theorem dX5_timeWithout_47 : decode cX5_timeWithout 47 = .ok (.iload 4, 2) := by decide +kernel
theorem dX5_timeWithout_49 : decode cX5_timeWithout 49 = .ok (.iadd, 1) := by decide +kernel
theorem dX5_timeWithout_50 : decode cX5_timeWithout 50 = .ok (.iaload, 1) := by decide +kernel
theorem dX5_timeWithout_51 : decode cX5_timeWithout 51 = .ok (.iadd, 1) := by decide +kernel
theorem dX5_timeWithout_52 : decode cX5_timeWithout 52 = .ok (.istore 5, 2) := by decide +kernel
theorem dX5_timeWithout_54 : decode cX5_timeWithout 54 = .ok (.iinc 4 1, 3) := by decide +kernel
theorem dX5_timeWithout_57 : decode cX5_timeWithout 57 = .ok (.iload 7, 2) := by decide +kernel
theorem dX5_timeWithout_59 : decode cX5_timeWithout 59 = .ok (.iload_n 2, 1) := by decide +kernel
theorem dX5_timeWithout_60 : decode cX5_timeWithout 60 = .ok (.if_icmp .ne 6, 3) := by decide +kernel
theorem dX5_timeWithout_63 : decode cX5_timeWithout 63 = .ok (.iload 5, 2) := by decide +kernel
theorem dX5_timeWithout_65 : decode cX5_timeWithout 65 = .ok (.ireturn, 1) := by decide +kernel
theorem dX5_timeWithout_66 : decode cX5_timeWithout 66 = .ok (.iinc 6 1, 3) := by decide +kernel
theorem dX5_timeWithout_69 : decode cX5_timeWithout 69 = .ok (.goto (-60), 3) := by decide +kernel
theorem dX5_timeWithout_72 : decode cX5_timeWithout 72 = .ok (.iload 5, 2) := by decide +kernel
theorem dX5_timeWithout_74 : decode cX5_timeWithout 74 = .ok (.ireturn, 1) := by decide +kernel
theorem dX5_usedWithin_0 : decode cX5_usedWithin 0 = .ok (.iconst 0, 1) := by decide +kernel
theorem dX5_usedWithin_1 : decode cX5_usedWithin 1 = .ok (.istore_n 3, 1) := by decide +kernel
theorem dX5_usedWithin_2 : decode cX5_usedWithin 2 = .ok (.iconst 0, 1) := by decide +kernel
theorem dX5_usedWithin_3 : decode cX5_usedWithin 3 = .ok (.istore 4, 2) := by decide +kernel
theorem dX5_usedWithin_5 : decode cX5_usedWithin 5 = .ok (.iload 4, 2) := by decide +kernel
theorem dX5_usedWithin_7 : decode cX5_usedWithin 7 = .ok (.aload_n 1, 1) := by decide +kernel
theorem dX5_usedWithin_8 : decode cX5_usedWithin 8 = .ok (.getfield 71, 3) := by decide +kernel
theorem dX5_usedWithin_11 : decode cX5_usedWithin 11 = .ok (.if_icmp .ge 45, 3) := by decide +kernel
theorem dX5_usedWithin_14 : decode cX5_usedWithin 14 = .ok (.aload_n 1, 1) := by decide +kernel
theorem dX5_usedWithin_15 : decode cX5_usedWithin 15 = .ok (.iload 4, 2) := by decide +kernel
theorem dX5_usedWithin_17 : decode cX5_usedWithin 17 = .ok (.invokevirtual 57, 3) := by decide +kernel
theorem dX5_usedWithin_20 : decode cX5_usedWithin 20 = .ok (.bipush (-2), 2) := by decide +kernel
theorem dX5_usedWithin_22 : decode cX5_usedWithin 22 = .ok (.if_icmp .eq 28, 3) := by decide +kernel
theorem dX5_usedWithin_25 : decode cX5_usedWithin 25 = .ok (.aload_n 1, 1) := by decide +kernel
theorem dX5_usedWithin_26 : decode cX5_usedWithin 26 = .ok (.iload 4, 2) := by decide +kernel
theorem dX5_usedWithin_28 : decode cX5_usedWithin 28 = .ok (.aload_n 1, 1) := by decide +kernel
theorem dX5_usedWithin_29 : decode cX5_usedWithin 29 = .ok (.iload 4, 2) := by decide +kernel
theorem dX5_usedWithin_31 : decode cX5_usedWithin 31 = .ok (.invokevirtual 118, 3) := by decide +kernel
theorem dX5_usedWithin_34 : decode cX5_usedWithin 34 = .ok (.invokevirtual 121, 3) := by decide +kernel
theorem dX5_usedWithin_37 : decode cX5_usedWithin 37 = .ok (.iload_n 2, 1) := by decide +kernel
theorem dX5_usedWithin_38 : decode cX5_usedWithin 38 = .ok (.if_icmp .gt 12, 3) := by decide +kernel
theorem dX5_usedWithin_41 : decode cX5_usedWithin 41 = .ok (.iload_n 3, 1) := by decide +kernel
theorem dX5_usedWithin_42 : decode cX5_usedWithin 42 = .ok (.aload_n 1, 1) := by decide +kernel
theorem dX5_usedWithin_43 : decode cX5_usedWithin 43 = .ok (.iload 4, 2) := by decide +kernel
theorem dX5_usedWithin_45 : decode cX5_usedWithin 45 = .ok (.invokevirtual 93, 3) := by decide +kernel
theorem dX5_usedWithin_48 : decode cX5_usedWithin 48 = .ok (.iadd, 1) := by decide +kernel
theorem dX5_usedWithin_49 : decode cX5_usedWithin 49 = .ok (.istore_n 3, 1) := by decide +kernel
theorem dX5_usedWithin_50 : decode cX5_usedWithin 50 = .ok (.iinc 4 1, 3) := by decide +kernel
theorem dX5_usedWithin_53 : decode cX5_usedWithin 53 = .ok (.goto (-48), 3) := by decide +kernel
theorem dX5_usedWithin_56 : decode cX5_usedWithin 56 = .ok (.iload_n 3, 1) := by decide +kernel
theorem dX5_usedWithin_57 : decode cX5_usedWithin 57 = .ok (.ireturn, 1) := by decide +kernel
theorem dX6_init_0 : decode cX6_init 0 = .ok (.aload_n 0, 1) := by decide +kernel
theorem dX6_init_1 : decode cX6_init 1 = .ok (.invokespecial 3, 3) := by decide +kernel
theorem dX6_init_4 : decode cX6_init 4 = .ok (.aload_n 0, 1) := by decide +kernel
theorem dX6_init_5 : decode cX6_init 5 = .ok (.new 9, 3) := by decide +kernel
theorem dX6_init_8 : decode cX6_init 8 = .ok (.dup, 1) := by decide +kernel
theorem dX6_init_9 : decode cX6_init 9 = .ok (.bipush 30, 2) := by decide +kernel
theorem dX6_init_11 : decode cX6_init 11 = .ok (.invokespecial 11, 3) := by decide +kernel
theorem dX6_init_14 : decode cX6_init 14 = .ok (.putfield 14, 3) := by decide +kernel
theorem dX6_init_17 : decode cX6_init 17 = .ok (.return_, 1) := by decide +kernel
theorem dX6_answer_0 : decode cX6_answer 0 = .ok (.aload_n 0, 1) := by decide +kernel
theorem dX6_answer_1 : decode cX6_answer 1 = .ok (.iload_n 1, 1) := by decide +kernel
theorem dX6_answer_2 : decode cX6_answer 2 = .ok (.putfield 20, 3) := by decide +kernel
theorem dX6_answer_5 : decode cX6_answer 5 = .ok (.aload_n 0, 1) := by decide +kernel
theorem dX6_answer_6 : decode cX6_answer 6 = .ok (.aload_n 2, 1) := by decide +kernel
theorem dX6_answer_7 : decode cX6_answer 7 = .ok (.getfield 24, 3) := by decide +kernel
theorem dX6_answer_10 : decode cX6_answer 10 = .ok (.putfield 29, 3) := by decide +kernel
theorem dX6_answer_13 : decode cX6_answer 13 = .ok (.aload_n 0, 1) := by decide +kernel
theorem dX6_answer_14 : decode cX6_answer 14 = .ok (.aload_n 2, 1) := by decide +kernel
theorem dX6_answer_15 : decode cX6_answer 15 = .ok (.getfield 30, 3) := by decide +kernel
theorem dX6_answer_18 : decode cX6_answer 18 = .ok (.putfield 33, 3) := by decide +kernel
theorem dX6_answer_21 : decode cX6_answer 21 = .ok (.aload_n 0, 1) := by decide +kernel
theorem dX6_answer_22 : decode cX6_answer 22 = .ok (.iconst 0, 1) := by decide +kernel
theorem dX6_answer_23 : decode cX6_answer 23 = .ok (.putfield 34, 3) := by decide +kernel
theorem dX6_answer_26 : decode cX6_answer 26 = .ok (.aload_n 0, 1) := by decide +kernel
theorem dX6_answer_27 : decode cX6_answer 27 = .ok (.getfield 14, 3) := by decide +kernel
theorem dX6_answer_30 : decode cX6_answer 30 = .ok (.iconst 0, 1) := by decide +kernel
theorem dX6_answer_31 : decode cX6_answer 31 = .ok (.putfield 38, 3) := by decide +kernel
theorem dX6_answer_34 : decode cX6_answer 34 = .ok (.aload_n 0, 1) := by decide +kernel
theorem dX6_answer_35 : decode cX6_answer 35 = .ok (.iload_n 3, 1) := by decide +kernel
theorem dX6_answer_36 : decode cX6_answer 36 = .ok (.aload_n 0, 1) := by decide +kernel
theorem dX6_answer_37 : decode cX6_answer 37 = .ok (.getfield 29, 3) := by decide +kernel
theorem dX6_answer_40 : decode cX6_answer 40 = .ok (.iload 4, 2) := by decide +kernel
theorem dX6_answer_42 : decode cX6_answer 42 = .ok (.iconst 0, 1) := by decide +kernel
theorem dX6_answer_43 : decode cX6_answer 43 = .ok (.invokevirtual 41, 3) := by decide +kernel
theorem dX6_answer_46 : decode cX6_answer 46 = .ok (.ireturn, 1) := by decide +kernel
theorem dX6_bodyFrom_0 : decode cX6_bodyFrom 0 = .ok (.iload_n 1, 1) := by decide +kernel
theorem dX6_bodyFrom_1 : decode cX6_bodyFrom 1 = .ok (.istore_n 2, 1) := by decide +kernel
theorem dX6_bodyFrom_2 : decode cX6_bodyFrom 2 = .ok (.iconst 0, 1) := by decide +kernel
theorem dX6_bodyFrom_3 : decode cX6_bodyFrom 3 = .ok (.istore_n 3, 1) := by decide +kernel
theorem dX6_bodyFrom_4 : decode cX6_bodyFrom 4 = .ok (.iload_n 3, 1) := by decide +kernel
theorem dX6_bodyFrom_5 : decode cX6_bodyFrom 5 = .ok (.bipush 7, 2) := by decide +kernel
theorem dX6_bodyFrom_7 : decode cX6_bodyFrom 7 = .ok (.if_icmp .ge 38, 3) := by decide +kernel
theorem dX6_bodyFrom_10 : decode cX6_bodyFrom 10 = .ok (.iload_n 2, 1) := by decide +kernel
theorem dX6_bodyFrom_11 : decode cX6_bodyFrom 11 = .ok (.ifCond .lt 34, 3) := by decide +kernel
theorem dX6_bodyFrom_14 : decode cX6_bodyFrom 14 = .ok (.getstatic 45, 3) := by decide +kernel
theorem dX6_bodyFrom_17 : decode cX6_bodyFrom 17 = .ok (.iload_n 2, 1) := by decide +kernel
theorem dX6_bodyFrom_18 : decode cX6_bodyFrom 18 = .ok (.iconst 4, 1) := by decide +kernel
theorem dX6_bodyFrom_19 : decode cX6_bodyFrom 19 = .ok (.imul, 1) := by decide +kernel
theorem dX6_bodyFrom_20 : decode cX6_bodyFrom 20 = .ok (.iload_n 0, 1) := by decide +kernel
theorem dX6_bodyFrom_21 : decode cX6_bodyFrom 21 = .ok (.iadd, 1) := by decide +kernel
theorem dX6_bodyFrom_22 : decode cX6_bodyFrom 22 = .ok (.iaload, 1) := by decide +kernel
theorem dX6_bodyFrom_23 : decode cX6_bodyFrom 23 = .ok (.istore 4, 2) := by decide +kernel
theorem dX6_bodyFrom_25 : decode cX6_bodyFrom 25 = .ok (.iload 4, 2) := by decide +kernel
theorem dX6_bodyFrom_27 : decode cX6_bodyFrom 27 = .ok (.ifCond .eq 6, 3) := by decide +kernel
theorem dX6_bodyFrom_30 : decode cX6_bodyFrom 30 = .ok (.iload 4, 2) := by decide +kernel
theorem dX6_bodyFrom_32 : decode cX6_bodyFrom 32 = .ok (.ireturn, 1) := by decide +kernel
theorem dX6_bodyFrom_33 : decode cX6_bodyFrom 33 = .ok (.getstatic 49, 3) := by decide +kernel
theorem dX6_bodyFrom_36 : decode cX6_bodyFrom 36 = .ok (.iload_n 2, 1) := by decide +kernel
theorem dX6_bodyFrom_37 : decode cX6_bodyFrom 37 = .ok (.iaload, 1) := by decide +kernel
theorem dX6_bodyFrom_38 : decode cX6_bodyFrom 38 = .ok (.istore_n 2, 1) := by decide +kernel
theorem dX6_bodyFrom_39 : decode cX6_bodyFrom 39 = .ok (.iinc 3 1, 3) := by decide +kernel
theorem dX6_bodyFrom_42 : decode cX6_bodyFrom 42 = .ok (.goto (-38), 3) := by decide +kernel
theorem dX6_bodyFrom_45 : decode cX6_bodyFrom 45 = .ok (.iconst 0, 1) := by decide +kernel
theorem dX6_bodyFrom_46 : decode cX6_bodyFrom 46 = .ok (.ireturn, 1) := by decide +kernel
theorem dX6_speak_0 : decode cX6_speak 0 = .ok (.iload_n 1, 1) := by decide +kernel
theorem dX6_speak_1 : decode cX6_speak 1 = .ok (.iload_n 2, 1) := by decide +kernel
theorem dX6_speak_2 : decode cX6_speak 2 = .ok (.invokestatic 52, 3) := by decide +kernel
theorem dX6_speak_5 : decode cX6_speak 5 = .ok (.istore 5, 2) := by decide +kernel
theorem dX6_speak_7 : decode cX6_speak 7 = .ok (.iload 4, 2) := by decide +kernel
theorem dX6_speak_9 : decode cX6_speak 9 = .ok (.bipush 30, 2) := by decide +kernel
theorem dX6_speak_11 : decode cX6_speak 11 = .ok (.if_icmp .gt 15, 3) := by decide +kernel
theorem dX6_speak_14 : decode cX6_speak 14 = .ok (.aload_n 0, 1) := by decide +kernel
theorem dX6_speak_15 : decode cX6_speak 15 = .ok (.getfield 34, 3) := by decide +kernel
theorem dX6_speak_18 : decode cX6_speak 18 = .ok (.ifCond .ne 8, 3) := by decide +kernel
theorem dX6_speak_21 : decode cX6_speak 21 = .ok (.iload 5, 2) := by decide +kernel
theorem dX6_speak_23 : decode cX6_speak 23 = .ok (.ifCond .ne 5, 3) := by decide +kernel
theorem dX6_speak_26 : decode cX6_speak 26 = .ok (.iconst 0, 1) := by decide +kernel
theorem dX6_speak_27 : decode cX6_speak 27 = .ok (.ireturn, 1) := by decide +kernel
theorem dX6_speak_28 : decode cX6_speak 28 = .ok (.aload_n 0, 1) := by decide +kernel
theorem dX6_speak_29 : decode cX6_speak 29 = .ok (.getfield 14, 3) := by decide +kernel
theorem dX6_speak_32 : decode cX6_speak 32 = .ok (.iload 5, 2) := by decide +kernel
theorem dX6_speak_34 : decode cX6_speak 34 = .ok (.invokevirtual 56, 3) := by decide +kernel
theorem dX6_speak_37 : decode cX6_speak 37 = .ok (.getstatic 49, 3) := by decide +kernel
theorem dX6_speak_40 : decode cX6_speak 40 = .ok (.iload 5, 2) := by decide +kernel
theorem dX6_speak_42 : decode cX6_speak 42 = .ok (.bipush 10, 2) := by decide +kernel
theorem dX6_speak_44 : decode cX6_speak 44 = .ok (.idiv, 1) := by decide +kernel
theorem dX6_speak_45 : decode cX6_speak 45 = .ok (.iconst 1, 1) := by decide +kernel
theorem dX6_speak_46 : decode cX6_speak 46 = .ok (.isub, 1) := by decide +kernel
theorem dX6_speak_47 : decode cX6_speak 47 = .ok (.iaload, 1) := by decide +kernel
theorem dX6_speak_48 : decode cX6_speak 48 = .ok (.istore 6, 2) := by decide +kernel
theorem dX6_speak_50 : decode cX6_speak 50 = .ok (.iload 4, 2) := by decide +kernel
theorem dX6_speak_52 : decode cX6_speak 52 = .ok (.iconst 1, 1) := by decide +kernel
theorem dX6_speak_53 : decode cX6_speak 53 = .ok (.iadd, 1) := by decide +kernel
theorem dX6_speak_54 : decode cX6_speak 54 = .ok (.istore 7, 2) := by decide +kernel
theorem dX6_speak_56 : decode cX6_speak 56 = .ok (.iload 5, 2) := by decide +kernel
theorem dX6_speak_58 : decode cX6_speak 58 = .ok (.lookupswitch 293 #[(10, 114), (11, 121), (12, 136), (13, 154), (20, 169), (21, 182), (30, 206), (40, 219), (50, 232), (51, 245), (60, 261), (70, 274), (71, 277)], 114) := by decide +kernel
theorem dX6_speak_172 : decode cX6_speak 172 = .ok (.iload_n 3, 1) := by decide +kernel
theorem dX6_speak_173 : decode cX6_speak 173 = .ok (.aload_n 0, 1) := by decide +kernel
theorem dX6_speak_174 : decode cX6_speak 174 = .ok (.getfield 20, 3) := by decide +kernel
theorem dX6_speak_177 : decode cX6_speak 177 = .ok (.iadd, 1) := by decide +kernel
theorem dX6_speak_178 : decode cX6_speak 178 = .ok (.ireturn, 1) := by decide +kernel
theorem dX6_speak_179 : decode cX6_speak 179 = .ok (.aload_n 0, 1) := by decide +kernel
theorem dX6_speak_180 : decode cX6_speak 180 = .ok (.iconst 0, 1) := by decide +kernel
theorem dX6_speak_181 : decode cX6_speak 181 = .ok (.aload_n 0, 1) := by decide +kernel
theorem dX6_speak_182 : decode cX6_speak 182 = .ok (.getfield 29, 3) := by decide +kernel
theorem dX6_speak_185 : decode cX6_speak 185 = .ok (.iload_n 3, 1) := by decide +kernel
theorem dX6_speak_186 : decode cX6_speak 186 = .ok (.iload 7, 2) := by decide +kernel
theorem dX6_speak_188 : decode cX6_speak 188 = .ok (.invokevirtual 41, 3) := by decide +kernel
theorem dX6_speak_191 : decode cX6_speak 191 = .ok (.iconst 2, 1) := by decide +kernel
theorem dX6_speak_192 : decode cX6_speak 192 = .ok (.imul, 1) := by decide +kernel
theorem dX6_speak_193 : decode cX6_speak 193 = .ok (.ireturn, 1) := by decide +kernel
theorem dX6_speak_194 : decode cX6_speak 194 = .ok (.aload_n 0, 1) := by decide +kernel
theorem dX6_speak_195 : decode cX6_speak 195 = .ok (.iconst 1, 1) := by decide +kernel
theorem dX6_speak_196 : decode cX6_speak 196 = .ok (.aload_n 0, 1) := by decide +kernel
theorem dX6_speak_197 : decode cX6_speak 197 = .ok (.getfield 29, 3) := by decide +kernel
theorem dX6_speak_200 : decode cX6_speak 200 = .ok (.iload_n 3, 1) := by decide +kernel
theorem dX6_speak_201 : decode cX6_speak 201 = .ok (.iload 7, 2) := by decide +kernel
theorem dX6_speak_203 : decode cX6_speak 203 = .ok (.invokevirtual 41, 3) := by decide +kernel
theorem dX6_speak_206 : decode cX6_speak 206 = .ok (.aload_n 0, 1) := by decide +kernel
theorem dX6_speak_207 : decode cX6_speak 207 = .ok (.getfield 33, 3) := by decide +kernel
theorem dX6_speak_210 : decode cX6_speak 210 = .ok (.isub, 1) := by decide +kernel
theorem dX6_speak_211 : decode cX6_speak 211 = .ok (.ireturn, 1) := by decide +kernel
theorem dX6_speak_212 : decode cX6_speak 212 = .ok (.aload_n 0, 1) := by decide +kernel
theorem dX6_speak_213 : decode cX6_speak 213 = .ok (.iload_n 3, 1) := by decide +kernel
theorem dX6_speak_214 : decode cX6_speak 214 = .ok (.aload_n 0, 1) := by decide +kernel
theorem dX6_speak_215 : decode cX6_speak 215 = .ok (.getfield 33, 3) := by decide +kernel
theorem dX6_speak_218 : decode cX6_speak 218 = .ok (.aload_n 0, 1) := by decide +kernel
theorem dX6_speak_219 : decode cX6_speak 219 = .ok (.getfield 20, 3) := by decide +kernel
theorem dX6_speak_222 : decode cX6_speak 222 = .ok (.isub, 1) := by decide +kernel
theorem dX6_speak_223 : decode cX6_speak 223 = .ok (.invokevirtual 59, 3) := by decide +kernel
theorem dX6_speak_226 : decode cX6_speak 226 = .ok (.ireturn, 1) := by decide +kernel
theorem dX6_speak_227 : decode cX6_speak 227 = .ok (.aload_n 0, 1) := by decide +kernel
theorem dX6_speak_228 : decode cX6_speak 228 = .ok (.iconst 0, 1) := by decide +kernel
theorem dX6_speak_229 : decode cX6_speak 229 = .ok (.iload 6, 2) := by decide +kernel
theorem dX6_speak_231 : decode cX6_speak 231 = .ok (.iload_n 3, 1) := by decide +kernel
theorem dX6_speak_232 : decode cX6_speak 232 = .ok (.iload 7, 2) := by decide +kernel
theorem dX6_speak_234 : decode cX6_speak 234 = .ok (.invokevirtual 41, 3) := by decide +kernel
theorem dX6_speak_237 : decode cX6_speak 237 = .ok (.iconst 4, 1) := by decide +kernel
theorem dX6_speak_238 : decode cX6_speak 238 = .ok (.isub, 1) := by decide +kernel
theorem dX6_speak_239 : decode cX6_speak 239 = .ok (.ireturn, 1) := by decide +kernel
theorem dX6_speak_240 : decode cX6_speak 240 = .ok (.aload_n 0, 1) := by decide +kernel
theorem dX6_speak_241 : decode cX6_speak 241 = .ok (.iconst 3, 1) := by decide +kernel
theorem dX6_speak_242 : decode cX6_speak 242 = .ok (.iload 6, 2) := by decide +kernel
theorem dX6_speak_244 : decode cX6_speak 244 = .ok (.iload_n 3, 1) := by decide +kernel
theorem dX6_speak_245 : decode cX6_speak 245 = .ok (.iload 7, 2) := by decide +kernel
theorem dX6_speak_247 : decode cX6_speak 247 = .ok (.invokevirtual 41, 3) := by decide +kernel
theorem dX6_speak_250 : decode cX6_speak 250 = .ok (.aload_n 0, 1) := by decide +kernel
theorem dX6_speak_251 : decode cX6_speak 251 = .ok (.iconst 1, 1) := by decide +kernel
theorem dX6_speak_252 : decode cX6_speak 252 = .ok (.aload_n 0, 1) := by decide +kernel
theorem dX6_speak_253 : decode cX6_speak 253 = .ok (.getfield 29, 3) := by decide +kernel
theorem dX6_speak_256 : decode cX6_speak 256 = .ok (.iconst 1, 1) := by decide +kernel
theorem dX6_speak_257 : decode cX6_speak 257 = .ok (.iload 7, 2) := by decide +kernel
theorem dX6_speak_259 : decode cX6_speak 259 = .ok (.invokevirtual 41, 3) := by decide +kernel
theorem dX6_speak_262 : decode cX6_speak 262 = .ok (.iadd, 1) := by decide +kernel
theorem dX6_speak_263 : decode cX6_speak 263 = .ok (.ireturn, 1) := by decide +kernel
theorem dX6_speak_264 : decode cX6_speak 264 = .ok (.iconst 0, 1) := by decide +kernel
theorem dX6_speak_265 : decode cX6_speak 265 = .ok (.aload_n 0, 1) := by decide +kernel
theorem dX6_speak_266 : decode cX6_speak 266 = .ok (.iconst 1, 1) := by decide +kernel
theorem dX6_speak_267 : decode cX6_speak 267 = .ok (.iload 6, 2) := by decide +kernel
theorem dX6_speak_269 : decode cX6_speak 269 = .ok (.iload_n 3, 1) := by decide +kernel
theorem dX6_speak_270 : decode cX6_speak 270 = .ok (.iload 7, 2) := by decide +kernel
theorem dX6_speak_272 : decode cX6_speak 272 = .ok (.invokevirtual 41, 3) := by decide +kernel
theorem dX6_speak_275 : decode cX6_speak 275 = .ok (.isub, 1) := by decide +kernel
theorem dX6_speak_276 : decode cX6_speak 276 = .ok (.ireturn, 1) := by decide +kernel
theorem dX6_speak_277 : decode cX6_speak 277 = .ok (.aload_n 0, 1) := by decide +kernel
theorem dX6_speak_278 : decode cX6_speak 278 = .ok (.iconst 2, 1) := by decide +kernel
theorem dX6_speak_279 : decode cX6_speak 279 = .ok (.iload 6, 2) := by decide +kernel
theorem dX6_speak_281 : decode cX6_speak 281 = .ok (.iload_n 3, 1) := by decide +kernel
theorem dX6_speak_282 : decode cX6_speak 282 = .ok (.iconst 2, 1) := by decide +kernel
theorem dX6_speak_283 : decode cX6_speak 283 = .ok (.idiv, 1) := by decide +kernel
theorem dX6_speak_284 : decode cX6_speak 284 = .ok (.iload 7, 2) := by decide +kernel
theorem dX6_speak_286 : decode cX6_speak 286 = .ok (.invokevirtual 41, 3) := by decide +kernel
theorem dX6_speak_289 : decode cX6_speak 289 = .ok (.ireturn, 1) := by decide +kernel
theorem dX6_speak_290 : decode cX6_speak 290 = .ok (.aload_n 0, 1) := by decide +kernel
theorem dX6_speak_291 : decode cX6_speak 291 = .ok (.iconst 0, 1) := by decide +kernel
theorem dX6_speak_292 : decode cX6_speak 292 = .ok (.iload 6, 2) := by decide +kernel
theorem dX6_speak_294 : decode cX6_speak 294 = .ok (.iload_n 3, 1) := by decide +kernel
theorem dX6_speak_295 : decode cX6_speak 295 = .ok (.iload 7, 2) := by decide +kernel
theorem dX6_speak_297 : decode cX6_speak 297 = .ok (.invokevirtual 41, 3) := by decide +kernel
theorem dX6_speak_300 : decode cX6_speak 300 = .ok (.iconst 3, 1) := by decide +kernel
theorem dX6_speak_301 : decode cX6_speak 301 = .ok (.imul, 1) := by decide +kernel
theorem dX6_speak_302 : decode cX6_speak 302 = .ok (.ireturn, 1) := by decide +kernel
theorem dX6_speak_303 : decode cX6_speak 303 = .ok (.aload_n 0, 1) := by decide +kernel
theorem dX6_speak_304 : decode cX6_speak 304 = .ok (.iconst 2, 1) := by decide +kernel
theorem dX6_speak_305 : decode cX6_speak 305 = .ok (.iload 6, 2) := by decide +kernel
theorem dX6_speak_307 : decode cX6_speak 307 = .ok (.iload_n 3, 1) := by decide +kernel
theorem dX6_speak_308 : decode cX6_speak 308 = .ok (.iload 7, 2) := by decide +kernel
theorem dX6_speak_310 : decode cX6_speak 310 = .ok (.invokevirtual 41, 3) := by decide +kernel
theorem dX6_speak_313 : decode cX6_speak 313 = .ok (.aload_n 0, 1) := by decide +kernel
theorem dX6_speak_314 : decode cX6_speak 314 = .ok (.getfield 20, 3) := by decide +kernel
theorem dX6_speak_317 : decode cX6_speak 317 = .ok (.ixor, 1) := by decide +kernel
theorem dX6_speak_318 : decode cX6_speak 318 = .ok (.ireturn, 1) := by decide +kernel
theorem dX6_speak_319 : decode cX6_speak 319 = .ok (.aload_n 0, 1) := by decide +kernel
theorem dX6_speak_320 : decode cX6_speak 320 = .ok (.iconst 1, 1) := by decide +kernel
theorem dX6_speak_321 : decode cX6_speak 321 = .ok (.iload 6, 2) := by decide +kernel
theorem dX6_speak_323 : decode cX6_speak 323 = .ok (.iload_n 3, 1) := by decide +kernel
theorem dX6_speak_324 : decode cX6_speak 324 = .ok (.iconst 1, 1) := by decide +kernel
theorem dX6_speak_325 : decode cX6_speak 325 = .ok (.iadd, 1) := by decide +kernel
theorem dX6_speak_326 : decode cX6_speak 326 = .ok (.iload 7, 2) := by decide +kernel
theorem dX6_speak_328 : decode cX6_speak 328 = .ok (.invokevirtual 41, 3) := by decide +kernel
theorem dX6_speak_331 : decode cX6_speak 331 = .ok (.ireturn, 1) := by decide +kernel
theorem dX6_speak_332 : decode cX6_speak 332 = .ok (.bipush 9, 2) := by decide +kernel
theorem dX6_speak_334 : decode cX6_speak 334 = .ok (.ireturn, 1) := by decide +kernel
theorem dX6_speak_335 : decode cX6_speak 335 = .ok (.aload_n 0, 1) := by decide +kernel
theorem dX6_speak_336 : decode cX6_speak 336 = .ok (.iconst 1, 1) := by decide +kernel
theorem dX6_speak_337 : decode cX6_speak 337 = .ok (.iload 6, 2) := by decide +kernel
theorem dX6_speak_339 : decode cX6_speak 339 = .ok (.iload_n 3, 1) := by decide +kernel
theorem dX6_speak_340 : decode cX6_speak 340 = .ok (.iload 7, 2) := by decide +kernel
theorem dX6_speak_342 : decode cX6_speak 342 = .ok (.invokevirtual 41, 3) := by decide +kernel
theorem dX6_speak_345 : decode cX6_speak 345 = .ok (.aload_n 0, 1) := by decide +kernel
theorem dX6_speak_346 : decode cX6_speak 346 = .ok (.getfield 33, 3) := by decide +kernel
theorem dX6_speak_349 : decode cX6_speak 349 = .ok (.iadd, 1) := by decide +kernel
theorem dX6_speak_350 : decode cX6_speak 350 = .ok (.ireturn, 1) := by decide +kernel
theorem dX6_speak_351 : decode cX6_speak 351 = .ok (.iconst 0, 1) := by decide +kernel
theorem dX6_speak_352 : decode cX6_speak 352 = .ok (.ireturn, 1) := by decide +kernel
theorem dX6_partedBy_0 : decode cX6_partedBy 0 = .ok (.iload_n 2, 1) := by decide +kernel
theorem dX6_partedBy_1 : decode cX6_partedBy 1 = .ok (.ifCond .ne 10, 3) := by decide +kernel
theorem dX6_partedBy_4 : decode cX6_partedBy 4 = .ok (.aload_n 0, 1) := by decide +kernel
theorem dX6_partedBy_5 : decode cX6_partedBy 5 = .ok (.iconst 1, 1) := by decide +kernel
theorem dX6_partedBy_6 : decode cX6_partedBy 6 = .ok (.putfield 34, 3) := by decide +kernel
theorem dX6_partedBy_9 : decode cX6_partedBy 9 = .ok (.iconst 0, 1) := by decide +kernel
theorem dX6_partedBy_10 : decode cX6_partedBy 10 = .ok (.ireturn, 1) := by decide +kernel
theorem dX6_partedBy_11 : decode cX6_partedBy 11 = .ok (.iload_n 1, 1) := by decide +kernel
theorem dX6_partedBy_12 : decode cX6_partedBy 12 = .ok (.iload_n 2, 1) := by decide +kernel
theorem dX6_partedBy_13 : decode cX6_partedBy 13 = .ok (.idiv, 1) := by decide +kernel
theorem dX6_partedBy_14 : decode cX6_partedBy 14 = .ok (.ireturn, 1) := by decide +kernel
theorem dJ0_length_8abf5_0 : decode cJ0_length_8abf5 0 = .ok (.aload_n 0, 1) := by decide +kernel
theorem dJ0_length_8abf5_1 : decode cJ0_length_8abf5 1 = .ok (.getfield 9, 3) := by decide +kernel
theorem dJ0_length_8abf5_4 : decode cJ0_length_8abf5 4 = .ok (.arraylength, 1) := by decide +kernel
theorem dJ0_length_8abf5_5 : decode cJ0_length_8abf5 5 = .ok (.aload_n 0, 1) := by decide +kernel
theorem dJ0_length_8abf5_6 : decode cJ0_length_8abf5 6 = .ok (.invokevirtual 335, 3) := by decide +kernel
theorem dJ0_length_8abf5_9 : decode cJ0_length_8abf5 9 = .ok (.ishr, 1) := by decide +kernel
theorem dJ0_length_8abf5_10 : decode cJ0_length_8abf5 10 = .ok (.ireturn, 1) := by decide +kernel
theorem dJ0_indexOf_0f7a4_0 : decode cJ0_indexOf_0f7a4 0 = .ok (.aload_n 0, 1) := by decide +kernel
theorem dJ0_indexOf_0f7a4_1 : decode cJ0_indexOf_0f7a4 1 = .ok (.iload_n 1, 1) := by decide +kernel
theorem dJ0_indexOf_0f7a4_2 : decode cJ0_indexOf_0f7a4 2 = .ok (.iconst 0, 1) := by decide +kernel
theorem dJ0_indexOf_0f7a4_3 : decode cJ0_indexOf_0f7a4 3 = .ok (.invokevirtual 633, 3) := by decide +kernel
theorem dJ0_indexOf_0f7a4_6 : decode cJ0_indexOf_0f7a4 6 = .ok (.ireturn, 1) := by decide +kernel
theorem dJ0_indexOf_7cf53_0 : decode cJ0_indexOf_7cf53 0 = .ok (.aload_n 0, 1) := by decide +kernel
theorem dJ0_indexOf_7cf53_1 : decode cJ0_indexOf_7cf53 1 = .ok (.invokevirtual 492, 3) := by decide +kernel
theorem dJ0_indexOf_7cf53_4 : decode cJ0_indexOf_7cf53 4 = .ok (.ifCond .eq 19, 3) := by decide +kernel
theorem dJ0_indexOf_7cf53_7 : decode cJ0_indexOf_7cf53 7 = .ok (.aload_n 0, 1) := by decide +kernel
theorem dJ0_indexOf_7cf53_8 : decode cJ0_indexOf_7cf53 8 = .ok (.getfield 9, 3) := by decide +kernel
theorem dJ0_indexOf_7cf53_11 : decode cJ0_indexOf_7cf53 11 = .ok (.iload_n 1, 1) := by decide +kernel
theorem dJ0_indexOf_7cf53_12 : decode cJ0_indexOf_7cf53 12 = .ok (.iload_n 2, 1) := by decide +kernel
theorem dJ0_indexOf_7cf53_13 : decode cJ0_indexOf_7cf53 13 = .ok (.aload_n 0, 1) := by decide +kernel
theorem dJ0_indexOf_7cf53_14 : decode cJ0_indexOf_7cf53 14 = .ok (.invokevirtual 505, 3) := by decide +kernel
theorem dJ0_indexOf_7cf53_17 : decode cJ0_indexOf_7cf53 17 = .ok (.invokestatic 637, 3) := by decide +kernel
theorem dJ0_indexOf_7cf53_20 : decode cJ0_indexOf_7cf53 20 = .ok (.goto 16, 3) := by decide +kernel
theorem dJ0_indexOf_7cf53_23 : decode cJ0_indexOf_7cf53 23 = .ok (.aload_n 0, 1) := by decide +kernel
theorem dJ0_indexOf_7cf53_24 : decode cJ0_indexOf_7cf53 24 = .ok (.getfield 9, 3) := by decide +kernel
theorem dJ0_indexOf_7cf53_27 : decode cJ0_indexOf_7cf53 27 = .ok (.iload_n 1, 1) := by decide +kernel
theorem dJ0_indexOf_7cf53_28 : decode cJ0_indexOf_7cf53 28 = .ok (.iload_n 2, 1) := by decide +kernel
theorem dJ0_indexOf_7cf53_29 : decode cJ0_indexOf_7cf53 29 = .ok (.aload_n 0, 1) := by decide +kernel
theorem dJ0_indexOf_7cf53_30 : decode cJ0_indexOf_7cf53 30 = .ok (.invokevirtual 505, 3) := by decide +kernel
theorem dJ0_indexOf_7cf53_33 : decode cJ0_indexOf_7cf53 33 = .ok (.invokestatic 640, 3) := by decide +kernel
theorem dJ0_indexOf_7cf53_36 : decode cJ0_indexOf_7cf53 36 = .ok (.ireturn, 1) := by decide +kernel
theorem dJ0_coder_7d493_0 : decode cJ0_coder_7d493 0 = .ok (.getstatic 38, 3) := by decide +kernel
theorem dJ0_coder_7d493_3 : decode cJ0_coder_7d493 3 = .ok (.ifCond .eq 10, 3) := by decide +kernel
theorem dJ0_coder_7d493_6 : decode cJ0_coder_7d493 6 = .ok (.aload_n 0, 1) := by decide +kernel
theorem dJ0_coder_7d493_7 : decode cJ0_coder_7d493 7 = .ok (.getfield 15, 3) := by decide +kernel
theorem dJ0_coder_7d493_10 : decode cJ0_coder_7d493 10 = .ok (.goto 4, 3) := by decide +kernel
theorem dJ0_coder_7d493_13 : decode cJ0_coder_7d493 13 = .ok (.iconst 1, 1) := by decide +kernel
theorem dJ0_coder_7d493_14 : decode cJ0_coder_7d493 14 = .ok (.ireturn, 1) := by decide +kernel
theorem dJ0_isLatin1_aae02_0 : decode cJ0_isLatin1_aae02 0 = .ok (.getstatic 38, 3) := by decide +kernel
theorem dJ0_isLatin1_aae02_3 : decode cJ0_isLatin1_aae02 3 = .ok (.ifCond .eq 14, 3) := by decide +kernel
theorem dJ0_isLatin1_aae02_6 : decode cJ0_isLatin1_aae02 6 = .ok (.aload_n 0, 1) := by decide +kernel
theorem dJ0_isLatin1_aae02_7 : decode cJ0_isLatin1_aae02 7 = .ok (.getfield 15, 3) := by decide +kernel
theorem dJ0_isLatin1_aae02_10 : decode cJ0_isLatin1_aae02 10 = .ok (.ifCond .ne 7, 3) := by decide +kernel
theorem dJ0_isLatin1_aae02_13 : decode cJ0_isLatin1_aae02 13 = .ok (.iconst 1, 1) := by decide +kernel
theorem dJ0_isLatin1_aae02_14 : decode cJ0_isLatin1_aae02 14 = .ok (.goto 4, 3) := by decide +kernel
theorem dJ0_isLatin1_aae02_17 : decode cJ0_isLatin1_aae02 17 = .ok (.iconst 0, 1) := by decide +kernel
theorem dJ0_isLatin1_aae02_18 : decode cJ0_isLatin1_aae02 18 = .ok (.ireturn, 1) := by decide +kernel
theorem dJ0_checkBoundsBeginEnd_23922_0 : decode cJ0_checkBoundsBeginEnd_23922 0 = .ok (.iload_n 0, 1) := by decide +kernel
theorem dJ0_checkBoundsBeginEnd_23922_1 : decode cJ0_checkBoundsBeginEnd_23922 1 = .ok (.iload_n 1, 1) := by decide +kernel
theorem dJ0_checkBoundsBeginEnd_23922_2 : decode cJ0_checkBoundsBeginEnd_23922 2 = .ok (.iload_n 2, 1) := by decide +kernel
theorem dJ0_checkBoundsBeginEnd_23922_3 : decode cJ0_checkBoundsBeginEnd_23922 3 = .ok (.getstatic 1053, 3) := by decide +kernel
theorem dJ0_checkBoundsBeginEnd_23922_6 : decode cJ0_checkBoundsBeginEnd_23922 6 = .ok (.invokestatic 1062, 3) := by decide +kernel
theorem dJ0_checkBoundsBeginEnd_23922_9 : decode cJ0_checkBoundsBeginEnd_23922 9 = .ok (.pop, 1) := by decide +kernel
theorem dJ0_checkBoundsBeginEnd_23922_10 : decode cJ0_checkBoundsBeginEnd_23922 10 = .ok (.return_, 1) := by decide +kernel
theorem dJ1_canEncode_9a6ad_0 : decode cJ1_canEncode_9a6ad 0 = .ok (.iload_n 0, 1) := by decide +kernel
theorem dJ1_canEncode_9a6ad_1 : decode cJ1_canEncode_9a6ad 1 = .ok (.ifCond .lt 14, 3) := by decide +kernel
theorem dJ1_canEncode_9a6ad_4 : decode cJ1_canEncode_9a6ad 4 = .ok (.iload_n 0, 1) := by decide +kernel
theorem dJ1_canEncode_9a6ad_5 : decode cJ1_canEncode_9a6ad 5 = .ok (.sipush 255, 3) := by decide +kernel
theorem dJ1_canEncode_9a6ad_8 : decode cJ1_canEncode_9a6ad 8 = .ok (.if_icmp .gt 7, 3) := by decide +kernel
theorem dJ1_canEncode_9a6ad_11 : decode cJ1_canEncode_9a6ad 11 = .ok (.iconst 1, 1) := by decide +kernel
theorem dJ1_canEncode_9a6ad_12 : decode cJ1_canEncode_9a6ad 12 = .ok (.goto 4, 3) := by decide +kernel
theorem dJ1_canEncode_9a6ad_15 : decode cJ1_canEncode_9a6ad 15 = .ok (.iconst 0, 1) := by decide +kernel
theorem dJ1_canEncode_9a6ad_16 : decode cJ1_canEncode_9a6ad 16 = .ok (.ireturn, 1) := by decide +kernel
theorem dJ1_indexOf_4cfef_0 : decode cJ1_indexOf_4cfef 0 = .ok (.iload_n 1, 1) := by decide +kernel
theorem dJ1_indexOf_4cfef_1 : decode cJ1_indexOf_4cfef 1 = .ok (.invokestatic 88, 3) := by decide +kernel
theorem dJ1_indexOf_4cfef_4 : decode cJ1_indexOf_4cfef 4 = .ok (.ifCond .ne 5, 3) := by decide +kernel
theorem dJ1_indexOf_4cfef_7 : decode cJ1_indexOf_4cfef 7 = .ok (.iconst (-1), 1) := by decide +kernel
theorem dJ1_indexOf_4cfef_8 : decode cJ1_indexOf_4cfef 8 = .ok (.ireturn, 1) := by decide +kernel
theorem dJ1_indexOf_4cfef_9 : decode cJ1_indexOf_4cfef 9 = .ok (.iload_n 2, 1) := by decide +kernel
theorem dJ1_indexOf_4cfef_10 : decode cJ1_indexOf_4cfef 10 = .ok (.iconst 0, 1) := by decide +kernel
theorem dJ1_indexOf_4cfef_11 : decode cJ1_indexOf_4cfef 11 = .ok (.invokestatic 92, 3) := by decide +kernel
theorem dJ1_indexOf_4cfef_14 : decode cJ1_indexOf_4cfef 14 = .ok (.istore_n 2, 1) := by decide +kernel
theorem dJ1_indexOf_4cfef_15 : decode cJ1_indexOf_4cfef 15 = .ok (.iload_n 3, 1) := by decide +kernel
theorem dJ1_indexOf_4cfef_16 : decode cJ1_indexOf_4cfef 16 = .ok (.aload_n 0, 1) := by decide +kernel
theorem dJ1_indexOf_4cfef_17 : decode cJ1_indexOf_4cfef 17 = .ok (.arraylength, 1) := by decide +kernel
theorem dJ1_indexOf_4cfef_18 : decode cJ1_indexOf_4cfef 18 = .ok (.invokestatic 38, 3) := by decide +kernel
theorem dJ1_indexOf_4cfef_21 : decode cJ1_indexOf_4cfef 21 = .ok (.istore_n 3, 1) := by decide +kernel
theorem dJ1_indexOf_4cfef_22 : decode cJ1_indexOf_4cfef 22 = .ok (.iload_n 2, 1) := by decide +kernel
theorem dJ1_indexOf_4cfef_23 : decode cJ1_indexOf_4cfef 23 = .ok (.iload_n 3, 1) := by decide +kernel
theorem dJ1_indexOf_4cfef_24 : decode cJ1_indexOf_4cfef 24 = .ok (.if_icmp .lt 5, 3) := by decide +kernel
theorem dJ1_indexOf_4cfef_27 : decode cJ1_indexOf_4cfef 27 = .ok (.iconst (-1), 1) := by decide +kernel
theorem dJ1_indexOf_4cfef_28 : decode cJ1_indexOf_4cfef 28 = .ok (.ireturn, 1) := by decide +kernel
theorem dJ1_indexOf_4cfef_29 : decode cJ1_indexOf_4cfef 29 = .ok (.aload_n 0, 1) := by decide +kernel
theorem dJ1_indexOf_4cfef_30 : decode cJ1_indexOf_4cfef 30 = .ok (.iload_n 1, 1) := by decide +kernel
theorem dJ1_indexOf_4cfef_31 : decode cJ1_indexOf_4cfef 31 = .ok (.iload_n 2, 1) := by decide +kernel
theorem dJ1_indexOf_4cfef_32 : decode cJ1_indexOf_4cfef 32 = .ok (.iload_n 3, 1) := by decide +kernel
theorem dJ1_indexOf_4cfef_33 : decode cJ1_indexOf_4cfef 33 = .ok (.invokestatic 95, 3) := by decide +kernel
theorem dJ1_indexOf_4cfef_36 : decode cJ1_indexOf_4cfef 36 = .ok (.ireturn, 1) := by decide +kernel
theorem dJ1_indexOfChar_4cfef_0 : decode cJ1_indexOfChar_4cfef 0 = .ok (.iload_n 1, 1) := by decide +kernel
theorem dJ1_indexOfChar_4cfef_1 : decode cJ1_indexOfChar_4cfef 1 = .ok (.i2b, 1) := by decide +kernel
theorem dJ1_indexOfChar_4cfef_2 : decode cJ1_indexOfChar_4cfef 2 = .ok (.istore 4, 2) := by decide +kernel
theorem dJ1_indexOfChar_4cfef_4 : decode cJ1_indexOfChar_4cfef 4 = .ok (.iload_n 2, 1) := by decide +kernel
theorem dJ1_indexOfChar_4cfef_5 : decode cJ1_indexOfChar_4cfef 5 = .ok (.istore 5, 2) := by decide +kernel
theorem dJ1_indexOfChar_4cfef_7 : decode cJ1_indexOfChar_4cfef 7 = .ok (.iload 5, 2) := by decide +kernel
theorem dJ1_indexOfChar_4cfef_9 : decode cJ1_indexOfChar_4cfef 9 = .ok (.iload_n 3, 1) := by decide +kernel
theorem dJ1_indexOfChar_4cfef_10 : decode cJ1_indexOfChar_4cfef 10 = .ok (.if_icmp .ge 21, 3) := by decide +kernel
theorem dJ1_indexOfChar_4cfef_13 : decode cJ1_indexOfChar_4cfef 13 = .ok (.aload_n 0, 1) := by decide +kernel
theorem dJ1_indexOfChar_4cfef_14 : decode cJ1_indexOfChar_4cfef 14 = .ok (.iload 5, 2) := by decide +kernel
theorem dJ1_indexOfChar_4cfef_16 : decode cJ1_indexOfChar_4cfef 16 = .ok (.baload, 1) := by decide +kernel
theorem dJ1_indexOfChar_4cfef_17 : decode cJ1_indexOfChar_4cfef 17 = .ok (.iload 4, 2) := by decide +kernel
theorem dJ1_indexOfChar_4cfef_19 : decode cJ1_indexOfChar_4cfef 19 = .ok (.if_icmp .ne 6, 3) := by decide +kernel
theorem dJ1_indexOfChar_4cfef_22 : decode cJ1_indexOfChar_4cfef 22 = .ok (.iload 5, 2) := by decide +kernel
theorem dJ1_indexOfChar_4cfef_24 : decode cJ1_indexOfChar_4cfef 24 = .ok (.ireturn, 1) := by decide +kernel
theorem dJ1_indexOfChar_4cfef_25 : decode cJ1_indexOfChar_4cfef 25 = .ok (.iinc 5 1, 3) := by decide +kernel
theorem dJ1_indexOfChar_4cfef_28 : decode cJ1_indexOfChar_4cfef 28 = .ok (.goto (-21), 3) := by decide +kernel
theorem dJ1_indexOfChar_4cfef_31 : decode cJ1_indexOfChar_4cfef 31 = .ok (.iconst (-1), 1) := by decide +kernel
theorem dJ1_indexOfChar_4cfef_32 : decode cJ1_indexOfChar_4cfef 32 = .ok (.ireturn, 1) := by decide +kernel
theorem dJ6_bitCount_0f7a4_0 : decode cJ6_bitCount_0f7a4 0 = .ok (.iload_n 0, 1) := by decide +kernel
theorem dJ6_bitCount_0f7a4_1 : decode cJ6_bitCount_0f7a4 1 = .ok (.iload_n 0, 1) := by decide +kernel
theorem dJ6_bitCount_0f7a4_2 : decode cJ6_bitCount_0f7a4 2 = .ok (.iconst 1, 1) := by decide +kernel
theorem dJ6_bitCount_0f7a4_3 : decode cJ6_bitCount_0f7a4 3 = .ok (.iushr, 1) := by decide +kernel
theorem dJ6_bitCount_0f7a4_4 : decode cJ6_bitCount_0f7a4 4 = .ok (.ldc_w 265, 3) := by decide +kernel
theorem dJ6_bitCount_0f7a4_7 : decode cJ6_bitCount_0f7a4 7 = .ok (.iand, 1) := by decide +kernel
theorem dJ6_bitCount_0f7a4_8 : decode cJ6_bitCount_0f7a4 8 = .ok (.isub, 1) := by decide +kernel
theorem dJ6_bitCount_0f7a4_9 : decode cJ6_bitCount_0f7a4 9 = .ok (.istore_n 0, 1) := by decide +kernel
theorem dJ6_bitCount_0f7a4_10 : decode cJ6_bitCount_0f7a4 10 = .ok (.iload_n 0, 1) := by decide +kernel
theorem dJ6_bitCount_0f7a4_11 : decode cJ6_bitCount_0f7a4 11 = .ok (.ldc_w 266, 3) := by decide +kernel
theorem dJ6_bitCount_0f7a4_14 : decode cJ6_bitCount_0f7a4 14 = .ok (.iand, 1) := by decide +kernel
theorem dJ6_bitCount_0f7a4_15 : decode cJ6_bitCount_0f7a4 15 = .ok (.iload_n 0, 1) := by decide +kernel
theorem dJ6_bitCount_0f7a4_16 : decode cJ6_bitCount_0f7a4 16 = .ok (.iconst 2, 1) := by decide +kernel
theorem dJ6_bitCount_0f7a4_17 : decode cJ6_bitCount_0f7a4 17 = .ok (.iushr, 1) := by decide +kernel
theorem dJ6_bitCount_0f7a4_18 : decode cJ6_bitCount_0f7a4 18 = .ok (.ldc_w 266, 3) := by decide +kernel
theorem dJ6_bitCount_0f7a4_21 : decode cJ6_bitCount_0f7a4 21 = .ok (.iand, 1) := by decide +kernel
theorem dJ6_bitCount_0f7a4_22 : decode cJ6_bitCount_0f7a4 22 = .ok (.iadd, 1) := by decide +kernel
theorem dJ6_bitCount_0f7a4_23 : decode cJ6_bitCount_0f7a4 23 = .ok (.istore_n 0, 1) := by decide +kernel
theorem dJ6_bitCount_0f7a4_24 : decode cJ6_bitCount_0f7a4 24 = .ok (.iload_n 0, 1) := by decide +kernel
theorem dJ6_bitCount_0f7a4_25 : decode cJ6_bitCount_0f7a4 25 = .ok (.iload_n 0, 1) := by decide +kernel
theorem dJ6_bitCount_0f7a4_26 : decode cJ6_bitCount_0f7a4 26 = .ok (.iconst 4, 1) := by decide +kernel
theorem dJ6_bitCount_0f7a4_27 : decode cJ6_bitCount_0f7a4 27 = .ok (.iushr, 1) := by decide +kernel
theorem dJ6_bitCount_0f7a4_28 : decode cJ6_bitCount_0f7a4 28 = .ok (.iadd, 1) := by decide +kernel
theorem dJ6_bitCount_0f7a4_29 : decode cJ6_bitCount_0f7a4 29 = .ok (.ldc_w 267, 3) := by decide +kernel
theorem dJ6_bitCount_0f7a4_32 : decode cJ6_bitCount_0f7a4 32 = .ok (.iand, 1) := by decide +kernel
theorem dJ6_bitCount_0f7a4_33 : decode cJ6_bitCount_0f7a4 33 = .ok (.istore_n 0, 1) := by decide +kernel
theorem dJ6_bitCount_0f7a4_34 : decode cJ6_bitCount_0f7a4 34 = .ok (.iload_n 0, 1) := by decide +kernel
theorem dJ6_bitCount_0f7a4_35 : decode cJ6_bitCount_0f7a4 35 = .ok (.iload_n 0, 1) := by decide +kernel
theorem dJ6_bitCount_0f7a4_36 : decode cJ6_bitCount_0f7a4 36 = .ok (.bipush 8, 2) := by decide +kernel
theorem dJ6_bitCount_0f7a4_38 : decode cJ6_bitCount_0f7a4 38 = .ok (.iushr, 1) := by decide +kernel
theorem dJ6_bitCount_0f7a4_39 : decode cJ6_bitCount_0f7a4 39 = .ok (.iadd, 1) := by decide +kernel
theorem dJ6_bitCount_0f7a4_40 : decode cJ6_bitCount_0f7a4 40 = .ok (.istore_n 0, 1) := by decide +kernel
theorem dJ6_bitCount_0f7a4_41 : decode cJ6_bitCount_0f7a4 41 = .ok (.iload_n 0, 1) := by decide +kernel
theorem dJ6_bitCount_0f7a4_42 : decode cJ6_bitCount_0f7a4 42 = .ok (.iload_n 0, 1) := by decide +kernel
theorem dJ6_bitCount_0f7a4_43 : decode cJ6_bitCount_0f7a4 43 = .ok (.bipush 16, 2) := by decide +kernel
theorem dJ6_bitCount_0f7a4_45 : decode cJ6_bitCount_0f7a4 45 = .ok (.iushr, 1) := by decide +kernel
theorem dJ6_bitCount_0f7a4_46 : decode cJ6_bitCount_0f7a4 46 = .ok (.iadd, 1) := by decide +kernel
theorem dJ6_bitCount_0f7a4_47 : decode cJ6_bitCount_0f7a4 47 = .ok (.istore_n 0, 1) := by decide +kernel
theorem dJ6_bitCount_0f7a4_48 : decode cJ6_bitCount_0f7a4 48 = .ok (.iload_n 0, 1) := by decide +kernel
theorem dJ6_bitCount_0f7a4_49 : decode cJ6_bitCount_0f7a4 49 = .ok (.bipush 63, 2) := by decide +kernel
theorem dJ6_bitCount_0f7a4_51 : decode cJ6_bitCount_0f7a4 51 = .ok (.iand, 1) := by decide +kernel
theorem dJ6_bitCount_0f7a4_52 : decode cJ6_bitCount_0f7a4 52 = .ok (.ireturn, 1) := by decide +kernel
theorem dJ9_max_7cf53_0 : decode cJ9_max_7cf53 0 = .ok (.iload_n 0, 1) := by decide +kernel
theorem dJ9_max_7cf53_1 : decode cJ9_max_7cf53 1 = .ok (.iload_n 1, 1) := by decide +kernel
theorem dJ9_max_7cf53_2 : decode cJ9_max_7cf53 2 = .ok (.if_icmp .lt 7, 3) := by decide +kernel
theorem dJ9_max_7cf53_5 : decode cJ9_max_7cf53 5 = .ok (.iload_n 0, 1) := by decide +kernel
theorem dJ9_max_7cf53_6 : decode cJ9_max_7cf53 6 = .ok (.goto 4, 3) := by decide +kernel
theorem dJ9_max_7cf53_9 : decode cJ9_max_7cf53 9 = .ok (.iload_n 1, 1) := by decide +kernel
theorem dJ9_max_7cf53_10 : decode cJ9_max_7cf53 10 = .ok (.ireturn, 1) := by decide +kernel
theorem dJ9_min_7cf53_0 : decode cJ9_min_7cf53 0 = .ok (.iload_n 0, 1) := by decide +kernel
theorem dJ9_min_7cf53_1 : decode cJ9_min_7cf53 1 = .ok (.iload_n 1, 1) := by decide +kernel
theorem dJ9_min_7cf53_2 : decode cJ9_min_7cf53 2 = .ok (.if_icmp .gt 7, 3) := by decide +kernel
theorem dJ9_min_7cf53_5 : decode cJ9_min_7cf53 5 = .ok (.iload_n 0, 1) := by decide +kernel
theorem dJ9_min_7cf53_6 : decode cJ9_min_7cf53 6 = .ok (.goto 4, 3) := by decide +kernel
theorem dJ9_min_7cf53_9 : decode cJ9_min_7cf53 9 = .ok (.iload_n 1, 1) := by decide +kernel
theorem dJ9_min_7cf53_10 : decode cJ9_min_7cf53 10 = .ok (.ireturn, 1) := by decide +kernel
