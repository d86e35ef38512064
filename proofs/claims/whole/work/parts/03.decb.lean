theorem dX7_init_0 : decode cX7_init 0 = .ok (.aload_n 0, 1) := by decide +kernel
theorem dX7_init_1 : decode cX7_init 1 = .ok (.invokespecial 3, 3) := by decide +kernel
theorem dX7_init_4 : decode cX7_init 4 = .ok (.aload_n 0, 1) := by decide +kernel
theorem dX7_init_5 : decode cX7_init 5 = .ok (.new 9, 3) := by decide +kernel
theorem dX7_init_8 : decode cX7_init 8 = .ok (.dup, 1) := by decide +kernel
theorem dX7_init_9 : decode cX7_init 9 = .ok (.invokespecial 11, 3) := by decide +kernel
theorem dX7_init_12 : decode cX7_init 12 = .ok (.putfield 12, 3) := by decide +kernel
theorem dX7_init_15 : decode cX7_init 15 = .ok (.aload_n 0, 1) := by decide +kernel
theorem dX7_init_16 : decode cX7_init 16 = .ok (.new 9, 3) := by decide +kernel
theorem dX7_init_19 : decode cX7_init 19 = .ok (.dup, 1) := by decide +kernel
theorem dX7_init_20 : decode cX7_init 20 = .ok (.invokespecial 11, 3) := by decide +kernel
theorem dX7_init_23 : decode cX7_init 23 = .ok (.putfield 16, 3) := by decide +kernel
theorem dX7_init_26 : decode cX7_init 26 = .ok (.aload_n 0, 1) := by decide +kernel
theorem dX7_init_27 : decode cX7_init 27 = .ok (.iconst 4, 1) := by decide +kernel
theorem dX7_init_28 : decode cX7_init 28 = .ok (.anewarray 19, 3) := by decide +kernel
theorem dX7_init_31 : decode cX7_init 31 = .ok (.putfield 21, 3) := by decide +kernel
theorem dX7_init_34 : decode cX7_init 34 = .ok (.aload_n 0, 1) := by decide +kernel
theorem dX7_init_35 : decode cX7_init 35 = .ok (.new 25, 3) := by decide +kernel
theorem dX7_init_38 : decode cX7_init 38 = .ok (.dup, 1) := by decide +kernel
theorem dX7_init_39 : decode cX7_init 39 = .ok (.invokespecial 27, 3) := by decide +kernel
theorem dX7_init_42 : decode cX7_init 42 = .ok (.putfield 28, 3) := by decide +kernel
theorem dX7_init_45 : decode cX7_init 45 = .ok (.aload_n 0, 1) := by decide +kernel
theorem dX7_init_46 : decode cX7_init 46 = .ok (.new 32, 3) := by decide +kernel
theorem dX7_init_49 : decode cX7_init 49 = .ok (.dup, 1) := by decide +kernel
theorem dX7_init_50 : decode cX7_init 50 = .ok (.invokespecial 34, 3) := by decide +kernel
theorem dX7_init_53 : decode cX7_init 53 = .ok (.putfield 35, 3) := by decide +kernel
theorem dX7_init_56 : decode cX7_init 56 = .ok (.aload_n 0, 1) := by decide +kernel
theorem dX7_init_57 : decode cX7_init 57 = .ok (.bipush 7, 2) := by decide +kernel
theorem dX7_init_59 : decode cX7_init 59 = .ok (.newarray .int, 2) := by decide +kernel
theorem dX7_init_61 : decode cX7_init 61 = .ok (.putfield 39, 3) := by decide +kernel
theorem dX7_init_64 : decode cX7_init 64 = .ok (.iconst 0, 1) := by decide +kernel
theorem dX7_init_65 : decode cX7_init 65 = .ok (.istore_n 1, 1) := by decide +kernel
theorem dX7_init_66 : decode cX7_init 66 = .ok (.iload_n 1, 1) := by decide +kernel
theorem dX7_init_67 : decode cX7_init 67 = .ok (.iconst 4, 1) := by decide +kernel
theorem dX7_init_68 : decode cX7_init 68 = .ok (.if_icmp .ge 22, 3) := by decide +kernel
theorem dX7_init_71 : decode cX7_init 71 = .ok (.aload_n 0, 1) := by decide +kernel
theorem dX7_init_72 : decode cX7_init 72 = .ok (.getfield 21, 3) := by decide +kernel
theorem dX7_init_75 : decode cX7_init 75 = .ok (.iload_n 1, 1) := by decide +kernel
theorem dX7_init_76 : decode cX7_init 76 = .ok (.new 19, 3) := by decide +kernel
theorem dX7_init_79 : decode cX7_init 79 = .ok (.dup, 1) := by decide +kernel
theorem dX7_init_80 : decode cX7_init 80 = .ok (.invokespecial 43, 3) := by decide +kernel
theorem dX7_init_83 : decode cX7_init 83 = .ok (.aastore, 1) := by decide +kernel
theorem dX7_init_84 : decode cX7_init 84 = .ok (.iinc 1 1, 3) := by decide +kernel
theorem dX7_init_87 : decode cX7_init 87 = .ok (.goto (-21), 3) := by decide +kernel
theorem dX7_init_90 : decode cX7_init 90 = .ok (.return_, 1) := by decide +kernel
theorem dX7_thing_0 : decode cX7_thing 0 = .ok (.iload_n 1, 1) := by decide +kernel
theorem dX7_thing_1 : decode cX7_thing 1 = .ok (.invokestatic 44, 3) := by decide +kernel
theorem dX7_thing_4 : decode cX7_thing 4 = .ok (.ifCond .eq 21, 3) := by decide +kernel
theorem dX7_thing_7 : decode cX7_thing 7 = .ok (.iload_n 2, 1) := by decide +kernel
theorem dX7_thing_8 : decode cX7_thing 8 = .ok (.invokestatic 48, 3) := by decide +kernel
theorem dX7_thing_11 : decode cX7_thing 11 = .ok (.ifCond .eq 14, 3) := by decide +kernel
theorem dX7_thing_14 : decode cX7_thing 14 = .ok (.iload_n 3, 1) := by decide +kernel
theorem dX7_thing_15 : decode cX7_thing 15 = .ok (.iconst 1, 1) := by decide +kernel
theorem dX7_thing_16 : decode cX7_thing 16 = .ok (.if_icmp .lt 9, 3) := by decide +kernel
theorem dX7_thing_19 : decode cX7_thing 19 = .ok (.iload_n 3, 1) := by decide +kernel
theorem dX7_thing_20 : decode cX7_thing 20 = .ok (.bipush 9, 2) := by decide +kernel
theorem dX7_thing_22 : decode cX7_thing 22 = .ok (.if_icmp .le 10, 3) := by decide +kernel
theorem dX7_thing_25 : decode cX7_thing 25 = .ok (.aload_n 0, 1) := by decide +kernel
theorem dX7_thing_26 : decode cX7_thing 26 = .ok (.ldc 51, 2) := by decide +kernel
theorem dX7_thing_28 : decode cX7_thing 28 = .ok (.invokevirtual 52, 3) := by decide +kernel
theorem dX7_thing_31 : decode cX7_thing 31 = .ok (.ireturn, 1) := by decide +kernel
theorem dX7_thing_32 : decode cX7_thing 32 = .ok (.aload_n 0, 1) := by decide +kernel
theorem dX7_thing_33 : decode cX7_thing 33 = .ok (.getfield 12, 3) := by decide +kernel
theorem dX7_thing_36 : decode cX7_thing 36 = .ok (.getfield 56, 3) := by decide +kernel
theorem dX7_thing_39 : decode cX7_thing 39 = .ok (.bipush 9, 2) := by decide +kernel
theorem dX7_thing_41 : decode cX7_thing 41 = .ok (.if_icmp .lt 10, 3) := by decide +kernel
theorem dX7_thing_44 : decode cX7_thing 44 = .ok (.aload_n 0, 1) := by decide +kernel
theorem dX7_thing_45 : decode cX7_thing 45 = .ok (.ldc 60, 2) := by decide +kernel
theorem dX7_thing_47 : decode cX7_thing 47 = .ok (.invokevirtual 52, 3) := by decide +kernel
theorem dX7_thing_50 : decode cX7_thing 50 = .ok (.ireturn, 1) := by decide +kernel
theorem dX7_thing_51 : decode cX7_thing 51 = .ok (.aload_n 0, 1) := by decide +kernel
theorem dX7_thing_52 : decode cX7_thing 52 = .ok (.getfield 12, 3) := by decide +kernel
theorem dX7_thing_55 : decode cX7_thing 55 = .ok (.iload_n 1, 1) := by decide +kernel
theorem dX7_thing_56 : decode cX7_thing 56 = .ok (.iload_n 2, 1) := by decide +kernel
theorem dX7_thing_57 : decode cX7_thing 57 = .ok (.iload_n 3, 1) := by decide +kernel
theorem dX7_thing_58 : decode cX7_thing 58 = .ok (.invokevirtual 61, 3) := by decide +kernel
theorem dX7_thing_61 : decode cX7_thing 61 = .ok (.ireturn, 1) := by decide +kernel
theorem dX7_thingIs_0 : decode cX7_thingIs 0 = .ok (.aload_n 0, 1) := by decide +kernel
theorem dX7_thingIs_1 : decode cX7_thingIs 1 = .ok (.getfield 12, 3) := by decide +kernel
theorem dX7_thingIs_4 : decode cX7_thingIs 4 = .ok (.iload_n 1, 1) := by decide +kernel
theorem dX7_thingIs_5 : decode cX7_thingIs 5 = .ok (.invokevirtual 65, 3) := by decide +kernel
theorem dX7_thingIs_8 : decode cX7_thingIs 8 = .ok (.ifCond .ne 10, 3) := by decide +kernel
theorem dX7_thingIs_11 : decode cX7_thingIs 11 = .ok (.aload_n 0, 1) := by decide +kernel
theorem dX7_thingIs_12 : decode cX7_thingIs 12 = .ok (.ldc 51, 2) := by decide +kernel
theorem dX7_thingIs_14 : decode cX7_thingIs 14 = .ok (.invokevirtual 52, 3) := by decide +kernel
theorem dX7_thingIs_17 : decode cX7_thingIs 17 = .ok (.ireturn, 1) := by decide +kernel
theorem dX7_thingIs_18 : decode cX7_thingIs 18 = .ok (.aload_n 0, 1) := by decide +kernel
theorem dX7_thingIs_19 : decode cX7_thingIs 19 = .ok (.getfield 12, 3) := by decide +kernel
theorem dX7_thingIs_22 : decode cX7_thingIs 22 = .ok (.getfield 68, 3) := by decide +kernel
theorem dX7_thingIs_25 : decode cX7_thingIs 25 = .ok (.iload_n 1, 1) := by decide +kernel
theorem dX7_thingIs_26 : decode cX7_thingIs 26 = .ok (.aaload, 1) := by decide +kernel
theorem dX7_thingIs_27 : decode cX7_thingIs 27 = .ok (.astore_n 3, 1) := by decide +kernel
theorem dX7_thingIs_28 : decode cX7_thingIs 28 = .ok (.iload_n 2, 1) := by decide +kernel
theorem dX7_thingIs_29 : decode cX7_thingIs 29 = .ok (.tableswitch 89 0 6 #[43, 48, 53, 58, 63, 72, 84], 43) := by decide +kernel
theorem dX7_thingIs_72 : decode cX7_thingIs 72 = .ok (.aload_n 3, 1) := by decide +kernel
theorem dX7_thingIs_73 : decode cX7_thingIs 73 = .ok (.getfield 72, 3) := by decide +kernel
theorem dX7_thingIs_76 : decode cX7_thingIs 76 = .ok (.ireturn, 1) := by decide +kernel
theorem dX7_thingIs_77 : decode cX7_thingIs 77 = .ok (.aload_n 3, 1) := by decide +kernel
theorem dX7_thingIs_78 : decode cX7_thingIs 78 = .ok (.getfield 77, 3) := by decide +kernel
theorem dX7_thingIs_81 : decode cX7_thingIs 81 = .ok (.ireturn, 1) := by decide +kernel
theorem dX7_thingIs_82 : decode cX7_thingIs 82 = .ok (.aload_n 3, 1) := by decide +kernel
theorem dX7_thingIs_83 : decode cX7_thingIs 83 = .ok (.getfield 80, 3) := by decide +kernel
theorem dX7_thingIs_86 : decode cX7_thingIs 86 = .ok (.ireturn, 1) := by decide +kernel
theorem dX7_thingIs_87 : decode cX7_thingIs 87 = .ok (.aload_n 3, 1) := by decide +kernel
theorem dX7_thingIs_88 : decode cX7_thingIs 88 = .ok (.getfield 83, 3) := by decide +kernel
theorem dX7_thingIs_91 : decode cX7_thingIs 91 = .ok (.ireturn, 1) := by decide +kernel
theorem dX7_thingIs_92 : decode cX7_thingIs 92 = .ok (.aload_n 0, 1) := by decide +kernel
theorem dX7_thingIs_93 : decode cX7_thingIs 93 = .ok (.getfield 12, 3) := by decide +kernel
theorem dX7_thingIs_96 : decode cX7_thingIs 96 = .ok (.iload_n 1, 1) := by decide +kernel
theorem dX7_thingIs_97 : decode cX7_thingIs 97 = .ok (.invokevirtual 86, 3) := by decide +kernel
theorem dX7_thingIs_100 : decode cX7_thingIs 100 = .ok (.ireturn, 1) := by decide +kernel
theorem dX7_thingIs_101 : decode cX7_thingIs 101 = .ok (.aload_n 3, 1) := by decide +kernel
theorem dX7_thingIs_102 : decode cX7_thingIs 102 = .ok (.aload_n 0, 1) := by decide +kernel
theorem dX7_thingIs_103 : decode cX7_thingIs 103 = .ok (.getfield 12, 3) := by decide +kernel
theorem dX7_thingIs_106 : decode cX7_thingIs 106 = .ok (.getfield 89, 3) := by decide +kernel
theorem dX7_thingIs_109 : decode cX7_thingIs 109 = .ok (.invokevirtual 92, 3) := by decide +kernel
theorem dX7_thingIs_112 : decode cX7_thingIs 112 = .ok (.ireturn, 1) := by decide +kernel
theorem dX7_thingIs_113 : decode cX7_thingIs 113 = .ok (.aload_n 3, 1) := by decide +kernel
theorem dX7_thingIs_114 : decode cX7_thingIs 114 = .ok (.invokevirtual 95, 3) := by decide +kernel
theorem dX7_thingIs_117 : decode cX7_thingIs 117 = .ok (.ireturn, 1) := by decide +kernel
theorem dX7_thingIs_118 : decode cX7_thingIs 118 = .ok (.aload_n 0, 1) := by decide +kernel
theorem dX7_thingIs_119 : decode cX7_thingIs 119 = .ok (.ldc 51, 2) := by decide +kernel
theorem dX7_thingIs_121 : decode cX7_thingIs 121 = .ok (.invokevirtual 52, 3) := by decide +kernel
theorem dX7_thingIs_124 : decode cX7_thingIs 124 = .ok (.ireturn, 1) := by decide +kernel
theorem dX7_become_0 : decode cX7_become 0 = .ok (.aload_n 0, 1) := by decide +kernel
theorem dX7_become_1 : decode cX7_become 1 = .ok (.getfield 12, 3) := by decide +kernel
theorem dX7_become_4 : decode cX7_become 4 = .ok (.iload_n 1, 1) := by decide +kernel
theorem dX7_become_5 : decode cX7_become 5 = .ok (.invokevirtual 65, 3) := by decide +kernel
theorem dX7_become_8 : decode cX7_become 8 = .ok (.ifCond .eq 10, 3) := by decide +kernel
theorem dX7_become_11 : decode cX7_become 11 = .ok (.iload_n 2, 1) := by decide +kernel
theorem dX7_become_12 : decode cX7_become 12 = .ok (.invokestatic 44, 3) := by decide +kernel
theorem dX7_become_15 : decode cX7_become 15 = .ok (.ifCond .ne 10, 3) := by decide +kernel
theorem dX7_become_18 : decode cX7_become 18 = .ok (.aload_n 0, 1) := by decide +kernel
theorem dX7_become_19 : decode cX7_become 19 = .ok (.ldc 51, 2) := by decide +kernel
theorem dX7_become_21 : decode cX7_become 21 = .ok (.invokevirtual 52, 3) := by decide +kernel
theorem dX7_become_24 : decode cX7_become 24 = .ok (.ireturn, 1) := by decide +kernel
theorem dX7_become_25 : decode cX7_become 25 = .ok (.aload_n 0, 1) := by decide +kernel
theorem dX7_become_26 : decode cX7_become 26 = .ok (.getfield 12, 3) := by decide +kernel
theorem dX7_become_29 : decode cX7_become 29 = .ok (.getfield 68, 3) := by decide +kernel
theorem dX7_become_32 : decode cX7_become 32 = .ok (.iload_n 1, 1) := by decide +kernel
theorem dX7_become_33 : decode cX7_become 33 = .ok (.aaload, 1) := by decide +kernel
theorem dX7_become_34 : decode cX7_become 34 = .ok (.astore_n 3, 1) := by decide +kernel
theorem dX7_become_35 : decode cX7_become 35 = .ok (.aload_n 3, 1) := by decide +kernel
theorem dX7_become_36 : decode cX7_become 36 = .ok (.getfield 72, 3) := by decide +kernel
theorem dX7_become_39 : decode cX7_become 39 = .ok (.istore 4, 2) := by decide +kernel
theorem dX7_become_41 : decode cX7_become 41 = .ok (.aload_n 3, 1) := by decide +kernel
theorem dX7_become_42 : decode cX7_become 42 = .ok (.iload_n 2, 1) := by decide +kernel
theorem dX7_become_43 : decode cX7_become 43 = .ok (.bipush 10, 2) := by decide +kernel
theorem dX7_become_45 : decode cX7_become 45 = .ok (.idiv, 1) := by decide +kernel
theorem dX7_become_46 : decode cX7_become 46 = .ok (.putfield 72, 3) := by decide +kernel
theorem dX7_become_49 : decode cX7_become 49 = .ok (.aload_n 3, 1) := by decide +kernel
theorem dX7_become_50 : decode cX7_become 50 = .ok (.iload_n 2, 1) := by decide +kernel
theorem dX7_become_51 : decode cX7_become 51 = .ok (.bipush 10, 2) := by decide +kernel
theorem dX7_become_53 : decode cX7_become 53 = .ok (.irem, 1) := by decide +kernel
theorem dX7_become_54 : decode cX7_become 54 = .ok (.putfield 77, 3) := by decide +kernel
theorem dX7_become_57 : decode cX7_become 57 = .ok (.iload 4, 2) := by decide +kernel
theorem dX7_become_59 : decode cX7_become 59 = .ok (.ireturn, 1) := by decide +kernel
theorem dX7_as_0 : decode cX7_as 0 = .ok (.aload_n 0, 1) := by decide +kernel
theorem dX7_as_1 : decode cX7_as 1 = .ok (.getfield 12, 3) := by decide +kernel
theorem dX7_as_4 : decode cX7_as 4 = .ok (.iload_n 1, 1) := by decide +kernel
theorem dX7_as_5 : decode cX7_as 5 = .ok (.invokevirtual 65, 3) := by decide +kernel
theorem dX7_as_8 : decode cX7_as 8 = .ok (.ifCond .eq 13, 3) := by decide +kernel
theorem dX7_as_11 : decode cX7_as 11 = .ok (.iload_n 2, 1) := by decide +kernel
theorem dX7_as_12 : decode cX7_as 12 = .ok (.ifCond .lt 9, 3) := by decide +kernel
theorem dX7_as_15 : decode cX7_as 15 = .ok (.iload_n 2, 1) := by decide +kernel
theorem dX7_as_16 : decode cX7_as 16 = .ok (.bipush 7, 2) := by decide +kernel
theorem dX7_as_18 : decode cX7_as 18 = .ok (.if_icmp .lt 10, 3) := by decide +kernel
theorem dX7_as_21 : decode cX7_as 21 = .ok (.aload_n 0, 1) := by decide +kernel
theorem dX7_as_22 : decode cX7_as 22 = .ok (.ldc 51, 2) := by decide +kernel
theorem dX7_as_24 : decode cX7_as 24 = .ok (.invokevirtual 52, 3) := by decide +kernel
theorem dX7_as_27 : decode cX7_as 27 = .ok (.ireturn, 1) := by decide +kernel
theorem dX7_as_28 : decode cX7_as 28 = .ok (.aload_n 0, 1) := by decide +kernel
theorem dX7_as_29 : decode cX7_as 29 = .ok (.getfield 12, 3) := by decide +kernel
theorem dX7_as_32 : decode cX7_as 32 = .ok (.getfield 68, 3) := by decide +kernel
theorem dX7_as_35 : decode cX7_as 35 = .ok (.iload_n 1, 1) := by decide +kernel
theorem dX7_as_36 : decode cX7_as 36 = .ok (.aaload, 1) := by decide +kernel
theorem dX7_as_37 : decode cX7_as 37 = .ok (.iload_n 2, 1) := by decide +kernel
theorem dX7_as_38 : decode cX7_as 38 = .ok (.invokevirtual 99, 3) := by decide +kernel
theorem dX7_as_41 : decode cX7_as 41 = .ok (.ifCond .ne 10, 3) := by decide +kernel
theorem dX7_as_44 : decode cX7_as 44 = .ok (.aload_n 0, 1) := by decide +kernel
theorem dX7_as_45 : decode cX7_as 45 = .ok (.ldc 102, 2) := by decide +kernel
theorem dX7_as_47 : decode cX7_as 47 = .ok (.invokevirtual 52, 3) := by decide +kernel
theorem dX7_as_50 : decode cX7_as 50 = .ok (.ireturn, 1) := by decide +kernel
theorem dX7_as_51 : decode cX7_as 51 = .ok (.aload_n 0, 1) := by decide +kernel
theorem dX7_as_52 : decode cX7_as 52 = .ok (.getfield 12, 3) := by decide +kernel
theorem dX7_as_55 : decode cX7_as 55 = .ok (.getfield 68, 3) := by decide +kernel
theorem dX7_as_58 : decode cX7_as 58 = .ok (.iload_n 1, 1) := by decide +kernel
theorem dX7_as_59 : decode cX7_as 59 = .ok (.aaload, 1) := by decide +kernel
theorem dX7_as_60 : decode cX7_as 60 = .ok (.getfield 77, 3) := by decide +kernel
theorem dX7_as_63 : decode cX7_as 63 = .ok (.ireturn, 1) := by decide +kernel
theorem dX7_weigh_0 : decode cX7_weigh 0 = .ok (.aload_n 0, 1) := by decide +kernel
theorem dX7_weigh_1 : decode cX7_weigh 1 = .ok (.getfield 12, 3) := by decide +kernel
theorem dX7_weigh_4 : decode cX7_weigh 4 = .ok (.iload_n 1, 1) := by decide +kernel
theorem dX7_weigh_5 : decode cX7_weigh 5 = .ok (.invokevirtual 65, 3) := by decide +kernel
theorem dX7_weigh_8 : decode cX7_weigh 8 = .ok (.ifCond .eq 10, 3) := by decide +kernel
theorem dX7_weigh_11 : decode cX7_weigh 11 = .ok (.iload_n 2, 1) := by decide +kernel
theorem dX7_weigh_12 : decode cX7_weigh 12 = .ok (.invokestatic 48, 3) := by decide +kernel
theorem dX7_weigh_15 : decode cX7_weigh 15 = .ok (.ifCond .ne 10, 3) := by decide +kernel
theorem dX7_weigh_18 : decode cX7_weigh 18 = .ok (.aload_n 0, 1) := by decide +kernel
theorem dX7_weigh_19 : decode cX7_weigh 19 = .ok (.ldc 51, 2) := by decide +kernel
theorem dX7_weigh_21 : decode cX7_weigh 21 = .ok (.invokevirtual 52, 3) := by decide +kernel
theorem dX7_weigh_24 : decode cX7_weigh 24 = .ok (.ireturn, 1) := by decide +kernel
theorem dX7_weigh_25 : decode cX7_weigh 25 = .ok (.aload_n 0, 1) := by decide +kernel
theorem dX7_weigh_26 : decode cX7_weigh 26 = .ok (.getfield 12, 3) := by decide +kernel
theorem dX7_weigh_29 : decode cX7_weigh 29 = .ok (.getfield 68, 3) := by decide +kernel
theorem dX7_weigh_32 : decode cX7_weigh 32 = .ok (.iload_n 1, 1) := by decide +kernel
theorem dX7_weigh_33 : decode cX7_weigh 33 = .ok (.aaload, 1) := by decide +kernel
theorem dX7_weigh_34 : decode cX7_weigh 34 = .ok (.getfield 80, 3) := by decide +kernel
theorem dX7_weigh_37 : decode cX7_weigh 37 = .ok (.istore_n 3, 1) := by decide +kernel
theorem dX7_weigh_38 : decode cX7_weigh 38 = .ok (.aload_n 0, 1) := by decide +kernel
theorem dX7_weigh_39 : decode cX7_weigh 39 = .ok (.getfield 12, 3) := by decide +kernel
theorem dX7_weigh_42 : decode cX7_weigh 42 = .ok (.getfield 68, 3) := by decide +kernel
theorem dX7_weigh_45 : decode cX7_weigh 45 = .ok (.iload_n 1, 1) := by decide +kernel
theorem dX7_weigh_46 : decode cX7_weigh 46 = .ok (.aaload, 1) := by decide +kernel
theorem dX7_weigh_47 : decode cX7_weigh 47 = .ok (.iload_n 2, 1) := by decide +kernel
theorem dX7_weigh_48 : decode cX7_weigh 48 = .ok (.putfield 80, 3) := by decide +kernel
theorem dX7_weigh_51 : decode cX7_weigh 51 = .ok (.iload_n 3, 1) := by decide +kernel
theorem dX7_weigh_52 : decode cX7_weigh 52 = .ok (.ireturn, 1) := by decide +kernel
theorem dX7_at_0 : decode cX7_at 0 = .ok (.aload_n 0, 1) := by decide +kernel
theorem dX7_at_1 : decode cX7_at 1 = .ok (.getfield 12, 3) := by decide +kernel
theorem dX7_at_4 : decode cX7_at 4 = .ok (.getfield 103, 3) := by decide +kernel
theorem dX7_at_7 : decode cX7_at 7 = .ok (.iload_n 1, 1) := by decide +kernel
theorem dX7_at_8 : decode cX7_at 8 = .ok (.invokevirtual 107, 3) := by decide +kernel
theorem dX7_at_11 : decode cX7_at 11 = .ok (.ifCond .ne 10, 3) := by decide +kernel
theorem dX7_at_14 : decode cX7_at 14 = .ok (.aload_n 0, 1) := by decide +kernel
theorem dX7_at_15 : decode cX7_at 15 = .ok (.ldc 51, 2) := by decide +kernel
theorem dX7_at_17 : decode cX7_at 17 = .ok (.invokevirtual 52, 3) := by decide +kernel
theorem dX7_at_20 : decode cX7_at 20 = .ok (.ireturn, 1) := by decide +kernel
theorem dX7_at_21 : decode cX7_at 21 = .ok (.aload_n 0, 1) := by decide +kernel
theorem dX7_at_22 : decode cX7_at 22 = .ok (.getfield 12, 3) := by decide +kernel
theorem dX7_at_25 : decode cX7_at 25 = .ok (.getfield 103, 3) := by decide +kernel
theorem dX7_at_28 : decode cX7_at 28 = .ok (.getfield 112, 3) := by decide +kernel
theorem dX7_at_31 : decode cX7_at 31 = .ok (.iload_n 1, 1) := by decide +kernel
theorem dX7_at_32 : decode cX7_at 32 = .ok (.iaload, 1) := by decide +kernel
theorem dX7_at_33 : decode cX7_at 33 = .ok (.ireturn, 1) := by decide +kernel
theorem dX7_leave_0 : decode cX7_leave 0 = .ok (.aload_n 0, 1) := by decide +kernel
theorem dX7_leave_1 : decode cX7_leave 1 = .ok (.getfield 12, 3) := by decide +kernel
theorem dX7_leave_4 : decode cX7_leave 4 = .ok (.iload_n 1, 1) := by decide +kernel
theorem dX7_leave_5 : decode cX7_leave 5 = .ok (.invokevirtual 65, 3) := by decide +kernel
theorem dX7_leave_8 : decode cX7_leave 8 = .ok (.ifCond .ne 10, 3) := by decide +kernel
theorem dX7_leave_11 : decode cX7_leave 11 = .ok (.aload_n 0, 1) := by decide +kernel
theorem dX7_leave_12 : decode cX7_leave 12 = .ok (.ldc 51, 2) := by decide +kernel
theorem dX7_leave_14 : decode cX7_leave 14 = .ok (.invokevirtual 52, 3) := by decide +kernel
theorem dX7_leave_17 : decode cX7_leave 17 = .ok (.ireturn, 1) := by decide +kernel
theorem dX7_leave_18 : decode cX7_leave 18 = .ok (.aload_n 0, 1) := by decide +kernel
theorem dX7_leave_19 : decode cX7_leave 19 = .ok (.getfield 12, 3) := by decide +kernel
theorem dX7_leave_22 : decode cX7_leave 22 = .ok (.iload_n 1, 1) := by decide +kernel
theorem dX7_leave_23 : decode cX7_leave 23 = .ok (.invokevirtual 86, 3) := by decide +kernel
theorem dX7_leave_26 : decode cX7_leave 26 = .ok (.bipush (-2), 2) := by decide +kernel
theorem dX7_leave_28 : decode cX7_leave 28 = .ok (.if_icmp .ne 10, 3) := by decide +kernel
theorem dX7_leave_31 : decode cX7_leave 31 = .ok (.aload_n 0, 1) := by decide +kernel
theorem dX7_leave_32 : decode cX7_leave 32 = .ok (.ldc 115, 2) := by decide +kernel
theorem dX7_leave_34 : decode cX7_leave 34 = .ok (.invokevirtual 52, 3) := by decide +kernel
theorem dX7_leave_37 : decode cX7_leave 37 = .ok (.ireturn, 1) := by decide +kernel
theorem dX7_leave_38 : decode cX7_leave 38 = .ok (.aload_n 0, 1) := by decide +kernel
theorem dX7_leave_39 : decode cX7_leave 39 = .ok (.getfield 12, 3) := by decide +kernel
theorem dX7_leave_42 : decode cX7_leave 42 = .ok (.iload_n 1, 1) := by decide +kernel
theorem dX7_leave_43 : decode cX7_leave 43 = .ok (.invokevirtual 116, 3) := by decide +kernel
theorem dX7_leave_46 : decode cX7_leave 46 = .ok (.aload_n 0, 1) := by decide +kernel
theorem dX7_leave_47 : decode cX7_leave 47 = .ok (.getfield 12, 3) := by decide +kernel
theorem dX7_leave_50 : decode cX7_leave 50 = .ok (.getfield 103, 3) := by decide +kernel
theorem dX7_leave_53 : decode cX7_leave 53 = .ok (.getfield 120, 3) := by decide +kernel
theorem dX7_leave_56 : decode cX7_leave 56 = .ok (.ireturn, 1) := by decide +kernel
theorem dX7_stow_0 : decode cX7_stow 0 = .ok (.aload_n 0, 1) := by decide +kernel
theorem dX7_stow_1 : decode cX7_stow 1 = .ok (.getfield 12, 3) := by decide +kernel
theorem dX7_stow_4 : decode cX7_stow 4 = .ok (.iload_n 1, 1) := by decide +kernel
theorem dX7_stow_5 : decode cX7_stow 5 = .ok (.invokevirtual 65, 3) := by decide +kernel
theorem dX7_stow_8 : decode cX7_stow 8 = .ok (.ifCond .ne 10, 3) := by decide +kernel
theorem dX7_stow_11 : decode cX7_stow 11 = .ok (.aload_n 0, 1) := by decide +kernel
theorem dX7_stow_12 : decode cX7_stow 12 = .ok (.ldc 51, 2) := by decide +kernel
theorem dX7_stow_14 : decode cX7_stow 14 = .ok (.invokevirtual 52, 3) := by decide +kernel
theorem dX7_stow_17 : decode cX7_stow 17 = .ok (.ireturn, 1) := by decide +kernel
theorem dX7_stow_18 : decode cX7_stow 18 = .ok (.aload_n 0, 1) := by decide +kernel
theorem dX7_stow_19 : decode cX7_stow 19 = .ok (.getfield 12, 3) := by decide +kernel
theorem dX7_stow_22 : decode cX7_stow 22 = .ok (.iload_n 1, 1) := by decide +kernel
theorem dX7_stow_23 : decode cX7_stow 23 = .ok (.invokevirtual 86, 3) := by decide +kernel
theorem dX7_stow_26 : decode cX7_stow 26 = .ok (.bipush (-2), 2) := by decide +kernel
theorem dX7_stow_28 : decode cX7_stow 28 = .ok (.if_icmp .eq 10, 3) := by decide +kernel
theorem dX7_stow_31 : decode cX7_stow 31 = .ok (.aload_n 0, 1) := by decide +kernel
theorem dX7_stow_32 : decode cX7_stow 32 = .ok (.ldc 115, 2) := by decide +kernel
theorem dX7_stow_34 : decode cX7_stow 34 = .ok (.invokevirtual 52, 3) := by decide +kernel
theorem dX7_stow_37 : decode cX7_stow 37 = .ok (.ireturn, 1) := by decide +kernel
theorem dX7_stow_38 : decode cX7_stow 38 = .ok (.aload_n 0, 1) := by decide +kernel
theorem dX7_stow_39 : decode cX7_stow 39 = .ok (.getfield 12, 3) := by decide +kernel
theorem dX7_stow_42 : decode cX7_stow 42 = .ok (.getfield 103, 3) := by decide +kernel
theorem dX7_stow_45 : decode cX7_stow 45 = .ok (.iload_n 1, 1) := by decide +kernel
theorem dX7_stow_46 : decode cX7_stow 46 = .ok (.invokevirtual 123, 3) := by decide +kernel
theorem dX7_stow_49 : decode cX7_stow 49 = .ok (.aload_n 0, 1) := by decide +kernel
theorem dX7_stow_50 : decode cX7_stow 50 = .ok (.getfield 12, 3) := by decide +kernel
theorem dX7_stow_53 : decode cX7_stow 53 = .ok (.getfield 103, 3) := by decide +kernel
theorem dX7_stow_56 : decode cX7_stow 56 = .ok (.getfield 120, 3) := by decide +kernel
theorem dX7_stow_59 : decode cX7_stow 59 = .ok (.ireturn, 1) := by decide +kernel
theorem dX7_zip_0 : decode cX7_zip 0 = .ok (.iload_n 1, 1) := by decide +kernel
theorem dX7_zip_1 : decode cX7_zip 1 = .ok (.iconst (-1), 1) := by decide +kernel
theorem dX7_zip_2 : decode cX7_zip 2 = .ok (.if_icmp .eq 21, 3) := by decide +kernel
theorem dX7_zip_5 : decode cX7_zip 5 = .ok (.aload_n 0, 1) := by decide +kernel
theorem dX7_zip_6 : decode cX7_zip 6 = .ok (.getfield 12, 3) := by decide +kernel
theorem dX7_zip_9 : decode cX7_zip 9 = .ok (.iload_n 1, 1) := by decide +kernel
theorem dX7_zip_10 : decode cX7_zip 10 = .ok (.invokevirtual 65, 3) := by decide +kernel
theorem dX7_zip_13 : decode cX7_zip 13 = .ok (.ifCond .ne 10, 3) := by decide +kernel
theorem dX7_zip_16 : decode cX7_zip 16 = .ok (.aload_n 0, 1) := by decide +kernel
theorem dX7_zip_17 : decode cX7_zip 17 = .ok (.ldc 51, 2) := by decide +kernel
theorem dX7_zip_19 : decode cX7_zip 19 = .ok (.invokevirtual 52, 3) := by decide +kernel
theorem dX7_zip_22 : decode cX7_zip 22 = .ok (.ireturn, 1) := by decide +kernel
theorem dX7_zip_23 : decode cX7_zip 23 = .ok (.iload_n 1, 1) := by decide +kernel
theorem dX7_zip_24 : decode cX7_zip 24 = .ok (.iconst (-1), 1) := by decide +kernel
theorem dX7_zip_25 : decode cX7_zip 25 = .ok (.if_icmp .eq 21, 3) := by decide +kernel
theorem dX7_zip_28 : decode cX7_zip 28 = .ok (.aload_n 0, 1) := by decide +kernel
theorem dX7_zip_29 : decode cX7_zip 29 = .ok (.getfield 12, 3) := by decide +kernel
theorem dX7_zip_32 : decode cX7_zip 32 = .ok (.iload_n 1, 1) := by decide +kernel
theorem dX7_zip_33 : decode cX7_zip 33 = .ok (.invokevirtual 86, 3) := by decide +kernel
theorem dX7_zip_36 : decode cX7_zip 36 = .ok (.ifCond .ge 10, 3) := by decide +kernel
theorem dX7_zip_39 : decode cX7_zip 39 = .ok (.aload_n 0, 1) := by decide +kernel
theorem dX7_zip_40 : decode cX7_zip 40 = .ok (.ldc 115, 2) := by decide +kernel
theorem dX7_zip_42 : decode cX7_zip 42 = .ok (.invokevirtual 52, 3) := by decide +kernel
theorem dX7_zip_45 : decode cX7_zip 45 = .ok (.ireturn, 1) := by decide +kernel
theorem dX7_zip_46 : decode cX7_zip 46 = .ok (.aload_n 0, 1) := by decide +kernel
theorem dX7_zip_47 : decode cX7_zip 47 = .ok (.getfield 12, 3) := by decide +kernel
theorem dX7_zip_50 : decode cX7_zip 50 = .ok (.iload_n 1, 1) := by decide +kernel
theorem dX7_zip_51 : decode cX7_zip 51 = .ok (.invokevirtual 126, 3) := by decide +kernel
theorem dX7_zip_54 : decode cX7_zip 54 = .ok (.ireturn, 1) := by decide +kernel
theorem dX7_feed_0 : decode cX7_feed 0 = .ok (.iload_n 3, 1) := by decide +kernel
theorem dX7_feed_1 : decode cX7_feed 1 = .ok (.iconst 1, 1) := by decide +kernel
theorem dX7_feed_2 : decode cX7_feed 2 = .ok (.if_icmp .lt 9, 3) := by decide +kernel
theorem dX7_feed_5 : decode cX7_feed 5 = .ok (.iload_n 3, 1) := by decide +kernel
theorem dX7_feed_6 : decode cX7_feed 6 = .ok (.bipush 8, 2) := by decide +kernel
theorem dX7_feed_8 : decode cX7_feed 8 = .ok (.if_icmp .le 10, 3) := by decide +kernel
theorem dX7_feed_11 : decode cX7_feed 11 = .ok (.aload_n 0, 1) := by decide +kernel
theorem dX7_feed_12 : decode cX7_feed 12 = .ok (.ldc 51, 2) := by decide +kernel
theorem dX7_feed_14 : decode cX7_feed 14 = .ok (.invokevirtual 52, 3) := by decide +kernel
theorem dX7_feed_17 : decode cX7_feed 17 = .ok (.ireturn, 1) := by decide +kernel
theorem dX7_feed_18 : decode cX7_feed 18 = .ok (.aload_n 0, 1) := by decide +kernel
theorem dX7_feed_19 : decode cX7_feed 19 = .ok (.getfield 12, 3) := by decide +kernel
theorem dX7_feed_22 : decode cX7_feed 22 = .ok (.getfield 129, 3) := by decide +kernel
theorem dX7_feed_25 : decode cX7_feed 25 = .ok (.getfield 120, 3) := by decide +kernel
theorem dX7_feed_28 : decode cX7_feed 28 = .ok (.iload_n 3, 1) := by decide +kernel
theorem dX7_feed_29 : decode cX7_feed 29 = .ok (.iadd, 1) := by decide +kernel
theorem dX7_feed_30 : decode cX7_feed 30 = .ok (.bipush 60, 2) := by decide +kernel
theorem dX7_feed_32 : decode cX7_feed 32 = .ok (.if_icmp .le 10, 3) := by decide +kernel
theorem dX7_feed_35 : decode cX7_feed 35 = .ok (.aload_n 0, 1) := by decide +kernel
theorem dX7_feed_36 : decode cX7_feed 36 = .ok (.ldc 60, 2) := by decide +kernel
theorem dX7_feed_38 : decode cX7_feed 38 = .ok (.invokevirtual 52, 3) := by decide +kernel
theorem dX7_feed_41 : decode cX7_feed 41 = .ok (.ireturn, 1) := by decide +kernel
theorem dX7_feed_42 : decode cX7_feed 42 = .ok (.iconst 0, 1) := by decide +kernel
theorem dX7_feed_43 : decode cX7_feed 43 = .ok (.istore 4, 2) := by decide +kernel
theorem dX7_feed_45 : decode cX7_feed 45 = .ok (.iload 4, 2) := by decide +kernel
theorem dX7_feed_47 : decode cX7_feed 47 = .ok (.iload_n 3, 1) := by decide +kernel
theorem dX7_feed_48 : decode cX7_feed 48 = .ok (.if_icmp .ge 31, 3) := by decide +kernel
theorem dX7_feed_51 : decode cX7_feed 51 = .ok (.aload_n 0, 1) := by decide +kernel
theorem dX7_feed_52 : decode cX7_feed 52 = .ok (.getfield 12, 3) := by decide +kernel
theorem dX7_feed_55 : decode cX7_feed 55 = .ok (.getfield 129, 3) := by decide +kernel
theorem dX7_feed_58 : decode cX7_feed 58 = .ok (.lload_n 1, 1) := by decide +kernel
theorem dX7_feed_59 : decode cX7_feed 59 = .ok (.bipush 8, 2) := by decide +kernel
theorem dX7_feed_61 : decode cX7_feed 61 = .ok (.iload 4, 2) := by decide +kernel
theorem dX7_feed_63 : decode cX7_feed 63 = .ok (.imul, 1) := by decide +kernel
theorem dX7_feed_64 : decode cX7_feed 64 = .ok (.lushr, 1) := by decide +kernel
theorem dX7_feed_65 : decode cX7_feed 65 = .ok (.ldc2_w 132, 3) := by decide +kernel
theorem dX7_feed_68 : decode cX7_feed 68 = .ok (.land, 1) := by decide +kernel
theorem dX7_feed_69 : decode cX7_feed 69 = .ok (.l2i, 1) := by decide +kernel
theorem dX7_feed_70 : decode cX7_feed 70 = .ok (.invokevirtual 134, 3) := by decide +kernel
theorem dX7_feed_73 : decode cX7_feed 73 = .ok (.iinc 4 1, 3) := by decide +kernel
theorem dX7_feed_76 : decode cX7_feed 76 = .ok (.goto (-31), 3) := by decide +kernel
theorem dX7_feed_79 : decode cX7_feed 79 = .ok (.aload_n 0, 1) := by decide +kernel
theorem dX7_feed_80 : decode cX7_feed 80 = .ok (.getfield 12, 3) := by decide +kernel
theorem dX7_feed_83 : decode cX7_feed 83 = .ok (.getfield 129, 3) := by decide +kernel
theorem dX7_feed_86 : decode cX7_feed 86 = .ok (.getfield 120, 3) := by decide +kernel
theorem dX7_feed_89 : decode cX7_feed 89 = .ok (.ireturn, 1) := by decide +kernel
theorem dX7_text_0 : decode cX7_text 0 = .ok (.iload_n 1, 1) := by decide +kernel
theorem dX7_text_1 : decode cX7_text 1 = .ok (.invokestatic 137, 3) := by decide +kernel
theorem dX7_text_4 : decode cX7_text 4 = .ok (.ifCond .ne 10, 3) := by decide +kernel
theorem dX7_text_7 : decode cX7_text 7 = .ok (.aload_n 0, 1) := by decide +kernel
theorem dX7_text_8 : decode cX7_text 8 = .ok (.ldc 51, 2) := by decide +kernel
theorem dX7_text_10 : decode cX7_text 10 = .ok (.invokevirtual 52, 3) := by decide +kernel
theorem dX7_text_13 : decode cX7_text 13 = .ok (.ireturn, 1) := by decide +kernel
theorem dX7_text_14 : decode cX7_text 14 = .ok (.aload_n 0, 1) := by decide +kernel
theorem dX7_text_15 : decode cX7_text 15 = .ok (.getfield 12, 3) := by decide +kernel
theorem dX7_text_18 : decode cX7_text 18 = .ok (.getfield 140, 3) := by decide +kernel
theorem dX7_text_21 : decode cX7_text 21 = .ok (.iload_n 1, 1) := by decide +kernel
theorem dX7_text_22 : decode cX7_text 22 = .ok (.aaload, 1) := by decide +kernel
theorem dX7_text_23 : decode cX7_text 23 = .ok (.aload_n 0, 1) := by decide +kernel
theorem dX7_text_24 : decode cX7_text 24 = .ok (.getfield 12, 3) := by decide +kernel
theorem dX7_text_27 : decode cX7_text 27 = .ok (.getfield 129, 3) := by decide +kernel
theorem dX7_text_30 : decode cX7_text 30 = .ok (.iload_n 1, 1) := by decide +kernel
theorem dX7_text_31 : decode cX7_text 31 = .ok (.ifCond .ne 8, 3) := by decide +kernel
theorem dX7_text_34 : decode cX7_text 34 = .ok (.ldc 144, 2) := by decide +kernel
theorem dX7_text_36 : decode cX7_text 36 = .ok (.goto 5, 3) := by decide +kernel
theorem dX7_text_39 : decode cX7_text 39 = .ok (.ldc 146, 2) := by decide +kernel
theorem dX7_text_41 : decode cX7_text 41 = .ok (.invokevirtual 148, 3) := by decide +kernel
theorem dX7_text_44 : decode cX7_text 44 = .ok (.istore_n 2, 1) := by decide +kernel
theorem dX7_text_45 : decode cX7_text 45 = .ok (.aload_n 0, 1) := by decide +kernel
theorem dX7_text_46 : decode cX7_text 46 = .ok (.getfield 12, 3) := by decide +kernel
theorem dX7_text_49 : decode cX7_text 49 = .ok (.getfield 129, 3) := by decide +kernel
theorem dX7_text_52 : decode cX7_text 52 = .ok (.iconst 0, 1) := by decide +kernel
theorem dX7_text_53 : decode cX7_text 53 = .ok (.putfield 120, 3) := by decide +kernel
theorem dX7_text_56 : decode cX7_text 56 = .ok (.iload_n 2, 1) := by decide +kernel
theorem dX7_text_57 : decode cX7_text 57 = .ok (.ifCond .ge 7, 3) := by decide +kernel
theorem dX7_text_60 : decode cX7_text 60 = .ok (.iconst 1, 1) := by decide +kernel
theorem dX7_text_61 : decode cX7_text 61 = .ok (.goto 7, 3) := by decide +kernel
theorem dX7_text_64 : decode cX7_text 64 = .ok (.bipush (-10), 2) := by decide +kernel
theorem dX7_text_66 : decode cX7_text 66 = .ok (.iload_n 2, 1) := by decide +kernel
theorem dX7_text_67 : decode cX7_text 67 = .ok (.isub, 1) := by decide +kernel
theorem dX7_text_68 : decode cX7_text 68 = .ok (.ireturn, 1) := by decide +kernel
theorem dX7_untell_0 : decode cX7_untell 0 = .ok (.iload_n 1, 1) := by decide +kernel
theorem dX7_untell_1 : decode cX7_untell 1 = .ok (.invokestatic 137, 3) := by decide +kernel
theorem dX7_untell_4 : decode cX7_untell 4 = .ok (.ifCond .ne 10, 3) := by decide +kernel
theorem dX7_untell_7 : decode cX7_untell 7 = .ok (.aload_n 0, 1) := by decide +kernel
theorem dX7_untell_8 : decode cX7_untell 8 = .ok (.ldc 51, 2) := by decide +kernel
theorem dX7_untell_10 : decode cX7_untell 10 = .ok (.invokevirtual 52, 3) := by decide +kernel
theorem dX7_untell_13 : decode cX7_untell 13 = .ok (.ireturn, 1) := by decide +kernel
theorem dX7_untell_14 : decode cX7_untell 14 = .ok (.aload_n 0, 1) := by decide +kernel
theorem dX7_untell_15 : decode cX7_untell 15 = .ok (.getfield 12, 3) := by decide +kernel
theorem dX7_untell_18 : decode cX7_untell 18 = .ok (.getfield 140, 3) := by decide +kernel
theorem dX7_untell_21 : decode cX7_untell 21 = .ok (.iload_n 1, 1) := by decide +kernel
theorem dX7_untell_22 : decode cX7_untell 22 = .ok (.aaload, 1) := by decide +kernel
theorem dX7_untell_23 : decode cX7_untell 23 = .ok (.invokevirtual 154, 3) := by decide +kernel
theorem dX7_untell_26 : decode cX7_untell 26 = .ok (.ifCond .eq 7, 3) := by decide +kernel
theorem dX7_untell_29 : decode cX7_untell 29 = .ok (.iconst 1, 1) := by decide +kernel
theorem dX7_untell_30 : decode cX7_untell 30 = .ok (.goto 4, 3) := by decide +kernel
theorem dX7_untell_33 : decode cX7_untell 33 = .ok (.iconst 0, 1) := by decide +kernel
theorem dX7_untell_34 : decode cX7_untell 34 = .ok (.istore_n 2, 1) := by decide +kernel
theorem dX7_untell_35 : decode cX7_untell 35 = .ok (.aload_n 0, 1) := by decide +kernel
theorem dX7_untell_36 : decode cX7_untell 36 = .ok (.getfield 12, 3) := by decide +kernel
theorem dX7_untell_39 : decode cX7_untell 39 = .ok (.getfield 140, 3) := by decide +kernel
theorem dX7_untell_42 : decode cX7_untell 42 = .ok (.iload_n 1, 1) := by decide +kernel
theorem dX7_untell_43 : decode cX7_untell 43 = .ok (.aaload, 1) := by decide +kernel
theorem dX7_untell_44 : decode cX7_untell 44 = .ok (.getfield 158, 3) := by decide +kernel
theorem dX7_untell_47 : decode cX7_untell 47 = .ok (.iconst 0, 1) := by decide +kernel
theorem dX7_untell_48 : decode cX7_untell 48 = .ok (.putfield 120, 3) := by decide +kernel
theorem dX7_untell_51 : decode cX7_untell 51 = .ok (.iload_n 2, 1) := by decide +kernel
theorem dX7_untell_52 : decode cX7_untell 52 = .ok (.ireturn, 1) := by decide +kernel
theorem dX7_law_0 : decode cX7_law 0 = .ok (.iload_n 1, 1) := by decide +kernel
theorem dX7_law_1 : decode cX7_law 1 = .ok (.invokestatic 137, 3) := by decide +kernel
theorem dX7_law_4 : decode cX7_law 4 = .ok (.ifCond .ne 10, 3) := by decide +kernel
theorem dX7_law_7 : decode cX7_law 7 = .ok (.aload_n 0, 1) := by decide +kernel
theorem dX7_law_8 : decode cX7_law 8 = .ok (.ldc 51, 2) := by decide +kernel
theorem dX7_law_10 : decode cX7_law 10 = .ok (.invokevirtual 52, 3) := by decide +kernel
theorem dX7_law_13 : decode cX7_law 13 = .ok (.ireturn, 1) := by decide +kernel
theorem dX7_law_14 : decode cX7_law 14 = .ok (.aload_n 0, 1) := by decide +kernel
theorem dX7_law_15 : decode cX7_law 15 = .ok (.getfield 12, 3) := by decide +kernel
theorem dX7_law_18 : decode cX7_law 18 = .ok (.iload_n 1, 1) := by decide +kernel
theorem dX7_law_19 : decode cX7_law 19 = .ok (.iload_n 2, 1) := by decide +kernel
theorem dX7_law_20 : decode cX7_law 20 = .ok (.iload_n 3, 1) := by decide +kernel
theorem dX7_law_21 : decode cX7_law 21 = .ok (.iload 4, 2) := by decide +kernel
theorem dX7_law_23 : decode cX7_law 23 = .ok (.invokevirtual 161, 3) := by decide +kernel
theorem dX7_law_26 : decode cX7_law 26 = .ok (.ireturn, 1) := by decide +kernel
theorem dX7_seconds_0 : decode cX7_seconds 0 = .ok (.aload_n 0, 1) := by decide +kernel
theorem dX7_seconds_1 : decode cX7_seconds 1 = .ok (.getfield 12, 3) := by decide +kernel
theorem dX7_seconds_4 : decode cX7_seconds 4 = .ok (.iload_n 1, 1) := by decide +kernel
theorem dX7_seconds_5 : decode cX7_seconds 5 = .ok (.invokevirtual 65, 3) := by decide +kernel
theorem dX7_seconds_8 : decode cX7_seconds 8 = .ok (.ifCond .eq 10, 3) := by decide +kernel
theorem dX7_seconds_11 : decode cX7_seconds 11 = .ok (.iload_n 2, 1) := by decide +kernel
theorem dX7_seconds_12 : decode cX7_seconds 12 = .ok (.invokestatic 165, 3) := by decide +kernel
theorem dX7_seconds_15 : decode cX7_seconds 15 = .ok (.ifCond .ne 10, 3) := by decide +kernel
theorem dX7_seconds_18 : decode cX7_seconds 18 = .ok (.aload_n 0, 1) := by decide +kernel
theorem dX7_seconds_19 : decode cX7_seconds 19 = .ok (.ldc 51, 2) := by decide +kernel
theorem dX7_seconds_21 : decode cX7_seconds 21 = .ok (.invokevirtual 52, 3) := by decide +kernel
theorem dX7_seconds_24 : decode cX7_seconds 24 = .ok (.ireturn, 1) := by decide +kernel
theorem dX7_seconds_25 : decode cX7_seconds 25 = .ok (.aload_n 0, 1) := by decide +kernel
theorem dX7_seconds_26 : decode cX7_seconds 26 = .ok (.getfield 12, 3) := by decide +kernel
theorem dX7_seconds_29 : decode cX7_seconds 29 = .ok (.iload_n 1, 1) := by decide +kernel
theorem dX7_seconds_30 : decode cX7_seconds 30 = .ok (.invokevirtual 86, 3) := by decide +kernel
theorem dX7_seconds_33 : decode cX7_seconds 33 = .ok (.bipush (-2), 2) := by decide +kernel
theorem dX7_seconds_35 : decode cX7_seconds 35 = .ok (.if_icmp .ne 10, 3) := by decide +kernel
theorem dX7_seconds_38 : decode cX7_seconds 38 = .ok (.aload_n 0, 1) := by decide +kernel
theorem dX7_seconds_39 : decode cX7_seconds 39 = .ok (.ldc 115, 2) := by decide +kernel
theorem dX7_seconds_41 : decode cX7_seconds 41 = .ok (.invokevirtual 52, 3) := by decide +kernel
theorem dX7_seconds_44 : decode cX7_seconds 44 = .ok (.ireturn, 1) := by decide +kernel
theorem dX7_seconds_45 : decode cX7_seconds 45 = .ok (.aload_n 0, 1) := by decide +kernel
theorem dX7_seconds_46 : decode cX7_seconds 46 = .ok (.getfield 12, 3) := by decide +kernel
theorem dX7_seconds_49 : decode cX7_seconds 49 = .ok (.iload_n 1, 1) := by decide +kernel
theorem dX7_seconds_50 : decode cX7_seconds 50 = .ok (.iload_n 2, 1) := by decide +kernel
theorem dX7_seconds_51 : decode cX7_seconds 51 = .ok (.invokevirtual 168, 3) := by decide +kernel
theorem dX7_seconds_54 : decode cX7_seconds 54 = .ok (.ireturn, 1) := by decide +kernel
theorem dX7_best_0 : decode cX7_best 0 = .ok (.aload_n 0, 1) := by decide +kernel
theorem dX7_best_1 : decode cX7_best 1 = .ok (.getfield 12, 3) := by decide +kernel
theorem dX7_best_4 : decode cX7_best 4 = .ok (.iload_n 1, 1) := by decide +kernel
theorem dX7_best_5 : decode cX7_best 5 = .ok (.invokevirtual 65, 3) := by decide +kernel
theorem dX7_best_8 : decode cX7_best 8 = .ok (.ifCond .eq 12, 3) := by decide +kernel
theorem dX7_best_11 : decode cX7_best 11 = .ok (.iload_n 2, 1) := by decide +kernel
theorem dX7_best_12 : decode cX7_best 12 = .ok (.ifCond .lt 8, 3) := by decide +kernel
theorem dX7_best_15 : decode cX7_best 15 = .ok (.iload_n 2, 1) := by decide +kernel
theorem dX7_best_16 : decode cX7_best 16 = .ok (.iconst 1, 1) := by decide +kernel
theorem dX7_best_17 : decode cX7_best 17 = .ok (.if_icmp .le 10, 3) := by decide +kernel
theorem dX7_best_20 : decode cX7_best 20 = .ok (.aload_n 0, 1) := by decide +kernel
theorem dX7_best_21 : decode cX7_best 21 = .ok (.ldc 51, 2) := by decide +kernel
theorem dX7_best_23 : decode cX7_best 23 = .ok (.invokevirtual 52, 3) := by decide +kernel
theorem dX7_best_26 : decode cX7_best 26 = .ok (.ireturn, 1) := by decide +kernel
theorem dX7_best_27 : decode cX7_best 27 = .ok (.aload_n 0, 1) := by decide +kernel
theorem dX7_best_28 : decode cX7_best 28 = .ok (.getfield 12, 3) := by decide +kernel
theorem dX7_best_31 : decode cX7_best 31 = .ok (.iload_n 1, 1) := by decide +kernel
theorem dX7_best_32 : decode cX7_best 32 = .ok (.invokevirtual 86, 3) := by decide +kernel
theorem dX7_best_35 : decode cX7_best 35 = .ok (.bipush (-2), 2) := by decide +kernel
theorem dX7_best_37 : decode cX7_best 37 = .ok (.if_icmp .ne 10, 3) := by decide +kernel
theorem dX7_best_40 : decode cX7_best 40 = .ok (.aload_n 0, 1) := by decide +kernel
theorem dX7_best_41 : decode cX7_best 41 = .ok (.ldc 115, 2) := by decide +kernel
theorem dX7_best_43 : decode cX7_best 43 = .ok (.invokevirtual 52, 3) := by decide +kernel
theorem dX7_best_46 : decode cX7_best 46 = .ok (.ireturn, 1) := by decide +kernel
theorem dX7_best_47 : decode cX7_best 47 = .ok (.aload_n 0, 1) := by decide +kernel
theorem dX7_best_48 : decode cX7_best 48 = .ok (.getfield 12, 3) := by decide +kernel
theorem dX7_best_51 : decode cX7_best 51 = .ok (.iload_n 1, 1) := by decide +kernel
theorem dX7_best_52 : decode cX7_best 52 = .ok (.invokevirtual 172, 3) := by decide +kernel
theorem dX7_best_55 : decode cX7_best 55 = .ok (.istore_n 3, 1) := by decide +kernel
theorem dX7_best_56 : decode cX7_best 56 = .ok (.iload_n 2, 1) := by decide +kernel
theorem dX7_best_57 : decode cX7_best 57 = .ok (.ifCond .ne 7, 3) := by decide +kernel
theorem dX7_best_60 : decode cX7_best 60 = .ok (.iload_n 3, 1) := by decide +kernel
theorem dX7_best_61 : decode cX7_best 61 = .ok (.goto 12, 3) := by decide +kernel
theorem dX7_best_64 : decode cX7_best 64 = .ok (.aload_n 0, 1) := by decide +kernel
theorem dX7_best_65 : decode cX7_best 65 = .ok (.getfield 12, 3) := by decide +kernel
theorem dX7_best_68 : decode cX7_best 68 = .ok (.iload_n 1, 1) := by decide +kernel
theorem dX7_best_69 : decode cX7_best 69 = .ok (.iload_n 3, 1) := by decide +kernel
theorem dX7_best_70 : decode cX7_best 70 = .ok (.invokevirtual 168, 3) := by decide +kernel
theorem dX7_best_73 : decode cX7_best 73 = .ok (.ireturn, 1) := by decide +kernel
theorem dX7_takes_0 : decode cX7_takes 0 = .ok (.aload_n 0, 1) := by decide +kernel
theorem dX7_takes_1 : decode cX7_takes 1 = .ok (.getfield 12, 3) := by decide +kernel
theorem dX7_takes_4 : decode cX7_takes 4 = .ok (.iload_n 1, 1) := by decide +kernel
theorem dX7_takes_5 : decode cX7_takes 5 = .ok (.invokevirtual 65, 3) := by decide +kernel
theorem dX7_takes_8 : decode cX7_takes 8 = .ok (.ifCond .eq 10, 3) := by decide +kernel
theorem dX7_takes_11 : decode cX7_takes 11 = .ok (.iload_n 2, 1) := by decide +kernel
theorem dX7_takes_12 : decode cX7_takes 12 = .ok (.invokestatic 165, 3) := by decide +kernel
theorem dX7_takes_15 : decode cX7_takes 15 = .ok (.ifCond .ne 10, 3) := by decide +kernel
theorem dX7_takes_18 : decode cX7_takes 18 = .ok (.aload_n 0, 1) := by decide +kernel
theorem dX7_takes_19 : decode cX7_takes 19 = .ok (.ldc 51, 2) := by decide +kernel
theorem dX7_takes_21 : decode cX7_takes 21 = .ok (.invokevirtual 52, 3) := by decide +kernel
theorem dX7_takes_24 : decode cX7_takes 24 = .ok (.ireturn, 1) := by decide +kernel
theorem dX7_takes_25 : decode cX7_takes 25 = .ok (.aload_n 0, 1) := by decide +kernel
theorem dX7_takes_26 : decode cX7_takes 26 = .ok (.getfield 12, 3) := by decide +kernel
theorem dX7_takes_29 : decode cX7_takes 29 = .ok (.iload_n 1, 1) := by decide +kernel
theorem dX7_takes_30 : decode cX7_takes 30 = .ok (.invokevirtual 86, 3) := by decide +kernel
theorem dX7_takes_33 : decode cX7_takes 33 = .ok (.bipush (-2), 2) := by decide +kernel
theorem dX7_takes_35 : decode cX7_takes 35 = .ok (.if_icmp .ne 10, 3) := by decide +kernel
theorem dX7_takes_38 : decode cX7_takes 38 = .ok (.aload_n 0, 1) := by decide +kernel
theorem dX7_takes_39 : decode cX7_takes 39 = .ok (.ldc 115, 2) := by decide +kernel
theorem dX7_takes_41 : decode cX7_takes 41 = .ok (.invokevirtual 52, 3) := by decide +kernel
theorem dX7_takes_44 : decode cX7_takes 44 = .ok (.ireturn, 1) := by decide +kernel
theorem dX7_takes_45 : decode cX7_takes 45 = .ok (.aload_n 0, 1) := by decide +kernel
theorem dX7_takes_46 : decode cX7_takes 46 = .ok (.getfield 12, 3) := by decide +kernel
theorem dX7_takes_49 : decode cX7_takes 49 = .ok (.iload_n 1, 1) := by decide +kernel
theorem dX7_takes_50 : decode cX7_takes 50 = .ok (.iload_n 2, 1) := by decide +kernel
theorem dX7_takes_51 : decode cX7_takes 51 = .ok (.invokevirtual 175, 3) := by decide +kernel
theorem dX7_takes_54 : decode cX7_takes 54 = .ok (.ireturn, 1) := by decide +kernel
theorem dX7_walks_0 : decode cX7_walks 0 = .ok (.iload_n 1, 1) := by decide +kernel
theorem dX7_walks_1 : decode cX7_walks 1 = .ok (.iconst 1, 1) := by decide +kernel
theorem dX7_walks_2 : decode cX7_walks 2 = .ok (.if_icmp .lt 9, 3) := by decide +kernel
theorem dX7_walks_5 : decode cX7_walks 5 = .ok (.iload_n 1, 1) := by decide +kernel
theorem dX7_walks_6 : decode cX7_walks 6 = .ok (.bipush 100, 2) := by decide +kernel
theorem dX7_walks_8 : decode cX7_walks 8 = .ok (.if_icmp .le 10, 3) := by decide +kernel
theorem dX7_walks_11 : decode cX7_walks 11 = .ok (.aload_n 0, 1) := by decide +kernel
theorem dX7_walks_12 : decode cX7_walks 12 = .ok (.ldc 51, 2) := by decide +kernel
theorem dX7_walks_14 : decode cX7_walks 14 = .ok (.invokevirtual 52, 3) := by decide +kernel
theorem dX7_walks_17 : decode cX7_walks 17 = .ok (.ireturn, 1) := by decide +kernel
theorem dX7_walks_18 : decode cX7_walks 18 = .ok (.aload_n 0, 1) := by decide +kernel
theorem dX7_walks_19 : decode cX7_walks 19 = .ok (.getfield 12, 3) := by decide +kernel
theorem dX7_walks_22 : decode cX7_walks 22 = .ok (.getfield 89, 3) := by decide +kernel
theorem dX7_walks_25 : decode cX7_walks 25 = .ok (.iload_n 1, 1) := by decide +kernel
theorem dX7_walks_26 : decode cX7_walks 26 = .ok (.iadd, 1) := by decide +kernel
theorem dX7_walks_27 : decode cX7_walks 27 = .ok (.sipush 9999, 3) := by decide +kernel
theorem dX7_walks_30 : decode cX7_walks 30 = .ok (.if_icmp .le 10, 3) := by decide +kernel
theorem dX7_walks_33 : decode cX7_walks 33 = .ok (.aload_n 0, 1) := by decide +kernel
theorem dX7_walks_34 : decode cX7_walks 34 = .ok (.ldc 115, 2) := by decide +kernel
theorem dX7_walks_36 : decode cX7_walks 36 = .ok (.invokevirtual 52, 3) := by decide +kernel
theorem dX7_walks_39 : decode cX7_walks 39 = .ok (.ireturn, 1) := by decide +kernel
theorem dX7_walks_40 : decode cX7_walks 40 = .ok (.aload_n 0, 1) := by decide +kernel
theorem dX7_walks_41 : decode cX7_walks 41 = .ok (.getfield 12, 3) := by decide +kernel
theorem dX7_walks_44 : decode cX7_walks 44 = .ok (.iload_n 1, 1) := by decide +kernel
theorem dX7_walks_45 : decode cX7_walks 45 = .ok (.invokevirtual 178, 3) := by decide +kernel
theorem dX7_walks_48 : decode cX7_walks 48 = .ok (.aload_n 0, 1) := by decide +kernel
theorem dX7_walks_49 : decode cX7_walks 49 = .ok (.getfield 12, 3) := by decide +kernel
theorem dX7_walks_52 : decode cX7_walks 52 = .ok (.getfield 89, 3) := by decide +kernel
theorem dX7_walks_55 : decode cX7_walks 55 = .ok (.ireturn, 1) := by decide +kernel
theorem dX7_loose_0 : decode cX7_loose 0 = .ok (.iload_n 1, 1) := by decide +kernel
theorem dX7_loose_1 : decode cX7_loose 1 = .ok (.iconst 1, 1) := by decide +kernel
theorem dX7_loose_2 : decode cX7_loose 2 = .ok (.if_icmp .lt 9, 3) := by decide +kernel
theorem dX7_loose_5 : decode cX7_loose 5 = .ok (.iload_n 1, 1) := by decide +kernel
theorem dX7_loose_6 : decode cX7_loose 6 = .ok (.bipush 20, 2) := by decide +kernel
theorem dX7_loose_8 : decode cX7_loose 8 = .ok (.if_icmp .le 10, 3) := by decide +kernel
theorem dX7_loose_11 : decode cX7_loose 11 = .ok (.aload_n 0, 1) := by decide +kernel
theorem dX7_loose_12 : decode cX7_loose 12 = .ok (.ldc 51, 2) := by decide +kernel
theorem dX7_loose_14 : decode cX7_loose 14 = .ok (.invokevirtual 52, 3) := by decide +kernel
theorem dX7_loose_17 : decode cX7_loose 17 = .ok (.ireturn, 1) := by decide +kernel
theorem dX7_loose_18 : decode cX7_loose 18 = .ok (.aload_n 0, 1) := by decide +kernel
theorem dX7_loose_19 : decode cX7_loose 19 = .ok (.getfield 12, 3) := by decide +kernel
theorem dX7_loose_22 : decode cX7_loose 22 = .ok (.getfield 89, 3) := by decide +kernel
theorem dX7_loose_25 : decode cX7_loose 25 = .ok (.iconst 3, 1) := by decide +kernel
theorem dX7_loose_26 : decode cX7_loose 26 = .ok (.iload_n 1, 1) := by decide +kernel
theorem dX7_loose_27 : decode cX7_loose 27 = .ok (.imul, 1) := by decide +kernel
theorem dX7_loose_28 : decode cX7_loose 28 = .ok (.iadd, 1) := by decide +kernel
theorem dX7_loose_29 : decode cX7_loose 29 = .ok (.sipush 9999, 3) := by decide +kernel
theorem dX7_loose_32 : decode cX7_loose 32 = .ok (.if_icmp .le 10, 3) := by decide +kernel
theorem dX7_loose_35 : decode cX7_loose 35 = .ok (.aload_n 0, 1) := by decide +kernel
theorem dX7_loose_36 : decode cX7_loose 36 = .ok (.ldc 115, 2) := by decide +kernel
theorem dX7_loose_38 : decode cX7_loose 38 = .ok (.invokevirtual 52, 3) := by decide +kernel
theorem dX7_loose_41 : decode cX7_loose 41 = .ok (.ireturn, 1) := by decide +kernel
theorem dX7_loose_42 : decode cX7_loose 42 = .ok (.iconst 0, 1) := by decide +kernel
theorem dX7_loose_43 : decode cX7_loose 43 = .ok (.istore_n 2, 1) := by decide +kernel
theorem dX7_loose_44 : decode cX7_loose 44 = .ok (.iload_n 2, 1) := by decide +kernel
theorem dX7_loose_45 : decode cX7_loose 45 = .ok (.iload_n 1, 1) := by decide +kernel
theorem dX7_loose_46 : decode cX7_loose 46 = .ok (.if_icmp .ge 16, 3) := by decide +kernel
theorem dX7_loose_49 : decode cX7_loose 49 = .ok (.aload_n 0, 1) := by decide +kernel
theorem dX7_loose_50 : decode cX7_loose 50 = .ok (.getfield 12, 3) := by decide +kernel
theorem dX7_loose_53 : decode cX7_loose 53 = .ok (.invokevirtual 181, 3) := by decide +kernel
theorem dX7_loose_56 : decode cX7_loose 56 = .ok (.iinc 2 1, 3) := by decide +kernel
theorem dX7_loose_59 : decode cX7_loose 59 = .ok (.goto (-15), 3) := by decide +kernel
theorem dX7_loose_62 : decode cX7_loose 62 = .ok (.aload_n 0, 1) := by decide +kernel
theorem dX7_loose_63 : decode cX7_loose 63 = .ok (.getfield 12, 3) := by decide +kernel
theorem dX7_loose_66 : decode cX7_loose 66 = .ok (.getfield 184, 3) := by decide +kernel
theorem dX7_loose_69 : decode cX7_loose 69 = .ok (.ireturn, 1) := by decide +kernel
theorem dX7_seed_0 : decode cX7_seed 0 = .ok (.aload_n 0, 1) := by decide +kernel
theorem dX7_seed_1 : decode cX7_seed 1 = .ok (.getfield 12, 3) := by decide +kernel
theorem dX7_seed_4 : decode cX7_seed 4 = .ok (.getfield 187, 3) := by decide +kernel
theorem dX7_seed_7 : decode cX7_seed 7 = .ok (.istore_n 2, 1) := by decide +kernel
theorem dX7_seed_8 : decode cX7_seed 8 = .ok (.aload_n 0, 1) := by decide +kernel
theorem dX7_seed_9 : decode cX7_seed 9 = .ok (.getfield 12, 3) := by decide +kernel
theorem dX7_seed_12 : decode cX7_seed 12 = .ok (.iload_n 1, 1) := by decide +kernel
theorem dX7_seed_13 : decode cX7_seed 13 = .ok (.putfield 187, 3) := by decide +kernel
theorem dX7_seed_16 : decode cX7_seed 16 = .ok (.iload_n 2, 1) := by decide +kernel
theorem dX7_seed_17 : decode cX7_seed 17 = .ok (.ireturn, 1) := by decide +kernel
theorem dX7_then_0 : decode cX7_then 0 = .ok (.aload_n 0, 1) := by decide +kernel
theorem dX7_then_1 : decode cX7_then 1 = .ok (.getfield 12, 3) := by decide +kernel
theorem dX7_then_4 : decode cX7_then 4 = .ok (.iload_n 1, 1) := by decide +kernel
theorem dX7_then_5 : decode cX7_then 5 = .ok (.invokevirtual 65, 3) := by decide +kernel
theorem dX7_then_8 : decode cX7_then 8 = .ok (.ifCond .eq 13, 3) := by decide +kernel
theorem dX7_then_11 : decode cX7_then 11 = .ok (.iload_n 2, 1) := by decide +kernel
theorem dX7_then_12 : decode cX7_then 12 = .ok (.ifCond .lt 9, 3) := by decide +kernel
theorem dX7_then_15 : decode cX7_then 15 = .ok (.iload_n 2, 1) := by decide +kernel
theorem dX7_then_16 : decode cX7_then 16 = .ok (.bipush 100, 2) := by decide +kernel
theorem dX7_then_18 : decode cX7_then 18 = .ok (.if_icmp .le 10, 3) := by decide +kernel
theorem dX7_then_21 : decode cX7_then 21 = .ok (.aload_n 0, 1) := by decide +kernel
theorem dX7_then_22 : decode cX7_then 22 = .ok (.ldc 51, 2) := by decide +kernel
theorem dX7_then_24 : decode cX7_then 24 = .ok (.invokevirtual 52, 3) := by decide +kernel
theorem dX7_then_27 : decode cX7_then 27 = .ok (.ireturn, 1) := by decide +kernel
theorem dX7_then_28 : decode cX7_then 28 = .ok (.aload_n 0, 1) := by decide +kernel
theorem dX7_then_29 : decode cX7_then 29 = .ok (.getfield 35, 3) := by decide +kernel
theorem dX7_then_32 : decode cX7_then 32 = .ok (.aload_n 0, 1) := by decide +kernel
theorem dX7_then_33 : decode cX7_then 33 = .ok (.getfield 12, 3) := by decide +kernel
theorem dX7_then_36 : decode cX7_then 36 = .ok (.iload_n 1, 1) := by decide +kernel
theorem dX7_then_37 : decode cX7_then 37 = .ok (.iload_n 2, 1) := by decide +kernel
theorem dX7_then_38 : decode cX7_then 38 = .ok (.invokevirtual 190, 3) := by decide +kernel
theorem dX7_then_41 : decode cX7_then 41 = .ok (.ireturn, 1) := by decide +kernel
theorem dX7_settles_0 : decode cX7_settles 0 = .ok (.aload_n 0, 1) := by decide +kernel
theorem dX7_settles_1 : decode cX7_settles 1 = .ok (.getfield 35, 3) := by decide +kernel
theorem dX7_settles_4 : decode cX7_settles 4 = .ok (.aload_n 0, 1) := by decide +kernel
theorem dX7_settles_5 : decode cX7_settles 5 = .ok (.getfield 12, 3) := by decide +kernel
theorem dX7_settles_8 : decode cX7_settles 8 = .ok (.invokevirtual 194, 3) := by decide +kernel
theorem dX7_settles_11 : decode cX7_settles 11 = .ok (.istore_n 1, 1) := by decide +kernel
theorem dX7_settles_12 : decode cX7_settles 12 = .ok (.iload_n 1, 1) := by decide +kernel
theorem dX7_settles_13 : decode cX7_settles 13 = .ok (.iconst (-1), 1) := by decide +kernel
theorem dX7_settles_14 : decode cX7_settles 14 = .ok (.if_icmp .ne 12, 3) := by decide +kernel
theorem dX7_settles_17 : decode cX7_settles 17 = .ok (.aload_n 0, 1) := by decide +kernel
theorem dX7_settles_18 : decode cX7_settles 18 = .ok (.ldc 198, 2) := by decide +kernel
theorem dX7_settles_20 : decode cX7_settles 20 = .ok (.invokevirtual 52, 3) := by decide +kernel
theorem dX7_settles_23 : decode cX7_settles 23 = .ok (.goto 4, 3) := by decide +kernel
theorem dX7_settles_26 : decode cX7_settles 26 = .ok (.iload_n 1, 1) := by decide +kernel
theorem dX7_settles_27 : decode cX7_settles 27 = .ok (.ireturn, 1) := by decide +kernel
theorem dX7_pack_0 : decode cX7_pack 0 = .ok (.iload_n 1, 1) := by decide +kernel
theorem dX7_pack_1 : decode cX7_pack 1 = .ok (.ifCond .lt 20, 3) := by decide +kernel
theorem dX7_pack_4 : decode cX7_pack 4 = .ok (.iload_n 1, 1) := by decide +kernel
theorem dX7_pack_5 : decode cX7_pack 5 = .ok (.bipush 20, 2) := by decide +kernel
theorem dX7_pack_7 : decode cX7_pack 7 = .ok (.if_icmp .gt 14, 3) := by decide +kernel
theorem dX7_pack_10 : decode cX7_pack 10 = .ok (.iload_n 2, 1) := by decide +kernel
theorem dX7_pack_11 : decode cX7_pack 11 = .ok (.iconst (-1), 1) := by decide +kernel
theorem dX7_pack_12 : decode cX7_pack 12 = .ok (.if_icmp .lt 9, 3) := by decide +kernel
theorem dX7_pack_15 : decode cX7_pack 15 = .ok (.iload_n 2, 1) := by decide +kernel
theorem dX7_pack_16 : decode cX7_pack 16 = .ok (.bipush 6, 2) := by decide +kernel
theorem dX7_pack_18 : decode cX7_pack 18 = .ok (.if_icmp .lt 10, 3) := by decide +kernel
theorem dX7_pack_21 : decode cX7_pack 21 = .ok (.aload_n 0, 1) := by decide +kernel
theorem dX7_pack_22 : decode cX7_pack 22 = .ok (.ldc 51, 2) := by decide +kernel
theorem dX7_pack_24 : decode cX7_pack 24 = .ok (.invokevirtual 52, 3) := by decide +kernel
theorem dX7_pack_27 : decode cX7_pack 27 = .ok (.ireturn, 1) := by decide +kernel
theorem dX7_pack_28 : decode cX7_pack 28 = .ok (.aload_n 0, 1) := by decide +kernel
theorem dX7_pack_29 : decode cX7_pack 29 = .ok (.getfield 12, 3) := by decide +kernel
theorem dX7_pack_32 : decode cX7_pack 32 = .ok (.getfield 103, 3) := by decide +kernel
theorem dX7_pack_35 : decode cX7_pack 35 = .ok (.getfield 120, 3) := by decide +kernel
theorem dX7_pack_38 : decode cX7_pack 38 = .ok (.bipush 6, 2) := by decide +kernel
theorem dX7_pack_40 : decode cX7_pack 40 = .ok (.if_icmp .le 10, 3) := by decide +kernel
theorem dX7_pack_43 : decode cX7_pack 43 = .ok (.aload_n 0, 1) := by decide +kernel
theorem dX7_pack_44 : decode cX7_pack 44 = .ok (.ldc 115, 2) := by decide +kernel
theorem dX7_pack_46 : decode cX7_pack 46 = .ok (.invokevirtual 52, 3) := by decide +kernel
theorem dX7_pack_49 : decode cX7_pack 49 = .ok (.ireturn, 1) := by decide +kernel
theorem dX7_pack_50 : decode cX7_pack 50 = .ok (.iload_n 2, 1) := by decide +kernel
theorem dX7_pack_51 : decode cX7_pack 51 = .ok (.aload_n 0, 1) := by decide +kernel
theorem dX7_pack_52 : decode cX7_pack 52 = .ok (.getfield 12, 3) := by decide +kernel
theorem dX7_pack_55 : decode cX7_pack 55 = .ok (.getfield 103, 3) := by decide +kernel
theorem dX7_pack_58 : decode cX7_pack 58 = .ok (.getfield 120, 3) := by decide +kernel
theorem dX7_pack_61 : decode cX7_pack 61 = .ok (.if_icmp .lt 10, 3) := by decide +kernel
theorem dX7_pack_64 : decode cX7_pack 64 = .ok (.aload_n 0, 1) := by decide +kernel
theorem dX7_pack_65 : decode cX7_pack 65 = .ok (.ldc 198, 2) := by decide +kernel
theorem dX7_pack_67 : decode cX7_pack 67 = .ok (.invokevirtual 52, 3) := by decide +kernel
theorem dX7_pack_70 : decode cX7_pack 70 = .ok (.ireturn, 1) := by decide +kernel
theorem dX7_pack_71 : decode cX7_pack 71 = .ok (.aload_n 0, 1) := by decide +kernel
theorem dX7_pack_72 : decode cX7_pack 72 = .ok (.getfield 35, 3) := by decide +kernel
theorem dX7_pack_75 : decode cX7_pack 75 = .ok (.aload_n 0, 1) := by decide +kernel
theorem dX7_pack_76 : decode cX7_pack 76 = .ok (.getfield 12, 3) := by decide +kernel
theorem dX7_pack_79 : decode cX7_pack 79 = .ok (.iload_n 1, 1) := by decide +kernel
theorem dX7_pack_80 : decode cX7_pack 80 = .ok (.invokevirtual 199, 3) := by decide +kernel
theorem dX7_pack_83 : decode cX7_pack 83 = .ok (.istore_n 3, 1) := by decide +kernel
theorem dX7_pack_84 : decode cX7_pack 84 = .ok (.iload_n 2, 1) := by decide +kernel
theorem dX7_pack_85 : decode cX7_pack 85 = .ok (.iconst (-1), 1) := by decide +kernel
theorem dX7_pack_86 : decode cX7_pack 86 = .ok (.if_icmp .ne 7, 3) := by decide +kernel
theorem dX7_pack_89 : decode cX7_pack 89 = .ok (.iload_n 3, 1) := by decide +kernel
theorem dX7_pack_90 : decode cX7_pack 90 = .ok (.goto 15, 3) := by decide +kernel
theorem dX7_pack_93 : decode cX7_pack 93 = .ok (.aload_n 0, 1) := by decide +kernel
theorem dX7_pack_94 : decode cX7_pack 94 = .ok (.getfield 35, 3) := by decide +kernel
theorem dX7_pack_97 : decode cX7_pack 97 = .ok (.getfield 203, 3) := by decide +kernel
theorem dX7_pack_100 : decode cX7_pack 100 = .ok (.getfield 112, 3) := by decide +kernel
theorem dX7_pack_103 : decode cX7_pack 103 = .ok (.iload_n 2, 1) := by decide +kernel
theorem dX7_pack_104 : decode cX7_pack 104 = .ok (.iaload, 1) := by decide +kernel
theorem dX7_pack_105 : decode cX7_pack 105 = .ok (.ireturn, 1) := by decide +kernel
theorem dX7_out_0 : decode cX7_out 0 = .ok (.aload_n 0, 1) := by decide +kernel
theorem dX7_out_1 : decode cX7_out 1 = .ok (.getfield 12, 3) := by decide +kernel
theorem dX7_out_4 : decode cX7_out 4 = .ok (.iload_n 1, 1) := by decide +kernel
theorem dX7_out_5 : decode cX7_out 5 = .ok (.invokevirtual 65, 3) := by decide +kernel
theorem dX7_out_8 : decode cX7_out 8 = .ok (.ifCond .eq 19, 3) := by decide +kernel
theorem dX7_out_11 : decode cX7_out 11 = .ok (.iload_n 2, 1) := by decide +kernel
theorem dX7_out_12 : decode cX7_out 12 = .ok (.invokestatic 206, 3) := by decide +kernel
theorem dX7_out_15 : decode cX7_out 15 = .ok (.ifCond .eq 12, 3) := by decide +kernel
theorem dX7_out_18 : decode cX7_out 18 = .ok (.iload_n 3, 1) := by decide +kernel
theorem dX7_out_19 : decode cX7_out 19 = .ok (.ifCond .lt 8, 3) := by decide +kernel
theorem dX7_out_22 : decode cX7_out 22 = .ok (.iload_n 3, 1) := by decide +kernel
theorem dX7_out_23 : decode cX7_out 23 = .ok (.iconst 1, 1) := by decide +kernel
theorem dX7_out_24 : decode cX7_out 24 = .ok (.if_icmp .le 10, 3) := by decide +kernel
theorem dX7_out_27 : decode cX7_out 27 = .ok (.aload_n 0, 1) := by decide +kernel
theorem dX7_out_28 : decode cX7_out 28 = .ok (.ldc 51, 2) := by decide +kernel
theorem dX7_out_30 : decode cX7_out 30 = .ok (.invokevirtual 52, 3) := by decide +kernel
theorem dX7_out_33 : decode cX7_out 33 = .ok (.ireturn, 1) := by decide +kernel
theorem dX7_out_34 : decode cX7_out 34 = .ok (.aload_n 0, 1) := by decide +kernel
theorem dX7_out_35 : decode cX7_out 35 = .ok (.getfield 12, 3) := by decide +kernel
theorem dX7_out_38 : decode cX7_out 38 = .ok (.iload_n 1, 1) := by decide +kernel
theorem dX7_out_39 : decode cX7_out 39 = .ok (.invokevirtual 86, 3) := by decide +kernel
theorem dX7_out_42 : decode cX7_out 42 = .ok (.ifCond .ge 10, 3) := by decide +kernel
theorem dX7_out_45 : decode cX7_out 45 = .ok (.aload_n 0, 1) := by decide +kernel
theorem dX7_out_46 : decode cX7_out 46 = .ok (.ldc 115, 2) := by decide +kernel
theorem dX7_out_48 : decode cX7_out 48 = .ok (.invokevirtual 52, 3) := by decide +kernel
theorem dX7_out_51 : decode cX7_out 51 = .ok (.ireturn, 1) := by decide +kernel
theorem dX7_out_52 : decode cX7_out 52 = .ok (.aload_n 0, 1) := by decide +kernel
theorem dX7_out_53 : decode cX7_out 53 = .ok (.getfield 35, 3) := by decide +kernel
theorem dX7_out_56 : decode cX7_out 56 = .ok (.aload_n 0, 1) := by decide +kernel
theorem dX7_out_57 : decode cX7_out 57 = .ok (.getfield 12, 3) := by decide +kernel
theorem dX7_out_60 : decode cX7_out 60 = .ok (.iload_n 1, 1) := by decide +kernel
theorem dX7_out_61 : decode cX7_out 61 = .ok (.iload_n 2, 1) := by decide +kernel
theorem dX7_out_62 : decode cX7_out 62 = .ok (.invokevirtual 209, 3) := by decide +kernel
theorem dX7_out_65 : decode cX7_out 65 = .ok (.istore 4, 2) := by decide +kernel
theorem dX7_out_67 : decode cX7_out 67 = .ok (.iload 4, 2) := by decide +kernel
theorem dX7_out_69 : decode cX7_out 69 = .ok (.iconst (-1), 1) := by decide +kernel
theorem dX7_out_70 : decode cX7_out 70 = .ok (.if_icmp .ne 10, 3) := by decide +kernel
theorem dX7_out_73 : decode cX7_out 73 = .ok (.aload_n 0, 1) := by decide +kernel
theorem dX7_out_74 : decode cX7_out 74 = .ok (.ldc 198, 2) := by decide +kernel
theorem dX7_out_76 : decode cX7_out 76 = .ok (.invokevirtual 52, 3) := by decide +kernel
theorem dX7_out_79 : decode cX7_out 79 = .ok (.ireturn, 1) := by decide +kernel
theorem dX7_out_80 : decode cX7_out 80 = .ok (.iload_n 3, 1) := by decide +kernel
theorem dX7_out_81 : decode cX7_out 81 = .ok (.ifCond .ne 11, 3) := by decide +kernel
theorem dX7_out_84 : decode cX7_out 84 = .ok (.iload 4, 2) := by decide +kernel
theorem dX7_out_86 : decode cX7_out 86 = .ok (.invokestatic 212, 3) := by decide +kernel
theorem dX7_out_89 : decode cX7_out 89 = .ok (.goto 5, 3) := by decide +kernel
theorem dX7_out_92 : decode cX7_out 92 = .ok (.iload 4, 2) := by decide +kernel
theorem dX7_out_94 : decode cX7_out 94 = .ok (.ireturn, 1) := by decide +kernel
theorem dX7_odds_0 : decode cX7_odds 0 = .ok (.iload_n 1, 1) := by decide +kernel
theorem dX7_odds_1 : decode cX7_odds 1 = .ok (.invokestatic 206, 3) := by decide +kernel
theorem dX7_odds_4 : decode cX7_odds 4 = .ok (.ifCond .eq 12, 3) := by decide +kernel
theorem dX7_odds_7 : decode cX7_odds 7 = .ok (.iload_n 2, 1) := by decide +kernel
theorem dX7_odds_8 : decode cX7_odds 8 = .ok (.ifCond .lt 8, 3) := by decide +kernel
theorem dX7_odds_11 : decode cX7_odds 11 = .ok (.iload_n 2, 1) := by decide +kernel
theorem dX7_odds_12 : decode cX7_odds 12 = .ok (.iconst 1, 1) := by decide +kernel
theorem dX7_odds_13 : decode cX7_odds 13 = .ok (.if_icmp .le 10, 3) := by decide +kernel
theorem dX7_odds_16 : decode cX7_odds 16 = .ok (.aload_n 0, 1) := by decide +kernel
theorem dX7_odds_17 : decode cX7_odds 17 = .ok (.ldc 51, 2) := by decide +kernel
theorem dX7_odds_19 : decode cX7_odds 19 = .ok (.invokevirtual 52, 3) := by decide +kernel
theorem dX7_odds_22 : decode cX7_odds 22 = .ok (.ireturn, 1) := by decide +kernel
theorem dX7_odds_23 : decode cX7_odds 23 = .ok (.aload_n 0, 1) := by decide +kernel
theorem dX7_odds_24 : decode cX7_odds 24 = .ok (.getfield 35, 3) := by decide +kernel
theorem dX7_odds_27 : decode cX7_odds 27 = .ok (.aload_n 0, 1) := by decide +kernel
theorem dX7_odds_28 : decode cX7_odds 28 = .ok (.getfield 12, 3) := by decide +kernel
theorem dX7_odds_31 : decode cX7_odds 31 = .ok (.ldc 217, 2) := by decide +kernel
theorem dX7_odds_33 : decode cX7_odds 33 = .ok (.invokevirtual 218, 3) := by decide +kernel
theorem dX7_odds_36 : decode cX7_odds 36 = .ok (.istore_n 3, 1) := by decide +kernel
theorem dX7_odds_37 : decode cX7_odds 37 = .ok (.iload_n 3, 1) := by decide +kernel
theorem dX7_odds_38 : decode cX7_odds 38 = .ok (.ifCond .ne 10, 3) := by decide +kernel
theorem dX7_odds_41 : decode cX7_odds 41 = .ok (.aload_n 0, 1) := by decide +kernel
theorem dX7_odds_42 : decode cX7_odds 42 = .ok (.ldc 115, 2) := by decide +kernel
theorem dX7_odds_44 : decode cX7_odds 44 = .ok (.invokevirtual 52, 3) := by decide +kernel
theorem dX7_odds_47 : decode cX7_odds 47 = .ok (.ireturn, 1) := by decide +kernel
theorem dX7_odds_48 : decode cX7_odds 48 = .ok (.aload_n 0, 1) := by decide +kernel
theorem dX7_odds_49 : decode cX7_odds 49 = .ok (.getfield 35, 3) := by decide +kernel
theorem dX7_odds_52 : decode cX7_odds 52 = .ok (.aload_n 0, 1) := by decide +kernel
theorem dX7_odds_53 : decode cX7_odds 53 = .ok (.getfield 12, 3) := by decide +kernel
theorem dX7_odds_56 : decode cX7_odds 56 = .ok (.iload_n 1, 1) := by decide +kernel
theorem dX7_odds_57 : decode cX7_odds 57 = .ok (.invokevirtual 218, 3) := by decide +kernel
theorem dX7_odds_60 : decode cX7_odds 60 = .ok (.istore 4, 2) := by decide +kernel
theorem dX7_odds_62 : decode cX7_odds 62 = .ok (.iload_n 3, 1) := by decide +kernel
theorem dX7_odds_63 : decode cX7_odds 63 = .ok (.iload 4, 2) := by decide +kernel
theorem dX7_odds_65 : decode cX7_odds 65 = .ok (.invokestatic 221, 3) := by decide +kernel
theorem dX7_odds_68 : decode cX7_odds 68 = .ok (.istore 5, 2) := by decide +kernel
theorem dX7_odds_70 : decode cX7_odds 70 = .ok (.iload 5, 2) := by decide +kernel
theorem dX7_odds_72 : decode cX7_odds 72 = .ok (.ifCond .ne 5, 3) := by decide +kernel
theorem dX7_odds_75 : decode cX7_odds 75 = .ok (.iconst 0, 1) := by decide +kernel
theorem dX7_odds_76 : decode cX7_odds 76 = .ok (.ireturn, 1) := by decide +kernel
theorem dX7_odds_77 : decode cX7_odds 77 = .ok (.iload_n 2, 1) := by decide +kernel
theorem dX7_odds_78 : decode cX7_odds 78 = .ok (.ifCond .ne 11, 3) := by decide +kernel
theorem dX7_odds_81 : decode cX7_odds 81 = .ok (.iload 4, 2) := by decide +kernel
theorem dX7_odds_83 : decode cX7_odds 83 = .ok (.iload 5, 2) := by decide +kernel
theorem dX7_odds_85 : decode cX7_odds 85 = .ok (.idiv, 1) := by decide +kernel
theorem dX7_odds_86 : decode cX7_odds 86 = .ok (.goto 7, 3) := by decide +kernel
theorem dX7_odds_89 : decode cX7_odds 89 = .ok (.iload_n 3, 1) := by decide +kernel
theorem dX7_odds_90 : decode cX7_odds 90 = .ok (.iload 5, 2) := by decide +kernel
theorem dX7_odds_92 : decode cX7_odds 92 = .ok (.idiv, 1) := by decide +kernel
theorem dX7_odds_93 : decode cX7_odds 93 = .ok (.ireturn, 1) := by decide +kernel
theorem dX7_fits_0 : decode cX7_fits 0 = .ok (.iload_n 1, 1) := by decide +kernel
theorem dX7_fits_1 : decode cX7_fits 1 = .ok (.invokestatic 224, 3) := by decide +kernel
theorem dX7_fits_4 : decode cX7_fits 4 = .ok (.ifCond .ne 10, 3) := by decide +kernel
theorem dX7_fits_7 : decode cX7_fits 7 = .ok (.aload_n 0, 1) := by decide +kernel
theorem dX7_fits_8 : decode cX7_fits 8 = .ok (.ldc 51, 2) := by decide +kernel
theorem dX7_fits_10 : decode cX7_fits 10 = .ok (.invokevirtual 52, 3) := by decide +kernel
theorem dX7_fits_13 : decode cX7_fits 13 = .ok (.ireturn, 1) := by decide +kernel
theorem dX7_fits_14 : decode cX7_fits 14 = .ok (.aload_n 0, 1) := by decide +kernel
theorem dX7_fits_15 : decode cX7_fits 15 = .ok (.getfield 21, 3) := by decide +kernel
theorem dX7_fits_18 : decode cX7_fits 18 = .ok (.iload_n 1, 1) := by decide +kernel
theorem dX7_fits_19 : decode cX7_fits 19 = .ok (.aaload, 1) := by decide +kernel
theorem dX7_fits_20 : decode cX7_fits 20 = .ok (.invokevirtual 227, 3) := by decide +kernel
theorem dX7_fits_23 : decode cX7_fits 23 = .ok (.ifCond .eq 10, 3) := by decide +kernel
theorem dX7_fits_26 : decode cX7_fits 26 = .ok (.aload_n 0, 1) := by decide +kernel
theorem dX7_fits_27 : decode cX7_fits 27 = .ok (.ldc 198, 2) := by decide +kernel
theorem dX7_fits_29 : decode cX7_fits 29 = .ok (.invokevirtual 52, 3) := by decide +kernel
theorem dX7_fits_32 : decode cX7_fits 32 = .ok (.ireturn, 1) := by decide +kernel
theorem dX7_fits_33 : decode cX7_fits 33 = .ok (.aload_n 0, 1) := by decide +kernel
theorem dX7_fits_34 : decode cX7_fits 34 = .ok (.getfield 35, 3) := by decide +kernel
theorem dX7_fits_37 : decode cX7_fits 37 = .ok (.aload_n 0, 1) := by decide +kernel
theorem dX7_fits_38 : decode cX7_fits 38 = .ok (.getfield 12, 3) := by decide +kernel
theorem dX7_fits_41 : decode cX7_fits 41 = .ok (.aload_n 0, 1) := by decide +kernel
theorem dX7_fits_42 : decode cX7_fits 42 = .ok (.getfield 21, 3) := by decide +kernel
theorem dX7_fits_45 : decode cX7_fits 45 = .ok (.iload_n 1, 1) := by decide +kernel
theorem dX7_fits_46 : decode cX7_fits 46 = .ok (.aaload, 1) := by decide +kernel
theorem dX7_fits_47 : decode cX7_fits 47 = .ok (.getfield 230, 3) := by decide +kernel
theorem dX7_fits_50 : decode cX7_fits 50 = .ok (.invokevirtual 233, 3) := by decide +kernel
theorem dX7_fits_53 : decode cX7_fits 53 = .ok (.istore_n 2, 1) := by decide +kernel
theorem dX7_fits_54 : decode cX7_fits 54 = .ok (.iload_n 2, 1) := by decide +kernel
theorem dX7_fits_55 : decode cX7_fits 55 = .ok (.iconst (-1), 1) := by decide +kernel
theorem dX7_fits_56 : decode cX7_fits 56 = .ok (.if_icmp .ne 12, 3) := by decide +kernel
theorem dX7_fits_59 : decode cX7_fits 59 = .ok (.aload_n 0, 1) := by decide +kernel
theorem dX7_fits_60 : decode cX7_fits 60 = .ok (.ldc 198, 2) := by decide +kernel
theorem dX7_fits_62 : decode cX7_fits 62 = .ok (.invokevirtual 52, 3) := by decide +kernel
theorem dX7_fits_65 : decode cX7_fits 65 = .ok (.goto 4, 3) := by decide +kernel
theorem dX7_fits_68 : decode cX7_fits 68 = .ok (.iload_n 2, 1) := by decide +kernel
theorem dX7_fits_69 : decode cX7_fits 69 = .ok (.ireturn, 1) := by decide +kernel
theorem dX7_voice_0 : decode cX7_voice 0 = .ok (.aload_n 0, 1) := by decide +kernel
theorem dX7_voice_1 : decode cX7_voice 1 = .ok (.getfield 12, 3) := by decide +kernel
theorem dX7_voice_4 : decode cX7_voice 4 = .ok (.iload_n 1, 1) := by decide +kernel
theorem dX7_voice_5 : decode cX7_voice 5 = .ok (.invokevirtual 65, 3) := by decide +kernel
theorem dX7_voice_8 : decode cX7_voice 8 = .ok (.ifCond .eq 12, 3) := by decide +kernel
theorem dX7_voice_11 : decode cX7_voice 11 = .ok (.iload_n 2, 1) := by decide +kernel
theorem dX7_voice_12 : decode cX7_voice 12 = .ok (.ifCond .lt 8, 3) := by decide +kernel
theorem dX7_voice_15 : decode cX7_voice 15 = .ok (.iload_n 2, 1) := by decide +kernel
theorem dX7_voice_16 : decode cX7_voice 16 = .ok (.iconst 4, 1) := by decide +kernel
theorem dX7_voice_17 : decode cX7_voice 17 = .ok (.if_icmp .lt 10, 3) := by decide +kernel
theorem dX7_voice_20 : decode cX7_voice 20 = .ok (.aload_n 0, 1) := by decide +kernel
theorem dX7_voice_21 : decode cX7_voice 21 = .ok (.ldc 51, 2) := by decide +kernel
theorem dX7_voice_23 : decode cX7_voice 23 = .ok (.invokevirtual 52, 3) := by decide +kernel
theorem dX7_voice_26 : decode cX7_voice 26 = .ok (.ireturn, 1) := by decide +kernel
theorem dX7_voice_27 : decode cX7_voice 27 = .ok (.aload_n 0, 1) := by decide +kernel
theorem dX7_voice_28 : decode cX7_voice 28 = .ok (.getfield 28, 3) := by decide +kernel
theorem dX7_voice_31 : decode cX7_voice 31 = .ok (.iload_n 1, 1) := by decide +kernel
theorem dX7_voice_32 : decode cX7_voice 32 = .ok (.aload_n 0, 1) := by decide +kernel
theorem dX7_voice_33 : decode cX7_voice 33 = .ok (.getfield 12, 3) := by decide +kernel
theorem dX7_voice_36 : decode cX7_voice 36 = .ok (.getfield 68, 3) := by decide +kernel
theorem dX7_voice_39 : decode cX7_voice 39 = .ok (.iload_n 1, 1) := by decide +kernel
theorem dX7_voice_40 : decode cX7_voice 40 = .ok (.aaload, 1) := by decide +kernel
theorem dX7_voice_41 : decode cX7_voice 41 = .ok (.iload_n 2, 1) := by decide +kernel
theorem dX7_voice_42 : decode cX7_voice 42 = .ok (.iload_n 3, 1) := by decide +kernel
theorem dX7_voice_43 : decode cX7_voice 43 = .ok (.invokevirtual 237, 3) := by decide +kernel
theorem dX7_voice_46 : decode cX7_voice 46 = .ok (.istore 4, 2) := by decide +kernel
theorem dX7_voice_48 : decode cX7_voice 48 = .ok (.aload_n 0, 1) := by decide +kernel
theorem dX7_voice_49 : decode cX7_voice 49 = .ok (.getfield 28, 3) := by decide +kernel
theorem dX7_voice_52 : decode cX7_voice 52 = .ok (.getfield 241, 3) := by decide +kernel
theorem dX7_voice_55 : decode cX7_voice 55 = .ok (.ifCond .eq 12, 3) := by decide +kernel
theorem dX7_voice_58 : decode cX7_voice 58 = .ok (.aload_n 0, 1) := by decide +kernel
theorem dX7_voice_59 : decode cX7_voice 59 = .ok (.ldc 245, 2) := by decide +kernel
theorem dX7_voice_61 : decode cX7_voice 61 = .ok (.invokevirtual 52, 3) := by decide +kernel
theorem dX7_voice_64 : decode cX7_voice 64 = .ok (.goto 5, 3) := by decide +kernel
theorem dX7_voice_67 : decode cX7_voice 67 = .ok (.iload 4, 2) := by decide +kernel
theorem dX7_voice_69 : decode cX7_voice 69 = .ok (.ireturn, 1) := by decide +kernel
theorem dX7_body_0 : decode cX7_body 0 = .ok (.aload_n 0, 1) := by decide +kernel
theorem dX7_body_1 : decode cX7_body 1 = .ok (.getfield 28, 3) := by decide +kernel
theorem dX7_body_4 : decode cX7_body 4 = .ok (.getfield 246, 3) := by decide +kernel
theorem dX7_body_7 : decode cX7_body 7 = .ok (.iload_n 1, 1) := by decide +kernel
theorem dX7_body_8 : decode cX7_body 8 = .ok (.invokevirtual 107, 3) := by decide +kernel
theorem dX7_body_11 : decode cX7_body 11 = .ok (.ifCond .ne 10, 3) := by decide +kernel
theorem dX7_body_14 : decode cX7_body 14 = .ok (.aload_n 0, 1) := by decide +kernel
theorem dX7_body_15 : decode cX7_body 15 = .ok (.ldc 198, 2) := by decide +kernel
theorem dX7_body_17 : decode cX7_body 17 = .ok (.invokevirtual 52, 3) := by decide +kernel
theorem dX7_body_20 : decode cX7_body 20 = .ok (.ireturn, 1) := by decide +kernel
theorem dX7_body_21 : decode cX7_body 21 = .ok (.aload_n 0, 1) := by decide +kernel
theorem dX7_body_22 : decode cX7_body 22 = .ok (.getfield 28, 3) := by decide +kernel
theorem dX7_body_25 : decode cX7_body 25 = .ok (.getfield 246, 3) := by decide +kernel
theorem dX7_body_28 : decode cX7_body 28 = .ok (.getfield 112, 3) := by decide +kernel
theorem dX7_body_31 : decode cX7_body 31 = .ok (.iload_n 1, 1) := by decide +kernel
theorem dX7_body_32 : decode cX7_body 32 = .ok (.iaload, 1) := by decide +kernel
theorem dX7_body_33 : decode cX7_body 33 = .ok (.ireturn, 1) := by decide +kernel
theorem dX7_sheet_0 : decode cX7_sheet 0 = .ok (.iload_n 1, 1) := by decide +kernel
theorem dX7_sheet_1 : decode cX7_sheet 1 = .ok (.invokestatic 224, 3) := by decide +kernel
theorem dX7_sheet_4 : decode cX7_sheet 4 = .ok (.ifCond .eq 25, 3) := by decide +kernel
theorem dX7_sheet_7 : decode cX7_sheet 7 = .ok (.iload_n 2, 1) := by decide +kernel
theorem dX7_sheet_8 : decode cX7_sheet 8 = .ok (.ifCond .eq 28, 3) := by decide +kernel
theorem dX7_sheet_11 : decode cX7_sheet 11 = .ok (.iload_n 2, 1) := by decide +kernel
theorem dX7_sheet_12 : decode cX7_sheet 12 = .ok (.bipush 8, 2) := by decide +kernel
theorem dX7_sheet_14 : decode cX7_sheet 14 = .ok (.if_icmp .eq 22, 3) := by decide +kernel
theorem dX7_sheet_17 : decode cX7_sheet 17 = .ok (.iload_n 2, 1) := by decide +kernel
theorem dX7_sheet_18 : decode cX7_sheet 18 = .ok (.bipush 16, 2) := by decide +kernel
theorem dX7_sheet_20 : decode cX7_sheet 20 = .ok (.if_icmp .eq 16, 3) := by decide +kernel
theorem dX7_sheet_23 : decode cX7_sheet 23 = .ok (.iload_n 2, 1) := by decide +kernel
theorem dX7_sheet_24 : decode cX7_sheet 24 = .ok (.bipush 32, 2) := by decide +kernel
theorem dX7_sheet_26 : decode cX7_sheet 26 = .ok (.if_icmp .eq 10, 3) := by decide +kernel
theorem dX7_sheet_29 : decode cX7_sheet 29 = .ok (.aload_n 0, 1) := by decide +kernel
theorem dX7_sheet_30 : decode cX7_sheet 30 = .ok (.ldc 51, 2) := by decide +kernel
theorem dX7_sheet_32 : decode cX7_sheet 32 = .ok (.invokevirtual 52, 3) := by decide +kernel
theorem dX7_sheet_35 : decode cX7_sheet 35 = .ok (.ireturn, 1) := by decide +kernel
theorem dX7_sheet_36 : decode cX7_sheet 36 = .ok (.iload_n 2, 1) := by decide +kernel
theorem dX7_sheet_37 : decode cX7_sheet 37 = .ok (.ifCond .eq 14, 3) := by decide +kernel
theorem dX7_sheet_40 : decode cX7_sheet 40 = .ok (.iload_n 3, 1) := by decide +kernel
theorem dX7_sheet_41 : decode cX7_sheet 41 = .ok (.ifCond .ge 10, 3) := by decide +kernel
theorem dX7_sheet_44 : decode cX7_sheet 44 = .ok (.aload_n 0, 1) := by decide +kernel
theorem dX7_sheet_45 : decode cX7_sheet 45 = .ok (.ldc 115, 2) := by decide +kernel
theorem dX7_sheet_47 : decode cX7_sheet 47 = .ok (.invokevirtual 52, 3) := by decide +kernel
theorem dX7_sheet_50 : decode cX7_sheet 50 = .ok (.ireturn, 1) := by decide +kernel
theorem dX7_sheet_51 : decode cX7_sheet 51 = .ok (.iload_n 2, 1) := by decide +kernel
theorem dX7_sheet_52 : decode cX7_sheet 52 = .ok (.ifCond .eq 16, 3) := by decide +kernel
theorem dX7_sheet_55 : decode cX7_sheet 55 = .ok (.iload_n 3, 1) := by decide +kernel
theorem dX7_sheet_56 : decode cX7_sheet 56 = .ok (.bipush 24, 2) := by decide +kernel
theorem dX7_sheet_58 : decode cX7_sheet 58 = .ok (.if_icmp .le 10, 3) := by decide +kernel
theorem dX7_sheet_61 : decode cX7_sheet 61 = .ok (.aload_n 0, 1) := by decide +kernel
theorem dX7_sheet_62 : decode cX7_sheet 62 = .ok (.ldc 51, 2) := by decide +kernel
theorem dX7_sheet_64 : decode cX7_sheet 64 = .ok (.invokevirtual 52, 3) := by decide +kernel
theorem dX7_sheet_67 : decode cX7_sheet 67 = .ok (.ireturn, 1) := by decide +kernel
theorem dX7_sheet_68 : decode cX7_sheet 68 = .ok (.aload_n 0, 1) := by decide +kernel
theorem dX7_sheet_69 : decode cX7_sheet 69 = .ok (.getfield 21, 3) := by decide +kernel
theorem dX7_sheet_72 : decode cX7_sheet 72 = .ok (.iload_n 1, 1) := by decide +kernel
theorem dX7_sheet_73 : decode cX7_sheet 73 = .ok (.aaload, 1) := by decide +kernel
theorem dX7_sheet_74 : decode cX7_sheet 74 = .ok (.iload_n 2, 1) := by decide +kernel
theorem dX7_sheet_75 : decode cX7_sheet 75 = .ok (.iload_n 2, 1) := by decide +kernel
theorem dX7_sheet_76 : decode cX7_sheet 76 = .ok (.ifCond .ne 7, 3) := by decide +kernel
theorem dX7_sheet_79 : decode cX7_sheet 79 = .ok (.iconst 0, 1) := by decide +kernel
theorem dX7_sheet_80 : decode cX7_sheet 80 = .ok (.goto 4, 3) := by decide +kernel
theorem dX7_sheet_83 : decode cX7_sheet 83 = .ok (.iload_n 3, 1) := by decide +kernel
theorem dX7_sheet_84 : decode cX7_sheet 84 = .ok (.invokevirtual 249, 3) := by decide +kernel
theorem dX7_sheet_87 : decode cX7_sheet 87 = .ok (.iconst 1, 1) := by decide +kernel
theorem dX7_sheet_88 : decode cX7_sheet 88 = .ok (.ireturn, 1) := by decide +kernel
theorem dX7_put_0 : decode cX7_put 0 = .ok (.iload_n 1, 1) := by decide +kernel
theorem dX7_put_1 : decode cX7_put 1 = .ok (.invokestatic 224, 3) := by decide +kernel
theorem dX7_put_4 : decode cX7_put 4 = .ok (.ifCond .ne 10, 3) := by decide +kernel
theorem dX7_put_7 : decode cX7_put 7 = .ok (.aload_n 0, 1) := by decide +kernel
theorem dX7_put_8 : decode cX7_put 8 = .ok (.ldc 51, 2) := by decide +kernel
theorem dX7_put_10 : decode cX7_put 10 = .ok (.invokevirtual 52, 3) := by decide +kernel
theorem dX7_put_13 : decode cX7_put 13 = .ok (.ireturn, 1) := by decide +kernel
theorem dX7_put_14 : decode cX7_put 14 = .ok (.aload_n 0, 1) := by decide +kernel
theorem dX7_put_15 : decode cX7_put 15 = .ok (.getfield 21, 3) := by decide +kernel
theorem dX7_put_18 : decode cX7_put 18 = .ok (.iload_n 1, 1) := by decide +kernel
theorem dX7_put_19 : decode cX7_put 19 = .ok (.aaload, 1) := by decide +kernel
theorem dX7_put_20 : decode cX7_put 20 = .ok (.invokevirtual 227, 3) := by decide +kernel
theorem dX7_put_23 : decode cX7_put 23 = .ok (.ifCond .eq 10, 3) := by decide +kernel
theorem dX7_put_26 : decode cX7_put 26 = .ok (.aload_n 0, 1) := by decide +kernel
theorem dX7_put_27 : decode cX7_put 27 = .ok (.ldc 198, 2) := by decide +kernel
theorem dX7_put_29 : decode cX7_put 29 = .ok (.invokevirtual 52, 3) := by decide +kernel
theorem dX7_put_32 : decode cX7_put 32 = .ok (.ireturn, 1) := by decide +kernel
theorem dX7_put_33 : decode cX7_put 33 = .ok (.aload_n 0, 1) := by decide +kernel
theorem dX7_put_34 : decode cX7_put 34 = .ok (.getfield 21, 3) := by decide +kernel
theorem dX7_put_37 : decode cX7_put 37 = .ok (.iload_n 1, 1) := by decide +kernel
theorem dX7_put_38 : decode cX7_put 38 = .ok (.aaload, 1) := by decide +kernel
theorem dX7_put_39 : decode cX7_put 39 = .ok (.getfield 230, 3) := by decide +kernel
theorem dX7_put_42 : decode cX7_put 42 = .ok (.iload_n 2, 1) := by decide +kernel
theorem dX7_put_43 : decode cX7_put 43 = .ok (.invokevirtual 107, 3) := by decide +kernel
theorem dX7_put_46 : decode cX7_put 46 = .ok (.ifCond .ne 10, 3) := by decide +kernel
theorem dX7_put_49 : decode cX7_put 49 = .ok (.aload_n 0, 1) := by decide +kernel
theorem dX7_put_50 : decode cX7_put 50 = .ok (.ldc 51, 2) := by decide +kernel
theorem dX7_put_52 : decode cX7_put 52 = .ok (.invokevirtual 52, 3) := by decide +kernel
theorem dX7_put_55 : decode cX7_put 55 = .ok (.ireturn, 1) := by decide +kernel
theorem dX7_put_56 : decode cX7_put 56 = .ok (.aload_n 0, 1) := by decide +kernel
theorem dX7_put_57 : decode cX7_put 57 = .ok (.getfield 21, 3) := by decide +kernel
theorem dX7_put_60 : decode cX7_put 60 = .ok (.iload_n 1, 1) := by decide +kernel
theorem dX7_put_61 : decode cX7_put 61 = .ok (.aaload, 1) := by decide +kernel
theorem dX7_put_62 : decode cX7_put 62 = .ok (.iload_n 2, 1) := by decide +kernel
theorem dX7_put_63 : decode cX7_put 63 = .ok (.iload_n 3, 1) := by decide +kernel
theorem dX7_put_64 : decode cX7_put 64 = .ok (.invokevirtual 253, 3) := by decide +kernel
theorem dX7_put_67 : decode cX7_put 67 = .ok (.iconst 1, 1) := by decide +kernel
theorem dX7_put_68 : decode cX7_put 68 = .ok (.ireturn, 1) := by decide +kernel
theorem dX7_move_0 : decode cX7_move 0 = .ok (.iload_n 1, 1) := by decide +kernel
theorem dX7_move_1 : decode cX7_move 1 = .ok (.invokestatic 224, 3) := by decide +kernel
theorem dX7_move_4 : decode cX7_move 4 = .ok (.ifCond .eq 10, 3) := by decide +kernel
theorem dX7_move_7 : decode cX7_move 7 = .ok (.iload_n 3, 1) := by decide +kernel
theorem dX7_move_8 : decode cX7_move 8 = .ok (.invokestatic 224, 3) := by decide +kernel
theorem dX7_move_11 : decode cX7_move 11 = .ok (.ifCond .ne 10, 3) := by decide +kernel
theorem dX7_move_14 : decode cX7_move 14 = .ok (.aload_n 0, 1) := by decide +kernel
theorem dX7_move_15 : decode cX7_move 15 = .ok (.ldc 51, 2) := by decide +kernel
theorem dX7_move_17 : decode cX7_move 17 = .ok (.invokevirtual 52, 3) := by decide +kernel
theorem dX7_move_20 : decode cX7_move 20 = .ok (.ireturn, 1) := by decide +kernel
theorem dX7_move_21 : decode cX7_move 21 = .ok (.aload_n 0, 1) := by decide +kernel
theorem dX7_move_22 : decode cX7_move 22 = .ok (.getfield 21, 3) := by decide +kernel
theorem dX7_move_25 : decode cX7_move 25 = .ok (.iload_n 1, 1) := by decide +kernel
theorem dX7_move_26 : decode cX7_move 26 = .ok (.aaload, 1) := by decide +kernel
theorem dX7_move_27 : decode cX7_move 27 = .ok (.astore 6, 2) := by decide +kernel
theorem dX7_move_29 : decode cX7_move 29 = .ok (.aload_n 0, 1) := by decide +kernel
theorem dX7_move_30 : decode cX7_move 30 = .ok (.getfield 21, 3) := by decide +kernel
theorem dX7_move_33 : decode cX7_move 33 = .ok (.iload_n 3, 1) := by decide +kernel
theorem dX7_move_34 : decode cX7_move 34 = .ok (.aaload, 1) := by decide +kernel
theorem dX7_move_35 : decode cX7_move 35 = .ok (.astore 7, 2) := by decide +kernel
theorem dX7_move_37 : decode cX7_move 37 = .ok (.aload 6, 2) := by decide +kernel
theorem dX7_move_39 : decode cX7_move 39 = .ok (.invokevirtual 227, 3) := by decide +kernel
theorem dX7_move_42 : decode cX7_move 42 = .ok (.ifCond .ne 11, 3) := by decide +kernel
theorem dX7_move_45 : decode cX7_move 45 = .ok (.aload 7, 2) := by decide +kernel
theorem dX7_move_47 : decode cX7_move 47 = .ok (.invokevirtual 227, 3) := by decide +kernel
theorem dX7_move_50 : decode cX7_move 50 = .ok (.ifCond .eq 10, 3) := by decide +kernel
theorem dX7_move_53 : decode cX7_move 53 = .ok (.aload_n 0, 1) := by decide +kernel
theorem dX7_move_54 : decode cX7_move 54 = .ok (.ldc 198, 2) := by decide +kernel
theorem dX7_move_56 : decode cX7_move 56 = .ok (.invokevirtual 52, 3) := by decide +kernel
theorem dX7_move_59 : decode cX7_move 59 = .ok (.ireturn, 1) := by decide +kernel
theorem dX7_move_60 : decode cX7_move 60 = .ok (.aload 6, 2) := by decide +kernel
theorem dX7_move_62 : decode cX7_move 62 = .ok (.getfield 256, 3) := by decide +kernel
theorem dX7_move_65 : decode cX7_move 65 = .ok (.aload 7, 2) := by decide +kernel
theorem dX7_move_67 : decode cX7_move 67 = .ok (.getfield 256, 3) := by decide +kernel
theorem dX7_move_70 : decode cX7_move 70 = .ok (.if_icmp .eq 10, 3) := by decide +kernel
theorem dX7_move_73 : decode cX7_move 73 = .ok (.aload_n 0, 1) := by decide +kernel
theorem dX7_move_74 : decode cX7_move 74 = .ok (.ldc 102, 2) := by decide +kernel
theorem dX7_move_76 : decode cX7_move 76 = .ok (.invokevirtual 52, 3) := by decide +kernel
theorem dX7_move_79 : decode cX7_move 79 = .ok (.ireturn, 1) := by decide +kernel
theorem dX7_move_80 : decode cX7_move 80 = .ok (.aload 6, 2) := by decide +kernel
theorem dX7_move_82 : decode cX7_move 82 = .ok (.getfield 230, 3) := by decide +kernel
theorem dX7_move_85 : decode cX7_move 85 = .ok (.iload_n 2, 1) := by decide +kernel
theorem dX7_move_86 : decode cX7_move 86 = .ok (.iload 5, 2) := by decide +kernel
theorem dX7_move_88 : decode cX7_move 88 = .ok (.invokevirtual 259, 3) := by decide +kernel
theorem dX7_move_91 : decode cX7_move 91 = .ok (.ifCond .eq 18, 3) := by decide +kernel
theorem dX7_move_94 : decode cX7_move 94 = .ok (.aload 7, 2) := by decide +kernel
theorem dX7_move_96 : decode cX7_move 96 = .ok (.getfield 230, 3) := by decide +kernel
theorem dX7_move_99 : decode cX7_move 99 = .ok (.iload 4, 2) := by decide +kernel
theorem dX7_move_101 : decode cX7_move 101 = .ok (.iload 5, 2) := by decide +kernel
theorem dX7_move_103 : decode cX7_move 103 = .ok (.invokevirtual 259, 3) := by decide +kernel
theorem dX7_move_106 : decode cX7_move 106 = .ok (.ifCond .ne 10, 3) := by decide +kernel
theorem dX7_move_109 : decode cX7_move 109 = .ok (.aload_n 0, 1) := by decide +kernel
theorem dX7_move_110 : decode cX7_move 110 = .ok (.ldc 51, 2) := by decide +kernel
theorem dX7_move_112 : decode cX7_move 112 = .ok (.invokevirtual 52, 3) := by decide +kernel
theorem dX7_move_115 : decode cX7_move 115 = .ok (.ireturn, 1) := by decide +kernel
theorem dX7_move_116 : decode cX7_move 116 = .ok (.aload 6, 2) := by decide +kernel
theorem dX7_move_118 : decode cX7_move 118 = .ok (.getfield 230, 3) := by decide +kernel
theorem dX7_move_121 : decode cX7_move 121 = .ok (.getfield 112, 3) := by decide +kernel
theorem dX7_move_124 : decode cX7_move 124 = .ok (.iload_n 2, 1) := by decide +kernel
theorem dX7_move_125 : decode cX7_move 125 = .ok (.aload 7, 2) := by decide +kernel
theorem dX7_move_127 : decode cX7_move 127 = .ok (.getfield 230, 3) := by decide +kernel
theorem dX7_move_130 : decode cX7_move 130 = .ok (.getfield 112, 3) := by decide +kernel
theorem dX7_move_133 : decode cX7_move 133 = .ok (.iload 4, 2) := by decide +kernel
theorem dX7_move_135 : decode cX7_move 135 = .ok (.iload 5, 2) := by decide +kernel
theorem dX7_move_137 : decode cX7_move 137 = .ok (.invokestatic 263, 3) := by decide +kernel
theorem dX7_move_140 : decode cX7_move 140 = .ok (.iload 5, 2) := by decide +kernel
theorem dX7_move_142 : decode cX7_move 142 = .ok (.ireturn, 1) := by decide +kernel
theorem dX7_weights_0 : decode cX7_weights 0 = .ok (.iload_n 1, 1) := by decide +kernel
theorem dX7_weights_1 : decode cX7_weights 1 = .ok (.invokestatic 224, 3) := by decide +kernel
theorem dX7_weights_4 : decode cX7_weights 4 = .ok (.ifCond .ne 10, 3) := by decide +kernel
theorem dX7_weights_7 : decode cX7_weights 7 = .ok (.aload_n 0, 1) := by decide +kernel
theorem dX7_weights_8 : decode cX7_weights 8 = .ok (.ldc 51, 2) := by decide +kernel
theorem dX7_weights_10 : decode cX7_weights 10 = .ok (.invokevirtual 52, 3) := by decide +kernel
theorem dX7_weights_13 : decode cX7_weights 13 = .ok (.ireturn, 1) := by decide +kernel
theorem dX7_weights_14 : decode cX7_weights 14 = .ok (.aload_n 0, 1) := by decide +kernel
theorem dX7_weights_15 : decode cX7_weights 15 = .ok (.getfield 21, 3) := by decide +kernel
theorem dX7_weights_18 : decode cX7_weights 18 = .ok (.iload_n 1, 1) := by decide +kernel
theorem dX7_weights_19 : decode cX7_weights 19 = .ok (.aaload, 1) := by decide +kernel
theorem dX7_weights_20 : decode cX7_weights 20 = .ok (.invokevirtual 227, 3) := by decide +kernel
theorem dX7_weights_23 : decode cX7_weights 23 = .ok (.ifCond .eq 10, 3) := by decide +kernel
theorem dX7_weights_26 : decode cX7_weights 26 = .ok (.aload_n 0, 1) := by decide +kernel
theorem dX7_weights_27 : decode cX7_weights 27 = .ok (.ldc 198, 2) := by decide +kernel
theorem dX7_weights_29 : decode cX7_weights 29 = .ok (.invokevirtual 52, 3) := by decide +kernel
theorem dX7_weights_32 : decode cX7_weights 32 = .ok (.ireturn, 1) := by decide +kernel
theorem dX7_weights_33 : decode cX7_weights 33 = .ok (.aload_n 0, 1) := by decide +kernel
theorem dX7_weights_34 : decode cX7_weights 34 = .ok (.getfield 12, 3) := by decide +kernel
theorem dX7_weights_37 : decode cX7_weights 37 = .ok (.aload_n 0, 1) := by decide +kernel
theorem dX7_weights_38 : decode cX7_weights 38 = .ok (.getfield 21, 3) := by decide +kernel
theorem dX7_weights_41 : decode cX7_weights 41 = .ok (.iload_n 1, 1) := by decide +kernel
theorem dX7_weights_42 : decode cX7_weights 42 = .ok (.aaload, 1) := by decide +kernel
theorem dX7_weights_43 : decode cX7_weights 43 = .ok (.getfield 230, 3) := by decide +kernel
theorem dX7_weights_46 : decode cX7_weights 46 = .ok (.invokevirtual 269, 3) := by decide +kernel
theorem dX7_weights_49 : decode cX7_weights 49 = .ok (.ireturn, 1) := by decide +kernel
theorem dX7_judge_0 : decode cX7_judge 0 = .ok (.iload_n 1, 1) := by decide +kernel
theorem dX7_judge_1 : decode cX7_judge 1 = .ok (.invokestatic 224, 3) := by decide +kernel
theorem dX7_judge_4 : decode cX7_judge 4 = .ok (.ifCond .ne 10, 3) := by decide +kernel
theorem dX7_judge_7 : decode cX7_judge 7 = .ok (.aload_n 0, 1) := by decide +kernel
theorem dX7_judge_8 : decode cX7_judge 8 = .ok (.ldc 51, 2) := by decide +kernel
theorem dX7_judge_10 : decode cX7_judge 10 = .ok (.invokevirtual 52, 3) := by decide +kernel
theorem dX7_judge_13 : decode cX7_judge 13 = .ok (.ireturn, 1) := by decide +kernel
theorem dX7_judge_14 : decode cX7_judge 14 = .ok (.aload_n 0, 1) := by decide +kernel
theorem dX7_judge_15 : decode cX7_judge 15 = .ok (.getfield 21, 3) := by decide +kernel
theorem dX7_judge_18 : decode cX7_judge 18 = .ok (.iload_n 1, 1) := by decide +kernel
theorem dX7_judge_19 : decode cX7_judge 19 = .ok (.aaload, 1) := by decide +kernel
theorem dX7_judge_20 : decode cX7_judge 20 = .ok (.invokevirtual 227, 3) := by decide +kernel
theorem dX7_judge_23 : decode cX7_judge 23 = .ok (.ifCond .eq 10, 3) := by decide +kernel
theorem dX7_judge_26 : decode cX7_judge 26 = .ok (.aload_n 0, 1) := by decide +kernel
theorem dX7_judge_27 : decode cX7_judge 27 = .ok (.ldc 198, 2) := by decide +kernel
theorem dX7_judge_29 : decode cX7_judge 29 = .ok (.invokevirtual 52, 3) := by decide +kernel
theorem dX7_judge_32 : decode cX7_judge 32 = .ok (.ireturn, 1) := by decide +kernel
theorem dX7_judge_33 : decode cX7_judge 33 = .ok (.aload_n 0, 1) := by decide +kernel
theorem dX7_judge_34 : decode cX7_judge 34 = .ok (.getfield 21, 3) := by decide +kernel
theorem dX7_judge_37 : decode cX7_judge 37 = .ok (.iload_n 1, 1) := by decide +kernel
theorem dX7_judge_38 : decode cX7_judge 38 = .ok (.aaload, 1) := by decide +kernel
theorem dX7_judge_39 : decode cX7_judge 39 = .ok (.getfield 230, 3) := by decide +kernel
theorem dX7_judge_42 : decode cX7_judge 42 = .ok (.aload_n 0, 1) := by decide +kernel
theorem dX7_judge_43 : decode cX7_judge 43 = .ok (.getfield 12, 3) := by decide +kernel
theorem dX7_judge_46 : decode cX7_judge 46 = .ok (.getfield 103, 3) := by decide +kernel
theorem dX7_judge_49 : decode cX7_judge 49 = .ok (.invokevirtual 273, 3) := by decide +kernel
theorem dX7_judge_52 : decode cX7_judge 52 = .ok (.ireturn, 1) := by decide +kernel
theorem dX7_image_0 : decode cX7_image 0 = .ok (.aload_n 0, 1) := by decide +kernel
theorem dX7_image_1 : decode cX7_image 1 = .ok (.getfield 16, 3) := by decide +kernel
theorem dX7_image_4 : decode cX7_image 4 = .ok (.aload_n 0, 1) := by decide +kernel
theorem dX7_image_5 : decode cX7_image 5 = .ok (.getfield 12, 3) := by decide +kernel
theorem dX7_image_8 : decode cX7_image 8 = .ok (.invokevirtual 276, 3) := by decide +kernel
theorem dX7_image_11 : decode cX7_image 11 = .ok (.aload_n 0, 1) := by decide +kernel
theorem dX7_image_12 : decode cX7_image 12 = .ok (.dup, 1) := by decide +kernel
theorem dX7_image_13 : decode cX7_image 13 = .ok (.getfield 280, 3) := by decide +kernel
theorem dX7_image_16 : decode cX7_image 16 = .ok (.iconst 1, 1) := by decide +kernel
theorem dX7_image_17 : decode cX7_image 17 = .ok (.iadd, 1) := by decide +kernel
theorem dX7_image_18 : decode cX7_image 18 = .ok (.putfield 280, 3) := by decide +kernel
theorem dX7_image_21 : decode cX7_image 21 = .ok (.aload_n 0, 1) := by decide +kernel
theorem dX7_image_22 : decode cX7_image 22 = .ok (.getfield 280, 3) := by decide +kernel
theorem dX7_image_25 : decode cX7_image 25 = .ok (.ireturn, 1) := by decide +kernel
theorem dX7_restore_0 : decode cX7_restore 0 = .ok (.aload_n 0, 1) := by decide +kernel
theorem dX7_restore_1 : decode cX7_restore 1 = .ok (.getfield 280, 3) := by decide +kernel
theorem dX7_restore_4 : decode cX7_restore 4 = .ok (.ifCond .ne 10, 3) := by decide +kernel
theorem dX7_restore_7 : decode cX7_restore 7 = .ok (.aload_n 0, 1) := by decide +kernel
theorem dX7_restore_8 : decode cX7_restore 8 = .ok (.ldc 198, 2) := by decide +kernel
theorem dX7_restore_10 : decode cX7_restore 10 = .ok (.invokevirtual 52, 3) := by decide +kernel
theorem dX7_restore_13 : decode cX7_restore 13 = .ok (.ireturn, 1) := by decide +kernel
theorem dX7_restore_14 : decode cX7_restore 14 = .ok (.aload_n 0, 1) := by decide +kernel
theorem dX7_restore_15 : decode cX7_restore 15 = .ok (.getfield 12, 3) := by decide +kernel
theorem dX7_restore_18 : decode cX7_restore 18 = .ok (.aload_n 0, 1) := by decide +kernel
theorem dX7_restore_19 : decode cX7_restore 19 = .ok (.getfield 16, 3) := by decide +kernel
theorem dX7_restore_22 : decode cX7_restore 22 = .ok (.invokevirtual 276, 3) := by decide +kernel
theorem dX7_restore_25 : decode cX7_restore 25 = .ok (.aload_n 0, 1) := by decide +kernel
theorem dX7_restore_26 : decode cX7_restore 26 = .ok (.getfield 12, 3) := by decide +kernel
theorem dX7_restore_29 : decode cX7_restore 29 = .ok (.getfield 89, 3) := by decide +kernel
theorem dX7_restore_32 : decode cX7_restore 32 = .ok (.ireturn, 1) := by decide +kernel
theorem dX7_tell_0 : decode cX7_tell 0 = .ok (.aload_n 0, 1) := by decide +kernel
theorem dX7_tell_1 : decode cX7_tell 1 = .ok (.getfield 12, 3) := by decide +kernel
theorem dX7_tell_4 : decode cX7_tell 4 = .ok (.getfield 283, 3) := by decide +kernel
theorem dX7_tell_7 : decode cX7_tell 7 = .ok (.getfield 120, 3) := by decide +kernel
theorem dX7_tell_10 : decode cX7_tell 10 = .ok (.bipush 24, 2) := by decide +kernel
theorem dX7_tell_12 : decode cX7_tell 12 = .ok (.if_icmp .lt 10, 3) := by decide +kernel
theorem dX7_tell_15 : decode cX7_tell 15 = .ok (.aload_n 0, 1) := by decide +kernel
theorem dX7_tell_16 : decode cX7_tell 16 = .ok (.ldc 60, 2) := by decide +kernel
theorem dX7_tell_18 : decode cX7_tell 18 = .ok (.invokevirtual 52, 3) := by decide +kernel
theorem dX7_tell_21 : decode cX7_tell 21 = .ok (.ireturn, 1) := by decide +kernel
theorem dX7_tell_22 : decode cX7_tell 22 = .ok (.aload_n 0, 1) := by decide +kernel
theorem dX7_tell_23 : decode cX7_tell 23 = .ok (.getfield 12, 3) := by decide +kernel
theorem dX7_tell_26 : decode cX7_tell 26 = .ok (.getfield 283, 3) := by decide +kernel
theorem dX7_tell_29 : decode cX7_tell 29 = .ok (.iload_n 1, 1) := by decide +kernel
theorem dX7_tell_30 : decode cX7_tell 30 = .ok (.invokevirtual 134, 3) := by decide +kernel
theorem dX7_tell_33 : decode cX7_tell 33 = .ok (.aload_n 0, 1) := by decide +kernel
theorem dX7_tell_34 : decode cX7_tell 34 = .ok (.getfield 12, 3) := by decide +kernel
theorem dX7_tell_37 : decode cX7_tell 37 = .ok (.getfield 283, 3) := by decide +kernel
theorem dX7_tell_40 : decode cX7_tell 40 = .ok (.getfield 120, 3) := by decide +kernel
theorem dX7_tell_43 : decode cX7_tell 43 = .ok (.ireturn, 1) := by decide +kernel
theorem dX7_check_0 : decode cX7_check 0 = .ok (.aload_n 0, 1) := by decide +kernel
theorem dX7_check_1 : decode cX7_check 1 = .ok (.getfield 12, 3) := by decide +kernel
theorem dX7_check_4 : decode cX7_check 4 = .ok (.getfield 283, 3) := by decide +kernel
theorem dX7_check_7 : decode cX7_check 7 = .ok (.aload_n 0, 1) := by decide +kernel
theorem dX7_check_8 : decode cX7_check 8 = .ok (.getfield 12, 3) := by decide +kernel
theorem dX7_check_11 : decode cX7_check 11 = .ok (.getfield 103, 3) := by decide +kernel
theorem dX7_check_14 : decode cX7_check 14 = .ok (.invokevirtual 273, 3) := by decide +kernel
theorem dX7_check_17 : decode cX7_check 17 = .ok (.istore_n 1, 1) := by decide +kernel
theorem dX7_check_18 : decode cX7_check 18 = .ok (.iload_n 1, 1) := by decide +kernel
theorem dX7_check_19 : decode cX7_check 19 = .ok (.aload_n 0, 1) := by decide +kernel
theorem dX7_check_20 : decode cX7_check 20 = .ok (.getfield 12, 3) := by decide +kernel
theorem dX7_check_23 : decode cX7_check 23 = .ok (.getfield 283, 3) := by decide +kernel
theorem dX7_check_26 : decode cX7_check 26 = .ok (.getfield 120, 3) := by decide +kernel
theorem dX7_check_29 : decode cX7_check 29 = .ok (.if_icmp .ne 7, 3) := by decide +kernel
theorem dX7_check_32 : decode cX7_check 32 = .ok (.iconst 0, 1) := by decide +kernel
theorem dX7_check_33 : decode cX7_check 33 = .ok (.goto 6, 3) := by decide +kernel
theorem dX7_check_36 : decode cX7_check 36 = .ok (.iconst 1, 1) := by decide +kernel
theorem dX7_check_37 : decode cX7_check 37 = .ok (.iload_n 1, 1) := by decide +kernel
theorem dX7_check_38 : decode cX7_check 38 = .ok (.iadd, 1) := by decide +kernel
theorem dX7_check_39 : decode cX7_check 39 = .ok (.istore_n 2, 1) := by decide +kernel
theorem dX7_check_40 : decode cX7_check 40 = .ok (.aload_n 0, 1) := by decide +kernel
theorem dX7_check_41 : decode cX7_check 41 = .ok (.getfield 12, 3) := by decide +kernel
theorem dX7_check_44 : decode cX7_check 44 = .ok (.getfield 283, 3) := by decide +kernel
theorem dX7_check_47 : decode cX7_check 47 = .ok (.iconst 0, 1) := by decide +kernel
theorem dX7_check_48 : decode cX7_check 48 = .ok (.putfield 120, 3) := by decide +kernel
theorem dX7_check_51 : decode cX7_check 51 = .ok (.iload_n 2, 1) := by decide +kernel
theorem dX7_check_52 : decode cX7_check 52 = .ok (.ireturn, 1) := by decide +kernel
theorem dX7_count_0 : decode cX7_count 0 = .ok (.iload_n 1, 1) := by decide +kernel
theorem dX7_count_1 : decode cX7_count 1 = .ok (.tableswitch 135 0 8 #[51, 59, 70, 78, 86, 94, 105, 116, 127], 51) := by decide +kernel
theorem dX7_count_52 : decode cX7_count 52 = .ok (.aload_n 0, 1) := by decide +kernel
theorem dX7_count_53 : decode cX7_count 53 = .ok (.getfield 12, 3) := by decide +kernel
theorem dX7_count_56 : decode cX7_count 56 = .ok (.getfield 56, 3) := by decide +kernel
theorem dX7_count_59 : decode cX7_count 59 = .ok (.ireturn, 1) := by decide +kernel
theorem dX7_count_60 : decode cX7_count 60 = .ok (.aload_n 0, 1) := by decide +kernel
theorem dX7_count_61 : decode cX7_count 61 = .ok (.getfield 12, 3) := by decide +kernel
theorem dX7_count_64 : decode cX7_count 64 = .ok (.getfield 103, 3) := by decide +kernel
theorem dX7_count_67 : decode cX7_count 67 = .ok (.getfield 120, 3) := by decide +kernel
theorem dX7_count_70 : decode cX7_count 70 = .ok (.ireturn, 1) := by decide +kernel
theorem dX7_count_71 : decode cX7_count 71 = .ok (.aload_n 0, 1) := by decide +kernel
theorem dX7_count_72 : decode cX7_count 72 = .ok (.getfield 12, 3) := by decide +kernel
theorem dX7_count_75 : decode cX7_count 75 = .ok (.getfield 89, 3) := by decide +kernel
theorem dX7_count_78 : decode cX7_count 78 = .ok (.ireturn, 1) := by decide +kernel
theorem dX7_count_79 : decode cX7_count 79 = .ok (.aload_n 0, 1) := by decide +kernel
theorem dX7_count_80 : decode cX7_count 80 = .ok (.getfield 12, 3) := by decide +kernel
theorem dX7_count_83 : decode cX7_count 83 = .ok (.getfield 184, 3) := by decide +kernel
theorem dX7_count_86 : decode cX7_count 86 = .ok (.ireturn, 1) := by decide +kernel
theorem dX7_count_87 : decode cX7_count 87 = .ok (.aload_n 0, 1) := by decide +kernel
theorem dX7_count_88 : decode cX7_count 88 = .ok (.getfield 12, 3) := by decide +kernel
theorem dX7_count_91 : decode cX7_count 91 = .ok (.getfield 286, 3) := by decide +kernel
theorem dX7_count_94 : decode cX7_count 94 = .ok (.ireturn, 1) := by decide +kernel
theorem dX7_count_95 : decode cX7_count 95 = .ok (.aload_n 0, 1) := by decide +kernel
theorem dX7_count_96 : decode cX7_count 96 = .ok (.getfield 12, 3) := by decide +kernel
theorem dX7_count_99 : decode cX7_count 99 = .ok (.getfield 129, 3) := by decide +kernel
theorem dX7_count_102 : decode cX7_count 102 = .ok (.getfield 120, 3) := by decide +kernel
theorem dX7_count_105 : decode cX7_count 105 = .ok (.ireturn, 1) := by decide +kernel
theorem dX7_count_106 : decode cX7_count 106 = .ok (.aload_n 0, 1) := by decide +kernel
theorem dX7_count_107 : decode cX7_count 107 = .ok (.getfield 12, 3) := by decide +kernel
theorem dX7_count_110 : decode cX7_count 110 = .ok (.getfield 283, 3) := by decide +kernel
theorem dX7_count_113 : decode cX7_count 113 = .ok (.getfield 120, 3) := by decide +kernel
theorem dX7_count_116 : decode cX7_count 116 = .ok (.ireturn, 1) := by decide +kernel
theorem dX7_count_117 : decode cX7_count 117 = .ok (.aload_n 0, 1) := by decide +kernel
theorem dX7_count_118 : decode cX7_count 118 = .ok (.getfield 28, 3) := by decide +kernel
theorem dX7_count_121 : decode cX7_count 121 = .ok (.getfield 246, 3) := by decide +kernel
theorem dX7_count_124 : decode cX7_count 124 = .ok (.getfield 120, 3) := by decide +kernel
theorem dX7_count_127 : decode cX7_count 127 = .ok (.ireturn, 1) := by decide +kernel
theorem dX7_count_128 : decode cX7_count 128 = .ok (.aload_n 0, 1) := by decide +kernel
theorem dX7_count_129 : decode cX7_count 129 = .ok (.getfield 12, 3) := by decide +kernel
theorem dX7_count_132 : decode cX7_count 132 = .ok (.getfield 187, 3) := by decide +kernel
theorem dX7_count_135 : decode cX7_count 135 = .ok (.ireturn, 1) := by decide +kernel
theorem dX7_count_136 : decode cX7_count 136 = .ok (.aload_n 0, 1) := by decide +kernel
theorem dX7_count_137 : decode cX7_count 137 = .ok (.ldc 51, 2) := by decide +kernel
theorem dX7_count_139 : decode cX7_count 139 = .ok (.invokevirtual 52, 3) := by decide +kernel
theorem dX7_count_142 : decode cX7_count 142 = .ok (.ireturn, 1) := by decide +kernel
theorem dX7_told_0 : decode cX7_told 0 = .ok (.iload_n 1, 1) := by decide +kernel
theorem dX7_told_1 : decode cX7_told 1 = .ok (.iconst 1, 1) := by decide +kernel
theorem dX7_told_2 : decode cX7_told 2 = .ok (.if_icmp .lt 9, 3) := by decide +kernel
theorem dX7_told_5 : decode cX7_told 5 = .ok (.iload_n 1, 1) := by decide +kernel
theorem dX7_told_6 : decode cX7_told 6 = .ok (.bipush 6, 2) := by decide +kernel
theorem dX7_told_8 : decode cX7_told 8 = .ok (.if_icmp .le 10, 3) := by decide +kernel
theorem dX7_told_11 : decode cX7_told 11 = .ok (.aload_n 0, 1) := by decide +kernel
theorem dX7_told_12 : decode cX7_told 12 = .ok (.ldc 51, 2) := by decide +kernel
theorem dX7_told_14 : decode cX7_told 14 = .ok (.invokevirtual 52, 3) := by decide +kernel
theorem dX7_told_17 : decode cX7_told 17 = .ok (.ireturn, 1) := by decide +kernel
theorem dX7_told_18 : decode cX7_told 18 = .ok (.aload_n 0, 1) := by decide +kernel
theorem dX7_told_19 : decode cX7_told 19 = .ok (.getfield 39, 3) := by decide +kernel
theorem dX7_told_22 : decode cX7_told 22 = .ok (.iload_n 1, 1) := by decide +kernel
theorem dX7_told_23 : decode cX7_told 23 = .ok (.iaload, 1) := by decide +kernel
theorem dX7_told_24 : decode cX7_told 24 = .ok (.ireturn, 1) := by decide +kernel
theorem dX7_failed_0 : decode cX7_failed 0 = .ok (.ldc_w 289, 3) := by decide +kernel
theorem dX7_failed_3 : decode cX7_failed 3 = .ok (.iload_n 1, 1) := by decide +kernel
theorem dX7_failed_4 : decode cX7_failed 4 = .ok (.isub, 1) := by decide +kernel
theorem dX7_failed_5 : decode cX7_failed 5 = .ok (.istore_n 2, 1) := by decide +kernel
theorem dX7_failed_6 : decode cX7_failed 6 = .ok (.iload_n 2, 1) := by decide +kernel
theorem dX7_failed_7 : decode cX7_failed 7 = .ok (.iconst 1, 1) := by decide +kernel
theorem dX7_failed_8 : decode cX7_failed 8 = .ok (.if_icmp .lt 19, 3) := by decide +kernel
theorem dX7_failed_11 : decode cX7_failed 11 = .ok (.iload_n 2, 1) := by decide +kernel
theorem dX7_failed_12 : decode cX7_failed 12 = .ok (.bipush 6, 2) := by decide +kernel
theorem dX7_failed_14 : decode cX7_failed 14 = .ok (.if_icmp .gt 13, 3) := by decide +kernel
theorem dX7_failed_17 : decode cX7_failed 17 = .ok (.aload_n 0, 1) := by decide +kernel
theorem dX7_failed_18 : decode cX7_failed 18 = .ok (.getfield 39, 3) := by decide +kernel
theorem dX7_failed_21 : decode cX7_failed 21 = .ok (.iload_n 2, 1) := by decide +kernel
theorem dX7_failed_22 : decode cX7_failed 22 = .ok (.dup2, 1) := by decide +kernel
theorem dX7_failed_23 : decode cX7_failed 23 = .ok (.iaload, 1) := by decide +kernel
theorem dX7_failed_24 : decode cX7_failed 24 = .ok (.iconst 1, 1) := by decide +kernel
theorem dX7_failed_25 : decode cX7_failed 25 = .ok (.iadd, 1) := by decide +kernel
theorem dX7_failed_26 : decode cX7_failed 26 = .ok (.iastore, 1) := by decide +kernel
theorem dX7_failed_27 : decode cX7_failed 27 = .ok (.iload_n 1, 1) := by decide +kernel
theorem dX7_failed_28 : decode cX7_failed 28 = .ok (.ireturn, 1) := by decide +kernel
theorem dX7_isKindAndM_0 : decode cX7_isKindAndM 0 = .ok (.iload_n 0, 1) := by decide +kernel
theorem dX7_isKindAndM_1 : decode cX7_isKindAndM 1 = .ok (.ifCond .lt 13, 3) := by decide +kernel
theorem dX7_isKindAndM_4 : decode cX7_isKindAndM 4 = .ok (.iload_n 0, 1) := by decide +kernel
theorem dX7_isKindAndM_5 : decode cX7_isKindAndM 5 = .ok (.bipush 70, 2) := by decide +kernel
theorem dX7_isKindAndM_7 : decode cX7_isKindAndM 7 = .ok (.if_icmp .ge 7, 3) := by decide +kernel
theorem dX7_isKindAndM_10 : decode cX7_isKindAndM 10 = .ok (.iconst 1, 1) := by decide +kernel
theorem dX7_isKindAndM_11 : decode cX7_isKindAndM 11 = .ok (.goto 4, 3) := by decide +kernel
theorem dX7_isKindAndM_14 : decode cX7_isKindAndM 14 = .ok (.iconst 0, 1) := by decide +kernel
theorem dX7_isKindAndM_15 : decode cX7_isKindAndM 15 = .ok (.ireturn, 1) := by decide +kernel
theorem dX7_isWeight_0 : decode cX7_isWeight 0 = .ok (.iload_n 0, 1) := by decide +kernel
theorem dX7_isWeight_1 : decode cX7_isWeight 1 = .ok (.ifCond .lt 13, 3) := by decide +kernel
theorem dX7_isWeight_4 : decode cX7_isWeight 4 = .ok (.iload_n 0, 1) := by decide +kernel
theorem dX7_isWeight_5 : decode cX7_isWeight 5 = .ok (.bipush 99, 2) := by decide +kernel
theorem dX7_isWeight_7 : decode cX7_isWeight 7 = .ok (.if_icmp .gt 7, 3) := by decide +kernel
theorem dX7_isWeight_10 : decode cX7_isWeight 10 = .ok (.iconst 1, 1) := by decide +kernel
theorem dX7_isWeight_11 : decode cX7_isWeight 11 = .ok (.goto 4, 3) := by decide +kernel
theorem dX7_isWeight_14 : decode cX7_isWeight 14 = .ok (.iconst 0, 1) := by decide +kernel
theorem dX7_isWeight_15 : decode cX7_isWeight 15 = .ok (.ireturn, 1) := by decide +kernel
theorem dX7_isUse_0 : decode cX7_isUse 0 = .ok (.iload_n 0, 1) := by decide +kernel
theorem dX7_isUse_1 : decode cX7_isUse 1 = .ok (.ifCond .lt 12, 3) := by decide +kernel
theorem dX7_isUse_4 : decode cX7_isUse 4 = .ok (.iload_n 0, 1) := by decide +kernel
theorem dX7_isUse_5 : decode cX7_isUse 5 = .ok (.iconst 2, 1) := by decide +kernel
theorem dX7_isUse_6 : decode cX7_isUse 6 = .ok (.if_icmp .ge 7, 3) := by decide +kernel
theorem dX7_isUse_9 : decode cX7_isUse 9 = .ok (.iconst 1, 1) := by decide +kernel
theorem dX7_isUse_10 : decode cX7_isUse 10 = .ok (.goto 4, 3) := by decide +kernel
theorem dX7_isUse_13 : decode cX7_isUse 13 = .ok (.iconst 0, 1) := by decide +kernel
theorem dX7_isUse_14 : decode cX7_isUse 14 = .ok (.ireturn, 1) := by decide +kernel
theorem dX7_isWay_0 : decode cX7_isWay 0 = .ok (.iload_n 0, 1) := by decide +kernel
theorem dX7_isWay_1 : decode cX7_isWay 1 = .ok (.ifCond .lt 12, 3) := by decide +kernel
theorem dX7_isWay_4 : decode cX7_isWay 4 = .ok (.iload_n 0, 1) := by decide +kernel
theorem dX7_isWay_5 : decode cX7_isWay 5 = .ok (.iconst 3, 1) := by decide +kernel
theorem dX7_isWay_6 : decode cX7_isWay 6 = .ok (.if_icmp .ge 7, 3) := by decide +kernel
theorem dX7_isWay_9 : decode cX7_isWay 9 = .ok (.iconst 1, 1) := by decide +kernel
theorem dX7_isWay_10 : decode cX7_isWay 10 = .ok (.goto 4, 3) := by decide +kernel
theorem dX7_isWay_13 : decode cX7_isWay 13 = .ok (.iconst 0, 1) := by decide +kernel
theorem dX7_isWay_14 : decode cX7_isWay 14 = .ok (.ireturn, 1) := by decide +kernel
theorem dX7_isTimeAsked_0 : decode cX7_isTimeAsked 0 = .ok (.iload_n 0, 1) := by decide +kernel
theorem dX7_isTimeAsked_1 : decode cX7_isTimeAsked 1 = .ok (.ifCond .lt 14, 3) := by decide +kernel
theorem dX7_isTimeAsked_4 : decode cX7_isTimeAsked 4 = .ok (.iload_n 0, 1) := by decide +kernel
theorem dX7_isTimeAsked_5 : decode cX7_isTimeAsked 5 = .ok (.sipush 999, 3) := by decide +kernel
theorem dX7_isTimeAsked_8 : decode cX7_isTimeAsked 8 = .ok (.if_icmp .gt 7, 3) := by decide +kernel
theorem dX7_isTimeAsked_11 : decode cX7_isTimeAsked 11 = .ok (.iconst 1, 1) := by decide +kernel
theorem dX7_isTimeAsked_12 : decode cX7_isTimeAsked 12 = .ok (.goto 4, 3) := by decide +kernel
theorem dX7_isTimeAsked_15 : decode cX7_isTimeAsked 15 = .ok (.iconst 0, 1) := by decide +kernel
theorem dX7_isTimeAsked_16 : decode cX7_isTimeAsked 16 = .ok (.ireturn, 1) := by decide +kernel
theorem dX7_isSheet_0 : decode cX7_isSheet 0 = .ok (.iload_n 0, 1) := by decide +kernel
theorem dX7_isSheet_1 : decode cX7_isSheet 1 = .ok (.ifCond .lt 12, 3) := by decide +kernel
theorem dX7_isSheet_4 : decode cX7_isSheet 4 = .ok (.iload_n 0, 1) := by decide +kernel
theorem dX7_isSheet_5 : decode cX7_isSheet 5 = .ok (.iconst 4, 1) := by decide +kernel
theorem dX7_isSheet_6 : decode cX7_isSheet 6 = .ok (.if_icmp .ge 7, 3) := by decide +kernel
theorem dX7_isSheet_9 : decode cX7_isSheet 9 = .ok (.iconst 1, 1) := by decide +kernel
theorem dX7_isSheet_10 : decode cX7_isSheet 10 = .ok (.goto 4, 3) := by decide +kernel
theorem dX7_isSheet_13 : decode cX7_isSheet 13 = .ok (.iconst 0, 1) := by decide +kernel
theorem dX7_isSheet_14 : decode cX7_isSheet 14 = .ok (.ireturn, 1) := by decide +kernel
theorem dX7_commonDivisor_0 : decode cX7_commonDivisor 0 = .ok (.iload_n 0, 1) := by decide +kernel
theorem dX7_commonDivisor_1 : decode cX7_commonDivisor 1 = .ok (.istore_n 2, 1) := by decide +kernel
theorem dX7_commonDivisor_2 : decode cX7_commonDivisor 2 = .ok (.iload_n 1, 1) := by decide +kernel
theorem dX7_commonDivisor_3 : decode cX7_commonDivisor 3 = .ok (.istore_n 3, 1) := by decide +kernel
theorem dX7_commonDivisor_4 : decode cX7_commonDivisor 4 = .ok (.iconst 0, 1) := by decide +kernel
theorem dX7_commonDivisor_5 : decode cX7_commonDivisor 5 = .ok (.istore 4, 2) := by decide +kernel
theorem dX7_commonDivisor_7 : decode cX7_commonDivisor 7 = .ok (.iload 4, 2) := by decide +kernel
theorem dX7_commonDivisor_9 : decode cX7_commonDivisor 9 = .ok (.bipush 64, 2) := by decide +kernel
theorem dX7_commonDivisor_11 : decode cX7_commonDivisor 11 = .ok (.if_icmp .ge 23, 3) := by decide +kernel
theorem dX7_commonDivisor_14 : decode cX7_commonDivisor 14 = .ok (.iload_n 3, 1) := by decide +kernel
theorem dX7_commonDivisor_15 : decode cX7_commonDivisor 15 = .ok (.ifCond .eq 19, 3) := by decide +kernel
theorem dX7_commonDivisor_18 : decode cX7_commonDivisor 18 = .ok (.iload_n 2, 1) := by decide +kernel
theorem dX7_commonDivisor_19 : decode cX7_commonDivisor 19 = .ok (.iload_n 3, 1) := by decide +kernel
theorem dX7_commonDivisor_20 : decode cX7_commonDivisor 20 = .ok (.irem, 1) := by decide +kernel
theorem dX7_commonDivisor_21 : decode cX7_commonDivisor 21 = .ok (.istore 5, 2) := by decide +kernel
theorem dX7_commonDivisor_23 : decode cX7_commonDivisor 23 = .ok (.iload_n 3, 1) := by decide +kernel
theorem dX7_commonDivisor_24 : decode cX7_commonDivisor 24 = .ok (.istore_n 2, 1) := by decide +kernel
theorem dX7_commonDivisor_25 : decode cX7_commonDivisor 25 = .ok (.iload 5, 2) := by decide +kernel
theorem dX7_commonDivisor_27 : decode cX7_commonDivisor 27 = .ok (.istore_n 3, 1) := by decide +kernel
theorem dX7_commonDivisor_28 : decode cX7_commonDivisor 28 = .ok (.iinc 4 1, 3) := by decide +kernel
theorem dX7_commonDivisor_31 : decode cX7_commonDivisor 31 = .ok (.goto (-24), 3) := by decide +kernel
theorem dX7_commonDivisor_34 : decode cX7_commonDivisor 34 = .ok (.iload_n 2, 1) := by decide +kernel
theorem dX7_commonDivisor_35 : decode cX7_commonDivisor 35 = .ok (.ireturn, 1) := by decide +kernel
