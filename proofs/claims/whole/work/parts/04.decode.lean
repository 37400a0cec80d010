theorem dX6_init_0 : decode cX6_init 0 = .ok (.aload_n 0, 1) := by decide +kernel
theorem dX6_init_1 : decode cX6_init 1 = .ok (.invokespecial 3, 3) := by decide +kernel
theorem dX6_init_4 : decode cX6_init 4 = .ok (.aload_n 0, 1) := by decide +kernel
theorem dX6_init_5 : decode cX6_init 5 = .ok (.iconst 4, 1) := by decide +kernel
theorem dX6_init_6 : decode cX6_init 6 = .ok (.anewarray 11, 3) := by decide +kernel
theorem dX6_init_9 : decode cX6_init 9 = .ok (.putfield 13, 3) := by decide +kernel
theorem dX6_init_12 : decode cX6_init 12 = .ok (.iconst 0, 1) := by decide +kernel
theorem dX6_init_13 : decode cX6_init 13 = .ok (.istore_n 1, 1) := by decide +kernel
theorem dX6_init_14 : decode cX6_init 14 = .ok (.iload_n 1, 1) := by decide +kernel
theorem dX6_init_15 : decode cX6_init 15 = .ok (.iconst 4, 1) := by decide +kernel
theorem dX6_init_16 : decode cX6_init 16 = .ok (.if_icmp .ge 22, 3) := by decide +kernel
theorem dX6_init_19 : decode cX6_init 19 = .ok (.aload_n 0, 1) := by decide +kernel
theorem dX6_init_20 : decode cX6_init 20 = .ok (.getfield 13, 3) := by decide +kernel
theorem dX6_init_23 : decode cX6_init 23 = .ok (.iload_n 1, 1) := by decide +kernel
theorem dX6_init_24 : decode cX6_init 24 = .ok (.new 11, 3) := by decide +kernel
theorem dX6_init_27 : decode cX6_init 27 = .ok (.dup, 1) := by decide +kernel
theorem dX6_init_28 : decode cX6_init 28 = .ok (.invokespecial 17, 3) := by decide +kernel
theorem dX6_init_31 : decode cX6_init 31 = .ok (.aastore, 1) := by decide +kernel
theorem dX6_init_32 : decode cX6_init 32 = .ok (.iinc 1 1, 3) := by decide +kernel
theorem dX6_init_35 : decode cX6_init 35 = .ok (.goto (-21), 3) := by decide +kernel
theorem dX6_init_38 : decode cX6_init 38 = .ok (.aload_n 0, 1) := by decide +kernel
theorem dX6_init_39 : decode cX6_init 39 = .ok (.new 18, 3) := by decide +kernel
theorem dX6_init_42 : decode cX6_init 42 = .ok (.dup, 1) := by decide +kernel
theorem dX6_init_43 : decode cX6_init 43 = .ok (.invokespecial 20, 3) := by decide +kernel
theorem dX6_init_46 : decode cX6_init 46 = .ok (.putfield 21, 3) := by decide +kernel
theorem dX6_init_49 : decode cX6_init 49 = .ok (.aload_n 0, 1) := by decide +kernel
theorem dX6_init_50 : decode cX6_init 50 = .ok (.new 25, 3) := by decide +kernel
theorem dX6_init_53 : decode cX6_init 53 = .ok (.dup, 1) := by decide +kernel
theorem dX6_init_54 : decode cX6_init 54 = .ok (.invokespecial 27, 3) := by decide +kernel
theorem dX6_init_57 : decode cX6_init 57 = .ok (.putfield 28, 3) := by decide +kernel
theorem dX6_init_60 : decode cX6_init 60 = .ok (.aload_n 0, 1) := by decide +kernel
theorem dX6_init_61 : decode cX6_init 61 = .ok (.iconst 0, 1) := by decide +kernel
theorem dX6_init_62 : decode cX6_init 62 = .ok (.putfield 32, 3) := by decide +kernel
theorem dX6_init_65 : decode cX6_init 65 = .ok (.aload_n 0, 1) := by decide +kernel
theorem dX6_init_66 : decode cX6_init 66 = .ok (.iconst 0, 1) := by decide +kernel
theorem dX6_init_67 : decode cX6_init 67 = .ok (.putfield 36, 3) := by decide +kernel
theorem dX6_init_70 : decode cX6_init 70 = .ok (.return_, 1) := by decide +kernel
theorem dX6_statues_0 : decode cX6_statues 0 = .ok (.aload_n 0, 1) := by decide +kernel
theorem dX6_statues_1 : decode cX6_statues 1 = .ok (.iconst 0, 1) := by decide +kernel
theorem dX6_statues_2 : decode cX6_statues 2 = .ok (.putfield 36, 3) := by decide +kernel
theorem dX6_statues_5 : decode cX6_statues 5 = .ok (.iload_n 1, 1) := by decide +kernel
theorem dX6_statues_6 : decode cX6_statues 6 = .ok (.invokestatic 39, 3) := by decide +kernel
theorem dX6_statues_9 : decode cX6_statues 9 = .ok (.ifCond .ne 5, 3) := by decide +kernel
theorem dX6_statues_12 : decode cX6_statues 12 = .ok (.iconst (-1), 1) := by decide +kernel
theorem dX6_statues_13 : decode cX6_statues 13 = .ok (.ireturn, 1) := by decide +kernel
theorem dX6_statues_14 : decode cX6_statues 14 = .ok (.iload_n 2, 1) := by decide +kernel
theorem dX6_statues_15 : decode cX6_statues 15 = .ok (.invokestatic 43, 3) := by decide +kernel
theorem dX6_statues_18 : decode cX6_statues 18 = .ok (.ifCond .ne 6, 3) := by decide +kernel
theorem dX6_statues_21 : decode cX6_statues 21 = .ok (.bipush (-2), 2) := by decide +kernel
theorem dX6_statues_23 : decode cX6_statues 23 = .ok (.ireturn, 1) := by decide +kernel
theorem dX6_statues_24 : decode cX6_statues 24 = .ok (.aload_n 0, 1) := by decide +kernel
theorem dX6_statues_25 : decode cX6_statues 25 = .ok (.getfield 13, 3) := by decide +kernel
theorem dX6_statues_28 : decode cX6_statues 28 = .ok (.iload_n 1, 1) := by decide +kernel
theorem dX6_statues_29 : decode cX6_statues 29 = .ok (.aaload, 1) := by decide +kernel
theorem dX6_statues_30 : decode cX6_statues 30 = .ok (.astore 5, 2) := by decide +kernel
theorem dX6_statues_32 : decode cX6_statues 32 = .ok (.aload 5, 2) := by decide +kernel
theorem dX6_statues_34 : decode cX6_statues 34 = .ok (.iload_n 2, 1) := by decide +kernel
theorem dX6_statues_35 : decode cX6_statues 35 = .ok (.invokevirtual 46, 3) := by decide +kernel
theorem dX6_statues_38 : decode cX6_statues 38 = .ok (.istore 6, 2) := by decide +kernel
theorem dX6_statues_40 : decode cX6_statues 40 = .ok (.iload 6, 2) := by decide +kernel
theorem dX6_statues_42 : decode cX6_statues 42 = .ok (.ifCond .ne 11, 3) := by decide +kernel
theorem dX6_statues_45 : decode cX6_statues 45 = .ok (.iload 4, 2) := by decide +kernel
theorem dX6_statues_47 : decode cX6_statues 47 = .ok (.ifCond .ge 6, 3) := by decide +kernel
theorem dX6_statues_50 : decode cX6_statues 50 = .ok (.iconst 4, 1) := by decide +kernel
theorem dX6_statues_51 : decode cX6_statues 51 = .ok (.istore 6, 2) := by decide +kernel
theorem dX6_statues_53 : decode cX6_statues 53 = .ok (.iload 6, 2) := by decide +kernel
theorem dX6_statues_55 : decode cX6_statues 55 = .ok (.ifCond .ne 17, 3) := by decide +kernel
theorem dX6_statues_58 : decode cX6_statues 58 = .ok (.aload 5, 2) := by decide +kernel
theorem dX6_statues_60 : decode cX6_statues 60 = .ok (.iload_n 3, 1) := by decide +kernel
theorem dX6_statues_61 : decode cX6_statues 61 = .ok (.iload 4, 2) := by decide +kernel
theorem dX6_statues_63 : decode cX6_statues 63 = .ok (.invokevirtual 50, 3) := by decide +kernel
theorem dX6_statues_66 : decode cX6_statues 66 = .ok (.ifCond .ne 6, 3) := by decide +kernel
theorem dX6_statues_69 : decode cX6_statues 69 = .ok (.iconst 3, 1) := by decide +kernel
theorem dX6_statues_70 : decode cX6_statues 70 = .ok (.istore 6, 2) := by decide +kernel
theorem dX6_statues_72 : decode cX6_statues 72 = .ok (.iload 6, 2) := by decide +kernel
theorem dX6_statues_74 : decode cX6_statues 74 = .ok (.ifCond .eq 10, 3) := by decide +kernel
theorem dX6_statues_77 : decode cX6_statues 77 = .ok (.aload_n 0, 1) := by decide +kernel
theorem dX6_statues_78 : decode cX6_statues 78 = .ok (.iload 6, 2) := by decide +kernel
theorem dX6_statues_80 : decode cX6_statues 80 = .ok (.invokevirtual 54, 3) := by decide +kernel
theorem dX6_statues_83 : decode cX6_statues 83 = .ok (.ireturn, 1) := by decide +kernel
theorem dX6_statues_84 : decode cX6_statues 84 = .ok (.aload 5, 2) := by decide +kernel
theorem dX6_statues_86 : decode cX6_statues 86 = .ok (.iload_n 3, 1) := by decide +kernel
theorem dX6_statues_87 : decode cX6_statues 87 = .ok (.iload 4, 2) := by decide +kernel
theorem dX6_statues_89 : decode cX6_statues 89 = .ok (.invokestatic 57, 3) := by decide +kernel
theorem dX6_statues_92 : decode cX6_statues 92 = .ok (.istore 7, 2) := by decide +kernel
theorem dX6_statues_94 : decode cX6_statues 94 = .ok (.iload 7, 2) := by decide +kernel
theorem dX6_statues_96 : decode cX6_statues 96 = .ok (.iconst (-1), 1) := by decide +kernel
theorem dX6_statues_97 : decode cX6_statues 97 = .ok (.if_icmp .eq 9, 3) := by decide +kernel
theorem dX6_statues_100 : decode cX6_statues 100 = .ok (.bipush (-100), 2) := by decide +kernel
theorem dX6_statues_102 : decode cX6_statues 102 = .ok (.iload 7, 2) := by decide +kernel
theorem dX6_statues_104 : decode cX6_statues 104 = .ok (.isub, 1) := by decide +kernel
theorem dX6_statues_105 : decode cX6_statues 105 = .ok (.ireturn, 1) := by decide +kernel
theorem dX6_statues_106 : decode cX6_statues 106 = .ok (.aload_n 0, 1) := by decide +kernel
theorem dX6_statues_107 : decode cX6_statues 107 = .ok (.getfield 21, 3) := by decide +kernel
theorem dX6_statues_110 : decode cX6_statues 110 = .ok (.aload 5, 2) := by decide +kernel
theorem dX6_statues_112 : decode cX6_statues 112 = .ok (.iload_n 3, 1) := by decide +kernel
theorem dX6_statues_113 : decode cX6_statues 113 = .ok (.iload 4, 2) := by decide +kernel
theorem dX6_statues_115 : decode cX6_statues 115 = .ok (.invokevirtual 63, 3) := by decide +kernel
theorem dX6_statues_118 : decode cX6_statues 118 = .ok (.aload_n 0, 1) := by decide +kernel
theorem dX6_statues_119 : decode cX6_statues 119 = .ok (.getfield 28, 3) := by decide +kernel
theorem dX6_statues_122 : decode cX6_statues 122 = .ok (.iconst 0, 1) := by decide +kernel
theorem dX6_statues_123 : decode cX6_statues 123 = .ok (.invokevirtual 67, 3) := by decide +kernel
theorem dX6_statues_126 : decode cX6_statues 126 = .ok (.aload_n 0, 1) := by decide +kernel
theorem dX6_statues_127 : decode cX6_statues 127 = .ok (.getfield 21, 3) := by decide +kernel
theorem dX6_statues_130 : decode cX6_statues 130 = .ok (.getfield 71, 3) := by decide +kernel
theorem dX6_statues_133 : decode cX6_statues 133 = .ok (.ireturn, 1) := by decide +kernel
theorem dX6_ofStatue_0 : decode cX6_ofStatue 0 = .ok (.aload_n 0, 1) := by decide +kernel
theorem dX6_ofStatue_1 : decode cX6_ofStatue 1 = .ok (.iload_n 1, 1) := by decide +kernel
theorem dX6_ofStatue_2 : decode cX6_ofStatue 2 = .ok (.invokevirtual 74, 3) := by decide +kernel
theorem dX6_ofStatue_5 : decode cX6_ofStatue 5 = .ok (.ifCond .ne 5, 3) := by decide +kernel
theorem dX6_ofStatue_8 : decode cX6_ofStatue 8 = .ok (.iconst (-1), 1) := by decide +kernel
theorem dX6_ofStatue_9 : decode cX6_ofStatue 9 = .ok (.ireturn, 1) := by decide +kernel
theorem dX6_ofStatue_10 : decode cX6_ofStatue 10 = .ok (.aload_n 0, 1) := by decide +kernel
theorem dX6_ofStatue_11 : decode cX6_ofStatue 11 = .ok (.getfield 21, 3) := by decide +kernel
theorem dX6_ofStatue_14 : decode cX6_ofStatue 14 = .ok (.getfield 77, 3) := by decide +kernel
theorem dX6_ofStatue_17 : decode cX6_ofStatue 17 = .ok (.iload_n 1, 1) := by decide +kernel
theorem dX6_ofStatue_18 : decode cX6_ofStatue 18 = .ok (.aaload, 1) := by decide +kernel
theorem dX6_ofStatue_19 : decode cX6_ofStatue 19 = .ok (.astore_n 3, 1) := by decide +kernel
theorem dX6_ofStatue_20 : decode cX6_ofStatue 20 = .ok (.iload_n 2, 1) := by decide +kernel
theorem dX6_ofStatue_21 : decode cX6_ofStatue 21 = .ok (.tableswitch 78 0 6 #[43, 43, 43, 50, 55, 60, 65], 43) := by decide +kernel
theorem dX6_ofStatue_64 : decode cX6_ofStatue 64 = .ok (.aload_n 3, 1) := by decide +kernel
theorem dX6_ofStatue_65 : decode cX6_ofStatue 65 = .ok (.getfield 81, 3) := by decide +kernel
theorem dX6_ofStatue_68 : decode cX6_ofStatue 68 = .ok (.iload_n 2, 1) := by decide +kernel
theorem dX6_ofStatue_69 : decode cX6_ofStatue 69 = .ok (.iaload, 1) := by decide +kernel
theorem dX6_ofStatue_70 : decode cX6_ofStatue 70 = .ok (.ireturn, 1) := by decide +kernel
theorem dX6_ofStatue_71 : decode cX6_ofStatue 71 = .ok (.aload_n 3, 1) := by decide +kernel
theorem dX6_ofStatue_72 : decode cX6_ofStatue 72 = .ok (.getfield 87, 3) := by decide +kernel
theorem dX6_ofStatue_75 : decode cX6_ofStatue 75 = .ok (.ireturn, 1) := by decide +kernel
theorem dX6_ofStatue_76 : decode cX6_ofStatue 76 = .ok (.aload_n 3, 1) := by decide +kernel
theorem dX6_ofStatue_77 : decode cX6_ofStatue 77 = .ok (.getfield 90, 3) := by decide +kernel
theorem dX6_ofStatue_80 : decode cX6_ofStatue 80 = .ok (.ireturn, 1) := by decide +kernel
theorem dX6_ofStatue_81 : decode cX6_ofStatue 81 = .ok (.aload_n 3, 1) := by decide +kernel
theorem dX6_ofStatue_82 : decode cX6_ofStatue 82 = .ok (.getfield 93, 3) := by decide +kernel
theorem dX6_ofStatue_85 : decode cX6_ofStatue 85 = .ok (.ireturn, 1) := by decide +kernel
theorem dX6_ofStatue_86 : decode cX6_ofStatue 86 = .ok (.aload_n 3, 1) := by decide +kernel
theorem dX6_ofStatue_87 : decode cX6_ofStatue 87 = .ok (.getfield 96, 3) := by decide +kernel
theorem dX6_ofStatue_90 : decode cX6_ofStatue 90 = .ok (.ifCond .eq 7, 3) := by decide +kernel
theorem dX6_ofStatue_93 : decode cX6_ofStatue 93 = .ok (.iconst 1, 1) := by decide +kernel
theorem dX6_ofStatue_94 : decode cX6_ofStatue 94 = .ok (.goto 4, 3) := by decide +kernel
theorem dX6_ofStatue_97 : decode cX6_ofStatue 97 = .ok (.iconst 0, 1) := by decide +kernel
theorem dX6_ofStatue_98 : decode cX6_ofStatue 98 = .ok (.ireturn, 1) := by decide +kernel
theorem dX6_ofStatue_99 : decode cX6_ofStatue 99 = .ok (.bipush (-2), 2) := by decide +kernel
theorem dX6_ofStatue_101 : decode cX6_ofStatue 101 = .ok (.ireturn, 1) := by decide +kernel
theorem dX6_look_0 : decode cX6_look 0 = .ok (.aload_n 0, 1) := by decide +kernel
theorem dX6_look_1 : decode cX6_look 1 = .ok (.iload_n 1, 1) := by decide +kernel
theorem dX6_look_2 : decode cX6_look 2 = .ok (.invokevirtual 74, 3) := by decide +kernel
theorem dX6_look_5 : decode cX6_look 5 = .ok (.ifCond .ne 5, 3) := by decide +kernel
theorem dX6_look_8 : decode cX6_look 8 = .ok (.iconst (-1), 1) := by decide +kernel
theorem dX6_look_9 : decode cX6_look 9 = .ok (.ireturn, 1) := by decide +kernel
theorem dX6_look_10 : decode cX6_look 10 = .ok (.iload_n 2, 1) := by decide +kernel
theorem dX6_look_11 : decode cX6_look 11 = .ok (.iconst 4, 1) := by decide +kernel
theorem dX6_look_12 : decode cX6_look 12 = .ok (.invokestatic 100, 3) := by decide +kernel
theorem dX6_look_15 : decode cX6_look 15 = .ok (.ifCond .ne 6, 3) := by decide +kernel
theorem dX6_look_18 : decode cX6_look 18 = .ok (.bipush (-2), 2) := by decide +kernel
theorem dX6_look_20 : decode cX6_look 20 = .ok (.ireturn, 1) := by decide +kernel
theorem dX6_look_21 : decode cX6_look 21 = .ok (.aload_n 0, 1) := by decide +kernel
theorem dX6_look_22 : decode cX6_look 22 = .ok (.getfield 21, 3) := by decide +kernel
theorem dX6_look_25 : decode cX6_look 25 = .ok (.getfield 77, 3) := by decide +kernel
theorem dX6_look_28 : decode cX6_look 28 = .ok (.iload_n 1, 1) := by decide +kernel
theorem dX6_look_29 : decode cX6_look 29 = .ok (.aaload, 1) := by decide +kernel
theorem dX6_look_30 : decode cX6_look 30 = .ok (.astore_n 3, 1) := by decide +kernel
theorem dX6_look_31 : decode cX6_look 31 = .ok (.aload_n 3, 1) := by decide +kernel
theorem dX6_look_32 : decode cX6_look 32 = .ok (.getfield 90, 3) := by decide +kernel
theorem dX6_look_35 : decode cX6_look 35 = .ok (.istore 4, 2) := by decide +kernel
theorem dX6_look_37 : decode cX6_look 37 = .ok (.aload_n 3, 1) := by decide +kernel
theorem dX6_look_38 : decode cX6_look 38 = .ok (.iload_n 2, 1) := by decide +kernel
theorem dX6_look_39 : decode cX6_look 39 = .ok (.putfield 90, 3) := by decide +kernel
theorem dX6_look_42 : decode cX6_look 42 = .ok (.aload_n 0, 1) := by decide +kernel
theorem dX6_look_43 : decode cX6_look 43 = .ok (.getfield 21, 3) := by decide +kernel
theorem dX6_look_46 : decode cX6_look 46 = .ok (.iconst 0, 1) := by decide +kernel
theorem dX6_look_47 : decode cX6_look 47 = .ok (.invokevirtual 103, 3) := by decide +kernel
theorem dX6_look_50 : decode cX6_look 50 = .ok (.iload 4, 2) := by decide +kernel
theorem dX6_look_52 : decode cX6_look 52 = .ok (.ireturn, 1) := by decide +kernel
theorem dX6_over_0 : decode cX6_over 0 = .ok (.aload_n 0, 1) := by decide +kernel
theorem dX6_over_1 : decode cX6_over 1 = .ok (.iload_n 1, 1) := by decide +kernel
theorem dX6_over_2 : decode cX6_over 2 = .ok (.invokevirtual 74, 3) := by decide +kernel
theorem dX6_over_5 : decode cX6_over 5 = .ok (.ifCond .ne 5, 3) := by decide +kernel
theorem dX6_over_8 : decode cX6_over 8 = .ok (.iconst (-1), 1) := by decide +kernel
theorem dX6_over_9 : decode cX6_over 9 = .ok (.ireturn, 1) := by decide +kernel
theorem dX6_over_10 : decode cX6_over 10 = .ok (.iload_n 2, 1) := by decide +kernel
theorem dX6_over_11 : decode cX6_over 11 = .ok (.iconst 3, 1) := by decide +kernel
theorem dX6_over_12 : decode cX6_over 12 = .ok (.invokestatic 100, 3) := by decide +kernel
theorem dX6_over_15 : decode cX6_over 15 = .ok (.ifCond .ne 6, 3) := by decide +kernel
theorem dX6_over_18 : decode cX6_over 18 = .ok (.bipush (-2), 2) := by decide +kernel
theorem dX6_over_20 : decode cX6_over 20 = .ok (.ireturn, 1) := by decide +kernel
theorem dX6_over_21 : decode cX6_over 21 = .ok (.aload_n 0, 1) := by decide +kernel
theorem dX6_over_22 : decode cX6_over 22 = .ok (.getfield 21, 3) := by decide +kernel
theorem dX6_over_25 : decode cX6_over 25 = .ok (.getfield 77, 3) := by decide +kernel
theorem dX6_over_28 : decode cX6_over 28 = .ok (.iload_n 1, 1) := by decide +kernel
theorem dX6_over_29 : decode cX6_over 29 = .ok (.aaload, 1) := by decide +kernel
theorem dX6_over_30 : decode cX6_over 30 = .ok (.astore_n 3, 1) := by decide +kernel
theorem dX6_over_31 : decode cX6_over 31 = .ok (.aload_n 3, 1) := by decide +kernel
theorem dX6_over_32 : decode cX6_over 32 = .ok (.getfield 93, 3) := by decide +kernel
theorem dX6_over_35 : decode cX6_over 35 = .ok (.istore 4, 2) := by decide +kernel
theorem dX6_over_37 : decode cX6_over 37 = .ok (.aload_n 3, 1) := by decide +kernel
theorem dX6_over_38 : decode cX6_over 38 = .ok (.iload_n 2, 1) := by decide +kernel
theorem dX6_over_39 : decode cX6_over 39 = .ok (.putfield 93, 3) := by decide +kernel
theorem dX6_over_42 : decode cX6_over 42 = .ok (.aload_n 0, 1) := by decide +kernel
theorem dX6_over_43 : decode cX6_over 43 = .ok (.getfield 21, 3) := by decide +kernel
theorem dX6_over_46 : decode cX6_over 46 = .ok (.iconst 0, 1) := by decide +kernel
theorem dX6_over_47 : decode cX6_over 47 = .ok (.invokevirtual 103, 3) := by decide +kernel
theorem dX6_over_50 : decode cX6_over 50 = .ok (.iload 4, 2) := by decide +kernel
theorem dX6_over_52 : decode cX6_over 52 = .ok (.ireturn, 1) := by decide +kernel
theorem dX6_fence_0 : decode cX6_fence 0 = .ok (.aload_n 0, 1) := by decide +kernel
theorem dX6_fence_1 : decode cX6_fence 1 = .ok (.iload_n 1, 1) := by decide +kernel
theorem dX6_fence_2 : decode cX6_fence 2 = .ok (.invokevirtual 74, 3) := by decide +kernel
theorem dX6_fence_5 : decode cX6_fence 5 = .ok (.ifCond .ne 5, 3) := by decide +kernel
theorem dX6_fence_8 : decode cX6_fence 8 = .ok (.iconst (-1), 1) := by decide +kernel
theorem dX6_fence_9 : decode cX6_fence 9 = .ok (.ireturn, 1) := by decide +kernel
theorem dX6_fence_10 : decode cX6_fence 10 = .ok (.aload_n 0, 1) := by decide +kernel
theorem dX6_fence_11 : decode cX6_fence 11 = .ok (.getfield 21, 3) := by decide +kernel
theorem dX6_fence_14 : decode cX6_fence 14 = .ok (.getfield 77, 3) := by decide +kernel
theorem dX6_fence_17 : decode cX6_fence 17 = .ok (.iload_n 1, 1) := by decide +kernel
theorem dX6_fence_18 : decode cX6_fence 18 = .ok (.aaload, 1) := by decide +kernel
theorem dX6_fence_19 : decode cX6_fence 19 = .ok (.astore_n 3, 1) := by decide +kernel
theorem dX6_fence_20 : decode cX6_fence 20 = .ok (.aload_n 3, 1) := by decide +kernel
theorem dX6_fence_21 : decode cX6_fence 21 = .ok (.getfield 96, 3) := by decide +kernel
theorem dX6_fence_24 : decode cX6_fence 24 = .ok (.iload_n 2, 1) := by decide +kernel
theorem dX6_fence_25 : decode cX6_fence 25 = .ok (.if_icmp .ne 5, 3) := by decide +kernel
theorem dX6_fence_28 : decode cX6_fence 28 = .ok (.iconst 0, 1) := by decide +kernel
theorem dX6_fence_29 : decode cX6_fence 29 = .ok (.ireturn, 1) := by decide +kernel
theorem dX6_fence_30 : decode cX6_fence 30 = .ok (.aload_n 3, 1) := by decide +kernel
theorem dX6_fence_31 : decode cX6_fence 31 = .ok (.iload_n 2, 1) := by decide +kernel
theorem dX6_fence_32 : decode cX6_fence 32 = .ok (.putfield 96, 3) := by decide +kernel
theorem dX6_fence_35 : decode cX6_fence 35 = .ok (.aload_n 0, 1) := by decide +kernel
theorem dX6_fence_36 : decode cX6_fence 36 = .ok (.getfield 21, 3) := by decide +kernel
theorem dX6_fence_39 : decode cX6_fence 39 = .ok (.iconst 0, 1) := by decide +kernel
theorem dX6_fence_40 : decode cX6_fence 40 = .ok (.invokevirtual 103, 3) := by decide +kernel
theorem dX6_fence_43 : decode cX6_fence 43 = .ok (.iconst 1, 1) := by decide +kernel
theorem dX6_fence_44 : decode cX6_fence 44 = .ok (.ireturn, 1) := by decide +kernel
theorem dX6_rain_0 : decode cX6_rain 0 = .ok (.iload_n 1, 1) := by decide +kernel
theorem dX6_rain_1 : decode cX6_rain 1 = .ok (.bipush 60, 2) := by decide +kernel
theorem dX6_rain_3 : decode cX6_rain 3 = .ok (.invokestatic 100, 3) := by decide +kernel
theorem dX6_rain_6 : decode cX6_rain 6 = .ok (.ifCond .eq 20, 3) := by decide +kernel
theorem dX6_rain_9 : decode cX6_rain 9 = .ok (.iload_n 2, 1) := by decide +kernel
theorem dX6_rain_10 : decode cX6_rain 10 = .ok (.bipush 10, 2) := by decide +kernel
theorem dX6_rain_12 : decode cX6_rain 12 = .ok (.invokestatic 100, 3) := by decide +kernel
theorem dX6_rain_15 : decode cX6_rain 15 = .ok (.ifCond .eq 11, 3) := by decide +kernel
theorem dX6_rain_18 : decode cX6_rain 18 = .ok (.iload_n 3, 1) := by decide +kernel
theorem dX6_rain_19 : decode cX6_rain 19 = .ok (.iconst 4, 1) := by decide +kernel
theorem dX6_rain_20 : decode cX6_rain 20 = .ok (.invokestatic 100, 3) := by decide +kernel
theorem dX6_rain_23 : decode cX6_rain 23 = .ok (.ifCond .ne 6, 3) := by decide +kernel
theorem dX6_rain_26 : decode cX6_rain 26 = .ok (.bipush (-2), 2) := by decide +kernel
theorem dX6_rain_28 : decode cX6_rain 28 = .ok (.ireturn, 1) := by decide +kernel
theorem dX6_rain_29 : decode cX6_rain 29 = .ok (.aload_n 0, 1) := by decide +kernel
theorem dX6_rain_30 : decode cX6_rain 30 = .ok (.getfield 21, 3) := by decide +kernel
theorem dX6_rain_33 : decode cX6_rain 33 = .ok (.getfield 71, 3) := by decide +kernel
theorem dX6_rain_36 : decode cX6_rain 36 = .ok (.ifCond .ne 6, 3) := by decide +kernel
theorem dX6_rain_39 : decode cX6_rain 39 = .ok (.bipush (-3), 2) := by decide +kernel
theorem dX6_rain_41 : decode cX6_rain 41 = .ok (.ireturn, 1) := by decide +kernel
theorem dX6_rain_42 : decode cX6_rain 42 = .ok (.bipush 10, 2) := by decide +kernel
theorem dX6_rain_44 : decode cX6_rain 44 = .ok (.aload_n 0, 1) := by decide +kernel
theorem dX6_rain_45 : decode cX6_rain 45 = .ok (.getfield 21, 3) := by decide +kernel
theorem dX6_rain_48 : decode cX6_rain 48 = .ok (.getfield 106, 3) := by decide +kernel
theorem dX6_rain_51 : decode cX6_rain 51 = .ok (.iload_n 1, 1) := by decide +kernel
theorem dX6_rain_52 : decode cX6_rain 52 = .ok (.iaload, 1) := by decide +kernel
theorem dX6_rain_53 : decode cX6_rain 53 = .ok (.imul, 1) := by decide +kernel
theorem dX6_rain_54 : decode cX6_rain 54 = .ok (.aload_n 0, 1) := by decide +kernel
theorem dX6_rain_55 : decode cX6_rain 55 = .ok (.getfield 21, 3) := by decide +kernel
theorem dX6_rain_58 : decode cX6_rain 58 = .ok (.getfield 109, 3) := by decide +kernel
theorem dX6_rain_61 : decode cX6_rain 61 = .ok (.iload_n 1, 1) := by decide +kernel
theorem dX6_rain_62 : decode cX6_rain 62 = .ok (.iaload, 1) := by decide +kernel
theorem dX6_rain_63 : decode cX6_rain 63 = .ok (.iadd, 1) := by decide +kernel
theorem dX6_rain_64 : decode cX6_rain 64 = .ok (.istore 4, 2) := by decide +kernel
theorem dX6_rain_66 : decode cX6_rain 66 = .ok (.aload_n 0, 1) := by decide +kernel
theorem dX6_rain_67 : decode cX6_rain 67 = .ok (.getfield 21, 3) := by decide +kernel
theorem dX6_rain_70 : decode cX6_rain 70 = .ok (.iload_n 1, 1) := by decide +kernel
theorem dX6_rain_71 : decode cX6_rain 71 = .ok (.iload_n 2, 1) := by decide +kernel
theorem dX6_rain_72 : decode cX6_rain 72 = .ok (.invokevirtual 112, 3) := by decide +kernel
theorem dX6_rain_75 : decode cX6_rain 75 = .ok (.aload_n 0, 1) := by decide +kernel
theorem dX6_rain_76 : decode cX6_rain 76 = .ok (.getfield 21, 3) := by decide +kernel
theorem dX6_rain_79 : decode cX6_rain 79 = .ok (.getfield 109, 3) := by decide +kernel
theorem dX6_rain_82 : decode cX6_rain 82 = .ok (.iload_n 1, 1) := by decide +kernel
theorem dX6_rain_83 : decode cX6_rain 83 = .ok (.iload_n 3, 1) := by decide +kernel
theorem dX6_rain_84 : decode cX6_rain 84 = .ok (.iastore, 1) := by decide +kernel
theorem dX6_rain_85 : decode cX6_rain 85 = .ok (.iload 4, 2) := by decide +kernel
theorem dX6_rain_87 : decode cX6_rain 87 = .ok (.ireturn, 1) := by decide +kernel
theorem dX6_deer_0 : decode cX6_deer 0 = .ok (.iload_n 1, 1) := by decide +kernel
theorem dX6_deer_1 : decode cX6_deer 1 = .ok (.bipush 10, 2) := by decide +kernel
theorem dX6_deer_3 : decode cX6_deer 3 = .ok (.invokestatic 100, 3) := by decide +kernel
theorem dX6_deer_6 : decode cX6_deer 6 = .ok (.ifCond .ne 6, 3) := by decide +kernel
theorem dX6_deer_9 : decode cX6_deer 9 = .ok (.bipush (-2), 2) := by decide +kernel
theorem dX6_deer_11 : decode cX6_deer 11 = .ok (.ireturn, 1) := by decide +kernel
theorem dX6_deer_12 : decode cX6_deer 12 = .ok (.aload_n 0, 1) := by decide +kernel
theorem dX6_deer_13 : decode cX6_deer 13 = .ok (.getfield 21, 3) := by decide +kernel
theorem dX6_deer_16 : decode cX6_deer 16 = .ok (.getfield 71, 3) := by decide +kernel
theorem dX6_deer_19 : decode cX6_deer 19 = .ok (.ifCond .ne 6, 3) := by decide +kernel
theorem dX6_deer_22 : decode cX6_deer 22 = .ok (.bipush (-3), 2) := by decide +kernel
theorem dX6_deer_24 : decode cX6_deer 24 = .ok (.ireturn, 1) := by decide +kernel
theorem dX6_deer_25 : decode cX6_deer 25 = .ok (.aload_n 0, 1) := by decide +kernel
theorem dX6_deer_26 : decode cX6_deer 26 = .ok (.getfield 21, 3) := by decide +kernel
theorem dX6_deer_29 : decode cX6_deer 29 = .ok (.getfield 116, 3) := by decide +kernel
theorem dX6_deer_32 : decode cX6_deer 32 = .ok (.istore_n 2, 1) := by decide +kernel
theorem dX6_deer_33 : decode cX6_deer 33 = .ok (.aload_n 0, 1) := by decide +kernel
theorem dX6_deer_34 : decode cX6_deer 34 = .ok (.getfield 21, 3) := by decide +kernel
theorem dX6_deer_37 : decode cX6_deer 37 = .ok (.iload_n 1, 1) := by decide +kernel
theorem dX6_deer_38 : decode cX6_deer 38 = .ok (.putfield 116, 3) := by decide +kernel
theorem dX6_deer_41 : decode cX6_deer 41 = .ok (.aload_n 0, 1) := by decide +kernel
theorem dX6_deer_42 : decode cX6_deer 42 = .ok (.getfield 21, 3) := by decide +kernel
theorem dX6_deer_45 : decode cX6_deer 45 = .ok (.iconst 0, 1) := by decide +kernel
theorem dX6_deer_46 : decode cX6_deer 46 = .ok (.invokevirtual 103, 3) := by decide +kernel
theorem dX6_deer_49 : decode cX6_deer 49 = .ok (.iload_n 2, 1) := by decide +kernel
theorem dX6_deer_50 : decode cX6_deer 50 = .ok (.ireturn, 1) := by decide +kernel
theorem dX6_grains_0 : decode cX6_grains 0 = .ok (.aload_n 0, 1) := by decide +kernel
theorem dX6_grains_1 : decode cX6_grains 1 = .ok (.iload_n 1, 1) := by decide +kernel
theorem dX6_grains_2 : decode cX6_grains 2 = .ok (.invokevirtual 74, 3) := by decide +kernel
theorem dX6_grains_5 : decode cX6_grains 5 = .ok (.ifCond .eq 11, 3) := by decide +kernel
theorem dX6_grains_8 : decode cX6_grains 8 = .ok (.iload_n 2, 1) := by decide +kernel
theorem dX6_grains_9 : decode cX6_grains 9 = .ok (.iconst 3, 1) := by decide +kernel
theorem dX6_grains_10 : decode cX6_grains 10 = .ok (.invokestatic 100, 3) := by decide +kernel
theorem dX6_grains_13 : decode cX6_grains 13 = .ok (.ifCond .ne 5, 3) := by decide +kernel
theorem dX6_grains_16 : decode cX6_grains 16 = .ok (.iconst (-1), 1) := by decide +kernel
theorem dX6_grains_17 : decode cX6_grains 17 = .ok (.ireturn, 1) := by decide +kernel
theorem dX6_grains_18 : decode cX6_grains 18 = .ok (.iload_n 3, 1) := by decide +kernel
theorem dX6_grains_19 : decode cX6_grains 19 = .ok (.invokestatic 119, 3) := by decide +kernel
theorem dX6_grains_22 : decode cX6_grains 22 = .ok (.ifCond .ne 6, 3) := by decide +kernel
theorem dX6_grains_25 : decode cX6_grains 25 = .ok (.bipush (-2), 2) := by decide +kernel
theorem dX6_grains_27 : decode cX6_grains 27 = .ok (.ireturn, 1) := by decide +kernel
theorem dX6_grains_28 : decode cX6_grains 28 = .ok (.aload_n 0, 1) := by decide +kernel
theorem dX6_grains_29 : decode cX6_grains 29 = .ok (.getfield 21, 3) := by decide +kernel
theorem dX6_grains_32 : decode cX6_grains 32 = .ok (.iload_n 1, 1) := by decide +kernel
theorem dX6_grains_33 : decode cX6_grains 33 = .ok (.iload_n 2, 1) := by decide +kernel
theorem dX6_grains_34 : decode cX6_grains 34 = .ok (.iload_n 3, 1) := by decide +kernel
theorem dX6_grains_35 : decode cX6_grains 35 = .ok (.invokevirtual 122, 3) := by decide +kernel
theorem dX6_grains_38 : decode cX6_grains 38 = .ok (.ireturn, 1) := by decide +kernel
theorem dX6_lost_0 : decode cX6_lost 0 = .ok (.aload_n 0, 1) := by decide +kernel
theorem dX6_lost_1 : decode cX6_lost 1 = .ok (.iload_n 1, 1) := by decide +kernel
theorem dX6_lost_2 : decode cX6_lost 2 = .ok (.invokevirtual 74, 3) := by decide +kernel
theorem dX6_lost_5 : decode cX6_lost 5 = .ok (.ifCond .ne 5, 3) := by decide +kernel
theorem dX6_lost_8 : decode cX6_lost 8 = .ok (.iconst (-1), 1) := by decide +kernel
theorem dX6_lost_9 : decode cX6_lost 9 = .ok (.ireturn, 1) := by decide +kernel
theorem dX6_lost_10 : decode cX6_lost 10 = .ok (.iload_n 2, 1) := by decide +kernel
theorem dX6_lost_11 : decode cX6_lost 11 = .ok (.invokestatic 119, 3) := by decide +kernel
theorem dX6_lost_14 : decode cX6_lost 14 = .ok (.ifCond .eq 11, 3) := by decide +kernel
theorem dX6_lost_17 : decode cX6_lost 17 = .ok (.iload_n 3, 1) := by decide +kernel
theorem dX6_lost_18 : decode cX6_lost 18 = .ok (.iconst 2, 1) := by decide +kernel
theorem dX6_lost_19 : decode cX6_lost 19 = .ok (.invokestatic 100, 3) := by decide +kernel
theorem dX6_lost_22 : decode cX6_lost 22 = .ok (.ifCond .ne 6, 3) := by decide +kernel
theorem dX6_lost_25 : decode cX6_lost 25 = .ok (.bipush (-2), 2) := by decide +kernel
theorem dX6_lost_27 : decode cX6_lost 27 = .ok (.ireturn, 1) := by decide +kernel
theorem dX6_lost_28 : decode cX6_lost 28 = .ok (.iload_n 3, 1) := by decide +kernel
theorem dX6_lost_29 : decode cX6_lost 29 = .ok (.ifCond .ne 15, 3) := by decide +kernel
theorem dX6_lost_32 : decode cX6_lost 32 = .ok (.aload_n 0, 1) := by decide +kernel
theorem dX6_lost_33 : decode cX6_lost 33 = .ok (.getfield 21, 3) := by decide +kernel
theorem dX6_lost_36 : decode cX6_lost 36 = .ok (.iload_n 1, 1) := by decide +kernel
theorem dX6_lost_37 : decode cX6_lost 37 = .ok (.iload_n 2, 1) := by decide +kernel
theorem dX6_lost_38 : decode cX6_lost 38 = .ok (.invokevirtual 126, 3) := by decide +kernel
theorem dX6_lost_41 : decode cX6_lost 41 = .ok (.goto 12, 3) := by decide +kernel
theorem dX6_lost_44 : decode cX6_lost 44 = .ok (.aload_n 0, 1) := by decide +kernel
theorem dX6_lost_45 : decode cX6_lost 45 = .ok (.getfield 21, 3) := by decide +kernel
theorem dX6_lost_48 : decode cX6_lost 48 = .ok (.iload_n 1, 1) := by decide +kernel
theorem dX6_lost_49 : decode cX6_lost 49 = .ok (.iload_n 2, 1) := by decide +kernel
theorem dX6_lost_50 : decode cX6_lost 50 = .ok (.invokevirtual 130, 3) := by decide +kernel
theorem dX6_lost_53 : decode cX6_lost 53 = .ok (.ireturn, 1) := by decide +kernel
theorem dX6_gone_0 : decode cX6_gone 0 = .ok (.aload_n 0, 1) := by decide +kernel
theorem dX6_gone_1 : decode cX6_gone 1 = .ok (.iload_n 1, 1) := by decide +kernel
theorem dX6_gone_2 : decode cX6_gone 2 = .ok (.invokevirtual 74, 3) := by decide +kernel
theorem dX6_gone_5 : decode cX6_gone 5 = .ok (.ifCond .eq 11, 3) := by decide +kernel
theorem dX6_gone_8 : decode cX6_gone 8 = .ok (.iload_n 2, 1) := by decide +kernel
theorem dX6_gone_9 : decode cX6_gone 9 = .ok (.iconst 4, 1) := by decide +kernel
theorem dX6_gone_10 : decode cX6_gone 10 = .ok (.invokestatic 100, 3) := by decide +kernel
theorem dX6_gone_13 : decode cX6_gone 13 = .ok (.ifCond .ne 5, 3) := by decide +kernel
theorem dX6_gone_16 : decode cX6_gone 16 = .ok (.iconst (-1), 1) := by decide +kernel
theorem dX6_gone_17 : decode cX6_gone 17 = .ok (.ireturn, 1) := by decide +kernel
theorem dX6_gone_18 : decode cX6_gone 18 = .ok (.iload_n 2, 1) := by decide +kernel
theorem dX6_gone_19 : decode cX6_gone 19 = .ok (.iconst 3, 1) := by decide +kernel
theorem dX6_gone_20 : decode cX6_gone 20 = .ok (.if_icmp .ge 15, 3) := by decide +kernel
theorem dX6_gone_23 : decode cX6_gone 23 = .ok (.aload_n 0, 1) := by decide +kernel
theorem dX6_gone_24 : decode cX6_gone 24 = .ok (.getfield 21, 3) := by decide +kernel
theorem dX6_gone_27 : decode cX6_gone 27 = .ok (.iload_n 1, 1) := by decide +kernel
theorem dX6_gone_28 : decode cX6_gone 28 = .ok (.iload_n 2, 1) := by decide +kernel
theorem dX6_gone_29 : decode cX6_gone 29 = .ok (.invokevirtual 133, 3) := by decide +kernel
theorem dX6_gone_32 : decode cX6_gone 32 = .ok (.goto 11, 3) := by decide +kernel
theorem dX6_gone_35 : decode cX6_gone 35 = .ok (.aload_n 0, 1) := by decide +kernel
theorem dX6_gone_36 : decode cX6_gone 36 = .ok (.getfield 21, 3) := by decide +kernel
theorem dX6_gone_39 : decode cX6_gone 39 = .ok (.iload_n 1, 1) := by decide +kernel
theorem dX6_gone_40 : decode cX6_gone 40 = .ok (.invokevirtual 136, 3) := by decide +kernel
theorem dX6_gone_43 : decode cX6_gone 43 = .ok (.istore_n 3, 1) := by decide +kernel
theorem dX6_gone_44 : decode cX6_gone 44 = .ok (.iload_n 3, 1) := by decide +kernel
theorem dX6_gone_45 : decode cX6_gone 45 = .ok (.bipush 61, 2) := by decide +kernel
theorem dX6_gone_47 : decode cX6_gone 47 = .ok (.if_icmp .ne 8, 3) := by decide +kernel
theorem dX6_gone_50 : decode cX6_gone 50 = .ok (.bipush (-9), 2) := by decide +kernel
theorem dX6_gone_52 : decode cX6_gone 52 = .ok (.goto 4, 3) := by decide +kernel
theorem dX6_gone_55 : decode cX6_gone 55 = .ok (.iload_n 3, 1) := by decide +kernel
theorem dX6_gone_56 : decode cX6_gone 56 = .ok (.ireturn, 1) := by decide +kernel
theorem dX6_liked_0 : decode cX6_liked 0 = .ok (.iload_n 1, 1) := by decide +kernel
theorem dX6_liked_1 : decode cX6_liked 1 = .ok (.bipush 60, 2) := by decide +kernel
theorem dX6_liked_3 : decode cX6_liked 3 = .ok (.invokestatic 100, 3) := by decide +kernel
theorem dX6_liked_6 : decode cX6_liked 6 = .ok (.ifCond .ne 6, 3) := by decide +kernel
theorem dX6_liked_9 : decode cX6_liked 9 = .ok (.bipush (-2), 2) := by decide +kernel
theorem dX6_liked_11 : decode cX6_liked 11 = .ok (.ireturn, 1) := by decide +kernel
theorem dX6_liked_12 : decode cX6_liked 12 = .ok (.aload_n 0, 1) := by decide +kernel
theorem dX6_liked_13 : decode cX6_liked 13 = .ok (.getfield 21, 3) := by decide +kernel
theorem dX6_liked_16 : decode cX6_liked 16 = .ok (.getfield 71, 3) := by decide +kernel
theorem dX6_liked_19 : decode cX6_liked 19 = .ok (.ifCond .ne 6, 3) := by decide +kernel
theorem dX6_liked_22 : decode cX6_liked 22 = .ok (.bipush (-3), 2) := by decide +kernel
theorem dX6_liked_24 : decode cX6_liked 24 = .ok (.ireturn, 1) := by decide +kernel
theorem dX6_liked_25 : decode cX6_liked 25 = .ok (.aload_n 0, 1) := by decide +kernel
theorem dX6_liked_26 : decode cX6_liked 26 = .ok (.getfield 21, 3) := by decide +kernel
theorem dX6_liked_29 : decode cX6_liked 29 = .ok (.iload_n 1, 1) := by decide +kernel
theorem dX6_liked_30 : decode cX6_liked 30 = .ok (.invokevirtual 139, 3) := by decide +kernel
theorem dX6_liked_33 : decode cX6_liked 33 = .ok (.ireturn, 1) := by decide +kernel
theorem dX6_lasts_0 : decode cX6_lasts 0 = .ok (.iload_n 1, 1) := by decide +kernel
theorem dX6_lasts_1 : decode cX6_lasts 1 = .ok (.iconst 3, 1) := by decide +kernel
theorem dX6_lasts_2 : decode cX6_lasts 2 = .ok (.invokestatic 100, 3) := by decide +kernel
theorem dX6_lasts_5 : decode cX6_lasts 5 = .ok (.ifCond .eq 13, 3) := by decide +kernel
theorem dX6_lasts_8 : decode cX6_lasts 8 = .ok (.aload_n 0, 1) := by decide +kernel
theorem dX6_lasts_9 : decode cX6_lasts 9 = .ok (.getfield 21, 3) := by decide +kernel
theorem dX6_lasts_12 : decode cX6_lasts 12 = .ok (.getfield 71, 3) := by decide +kernel
theorem dX6_lasts_15 : decode cX6_lasts 15 = .ok (.ifCond .ne 7, 3) := by decide +kernel
theorem dX6_lasts_18 : decode cX6_lasts 18 = .ok (.ldc2_w 142, 3) := by decide +kernel
theorem dX6_lasts_21 : decode cX6_lasts 21 = .ok (.lreturn, 1) := by decide +kernel
theorem dX6_lasts_22 : decode cX6_lasts 22 = .ok (.iload_n 1, 1) := by decide +kernel
theorem dX6_lasts_23 : decode cX6_lasts 23 = .ok (.ifCond .ne 12, 3) := by decide +kernel
theorem dX6_lasts_26 : decode cX6_lasts 26 = .ok (.aload_n 0, 1) := by decide +kernel
theorem dX6_lasts_27 : decode cX6_lasts 27 = .ok (.getfield 21, 3) := by decide +kernel
theorem dX6_lasts_30 : decode cX6_lasts 30 = .ok (.invokevirtual 144, 3) := by decide +kernel
theorem dX6_lasts_33 : decode cX6_lasts 33 = .ok (.i2l, 1) := by decide +kernel
theorem dX6_lasts_34 : decode cX6_lasts 34 = .ok (.lreturn, 1) := by decide +kernel
theorem dX6_lasts_35 : decode cX6_lasts 35 = .ok (.aload_n 0, 1) := by decide +kernel
theorem dX6_lasts_36 : decode cX6_lasts 36 = .ok (.getfield 21, 3) := by decide +kernel
theorem dX6_lasts_39 : decode cX6_lasts 39 = .ok (.bipush 60, 2) := by decide +kernel
theorem dX6_lasts_41 : decode cX6_lasts 41 = .ok (.invokevirtual 148, 3) := by decide +kernel
theorem dX6_lasts_44 : decode cX6_lasts 44 = .ok (.istore_n 2, 1) := by decide +kernel
theorem dX6_lasts_45 : decode cX6_lasts 45 = .ok (.aload_n 0, 1) := by decide +kernel
theorem dX6_lasts_46 : decode cX6_lasts 46 = .ok (.getfield 21, 3) := by decide +kernel
theorem dX6_lasts_49 : decode cX6_lasts 49 = .ok (.iconst 0, 1) := by decide +kernel
theorem dX6_lasts_50 : decode cX6_lasts 50 = .ok (.invokevirtual 148, 3) := by decide +kernel
theorem dX6_lasts_53 : decode cX6_lasts 53 = .ok (.istore_n 3, 1) := by decide +kernel
theorem dX6_lasts_54 : decode cX6_lasts 54 = .ok (.iload_n 3, 1) := by decide +kernel
theorem dX6_lasts_55 : decode cX6_lasts 55 = .ok (.iload_n 2, 1) := by decide +kernel
theorem dX6_lasts_56 : decode cX6_lasts 56 = .ok (.invokestatic 151, 3) := by decide +kernel
theorem dX6_lasts_59 : decode cX6_lasts 59 = .ok (.istore 4, 2) := by decide +kernel
theorem dX6_lasts_61 : decode cX6_lasts 61 = .ok (.iload 4, 2) := by decide +kernel
theorem dX6_lasts_63 : decode cX6_lasts 63 = .ok (.iconst 1, 1) := by decide +kernel
theorem dX6_lasts_64 : decode cX6_lasts 64 = .ok (.if_icmp .ge 7, 3) := by decide +kernel
theorem dX6_lasts_67 : decode cX6_lasts 67 = .ok (.ldc2_w 142, 3) := by decide +kernel
theorem dX6_lasts_70 : decode cX6_lasts 70 = .ok (.lreturn, 1) := by decide +kernel
theorem dX6_lasts_71 : decode cX6_lasts 71 = .ok (.iload_n 1, 1) := by decide +kernel
theorem dX6_lasts_72 : decode cX6_lasts 72 = .ok (.iconst 1, 1) := by decide +kernel
theorem dX6_lasts_73 : decode cX6_lasts 73 = .ok (.if_icmp .ne 11, 3) := by decide +kernel
theorem dX6_lasts_76 : decode cX6_lasts 76 = .ok (.iload_n 2, 1) := by decide +kernel
theorem dX6_lasts_77 : decode cX6_lasts 77 = .ok (.iload 4, 2) := by decide +kernel
theorem dX6_lasts_79 : decode cX6_lasts 79 = .ok (.idiv, 1) := by decide +kernel
theorem dX6_lasts_80 : decode cX6_lasts 80 = .ok (.i2l, 1) := by decide +kernel
theorem dX6_lasts_81 : decode cX6_lasts 81 = .ok (.goto 8, 3) := by decide +kernel
theorem dX6_lasts_84 : decode cX6_lasts 84 = .ok (.iload_n 3, 1) := by decide +kernel
theorem dX6_lasts_85 : decode cX6_lasts 85 = .ok (.iload 4, 2) := by decide +kernel
theorem dX6_lasts_87 : decode cX6_lasts 87 = .ok (.idiv, 1) := by decide +kernel
theorem dX6_lasts_88 : decode cX6_lasts 88 = .ok (.i2l, 1) := by decide +kernel
theorem dX6_lasts_89 : decode cX6_lasts 89 = .ok (.lreturn, 1) := by decide +kernel
theorem dX6_umbrellas_0 : decode cX6_umbrellas 0 = .ok (.iload_n 1, 1) := by decide +kernel
theorem dX6_umbrellas_1 : decode cX6_umbrellas 1 = .ok (.iconst 4, 1) := by decide +kernel
theorem dX6_umbrellas_2 : decode cX6_umbrellas 2 = .ok (.invokestatic 100, 3) := by decide +kernel
theorem dX6_umbrellas_5 : decode cX6_umbrellas 5 = .ok (.ifCond .eq 11, 3) := by decide +kernel
theorem dX6_umbrellas_8 : decode cX6_umbrellas 8 = .ok (.iload_n 2, 1) := by decide +kernel
theorem dX6_umbrellas_9 : decode cX6_umbrellas 9 = .ok (.iconst 2, 1) := by decide +kernel
theorem dX6_umbrellas_10 : decode cX6_umbrellas 10 = .ok (.invokestatic 100, 3) := by decide +kernel
theorem dX6_umbrellas_13 : decode cX6_umbrellas 13 = .ok (.ifCond .ne 6, 3) := by decide +kernel
theorem dX6_umbrellas_16 : decode cX6_umbrellas 16 = .ok (.bipush (-2), 2) := by decide +kernel
theorem dX6_umbrellas_18 : decode cX6_umbrellas 18 = .ok (.ireturn, 1) := by decide +kernel
theorem dX6_umbrellas_19 : decode cX6_umbrellas 19 = .ok (.aload_n 0, 1) := by decide +kernel
theorem dX6_umbrellas_20 : decode cX6_umbrellas 20 = .ok (.getfield 21, 3) := by decide +kernel
theorem dX6_umbrellas_23 : decode cX6_umbrellas 23 = .ok (.getfield 71, 3) := by decide +kernel
theorem dX6_umbrellas_26 : decode cX6_umbrellas 26 = .ok (.ifCond .ne 6, 3) := by decide +kernel
theorem dX6_umbrellas_29 : decode cX6_umbrellas 29 = .ok (.bipush (-3), 2) := by decide +kernel
theorem dX6_umbrellas_31 : decode cX6_umbrellas 31 = .ok (.ireturn, 1) := by decide +kernel
theorem dX6_umbrellas_32 : decode cX6_umbrellas 32 = .ok (.aload_n 0, 1) := by decide +kernel
theorem dX6_umbrellas_33 : decode cX6_umbrellas 33 = .ok (.getfield 21, 3) := by decide +kernel
theorem dX6_umbrellas_36 : decode cX6_umbrellas 36 = .ok (.iload_n 1, 1) := by decide +kernel
theorem dX6_umbrellas_37 : decode cX6_umbrellas 37 = .ok (.iload_n 2, 1) := by decide +kernel
theorem dX6_umbrellas_38 : decode cX6_umbrellas 38 = .ok (.invokestatic 154, 3) := by decide +kernel
theorem dX6_umbrellas_41 : decode cX6_umbrellas 41 = .ok (.ireturn, 1) := by decide +kernel
theorem dX6_turn_0 : decode cX6_turn 0 = .ok (.iload_n 1, 1) := by decide +kernel
theorem dX6_turn_1 : decode cX6_turn 1 = .ok (.iconst 2, 1) := by decide +kernel
theorem dX6_turn_2 : decode cX6_turn 2 = .ok (.invokestatic 100, 3) := by decide +kernel
theorem dX6_turn_5 : decode cX6_turn 5 = .ok (.ifCond .ne 6, 3) := by decide +kernel
theorem dX6_turn_8 : decode cX6_turn 8 = .ok (.bipush (-2), 2) := by decide +kernel
theorem dX6_turn_10 : decode cX6_turn 10 = .ok (.ireturn, 1) := by decide +kernel
theorem dX6_turn_11 : decode cX6_turn 11 = .ok (.aload_n 0, 1) := by decide +kernel
theorem dX6_turn_12 : decode cX6_turn 12 = .ok (.getfield 21, 3) := by decide +kernel
theorem dX6_turn_15 : decode cX6_turn 15 = .ok (.getfield 71, 3) := by decide +kernel
theorem dX6_turn_18 : decode cX6_turn 18 = .ok (.ifCond .ne 6, 3) := by decide +kernel
theorem dX6_turn_21 : decode cX6_turn 21 = .ok (.bipush (-3), 2) := by decide +kernel
theorem dX6_turn_23 : decode cX6_turn 23 = .ok (.ireturn, 1) := by decide +kernel
theorem dX6_turn_24 : decode cX6_turn 24 = .ok (.aload_n 0, 1) := by decide +kernel
theorem dX6_turn_25 : decode cX6_turn 25 = .ok (.getfield 21, 3) := by decide +kernel
theorem dX6_turn_28 : decode cX6_turn 28 = .ok (.iload_n 1, 1) := by decide +kernel
theorem dX6_turn_29 : decode cX6_turn 29 = .ok (.invokestatic 160, 3) := by decide +kernel
theorem dX6_turn_32 : decode cX6_turn 32 = .ok (.ireturn, 1) := by decide +kernel
theorem dX6_roofs_0 : decode cX6_roofs 0 = .ok (.iload_n 1, 1) := by decide +kernel
theorem dX6_roofs_1 : decode cX6_roofs 1 = .ok (.invokestatic 119, 3) := by decide +kernel
theorem dX6_roofs_4 : decode cX6_roofs 4 = .ok (.ifCond .eq 11, 3) := by decide +kernel
theorem dX6_roofs_7 : decode cX6_roofs 7 = .ok (.iload_n 2, 1) := by decide +kernel
theorem dX6_roofs_8 : decode cX6_roofs 8 = .ok (.iconst 2, 1) := by decide +kernel
theorem dX6_roofs_9 : decode cX6_roofs 9 = .ok (.invokestatic 100, 3) := by decide +kernel
theorem dX6_roofs_12 : decode cX6_roofs 12 = .ok (.ifCond .ne 6, 3) := by decide +kernel
theorem dX6_roofs_15 : decode cX6_roofs 15 = .ok (.bipush (-2), 2) := by decide +kernel
theorem dX6_roofs_17 : decode cX6_roofs 17 = .ok (.ireturn, 1) := by decide +kernel
theorem dX6_roofs_18 : decode cX6_roofs 18 = .ok (.aload_n 0, 1) := by decide +kernel
theorem dX6_roofs_19 : decode cX6_roofs 19 = .ok (.getfield 21, 3) := by decide +kernel
theorem dX6_roofs_22 : decode cX6_roofs 22 = .ok (.getfield 71, 3) := by decide +kernel
theorem dX6_roofs_25 : decode cX6_roofs 25 = .ok (.ifCond .ne 6, 3) := by decide +kernel
theorem dX6_roofs_28 : decode cX6_roofs 28 = .ok (.bipush (-3), 2) := by decide +kernel
theorem dX6_roofs_30 : decode cX6_roofs 30 = .ok (.ireturn, 1) := by decide +kernel
theorem dX6_roofs_31 : decode cX6_roofs 31 = .ok (.aload_n 0, 1) := by decide +kernel
theorem dX6_roofs_32 : decode cX6_roofs 32 = .ok (.getfield 21, 3) := by decide +kernel
theorem dX6_roofs_35 : decode cX6_roofs 35 = .ok (.iload_n 1, 1) := by decide +kernel
theorem dX6_roofs_36 : decode cX6_roofs 36 = .ok (.invokestatic 164, 3) := by decide +kernel
theorem dX6_roofs_39 : decode cX6_roofs 39 = .ok (.istore_n 3, 1) := by decide +kernel
theorem dX6_roofs_40 : decode cX6_roofs 40 = .ok (.iload_n 2, 1) := by decide +kernel
theorem dX6_roofs_41 : decode cX6_roofs 41 = .ok (.ifCond .ne 7, 3) := by decide +kernel
theorem dX6_roofs_44 : decode cX6_roofs 44 = .ok (.iload_n 3, 1) := by decide +kernel
theorem dX6_roofs_45 : decode cX6_roofs 45 = .ok (.goto 7, 3) := by decide +kernel
theorem dX6_roofs_48 : decode cX6_roofs 48 = .ok (.iload_n 3, 1) := by decide +kernel
theorem dX6_roofs_49 : decode cX6_roofs 49 = .ok (.invokestatic 167, 3) := by decide +kernel
theorem dX6_roofs_52 : decode cX6_roofs 52 = .ok (.ireturn, 1) := by decide +kernel
theorem dX6_takenFor_0 : decode cX6_takenFor 0 = .ok (.aload_n 0, 1) := by decide +kernel
theorem dX6_takenFor_1 : decode cX6_takenFor 1 = .ok (.iconst 0, 1) := by decide +kernel
theorem dX6_takenFor_2 : decode cX6_takenFor 2 = .ok (.putfield 36, 3) := by decide +kernel
theorem dX6_takenFor_5 : decode cX6_takenFor 5 = .ok (.iload_n 2, 1) := by decide +kernel
theorem dX6_takenFor_6 : decode cX6_takenFor 6 = .ok (.invokestatic 39, 3) := by decide +kernel
theorem dX6_takenFor_9 : decode cX6_takenFor 9 = .ok (.ifCond .ne 5, 3) := by decide +kernel
theorem dX6_takenFor_12 : decode cX6_takenFor 12 = .ok (.iconst (-1), 1) := by decide +kernel
theorem dX6_takenFor_13 : decode cX6_takenFor 13 = .ok (.ireturn, 1) := by decide +kernel
theorem dX6_takenFor_14 : decode cX6_takenFor 14 = .ok (.iload_n 1, 1) := by decide +kernel
theorem dX6_takenFor_15 : decode cX6_takenFor 15 = .ok (.invokestatic 119, 3) := by decide +kernel
theorem dX6_takenFor_18 : decode cX6_takenFor 18 = .ok (.ifCond .eq 19, 3) := by decide +kernel
theorem dX6_takenFor_21 : decode cX6_takenFor 21 = .ok (.iload 5, 2) := by decide +kernel
theorem dX6_takenFor_23 : decode cX6_takenFor 23 = .ok (.iconst 2, 1) := by decide +kernel
theorem dX6_takenFor_24 : decode cX6_takenFor 24 = .ok (.invokestatic 100, 3) := by decide +kernel
theorem dX6_takenFor_27 : decode cX6_takenFor 27 = .ok (.ifCond .eq 10, 3) := by decide +kernel
theorem dX6_takenFor_30 : decode cX6_takenFor 30 = .ok (.iload_n 3, 1) := by decide +kernel
theorem dX6_takenFor_31 : decode cX6_takenFor 31 = .ok (.invokestatic 43, 3) := by decide +kernel
theorem dX6_takenFor_34 : decode cX6_takenFor 34 = .ok (.ifCond .ne 6, 3) := by decide +kernel
theorem dX6_takenFor_37 : decode cX6_takenFor 37 = .ok (.bipush (-2), 2) := by decide +kernel
theorem dX6_takenFor_39 : decode cX6_takenFor 39 = .ok (.ireturn, 1) := by decide +kernel
theorem dX6_takenFor_40 : decode cX6_takenFor 40 = .ok (.aload_n 0, 1) := by decide +kernel
theorem dX6_takenFor_41 : decode cX6_takenFor 41 = .ok (.getfield 13, 3) := by decide +kernel
theorem dX6_takenFor_44 : decode cX6_takenFor 44 = .ok (.iload_n 2, 1) := by decide +kernel
theorem dX6_takenFor_45 : decode cX6_takenFor 45 = .ok (.aaload, 1) := by decide +kernel
theorem dX6_takenFor_46 : decode cX6_takenFor 46 = .ok (.astore 6, 2) := by decide +kernel
theorem dX6_takenFor_48 : decode cX6_takenFor 48 = .ok (.aload 6, 2) := by decide +kernel
theorem dX6_takenFor_50 : decode cX6_takenFor 50 = .ok (.iload_n 3, 1) := by decide +kernel
theorem dX6_takenFor_51 : decode cX6_takenFor 51 = .ok (.invokevirtual 46, 3) := by decide +kernel
theorem dX6_takenFor_54 : decode cX6_takenFor 54 = .ok (.istore 7, 2) := by decide +kernel
theorem dX6_takenFor_56 : decode cX6_takenFor 56 = .ok (.iload 7, 2) := by decide +kernel
theorem dX6_takenFor_58 : decode cX6_takenFor 58 = .ok (.ifCond .ne 17, 3) := by decide +kernel
theorem dX6_takenFor_61 : decode cX6_takenFor 61 = .ok (.aload 6, 2) := by decide +kernel
theorem dX6_takenFor_63 : decode cX6_takenFor 63 = .ok (.iload 4, 2) := by decide +kernel
theorem dX6_takenFor_65 : decode cX6_takenFor 65 = .ok (.iconst 3, 1) := by decide +kernel
theorem dX6_takenFor_66 : decode cX6_takenFor 66 = .ok (.invokevirtual 50, 3) := by decide +kernel
theorem dX6_takenFor_69 : decode cX6_takenFor 69 = .ok (.ifCond .ne 6, 3) := by decide +kernel
theorem dX6_takenFor_72 : decode cX6_takenFor 72 = .ok (.iconst 3, 1) := by decide +kernel
theorem dX6_takenFor_73 : decode cX6_takenFor 73 = .ok (.istore 7, 2) := by decide +kernel
theorem dX6_takenFor_75 : decode cX6_takenFor 75 = .ok (.iload 7, 2) := by decide +kernel
theorem dX6_takenFor_77 : decode cX6_takenFor 77 = .ok (.ifCond .eq 10, 3) := by decide +kernel
theorem dX6_takenFor_80 : decode cX6_takenFor 80 = .ok (.aload_n 0, 1) := by decide +kernel
theorem dX6_takenFor_81 : decode cX6_takenFor 81 = .ok (.iload 7, 2) := by decide +kernel
theorem dX6_takenFor_83 : decode cX6_takenFor 83 = .ok (.invokevirtual 54, 3) := by decide +kernel
theorem dX6_takenFor_86 : decode cX6_takenFor 86 = .ok (.ireturn, 1) := by decide +kernel
theorem dX6_takenFor_87 : decode cX6_takenFor 87 = .ok (.aload_n 0, 1) := by decide +kernel
theorem dX6_takenFor_88 : decode cX6_takenFor 88 = .ok (.getfield 21, 3) := by decide +kernel
theorem dX6_takenFor_91 : decode cX6_takenFor 91 = .ok (.getfield 71, 3) := by decide +kernel
theorem dX6_takenFor_94 : decode cX6_takenFor 94 = .ok (.ifCond .ne 6, 3) := by decide +kernel
theorem dX6_takenFor_97 : decode cX6_takenFor 97 = .ok (.bipush (-3), 2) := by decide +kernel
theorem dX6_takenFor_99 : decode cX6_takenFor 99 = .ok (.ireturn, 1) := by decide +kernel
theorem dX6_takenFor_100 : decode cX6_takenFor 100 = .ok (.iconst 0, 1) := by decide +kernel
theorem dX6_takenFor_101 : decode cX6_takenFor 101 = .ok (.istore 8, 2) := by decide +kernel
theorem dX6_takenFor_103 : decode cX6_takenFor 103 = .ok (.iload 8, 2) := by decide +kernel
theorem dX6_takenFor_105 : decode cX6_takenFor 105 = .ok (.iconst 3, 1) := by decide +kernel
theorem dX6_takenFor_106 : decode cX6_takenFor 106 = .ok (.if_icmp .ge 32, 3) := by decide +kernel
theorem dX6_takenFor_109 : decode cX6_takenFor 109 = .ok (.aload 6, 2) := by decide +kernel
theorem dX6_takenFor_111 : decode cX6_takenFor 111 = .ok (.getfield 172, 3) := by decide +kernel
theorem dX6_takenFor_114 : decode cX6_takenFor 114 = .ok (.iload 4, 2) := by decide +kernel
theorem dX6_takenFor_116 : decode cX6_takenFor 116 = .ok (.iload 8, 2) := by decide +kernel
theorem dX6_takenFor_118 : decode cX6_takenFor 118 = .ok (.iadd, 1) := by decide +kernel
theorem dX6_takenFor_119 : decode cX6_takenFor 119 = .ok (.iaload, 1) := by decide +kernel
theorem dX6_takenFor_120 : decode cX6_takenFor 120 = .ok (.sipush 1000, 3) := by decide +kernel
theorem dX6_takenFor_123 : decode cX6_takenFor 123 = .ok (.invokestatic 100, 3) := by decide +kernel
theorem dX6_takenFor_126 : decode cX6_takenFor 126 = .ok (.ifCond .ne 6, 3) := by decide +kernel
theorem dX6_takenFor_129 : decode cX6_takenFor 129 = .ok (.bipush (-2), 2) := by decide +kernel
theorem dX6_takenFor_131 : decode cX6_takenFor 131 = .ok (.ireturn, 1) := by decide +kernel
theorem dX6_takenFor_132 : decode cX6_takenFor 132 = .ok (.iinc 8 1, 3) := by decide +kernel
theorem dX6_takenFor_135 : decode cX6_takenFor 135 = .ok (.goto (-32), 3) := by decide +kernel
theorem dX6_takenFor_138 : decode cX6_takenFor 138 = .ok (.aload_n 0, 1) := by decide +kernel
theorem dX6_takenFor_139 : decode cX6_takenFor 139 = .ok (.getfield 21, 3) := by decide +kernel
theorem dX6_takenFor_142 : decode cX6_takenFor 142 = .ok (.aload 6, 2) := by decide +kernel
theorem dX6_takenFor_144 : decode cX6_takenFor 144 = .ok (.iload 4, 2) := by decide +kernel
theorem dX6_takenFor_146 : decode cX6_takenFor 146 = .ok (.iload_n 1, 1) := by decide +kernel
theorem dX6_takenFor_147 : decode cX6_takenFor 147 = .ok (.invokevirtual 175, 3) := by decide +kernel
theorem dX6_takenFor_150 : decode cX6_takenFor 150 = .ok (.istore 8, 2) := by decide +kernel
theorem dX6_takenFor_152 : decode cX6_takenFor 152 = .ok (.iload 5, 2) := by decide +kernel
theorem dX6_takenFor_154 : decode cX6_takenFor 154 = .ok (.ifCond .ne 8, 3) := by decide +kernel
theorem dX6_takenFor_157 : decode cX6_takenFor 157 = .ok (.iload 8, 2) := by decide +kernel
theorem dX6_takenFor_159 : decode cX6_takenFor 159 = .ok (.goto 17, 3) := by decide +kernel
theorem dX6_takenFor_162 : decode cX6_takenFor 162 = .ok (.aload_n 0, 1) := by decide +kernel
theorem dX6_takenFor_163 : decode cX6_takenFor 163 = .ok (.getfield 21, 3) := by decide +kernel
theorem dX6_takenFor_166 : decode cX6_takenFor 166 = .ok (.iload 8, 2) := by decide +kernel
theorem dX6_takenFor_168 : decode cX6_takenFor 168 = .ok (.aload 6, 2) := by decide +kernel
theorem dX6_takenFor_170 : decode cX6_takenFor 170 = .ok (.iload 4, 2) := by decide +kernel
theorem dX6_takenFor_172 : decode cX6_takenFor 172 = .ok (.iload_n 1, 1) := by decide +kernel
theorem dX6_takenFor_173 : decode cX6_takenFor 173 = .ok (.invokevirtual 178, 3) := by decide +kernel
theorem dX6_takenFor_176 : decode cX6_takenFor 176 = .ok (.ireturn, 1) := by decide +kernel
theorem dX6_whose_0 : decode cX6_whose 0 = .ok (.iload_n 2, 1) := by decide +kernel
theorem dX6_whose_1 : decode cX6_whose 1 = .ok (.invokestatic 119, 3) := by decide +kernel
theorem dX6_whose_4 : decode cX6_whose 4 = .ok (.ifCond .ne 6, 3) := by decide +kernel
theorem dX6_whose_7 : decode cX6_whose 7 = .ok (.bipush (-2), 2) := by decide +kernel
theorem dX6_whose_9 : decode cX6_whose 9 = .ok (.ireturn, 1) := by decide +kernel
theorem dX6_whose_10 : decode cX6_whose 10 = .ok (.iconst 0, 1) := by decide +kernel
theorem dX6_whose_11 : decode cX6_whose 11 = .ok (.istore_n 3, 1) := by decide +kernel
theorem dX6_whose_12 : decode cX6_whose 12 = .ok (.iconst 0, 1) := by decide +kernel
theorem dX6_whose_13 : decode cX6_whose 13 = .ok (.istore 4, 2) := by decide +kernel
theorem dX6_whose_15 : decode cX6_whose 15 = .ok (.iload 4, 2) := by decide +kernel
theorem dX6_whose_17 : decode cX6_whose 17 = .ok (.aload_n 0, 1) := by decide +kernel
theorem dX6_whose_18 : decode cX6_whose 18 = .ok (.getfield 21, 3) := by decide +kernel
theorem dX6_whose_21 : decode cX6_whose 21 = .ok (.getfield 71, 3) := by decide +kernel
theorem dX6_whose_24 : decode cX6_whose 24 = .ok (.if_icmp .ge 30, 3) := by decide +kernel
theorem dX6_whose_27 : decode cX6_whose 27 = .ok (.aload_n 0, 1) := by decide +kernel
theorem dX6_whose_28 : decode cX6_whose 28 = .ok (.getfield 21, 3) := by decide +kernel
theorem dX6_whose_31 : decode cX6_whose 31 = .ok (.iload 4, 2) := by decide +kernel
theorem dX6_whose_33 : decode cX6_whose 33 = .ok (.iload_n 2, 1) := by decide +kernel
theorem dX6_whose_34 : decode cX6_whose 34 = .ok (.invokevirtual 126, 3) := by decide +kernel
theorem dX6_whose_37 : decode cX6_whose 37 = .ok (.iload_n 1, 1) := by decide +kernel
theorem dX6_whose_38 : decode cX6_whose 38 = .ok (.if_icmp .ne 10, 3) := by decide +kernel
theorem dX6_whose_41 : decode cX6_whose 41 = .ok (.iload_n 3, 1) := by decide +kernel
theorem dX6_whose_42 : decode cX6_whose 42 = .ok (.iconst 1, 1) := by decide +kernel
theorem dX6_whose_43 : decode cX6_whose 43 = .ok (.iload 4, 2) := by decide +kernel
theorem dX6_whose_45 : decode cX6_whose 45 = .ok (.ishl, 1) := by decide +kernel
theorem dX6_whose_46 : decode cX6_whose 46 = .ok (.ior, 1) := by decide +kernel
theorem dX6_whose_47 : decode cX6_whose 47 = .ok (.istore_n 3, 1) := by decide +kernel
theorem dX6_whose_48 : decode cX6_whose 48 = .ok (.iinc 4 1, 3) := by decide +kernel
theorem dX6_whose_51 : decode cX6_whose 51 = .ok (.goto (-36), 3) := by decide +kernel
theorem dX6_whose_54 : decode cX6_whose 54 = .ok (.iload_n 3, 1) := by decide +kernel
theorem dX6_whose_55 : decode cX6_whose 55 = .ok (.ireturn, 1) := by decide +kernel
theorem dX6_reading_0 : decode cX6_reading 0 = .ok (.aload_n 0, 1) := by decide +kernel
theorem dX6_reading_1 : decode cX6_reading 1 = .ok (.iload_n 1, 1) := by decide +kernel
theorem dX6_reading_2 : decode cX6_reading 2 = .ok (.invokevirtual 74, 3) := by decide +kernel
theorem dX6_reading_5 : decode cX6_reading 5 = .ok (.ifCond .eq 11, 3) := by decide +kernel
theorem dX6_reading_8 : decode cX6_reading 8 = .ok (.iload_n 2, 1) := by decide +kernel
theorem dX6_reading_9 : decode cX6_reading 9 = .ok (.iconst 3, 1) := by decide +kernel
theorem dX6_reading_10 : decode cX6_reading 10 = .ok (.invokestatic 100, 3) := by decide +kernel
theorem dX6_reading_13 : decode cX6_reading 13 = .ok (.ifCond .ne 5, 3) := by decide +kernel
theorem dX6_reading_16 : decode cX6_reading 16 = .ok (.iconst (-1), 1) := by decide +kernel
theorem dX6_reading_17 : decode cX6_reading 17 = .ok (.ireturn, 1) := by decide +kernel
theorem dX6_reading_18 : decode cX6_reading 18 = .ok (.iload_n 3, 1) := by decide +kernel
theorem dX6_reading_19 : decode cX6_reading 19 = .ok (.invokestatic 119, 3) := by decide +kernel
theorem dX6_reading_22 : decode cX6_reading 22 = .ok (.ifCond .eq 13, 3) := by decide +kernel
theorem dX6_reading_25 : decode cX6_reading 25 = .ok (.iload 4, 2) := by decide +kernel
theorem dX6_reading_27 : decode cX6_reading 27 = .ok (.bipush 100, 2) := by decide +kernel
theorem dX6_reading_29 : decode cX6_reading 29 = .ok (.invokestatic 100, 3) := by decide +kernel
theorem dX6_reading_32 : decode cX6_reading 32 = .ok (.ifCond .ne 6, 3) := by decide +kernel
theorem dX6_reading_35 : decode cX6_reading 35 = .ok (.bipush (-2), 2) := by decide +kernel
theorem dX6_reading_37 : decode cX6_reading 37 = .ok (.ireturn, 1) := by decide +kernel
theorem dX6_reading_38 : decode cX6_reading 38 = .ok (.aload_n 0, 1) := by decide +kernel
theorem dX6_reading_39 : decode cX6_reading 39 = .ok (.getfield 28, 3) := by decide +kernel
theorem dX6_reading_42 : decode cX6_reading 42 = .ok (.getfield 182, 3) := by decide +kernel
theorem dX6_reading_45 : decode cX6_reading 45 = .ok (.bipush 8, 2) := by decide +kernel
theorem dX6_reading_47 : decode cX6_reading 47 = .ok (.if_icmp .lt 6, 3) := by decide +kernel
theorem dX6_reading_50 : decode cX6_reading 50 = .ok (.bipush (-4), 2) := by decide +kernel
theorem dX6_reading_52 : decode cX6_reading 52 = .ok (.ireturn, 1) := by decide +kernel
theorem dX6_reading_53 : decode cX6_reading 53 = .ok (.aload_n 0, 1) := by decide +kernel
theorem dX6_reading_54 : decode cX6_reading 54 = .ok (.getfield 28, 3) := by decide +kernel
theorem dX6_reading_57 : decode cX6_reading 57 = .ok (.iload_n 1, 1) := by decide +kernel
theorem dX6_reading_58 : decode cX6_reading 58 = .ok (.iload_n 2, 1) := by decide +kernel
theorem dX6_reading_59 : decode cX6_reading 59 = .ok (.iload_n 3, 1) := by decide +kernel
theorem dX6_reading_60 : decode cX6_reading 60 = .ok (.iload 4, 2) := by decide +kernel
theorem dX6_reading_62 : decode cX6_reading 62 = .ok (.invokevirtual 183, 3) := by decide +kernel
theorem dX6_reading_65 : decode cX6_reading 65 = .ok (.ireturn, 1) := by decide +kernel
theorem dX6_back_0 : decode cX6_back 0 = .ok (.iload_n 1, 1) := by decide +kernel
theorem dX6_back_1 : decode cX6_back 1 = .ok (.aload_n 0, 1) := by decide +kernel
theorem dX6_back_2 : decode cX6_back 2 = .ok (.getfield 28, 3) := by decide +kernel
theorem dX6_back_5 : decode cX6_back 5 = .ok (.getfield 182, 3) := by decide +kernel
theorem dX6_back_8 : decode cX6_back 8 = .ok (.iconst 1, 1) := by decide +kernel
theorem dX6_back_9 : decode cX6_back 9 = .ok (.iadd, 1) := by decide +kernel
theorem dX6_back_10 : decode cX6_back 10 = .ok (.invokestatic 100, 3) := by decide +kernel
theorem dX6_back_13 : decode cX6_back 13 = .ok (.ifCond .ne 6, 3) := by decide +kernel
theorem dX6_back_16 : decode cX6_back 16 = .ok (.bipush (-2), 2) := by decide +kernel
theorem dX6_back_18 : decode cX6_back 18 = .ok (.ireturn, 1) := by decide +kernel
theorem dX6_back_19 : decode cX6_back 19 = .ok (.aload_n 0, 1) := by decide +kernel
theorem dX6_back_20 : decode cX6_back 20 = .ok (.getfield 28, 3) := by decide +kernel
theorem dX6_back_23 : decode cX6_back 23 = .ok (.aload_n 0, 1) := by decide +kernel
theorem dX6_back_24 : decode cX6_back 24 = .ok (.getfield 28, 3) := by decide +kernel
theorem dX6_back_27 : decode cX6_back 27 = .ok (.getfield 182, 3) := by decide +kernel
theorem dX6_back_30 : decode cX6_back 30 = .ok (.iload_n 1, 1) := by decide +kernel
theorem dX6_back_31 : decode cX6_back 31 = .ok (.isub, 1) := by decide +kernel
theorem dX6_back_32 : decode cX6_back 32 = .ok (.invokevirtual 67, 3) := by decide +kernel
theorem dX6_back_35 : decode cX6_back 35 = .ok (.aload_n 0, 1) := by decide +kernel
theorem dX6_back_36 : decode cX6_back 36 = .ok (.getfield 28, 3) := by decide +kernel
theorem dX6_back_39 : decode cX6_back 39 = .ok (.getfield 182, 3) := by decide +kernel
theorem dX6_back_42 : decode cX6_back 42 = .ok (.ireturn, 1) := by decide +kernel
theorem dX6_rains_0 : decode cX6_rains 0 = .ok (.iload_n 1, 1) := by decide +kernel
theorem dX6_rains_1 : decode cX6_rains 1 = .ok (.bipush 60, 2) := by decide +kernel
theorem dX6_rains_3 : decode cX6_rains 3 = .ok (.invokestatic 100, 3) := by decide +kernel
theorem dX6_rains_6 : decode cX6_rains 6 = .ok (.ifCond .ne 6, 3) := by decide +kernel
theorem dX6_rains_9 : decode cX6_rains 9 = .ok (.bipush (-2), 2) := by decide +kernel
theorem dX6_rains_11 : decode cX6_rains 11 = .ok (.ireturn, 1) := by decide +kernel
theorem dX6_rains_12 : decode cX6_rains 12 = .ok (.aload_n 0, 1) := by decide +kernel
theorem dX6_rains_13 : decode cX6_rains 13 = .ok (.getfield 21, 3) := by decide +kernel
theorem dX6_rains_16 : decode cX6_rains 16 = .ok (.getfield 71, 3) := by decide +kernel
theorem dX6_rains_19 : decode cX6_rains 19 = .ok (.ifCond .ne 6, 3) := by decide +kernel
theorem dX6_rains_22 : decode cX6_rains 22 = .ok (.bipush (-3), 2) := by decide +kernel
theorem dX6_rains_24 : decode cX6_rains 24 = .ok (.ireturn, 1) := by decide +kernel
theorem dX6_rains_25 : decode cX6_rains 25 = .ok (.aload_n 0, 1) := by decide +kernel
theorem dX6_rains_26 : decode cX6_rains 26 = .ok (.getfield 21, 3) := by decide +kernel
theorem dX6_rains_29 : decode cX6_rains 29 = .ok (.getfield 106, 3) := by decide +kernel
theorem dX6_rains_32 : decode cX6_rains 32 = .ok (.iload_n 1, 1) := by decide +kernel
theorem dX6_rains_33 : decode cX6_rains 33 = .ok (.iaload, 1) := by decide +kernel
theorem dX6_rains_34 : decode cX6_rains 34 = .ok (.istore_n 2, 1) := by decide +kernel
theorem dX6_rains_35 : decode cX6_rains 35 = .ok (.iconst 0, 1) := by decide +kernel
theorem dX6_rains_36 : decode cX6_rains 36 = .ok (.istore_n 3, 1) := by decide +kernel
theorem dX6_rains_37 : decode cX6_rains 37 = .ok (.iconst 0, 1) := by decide +kernel
theorem dX6_rains_38 : decode cX6_rains 38 = .ok (.istore 4, 2) := by decide +kernel
theorem dX6_rains_40 : decode cX6_rains 40 = .ok (.iload 4, 2) := by decide +kernel
theorem dX6_rains_42 : decode cX6_rains 42 = .ok (.bipush 9, 2) := by decide +kernel
theorem dX6_rains_44 : decode cX6_rains 44 = .ok (.if_icmp .gt 40, 3) := by decide +kernel
theorem dX6_rains_47 : decode cX6_rains 47 = .ok (.aload_n 0, 1) := by decide +kernel
theorem dX6_rains_48 : decode cX6_rains 48 = .ok (.getfield 21, 3) := by decide +kernel
theorem dX6_rains_51 : decode cX6_rains 51 = .ok (.iload_n 1, 1) := by decide +kernel
theorem dX6_rains_52 : decode cX6_rains 52 = .ok (.iload 4, 2) := by decide +kernel
theorem dX6_rains_54 : decode cX6_rains 54 = .ok (.invokevirtual 112, 3) := by decide +kernel
theorem dX6_rains_57 : decode cX6_rains 57 = .ok (.aload_n 0, 1) := by decide +kernel
theorem dX6_rains_58 : decode cX6_rains 58 = .ok (.getfield 28, 3) := by decide +kernel
theorem dX6_rains_61 : decode cX6_rains 61 = .ok (.aload_n 0, 1) := by decide +kernel
theorem dX6_rains_62 : decode cX6_rains 62 = .ok (.getfield 21, 3) := by decide +kernel
theorem dX6_rains_65 : decode cX6_rains 65 = .ok (.invokevirtual 187, 3) := by decide +kernel
theorem dX6_rains_68 : decode cX6_rains 68 = .ok (.ifCond .eq 10, 3) := by decide +kernel
theorem dX6_rains_71 : decode cX6_rains 71 = .ok (.iload_n 3, 1) := by decide +kernel
theorem dX6_rains_72 : decode cX6_rains 72 = .ok (.iconst 1, 1) := by decide +kernel
theorem dX6_rains_73 : decode cX6_rains 73 = .ok (.iload 4, 2) := by decide +kernel
theorem dX6_rains_75 : decode cX6_rains 75 = .ok (.ishl, 1) := by decide +kernel
theorem dX6_rains_76 : decode cX6_rains 76 = .ok (.ior, 1) := by decide +kernel
theorem dX6_rains_77 : decode cX6_rains 77 = .ok (.istore_n 3, 1) := by decide +kernel
theorem dX6_rains_78 : decode cX6_rains 78 = .ok (.iinc 4 1, 3) := by decide +kernel
theorem dX6_rains_81 : decode cX6_rains 81 = .ok (.goto (-41), 3) := by decide +kernel
theorem dX6_rains_84 : decode cX6_rains 84 = .ok (.aload_n 0, 1) := by decide +kernel
theorem dX6_rains_85 : decode cX6_rains 85 = .ok (.getfield 21, 3) := by decide +kernel
theorem dX6_rains_88 : decode cX6_rains 88 = .ok (.iload_n 1, 1) := by decide +kernel
theorem dX6_rains_89 : decode cX6_rains 89 = .ok (.iload_n 2, 1) := by decide +kernel
theorem dX6_rains_90 : decode cX6_rains 90 = .ok (.invokevirtual 112, 3) := by decide +kernel
theorem dX6_rains_93 : decode cX6_rains 93 = .ok (.iload_n 3, 1) := by decide +kernel
theorem dX6_rains_94 : decode cX6_rains 94 = .ok (.ireturn, 1) := by decide +kernel
theorem dX6_cast_0 : decode cX6_cast 0 = .ok (.iload_n 1, 1) := by decide +kernel
theorem dX6_cast_1 : decode cX6_cast 1 = .ok (.invokestatic 119, 3) := by decide +kernel
theorem dX6_cast_4 : decode cX6_cast 4 = .ok (.ifCond .eq 15, 3) := by decide +kernel
theorem dX6_cast_7 : decode cX6_cast 7 = .ok (.iload_n 2, 1) := by decide +kernel
theorem dX6_cast_8 : decode cX6_cast 8 = .ok (.iconst 1, 1) := by decide +kernel
theorem dX6_cast_9 : decode cX6_cast 9 = .ok (.if_icmp .lt 10, 3) := by decide +kernel
theorem dX6_cast_12 : decode cX6_cast 12 = .ok (.iload_n 2, 1) := by decide +kernel
theorem dX6_cast_13 : decode cX6_cast 13 = .ok (.sipush 999, 3) := by decide +kernel
theorem dX6_cast_16 : decode cX6_cast 16 = .ok (.if_icmp .le 6, 3) := by decide +kernel
theorem dX6_cast_19 : decode cX6_cast 19 = .ok (.bipush (-2), 2) := by decide +kernel
theorem dX6_cast_21 : decode cX6_cast 21 = .ok (.ireturn, 1) := by decide +kernel
theorem dX6_cast_22 : decode cX6_cast 22 = .ok (.iconst 0, 1) := by decide +kernel
theorem dX6_cast_23 : decode cX6_cast 23 = .ok (.istore_n 3, 1) := by decide +kernel
theorem dX6_cast_24 : decode cX6_cast 24 = .ok (.iconst 0, 1) := by decide +kernel
theorem dX6_cast_25 : decode cX6_cast 25 = .ok (.istore 4, 2) := by decide +kernel
theorem dX6_cast_27 : decode cX6_cast 27 = .ok (.iload 4, 2) := by decide +kernel
theorem dX6_cast_29 : decode cX6_cast 29 = .ok (.aload_n 0, 1) := by decide +kernel
theorem dX6_cast_30 : decode cX6_cast 30 = .ok (.getfield 21, 3) := by decide +kernel
theorem dX6_cast_33 : decode cX6_cast 33 = .ok (.getfield 71, 3) := by decide +kernel
theorem dX6_cast_36 : decode cX6_cast 36 = .ok (.if_icmp .ge 22, 3) := by decide +kernel
theorem dX6_cast_39 : decode cX6_cast 39 = .ok (.iload_n 3, 1) := by decide +kernel
theorem dX6_cast_40 : decode cX6_cast 40 = .ok (.aload_n 0, 1) := by decide +kernel
theorem dX6_cast_41 : decode cX6_cast 41 = .ok (.getfield 21, 3) := by decide +kernel
theorem dX6_cast_44 : decode cX6_cast 44 = .ok (.iload 4, 2) := by decide +kernel
theorem dX6_cast_46 : decode cX6_cast 46 = .ok (.iload_n 1, 1) := by decide +kernel
theorem dX6_cast_47 : decode cX6_cast 47 = .ok (.invokevirtual 126, 3) := by decide +kernel
theorem dX6_cast_50 : decode cX6_cast 50 = .ok (.iadd, 1) := by decide +kernel
theorem dX6_cast_51 : decode cX6_cast 51 = .ok (.istore_n 3, 1) := by decide +kernel
theorem dX6_cast_52 : decode cX6_cast 52 = .ok (.iinc 4 1, 3) := by decide +kernel
theorem dX6_cast_55 : decode cX6_cast 55 = .ok (.goto (-28), 3) := by decide +kernel
theorem dX6_cast_58 : decode cX6_cast 58 = .ok (.iload_n 3, 1) := by decide +kernel
theorem dX6_cast_59 : decode cX6_cast 59 = .ok (.bipush 9, 2) := by decide +kernel
theorem dX6_cast_61 : decode cX6_cast 61 = .ok (.imul, 1) := by decide +kernel
theorem dX6_cast_62 : decode cX6_cast 62 = .ok (.bipush 10, 2) := by decide +kernel
theorem dX6_cast_64 : decode cX6_cast 64 = .ok (.idiv, 1) := by decide +kernel
theorem dX6_cast_65 : decode cX6_cast 65 = .ok (.iload_n 2, 1) := by decide +kernel
theorem dX6_cast_66 : decode cX6_cast 66 = .ok (.idiv, 1) := by decide +kernel
theorem dX6_cast_67 : decode cX6_cast 67 = .ok (.ireturn, 1) := by decide +kernel
theorem dX6_sheet_0 : decode cX6_sheet 0 = .ok (.aload_n 0, 1) := by decide +kernel
theorem dX6_sheet_1 : decode cX6_sheet 1 = .ok (.iconst 0, 1) := by decide +kernel
theorem dX6_sheet_2 : decode cX6_sheet 2 = .ok (.putfield 36, 3) := by decide +kernel
theorem dX6_sheet_5 : decode cX6_sheet 5 = .ok (.iload_n 1, 1) := by decide +kernel
theorem dX6_sheet_6 : decode cX6_sheet 6 = .ok (.invokestatic 39, 3) := by decide +kernel
theorem dX6_sheet_9 : decode cX6_sheet 9 = .ok (.ifCond .ne 5, 3) := by decide +kernel
theorem dX6_sheet_12 : decode cX6_sheet 12 = .ok (.iconst (-1), 1) := by decide +kernel
theorem dX6_sheet_13 : decode cX6_sheet 13 = .ok (.ireturn, 1) := by decide +kernel
theorem dX6_sheet_14 : decode cX6_sheet 14 = .ok (.iload_n 2, 1) := by decide +kernel
theorem dX6_sheet_15 : decode cX6_sheet 15 = .ok (.invokestatic 43, 3) := by decide +kernel
theorem dX6_sheet_18 : decode cX6_sheet 18 = .ok (.ifCond .eq 9, 3) := by decide +kernel
theorem dX6_sheet_21 : decode cX6_sheet 21 = .ok (.iload_n 3, 1) := by decide +kernel
theorem dX6_sheet_22 : decode cX6_sheet 22 = .ok (.bipush 60, 2) := by decide +kernel
theorem dX6_sheet_24 : decode cX6_sheet 24 = .ok (.if_icmp .le 6, 3) := by decide +kernel
theorem dX6_sheet_27 : decode cX6_sheet 27 = .ok (.bipush (-2), 2) := by decide +kernel
theorem dX6_sheet_29 : decode cX6_sheet 29 = .ok (.ireturn, 1) := by decide +kernel
theorem dX6_sheet_30 : decode cX6_sheet 30 = .ok (.iload_n 3, 1) := by decide +kernel
theorem dX6_sheet_31 : decode cX6_sheet 31 = .ok (.ifCond .ge 9, 3) := by decide +kernel
theorem dX6_sheet_34 : decode cX6_sheet 34 = .ok (.aload_n 0, 1) := by decide +kernel
theorem dX6_sheet_35 : decode cX6_sheet 35 = .ok (.iconst 4, 1) := by decide +kernel
theorem dX6_sheet_36 : decode cX6_sheet 36 = .ok (.invokevirtual 54, 3) := by decide +kernel
theorem dX6_sheet_39 : decode cX6_sheet 39 = .ok (.ireturn, 1) := by decide +kernel
theorem dX6_sheet_40 : decode cX6_sheet 40 = .ok (.aload_n 0, 1) := by decide +kernel
theorem dX6_sheet_41 : decode cX6_sheet 41 = .ok (.getfield 13, 3) := by decide +kernel
theorem dX6_sheet_44 : decode cX6_sheet 44 = .ok (.iload_n 1, 1) := by decide +kernel
theorem dX6_sheet_45 : decode cX6_sheet 45 = .ok (.aaload, 1) := by decide +kernel
theorem dX6_sheet_46 : decode cX6_sheet 46 = .ok (.iload_n 2, 1) := by decide +kernel
theorem dX6_sheet_47 : decode cX6_sheet 47 = .ok (.iload_n 3, 1) := by decide +kernel
theorem dX6_sheet_48 : decode cX6_sheet 48 = .ok (.invokevirtual 191, 3) := by decide +kernel
theorem dX6_sheet_51 : decode cX6_sheet 51 = .ok (.iconst 1, 1) := by decide +kernel
theorem dX6_sheet_52 : decode cX6_sheet 52 = .ok (.ireturn, 1) := by decide +kernel
theorem dX6_lose_0 : decode cX6_lose 0 = .ok (.iload_n 1, 1) := by decide +kernel
theorem dX6_lose_1 : decode cX6_lose 1 = .ok (.invokestatic 39, 3) := by decide +kernel
theorem dX6_lose_4 : decode cX6_lose 4 = .ok (.ifCond .ne 5, 3) := by decide +kernel
theorem dX6_lose_7 : decode cX6_lose 7 = .ok (.iconst (-1), 1) := by decide +kernel
theorem dX6_lose_8 : decode cX6_lose 8 = .ok (.ireturn, 1) := by decide +kernel
theorem dX6_lose_9 : decode cX6_lose 9 = .ok (.aload_n 0, 1) := by decide +kernel
theorem dX6_lose_10 : decode cX6_lose 10 = .ok (.getfield 13, 3) := by decide +kernel
theorem dX6_lose_13 : decode cX6_lose 13 = .ok (.iload_n 1, 1) := by decide +kernel
theorem dX6_lose_14 : decode cX6_lose 14 = .ok (.aaload, 1) := by decide +kernel
theorem dX6_lose_15 : decode cX6_lose 15 = .ok (.getfield 194, 3) := by decide +kernel
theorem dX6_lose_18 : decode cX6_lose 18 = .ok (.ifCond .eq 7, 3) := by decide +kernel
theorem dX6_lose_21 : decode cX6_lose 21 = .ok (.iconst 1, 1) := by decide +kernel
theorem dX6_lose_22 : decode cX6_lose 22 = .ok (.goto 4, 3) := by decide +kernel
theorem dX6_lose_25 : decode cX6_lose 25 = .ok (.iconst 0, 1) := by decide +kernel
theorem dX6_lose_26 : decode cX6_lose 26 = .ok (.istore_n 2, 1) := by decide +kernel
theorem dX6_lose_27 : decode cX6_lose 27 = .ok (.aload_n 0, 1) := by decide +kernel
theorem dX6_lose_28 : decode cX6_lose 28 = .ok (.getfield 13, 3) := by decide +kernel
theorem dX6_lose_31 : decode cX6_lose 31 = .ok (.iload_n 1, 1) := by decide +kernel
theorem dX6_lose_32 : decode cX6_lose 32 = .ok (.aaload, 1) := by decide +kernel
theorem dX6_lose_33 : decode cX6_lose 33 = .ok (.iconst 0, 1) := by decide +kernel
theorem dX6_lose_34 : decode cX6_lose 34 = .ok (.putfield 194, 3) := by decide +kernel
theorem dX6_lose_37 : decode cX6_lose 37 = .ok (.iload_n 2, 1) := by decide +kernel
theorem dX6_lose_38 : decode cX6_lose 38 = .ok (.ireturn, 1) := by decide +kernel
theorem dX6_put_0 : decode cX6_put 0 = .ok (.aload_n 0, 1) := by decide +kernel
theorem dX6_put_1 : decode cX6_put 1 = .ok (.iconst 0, 1) := by decide +kernel
theorem dX6_put_2 : decode cX6_put 2 = .ok (.putfield 36, 3) := by decide +kernel
theorem dX6_put_5 : decode cX6_put 5 = .ok (.iload_n 1, 1) := by decide +kernel
theorem dX6_put_6 : decode cX6_put 6 = .ok (.invokestatic 39, 3) := by decide +kernel
theorem dX6_put_9 : decode cX6_put 9 = .ok (.ifCond .ne 5, 3) := by decide +kernel
theorem dX6_put_12 : decode cX6_put 12 = .ok (.iconst (-1), 1) := by decide +kernel
theorem dX6_put_13 : decode cX6_put 13 = .ok (.ireturn, 1) := by decide +kernel
theorem dX6_put_14 : decode cX6_put 14 = .ok (.aload_n 0, 1) := by decide +kernel
theorem dX6_put_15 : decode cX6_put 15 = .ok (.getfield 13, 3) := by decide +kernel
theorem dX6_put_18 : decode cX6_put 18 = .ok (.iload_n 1, 1) := by decide +kernel
theorem dX6_put_19 : decode cX6_put 19 = .ok (.aaload, 1) := by decide +kernel
theorem dX6_put_20 : decode cX6_put 20 = .ok (.astore 4, 2) := by decide +kernel
theorem dX6_put_22 : decode cX6_put 22 = .ok (.aload 4, 2) := by decide +kernel
theorem dX6_put_24 : decode cX6_put 24 = .ok (.getfield 194, 3) := by decide +kernel
theorem dX6_put_27 : decode cX6_put 27 = .ok (.ifCond .ne 9, 3) := by decide +kernel
theorem dX6_put_30 : decode cX6_put 30 = .ok (.aload_n 0, 1) := by decide +kernel
theorem dX6_put_31 : decode cX6_put 31 = .ok (.iconst 1, 1) := by decide +kernel
theorem dX6_put_32 : decode cX6_put 32 = .ok (.invokevirtual 54, 3) := by decide +kernel
theorem dX6_put_35 : decode cX6_put 35 = .ok (.ireturn, 1) := by decide +kernel
theorem dX6_put_36 : decode cX6_put 36 = .ok (.aload 4, 2) := by decide +kernel
theorem dX6_put_38 : decode cX6_put 38 = .ok (.iload_n 2, 1) := by decide +kernel
theorem dX6_put_39 : decode cX6_put 39 = .ok (.iconst 1, 1) := by decide +kernel
theorem dX6_put_40 : decode cX6_put 40 = .ok (.invokevirtual 50, 3) := by decide +kernel
theorem dX6_put_43 : decode cX6_put 43 = .ok (.ifCond .ne 9, 3) := by decide +kernel
theorem dX6_put_46 : decode cX6_put 46 = .ok (.aload_n 0, 1) := by decide +kernel
theorem dX6_put_47 : decode cX6_put 47 = .ok (.iconst 3, 1) := by decide +kernel
theorem dX6_put_48 : decode cX6_put 48 = .ok (.invokevirtual 54, 3) := by decide +kernel
theorem dX6_put_51 : decode cX6_put 51 = .ok (.ireturn, 1) := by decide +kernel
theorem dX6_put_52 : decode cX6_put 52 = .ok (.aload 4, 2) := by decide +kernel
theorem dX6_put_54 : decode cX6_put 54 = .ok (.getfield 172, 3) := by decide +kernel
theorem dX6_put_57 : decode cX6_put 57 = .ok (.iload_n 2, 1) := by decide +kernel
theorem dX6_put_58 : decode cX6_put 58 = .ok (.aload 4, 2) := by decide +kernel
theorem dX6_put_60 : decode cX6_put 60 = .ok (.iload_n 3, 1) := by decide +kernel
theorem dX6_put_61 : decode cX6_put 61 = .ok (.invokevirtual 197, 3) := by decide +kernel
theorem dX6_put_64 : decode cX6_put 64 = .ok (.iastore, 1) := by decide +kernel
theorem dX6_put_65 : decode cX6_put 65 = .ok (.iconst 1, 1) := by decide +kernel
theorem dX6_put_66 : decode cX6_put 66 = .ok (.ireturn, 1) := by decide +kernel
theorem dX6_cell_0 : decode cX6_cell 0 = .ok (.aload_n 0, 1) := by decide +kernel
theorem dX6_cell_1 : decode cX6_cell 1 = .ok (.iconst 0, 1) := by decide +kernel
theorem dX6_cell_2 : decode cX6_cell 2 = .ok (.putfield 36, 3) := by decide +kernel
theorem dX6_cell_5 : decode cX6_cell 5 = .ok (.iload_n 1, 1) := by decide +kernel
theorem dX6_cell_6 : decode cX6_cell 6 = .ok (.invokestatic 39, 3) := by decide +kernel
theorem dX6_cell_9 : decode cX6_cell 9 = .ok (.ifCond .eq 10, 3) := by decide +kernel
theorem dX6_cell_12 : decode cX6_cell 12 = .ok (.iload_n 3, 1) := by decide +kernel
theorem dX6_cell_13 : decode cX6_cell 13 = .ok (.invokestatic 43, 3) := by decide +kernel
theorem dX6_cell_16 : decode cX6_cell 16 = .ok (.ifCond .ne 7, 3) := by decide +kernel
theorem dX6_cell_19 : decode cX6_cell 19 = .ok (.ldc2_w 142, 3) := by decide +kernel
theorem dX6_cell_22 : decode cX6_cell 22 = .ok (.lreturn, 1) := by decide +kernel
theorem dX6_cell_23 : decode cX6_cell 23 = .ok (.aload_n 0, 1) := by decide +kernel
theorem dX6_cell_24 : decode cX6_cell 24 = .ok (.getfield 13, 3) := by decide +kernel
theorem dX6_cell_27 : decode cX6_cell 27 = .ok (.iload_n 1, 1) := by decide +kernel
theorem dX6_cell_28 : decode cX6_cell 28 = .ok (.aaload, 1) := by decide +kernel
theorem dX6_cell_29 : decode cX6_cell 29 = .ok (.astore 4, 2) := by decide +kernel
theorem dX6_cell_31 : decode cX6_cell 31 = .ok (.aload 4, 2) := by decide +kernel
theorem dX6_cell_33 : decode cX6_cell 33 = .ok (.iload_n 3, 1) := by decide +kernel
theorem dX6_cell_34 : decode cX6_cell 34 = .ok (.invokevirtual 46, 3) := by decide +kernel
theorem dX6_cell_37 : decode cX6_cell 37 = .ok (.istore 5, 2) := by decide +kernel
theorem dX6_cell_39 : decode cX6_cell 39 = .ok (.iload 5, 2) := by decide +kernel
theorem dX6_cell_41 : decode cX6_cell 41 = .ok (.ifCond .ne 16, 3) := by decide +kernel
theorem dX6_cell_44 : decode cX6_cell 44 = .ok (.aload 4, 2) := by decide +kernel
theorem dX6_cell_46 : decode cX6_cell 46 = .ok (.iload_n 2, 1) := by decide +kernel
theorem dX6_cell_47 : decode cX6_cell 47 = .ok (.iconst 1, 1) := by decide +kernel
theorem dX6_cell_48 : decode cX6_cell 48 = .ok (.invokevirtual 50, 3) := by decide +kernel
theorem dX6_cell_51 : decode cX6_cell 51 = .ok (.ifCond .ne 6, 3) := by decide +kernel
theorem dX6_cell_54 : decode cX6_cell 54 = .ok (.iconst 3, 1) := by decide +kernel
theorem dX6_cell_55 : decode cX6_cell 55 = .ok (.istore 5, 2) := by decide +kernel
theorem dX6_cell_57 : decode cX6_cell 57 = .ok (.iload 5, 2) := by decide +kernel
theorem dX6_cell_59 : decode cX6_cell 59 = .ok (.ifCond .eq 13, 3) := by decide +kernel
theorem dX6_cell_62 : decode cX6_cell 62 = .ok (.aload_n 0, 1) := by decide +kernel
theorem dX6_cell_63 : decode cX6_cell 63 = .ok (.iload 5, 2) := by decide +kernel
theorem dX6_cell_65 : decode cX6_cell 65 = .ok (.putfield 36, 3) := by decide +kernel
theorem dX6_cell_68 : decode cX6_cell 68 = .ok (.ldc2_w 142, 3) := by decide +kernel
theorem dX6_cell_71 : decode cX6_cell 71 = .ok (.lreturn, 1) := by decide +kernel
theorem dX6_cell_72 : decode cX6_cell 72 = .ok (.aload 4, 2) := by decide +kernel
theorem dX6_cell_74 : decode cX6_cell 74 = .ok (.getfield 172, 3) := by decide +kernel
theorem dX6_cell_77 : decode cX6_cell 77 = .ok (.iload_n 2, 1) := by decide +kernel
theorem dX6_cell_78 : decode cX6_cell 78 = .ok (.iaload, 1) := by decide +kernel
theorem dX6_cell_79 : decode cX6_cell 79 = .ok (.i2l, 1) := by decide +kernel
theorem dX6_cell_80 : decode cX6_cell 80 = .ok (.lreturn, 1) := by decide +kernel
theorem dX6_copy_0 : decode cX6_copy 0 = .ok (.aload_n 0, 1) := by decide +kernel
theorem dX6_copy_1 : decode cX6_copy 1 = .ok (.iconst 0, 1) := by decide +kernel
theorem dX6_copy_2 : decode cX6_copy 2 = .ok (.putfield 36, 3) := by decide +kernel
theorem dX6_copy_5 : decode cX6_copy 5 = .ok (.iload_n 1, 1) := by decide +kernel
theorem dX6_copy_6 : decode cX6_copy 6 = .ok (.invokestatic 39, 3) := by decide +kernel
theorem dX6_copy_9 : decode cX6_copy 9 = .ok (.ifCond .eq 10, 3) := by decide +kernel
theorem dX6_copy_12 : decode cX6_copy 12 = .ok (.iload_n 3, 1) := by decide +kernel
theorem dX6_copy_13 : decode cX6_copy 13 = .ok (.invokestatic 39, 3) := by decide +kernel
theorem dX6_copy_16 : decode cX6_copy 16 = .ok (.ifCond .ne 5, 3) := by decide +kernel
theorem dX6_copy_19 : decode cX6_copy 19 = .ok (.iconst (-1), 1) := by decide +kernel
theorem dX6_copy_20 : decode cX6_copy 20 = .ok (.ireturn, 1) := by decide +kernel
theorem dX6_copy_21 : decode cX6_copy 21 = .ok (.aload_n 0, 1) := by decide +kernel
theorem dX6_copy_22 : decode cX6_copy 22 = .ok (.getfield 13, 3) := by decide +kernel
theorem dX6_copy_25 : decode cX6_copy 25 = .ok (.iload_n 1, 1) := by decide +kernel
theorem dX6_copy_26 : decode cX6_copy 26 = .ok (.aaload, 1) := by decide +kernel
theorem dX6_copy_27 : decode cX6_copy 27 = .ok (.astore 6, 2) := by decide +kernel
theorem dX6_copy_29 : decode cX6_copy 29 = .ok (.aload_n 0, 1) := by decide +kernel
theorem dX6_copy_30 : decode cX6_copy 30 = .ok (.getfield 13, 3) := by decide +kernel
theorem dX6_copy_33 : decode cX6_copy 33 = .ok (.iload_n 3, 1) := by decide +kernel
theorem dX6_copy_34 : decode cX6_copy 34 = .ok (.aaload, 1) := by decide +kernel
theorem dX6_copy_35 : decode cX6_copy 35 = .ok (.astore 7, 2) := by decide +kernel
theorem dX6_copy_37 : decode cX6_copy 37 = .ok (.aload 6, 2) := by decide +kernel
theorem dX6_copy_39 : decode cX6_copy 39 = .ok (.getfield 194, 3) := by decide +kernel
theorem dX6_copy_42 : decode cX6_copy 42 = .ok (.ifCond .eq 11, 3) := by decide +kernel
theorem dX6_copy_45 : decode cX6_copy 45 = .ok (.aload 7, 2) := by decide +kernel
theorem dX6_copy_47 : decode cX6_copy 47 = .ok (.getfield 194, 3) := by decide +kernel
theorem dX6_copy_50 : decode cX6_copy 50 = .ok (.ifCond .ne 9, 3) := by decide +kernel
theorem dX6_copy_53 : decode cX6_copy 53 = .ok (.aload_n 0, 1) := by decide +kernel
theorem dX6_copy_54 : decode cX6_copy 54 = .ok (.iconst 1, 1) := by decide +kernel
theorem dX6_copy_55 : decode cX6_copy 55 = .ok (.invokevirtual 54, 3) := by decide +kernel
theorem dX6_copy_58 : decode cX6_copy 58 = .ok (.ireturn, 1) := by decide +kernel
theorem dX6_copy_59 : decode cX6_copy 59 = .ok (.aload 6, 2) := by decide +kernel
theorem dX6_copy_61 : decode cX6_copy 61 = .ok (.getfield 200, 3) := by decide +kernel
theorem dX6_copy_64 : decode cX6_copy 64 = .ok (.aload 7, 2) := by decide +kernel
theorem dX6_copy_66 : decode cX6_copy 66 = .ok (.getfield 200, 3) := by decide +kernel
theorem dX6_copy_69 : decode cX6_copy 69 = .ok (.if_icmp .eq 9, 3) := by decide +kernel
theorem dX6_copy_72 : decode cX6_copy 72 = .ok (.aload_n 0, 1) := by decide +kernel
theorem dX6_copy_73 : decode cX6_copy 73 = .ok (.iconst 2, 1) := by decide +kernel
theorem dX6_copy_74 : decode cX6_copy 74 = .ok (.invokevirtual 54, 3) := by decide +kernel
theorem dX6_copy_77 : decode cX6_copy 77 = .ok (.ireturn, 1) := by decide +kernel
theorem dX6_copy_78 : decode cX6_copy 78 = .ok (.aload 6, 2) := by decide +kernel
theorem dX6_copy_80 : decode cX6_copy 80 = .ok (.iload_n 2, 1) := by decide +kernel
theorem dX6_copy_81 : decode cX6_copy 81 = .ok (.iload 5, 2) := by decide +kernel
theorem dX6_copy_83 : decode cX6_copy 83 = .ok (.invokevirtual 50, 3) := by decide +kernel
theorem dX6_copy_86 : decode cX6_copy 86 = .ok (.ifCond .eq 15, 3) := by decide +kernel
theorem dX6_copy_89 : decode cX6_copy 89 = .ok (.aload 7, 2) := by decide +kernel
theorem dX6_copy_91 : decode cX6_copy 91 = .ok (.iload 4, 2) := by decide +kernel
theorem dX6_copy_93 : decode cX6_copy 93 = .ok (.iload 5, 2) := by decide +kernel
theorem dX6_copy_95 : decode cX6_copy 95 = .ok (.invokevirtual 50, 3) := by decide +kernel
theorem dX6_copy_98 : decode cX6_copy 98 = .ok (.ifCond .ne 9, 3) := by decide +kernel
theorem dX6_copy_101 : decode cX6_copy 101 = .ok (.aload_n 0, 1) := by decide +kernel
theorem dX6_copy_102 : decode cX6_copy 102 = .ok (.iconst 3, 1) := by decide +kernel
theorem dX6_copy_103 : decode cX6_copy 103 = .ok (.invokevirtual 54, 3) := by decide +kernel
theorem dX6_copy_106 : decode cX6_copy 106 = .ok (.ireturn, 1) := by decide +kernel
theorem dX6_copy_107 : decode cX6_copy 107 = .ok (.aload 6, 2) := by decide +kernel
theorem dX6_copy_109 : decode cX6_copy 109 = .ok (.getfield 172, 3) := by decide +kernel
theorem dX6_copy_112 : decode cX6_copy 112 = .ok (.iload_n 2, 1) := by decide +kernel
theorem dX6_copy_113 : decode cX6_copy 113 = .ok (.aload 7, 2) := by decide +kernel
theorem dX6_copy_115 : decode cX6_copy 115 = .ok (.getfield 172, 3) := by decide +kernel
theorem dX6_copy_118 : decode cX6_copy 118 = .ok (.iload 4, 2) := by decide +kernel
theorem dX6_copy_120 : decode cX6_copy 120 = .ok (.iload 5, 2) := by decide +kernel
theorem dX6_copy_122 : decode cX6_copy 122 = .ok (.invokestatic 203, 3) := by decide +kernel
theorem dX6_copy_125 : decode cX6_copy 125 = .ok (.iload 5, 2) := by decide +kernel
theorem dX6_copy_127 : decode cX6_copy 127 = .ok (.ireturn, 1) := by decide +kernel
theorem dX6_tell_0 : decode cX6_tell 0 = .ok (.aload_n 0, 1) := by decide +kernel
theorem dX6_tell_1 : decode cX6_tell 1 = .ok (.iload_n 1, 1) := by decide +kernel
theorem dX6_tell_2 : decode cX6_tell 2 = .ok (.invokevirtual 74, 3) := by decide +kernel
theorem dX6_tell_5 : decode cX6_tell 5 = .ok (.ifCond .ne 5, 3) := by decide +kernel
theorem dX6_tell_8 : decode cX6_tell 8 = .ok (.iconst (-1), 1) := by decide +kernel
theorem dX6_tell_9 : decode cX6_tell 9 = .ok (.ireturn, 1) := by decide +kernel
theorem dX6_tell_10 : decode cX6_tell 10 = .ok (.aload_n 0, 1) := by decide +kernel
theorem dX6_tell_11 : decode cX6_tell 11 = .ok (.getfield 21, 3) := by decide +kernel
theorem dX6_tell_14 : decode cX6_tell 14 = .ok (.getfield 77, 3) := by decide +kernel
theorem dX6_tell_17 : decode cX6_tell 17 = .ok (.iload_n 1, 1) := by decide +kernel
theorem dX6_tell_18 : decode cX6_tell 18 = .ok (.aaload, 1) := by decide +kernel
theorem dX6_tell_19 : decode cX6_tell 19 = .ok (.astore_n 2, 1) := by decide +kernel
theorem dX6_tell_20 : decode cX6_tell 20 = .ok (.aload_n 2, 1) := by decide +kernel
theorem dX6_tell_21 : decode cX6_tell 21 = .ok (.getfield 87, 3) := by decide +kernel
theorem dX6_tell_24 : decode cX6_tell 24 = .ok (.lookupswitch 40 #[(1, 34), (2, 28)], 28) := by decide +kernel
theorem dX6_tell_52 : decode cX6_tell 52 = .ok (.aload_n 0, 1) := by decide +kernel
theorem dX6_tell_53 : decode cX6_tell 53 = .ok (.aload_n 2, 1) := by decide +kernel
theorem dX6_tell_54 : decode cX6_tell 54 = .ok (.invokevirtual 209, 3) := by decide +kernel
theorem dX6_tell_57 : decode cX6_tell 57 = .ok (.ireturn, 1) := by decide +kernel
theorem dX6_tell_58 : decode cX6_tell 58 = .ok (.aload_n 0, 1) := by decide +kernel
theorem dX6_tell_59 : decode cX6_tell 59 = .ok (.aload_n 2, 1) := by decide +kernel
theorem dX6_tell_60 : decode cX6_tell 60 = .ok (.invokevirtual 213, 3) := by decide +kernel
theorem dX6_tell_63 : decode cX6_tell 63 = .ok (.ireturn, 1) := by decide +kernel
theorem dX6_tell_64 : decode cX6_tell 64 = .ok (.aload_n 0, 1) := by decide +kernel
theorem dX6_tell_65 : decode cX6_tell 65 = .ok (.aload_n 2, 1) := by decide +kernel
theorem dX6_tell_66 : decode cX6_tell 66 = .ok (.invokevirtual 216, 3) := by decide +kernel
theorem dX6_tell_69 : decode cX6_tell 69 = .ok (.ireturn, 1) := by decide +kernel
theorem dX6_bow_0 : decode cX6_bow 0 = .ok (.aload_n 0, 1) := by decide +kernel
theorem dX6_bow_1 : decode cX6_bow 1 = .ok (.iload_n 1, 1) := by decide +kernel
theorem dX6_bow_2 : decode cX6_bow 2 = .ok (.invokevirtual 74, 3) := by decide +kernel
theorem dX6_bow_5 : decode cX6_bow 5 = .ok (.ifCond .ne 5, 3) := by decide +kernel
theorem dX6_bow_8 : decode cX6_bow 8 = .ok (.iconst (-1), 1) := by decide +kernel
theorem dX6_bow_9 : decode cX6_bow 9 = .ok (.ireturn, 1) := by decide +kernel
theorem dX6_bow_10 : decode cX6_bow 10 = .ok (.aload_n 0, 1) := by decide +kernel
theorem dX6_bow_11 : decode cX6_bow 11 = .ok (.getfield 21, 3) := by decide +kernel
theorem dX6_bow_14 : decode cX6_bow 14 = .ok (.getfield 77, 3) := by decide +kernel
theorem dX6_bow_17 : decode cX6_bow 17 = .ok (.iload_n 1, 1) := by decide +kernel
theorem dX6_bow_18 : decode cX6_bow 18 = .ok (.aaload, 1) := by decide +kernel
theorem dX6_bow_19 : decode cX6_bow 19 = .ok (.getfield 87, 3) := by decide +kernel
theorem dX6_bow_22 : decode cX6_bow 22 = .ok (.iconst 2, 1) := by decide +kernel
theorem dX6_bow_23 : decode cX6_bow 23 = .ok (.if_icmp .ne 11, 3) := by decide +kernel
theorem dX6_bow_26 : decode cX6_bow 26 = .ok (.aload_n 0, 1) := by decide +kernel
theorem dX6_bow_27 : decode cX6_bow 27 = .ok (.iconst 5, 1) := by decide +kernel
theorem dX6_bow_28 : decode cX6_bow 28 = .ok (.invokevirtual 219, 3) := by decide +kernel
theorem dX6_bow_31 : decode cX6_bow 31 = .ok (.bipush 70, 2) := by decide +kernel
theorem dX6_bow_33 : decode cX6_bow 33 = .ok (.ireturn, 1) := by decide +kernel
theorem dX6_bow_34 : decode cX6_bow 34 = .ok (.aload_n 0, 1) := by decide +kernel
theorem dX6_bow_35 : decode cX6_bow 35 = .ok (.iconst 4, 1) := by decide +kernel
theorem dX6_bow_36 : decode cX6_bow 36 = .ok (.invokevirtual 219, 3) := by decide +kernel
theorem dX6_bow_39 : decode cX6_bow 39 = .ok (.iload_n 1, 1) := by decide +kernel
theorem dX6_bow_40 : decode cX6_bow 40 = .ok (.ireturn, 1) := by decide +kernel
theorem dX6_as_0 : decode cX6_as 0 = .ok (.aload_n 0, 1) := by decide +kernel
theorem dX6_as_1 : decode cX6_as 1 = .ok (.iconst 0, 1) := by decide +kernel
theorem dX6_as_2 : decode cX6_as 2 = .ok (.putfield 36, 3) := by decide +kernel
theorem dX6_as_5 : decode cX6_as 5 = .ok (.aload_n 0, 1) := by decide +kernel
theorem dX6_as_6 : decode cX6_as 6 = .ok (.iload_n 1, 1) := by decide +kernel
theorem dX6_as_7 : decode cX6_as 7 = .ok (.invokevirtual 74, 3) := by decide +kernel
theorem dX6_as_10 : decode cX6_as 10 = .ok (.ifCond .ne 5, 3) := by decide +kernel
theorem dX6_as_13 : decode cX6_as 13 = .ok (.iconst (-1), 1) := by decide +kernel
theorem dX6_as_14 : decode cX6_as 14 = .ok (.ireturn, 1) := by decide +kernel
theorem dX6_as_15 : decode cX6_as 15 = .ok (.iload_n 2, 1) := by decide +kernel
theorem dX6_as_16 : decode cX6_as 16 = .ok (.iconst 3, 1) := by decide +kernel
theorem dX6_as_17 : decode cX6_as 17 = .ok (.invokestatic 100, 3) := by decide +kernel
theorem dX6_as_20 : decode cX6_as 20 = .ok (.ifCond .ne 6, 3) := by decide +kernel
theorem dX6_as_23 : decode cX6_as 23 = .ok (.bipush (-2), 2) := by decide +kernel
theorem dX6_as_25 : decode cX6_as 25 = .ok (.ireturn, 1) := by decide +kernel
theorem dX6_as_26 : decode cX6_as 26 = .ok (.aload_n 0, 1) := by decide +kernel
theorem dX6_as_27 : decode cX6_as 27 = .ok (.getfield 21, 3) := by decide +kernel
theorem dX6_as_30 : decode cX6_as 30 = .ok (.getfield 77, 3) := by decide +kernel
theorem dX6_as_33 : decode cX6_as 33 = .ok (.iload_n 1, 1) := by decide +kernel
theorem dX6_as_34 : decode cX6_as 34 = .ok (.aaload, 1) := by decide +kernel
theorem dX6_as_35 : decode cX6_as 35 = .ok (.getfield 87, 3) := by decide +kernel
theorem dX6_as_38 : decode cX6_as 38 = .ok (.iload_n 2, 1) := by decide +kernel
theorem dX6_as_39 : decode cX6_as 39 = .ok (.if_icmp .ge 9, 3) := by decide +kernel
theorem dX6_as_42 : decode cX6_as 42 = .ok (.aload_n 0, 1) := by decide +kernel
theorem dX6_as_43 : decode cX6_as 43 = .ok (.iconst 2, 1) := by decide +kernel
theorem dX6_as_44 : decode cX6_as 44 = .ok (.invokevirtual 54, 3) := by decide +kernel
theorem dX6_as_47 : decode cX6_as 47 = .ok (.ireturn, 1) := by decide +kernel
theorem dX6_as_48 : decode cX6_as 48 = .ok (.iconst 1, 1) := by decide +kernel
theorem dX6_as_49 : decode cX6_as 49 = .ok (.ireturn, 1) := by decide +kernel
theorem dX6_trace_0 : decode cX6_trace 0 = .ok (.aload_n 0, 1) := by decide +kernel
theorem dX6_trace_1 : decode cX6_trace 1 = .ok (.getfield 32, 3) := by decide +kernel
theorem dX6_trace_4 : decode cX6_trace 4 = .ok (.ireturn, 1) := by decide +kernel
theorem dX6_fault_0 : decode cX6_fault 0 = .ok (.aload_n 0, 1) := by decide +kernel
theorem dX6_fault_1 : decode cX6_fault 1 = .ok (.getfield 36, 3) := by decide +kernel
theorem dX6_fault_4 : decode cX6_fault 4 = .ok (.ireturn, 1) := by decide +kernel
theorem dX6_many_0 : decode cX6_many 0 = .ok (.iload_n 1, 1) := by decide +kernel
theorem dX6_many_1 : decode cX6_many 1 = .ok (.tableswitch 51 0 2 #[27, 35, 43], 27) := by decide +kernel
theorem dX6_many_28 : decode cX6_many 28 = .ok (.aload_n 0, 1) := by decide +kernel
theorem dX6_many_29 : decode cX6_many 29 = .ok (.getfield 21, 3) := by decide +kernel
theorem dX6_many_32 : decode cX6_many 32 = .ok (.getfield 71, 3) := by decide +kernel
theorem dX6_many_35 : decode cX6_many 35 = .ok (.ireturn, 1) := by decide +kernel
theorem dX6_many_36 : decode cX6_many 36 = .ok (.aload_n 0, 1) := by decide +kernel
theorem dX6_many_37 : decode cX6_many 37 = .ok (.getfield 21, 3) := by decide +kernel
theorem dX6_many_40 : decode cX6_many 40 = .ok (.getfield 116, 3) := by decide +kernel
theorem dX6_many_43 : decode cX6_many 43 = .ok (.ireturn, 1) := by decide +kernel
theorem dX6_many_44 : decode cX6_many 44 = .ok (.aload_n 0, 1) := by decide +kernel
theorem dX6_many_45 : decode cX6_many 45 = .ok (.getfield 28, 3) := by decide +kernel
theorem dX6_many_48 : decode cX6_many 48 = .ok (.getfield 182, 3) := by decide +kernel
theorem dX6_many_51 : decode cX6_many 51 = .ok (.ireturn, 1) := by decide +kernel
theorem dX6_many_52 : decode cX6_many 52 = .ok (.bipush (-2), 2) := by decide +kernel
theorem dX6_many_54 : decode cX6_many 54 = .ok (.ireturn, 1) := by decide +kernel
theorem dX6_isBelow_0 : decode cX6_isBelow 0 = .ok (.iload_n 0, 1) := by decide +kernel
theorem dX6_isBelow_1 : decode cX6_isBelow 1 = .ok (.ifCond .lt 12, 3) := by decide +kernel
theorem dX6_isBelow_4 : decode cX6_isBelow 4 = .ok (.iload_n 0, 1) := by decide +kernel
theorem dX6_isBelow_5 : decode cX6_isBelow 5 = .ok (.iload_n 1, 1) := by decide +kernel
theorem dX6_isBelow_6 : decode cX6_isBelow 6 = .ok (.if_icmp .ge 7, 3) := by decide +kernel
theorem dX6_isBelow_9 : decode cX6_isBelow 9 = .ok (.iconst 1, 1) := by decide +kernel
theorem dX6_isBelow_10 : decode cX6_isBelow 10 = .ok (.goto 4, 3) := by decide +kernel
theorem dX6_isBelow_13 : decode cX6_isBelow 13 = .ok (.iconst 0, 1) := by decide +kernel
theorem dX6_isBelow_14 : decode cX6_isBelow 14 = .ok (.ireturn, 1) := by decide +kernel
theorem dX6_isSheet_0 : decode cX6_isSheet 0 = .ok (.iload_n 0, 1) := by decide +kernel
theorem dX6_isSheet_1 : decode cX6_isSheet 1 = .ok (.iconst 4, 1) := by decide +kernel
theorem dX6_isSheet_2 : decode cX6_isSheet 2 = .ok (.invokestatic 100, 3) := by decide +kernel
theorem dX6_isSheet_5 : decode cX6_isSheet 5 = .ok (.ireturn, 1) := by decide +kernel
theorem dX6_isLane_0 : decode cX6_isLane 0 = .ok (.iload_n 0, 1) := by decide +kernel
theorem dX6_isLane_1 : decode cX6_isLane 1 = .ok (.iconst 3, 1) := by decide +kernel
theorem dX6_isLane_2 : decode cX6_isLane 2 = .ok (.invokestatic 100, 3) := by decide +kernel
theorem dX6_isLane_5 : decode cX6_isLane 5 = .ok (.ireturn, 1) := by decide +kernel
theorem dX6_isDawn_0 : decode cX6_isDawn 0 = .ok (.iload_n 0, 1) := by decide +kernel
theorem dX6_isDawn_1 : decode cX6_isDawn 1 = .ok (.bipush 61, 2) := by decide +kernel
theorem dX6_isDawn_3 : decode cX6_isDawn 3 = .ok (.invokestatic 100, 3) := by decide +kernel
theorem dX6_isDawn_6 : decode cX6_isDawn 6 = .ok (.ireturn, 1) := by decide +kernel
theorem dX6_isStatue_0 : decode cX6_isStatue 0 = .ok (.iload_n 1, 1) := by decide +kernel
theorem dX6_isStatue_1 : decode cX6_isStatue 1 = .ok (.aload_n 0, 1) := by decide +kernel
theorem dX6_isStatue_2 : decode cX6_isStatue 2 = .ok (.getfield 21, 3) := by decide +kernel
theorem dX6_isStatue_5 : decode cX6_isStatue 5 = .ok (.getfield 71, 3) := by decide +kernel
theorem dX6_isStatue_8 : decode cX6_isStatue 8 = .ok (.invokestatic 100, 3) := by decide +kernel
theorem dX6_isStatue_11 : decode cX6_isStatue 11 = .ok (.ireturn, 1) := by decide +kernel
theorem dX6_faulty_0 : decode cX6_faulty 0 = .ok (.aload_n 0, 1) := by decide +kernel
theorem dX6_faulty_1 : decode cX6_faulty 1 = .ok (.iload_n 1, 1) := by decide +kernel
theorem dX6_faulty_2 : decode cX6_faulty 2 = .ok (.putfield 36, 3) := by decide +kernel
theorem dX6_faulty_5 : decode cX6_faulty 5 = .ok (.bipush (-10), 2) := by decide +kernel
theorem dX6_faulty_7 : decode cX6_faulty 7 = .ok (.iload_n 1, 1) := by decide +kernel
theorem dX6_faulty_8 : decode cX6_faulty 8 = .ok (.isub, 1) := by decide +kernel
theorem dX6_faulty_9 : decode cX6_faulty 9 = .ok (.ireturn, 1) := by decide +kernel
theorem dX6_leave_0 : decode cX6_leave 0 = .ok (.aload_n 0, 1) := by decide +kernel
theorem dX6_leave_1 : decode cX6_leave 1 = .ok (.bipush 31, 2) := by decide +kernel
theorem dX6_leave_3 : decode cX6_leave 3 = .ok (.aload_n 0, 1) := by decide +kernel
theorem dX6_leave_4 : decode cX6_leave 4 = .ok (.getfield 32, 3) := by decide +kernel
theorem dX6_leave_7 : decode cX6_leave 7 = .ok (.imul, 1) := by decide +kernel
theorem dX6_leave_8 : decode cX6_leave 8 = .ok (.iload_n 1, 1) := by decide +kernel
theorem dX6_leave_9 : decode cX6_leave 9 = .ok (.iadd, 1) := by decide +kernel
theorem dX6_leave_10 : decode cX6_leave 10 = .ok (.putfield 32, 3) := by decide +kernel
theorem dX6_leave_13 : decode cX6_leave 13 = .ok (.return_, 1) := by decide +kernel
theorem dX6_saintTells_0 : decode cX6_saintTells 0 = .ok (.aload_n 0, 1) := by decide +kernel
theorem dX6_saintTells_1 : decode cX6_saintTells 1 = .ok (.iconst 1, 1) := by decide +kernel
theorem dX6_saintTells_2 : decode cX6_saintTells 2 = .ok (.invokevirtual 219, 3) := by decide +kernel
theorem dX6_saintTells_5 : decode cX6_saintTells 5 = .ok (.aload_n 1, 1) := by decide +kernel
theorem dX6_saintTells_6 : decode cX6_saintTells 6 = .ok (.getfield 81, 3) := by decide +kernel
theorem dX6_saintTells_9 : decode cX6_saintTells 9 = .ok (.iconst 0, 1) := by decide +kernel
theorem dX6_saintTells_10 : decode cX6_saintTells 10 = .ok (.iaload, 1) := by decide +kernel
theorem dX6_saintTells_11 : decode cX6_saintTells 11 = .ok (.ireturn, 1) := by decide +kernel
theorem dX6_bishopTells_0 : decode cX6_bishopTells 0 = .ok (.aload_n 0, 1) := by decide +kernel
theorem dX6_bishopTells_1 : decode cX6_bishopTells 1 = .ok (.iconst 2, 1) := by decide +kernel
theorem dX6_bishopTells_2 : decode cX6_bishopTells 2 = .ok (.invokevirtual 219, 3) := by decide +kernel
theorem dX6_bishopTells_5 : decode cX6_bishopTells 5 = .ok (.aload_n 0, 1) := by decide +kernel
theorem dX6_bishopTells_6 : decode cX6_bishopTells 6 = .ok (.aload_n 1, 1) := by decide +kernel
theorem dX6_bishopTells_7 : decode cX6_bishopTells 7 = .ok (.invokevirtual 216, 3) := by decide +kernel
theorem dX6_bishopTells_10 : decode cX6_bishopTells 10 = .ok (.bipush 100, 2) := by decide +kernel
theorem dX6_bishopTells_12 : decode cX6_bishopTells 12 = .ok (.iadd, 1) := by decide +kernel
theorem dX6_bishopTells_13 : decode cX6_bishopTells 13 = .ok (.ireturn, 1) := by decide +kernel
theorem dX6_martyrTells_0 : decode cX6_martyrTells 0 = .ok (.aload_n 0, 1) := by decide +kernel
theorem dX6_martyrTells_1 : decode cX6_martyrTells 1 = .ok (.iconst 3, 1) := by decide +kernel
theorem dX6_martyrTells_2 : decode cX6_martyrTells 2 = .ok (.invokevirtual 219, 3) := by decide +kernel
theorem dX6_martyrTells_5 : decode cX6_martyrTells 5 = .ok (.aload_n 0, 1) := by decide +kernel
theorem dX6_martyrTells_6 : decode cX6_martyrTells 6 = .ok (.aload_n 1, 1) := by decide +kernel
theorem dX6_martyrTells_7 : decode cX6_martyrTells 7 = .ok (.invokevirtual 213, 3) := by decide +kernel
theorem dX6_martyrTells_10 : decode cX6_martyrTells 10 = .ok (.istore_n 2, 1) := by decide +kernel
theorem dX6_martyrTells_11 : decode cX6_martyrTells 11 = .ok (.iload_n 2, 1) := by decide +kernel
theorem dX6_martyrTells_12 : decode cX6_martyrTells 12 = .ok (.aload_n 0, 1) := by decide +kernel
theorem dX6_martyrTells_13 : decode cX6_martyrTells 13 = .ok (.aload_n 1, 1) := by decide +kernel
theorem dX6_martyrTells_14 : decode cX6_martyrTells 14 = .ok (.invokevirtual 216, 3) := by decide +kernel
theorem dX6_martyrTells_17 : decode cX6_martyrTells 17 = .ok (.iadd, 1) := by decide +kernel
theorem dX6_martyrTells_18 : decode cX6_martyrTells 18 = .ok (.ireturn, 1) := by decide +kernel
theorem dX6_commonDivisor_0 : decode cX6_commonDivisor 0 = .ok (.iload_n 0, 1) := by decide +kernel
theorem dX6_commonDivisor_1 : decode cX6_commonDivisor 1 = .ok (.istore_n 2, 1) := by decide +kernel
theorem dX6_commonDivisor_2 : decode cX6_commonDivisor 2 = .ok (.iload_n 1, 1) := by decide +kernel
theorem dX6_commonDivisor_3 : decode cX6_commonDivisor 3 = .ok (.istore_n 3, 1) := by decide +kernel
theorem dX6_commonDivisor_4 : decode cX6_commonDivisor 4 = .ok (.iconst 0, 1) := by decide +kernel
theorem dX6_commonDivisor_5 : decode cX6_commonDivisor 5 = .ok (.istore 4, 2) := by decide +kernel
theorem dX6_commonDivisor_7 : decode cX6_commonDivisor 7 = .ok (.iload 4, 2) := by decide +kernel
theorem dX6_commonDivisor_9 : decode cX6_commonDivisor 9 = .ok (.bipush 100, 2) := by decide +kernel
theorem dX6_commonDivisor_11 : decode cX6_commonDivisor 11 = .ok (.if_icmp .ge 23, 3) := by decide +kernel
theorem dX6_commonDivisor_14 : decode cX6_commonDivisor 14 = .ok (.iload_n 3, 1) := by decide +kernel
theorem dX6_commonDivisor_15 : decode cX6_commonDivisor 15 = .ok (.ifCond .eq 19, 3) := by decide +kernel
theorem dX6_commonDivisor_18 : decode cX6_commonDivisor 18 = .ok (.iload_n 2, 1) := by decide +kernel
theorem dX6_commonDivisor_19 : decode cX6_commonDivisor 19 = .ok (.iload_n 3, 1) := by decide +kernel
theorem dX6_commonDivisor_20 : decode cX6_commonDivisor 20 = .ok (.irem, 1) := by decide +kernel
theorem dX6_commonDivisor_21 : decode cX6_commonDivisor 21 = .ok (.istore 5, 2) := by decide +kernel
theorem dX6_commonDivisor_23 : decode cX6_commonDivisor 23 = .ok (.iload_n 3, 1) := by decide +kernel
theorem dX6_commonDivisor_24 : decode cX6_commonDivisor 24 = .ok (.istore_n 2, 1) := by decide +kernel
theorem dX6_commonDivisor_25 : decode cX6_commonDivisor 25 = .ok (.iload 5, 2) := by decide +kernel
theorem dX6_commonDivisor_27 : decode cX6_commonDivisor 27 = .ok (.istore_n 3, 1) := by decide +kernel
theorem dX6_commonDivisor_28 : decode cX6_commonDivisor 28 = .ok (.iinc 4 1, 3) := by decide +kernel
theorem dX6_commonDivisor_31 : decode cX6_commonDivisor 31 = .ok (.goto (-24), 3) := by decide +kernel
theorem dX6_commonDivisor_34 : decode cX6_commonDivisor 34 = .ok (.iload_n 2, 1) := by decide +kernel
theorem dX6_commonDivisor_35 : decode cX6_commonDivisor 35 = .ok (.ireturn, 1) := by decide +kernel
