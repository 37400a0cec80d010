theorem dX0_giveUmbrellas_0 : decode cX0_giveUmbrellas 0 = .ok (.aload_n 0, 1) := by decide +kernel
theorem dX0_giveUmbrellas_1 : decode cX0_giveUmbrellas 1 = .ok (.iconst 0, 1) := by decide +kernel
theorem dX0_giveUmbrellas_2 : decode cX0_giveUmbrellas 2 = .ok (.invokestatic 9, 3) := by decide +kernel
theorem dX0_giveUmbrellas_5 : decode cX0_giveUmbrellas 5 = .ok (.istore_n 3, 1) := by decide +kernel
theorem dX0_giveUmbrellas_6 : decode cX0_giveUmbrellas 6 = .ok (.aload_n 0, 1) := by decide +kernel
theorem dX0_giveUmbrellas_7 : decode cX0_giveUmbrellas 7 = .ok (.iconst 1, 1) := by decide +kernel
theorem dX0_giveUmbrellas_8 : decode cX0_giveUmbrellas 8 = .ok (.invokestatic 9, 3) := by decide +kernel
theorem dX0_giveUmbrellas_11 : decode cX0_giveUmbrellas 11 = .ok (.istore 4, 2) := by decide +kernel
theorem dX0_giveUmbrellas_13 : decode cX0_giveUmbrellas 13 = .ok (.iload_n 1, 1) := by decide +kernel
theorem dX0_giveUmbrellas_14 : decode cX0_giveUmbrellas 14 = .ok (.aload_n 0, 1) := by decide +kernel
theorem dX0_giveUmbrellas_15 : decode cX0_giveUmbrellas 15 = .ok (.getfield 15, 3) := by decide +kernel
theorem dX0_giveUmbrellas_18 : decode cX0_giveUmbrellas 18 = .ok (.invokestatic 21, 3) := by decide +kernel
theorem dX0_giveUmbrellas_21 : decode cX0_giveUmbrellas 21 = .ok (.istore 5, 2) := by decide +kernel
theorem dX0_giveUmbrellas_23 : decode cX0_giveUmbrellas 23 = .ok (.iconst 0, 1) := by decide +kernel
theorem dX0_giveUmbrellas_24 : decode cX0_giveUmbrellas 24 = .ok (.istore 6, 2) := by decide +kernel
theorem dX0_giveUmbrellas_26 : decode cX0_giveUmbrellas 26 = .ok (.iconst (-1), 1) := by decide +kernel
theorem dX0_giveUmbrellas_27 : decode cX0_giveUmbrellas 27 = .ok (.istore 7, 2) := by decide +kernel
theorem dX0_giveUmbrellas_29 : decode cX0_giveUmbrellas 29 = .ok (.iconst 0, 1) := by decide +kernel
theorem dX0_giveUmbrellas_30 : decode cX0_giveUmbrellas 30 = .ok (.istore 8, 2) := by decide +kernel
theorem dX0_giveUmbrellas_32 : decode cX0_giveUmbrellas 32 = .ok (.iload 8, 2) := by decide +kernel
theorem dX0_giveUmbrellas_34 : decode cX0_giveUmbrellas 34 = .ok (.iconst 1, 1) := by decide +kernel
theorem dX0_giveUmbrellas_35 : decode cX0_giveUmbrellas 35 = .ok (.aload_n 0, 1) := by decide +kernel
theorem dX0_giveUmbrellas_36 : decode cX0_giveUmbrellas 36 = .ok (.getfield 15, 3) := by decide +kernel
theorem dX0_giveUmbrellas_39 : decode cX0_giveUmbrellas 39 = .ok (.ishl, 1) := by decide +kernel
theorem dX0_giveUmbrellas_40 : decode cX0_giveUmbrellas 40 = .ok (.if_icmp .ge 51, 3) := by decide +kernel
theorem dX0_giveUmbrellas_43 : decode cX0_giveUmbrellas 43 = .ok (.iload 8, 2) := by decide +kernel
theorem dX0_giveUmbrellas_45 : decode cX0_giveUmbrellas 45 = .ok (.iload 4, 2) := by decide +kernel
theorem dX0_giveUmbrellas_47 : decode cX0_giveUmbrellas 47 = .ok (.iand, 1) := by decide +kernel
theorem dX0_giveUmbrellas_48 : decode cX0_giveUmbrellas 48 = .ok (.iload_n 3, 1) := by decide +kernel
theorem dX0_giveUmbrellas_49 : decode cX0_giveUmbrellas 49 = .ok (.iload 8, 2) := by decide +kernel
theorem dX0_giveUmbrellas_51 : decode cX0_giveUmbrellas 51 = .ok (.iconst (-1), 1) := by decide +kernel
theorem dX0_giveUmbrellas_52 : decode cX0_giveUmbrellas 52 = .ok (.ixor, 1) := by decide +kernel
theorem dX0_giveUmbrellas_53 : decode cX0_giveUmbrellas 53 = .ok (.iand, 1) := by decide +kernel
theorem dX0_giveUmbrellas_54 : decode cX0_giveUmbrellas 54 = .ok (.ior, 1) := by decide +kernel
theorem dX0_giveUmbrellas_55 : decode cX0_giveUmbrellas 55 = .ok (.invokestatic 27, 3) := by decide +kernel
theorem dX0_giveUmbrellas_58 : decode cX0_giveUmbrellas 58 = .ok (.istore 9, 2) := by decide +kernel
theorem dX0_giveUmbrellas_60 : decode cX0_giveUmbrellas 60 = .ok (.iload 8, 2) := by decide +kernel
theorem dX0_giveUmbrellas_62 : decode cX0_giveUmbrellas 62 = .ok (.invokestatic 27, 3) := by decide +kernel
theorem dX0_giveUmbrellas_65 : decode cX0_giveUmbrellas 65 = .ok (.iload 5, 2) := by decide +kernel
theorem dX0_giveUmbrellas_67 : decode cX0_giveUmbrellas 67 = .ok (.if_icmp .ne 18, 3) := by decide +kernel
theorem dX0_giveUmbrellas_70 : decode cX0_giveUmbrellas 70 = .ok (.iload 9, 2) := by decide +kernel
theorem dX0_giveUmbrellas_72 : decode cX0_giveUmbrellas 72 = .ok (.iload 7, 2) := by decide +kernel
theorem dX0_giveUmbrellas_74 : decode cX0_giveUmbrellas 74 = .ok (.if_icmp .le 11, 3) := by decide +kernel
theorem dX0_giveUmbrellas_77 : decode cX0_giveUmbrellas 77 = .ok (.iload 8, 2) := by decide +kernel
theorem dX0_giveUmbrellas_79 : decode cX0_giveUmbrellas 79 = .ok (.istore 6, 2) := by decide +kernel
theorem dX0_giveUmbrellas_81 : decode cX0_giveUmbrellas 81 = .ok (.iload 9, 2) := by decide +kernel
theorem dX0_giveUmbrellas_83 : decode cX0_giveUmbrellas 83 = .ok (.istore 7, 2) := by decide +kernel
theorem dX0_giveUmbrellas_85 : decode cX0_giveUmbrellas 85 = .ok (.iinc 8 1, 3) := by decide +kernel
theorem dX0_giveUmbrellas_88 : decode cX0_giveUmbrellas 88 = .ok (.goto (-56), 3) := by decide +kernel
theorem dX0_giveUmbrellas_91 : decode cX0_giveUmbrellas 91 = .ok (.iload_n 2, 1) := by decide +kernel
theorem dX0_giveUmbrellas_92 : decode cX0_giveUmbrellas 92 = .ok (.ifCond .ne 8, 3) := by decide +kernel
theorem dX0_giveUmbrellas_95 : decode cX0_giveUmbrellas 95 = .ok (.iload 6, 2) := by decide +kernel
theorem dX0_giveUmbrellas_97 : decode cX0_giveUmbrellas 97 = .ok (.goto 5, 3) := by decide +kernel
theorem dX0_giveUmbrellas_100 : decode cX0_giveUmbrellas 100 = .ok (.iload 7, 2) := by decide +kernel
theorem dX0_giveUmbrellas_102 : decode cX0_giveUmbrellas 102 = .ok (.ireturn, 1) := by decide +kernel
theorem dX0_lastingUnder_0 : decode cX0_lastingUnder 0 = .ok (.iconst 0, 1) := by decide +kernel
theorem dX0_lastingUnder_1 : decode cX0_lastingUnder 1 = .ok (.istore_n 2, 1) := by decide +kernel
theorem dX0_lastingUnder_2 : decode cX0_lastingUnder 2 = .ok (.iconst 0, 1) := by decide +kernel
theorem dX0_lastingUnder_3 : decode cX0_lastingUnder 3 = .ok (.istore_n 3, 1) := by decide +kernel
theorem dX0_lastingUnder_4 : decode cX0_lastingUnder 4 = .ok (.iload_n 3, 1) := by decide +kernel
theorem dX0_lastingUnder_5 : decode cX0_lastingUnder 5 = .ok (.aload_n 0, 1) := by decide +kernel
theorem dX0_lastingUnder_6 : decode cX0_lastingUnder 6 = .ok (.getfield 15, 3) := by decide +kernel
theorem dX0_lastingUnder_9 : decode cX0_lastingUnder 9 = .ok (.if_icmp .ge 35, 3) := by decide +kernel
theorem dX0_lastingUnder_12 : decode cX0_lastingUnder 12 = .ok (.aload_n 0, 1) := by decide +kernel
theorem dX0_lastingUnder_13 : decode cX0_lastingUnder 13 = .ok (.iload_n 3, 1) := by decide +kernel
theorem dX0_lastingUnder_14 : decode cX0_lastingUnder 14 = .ok (.aload_n 0, 1) := by decide +kernel
theorem dX0_lastingUnder_15 : decode cX0_lastingUnder 15 = .ok (.getfield 33, 3) := by decide +kernel
theorem dX0_lastingUnder_18 : decode cX0_lastingUnder 18 = .ok (.iload_n 3, 1) := by decide +kernel
theorem dX0_lastingUnder_19 : decode cX0_lastingUnder 19 = .ok (.aaload, 1) := by decide +kernel
theorem dX0_lastingUnder_20 : decode cX0_lastingUnder 20 = .ok (.getfield 37, 3) := by decide +kernel
theorem dX0_lastingUnder_23 : decode cX0_lastingUnder 23 = .ok (.iload_n 1, 1) := by decide +kernel
theorem dX0_lastingUnder_24 : decode cX0_lastingUnder 24 = .ok (.invokestatic 42, 3) := by decide +kernel
theorem dX0_lastingUnder_27 : decode cX0_lastingUnder 27 = .ok (.bipush 61, 2) := by decide +kernel
theorem dX0_lastingUnder_29 : decode cX0_lastingUnder 29 = .ok (.if_icmp .ne 9, 3) := by decide +kernel
theorem dX0_lastingUnder_32 : decode cX0_lastingUnder 32 = .ok (.iload_n 2, 1) := by decide +kernel
theorem dX0_lastingUnder_33 : decode cX0_lastingUnder 33 = .ok (.iconst 1, 1) := by decide +kernel
theorem dX0_lastingUnder_34 : decode cX0_lastingUnder 34 = .ok (.iload_n 3, 1) := by decide +kernel
theorem dX0_lastingUnder_35 : decode cX0_lastingUnder 35 = .ok (.ishl, 1) := by decide +kernel
theorem dX0_lastingUnder_36 : decode cX0_lastingUnder 36 = .ok (.ior, 1) := by decide +kernel
theorem dX0_lastingUnder_37 : decode cX0_lastingUnder 37 = .ok (.istore_n 2, 1) := by decide +kernel
theorem dX0_lastingUnder_38 : decode cX0_lastingUnder 38 = .ok (.iinc 3 1, 3) := by decide +kernel
theorem dX0_lastingUnder_41 : decode cX0_lastingUnder 41 = .ok (.goto (-37), 3) := by decide +kernel
theorem dX0_lastingUnder_44 : decode cX0_lastingUnder 44 = .ok (.iload_n 2, 1) := by decide +kernel
theorem dX0_lastingUnder_45 : decode cX0_lastingUnder 45 = .ok (.ireturn, 1) := by decide +kernel
theorem dX0_turnOne_0 : decode cX0_turnOne 0 = .ok (.iconst 0, 1) := by decide +kernel
theorem dX0_turnOne_1 : decode cX0_turnOne 1 = .ok (.istore_n 2, 1) := by decide +kernel
theorem dX0_turnOne_2 : decode cX0_turnOne 2 = .ok (.iconst 0, 1) := by decide +kernel
theorem dX0_turnOne_3 : decode cX0_turnOne 3 = .ok (.istore_n 3, 1) := by decide +kernel
theorem dX0_turnOne_4 : decode cX0_turnOne 4 = .ok (.iconst 0, 1) := by decide +kernel
theorem dX0_turnOne_5 : decode cX0_turnOne 5 = .ok (.istore 4, 2) := by decide +kernel
theorem dX0_turnOne_7 : decode cX0_turnOne 7 = .ok (.iload 4, 2) := by decide +kernel
theorem dX0_turnOne_9 : decode cX0_turnOne 9 = .ok (.aload_n 0, 1) := by decide +kernel
theorem dX0_turnOne_10 : decode cX0_turnOne 10 = .ok (.getfield 15, 3) := by decide +kernel
theorem dX0_turnOne_13 : decode cX0_turnOne 13 = .ok (.if_icmp .ge 75, 3) := by decide +kernel
theorem dX0_turnOne_16 : decode cX0_turnOne 16 = .ok (.aload_n 0, 1) := by decide +kernel
theorem dX0_turnOne_17 : decode cX0_turnOne 17 = .ok (.iload 4, 2) := by decide +kernel
theorem dX0_turnOne_19 : decode cX0_turnOne 19 = .ok (.invokestatic 46, 3) := by decide +kernel
theorem dX0_turnOne_22 : decode cX0_turnOne 22 = .ok (.istore 5, 2) := by decide +kernel
theorem dX0_turnOne_24 : decode cX0_turnOne 24 = .ok (.iconst 0, 1) := by decide +kernel
theorem dX0_turnOne_25 : decode cX0_turnOne 25 = .ok (.istore 6, 2) := by decide +kernel
theorem dX0_turnOne_27 : decode cX0_turnOne 27 = .ok (.iload 6, 2) := by decide +kernel
theorem dX0_turnOne_29 : decode cX0_turnOne 29 = .ok (.iconst 4, 1) := by decide +kernel
theorem dX0_turnOne_30 : decode cX0_turnOne 30 = .ok (.if_icmp .ge 52, 3) := by decide +kernel
theorem dX0_turnOne_33 : decode cX0_turnOne 33 = .ok (.iload 5, 2) := by decide +kernel
theorem dX0_turnOne_35 : decode cX0_turnOne 35 = .ok (.aload_n 0, 1) := by decide +kernel
theorem dX0_turnOne_36 : decode cX0_turnOne 36 = .ok (.iload 4, 2) := by decide +kernel
theorem dX0_turnOne_38 : decode cX0_turnOne 38 = .ok (.iload 6, 2) := by decide +kernel
theorem dX0_turnOne_40 : decode cX0_turnOne 40 = .ok (.aload_n 0, 1) := by decide +kernel
theorem dX0_turnOne_41 : decode cX0_turnOne 41 = .ok (.getfield 33, 3) := by decide +kernel
theorem dX0_turnOne_44 : decode cX0_turnOne 44 = .ok (.iload 4, 2) := by decide +kernel
theorem dX0_turnOne_46 : decode cX0_turnOne 46 = .ok (.aaload, 1) := by decide +kernel
theorem dX0_turnOne_47 : decode cX0_turnOne 47 = .ok (.getfield 49, 3) := by decide +kernel
theorem dX0_turnOne_50 : decode cX0_turnOne 50 = .ok (.invokestatic 42, 3) := by decide +kernel
theorem dX0_turnOne_53 : decode cX0_turnOne 53 = .ok (.invokestatic 21, 3) := by decide +kernel
theorem dX0_turnOne_56 : decode cX0_turnOne 56 = .ok (.istore 7, 2) := by decide +kernel
theorem dX0_turnOne_58 : decode cX0_turnOne 58 = .ok (.iload 7, 2) := by decide +kernel
theorem dX0_turnOne_60 : decode cX0_turnOne 60 = .ok (.iload_n 3, 1) := by decide +kernel
theorem dX0_turnOne_61 : decode cX0_turnOne 61 = .ok (.if_icmp .le 15, 3) := by decide +kernel
theorem dX0_turnOne_64 : decode cX0_turnOne 64 = .ok (.bipush 10, 2) := by decide +kernel
theorem dX0_turnOne_66 : decode cX0_turnOne 66 = .ok (.iload 4, 2) := by decide +kernel
theorem dX0_turnOne_68 : decode cX0_turnOne 68 = .ok (.imul, 1) := by decide +kernel
theorem dX0_turnOne_69 : decode cX0_turnOne 69 = .ok (.iload 6, 2) := by decide +kernel
theorem dX0_turnOne_71 : decode cX0_turnOne 71 = .ok (.iadd, 1) := by decide +kernel
theorem dX0_turnOne_72 : decode cX0_turnOne 72 = .ok (.istore_n 2, 1) := by decide +kernel
theorem dX0_turnOne_73 : decode cX0_turnOne 73 = .ok (.iload 7, 2) := by decide +kernel
theorem dX0_turnOne_75 : decode cX0_turnOne 75 = .ok (.istore_n 3, 1) := by decide +kernel
theorem dX0_turnOne_76 : decode cX0_turnOne 76 = .ok (.iinc 6 1, 3) := by decide +kernel
theorem dX0_turnOne_79 : decode cX0_turnOne 79 = .ok (.goto (-52), 3) := by decide +kernel
theorem dX0_turnOne_82 : decode cX0_turnOne 82 = .ok (.iinc 4 1, 3) := by decide +kernel
theorem dX0_turnOne_85 : decode cX0_turnOne 85 = .ok (.goto (-78), 3) := by decide +kernel
theorem dX0_turnOne_88 : decode cX0_turnOne 88 = .ok (.iload_n 1, 1) := by decide +kernel
theorem dX0_turnOne_89 : decode cX0_turnOne 89 = .ok (.ifCond .ne 7, 3) := by decide +kernel
theorem dX0_turnOne_92 : decode cX0_turnOne 92 = .ok (.iload_n 2, 1) := by decide +kernel
theorem dX0_turnOne_93 : decode cX0_turnOne 93 = .ok (.goto 4, 3) := by decide +kernel
theorem dX0_turnOne_96 : decode cX0_turnOne 96 = .ok (.iload_n 3, 1) := by decide +kernel
theorem dX0_turnOne_97 : decode cX0_turnOne 97 = .ok (.ireturn, 1) := by decide +kernel
theorem dX0_firstDawnOfOthers_0 : decode cX0_firstDawnOfOthers 0 = .ok (.bipush 61, 2) := by decide +kernel
theorem dX0_firstDawnOfOthers_2 : decode cX0_firstDawnOfOthers 2 = .ok (.istore_n 2, 1) := by decide +kernel
theorem dX0_firstDawnOfOthers_3 : decode cX0_firstDawnOfOthers 3 = .ok (.iconst 0, 1) := by decide +kernel
theorem dX0_firstDawnOfOthers_4 : decode cX0_firstDawnOfOthers 4 = .ok (.istore_n 3, 1) := by decide +kernel
theorem dX0_firstDawnOfOthers_5 : decode cX0_firstDawnOfOthers 5 = .ok (.iload_n 3, 1) := by decide +kernel
theorem dX0_firstDawnOfOthers_6 : decode cX0_firstDawnOfOthers 6 = .ok (.aload_n 0, 1) := by decide +kernel
theorem dX0_firstDawnOfOthers_7 : decode cX0_firstDawnOfOthers 7 = .ok (.getfield 15, 3) := by decide +kernel
theorem dX0_firstDawnOfOthers_10 : decode cX0_firstDawnOfOthers 10 = .ok (.if_icmp .ge 42, 3) := by decide +kernel
theorem dX0_firstDawnOfOthers_13 : decode cX0_firstDawnOfOthers 13 = .ok (.iload_n 3, 1) := by decide +kernel
theorem dX0_firstDawnOfOthers_14 : decode cX0_firstDawnOfOthers 14 = .ok (.iload_n 1, 1) := by decide +kernel
theorem dX0_firstDawnOfOthers_15 : decode cX0_firstDawnOfOthers 15 = .ok (.if_icmp .eq 31, 3) := by decide +kernel
theorem dX0_firstDawnOfOthers_18 : decode cX0_firstDawnOfOthers 18 = .ok (.aload_n 0, 1) := by decide +kernel
theorem dX0_firstDawnOfOthers_19 : decode cX0_firstDawnOfOthers 19 = .ok (.getfield 33, 3) := by decide +kernel
theorem dX0_firstDawnOfOthers_22 : decode cX0_firstDawnOfOthers 22 = .ok (.iload_n 3, 1) := by decide +kernel
theorem dX0_firstDawnOfOthers_23 : decode cX0_firstDawnOfOthers 23 = .ok (.aaload, 1) := by decide +kernel
theorem dX0_firstDawnOfOthers_24 : decode cX0_firstDawnOfOthers 24 = .ok (.astore 4, 2) := by decide +kernel
theorem dX0_firstDawnOfOthers_26 : decode cX0_firstDawnOfOthers 26 = .ok (.iload_n 2, 1) := by decide +kernel
theorem dX0_firstDawnOfOthers_27 : decode cX0_firstDawnOfOthers 27 = .ok (.aload_n 0, 1) := by decide +kernel
theorem dX0_firstDawnOfOthers_28 : decode cX0_firstDawnOfOthers 28 = .ok (.iload_n 3, 1) := by decide +kernel
theorem dX0_firstDawnOfOthers_29 : decode cX0_firstDawnOfOthers 29 = .ok (.aload 4, 2) := by decide +kernel
theorem dX0_firstDawnOfOthers_31 : decode cX0_firstDawnOfOthers 31 = .ok (.getfield 37, 3) := by decide +kernel
theorem dX0_firstDawnOfOthers_34 : decode cX0_firstDawnOfOthers 34 = .ok (.aload 4, 2) := by decide +kernel
theorem dX0_firstDawnOfOthers_36 : decode cX0_firstDawnOfOthers 36 = .ok (.getfield 49, 3) := by decide +kernel
theorem dX0_firstDawnOfOthers_39 : decode cX0_firstDawnOfOthers 39 = .ok (.invokestatic 42, 3) := by decide +kernel
theorem dX0_firstDawnOfOthers_42 : decode cX0_firstDawnOfOthers 42 = .ok (.invokestatic 21, 3) := by decide +kernel
theorem dX0_firstDawnOfOthers_45 : decode cX0_firstDawnOfOthers 45 = .ok (.istore_n 2, 1) := by decide +kernel
theorem dX0_firstDawnOfOthers_46 : decode cX0_firstDawnOfOthers 46 = .ok (.iinc 3 1, 3) := by decide +kernel
theorem dX0_firstDawnOfOthers_49 : decode cX0_firstDawnOfOthers 49 = .ok (.goto (-44), 3) := by decide +kernel
theorem dX0_firstDawnOfOthers_52 : decode cX0_firstDawnOfOthers 52 = .ok (.iload_n 2, 1) := by decide +kernel
theorem dX0_firstDawnOfOthers_53 : decode cX0_firstDawnOfOthers 53 = .ok (.ireturn, 1) := by decide +kernel
theorem dX0_dawnWithoutNose_0 : decode cX0_dawnWithoutNose 0 = .ok (.aload_n 0, 1) := by decide +kernel
theorem dX0_dawnWithoutNose_1 : decode cX0_dawnWithoutNose 1 = .ok (.getfield 33, 3) := by decide +kernel
theorem dX0_dawnWithoutNose_4 : decode cX0_dawnWithoutNose 4 = .ok (.iload_n 1, 1) := by decide +kernel
theorem dX0_dawnWithoutNose_5 : decode cX0_dawnWithoutNose 5 = .ok (.aaload, 1) := by decide +kernel
theorem dX0_dawnWithoutNose_6 : decode cX0_dawnWithoutNose 6 = .ok (.astore 4, 2) := by decide +kernel
theorem dX0_dawnWithoutNose_8 : decode cX0_dawnWithoutNose 8 = .ok (.aload 4, 2) := by decide +kernel
theorem dX0_dawnWithoutNose_10 : decode cX0_dawnWithoutNose 10 = .ok (.getfield 52, 3) := by decide +kernel
theorem dX0_dawnWithoutNose_13 : decode cX0_dawnWithoutNose 13 = .ok (.iconst 0, 1) := by decide +kernel
theorem dX0_dawnWithoutNose_14 : decode cX0_dawnWithoutNose 14 = .ok (.iaload, 1) := by decide +kernel
theorem dX0_dawnWithoutNose_15 : decode cX0_dawnWithoutNose 15 = .ok (.istore 5, 2) := by decide +kernel
theorem dX0_dawnWithoutNose_17 : decode cX0_dawnWithoutNose 17 = .ok (.iconst 0, 1) := by decide +kernel
theorem dX0_dawnWithoutNose_18 : decode cX0_dawnWithoutNose 18 = .ok (.istore 6, 2) := by decide +kernel
theorem dX0_dawnWithoutNose_20 : decode cX0_dawnWithoutNose 20 = .ok (.iload 6, 2) := by decide +kernel
theorem dX0_dawnWithoutNose_22 : decode cX0_dawnWithoutNose 22 = .ok (.bipush 60, 2) := by decide +kernel
theorem dX0_dawnWithoutNose_24 : decode cX0_dawnWithoutNose 24 = .ok (.if_icmp .ge 46, 3) := by decide +kernel
theorem dX0_dawnWithoutNose_27 : decode cX0_dawnWithoutNose 27 = .ok (.iload 5, 2) := by decide +kernel
theorem dX0_dawnWithoutNose_29 : decode cX0_dawnWithoutNose 29 = .ok (.aload 4, 2) := by decide +kernel
theorem dX0_dawnWithoutNose_31 : decode cX0_dawnWithoutNose 31 = .ok (.iconst 0, 1) := by decide +kernel
theorem dX0_dawnWithoutNose_32 : decode cX0_dawnWithoutNose 32 = .ok (.aload_n 0, 1) := by decide +kernel
theorem dX0_dawnWithoutNose_33 : decode cX0_dawnWithoutNose 33 = .ok (.getfield 56, 3) := by decide +kernel
theorem dX0_dawnWithoutNose_36 : decode cX0_dawnWithoutNose 36 = .ok (.iload 6, 2) := by decide +kernel
theorem dX0_dawnWithoutNose_38 : decode cX0_dawnWithoutNose 38 = .ok (.iaload, 1) := by decide +kernel
theorem dX0_dawnWithoutNose_39 : decode cX0_dawnWithoutNose 39 = .ok (.aload_n 0, 1) := by decide +kernel
theorem dX0_dawnWithoutNose_40 : decode cX0_dawnWithoutNose 40 = .ok (.getfield 59, 3) := by decide +kernel
theorem dX0_dawnWithoutNose_43 : decode cX0_dawnWithoutNose 43 = .ok (.iload 6, 2) := by decide +kernel
theorem dX0_dawnWithoutNose_45 : decode cX0_dawnWithoutNose 45 = .ok (.iaload, 1) := by decide +kernel
theorem dX0_dawnWithoutNose_46 : decode cX0_dawnWithoutNose 46 = .ok (.iload_n 2, 1) := by decide +kernel
theorem dX0_dawnWithoutNose_47 : decode cX0_dawnWithoutNose 47 = .ok (.iload_n 3, 1) := by decide +kernel
theorem dX0_dawnWithoutNose_48 : decode cX0_dawnWithoutNose 48 = .ok (.invokevirtual 62, 3) := by decide +kernel
theorem dX0_dawnWithoutNose_51 : decode cX0_dawnWithoutNose 51 = .ok (.isub, 1) := by decide +kernel
theorem dX0_dawnWithoutNose_52 : decode cX0_dawnWithoutNose 52 = .ok (.istore 5, 2) := by decide +kernel
theorem dX0_dawnWithoutNose_54 : decode cX0_dawnWithoutNose 54 = .ok (.iload 5, 2) := by decide +kernel
theorem dX0_dawnWithoutNose_56 : decode cX0_dawnWithoutNose 56 = .ok (.ifCond .gt 8, 3) := by decide +kernel
theorem dX0_dawnWithoutNose_59 : decode cX0_dawnWithoutNose 59 = .ok (.iload 6, 2) := by decide +kernel
theorem dX0_dawnWithoutNose_61 : decode cX0_dawnWithoutNose 61 = .ok (.iconst 1, 1) := by decide +kernel
theorem dX0_dawnWithoutNose_62 : decode cX0_dawnWithoutNose 62 = .ok (.iadd, 1) := by decide +kernel
theorem dX0_dawnWithoutNose_63 : decode cX0_dawnWithoutNose 63 = .ok (.ireturn, 1) := by decide +kernel
theorem dX0_dawnWithoutNose_64 : decode cX0_dawnWithoutNose 64 = .ok (.iinc 6 1, 3) := by decide +kernel
theorem dX0_dawnWithoutNose_67 : decode cX0_dawnWithoutNose 67 = .ok (.goto (-47), 3) := by decide +kernel
theorem dX0_dawnWithoutNose_70 : decode cX0_dawnWithoutNose 70 = .ok (.bipush 61, 2) := by decide +kernel
theorem dX0_dawnWithoutNose_72 : decode cX0_dawnWithoutNose 72 = .ok (.ireturn, 1) := by decide +kernel
theorem dX0_nosesGone_0 : decode cX0_nosesGone 0 = .ok (.iconst 0, 1) := by decide +kernel
theorem dX0_nosesGone_1 : decode cX0_nosesGone 1 = .ok (.istore_n 2, 1) := by decide +kernel
theorem dX0_nosesGone_2 : decode cX0_nosesGone 2 = .ok (.iconst 0, 1) := by decide +kernel
theorem dX0_nosesGone_3 : decode cX0_nosesGone 3 = .ok (.istore_n 3, 1) := by decide +kernel
theorem dX0_nosesGone_4 : decode cX0_nosesGone 4 = .ok (.iload_n 3, 1) := by decide +kernel
theorem dX0_nosesGone_5 : decode cX0_nosesGone 5 = .ok (.aload_n 0, 1) := by decide +kernel
theorem dX0_nosesGone_6 : decode cX0_nosesGone 6 = .ok (.getfield 15, 3) := by decide +kernel
theorem dX0_nosesGone_9 : decode cX0_nosesGone 9 = .ok (.if_icmp .ge 25, 3) := by decide +kernel
theorem dX0_nosesGone_12 : decode cX0_nosesGone 12 = .ok (.aload_n 0, 1) := by decide +kernel
theorem dX0_nosesGone_13 : decode cX0_nosesGone 13 = .ok (.iload_n 3, 1) := by decide +kernel
theorem dX0_nosesGone_14 : decode cX0_nosesGone 14 = .ok (.iconst 0, 1) := by decide +kernel
theorem dX0_nosesGone_15 : decode cX0_nosesGone 15 = .ok (.iload_n 1, 1) := by decide +kernel
theorem dX0_nosesGone_16 : decode cX0_nosesGone 16 = .ok (.invokevirtual 66, 3) := by decide +kernel
theorem dX0_nosesGone_19 : decode cX0_nosesGone 19 = .ok (.ifCond .ne 9, 3) := by decide +kernel
theorem dX0_nosesGone_22 : decode cX0_nosesGone 22 = .ok (.iload_n 2, 1) := by decide +kernel
theorem dX0_nosesGone_23 : decode cX0_nosesGone 23 = .ok (.iconst 1, 1) := by decide +kernel
theorem dX0_nosesGone_24 : decode cX0_nosesGone 24 = .ok (.iload_n 3, 1) := by decide +kernel
theorem dX0_nosesGone_25 : decode cX0_nosesGone 25 = .ok (.ishl, 1) := by decide +kernel
theorem dX0_nosesGone_26 : decode cX0_nosesGone 26 = .ok (.ior, 1) := by decide +kernel
theorem dX0_nosesGone_27 : decode cX0_nosesGone 27 = .ok (.istore_n 2, 1) := by decide +kernel
theorem dX0_nosesGone_28 : decode cX0_nosesGone 28 = .ok (.iinc 3 1, 3) := by decide +kernel
theorem dX0_nosesGone_31 : decode cX0_nosesGone 31 = .ok (.goto (-27), 3) := by decide +kernel
theorem dX0_nosesGone_34 : decode cX0_nosesGone 34 = .ok (.iload_n 2, 1) := by decide +kernel
theorem dX0_nosesGone_35 : decode cX0_nosesGone 35 = .ok (.ireturn, 1) := by decide +kernel
theorem dX1_init_0 : decode cX1_init 0 = .ok (.aload_n 0, 1) := by decide +kernel
theorem dX1_init_1 : decode cX1_init 1 = .ok (.invokespecial 3, 3) := by decide +kernel
theorem dX1_init_4 : decode cX1_init 4 = .ok (.aload_n 0, 1) := by decide +kernel
theorem dX1_init_5 : decode cX1_init 5 = .ok (.bipush 8, 2) := by decide +kernel
theorem dX1_init_7 : decode cX1_init 7 = .ok (.newarray .int, 2) := by decide +kernel
theorem dX1_init_9 : decode cX1_init 9 = .ok (.putfield 9, 3) := by decide +kernel
theorem dX1_init_12 : decode cX1_init 12 = .ok (.aload_n 0, 1) := by decide +kernel
theorem dX1_init_13 : decode cX1_init 13 = .ok (.bipush 8, 2) := by decide +kernel
theorem dX1_init_15 : decode cX1_init 15 = .ok (.newarray .int, 2) := by decide +kernel
theorem dX1_init_17 : decode cX1_init 17 = .ok (.putfield 15, 3) := by decide +kernel
theorem dX1_init_20 : decode cX1_init 20 = .ok (.aload_n 0, 1) := by decide +kernel
theorem dX1_init_21 : decode cX1_init 21 = .ok (.bipush 8, 2) := by decide +kernel
theorem dX1_init_23 : decode cX1_init 23 = .ok (.newarray .int, 2) := by decide +kernel
theorem dX1_init_25 : decode cX1_init 25 = .ok (.putfield 18, 3) := by decide +kernel
theorem dX1_init_28 : decode cX1_init 28 = .ok (.aload_n 0, 1) := by decide +kernel
theorem dX1_init_29 : decode cX1_init 29 = .ok (.bipush 8, 2) := by decide +kernel
theorem dX1_init_31 : decode cX1_init 31 = .ok (.newarray .int, 2) := by decide +kernel
theorem dX1_init_33 : decode cX1_init 33 = .ok (.putfield 21, 3) := by decide +kernel
theorem dX1_init_36 : decode cX1_init 36 = .ok (.aload_n 0, 1) := by decide +kernel
theorem dX1_init_37 : decode cX1_init 37 = .ok (.iconst 0, 1) := by decide +kernel
theorem dX1_init_38 : decode cX1_init 38 = .ok (.putfield 24, 3) := by decide +kernel
theorem dX1_init_41 : decode cX1_init 41 = .ok (.return_, 1) := by decide +kernel
theorem dX1_note_0 : decode cX1_note 0 = .ok (.aload_n 0, 1) := by decide +kernel
theorem dX1_note_1 : decode cX1_note 1 = .ok (.getfield 24, 3) := by decide +kernel
theorem dX1_note_4 : decode cX1_note 4 = .ok (.istore 5, 2) := by decide +kernel
theorem dX1_note_6 : decode cX1_note 6 = .ok (.aload_n 0, 1) := by decide +kernel
theorem dX1_note_7 : decode cX1_note 7 = .ok (.getfield 9, 3) := by decide +kernel
theorem dX1_note_10 : decode cX1_note 10 = .ok (.iload 5, 2) := by decide +kernel
theorem dX1_note_12 : decode cX1_note 12 = .ok (.iload_n 1, 1) := by decide +kernel
theorem dX1_note_13 : decode cX1_note 13 = .ok (.iastore, 1) := by decide +kernel
theorem dX1_note_14 : decode cX1_note 14 = .ok (.aload_n 0, 1) := by decide +kernel
theorem dX1_note_15 : decode cX1_note 15 = .ok (.getfield 15, 3) := by decide +kernel
theorem dX1_note_18 : decode cX1_note 18 = .ok (.iload 5, 2) := by decide +kernel
theorem dX1_note_20 : decode cX1_note 20 = .ok (.iload_n 2, 1) := by decide +kernel
theorem dX1_note_21 : decode cX1_note 21 = .ok (.iastore, 1) := by decide +kernel
theorem dX1_note_22 : decode cX1_note 22 = .ok (.aload_n 0, 1) := by decide +kernel
theorem dX1_note_23 : decode cX1_note 23 = .ok (.getfield 18, 3) := by decide +kernel
theorem dX1_note_26 : decode cX1_note 26 = .ok (.iload 5, 2) := by decide +kernel
theorem dX1_note_28 : decode cX1_note 28 = .ok (.iload_n 3, 1) := by decide +kernel
theorem dX1_note_29 : decode cX1_note 29 = .ok (.iastore, 1) := by decide +kernel
theorem dX1_note_30 : decode cX1_note 30 = .ok (.aload_n 0, 1) := by decide +kernel
theorem dX1_note_31 : decode cX1_note 31 = .ok (.getfield 21, 3) := by decide +kernel
theorem dX1_note_34 : decode cX1_note 34 = .ok (.iload 5, 2) := by decide +kernel
theorem dX1_note_36 : decode cX1_note 36 = .ok (.iload 4, 2) := by decide +kernel
theorem dX1_note_38 : decode cX1_note 38 = .ok (.iastore, 1) := by decide +kernel
theorem dX1_note_39 : decode cX1_note 39 = .ok (.aload_n 0, 1) := by decide +kernel
theorem dX1_note_40 : decode cX1_note 40 = .ok (.iload 5, 2) := by decide +kernel
theorem dX1_note_42 : decode cX1_note 42 = .ok (.iconst 1, 1) := by decide +kernel
theorem dX1_note_43 : decode cX1_note 43 = .ok (.iadd, 1) := by decide +kernel
theorem dX1_note_44 : decode cX1_note 44 = .ok (.putfield 24, 3) := by decide +kernel
theorem dX1_note_47 : decode cX1_note 47 = .ok (.iload 5, 2) := by decide +kernel
theorem dX1_note_49 : decode cX1_note 49 = .ok (.ireturn, 1) := by decide +kernel
theorem dX1_keep_0 : decode cX1_keep 0 = .ok (.aload_n 0, 1) := by decide +kernel
theorem dX1_keep_1 : decode cX1_keep 1 = .ok (.iload_n 1, 1) := by decide +kernel
theorem dX1_keep_2 : decode cX1_keep 2 = .ok (.putfield 24, 3) := by decide +kernel
theorem dX1_keep_5 : decode cX1_keep 5 = .ok (.return_, 1) := by decide +kernel
theorem dX1_allHold_0 : decode cX1_allHold 0 = .ok (.iconst 0, 1) := by decide +kernel
theorem dX1_allHold_1 : decode cX1_allHold 1 = .ok (.istore_n 2, 1) := by decide +kernel
theorem dX1_allHold_2 : decode cX1_allHold 2 = .ok (.iload_n 2, 1) := by decide +kernel
theorem dX1_allHold_3 : decode cX1_allHold 3 = .ok (.aload_n 0, 1) := by decide +kernel
theorem dX1_allHold_4 : decode cX1_allHold 4 = .ok (.getfield 24, 3) := by decide +kernel
theorem dX1_allHold_7 : decode cX1_allHold 7 = .ok (.if_icmp .ge 42, 3) := by decide +kernel
theorem dX1_allHold_10 : decode cX1_allHold 10 = .ok (.aload_n 1, 1) := by decide +kernel
theorem dX1_allHold_11 : decode cX1_allHold 11 = .ok (.aload_n 0, 1) := by decide +kernel
theorem dX1_allHold_12 : decode cX1_allHold 12 = .ok (.getfield 9, 3) := by decide +kernel
theorem dX1_allHold_15 : decode cX1_allHold 15 = .ok (.iload_n 2, 1) := by decide +kernel
theorem dX1_allHold_16 : decode cX1_allHold 16 = .ok (.iaload, 1) := by decide +kernel
theorem dX1_allHold_17 : decode cX1_allHold 17 = .ok (.aload_n 0, 1) := by decide +kernel
theorem dX1_allHold_18 : decode cX1_allHold 18 = .ok (.getfield 15, 3) := by decide +kernel
theorem dX1_allHold_21 : decode cX1_allHold 21 = .ok (.iload_n 2, 1) := by decide +kernel
theorem dX1_allHold_22 : decode cX1_allHold 22 = .ok (.iaload, 1) := by decide +kernel
theorem dX1_allHold_23 : decode cX1_allHold 23 = .ok (.aload_n 0, 1) := by decide +kernel
theorem dX1_allHold_24 : decode cX1_allHold 24 = .ok (.getfield 18, 3) := by decide +kernel
theorem dX1_allHold_27 : decode cX1_allHold 27 = .ok (.iload_n 2, 1) := by decide +kernel
theorem dX1_allHold_28 : decode cX1_allHold 28 = .ok (.iaload, 1) := by decide +kernel
theorem dX1_allHold_29 : decode cX1_allHold 29 = .ok (.invokevirtual 28, 3) := by decide +kernel
theorem dX1_allHold_32 : decode cX1_allHold 32 = .ok (.aload_n 0, 1) := by decide +kernel
theorem dX1_allHold_33 : decode cX1_allHold 33 = .ok (.getfield 21, 3) := by decide +kernel
theorem dX1_allHold_36 : decode cX1_allHold 36 = .ok (.iload_n 2, 1) := by decide +kernel
theorem dX1_allHold_37 : decode cX1_allHold 37 = .ok (.iaload, 1) := by decide +kernel
theorem dX1_allHold_38 : decode cX1_allHold 38 = .ok (.if_icmp .eq 5, 3) := by decide +kernel
theorem dX1_allHold_41 : decode cX1_allHold 41 = .ok (.iconst 0, 1) := by decide +kernel
theorem dX1_allHold_42 : decode cX1_allHold 42 = .ok (.ireturn, 1) := by decide +kernel
theorem dX1_allHold_43 : decode cX1_allHold 43 = .ok (.iinc 2 1, 3) := by decide +kernel
theorem dX1_allHold_46 : decode cX1_allHold 46 = .ok (.goto (-44), 3) := by decide +kernel
theorem dX1_allHold_49 : decode cX1_allHold 49 = .ok (.iconst 1, 1) := by decide +kernel
theorem dX1_allHold_50 : decode cX1_allHold 50 = .ok (.ireturn, 1) := by decide +kernel
theorem dX2_init_0 : decode cX2_init 0 = .ok (.aload_n 0, 1) := by decide +kernel
theorem dX2_init_1 : decode cX2_init 1 = .ok (.invokespecial 3, 3) := by decide +kernel
theorem dX2_init_4 : decode cX2_init 4 = .ok (.aload_n 0, 1) := by decide +kernel
theorem dX2_init_5 : decode cX2_init 5 = .ok (.bipush 60, 2) := by decide +kernel
theorem dX2_init_7 : decode cX2_init 7 = .ok (.newarray .int, 2) := by decide +kernel
theorem dX2_init_9 : decode cX2_init 9 = .ok (.putfield 9, 3) := by decide +kernel
theorem dX2_init_12 : decode cX2_init 12 = .ok (.aload_n 0, 1) := by decide +kernel
theorem dX2_init_13 : decode cX2_init 13 = .ok (.iconst 0, 1) := by decide +kernel
theorem dX2_init_14 : decode cX2_init 14 = .ok (.putfield 15, 3) := by decide +kernel
theorem dX2_init_17 : decode cX2_init 17 = .ok (.aload_n 0, 1) := by decide +kernel
theorem dX2_init_18 : decode cX2_init 18 = .ok (.iconst 0, 1) := by decide +kernel
theorem dX2_init_19 : decode cX2_init 19 = .ok (.putfield 19, 3) := by decide +kernel
theorem dX2_init_22 : decode cX2_init 22 = .ok (.aload_n 0, 1) := by decide +kernel
theorem dX2_init_23 : decode cX2_init 23 = .ok (.iconst 0, 1) := by decide +kernel
theorem dX2_init_24 : decode cX2_init 24 = .ok (.putfield 23, 3) := by decide +kernel
theorem dX2_init_27 : decode cX2_init 27 = .ok (.return_, 1) := by decide +kernel
theorem dX2_renew_0 : decode cX2_renew 0 = .ok (.aload_n 0, 1) := by decide +kernel
theorem dX2_renew_1 : decode cX2_renew 1 = .ok (.iconst 1, 1) := by decide +kernel
theorem dX2_renew_2 : decode cX2_renew 2 = .ok (.putfield 15, 3) := by decide +kernel
theorem dX2_renew_5 : decode cX2_renew 5 = .ok (.aload_n 0, 1) := by decide +kernel
theorem dX2_renew_6 : decode cX2_renew 6 = .ok (.iload_n 1, 1) := by decide +kernel
theorem dX2_renew_7 : decode cX2_renew 7 = .ok (.putfield 19, 3) := by decide +kernel
theorem dX2_renew_10 : decode cX2_renew 10 = .ok (.aload_n 0, 1) := by decide +kernel
theorem dX2_renew_11 : decode cX2_renew 11 = .ok (.iload_n 2, 1) := by decide +kernel
theorem dX2_renew_12 : decode cX2_renew 12 = .ok (.putfield 23, 3) := by decide +kernel
theorem dX2_renew_15 : decode cX2_renew 15 = .ok (.iconst 0, 1) := by decide +kernel
theorem dX2_renew_16 : decode cX2_renew 16 = .ok (.istore_n 3, 1) := by decide +kernel
theorem dX2_renew_17 : decode cX2_renew 17 = .ok (.iload_n 3, 1) := by decide +kernel
theorem dX2_renew_18 : decode cX2_renew 18 = .ok (.bipush 60, 2) := by decide +kernel
theorem dX2_renew_20 : decode cX2_renew 20 = .ok (.if_icmp .ge 16, 3) := by decide +kernel
theorem dX2_renew_23 : decode cX2_renew 23 = .ok (.aload_n 0, 1) := by decide +kernel
theorem dX2_renew_24 : decode cX2_renew 24 = .ok (.getfield 9, 3) := by decide +kernel
theorem dX2_renew_27 : decode cX2_renew 27 = .ok (.iload_n 3, 1) := by decide +kernel
theorem dX2_renew_28 : decode cX2_renew 28 = .ok (.iconst 0, 1) := by decide +kernel
theorem dX2_renew_29 : decode cX2_renew 29 = .ok (.iastore, 1) := by decide +kernel
theorem dX2_renew_30 : decode cX2_renew 30 = .ok (.iinc 3 1, 3) := by decide +kernel
theorem dX2_renew_33 : decode cX2_renew 33 = .ok (.goto (-16), 3) := by decide +kernel
theorem dX2_renew_36 : decode cX2_renew 36 = .ok (.return_, 1) := by decide +kernel
theorem dX2_faultAs_0 : decode cX2_faultAs 0 = .ok (.aload_n 0, 1) := by decide +kernel
theorem dX2_faultAs_1 : decode cX2_faultAs 1 = .ok (.getfield 15, 3) := by decide +kernel
theorem dX2_faultAs_4 : decode cX2_faultAs 4 = .ok (.ifCond .ne 5, 3) := by decide +kernel
theorem dX2_faultAs_7 : decode cX2_faultAs 7 = .ok (.iconst 1, 1) := by decide +kernel
theorem dX2_faultAs_8 : decode cX2_faultAs 8 = .ok (.ireturn, 1) := by decide +kernel
theorem dX2_faultAs_9 : decode cX2_faultAs 9 = .ok (.aload_n 0, 1) := by decide +kernel
theorem dX2_faultAs_10 : decode cX2_faultAs 10 = .ok (.getfield 19, 3) := by decide +kernel
theorem dX2_faultAs_13 : decode cX2_faultAs 13 = .ok (.iload_n 1, 1) := by decide +kernel
theorem dX2_faultAs_14 : decode cX2_faultAs 14 = .ok (.if_icmp .ne 7, 3) := by decide +kernel
theorem dX2_faultAs_17 : decode cX2_faultAs 17 = .ok (.iconst 0, 1) := by decide +kernel
theorem dX2_faultAs_18 : decode cX2_faultAs 18 = .ok (.goto 4, 3) := by decide +kernel
theorem dX2_faultAs_21 : decode cX2_faultAs 21 = .ok (.iconst 2, 1) := by decide +kernel
theorem dX2_faultAs_22 : decode cX2_faultAs 22 = .ok (.ireturn, 1) := by decide +kernel
theorem dX2_hasRun_0 : decode cX2_hasRun 0 = .ok (.iload_n 1, 1) := by decide +kernel
theorem dX2_hasRun_1 : decode cX2_hasRun 1 = .ok (.ifCond .lt 29, 3) := by decide +kernel
theorem dX2_hasRun_4 : decode cX2_hasRun 4 = .ok (.iload_n 1, 1) := by decide +kernel
theorem dX2_hasRun_5 : decode cX2_hasRun 5 = .ok (.aload_n 0, 1) := by decide +kernel
theorem dX2_hasRun_6 : decode cX2_hasRun 6 = .ok (.getfield 23, 3) := by decide +kernel
theorem dX2_hasRun_9 : decode cX2_hasRun 9 = .ok (.if_icmp .gt 21, 3) := by decide +kernel
theorem dX2_hasRun_12 : decode cX2_hasRun 12 = .ok (.iload_n 2, 1) := by decide +kernel
theorem dX2_hasRun_13 : decode cX2_hasRun 13 = .ok (.ifCond .lt 17, 3) := by decide +kernel
theorem dX2_hasRun_16 : decode cX2_hasRun 16 = .ok (.iload_n 2, 1) := by decide +kernel
theorem dX2_hasRun_17 : decode cX2_hasRun 17 = .ok (.aload_n 0, 1) := by decide +kernel
theorem dX2_hasRun_18 : decode cX2_hasRun 18 = .ok (.getfield 23, 3) := by decide +kernel
theorem dX2_hasRun_21 : decode cX2_hasRun 21 = .ok (.iload_n 1, 1) := by decide +kernel
theorem dX2_hasRun_22 : decode cX2_hasRun 22 = .ok (.isub, 1) := by decide +kernel
theorem dX2_hasRun_23 : decode cX2_hasRun 23 = .ok (.if_icmp .gt 7, 3) := by decide +kernel
theorem dX2_hasRun_26 : decode cX2_hasRun 26 = .ok (.iconst 1, 1) := by decide +kernel
theorem dX2_hasRun_27 : decode cX2_hasRun 27 = .ok (.goto 4, 3) := by decide +kernel
theorem dX2_hasRun_30 : decode cX2_hasRun 30 = .ok (.iconst 0, 1) := by decide +kernel
theorem dX2_hasRun_31 : decode cX2_hasRun 31 = .ok (.ireturn, 1) := by decide +kernel
theorem dX2_cut_0 : decode cX2_cut 0 = .ok (.aload_n 0, 1) := by decide +kernel
theorem dX2_cut_1 : decode cX2_cut 1 = .ok (.getfield 19, 3) := by decide +kernel
theorem dX2_cut_4 : decode cX2_cut 4 = .ok (.ifCond .ne 6, 3) := by decide +kernel
theorem dX2_cut_7 : decode cX2_cut 7 = .ok (.iload_n 1, 1) := by decide +kernel
theorem dX2_cut_8 : decode cX2_cut 8 = .ok (.i2b, 1) := by decide +kernel
theorem dX2_cut_9 : decode cX2_cut 9 = .ok (.ireturn, 1) := by decide +kernel
theorem dX2_cut_10 : decode cX2_cut 10 = .ok (.aload_n 0, 1) := by decide +kernel
theorem dX2_cut_11 : decode cX2_cut 11 = .ok (.getfield 19, 3) := by decide +kernel
theorem dX2_cut_14 : decode cX2_cut 14 = .ok (.iconst 1, 1) := by decide +kernel
theorem dX2_cut_15 : decode cX2_cut 15 = .ok (.if_icmp .ne 8, 3) := by decide +kernel
theorem dX2_cut_18 : decode cX2_cut 18 = .ok (.iload_n 1, 1) := by decide +kernel
theorem dX2_cut_19 : decode cX2_cut 19 = .ok (.i2s, 1) := by decide +kernel
theorem dX2_cut_20 : decode cX2_cut 20 = .ok (.goto 4, 3) := by decide +kernel
theorem dX2_cut_23 : decode cX2_cut 23 = .ok (.iload_n 1, 1) := by decide +kernel
theorem dX2_cut_24 : decode cX2_cut 24 = .ok (.ireturn, 1) := by decide +kernel
theorem dX3_init_0 : decode cX3_init 0 = .ok (.aload_n 0, 1) := by decide +kernel
theorem dX3_init_1 : decode cX3_init 1 = .ok (.invokespecial 3, 3) := by decide +kernel
theorem dX3_init_4 : decode cX3_init 4 = .ok (.aload_n 0, 1) := by decide +kernel
theorem dX3_init_5 : decode cX3_init 5 = .ok (.iconst 3, 1) := by decide +kernel
theorem dX3_init_6 : decode cX3_init 6 = .ok (.newarray .int, 2) := by decide +kernel
theorem dX3_init_8 : decode cX3_init 8 = .ok (.putfield 9, 3) := by decide +kernel
theorem dX3_init_11 : decode cX3_init 11 = .ok (.aload_n 0, 1) := by decide +kernel
theorem dX3_init_12 : decode cX3_init 12 = .ok (.iconst 0, 1) := by decide +kernel
theorem dX3_init_13 : decode cX3_init 13 = .ok (.putfield 15, 3) := by decide +kernel
theorem dX3_init_16 : decode cX3_init 16 = .ok (.aload_n 0, 1) := by decide +kernel
theorem dX3_init_17 : decode cX3_init 17 = .ok (.iconst 0, 1) := by decide +kernel
theorem dX3_init_18 : decode cX3_init 18 = .ok (.putfield 19, 3) := by decide +kernel
theorem dX3_init_21 : decode cX3_init 21 = .ok (.aload_n 0, 1) := by decide +kernel
theorem dX3_init_22 : decode cX3_init 22 = .ok (.iconst 0, 1) := by decide +kernel
theorem dX3_init_23 : decode cX3_init 23 = .ok (.putfield 22, 3) := by decide +kernel
theorem dX3_init_26 : decode cX3_init 26 = .ok (.aload_n 0, 1) := by decide +kernel
theorem dX3_init_27 : decode cX3_init 27 = .ok (.iconst 0, 1) := by decide +kernel
theorem dX3_init_28 : decode cX3_init 28 = .ok (.putfield 25, 3) := by decide +kernel
theorem dX3_init_31 : decode cX3_init 31 = .ok (.return_, 1) := by decide +kernel
theorem dX3_carve_0 : decode cX3_carve 0 = .ok (.aload_n 0, 1) := by decide +kernel
theorem dX3_carve_1 : decode cX3_carve 1 = .ok (.aload_n 1, 1) := by decide +kernel
theorem dX3_carve_2 : decode cX3_carve 2 = .ok (.getfield 29, 3) := by decide +kernel
theorem dX3_carve_5 : decode cX3_carve 5 = .ok (.iload_n 2, 1) := by decide +kernel
theorem dX3_carve_6 : decode cX3_carve 6 = .ok (.iaload, 1) := by decide +kernel
theorem dX3_carve_7 : decode cX3_carve 7 = .ok (.invokestatic 34, 3) := by decide +kernel
theorem dX3_carve_10 : decode cX3_carve 10 = .ok (.putfield 15, 3) := by decide +kernel
theorem dX3_carve_13 : decode cX3_carve 13 = .ok (.iconst 0, 1) := by decide +kernel
theorem dX3_carve_14 : decode cX3_carve 14 = .ok (.istore_n 3, 1) := by decide +kernel
theorem dX3_carve_15 : decode cX3_carve 15 = .ok (.iload_n 3, 1) := by decide +kernel
theorem dX3_carve_16 : decode cX3_carve 16 = .ok (.iconst 3, 1) := by decide +kernel
theorem dX3_carve_17 : decode cX3_carve 17 = .ok (.if_icmp .ge 31, 3) := by decide +kernel
theorem dX3_carve_20 : decode cX3_carve 20 = .ok (.aload_n 0, 1) := by decide +kernel
theorem dX3_carve_21 : decode cX3_carve 21 = .ok (.getfield 9, 3) := by decide +kernel
theorem dX3_carve_24 : decode cX3_carve 24 = .ok (.iload_n 3, 1) := by decide +kernel
theorem dX3_carve_25 : decode cX3_carve 25 = .ok (.bipush 10, 2) := by decide +kernel
theorem dX3_carve_27 : decode cX3_carve 27 = .ok (.aload_n 1, 1) := by decide +kernel
theorem dX3_carve_28 : decode cX3_carve 28 = .ok (.getfield 29, 3) := by decide +kernel
theorem dX3_carve_31 : decode cX3_carve 31 = .ok (.iload_n 2, 1) := by decide +kernel
theorem dX3_carve_32 : decode cX3_carve 32 = .ok (.iconst 1, 1) := by decide +kernel
theorem dX3_carve_33 : decode cX3_carve 33 = .ok (.iadd, 1) := by decide +kernel
theorem dX3_carve_34 : decode cX3_carve 34 = .ok (.iload_n 3, 1) := by decide +kernel
theorem dX3_carve_35 : decode cX3_carve 35 = .ok (.iadd, 1) := by decide +kernel
theorem dX3_carve_36 : decode cX3_carve 36 = .ok (.iaload, 1) := by decide +kernel
theorem dX3_carve_37 : decode cX3_carve 37 = .ok (.bipush 48, 2) := by decide +kernel
theorem dX3_carve_39 : decode cX3_carve 39 = .ok (.isub, 1) := by decide +kernel
theorem dX3_carve_40 : decode cX3_carve 40 = .ok (.imul, 1) := by decide +kernel
theorem dX3_carve_41 : decode cX3_carve 41 = .ok (.iastore, 1) := by decide +kernel
theorem dX3_carve_42 : decode cX3_carve 42 = .ok (.iinc 3 1, 3) := by decide +kernel
theorem dX3_carve_45 : decode cX3_carve 45 = .ok (.goto (-30), 3) := by decide +kernel
theorem dX3_carve_48 : decode cX3_carve 48 = .ok (.aload_n 0, 1) := by decide +kernel
theorem dX3_carve_49 : decode cX3_carve 49 = .ok (.aload_n 1, 1) := by decide +kernel
theorem dX3_carve_50 : decode cX3_carve 50 = .ok (.getfield 29, 3) := by decide +kernel
theorem dX3_carve_53 : decode cX3_carve 53 = .ok (.iload_n 2, 1) := by decide +kernel
theorem dX3_carve_54 : decode cX3_carve 54 = .ok (.iconst 1, 1) := by decide +kernel
theorem dX3_carve_55 : decode cX3_carve 55 = .ok (.iadd, 1) := by decide +kernel
theorem dX3_carve_56 : decode cX3_carve 56 = .ok (.iconst 3, 1) := by decide +kernel
theorem dX3_carve_57 : decode cX3_carve 57 = .ok (.iadd, 1) := by decide +kernel
theorem dX3_carve_58 : decode cX3_carve 58 = .ok (.iaload, 1) := by decide +kernel
theorem dX3_carve_59 : decode cX3_carve 59 = .ok (.bipush 48, 2) := by decide +kernel
theorem dX3_carve_61 : decode cX3_carve 61 = .ok (.isub, 1) := by decide +kernel
theorem dX3_carve_62 : decode cX3_carve 62 = .ok (.putfield 19, 3) := by decide +kernel
theorem dX3_carve_65 : decode cX3_carve 65 = .ok (.aload_n 0, 1) := by decide +kernel
theorem dX3_carve_66 : decode cX3_carve 66 = .ok (.iconst 0, 1) := by decide +kernel
theorem dX3_carve_67 : decode cX3_carve 67 = .ok (.putfield 22, 3) := by decide +kernel
theorem dX3_carve_70 : decode cX3_carve 70 = .ok (.aload_n 0, 1) := by decide +kernel
theorem dX3_carve_71 : decode cX3_carve 71 = .ok (.iconst 0, 1) := by decide +kernel
theorem dX3_carve_72 : decode cX3_carve 72 = .ok (.putfield 25, 3) := by decide +kernel
theorem dX3_carve_75 : decode cX3_carve 75 = .ok (.return_, 1) := by decide +kernel
theorem dX3_allAtFirst_0 : decode cX3_allAtFirst 0 = .ok (.aload_n 0, 1) := by decide +kernel
theorem dX3_allAtFirst_1 : decode cX3_allAtFirst 1 = .ok (.getfield 9, 3) := by decide +kernel
theorem dX3_allAtFirst_4 : decode cX3_allAtFirst 4 = .ok (.iconst 0, 1) := by decide +kernel
theorem dX3_allAtFirst_5 : decode cX3_allAtFirst 5 = .ok (.iaload, 1) := by decide +kernel
theorem dX3_allAtFirst_6 : decode cX3_allAtFirst 6 = .ok (.aload_n 0, 1) := by decide +kernel
theorem dX3_allAtFirst_7 : decode cX3_allAtFirst 7 = .ok (.getfield 9, 3) := by decide +kernel
theorem dX3_allAtFirst_10 : decode cX3_allAtFirst 10 = .ok (.iconst 1, 1) := by decide +kernel
theorem dX3_allAtFirst_11 : decode cX3_allAtFirst 11 = .ok (.iaload, 1) := by decide +kernel
theorem dX3_allAtFirst_12 : decode cX3_allAtFirst 12 = .ok (.iadd, 1) := by decide +kernel
theorem dX3_allAtFirst_13 : decode cX3_allAtFirst 13 = .ok (.aload_n 0, 1) := by decide +kernel
theorem dX3_allAtFirst_14 : decode cX3_allAtFirst 14 = .ok (.getfield 9, 3) := by decide +kernel
theorem dX3_allAtFirst_17 : decode cX3_allAtFirst 17 = .ok (.iconst 2, 1) := by decide +kernel
theorem dX3_allAtFirst_18 : decode cX3_allAtFirst 18 = .ok (.iaload, 1) := by decide +kernel
theorem dX3_allAtFirst_19 : decode cX3_allAtFirst 19 = .ok (.iadd, 1) := by decide +kernel
theorem dX3_allAtFirst_20 : decode cX3_allAtFirst 20 = .ok (.ireturn, 1) := by decide +kernel
theorem dX3_washedOff_0 : decode cX3_washedOff 0 = .ok (.iload_n 2, 1) := by decide +kernel
theorem dX3_washedOff_1 : decode cX3_washedOff 1 = .ok (.istore 6, 2) := by decide +kernel
theorem dX3_washedOff_3 : decode cX3_washedOff 3 = .ok (.iload_n 1, 1) := by decide +kernel
theorem dX3_washedOff_4 : decode cX3_washedOff 4 = .ok (.ifCond .ne 14, 3) := by decide +kernel
theorem dX3_washedOff_7 : decode cX3_washedOff 7 = .ok (.iload_n 3, 1) := by decide +kernel
theorem dX3_washedOff_8 : decode cX3_washedOff 8 = .ok (.iload 4, 2) := by decide +kernel
theorem dX3_washedOff_10 : decode cX3_washedOff 10 = .ok (.if_icmp .ne 8, 3) := by decide +kernel
theorem dX3_washedOff_13 : decode cX3_washedOff 13 = .ok (.iconst 3, 1) := by decide +kernel
theorem dX3_washedOff_14 : decode cX3_washedOff 14 = .ok (.iload_n 2, 1) := by decide +kernel
theorem dX3_washedOff_15 : decode cX3_washedOff 15 = .ok (.imul, 1) := by decide +kernel
theorem dX3_washedOff_16 : decode cX3_washedOff 16 = .ok (.istore 6, 2) := by decide +kernel
theorem dX3_washedOff_18 : decode cX3_washedOff 18 = .ok (.iload_n 1, 1) := by decide +kernel
theorem dX3_washedOff_19 : decode cX3_washedOff 19 = .ok (.iconst 1, 1) := by decide +kernel
theorem dX3_washedOff_20 : decode cX3_washedOff 20 = .ok (.if_icmp .ne 8, 3) := by decide +kernel
theorem dX3_washedOff_23 : decode cX3_washedOff 23 = .ok (.iconst 2, 1) := by decide +kernel
theorem dX3_washedOff_24 : decode cX3_washedOff 24 = .ok (.iload_n 2, 1) := by decide +kernel
theorem dX3_washedOff_25 : decode cX3_washedOff 25 = .ok (.imul, 1) := by decide +kernel
theorem dX3_washedOff_26 : decode cX3_washedOff 26 = .ok (.istore 6, 2) := by decide +kernel
theorem dX3_washedOff_28 : decode cX3_washedOff 28 = .ok (.aload_n 0, 1) := by decide +kernel
theorem dX3_washedOff_29 : decode cX3_washedOff 29 = .ok (.getfield 15, 3) := by decide +kernel
theorem dX3_washedOff_32 : decode cX3_washedOff 32 = .ok (.iconst 2, 1) := by decide +kernel
theorem dX3_washedOff_33 : decode cX3_washedOff 33 = .ok (.if_icmp .ne 9, 3) := by decide +kernel
theorem dX3_washedOff_36 : decode cX3_washedOff 36 = .ok (.iload 6, 2) := by decide +kernel
theorem dX3_washedOff_38 : decode cX3_washedOff 38 = .ok (.iconst 2, 1) := by decide +kernel
theorem dX3_washedOff_39 : decode cX3_washedOff 39 = .ok (.idiv, 1) := by decide +kernel
theorem dX3_washedOff_40 : decode cX3_washedOff 40 = .ok (.istore 6, 2) := by decide +kernel
theorem dX3_washedOff_42 : decode cX3_washedOff 42 = .ok (.iload 5, 2) := by decide +kernel
theorem dX3_washedOff_44 : decode cX3_washedOff 44 = .ok (.iconst 1, 1) := by decide +kernel
theorem dX3_washedOff_45 : decode cX3_washedOff 45 = .ok (.if_icmp .ne 9, 3) := by decide +kernel
theorem dX3_washedOff_48 : decode cX3_washedOff 48 = .ok (.iload 6, 2) := by decide +kernel
theorem dX3_washedOff_50 : decode cX3_washedOff 50 = .ok (.iconst 2, 1) := by decide +kernel
theorem dX3_washedOff_51 : decode cX3_washedOff 51 = .ok (.idiv, 1) := by decide +kernel
theorem dX3_washedOff_52 : decode cX3_washedOff 52 = .ok (.istore 6, 2) := by decide +kernel
theorem dX3_washedOff_54 : decode cX3_washedOff 54 = .ok (.iload 5, 2) := by decide +kernel
theorem dX3_washedOff_56 : decode cX3_washedOff 56 = .ok (.iconst 2, 1) := by decide +kernel
theorem dX3_washedOff_57 : decode cX3_washedOff 57 = .ok (.if_icmp .ne 7, 3) := by decide +kernel
theorem dX3_washedOff_60 : decode cX3_washedOff 60 = .ok (.iconst 0, 1) := by decide +kernel
theorem dX3_washedOff_61 : decode cX3_washedOff 61 = .ok (.goto 5, 3) := by decide +kernel
theorem dX3_washedOff_64 : decode cX3_washedOff 64 = .ok (.iload 6, 2) := by decide +kernel
theorem dX3_washedOff_66 : decode cX3_washedOff 66 = .ok (.ireturn, 1) := by decide +kernel
theorem dX3_lickable_0 : decode cX3_lickable 0 = .ok (.aload_n 0, 1) := by decide +kernel
theorem dX3_lickable_1 : decode cX3_lickable 1 = .ok (.getfield 25, 3) := by decide +kernel
theorem dX3_lickable_4 : decode cX3_lickable 4 = .ok (.ifCond .eq 5, 3) := by decide +kernel
theorem dX3_lickable_7 : decode cX3_lickable 7 = .ok (.iconst 0, 1) := by decide +kernel
theorem dX3_lickable_8 : decode cX3_lickable 8 = .ok (.ireturn, 1) := by decide +kernel
theorem dX3_lickable_9 : decode cX3_lickable 9 = .ok (.aload_n 0, 1) := by decide +kernel
theorem dX3_lickable_10 : decode cX3_lickable 10 = .ok (.getfield 15, 3) := by decide +kernel
theorem dX3_lickable_13 : decode cX3_lickable 13 = .ok (.ifCond .ne 13, 3) := by decide +kernel
theorem dX3_lickable_16 : decode cX3_lickable 16 = .ok (.iload_n 1, 1) := by decide +kernel
theorem dX3_lickable_17 : decode cX3_lickable 17 = .ok (.ifCond .le 7, 3) := by decide +kernel
theorem dX3_lickable_20 : decode cX3_lickable 20 = .ok (.iconst 1, 1) := by decide +kernel
theorem dX3_lickable_21 : decode cX3_lickable 21 = .ok (.goto 4, 3) := by decide +kernel
theorem dX3_lickable_24 : decode cX3_lickable 24 = .ok (.iconst 0, 1) := by decide +kernel
theorem dX3_lickable_25 : decode cX3_lickable 25 = .ok (.ireturn, 1) := by decide +kernel
theorem dX3_lickable_26 : decode cX3_lickable 26 = .ok (.iconst 2, 1) := by decide +kernel
theorem dX3_lickable_27 : decode cX3_lickable 27 = .ok (.iload_n 1, 1) := by decide +kernel
theorem dX3_lickable_28 : decode cX3_lickable 28 = .ok (.imul, 1) := by decide +kernel
theorem dX3_lickable_29 : decode cX3_lickable 29 = .ok (.aload_n 0, 1) := by decide +kernel
theorem dX3_lickable_30 : decode cX3_lickable 30 = .ok (.getfield 9, 3) := by decide +kernel
theorem dX3_lickable_33 : decode cX3_lickable 33 = .ok (.iconst 2, 1) := by decide +kernel
theorem dX3_lickable_34 : decode cX3_lickable 34 = .ok (.iaload, 1) := by decide +kernel
theorem dX3_lickable_35 : decode cX3_lickable 35 = .ok (.if_icmp .le 7, 3) := by decide +kernel
theorem dX3_lickable_38 : decode cX3_lickable 38 = .ok (.iconst 1, 1) := by decide +kernel
theorem dX3_lickable_39 : decode cX3_lickable 39 = .ok (.goto 4, 3) := by decide +kernel
theorem dX3_lickable_42 : decode cX3_lickable 42 = .ok (.iconst 0, 1) := by decide +kernel
theorem dX3_lickable_43 : decode cX3_lickable 43 = .ok (.ireturn, 1) := by decide +kernel
theorem dX4_firstFault_0 : decode cX4_firstFault 0 = .ok (.iconst 0, 1) := by decide +kernel
theorem dX4_firstFault_1 : decode cX4_firstFault 1 = .ok (.istore_n 3, 1) := by decide +kernel
theorem dX4_firstFault_2 : decode cX4_firstFault 2 = .ok (.iload_n 3, 1) := by decide +kernel
theorem dX4_firstFault_3 : decode cX4_firstFault 3 = .ok (.iload_n 2, 1) := by decide +kernel
theorem dX4_firstFault_4 : decode cX4_firstFault 4 = .ok (.if_icmp .ge 26, 3) := by decide +kernel
theorem dX4_firstFault_7 : decode cX4_firstFault 7 = .ok (.iload_n 3, 1) := by decide +kernel
theorem dX4_firstFault_8 : decode cX4_firstFault 8 = .ok (.aload_n 0, 1) := by decide +kernel
theorem dX4_firstFault_9 : decode cX4_firstFault 9 = .ok (.getfield 11, 3) := by decide +kernel
theorem dX4_firstFault_12 : decode cX4_firstFault 12 = .ok (.iload_n 1, 1) := by decide +kernel
theorem dX4_firstFault_13 : decode cX4_firstFault 13 = .ok (.iload_n 3, 1) := by decide +kernel
theorem dX4_firstFault_14 : decode cX4_firstFault 14 = .ok (.iadd, 1) := by decide +kernel
theorem dX4_firstFault_15 : decode cX4_firstFault 15 = .ok (.iaload, 1) := by decide +kernel
theorem dX4_firstFault_16 : decode cX4_firstFault 16 = .ok (.invokestatic 17, 3) := by decide +kernel
theorem dX4_firstFault_19 : decode cX4_firstFault 19 = .ok (.ifCond .ne 5, 3) := by decide +kernel
theorem dX4_firstFault_22 : decode cX4_firstFault 22 = .ok (.iload_n 3, 1) := by decide +kernel
theorem dX4_firstFault_23 : decode cX4_firstFault 23 = .ok (.ireturn, 1) := by decide +kernel
theorem dX4_firstFault_24 : decode cX4_firstFault 24 = .ok (.iinc 3 1, 3) := by decide +kernel
theorem dX4_firstFault_27 : decode cX4_firstFault 27 = .ok (.goto (-25), 3) := by decide +kernel
theorem dX4_firstFault_30 : decode cX4_firstFault 30 = .ok (.iload_n 2, 1) := by decide +kernel
theorem dX4_firstFault_31 : decode cX4_firstFault 31 = .ok (.invokestatic 21, 3) := by decide +kernel
theorem dX4_firstFault_34 : decode cX4_firstFault 34 = .ok (.ifCond .eq 7, 3) := by decide +kernel
theorem dX4_firstFault_37 : decode cX4_firstFault 37 = .ok (.iconst (-1), 1) := by decide +kernel
theorem dX4_firstFault_38 : decode cX4_firstFault 38 = .ok (.goto 4, 3) := by decide +kernel
theorem dX4_firstFault_41 : decode cX4_firstFault 41 = .ok (.iload_n 2, 1) := by decide +kernel
theorem dX4_firstFault_42 : decode cX4_firstFault 42 = .ok (.ireturn, 1) := by decide +kernel
theorem dX4_goesOn_0 : decode cX4_goesOn 0 = .ok (.iload_n 0, 1) := by decide +kernel
theorem dX4_goesOn_1 : decode cX4_goesOn 1 = .ok (.bipush 6, 2) := by decide +kernel
theorem dX4_goesOn_3 : decode cX4_goesOn 3 = .ok (.irem, 1) := by decide +kernel
theorem dX4_goesOn_4 : decode cX4_goesOn 4 = .ok (.tableswitch 87 0 4 #[36, 51, 51, 51, 69], 36) := by decide +kernel
theorem dX4_goesOn_40 : decode cX4_goesOn 40 = .ok (.iload_n 1, 1) := by decide +kernel
theorem dX4_goesOn_41 : decode cX4_goesOn 41 = .ok (.invokestatic 25, 3) := by decide +kernel
theorem dX4_goesOn_44 : decode cX4_goesOn 44 = .ok (.bipush (-9), 2) := by decide +kernel
theorem dX4_goesOn_46 : decode cX4_goesOn 46 = .ok (.if_icmp .eq 7, 3) := by decide +kernel
theorem dX4_goesOn_49 : decode cX4_goesOn 49 = .ok (.iconst 1, 1) := by decide +kernel
theorem dX4_goesOn_50 : decode cX4_goesOn 50 = .ok (.goto 4, 3) := by decide +kernel
theorem dX4_goesOn_53 : decode cX4_goesOn 53 = .ok (.iconst 0, 1) := by decide +kernel
theorem dX4_goesOn_54 : decode cX4_goesOn 54 = .ok (.ireturn, 1) := by decide +kernel
theorem dX4_goesOn_55 : decode cX4_goesOn 55 = .ok (.iload_n 1, 1) := by decide +kernel
theorem dX4_goesOn_56 : decode cX4_goesOn 56 = .ok (.bipush 49, 2) := by decide +kernel
theorem dX4_goesOn_58 : decode cX4_goesOn 58 = .ok (.if_icmp .lt 13, 3) := by decide +kernel
theorem dX4_goesOn_61 : decode cX4_goesOn 61 = .ok (.iload_n 1, 1) := by decide +kernel
theorem dX4_goesOn_62 : decode cX4_goesOn 62 = .ok (.bipush 57, 2) := by decide +kernel
theorem dX4_goesOn_64 : decode cX4_goesOn 64 = .ok (.if_icmp .gt 7, 3) := by decide +kernel
theorem dX4_goesOn_67 : decode cX4_goesOn 67 = .ok (.iconst 1, 1) := by decide +kernel
theorem dX4_goesOn_68 : decode cX4_goesOn 68 = .ok (.goto 4, 3) := by decide +kernel
theorem dX4_goesOn_71 : decode cX4_goesOn 71 = .ok (.iconst 0, 1) := by decide +kernel
theorem dX4_goesOn_72 : decode cX4_goesOn 72 = .ok (.ireturn, 1) := by decide +kernel
theorem dX4_goesOn_73 : decode cX4_goesOn 73 = .ok (.iload_n 1, 1) := by decide +kernel
theorem dX4_goesOn_74 : decode cX4_goesOn 74 = .ok (.bipush 48, 2) := by decide +kernel
theorem dX4_goesOn_76 : decode cX4_goesOn 76 = .ok (.if_icmp .lt 13, 3) := by decide +kernel
theorem dX4_goesOn_79 : decode cX4_goesOn 79 = .ok (.iload_n 1, 1) := by decide +kernel
theorem dX4_goesOn_80 : decode cX4_goesOn 80 = .ok (.bipush 51, 2) := by decide +kernel
theorem dX4_goesOn_82 : decode cX4_goesOn 82 = .ok (.if_icmp .gt 7, 3) := by decide +kernel
theorem dX4_goesOn_85 : decode cX4_goesOn 85 = .ok (.iconst 1, 1) := by decide +kernel
theorem dX4_goesOn_86 : decode cX4_goesOn 86 = .ok (.goto 4, 3) := by decide +kernel
theorem dX4_goesOn_89 : decode cX4_goesOn 89 = .ok (.iconst 0, 1) := by decide +kernel
theorem dX4_goesOn_90 : decode cX4_goesOn 90 = .ok (.ireturn, 1) := by decide +kernel
theorem dX4_goesOn_91 : decode cX4_goesOn 91 = .ok (.iload_n 1, 1) := by decide +kernel
theorem dX4_goesOn_92 : decode cX4_goesOn 92 = .ok (.bipush 59, 2) := by decide +kernel
theorem dX4_goesOn_94 : decode cX4_goesOn 94 = .ok (.if_icmp .ne 13, 3) := by decide +kernel
theorem dX4_goesOn_97 : decode cX4_goesOn 97 = .ok (.iload_n 0, 1) := by decide +kernel
theorem dX4_goesOn_98 : decode cX4_goesOn 98 = .ok (.bipush 41, 2) := by decide +kernel
theorem dX4_goesOn_100 : decode cX4_goesOn 100 = .ok (.if_icmp .ge 7, 3) := by decide +kernel
theorem dX4_goesOn_103 : decode cX4_goesOn 103 = .ok (.iconst 1, 1) := by decide +kernel
theorem dX4_goesOn_104 : decode cX4_goesOn 104 = .ok (.goto 4, 3) := by decide +kernel
theorem dX4_goesOn_107 : decode cX4_goesOn 107 = .ok (.iconst 0, 1) := by decide +kernel
theorem dX4_goesOn_108 : decode cX4_goesOn 108 = .ok (.ireturn, 1) := by decide +kernel
theorem dX4_isWhole_0 : decode cX4_isWhole 0 = .ok (.iload_n 0, 1) := by decide +kernel
theorem dX4_isWhole_1 : decode cX4_isWhole 1 = .ok (.bipush 6, 2) := by decide +kernel
theorem dX4_isWhole_3 : decode cX4_isWhole 3 = .ok (.irem, 1) := by decide +kernel
theorem dX4_isWhole_4 : decode cX4_isWhole 4 = .ok (.iconst 5, 1) := by decide +kernel
theorem dX4_isWhole_5 : decode cX4_isWhole 5 = .ok (.if_icmp .ne 7, 3) := by decide +kernel
theorem dX4_isWhole_8 : decode cX4_isWhole 8 = .ok (.iconst 1, 1) := by decide +kernel
theorem dX4_isWhole_9 : decode cX4_isWhole 9 = .ok (.goto 4, 3) := by decide +kernel
theorem dX4_isWhole_12 : decode cX4_isWhole 12 = .ok (.iconst 0, 1) := by decide +kernel
theorem dX4_isWhole_13 : decode cX4_isWhole 13 = .ok (.ireturn, 1) := by decide +kernel
theorem dX4_kindOf_0 : decode cX4_kindOf 0 = .ok (.iload_n 0, 1) := by decide +kernel
theorem dX4_kindOf_1 : decode cX4_kindOf 1 = .ok (.lookupswitch 41 #[(98, 37), (109, 39), (115, 35)], 35) := by decide +kernel
theorem dX4_kindOf_36 : decode cX4_kindOf 36 = .ok (.iconst 0, 1) := by decide +kernel
theorem dX4_kindOf_37 : decode cX4_kindOf 37 = .ok (.ireturn, 1) := by decide +kernel
theorem dX4_kindOf_38 : decode cX4_kindOf 38 = .ok (.iconst 1, 1) := by decide +kernel
theorem dX4_kindOf_39 : decode cX4_kindOf 39 = .ok (.ireturn, 1) := by decide +kernel
theorem dX4_kindOf_40 : decode cX4_kindOf 40 = .ok (.iconst 2, 1) := by decide +kernel
theorem dX4_kindOf_41 : decode cX4_kindOf 41 = .ok (.ireturn, 1) := by decide +kernel
theorem dX4_kindOf_42 : decode cX4_kindOf 42 = .ok (.bipush (-9), 2) := by decide +kernel
theorem dX4_kindOf_44 : decode cX4_kindOf 44 = .ok (.ireturn, 1) := by decide +kernel
theorem dX5_init_0 : decode cX5_init 0 = .ok (.aload_n 0, 1) := by decide +kernel
theorem dX5_init_1 : decode cX5_init 1 = .ok (.invokespecial 3, 3) := by decide +kernel
theorem dX5_init_4 : decode cX5_init 4 = .ok (.aload_n 0, 1) := by decide +kernel
theorem dX5_init_5 : decode cX5_init 5 = .ok (.bipush 7, 2) := by decide +kernel
theorem dX5_init_7 : decode cX5_init 7 = .ok (.anewarray 9, 3) := by decide +kernel
theorem dX5_init_10 : decode cX5_init 10 = .ok (.putfield 11, 3) := by decide +kernel
theorem dX5_init_13 : decode cX5_init 13 = .ok (.iconst 0, 1) := by decide +kernel
theorem dX5_init_14 : decode cX5_init 14 = .ok (.istore_n 1, 1) := by decide +kernel
theorem dX5_init_15 : decode cX5_init 15 = .ok (.iload_n 1, 1) := by decide +kernel
theorem dX5_init_16 : decode cX5_init 16 = .ok (.bipush 7, 2) := by decide +kernel
theorem dX5_init_18 : decode cX5_init 18 = .ok (.if_icmp .ge 22, 3) := by decide +kernel
theorem dX5_init_21 : decode cX5_init 21 = .ok (.aload_n 0, 1) := by decide +kernel
theorem dX5_init_22 : decode cX5_init 22 = .ok (.getfield 11, 3) := by decide +kernel
theorem dX5_init_25 : decode cX5_init 25 = .ok (.iload_n 1, 1) := by decide +kernel
theorem dX5_init_26 : decode cX5_init 26 = .ok (.new 9, 3) := by decide +kernel
theorem dX5_init_29 : decode cX5_init 29 = .ok (.dup, 1) := by decide +kernel
theorem dX5_init_30 : decode cX5_init 30 = .ok (.invokespecial 17, 3) := by decide +kernel
theorem dX5_init_33 : decode cX5_init 33 = .ok (.aastore, 1) := by decide +kernel
theorem dX5_init_34 : decode cX5_init 34 = .ok (.iinc 1 1, 3) := by decide +kernel
theorem dX5_init_37 : decode cX5_init 37 = .ok (.goto (-22), 3) := by decide +kernel
theorem dX5_init_40 : decode cX5_init 40 = .ok (.aload_n 0, 1) := by decide +kernel
theorem dX5_init_41 : decode cX5_init 41 = .ok (.bipush 60, 2) := by decide +kernel
theorem dX5_init_43 : decode cX5_init 43 = .ok (.newarray .int, 2) := by decide +kernel
theorem dX5_init_45 : decode cX5_init 45 = .ok (.putfield 18, 3) := by decide +kernel
theorem dX5_init_48 : decode cX5_init 48 = .ok (.aload_n 0, 1) := by decide +kernel
theorem dX5_init_49 : decode cX5_init 49 = .ok (.bipush 60, 2) := by decide +kernel
theorem dX5_init_51 : decode cX5_init 51 = .ok (.newarray .int, 2) := by decide +kernel
theorem dX5_init_53 : decode cX5_init 53 = .ok (.putfield 22, 3) := by decide +kernel
theorem dX5_init_56 : decode cX5_init 56 = .ok (.aload_n 0, 1) := by decide +kernel
theorem dX5_init_57 : decode cX5_init 57 = .ok (.sipush 1281, 3) := by decide +kernel
theorem dX5_init_60 : decode cX5_init 60 = .ok (.newarray .int, 2) := by decide +kernel
theorem dX5_init_62 : decode cX5_init 62 = .ok (.putfield 25, 3) := by decide +kernel
theorem dX5_init_65 : decode cX5_init 65 = .ok (.aload_n 0, 1) := by decide +kernel
theorem dX5_init_66 : decode cX5_init 66 = .ok (.sipush 427, 3) := by decide +kernel
theorem dX5_init_69 : decode cX5_init 69 = .ok (.newarray .int, 2) := by decide +kernel
theorem dX5_init_71 : decode cX5_init 71 = .ok (.putfield 28, 3) := by decide +kernel
theorem dX5_init_74 : decode cX5_init 74 = .ok (.aload_n 0, 1) := by decide +kernel
theorem dX5_init_75 : decode cX5_init 75 = .ok (.bipush 60, 2) := by decide +kernel
theorem dX5_init_77 : decode cX5_init 77 = .ok (.newarray .int, 2) := by decide +kernel
theorem dX5_init_79 : decode cX5_init 79 = .ok (.putfield 31, 3) := by decide +kernel
theorem dX5_init_82 : decode cX5_init 82 = .ok (.aload_n 0, 1) := by decide +kernel
theorem dX5_init_83 : decode cX5_init 83 = .ok (.iconst 0, 1) := by decide +kernel
theorem dX5_init_84 : decode cX5_init 84 = .ok (.putfield 34, 3) := by decide +kernel
theorem dX5_init_87 : decode cX5_init 87 = .ok (.aload_n 0, 1) := by decide +kernel
theorem dX5_init_88 : decode cX5_init 88 = .ok (.iconst 0, 1) := by decide +kernel
theorem dX5_init_89 : decode cX5_init 89 = .ok (.putfield 38, 3) := by decide +kernel
theorem dX5_init_92 : decode cX5_init 92 = .ok (.aload_n 0, 1) := by decide +kernel
theorem dX5_init_93 : decode cX5_init 93 = .ok (.iconst 0, 1) := by decide +kernel
theorem dX5_init_94 : decode cX5_init 94 = .ok (.putfield 41, 3) := by decide +kernel
theorem dX5_init_97 : decode cX5_init 97 = .ok (.return_, 1) := by decide +kernel
theorem dX5_settle_0 : decode cX5_settle 0 = .ok (.aload_n 0, 1) := by decide +kernel
theorem dX5_settle_1 : decode cX5_settle 1 = .ok (.iload_n 3, 1) := by decide +kernel
theorem dX5_settle_2 : decode cX5_settle 2 = .ok (.iconst 1, 1) := by decide +kernel
theorem dX5_settle_3 : decode cX5_settle 3 = .ok (.iadd, 1) := by decide +kernel
theorem dX5_settle_4 : decode cX5_settle 4 = .ok (.bipush 6, 2) := by decide +kernel
theorem dX5_settle_6 : decode cX5_settle 6 = .ok (.idiv, 1) := by decide +kernel
theorem dX5_settle_7 : decode cX5_settle 7 = .ok (.putfield 34, 3) := by decide +kernel
theorem dX5_settle_10 : decode cX5_settle 10 = .ok (.iconst 0, 1) := by decide +kernel
theorem dX5_settle_11 : decode cX5_settle 11 = .ok (.istore 4, 2) := by decide +kernel
theorem dX5_settle_13 : decode cX5_settle 13 = .ok (.iload 4, 2) := by decide +kernel
theorem dX5_settle_15 : decode cX5_settle 15 = .ok (.aload_n 0, 1) := by decide +kernel
theorem dX5_settle_16 : decode cX5_settle 16 = .ok (.getfield 34, 3) := by decide +kernel
theorem dX5_settle_19 : decode cX5_settle 19 = .ok (.if_icmp .ge 50, 3) := by decide +kernel
theorem dX5_settle_22 : decode cX5_settle 22 = .ok (.aload_n 0, 1) := by decide +kernel
theorem dX5_settle_23 : decode cX5_settle 23 = .ok (.getfield 11, 3) := by decide +kernel
theorem dX5_settle_26 : decode cX5_settle 26 = .ok (.iload 4, 2) := by decide +kernel
theorem dX5_settle_28 : decode cX5_settle 28 = .ok (.aaload, 1) := by decide +kernel
theorem dX5_settle_29 : decode cX5_settle 29 = .ok (.aload_n 1, 1) := by decide +kernel
theorem dX5_settle_30 : decode cX5_settle 30 = .ok (.iload_n 2, 1) := by decide +kernel
theorem dX5_settle_31 : decode cX5_settle 31 = .ok (.bipush 6, 2) := by decide +kernel
theorem dX5_settle_33 : decode cX5_settle 33 = .ok (.iload 4, 2) := by decide +kernel
theorem dX5_settle_35 : decode cX5_settle 35 = .ok (.imul, 1) := by decide +kernel
theorem dX5_settle_36 : decode cX5_settle 36 = .ok (.iadd, 1) := by decide +kernel
theorem dX5_settle_37 : decode cX5_settle 37 = .ok (.invokevirtual 46, 3) := by decide +kernel
theorem dX5_settle_40 : decode cX5_settle 40 = .ok (.aload_n 0, 1) := by decide +kernel
theorem dX5_settle_41 : decode cX5_settle 41 = .ok (.getfield 11, 3) := by decide +kernel
theorem dX5_settle_44 : decode cX5_settle 44 = .ok (.iload 4, 2) := by decide +kernel
theorem dX5_settle_46 : decode cX5_settle 46 = .ok (.aaload, 1) := by decide +kernel
theorem dX5_settle_47 : decode cX5_settle 47 = .ok (.getfield 50, 3) := by decide +kernel
theorem dX5_settle_50 : decode cX5_settle 50 = .ok (.iconst 0, 1) := by decide +kernel
theorem dX5_settle_51 : decode cX5_settle 51 = .ok (.aload_n 0, 1) := by decide +kernel
theorem dX5_settle_52 : decode cX5_settle 52 = .ok (.getfield 25, 3) := by decide +kernel
theorem dX5_settle_55 : decode cX5_settle 55 = .ok (.iconst 3, 1) := by decide +kernel
theorem dX5_settle_56 : decode cX5_settle 56 = .ok (.iload 4, 2) := by decide +kernel
theorem dX5_settle_58 : decode cX5_settle 58 = .ok (.imul, 1) := by decide +kernel
theorem dX5_settle_59 : decode cX5_settle 59 = .ok (.iconst 3, 1) := by decide +kernel
theorem dX5_settle_60 : decode cX5_settle 60 = .ok (.invokestatic 53, 3) := by decide +kernel
theorem dX5_settle_63 : decode cX5_settle 63 = .ok (.iinc 4 1, 3) := by decide +kernel
theorem dX5_settle_66 : decode cX5_settle 66 = .ok (.goto (-53), 3) := by decide +kernel
theorem dX5_settle_69 : decode cX5_settle 69 = .ok (.iconst 0, 1) := by decide +kernel
theorem dX5_settle_70 : decode cX5_settle 70 = .ok (.istore 4, 2) := by decide +kernel
theorem dX5_settle_72 : decode cX5_settle 72 = .ok (.iload 4, 2) := by decide +kernel
theorem dX5_settle_74 : decode cX5_settle 74 = .ok (.bipush 60, 2) := by decide +kernel
theorem dX5_settle_76 : decode cX5_settle 76 = .ok (.if_icmp .ge 25, 3) := by decide +kernel
theorem dX5_settle_79 : decode cX5_settle 79 = .ok (.aload_n 0, 1) := by decide +kernel
theorem dX5_settle_80 : decode cX5_settle 80 = .ok (.getfield 18, 3) := by decide +kernel
theorem dX5_settle_83 : decode cX5_settle 83 = .ok (.iload 4, 2) := by decide +kernel
theorem dX5_settle_85 : decode cX5_settle 85 = .ok (.iconst 0, 1) := by decide +kernel
theorem dX5_settle_86 : decode cX5_settle 86 = .ok (.iastore, 1) := by decide +kernel
theorem dX5_settle_87 : decode cX5_settle 87 = .ok (.aload_n 0, 1) := by decide +kernel
theorem dX5_settle_88 : decode cX5_settle 88 = .ok (.getfield 22, 3) := by decide +kernel
theorem dX5_settle_91 : decode cX5_settle 91 = .ok (.iload 4, 2) := by decide +kernel
theorem dX5_settle_93 : decode cX5_settle 93 = .ok (.iconst 0, 1) := by decide +kernel
theorem dX5_settle_94 : decode cX5_settle 94 = .ok (.iastore, 1) := by decide +kernel
theorem dX5_settle_95 : decode cX5_settle 95 = .ok (.iinc 4 1, 3) := by decide +kernel
theorem dX5_settle_98 : decode cX5_settle 98 = .ok (.goto (-26), 3) := by decide +kernel
theorem dX5_settle_101 : decode cX5_settle 101 = .ok (.aload_n 0, 1) := by decide +kernel
theorem dX5_settle_102 : decode cX5_settle 102 = .ok (.iconst 0, 1) := by decide +kernel
theorem dX5_settle_103 : decode cX5_settle 103 = .ok (.putfield 38, 3) := by decide +kernel
theorem dX5_settle_106 : decode cX5_settle 106 = .ok (.aload_n 0, 1) := by decide +kernel
theorem dX5_settle_107 : decode cX5_settle 107 = .ok (.iconst 0, 1) := by decide +kernel
theorem dX5_settle_108 : decode cX5_settle 108 = .ok (.putfield 41, 3) := by decide +kernel
theorem dX5_settle_111 : decode cX5_settle 111 = .ok (.return_, 1) := by decide +kernel
theorem dX5_forgetFrom_0 : decode cX5_forgetFrom 0 = .ok (.aload_n 0, 1) := by decide +kernel
theorem dX5_forgetFrom_1 : decode cX5_forgetFrom 1 = .ok (.aload_n 0, 1) := by decide +kernel
theorem dX5_forgetFrom_2 : decode cX5_forgetFrom 2 = .ok (.getfield 41, 3) := by decide +kernel
theorem dX5_forgetFrom_5 : decode cX5_forgetFrom 5 = .ok (.iload_n 1, 1) := by decide +kernel
theorem dX5_forgetFrom_6 : decode cX5_forgetFrom 6 = .ok (.invokestatic 59, 3) := by decide +kernel
theorem dX5_forgetFrom_9 : decode cX5_forgetFrom 9 = .ok (.putfield 41, 3) := by decide +kernel
theorem dX5_forgetFrom_12 : decode cX5_forgetFrom 12 = .ok (.return_, 1) := by decide +kernel
theorem dX5_letRain_0 : decode cX5_letRain 0 = .ok (.aload_n 0, 1) := by decide +kernel
theorem dX5_letRain_1 : decode cX5_letRain 1 = .ok (.getfield 18, 3) := by decide +kernel
theorem dX5_letRain_4 : decode cX5_letRain 4 = .ok (.iload_n 1, 1) := by decide +kernel
theorem dX5_letRain_5 : decode cX5_letRain 5 = .ok (.iload_n 2, 1) := by decide +kernel
theorem dX5_letRain_6 : decode cX5_letRain 6 = .ok (.iastore, 1) := by decide +kernel
theorem dX5_letRain_7 : decode cX5_letRain 7 = .ok (.aload_n 0, 1) := by decide +kernel
theorem dX5_letRain_8 : decode cX5_letRain 8 = .ok (.iload_n 1, 1) := by decide +kernel
theorem dX5_letRain_9 : decode cX5_letRain 9 = .ok (.invokevirtual 65, 3) := by decide +kernel
theorem dX5_letRain_12 : decode cX5_letRain 12 = .ok (.return_, 1) := by decide +kernel
theorem dX5_workOut_0 : decode cX5_workOut 0 = .ok (.aload_n 0, 1) := by decide +kernel
theorem dX5_workOut_1 : decode cX5_workOut 1 = .ok (.getfield 41, 3) := by decide +kernel
theorem dX5_workOut_4 : decode cX5_workOut 4 = .ok (.istore_n 2, 1) := by decide +kernel
theorem dX5_workOut_5 : decode cX5_workOut 5 = .ok (.iload_n 2, 1) := by decide +kernel
theorem dX5_workOut_6 : decode cX5_workOut 6 = .ok (.iload_n 1, 1) := by decide +kernel
theorem dX5_workOut_7 : decode cX5_workOut 7 = .ok (.if_icmp .ge 65, 3) := by decide +kernel
theorem dX5_workOut_10 : decode cX5_workOut 10 = .ok (.aload_n 0, 1) := by decide +kernel
theorem dX5_workOut_11 : decode cX5_workOut 11 = .ok (.getfield 25, 3) := by decide +kernel
theorem dX5_workOut_14 : decode cX5_workOut 14 = .ok (.iload_n 2, 1) := by decide +kernel
theorem dX5_workOut_15 : decode cX5_workOut 15 = .ok (.bipush 21, 2) := by decide +kernel
theorem dX5_workOut_17 : decode cX5_workOut 17 = .ok (.imul, 1) := by decide +kernel
theorem dX5_workOut_18 : decode cX5_workOut 18 = .ok (.aload_n 0, 1) := by decide +kernel
theorem dX5_workOut_19 : decode cX5_workOut 19 = .ok (.getfield 25, 3) := by decide +kernel
theorem dX5_workOut_22 : decode cX5_workOut 22 = .ok (.iload_n 2, 1) := by decide +kernel
theorem dX5_workOut_23 : decode cX5_workOut 23 = .ok (.iconst 1, 1) := by decide +kernel
theorem dX5_workOut_24 : decode cX5_workOut 24 = .ok (.iadd, 1) := by decide +kernel
theorem dX5_workOut_25 : decode cX5_workOut 25 = .ok (.bipush 21, 2) := by decide +kernel
theorem dX5_workOut_27 : decode cX5_workOut 27 = .ok (.imul, 1) := by decide +kernel
theorem dX5_workOut_28 : decode cX5_workOut 28 = .ok (.bipush 21, 2) := by decide +kernel
theorem dX5_workOut_30 : decode cX5_workOut 30 = .ok (.invokestatic 53, 3) := by decide +kernel
theorem dX5_workOut_33 : decode cX5_workOut 33 = .ok (.aload_n 0, 1) := by decide +kernel
theorem dX5_workOut_34 : decode cX5_workOut 34 = .ok (.getfield 28, 3) := by decide +kernel
theorem dX5_workOut_37 : decode cX5_workOut 37 = .ok (.iload_n 2, 1) := by decide +kernel
theorem dX5_workOut_38 : decode cX5_workOut 38 = .ok (.bipush 7, 2) := by decide +kernel
theorem dX5_workOut_40 : decode cX5_workOut 40 = .ok (.imul, 1) := by decide +kernel
theorem dX5_workOut_41 : decode cX5_workOut 41 = .ok (.aload_n 0, 1) := by decide +kernel
theorem dX5_workOut_42 : decode cX5_workOut 42 = .ok (.getfield 28, 3) := by decide +kernel
theorem dX5_workOut_45 : decode cX5_workOut 45 = .ok (.iload_n 2, 1) := by decide +kernel
theorem dX5_workOut_46 : decode cX5_workOut 46 = .ok (.iconst 1, 1) := by decide +kernel
theorem dX5_workOut_47 : decode cX5_workOut 47 = .ok (.iadd, 1) := by decide +kernel
theorem dX5_workOut_48 : decode cX5_workOut 48 = .ok (.bipush 7, 2) := by decide +kernel
theorem dX5_workOut_50 : decode cX5_workOut 50 = .ok (.imul, 1) := by decide +kernel
theorem dX5_workOut_51 : decode cX5_workOut 51 = .ok (.bipush 7, 2) := by decide +kernel
theorem dX5_workOut_53 : decode cX5_workOut 53 = .ok (.invokestatic 53, 3) := by decide +kernel
theorem dX5_workOut_56 : decode cX5_workOut 56 = .ok (.aload_n 0, 1) := by decide +kernel
theorem dX5_workOut_57 : decode cX5_workOut 57 = .ok (.iload_n 2, 1) := by decide +kernel
theorem dX5_workOut_58 : decode cX5_workOut 58 = .ok (.invokevirtual 69, 3) := by decide +kernel
theorem dX5_workOut_61 : decode cX5_workOut 61 = .ok (.aload_n 0, 1) := by decide +kernel
theorem dX5_workOut_62 : decode cX5_workOut 62 = .ok (.iload_n 2, 1) := by decide +kernel
theorem dX5_workOut_63 : decode cX5_workOut 63 = .ok (.invokevirtual 72, 3) := by decide +kernel
theorem dX5_workOut_66 : decode cX5_workOut 66 = .ok (.iinc 2 1, 3) := by decide +kernel
theorem dX5_workOut_69 : decode cX5_workOut 69 = .ok (.goto (-64), 3) := by decide +kernel
theorem dX5_workOut_72 : decode cX5_workOut 72 = .ok (.aload_n 0, 1) := by decide +kernel
theorem dX5_workOut_73 : decode cX5_workOut 73 = .ok (.aload_n 0, 1) := by decide +kernel
theorem dX5_workOut_74 : decode cX5_workOut 74 = .ok (.getfield 41, 3) := by decide +kernel
theorem dX5_workOut_77 : decode cX5_workOut 77 = .ok (.iload_n 1, 1) := by decide +kernel
theorem dX5_workOut_78 : decode cX5_workOut 78 = .ok (.invokestatic 75, 3) := by decide +kernel
theorem dX5_workOut_81 : decode cX5_workOut 81 = .ok (.putfield 41, 3) := by decide +kernel
theorem dX5_workOut_84 : decode cX5_workOut 84 = .ok (.return_, 1) := by decide +kernel
theorem dX5_pour_0 : decode cX5_pour 0 = .ok (.aload_n 0, 1) := by decide +kernel
theorem dX5_pour_1 : decode cX5_pour 1 = .ok (.getfield 18, 3) := by decide +kernel
theorem dX5_pour_4 : decode cX5_pour 4 = .ok (.iload_n 1, 1) := by decide +kernel
theorem dX5_pour_5 : decode cX5_pour 5 = .ok (.iaload, 1) := by decide +kernel
theorem dX5_pour_6 : decode cX5_pour 6 = .ok (.ifCond .ne 4, 3) := by decide +kernel
theorem dX5_pour_9 : decode cX5_pour 9 = .ok (.return_, 1) := by decide +kernel
theorem dX5_pour_10 : decode cX5_pour 10 = .ok (.iconst 0, 1) := by decide +kernel
theorem dX5_pour_11 : decode cX5_pour 11 = .ok (.istore_n 2, 1) := by decide +kernel
theorem dX5_pour_12 : decode cX5_pour 12 = .ok (.iload_n 2, 1) := by decide +kernel
theorem dX5_pour_13 : decode cX5_pour 13 = .ok (.aload_n 0, 1) := by decide +kernel
theorem dX5_pour_14 : decode cX5_pour 14 = .ok (.getfield 34, 3) := by decide +kernel
theorem dX5_pour_17 : decode cX5_pour 17 = .ok (.if_icmp .ge 92, 3) := by decide +kernel
theorem dX5_pour_20 : decode cX5_pour 20 = .ok (.aload_n 0, 1) := by decide +kernel
theorem dX5_pour_21 : decode cX5_pour 21 = .ok (.getfield 11, 3) := by decide +kernel
theorem dX5_pour_24 : decode cX5_pour 24 = .ok (.iload_n 2, 1) := by decide +kernel
theorem dX5_pour_25 : decode cX5_pour 25 = .ok (.aaload, 1) := by decide +kernel
theorem dX5_pour_26 : decode cX5_pour 26 = .ok (.astore_n 3, 1) := by decide +kernel
theorem dX5_pour_27 : decode cX5_pour 27 = .ok (.iconst 0, 1) := by decide +kernel
theorem dX5_pour_28 : decode cX5_pour 28 = .ok (.istore 4, 2) := by decide +kernel
theorem dX5_pour_30 : decode cX5_pour 30 = .ok (.iload 4, 2) := by decide +kernel
theorem dX5_pour_32 : decode cX5_pour 32 = .ok (.iconst 3, 1) := by decide +kernel
theorem dX5_pour_33 : decode cX5_pour 33 = .ok (.if_icmp .ge 70, 3) := by decide +kernel
theorem dX5_pour_36 : decode cX5_pour 36 = .ok (.iload_n 2, 1) := by decide +kernel
theorem dX5_pour_37 : decode cX5_pour 37 = .ok (.iload 4, 2) := by decide +kernel
theorem dX5_pour_39 : decode cX5_pour 39 = .ok (.iload_n 1, 1) := by decide +kernel
theorem dX5_pour_40 : decode cX5_pour 40 = .ok (.iconst 1, 1) := by decide +kernel
theorem dX5_pour_41 : decode cX5_pour 41 = .ok (.iadd, 1) := by decide +kernel
theorem dX5_pour_42 : decode cX5_pour 42 = .ok (.invokestatic 78, 3) := by decide +kernel
theorem dX5_pour_45 : decode cX5_pour 45 = .ok (.istore 5, 2) := by decide +kernel
theorem dX5_pour_47 : decode cX5_pour 47 = .ok (.aload_n 3, 1) := by decide +kernel
theorem dX5_pour_48 : decode cX5_pour 48 = .ok (.iload 4, 2) := by decide +kernel
theorem dX5_pour_50 : decode cX5_pour 50 = .ok (.aload_n 0, 1) := by decide +kernel
theorem dX5_pour_51 : decode cX5_pour 51 = .ok (.getfield 18, 3) := by decide +kernel
theorem dX5_pour_54 : decode cX5_pour 54 = .ok (.iload_n 1, 1) := by decide +kernel
theorem dX5_pour_55 : decode cX5_pour 55 = .ok (.iaload, 1) := by decide +kernel
theorem dX5_pour_56 : decode cX5_pour 56 = .ok (.aload_n 0, 1) := by decide +kernel
theorem dX5_pour_57 : decode cX5_pour 57 = .ok (.getfield 22, 3) := by decide +kernel
theorem dX5_pour_60 : decode cX5_pour 60 = .ok (.iload_n 1, 1) := by decide +kernel
theorem dX5_pour_61 : decode cX5_pour 61 = .ok (.iaload, 1) := by decide +kernel
theorem dX5_pour_62 : decode cX5_pour 62 = .ok (.aload_n 3, 1) := by decide +kernel
theorem dX5_pour_63 : decode cX5_pour 63 = .ok (.getfield 82, 3) := by decide +kernel
theorem dX5_pour_66 : decode cX5_pour 66 = .ok (.aload_n 3, 1) := by decide +kernel
theorem dX5_pour_67 : decode cX5_pour 67 = .ok (.getfield 85, 3) := by decide +kernel
theorem dX5_pour_70 : decode cX5_pour 70 = .ok (.invokevirtual 88, 3) := by decide +kernel
theorem dX5_pour_73 : decode cX5_pour 73 = .ok (.istore 6, 2) := by decide +kernel
theorem dX5_pour_75 : decode cX5_pour 75 = .ok (.aload_n 0, 1) := by decide +kernel
theorem dX5_pour_76 : decode cX5_pour 76 = .ok (.getfield 25, 3) := by decide +kernel
theorem dX5_pour_79 : decode cX5_pour 79 = .ok (.iload 5, 2) := by decide +kernel
theorem dX5_pour_81 : decode cX5_pour 81 = .ok (.dup2, 1) := by decide +kernel
theorem dX5_pour_82 : decode cX5_pour 82 = .ok (.iaload, 1) := by decide +kernel
theorem dX5_pour_83 : decode cX5_pour 83 = .ok (.iload 6, 2) := by decide +kernel
theorem dX5_pour_85 : decode cX5_pour 85 = .ok (.aload_n 0, 1) := by decide +kernel
theorem dX5_pour_86 : decode cX5_pour 86 = .ok (.getfield 25, 3) := by decide +kernel
theorem dX5_pour_89 : decode cX5_pour 89 = .ok (.iload 5, 2) := by decide +kernel
theorem dX5_pour_91 : decode cX5_pour 91 = .ok (.iaload, 1) := by decide +kernel
theorem dX5_pour_92 : decode cX5_pour 92 = .ok (.invokestatic 59, 3) := by decide +kernel
theorem dX5_pour_95 : decode cX5_pour 95 = .ok (.isub, 1) := by decide +kernel
theorem dX5_pour_96 : decode cX5_pour 96 = .ok (.iastore, 1) := by decide +kernel
theorem dX5_pour_97 : decode cX5_pour 97 = .ok (.iinc 4 1, 3) := by decide +kernel
theorem dX5_pour_100 : decode cX5_pour 100 = .ok (.goto (-70), 3) := by decide +kernel
theorem dX5_pour_103 : decode cX5_pour 103 = .ok (.iinc 2 1, 3) := by decide +kernel
theorem dX5_pour_106 : decode cX5_pour 106 = .ok (.goto (-94), 3) := by decide +kernel
theorem dX5_pour_109 : decode cX5_pour 109 = .ok (.return_, 1) := by decide +kernel
theorem dX5_graze_0 : decode cX5_graze 0 = .ok (.aload_n 0, 1) := by decide +kernel
theorem dX5_graze_1 : decode cX5_graze 1 = .ok (.getfield 31, 3) := by decide +kernel
theorem dX5_graze_4 : decode cX5_graze 4 = .ok (.iload_n 1, 1) := by decide +kernel
theorem dX5_graze_5 : decode cX5_graze 5 = .ok (.bipush (-9), 2) := by decide +kernel
theorem dX5_graze_7 : decode cX5_graze 7 = .ok (.iastore, 1) := by decide +kernel
theorem dX5_graze_8 : decode cX5_graze 8 = .ok (.iconst 0, 1) := by decide +kernel
theorem dX5_graze_9 : decode cX5_graze 9 = .ok (.istore_n 2, 1) := by decide +kernel
theorem dX5_graze_10 : decode cX5_graze 10 = .ok (.iload_n 2, 1) := by decide +kernel
theorem dX5_graze_11 : decode cX5_graze 11 = .ok (.aload_n 0, 1) := by decide +kernel
theorem dX5_graze_12 : decode cX5_graze 12 = .ok (.getfield 38, 3) := by decide +kernel
theorem dX5_graze_15 : decode cX5_graze 15 = .ok (.if_icmp .ge 88, 3) := by decide +kernel
theorem dX5_graze_18 : decode cX5_graze 18 = .ok (.aload_n 0, 1) := by decide +kernel
theorem dX5_graze_19 : decode cX5_graze 19 = .ok (.iload_n 1, 1) := by decide +kernel
theorem dX5_graze_20 : decode cX5_graze 20 = .ok (.iconst 1, 1) := by decide +kernel
theorem dX5_graze_21 : decode cX5_graze 21 = .ok (.iadd, 1) := by decide +kernel
theorem dX5_graze_22 : decode cX5_graze 22 = .ok (.invokevirtual 92, 3) := by decide +kernel
theorem dX5_graze_25 : decode cX5_graze 25 = .ok (.istore_n 3, 1) := by decide +kernel
theorem dX5_graze_26 : decode cX5_graze 26 = .ok (.iload_n 2, 1) := by decide +kernel
theorem dX5_graze_27 : decode cX5_graze 27 = .ok (.ifCond .ne 10, 3) := by decide +kernel
theorem dX5_graze_30 : decode cX5_graze 30 = .ok (.aload_n 0, 1) := by decide +kernel
theorem dX5_graze_31 : decode cX5_graze 31 = .ok (.getfield 31, 3) := by decide +kernel
theorem dX5_graze_34 : decode cX5_graze 34 = .ok (.iload_n 1, 1) := by decide +kernel
theorem dX5_graze_35 : decode cX5_graze 35 = .ok (.iload_n 3, 1) := by decide +kernel
theorem dX5_graze_36 : decode cX5_graze 36 = .ok (.iastore, 1) := by decide +kernel
theorem dX5_graze_37 : decode cX5_graze 37 = .ok (.iload_n 3, 1) := by decide +kernel
theorem dX5_graze_38 : decode cX5_graze 38 = .ok (.bipush (-9), 2) := by decide +kernel
theorem dX5_graze_40 : decode cX5_graze 40 = .ok (.if_icmp .ne 4, 3) := by decide +kernel
theorem dX5_graze_43 : decode cX5_graze 43 = .ok (.return_, 1) := by decide +kernel
theorem dX5_graze_44 : decode cX5_graze 44 = .ok (.iload_n 3, 1) := by decide +kernel
theorem dX5_graze_45 : decode cX5_graze 45 = .ok (.iconst 2, 1) := by decide +kernel
theorem dX5_graze_46 : decode cX5_graze 46 = .ok (.iload_n 1, 1) := by decide +kernel
theorem dX5_graze_47 : decode cX5_graze 47 = .ok (.iconst 1, 1) := by decide +kernel
theorem dX5_graze_48 : decode cX5_graze 48 = .ok (.iadd, 1) := by decide +kernel
theorem dX5_graze_49 : decode cX5_graze 49 = .ok (.invokestatic 78, 3) := by decide +kernel
theorem dX5_graze_52 : decode cX5_graze 52 = .ok (.istore 4, 2) := by decide +kernel
theorem dX5_graze_54 : decode cX5_graze 54 = .ok (.iconst 2, 1) := by decide +kernel
theorem dX5_graze_55 : decode cX5_graze 55 = .ok (.aload_n 0, 1) := by decide +kernel
theorem dX5_graze_56 : decode cX5_graze 56 = .ok (.getfield 25, 3) := by decide +kernel
theorem dX5_graze_59 : decode cX5_graze 59 = .ok (.iload 4, 2) := by decide +kernel
theorem dX5_graze_61 : decode cX5_graze 61 = .ok (.iaload, 1) := by decide +kernel
theorem dX5_graze_62 : decode cX5_graze 62 = .ok (.invokestatic 59, 3) := by decide +kernel
theorem dX5_graze_65 : decode cX5_graze 65 = .ok (.istore 5, 2) := by decide +kernel
theorem dX5_graze_67 : decode cX5_graze 67 = .ok (.aload_n 0, 1) := by decide +kernel
theorem dX5_graze_68 : decode cX5_graze 68 = .ok (.getfield 25, 3) := by decide +kernel
theorem dX5_graze_71 : decode cX5_graze 71 = .ok (.iload 4, 2) := by decide +kernel
theorem dX5_graze_73 : decode cX5_graze 73 = .ok (.dup2, 1) := by decide +kernel
theorem dX5_graze_74 : decode cX5_graze 74 = .ok (.iaload, 1) := by decide +kernel
theorem dX5_graze_75 : decode cX5_graze 75 = .ok (.iload 5, 2) := by decide +kernel
theorem dX5_graze_77 : decode cX5_graze 77 = .ok (.isub, 1) := by decide +kernel
theorem dX5_graze_78 : decode cX5_graze 78 = .ok (.iastore, 1) := by decide +kernel
theorem dX5_graze_79 : decode cX5_graze 79 = .ok (.aload_n 0, 1) := by decide +kernel
theorem dX5_graze_80 : decode cX5_graze 80 = .ok (.getfield 28, 3) := by decide +kernel
theorem dX5_graze_83 : decode cX5_graze 83 = .ok (.iload_n 1, 1) := by decide +kernel
theorem dX5_graze_84 : decode cX5_graze 84 = .ok (.iconst 1, 1) := by decide +kernel
theorem dX5_graze_85 : decode cX5_graze 85 = .ok (.iadd, 1) := by decide +kernel
theorem dX5_graze_86 : decode cX5_graze 86 = .ok (.bipush 7, 2) := by decide +kernel
theorem dX5_graze_88 : decode cX5_graze 88 = .ok (.imul, 1) := by decide +kernel
theorem dX5_graze_89 : decode cX5_graze 89 = .ok (.iload_n 3, 1) := by decide +kernel
theorem dX5_graze_90 : decode cX5_graze 90 = .ok (.iadd, 1) := by decide +kernel
theorem dX5_graze_91 : decode cX5_graze 91 = .ok (.dup2, 1) := by decide +kernel
theorem dX5_graze_92 : decode cX5_graze 92 = .ok (.iaload, 1) := by decide +kernel
theorem dX5_graze_93 : decode cX5_graze 93 = .ok (.iload 5, 2) := by decide +kernel
theorem dX5_graze_95 : decode cX5_graze 95 = .ok (.iadd, 1) := by decide +kernel
theorem dX5_graze_96 : decode cX5_graze 96 = .ok (.iastore, 1) := by decide +kernel
theorem dX5_graze_97 : decode cX5_graze 97 = .ok (.iinc 2 1, 3) := by decide +kernel
theorem dX5_graze_100 : decode cX5_graze 100 = .ok (.goto (-90), 3) := by decide +kernel
theorem dX5_graze_103 : decode cX5_graze 103 = .ok (.return_, 1) := by decide +kernel
theorem dX5_likedBest_0 : decode cX5_likedBest 0 = .ok (.bipush (-9), 2) := by decide +kernel
theorem dX5_likedBest_2 : decode cX5_likedBest 2 = .ok (.istore_n 2, 1) := by decide +kernel
theorem dX5_likedBest_3 : decode cX5_likedBest 3 = .ok (.iconst 0, 1) := by decide +kernel
theorem dX5_likedBest_4 : decode cX5_likedBest 4 = .ok (.istore_n 3, 1) := by decide +kernel
theorem dX5_likedBest_5 : decode cX5_likedBest 5 = .ok (.iconst 0, 1) := by decide +kernel
theorem dX5_likedBest_6 : decode cX5_likedBest 6 = .ok (.istore 4, 2) := by decide +kernel
theorem dX5_likedBest_8 : decode cX5_likedBest 8 = .ok (.iload 4, 2) := by decide +kernel
theorem dX5_likedBest_10 : decode cX5_likedBest 10 = .ok (.aload_n 0, 1) := by decide +kernel
theorem dX5_likedBest_11 : decode cX5_likedBest 11 = .ok (.getfield 34, 3) := by decide +kernel
theorem dX5_likedBest_14 : decode cX5_likedBest 14 = .ok (.if_icmp .ge 50, 3) := by decide +kernel
theorem dX5_likedBest_17 : decode cX5_likedBest 17 = .ok (.aload_n 0, 1) := by decide +kernel
theorem dX5_likedBest_18 : decode cX5_likedBest 18 = .ok (.getfield 25, 3) := by decide +kernel
theorem dX5_likedBest_21 : decode cX5_likedBest 21 = .ok (.iload 4, 2) := by decide +kernel
theorem dX5_likedBest_23 : decode cX5_likedBest 23 = .ok (.iconst 2, 1) := by decide +kernel
theorem dX5_likedBest_24 : decode cX5_likedBest 24 = .ok (.iload_n 1, 1) := by decide +kernel
theorem dX5_likedBest_25 : decode cX5_likedBest 25 = .ok (.invokestatic 78, 3) := by decide +kernel
theorem dX5_likedBest_28 : decode cX5_likedBest 28 = .ok (.iaload, 1) := by decide +kernel
theorem dX5_likedBest_29 : decode cX5_likedBest 29 = .ok (.istore 5, 2) := by decide +kernel
theorem dX5_likedBest_31 : decode cX5_likedBest 31 = .ok (.iload 5, 2) := by decide +kernel
theorem dX5_likedBest_33 : decode cX5_likedBest 33 = .ok (.iload_n 3, 1) := by decide +kernel
theorem dX5_likedBest_34 : decode cX5_likedBest 34 = .ok (.if_icmp .le 24, 3) := by decide +kernel
theorem dX5_likedBest_37 : decode cX5_likedBest 37 = .ok (.aload_n 0, 1) := by decide +kernel
theorem dX5_likedBest_38 : decode cX5_likedBest 38 = .ok (.getfield 11, 3) := by decide +kernel
theorem dX5_likedBest_41 : decode cX5_likedBest 41 = .ok (.iload 4, 2) := by decide +kernel
theorem dX5_likedBest_43 : decode cX5_likedBest 43 = .ok (.aaload, 1) := by decide +kernel
theorem dX5_likedBest_44 : decode cX5_likedBest 44 = .ok (.iload 5, 2) := by decide +kernel
theorem dX5_likedBest_46 : decode cX5_likedBest 46 = .ok (.invokevirtual 96, 3) := by decide +kernel
theorem dX5_likedBest_49 : decode cX5_likedBest 49 = .ok (.ifCond .eq 9, 3) := by decide +kernel
theorem dX5_likedBest_52 : decode cX5_likedBest 52 = .ok (.iload 4, 2) := by decide +kernel
theorem dX5_likedBest_54 : decode cX5_likedBest 54 = .ok (.istore_n 2, 1) := by decide +kernel
theorem dX5_likedBest_55 : decode cX5_likedBest 55 = .ok (.iload 5, 2) := by decide +kernel
theorem dX5_likedBest_57 : decode cX5_likedBest 57 = .ok (.istore_n 3, 1) := by decide +kernel
theorem dX5_likedBest_58 : decode cX5_likedBest 58 = .ok (.iinc 4 1, 3) := by decide +kernel
theorem dX5_likedBest_61 : decode cX5_likedBest 61 = .ok (.goto (-53), 3) := by decide +kernel
theorem dX5_likedBest_64 : decode cX5_likedBest 64 = .ok (.iload_n 2, 1) := by decide +kernel
theorem dX5_likedBest_65 : decode cX5_likedBest 65 = .ok (.ireturn, 1) := by decide +kernel
theorem dX5_placeOf_0 : decode cX5_placeOf 0 = .ok (.iload_n 2, 1) := by decide +kernel
theorem dX5_placeOf_1 : decode cX5_placeOf 1 = .ok (.bipush 21, 2) := by decide +kernel
theorem dX5_placeOf_3 : decode cX5_placeOf 3 = .ok (.imul, 1) := by decide +kernel
theorem dX5_placeOf_4 : decode cX5_placeOf 4 = .ok (.iload_n 0, 1) := by decide +kernel
theorem dX5_placeOf_5 : decode cX5_placeOf 5 = .ok (.iconst 3, 1) := by decide +kernel
theorem dX5_placeOf_6 : decode cX5_placeOf 6 = .ok (.imul, 1) := by decide +kernel
theorem dX5_placeOf_7 : decode cX5_placeOf 7 = .ok (.iadd, 1) := by decide +kernel
theorem dX5_placeOf_8 : decode cX5_placeOf 8 = .ok (.iload_n 1, 1) := by decide +kernel
theorem dX5_placeOf_9 : decode cX5_placeOf 9 = .ok (.iadd, 1) := by decide +kernel
theorem dX5_placeOf_10 : decode cX5_placeOf 10 = .ok (.ireturn, 1) := by decide +kernel
theorem dX5_leftOfPart_0 : decode cX5_leftOfPart 0 = .ok (.aload_n 0, 1) := by decide +kernel
theorem dX5_leftOfPart_1 : decode cX5_leftOfPart 1 = .ok (.iload_n 3, 1) := by decide +kernel
theorem dX5_leftOfPart_2 : decode cX5_leftOfPart 2 = .ok (.invokevirtual 100, 3) := by decide +kernel
theorem dX5_leftOfPart_5 : decode cX5_leftOfPart 5 = .ok (.aload_n 0, 1) := by decide +kernel
theorem dX5_leftOfPart_6 : decode cX5_leftOfPart 6 = .ok (.getfield 25, 3) := by decide +kernel
theorem dX5_leftOfPart_9 : decode cX5_leftOfPart 9 = .ok (.iload_n 1, 1) := by decide +kernel
theorem dX5_leftOfPart_10 : decode cX5_leftOfPart 10 = .ok (.iload_n 2, 1) := by decide +kernel
theorem dX5_leftOfPart_11 : decode cX5_leftOfPart 11 = .ok (.iload_n 3, 1) := by decide +kernel
theorem dX5_leftOfPart_12 : decode cX5_leftOfPart 12 = .ok (.invokestatic 78, 3) := by decide +kernel
theorem dX5_leftOfPart_15 : decode cX5_leftOfPart 15 = .ok (.iaload, 1) := by decide +kernel
theorem dX5_leftOfPart_16 : decode cX5_leftOfPart 16 = .ok (.ireturn, 1) := by decide +kernel
theorem dX5_leftOf_0 : decode cX5_leftOf 0 = .ok (.aload_n 0, 1) := by decide +kernel
theorem dX5_leftOf_1 : decode cX5_leftOf 1 = .ok (.iload_n 2, 1) := by decide +kernel
theorem dX5_leftOf_2 : decode cX5_leftOf 2 = .ok (.invokevirtual 100, 3) := by decide +kernel
theorem dX5_leftOf_5 : decode cX5_leftOf 5 = .ok (.aload_n 0, 1) := by decide +kernel
theorem dX5_leftOf_6 : decode cX5_leftOf 6 = .ok (.iload_n 1, 1) := by decide +kernel
theorem dX5_leftOf_7 : decode cX5_leftOf 7 = .ok (.iload_n 2, 1) := by decide +kernel
theorem dX5_leftOf_8 : decode cX5_leftOf 8 = .ok (.invokevirtual 103, 3) := by decide +kernel
theorem dX5_leftOf_11 : decode cX5_leftOf 11 = .ok (.ireturn, 1) := by decide +kernel
theorem dX5_sumOf_0 : decode cX5_sumOf 0 = .ok (.aload_n 0, 1) := by decide +kernel
theorem dX5_sumOf_1 : decode cX5_sumOf 1 = .ok (.getfield 25, 3) := by decide +kernel
theorem dX5_sumOf_4 : decode cX5_sumOf 4 = .ok (.iload_n 1, 1) := by decide +kernel
theorem dX5_sumOf_5 : decode cX5_sumOf 5 = .ok (.iconst 0, 1) := by decide +kernel
theorem dX5_sumOf_6 : decode cX5_sumOf 6 = .ok (.iload_n 2, 1) := by decide +kernel
theorem dX5_sumOf_7 : decode cX5_sumOf 7 = .ok (.invokestatic 78, 3) := by decide +kernel
theorem dX5_sumOf_10 : decode cX5_sumOf 10 = .ok (.iaload, 1) := by decide +kernel
theorem dX5_sumOf_11 : decode cX5_sumOf 11 = .ok (.aload_n 0, 1) := by decide +kernel
theorem dX5_sumOf_12 : decode cX5_sumOf 12 = .ok (.getfield 25, 3) := by decide +kernel
theorem dX5_sumOf_15 : decode cX5_sumOf 15 = .ok (.iload_n 1, 1) := by decide +kernel
theorem dX5_sumOf_16 : decode cX5_sumOf 16 = .ok (.iconst 1, 1) := by decide +kernel
theorem dX5_sumOf_17 : decode cX5_sumOf 17 = .ok (.iload_n 2, 1) := by decide +kernel
theorem dX5_sumOf_18 : decode cX5_sumOf 18 = .ok (.invokestatic 78, 3) := by decide +kernel
theorem dX5_sumOf_21 : decode cX5_sumOf 21 = .ok (.iaload, 1) := by decide +kernel
theorem dX5_sumOf_22 : decode cX5_sumOf 22 = .ok (.iadd, 1) := by decide +kernel
theorem dX5_sumOf_23 : decode cX5_sumOf 23 = .ok (.aload_n 0, 1) := by decide +kernel
theorem dX5_sumOf_24 : decode cX5_sumOf 24 = .ok (.getfield 25, 3) := by decide +kernel
theorem dX5_sumOf_27 : decode cX5_sumOf 27 = .ok (.iload_n 1, 1) := by decide +kernel
theorem dX5_sumOf_28 : decode cX5_sumOf 28 = .ok (.iconst 2, 1) := by decide +kernel
theorem dX5_sumOf_29 : decode cX5_sumOf 29 = .ok (.iload_n 2, 1) := by decide +kernel
theorem dX5_sumOf_30 : decode cX5_sumOf 30 = .ok (.invokestatic 78, 3) := by decide +kernel
theorem dX5_sumOf_33 : decode cX5_sumOf 33 = .ok (.iaload, 1) := by decide +kernel
theorem dX5_sumOf_34 : decode cX5_sumOf 34 = .ok (.iadd, 1) := by decide +kernel
theorem dX5_sumOf_35 : decode cX5_sumOf 35 = .ok (.ireturn, 1) := by decide +kernel
theorem dX5_leftOfAll_0 : decode cX5_leftOfAll 0 = .ok (.iconst 0, 1) := by decide +kernel
theorem dX5_leftOfAll_1 : decode cX5_leftOfAll 1 = .ok (.istore_n 2, 1) := by decide +kernel
theorem dX5_leftOfAll_2 : decode cX5_leftOfAll 2 = .ok (.iconst 0, 1) := by decide +kernel
theorem dX5_leftOfAll_3 : decode cX5_leftOfAll 3 = .ok (.istore_n 3, 1) := by decide +kernel
theorem dX5_leftOfAll_4 : decode cX5_leftOfAll 4 = .ok (.iload_n 3, 1) := by decide +kernel
theorem dX5_leftOfAll_5 : decode cX5_leftOfAll 5 = .ok (.aload_n 0, 1) := by decide +kernel
theorem dX5_leftOfAll_6 : decode cX5_leftOfAll 6 = .ok (.getfield 34, 3) := by decide +kernel
theorem dX5_leftOfAll_9 : decode cX5_leftOfAll 9 = .ok (.if_icmp .ge 18, 3) := by decide +kernel
theorem dX5_leftOfAll_12 : decode cX5_leftOfAll 12 = .ok (.iload_n 2, 1) := by decide +kernel
theorem dX5_leftOfAll_13 : decode cX5_leftOfAll 13 = .ok (.aload_n 0, 1) := by decide +kernel
theorem dX5_leftOfAll_14 : decode cX5_leftOfAll 14 = .ok (.iload_n 3, 1) := by decide +kernel
theorem dX5_leftOfAll_15 : decode cX5_leftOfAll 15 = .ok (.iload_n 1, 1) := by decide +kernel
theorem dX5_leftOfAll_16 : decode cX5_leftOfAll 16 = .ok (.invokevirtual 106, 3) := by decide +kernel
theorem dX5_leftOfAll_19 : decode cX5_leftOfAll 19 = .ok (.iadd, 1) := by decide +kernel
theorem dX5_leftOfAll_20 : decode cX5_leftOfAll 20 = .ok (.istore_n 2, 1) := by decide +kernel
theorem dX5_leftOfAll_21 : decode cX5_leftOfAll 21 = .ok (.iinc 3 1, 3) := by decide +kernel
theorem dX5_leftOfAll_24 : decode cX5_leftOfAll 24 = .ok (.goto (-20), 3) := by decide +kernel
theorem dX5_leftOfAll_27 : decode cX5_leftOfAll 27 = .ok (.iload_n 2, 1) := by decide +kernel
theorem dX5_leftOfAll_28 : decode cX5_leftOfAll 28 = .ok (.ireturn, 1) := by decide +kernel
theorem dX5_lickedOff_0 : decode cX5_lickedOff 0 = .ok (.aload_n 0, 1) := by decide +kernel
theorem dX5_lickedOff_1 : decode cX5_lickedOff 1 = .ok (.iload_n 2, 1) := by decide +kernel
theorem dX5_lickedOff_2 : decode cX5_lickedOff 2 = .ok (.invokevirtual 100, 3) := by decide +kernel
theorem dX5_lickedOff_5 : decode cX5_lickedOff 5 = .ok (.aload_n 0, 1) := by decide +kernel
theorem dX5_lickedOff_6 : decode cX5_lickedOff 6 = .ok (.getfield 28, 3) := by decide +kernel
theorem dX5_lickedOff_9 : decode cX5_lickedOff 9 = .ok (.iload_n 2, 1) := by decide +kernel
theorem dX5_lickedOff_10 : decode cX5_lickedOff 10 = .ok (.bipush 7, 2) := by decide +kernel
theorem dX5_lickedOff_12 : decode cX5_lickedOff 12 = .ok (.imul, 1) := by decide +kernel
theorem dX5_lickedOff_13 : decode cX5_lickedOff 13 = .ok (.iload_n 1, 1) := by decide +kernel
theorem dX5_lickedOff_14 : decode cX5_lickedOff 14 = .ok (.iadd, 1) := by decide +kernel
theorem dX5_lickedOff_15 : decode cX5_lickedOff 15 = .ok (.iaload, 1) := by decide +kernel
theorem dX5_lickedOff_16 : decode cX5_lickedOff 16 = .ok (.ireturn, 1) := by decide +kernel
theorem dX5_inPuddle_0 : decode cX5_inPuddle 0 = .ok (.aload_n 0, 1) := by decide +kernel
theorem dX5_inPuddle_1 : decode cX5_inPuddle 1 = .ok (.getfield 11, 3) := by decide +kernel
theorem dX5_inPuddle_4 : decode cX5_inPuddle 4 = .ok (.iload_n 1, 1) := by decide +kernel
theorem dX5_inPuddle_5 : decode cX5_inPuddle 5 = .ok (.aaload, 1) := by decide +kernel
theorem dX5_inPuddle_6 : decode cX5_inPuddle 6 = .ok (.invokevirtual 109, 3) := by decide +kernel
theorem dX5_inPuddle_9 : decode cX5_inPuddle 9 = .ok (.aload_n 0, 1) := by decide +kernel
theorem dX5_inPuddle_10 : decode cX5_inPuddle 10 = .ok (.iload_n 1, 1) := by decide +kernel
theorem dX5_inPuddle_11 : decode cX5_inPuddle 11 = .ok (.iload_n 2, 1) := by decide +kernel
theorem dX5_inPuddle_12 : decode cX5_inPuddle 12 = .ok (.invokevirtual 106, 3) := by decide +kernel
theorem dX5_inPuddle_15 : decode cX5_inPuddle 15 = .ok (.isub, 1) := by decide +kernel
theorem dX5_inPuddle_16 : decode cX5_inPuddle 16 = .ok (.aload_n 0, 1) := by decide +kernel
theorem dX5_inPuddle_17 : decode cX5_inPuddle 17 = .ok (.iload_n 1, 1) := by decide +kernel
theorem dX5_inPuddle_18 : decode cX5_inPuddle 18 = .ok (.iload_n 2, 1) := by decide +kernel
theorem dX5_inPuddle_19 : decode cX5_inPuddle 19 = .ok (.invokevirtual 113, 3) := by decide +kernel
theorem dX5_inPuddle_22 : decode cX5_inPuddle 22 = .ok (.isub, 1) := by decide +kernel
theorem dX5_inPuddle_23 : decode cX5_inPuddle 23 = .ok (.ireturn, 1) := by decide +kernel
theorem dX5_dawnWithoutPart_0 : decode cX5_dawnWithoutPart 0 = .ok (.aload_n 0, 1) := by decide +kernel
theorem dX5_dawnWithoutPart_1 : decode cX5_dawnWithoutPart 1 = .ok (.bipush 60, 2) := by decide +kernel
theorem dX5_dawnWithoutPart_3 : decode cX5_dawnWithoutPart 3 = .ok (.invokevirtual 100, 3) := by decide +kernel
theorem dX5_dawnWithoutPart_6 : decode cX5_dawnWithoutPart 6 = .ok (.iconst 0, 1) := by decide +kernel
theorem dX5_dawnWithoutPart_7 : decode cX5_dawnWithoutPart 7 = .ok (.istore_n 3, 1) := by decide +kernel
theorem dX5_dawnWithoutPart_8 : decode cX5_dawnWithoutPart 8 = .ok (.iload_n 3, 1) := by decide +kernel
theorem dX5_dawnWithoutPart_9 : decode cX5_dawnWithoutPart 9 = .ok (.bipush 60, 2) := by decide +kernel
theorem dX5_dawnWithoutPart_11 : decode cX5_dawnWithoutPart 11 = .ok (.if_icmp .gt 25, 3) := by decide +kernel
theorem dX5_dawnWithoutPart_14 : decode cX5_dawnWithoutPart 14 = .ok (.aload_n 0, 1) := by decide +kernel
theorem dX5_dawnWithoutPart_15 : decode cX5_dawnWithoutPart 15 = .ok (.getfield 25, 3) := by decide +kernel
theorem dX5_dawnWithoutPart_18 : decode cX5_dawnWithoutPart 18 = .ok (.iload_n 1, 1) := by decide +kernel
theorem dX5_dawnWithoutPart_19 : decode cX5_dawnWithoutPart 19 = .ok (.iload_n 2, 1) := by decide +kernel
theorem dX5_dawnWithoutPart_20 : decode cX5_dawnWithoutPart 20 = .ok (.iload_n 3, 1) := by decide +kernel
theorem dX5_dawnWithoutPart_21 : decode cX5_dawnWithoutPart 21 = .ok (.invokestatic 78, 3) := by decide +kernel
theorem dX5_dawnWithoutPart_24 : decode cX5_dawnWithoutPart 24 = .ok (.iaload, 1) := by decide +kernel
theorem dX5_dawnWithoutPart_25 : decode cX5_dawnWithoutPart 25 = .ok (.ifCond .ne 5, 3) := by decide +kernel
theorem dX5_dawnWithoutPart_28 : decode cX5_dawnWithoutPart 28 = .ok (.iload_n 3, 1) := by decide +kernel
theorem dX5_dawnWithoutPart_29 : decode cX5_dawnWithoutPart 29 = .ok (.ireturn, 1) := by decide +kernel
theorem dX5_dawnWithoutPart_30 : decode cX5_dawnWithoutPart 30 = .ok (.iinc 3 1, 3) := by decide +kernel
theorem dX5_dawnWithoutPart_33 : decode cX5_dawnWithoutPart 33 = .ok (.goto (-25), 3) := by decide +kernel
theorem dX5_dawnWithoutPart_36 : decode cX5_dawnWithoutPart 36 = .ok (.bipush 61, 2) := by decide +kernel
theorem dX5_dawnWithoutPart_38 : decode cX5_dawnWithoutPart 38 = .ok (.ireturn, 1) := by decide +kernel
theorem dX5_dawnWithoutAny_0 : decode cX5_dawnWithoutAny 0 = .ok (.aload_n 0, 1) := by decide +kernel
theorem dX5_dawnWithoutAny_1 : decode cX5_dawnWithoutAny 1 = .ok (.bipush 60, 2) := by decide +kernel
theorem dX5_dawnWithoutAny_3 : decode cX5_dawnWithoutAny 3 = .ok (.invokevirtual 100, 3) := by decide +kernel
theorem dX5_dawnWithoutAny_6 : decode cX5_dawnWithoutAny 6 = .ok (.iconst 0, 1) := by decide +kernel
theorem dX5_dawnWithoutAny_7 : decode cX5_dawnWithoutAny 7 = .ok (.istore_n 2, 1) := by decide +kernel
theorem dX5_dawnWithoutAny_8 : decode cX5_dawnWithoutAny 8 = .ok (.iload_n 2, 1) := by decide +kernel
theorem dX5_dawnWithoutAny_9 : decode cX5_dawnWithoutAny 9 = .ok (.bipush 60, 2) := by decide +kernel
theorem dX5_dawnWithoutAny_11 : decode cX5_dawnWithoutAny 11 = .ok (.if_icmp .gt 20, 3) := by decide +kernel
theorem dX5_dawnWithoutAny_14 : decode cX5_dawnWithoutAny 14 = .ok (.aload_n 0, 1) := by decide +kernel
theorem dX5_dawnWithoutAny_15 : decode cX5_dawnWithoutAny 15 = .ok (.iload_n 1, 1) := by decide +kernel
theorem dX5_dawnWithoutAny_16 : decode cX5_dawnWithoutAny 16 = .ok (.iload_n 2, 1) := by decide +kernel
theorem dX5_dawnWithoutAny_17 : decode cX5_dawnWithoutAny 17 = .ok (.invokevirtual 103, 3) := by decide +kernel
theorem dX5_dawnWithoutAny_20 : decode cX5_dawnWithoutAny 20 = .ok (.ifCond .ne 5, 3) := by decide +kernel
theorem dX5_dawnWithoutAny_23 : decode cX5_dawnWithoutAny 23 = .ok (.iload_n 2, 1) := by decide +kernel
theorem dX5_dawnWithoutAny_24 : decode cX5_dawnWithoutAny 24 = .ok (.ireturn, 1) := by decide +kernel
theorem dX5_dawnWithoutAny_25 : decode cX5_dawnWithoutAny 25 = .ok (.iinc 2 1, 3) := by decide +kernel
theorem dX5_dawnWithoutAny_28 : decode cX5_dawnWithoutAny 28 = .ok (.goto (-20), 3) := by decide +kernel
theorem dX5_dawnWithoutAny_31 : decode cX5_dawnWithoutAny 31 = .ok (.bipush 61, 2) := by decide +kernel
theorem dX5_dawnWithoutAny_33 : decode cX5_dawnWithoutAny 33 = .ok (.ireturn, 1) := by decide +kernel
theorem dX5_likedFirst_0 : decode cX5_likedFirst 0 = .ok (.aload_n 0, 1) := by decide +kernel
theorem dX5_likedFirst_1 : decode cX5_likedFirst 1 = .ok (.iload_n 1, 1) := by decide +kernel
theorem dX5_likedFirst_2 : decode cX5_likedFirst 2 = .ok (.iconst 1, 1) := by decide +kernel
theorem dX5_likedFirst_3 : decode cX5_likedFirst 3 = .ok (.iadd, 1) := by decide +kernel
theorem dX5_likedFirst_4 : decode cX5_likedFirst 4 = .ok (.invokevirtual 100, 3) := by decide +kernel
theorem dX5_likedFirst_7 : decode cX5_likedFirst 7 = .ok (.aload_n 0, 1) := by decide +kernel
theorem dX5_likedFirst_8 : decode cX5_likedFirst 8 = .ok (.getfield 31, 3) := by decide +kernel
theorem dX5_likedFirst_11 : decode cX5_likedFirst 11 = .ok (.iload_n 1, 1) := by decide +kernel
theorem dX5_likedFirst_12 : decode cX5_likedFirst 12 = .ok (.iaload, 1) := by decide +kernel
theorem dX5_likedFirst_13 : decode cX5_likedFirst 13 = .ok (.ireturn, 1) := by decide +kernel
theorem dX5_longestLasting_0 : decode cX5_longestLasting 0 = .ok (.iconst 0, 1) := by decide +kernel
theorem dX5_longestLasting_1 : decode cX5_longestLasting 1 = .ok (.istore_n 1, 1) := by decide +kernel
theorem dX5_longestLasting_2 : decode cX5_longestLasting 2 = .ok (.iconst 0, 1) := by decide +kernel
theorem dX5_longestLasting_3 : decode cX5_longestLasting 3 = .ok (.istore_n 2, 1) := by decide +kernel
theorem dX5_longestLasting_4 : decode cX5_longestLasting 4 = .ok (.iconst 0, 1) := by decide +kernel
theorem dX5_longestLasting_5 : decode cX5_longestLasting 5 = .ok (.istore_n 3, 1) := by decide +kernel
theorem dX5_longestLasting_6 : decode cX5_longestLasting 6 = .ok (.iload_n 3, 1) := by decide +kernel
theorem dX5_longestLasting_7 : decode cX5_longestLasting 7 = .ok (.aload_n 0, 1) := by decide +kernel
theorem dX5_longestLasting_8 : decode cX5_longestLasting 8 = .ok (.getfield 34, 3) := by decide +kernel
theorem dX5_longestLasting_11 : decode cX5_longestLasting 11 = .ok (.if_icmp .ge 27, 3) := by decide +kernel
theorem dX5_longestLasting_14 : decode cX5_longestLasting 14 = .ok (.aload_n 0, 1) := by decide +kernel
theorem dX5_longestLasting_15 : decode cX5_longestLasting 15 = .ok (.iload_n 3, 1) := by decide +kernel
theorem dX5_longestLasting_16 : decode cX5_longestLasting 16 = .ok (.invokevirtual 116, 3) := by decide +kernel
theorem dX5_longestLasting_19 : decode cX5_longestLasting 19 = .ok (.istore 4, 2) := by decide +kernel
theorem dX5_longestLasting_21 : decode cX5_longestLasting 21 = .ok (.iload 4, 2) := by decide +kernel
theorem dX5_longestLasting_23 : decode cX5_longestLasting 23 = .ok (.iload_n 2, 1) := by decide +kernel
theorem dX5_longestLasting_24 : decode cX5_longestLasting 24 = .ok (.if_icmp .le 8, 3) := by decide +kernel
theorem dX5_longestLasting_27 : decode cX5_longestLasting 27 = .ok (.iload_n 3, 1) := by decide +kernel
theorem dX5_longestLasting_28 : decode cX5_longestLasting 28 = .ok (.istore_n 1, 1) := by decide +kernel
theorem dX5_longestLasting_29 : decode cX5_longestLasting 29 = .ok (.iload 4, 2) := by decide +kernel
theorem dX5_longestLasting_31 : decode cX5_longestLasting 31 = .ok (.istore_n 2, 1) := by decide +kernel
theorem dX5_longestLasting_32 : decode cX5_longestLasting 32 = .ok (.iinc 3 1, 3) := by decide +kernel
theorem dX5_longestLasting_35 : decode cX5_longestLasting 35 = .ok (.goto (-29), 3) := by decide +kernel
theorem dX5_longestLasting_38 : decode cX5_longestLasting 38 = .ok (.iload_n 1, 1) := by decide +kernel
theorem dX5_longestLasting_39 : decode cX5_longestLasting 39 = .ok (.ireturn, 1) := by decide +kernel
theorem dX5_apart_0 : decode cX5_apart 0 = .ok (.aload_n 0, 1) := by decide +kernel
theorem dX5_apart_1 : decode cX5_apart 1 = .ok (.iload 4, 2) := by decide +kernel
theorem dX5_apart_3 : decode cX5_apart 3 = .ok (.invokevirtual 100, 3) := by decide +kernel
theorem dX5_apart_6 : decode cX5_apart 6 = .ok (.iconst 0, 1) := by decide +kernel
theorem dX5_apart_7 : decode cX5_apart 7 = .ok (.istore 5, 2) := by decide +kernel
theorem dX5_apart_9 : decode cX5_apart 9 = .ok (.iconst 0, 1) := by decide +kernel
theorem dX5_apart_10 : decode cX5_apart 10 = .ok (.istore 6, 2) := by decide +kernel
theorem dX5_apart_12 : decode cX5_apart 12 = .ok (.iload 6, 2) := by decide +kernel
theorem dX5_apart_14 : decode cX5_apart 14 = .ok (.iconst 3, 1) := by decide +kernel
theorem dX5_apart_15 : decode cX5_apart 15 = .ok (.if_icmp .ge 40, 3) := by decide +kernel
theorem dX5_apart_18 : decode cX5_apart 18 = .ok (.iload 5, 2) := by decide +kernel
theorem dX5_apart_20 : decode cX5_apart 20 = .ok (.aload_n 0, 1) := by decide +kernel
theorem dX5_apart_21 : decode cX5_apart 21 = .ok (.getfield 25, 3) := by decide +kernel
theorem dX5_apart_24 : decode cX5_apart 24 = .ok (.iload_n 1, 1) := by decide +kernel
theorem dX5_apart_25 : decode cX5_apart 25 = .ok (.iload 6, 2) := by decide +kernel
theorem dX5_apart_27 : decode cX5_apart 27 = .ok (.iload 4, 2) := by decide +kernel
theorem dX5_apart_29 : decode cX5_apart 29 = .ok (.invokestatic 78, 3) := by decide +kernel
theorem dX5_apart_32 : decode cX5_apart 32 = .ok (.iaload, 1) := by decide +kernel
theorem dX5_apart_33 : decode cX5_apart 33 = .ok (.aload_n 2, 1) := by decide +kernel
theorem dX5_apart_34 : decode cX5_apart 34 = .ok (.getfield 119, 3) := by decide +kernel
theorem dX5_apart_37 : decode cX5_apart 37 = .ok (.iload_n 3, 1) := by decide +kernel
theorem dX5_apart_38 : decode cX5_apart 38 = .ok (.iload 6, 2) := by decide +kernel
theorem dX5_apart_40 : decode cX5_apart 40 = .ok (.iadd, 1) := by decide +kernel
theorem dX5_apart_41 : decode cX5_apart 41 = .ok (.iaload, 1) := by decide +kernel
theorem dX5_apart_42 : decode cX5_apart 42 = .ok (.isub, 1) := by decide +kernel
theorem dX5_apart_43 : decode cX5_apart 43 = .ok (.invokestatic 124, 3) := by decide +kernel
theorem dX5_apart_46 : decode cX5_apart 46 = .ok (.iadd, 1) := by decide +kernel
theorem dX5_apart_47 : decode cX5_apart 47 = .ok (.istore 5, 2) := by decide +kernel
theorem dX5_apart_49 : decode cX5_apart 49 = .ok (.iinc 6 1, 3) := by decide +kernel
theorem dX5_apart_52 : decode cX5_apart 52 = .ok (.goto (-40), 3) := by decide +kernel
theorem dX5_apart_55 : decode cX5_apart 55 = .ok (.iload 5, 2) := by decide +kernel
theorem dX5_apart_57 : decode cX5_apart 57 = .ok (.ireturn, 1) := by decide +kernel
theorem dX5_nearest_0 : decode cX5_nearest 0 = .ok (.iconst 0, 1) := by decide +kernel
theorem dX5_nearest_1 : decode cX5_nearest 1 = .ok (.istore 4, 2) := by decide +kernel
theorem dX5_nearest_3 : decode cX5_nearest 3 = .ok (.iconst 1, 1) := by decide +kernel
theorem dX5_nearest_4 : decode cX5_nearest 4 = .ok (.istore 5, 2) := by decide +kernel
theorem dX5_nearest_6 : decode cX5_nearest 6 = .ok (.iload 5, 2) := by decide +kernel
theorem dX5_nearest_8 : decode cX5_nearest 8 = .ok (.aload_n 0, 1) := by decide +kernel
theorem dX5_nearest_9 : decode cX5_nearest 9 = .ok (.getfield 34, 3) := by decide +kernel
theorem dX5_nearest_12 : decode cX5_nearest 12 = .ok (.if_icmp .ge 34, 3) := by decide +kernel
theorem dX5_nearest_15 : decode cX5_nearest 15 = .ok (.aload_n 0, 1) := by decide +kernel
theorem dX5_nearest_16 : decode cX5_nearest 16 = .ok (.iload 5, 2) := by decide +kernel
theorem dX5_nearest_18 : decode cX5_nearest 18 = .ok (.aload_n 1, 1) := by decide +kernel
theorem dX5_nearest_19 : decode cX5_nearest 19 = .ok (.iload_n 2, 1) := by decide +kernel
theorem dX5_nearest_20 : decode cX5_nearest 20 = .ok (.iload_n 3, 1) := by decide +kernel
theorem dX5_nearest_21 : decode cX5_nearest 21 = .ok (.invokevirtual 127, 3) := by decide +kernel
theorem dX5_nearest_24 : decode cX5_nearest 24 = .ok (.aload_n 0, 1) := by decide +kernel
theorem dX5_nearest_25 : decode cX5_nearest 25 = .ok (.iload 4, 2) := by decide +kernel
theorem dX5_nearest_27 : decode cX5_nearest 27 = .ok (.aload_n 1, 1) := by decide +kernel
theorem dX5_nearest_28 : decode cX5_nearest 28 = .ok (.iload_n 2, 1) := by decide +kernel
theorem dX5_nearest_29 : decode cX5_nearest 29 = .ok (.iload_n 3, 1) := by decide +kernel
theorem dX5_nearest_30 : decode cX5_nearest 30 = .ok (.invokevirtual 127, 3) := by decide +kernel
theorem dX5_nearest_33 : decode cX5_nearest 33 = .ok (.if_icmp .ge 7, 3) := by decide +kernel
theorem dX5_nearest_36 : decode cX5_nearest 36 = .ok (.iload 5, 2) := by decide +kernel
theorem dX5_nearest_38 : decode cX5_nearest 38 = .ok (.istore 4, 2) := by decide +kernel
theorem dX5_nearest_40 : decode cX5_nearest 40 = .ok (.iinc 5 1, 3) := by decide +kernel
theorem dX5_nearest_43 : decode cX5_nearest 43 = .ok (.goto (-37), 3) := by decide +kernel
theorem dX5_nearest_46 : decode cX5_nearest 46 = .ok (.iload 4, 2) := by decide +kernel
theorem dX5_nearest_48 : decode cX5_nearest 48 = .ok (.ireturn, 1) := by decide +kernel
theorem dJ6_bitCount_0f7a4_0 : decode cJ6_bitCount_0f7a4 0 = .ok (.iload_n 0, 1) := by decide +kernel
theorem dJ6_bitCount_0f7a4_1 : decode cJ6_bitCount_0f7a4 1 = .ok (.iload_n 0, 1) := by decide +kernel
theorem dJ6_bitCount_0f7a4_2 : decode cJ6_bitCount_0f7a4 2 = .ok (.iconst 1, 1) := by decide +kernel
theorem dJ6_bitCount_0f7a4_3 : decode cJ6_bitCount_0f7a4 3 = .ok (.iushr, 1) := by decide +kernel
theorem dJ6_bitCount_0f7a4_4 : decode cJ6_bitCount_0f7a4 4 = .ok (.ldc_w 265, 3) := by decide +kernel
theorem dJ6_bitCount_0f7a4_7 : decode cJ6_bitCount_0f7a4 7 = .ok (.iand, 1) := by decide +kernel
theorem dJ6_bitCount_0f7a4_8 : decode cJ6_bitCount_0f7a4 8 = .ok (.isub, 1) := by decide +kernel
theorem dJ6_bitCount_0f7a4_9 : decode cJ6_bitCount_0f7a4 9 = .ok (.istore_n 0, 1) := by decide +kernel
theorem dJ6_bitCount_0f7a4_10 : decode cJ6_bitCount_0f7a4 10 = .ok (.iload_n 0, 1) := by decide +kernel
theorem dJ6_bitCount_0f7a4_11 : decode cJ6_bitCount_0f7a4 11 = .ok (.ldc_w 266, 3) := by decide +kernel
theorem dJ6_bitCount_0f7a4_14 : decode cJ6_bitCount_0f7a4 14 = .ok (.iand, 1) := by decide +kernel
theorem dJ6_bitCount_0f7a4_15 : decode cJ6_bitCount_0f7a4 15 = .ok (.iload_n 0, 1) := by decide +kernel
theorem dJ6_bitCount_0f7a4_16 : decode cJ6_bitCount_0f7a4 16 = .ok (.iconst 2, 1) := by decide +kernel
theorem dJ6_bitCount_0f7a4_17 : decode cJ6_bitCount_0f7a4 17 = .ok (.iushr, 1) := by decide +kernel
theorem dJ6_bitCount_0f7a4_18 : decode cJ6_bitCount_0f7a4 18 = .ok (.ldc_w 266, 3) := by decide +kernel
theorem dJ6_bitCount_0f7a4_21 : decode cJ6_bitCount_0f7a4 21 = .ok (.iand, 1) := by decide +kernel
theorem dJ6_bitCount_0f7a4_22 : decode cJ6_bitCount_0f7a4 22 = .ok (.iadd, 1) := by decide +kernel
theorem dJ6_bitCount_0f7a4_23 : decode cJ6_bitCount_0f7a4 23 = .ok (.istore_n 0, 1) := by decide +kernel
theorem dJ6_bitCount_0f7a4_24 : decode cJ6_bitCount_0f7a4 24 = .ok (.iload_n 0, 1) := by decide +kernel
theorem dJ6_bitCount_0f7a4_25 : decode cJ6_bitCount_0f7a4 25 = .ok (.iload_n 0, 1) := by decide +kernel
theorem dJ6_bitCount_0f7a4_26 : decode cJ6_bitCount_0f7a4 26 = .ok (.iconst 4, 1) := by decide +kernel
theorem dJ6_bitCount_0f7a4_27 : decode cJ6_bitCount_0f7a4 27 = .ok (.iushr, 1) := by decide +kernel
theorem dJ6_bitCount_0f7a4_28 : decode cJ6_bitCount_0f7a4 28 = .ok (.iadd, 1) := by decide +kernel
theorem dJ6_bitCount_0f7a4_29 : decode cJ6_bitCount_0f7a4 29 = .ok (.ldc_w 267, 3) := by decide +kernel
theorem dJ6_bitCount_0f7a4_32 : decode cJ6_bitCount_0f7a4 32 = .ok (.iand, 1) := by decide +kernel
theorem dJ6_bitCount_0f7a4_33 : decode cJ6_bitCount_0f7a4 33 = .ok (.istore_n 0, 1) := by decide +kernel
theorem dJ6_bitCount_0f7a4_34 : decode cJ6_bitCount_0f7a4 34 = .ok (.iload_n 0, 1) := by decide +kernel
theorem dJ6_bitCount_0f7a4_35 : decode cJ6_bitCount_0f7a4 35 = .ok (.iload_n 0, 1) := by decide +kernel
theorem dJ6_bitCount_0f7a4_36 : decode cJ6_bitCount_0f7a4 36 = .ok (.bipush 8, 2) := by decide +kernel
theorem dJ6_bitCount_0f7a4_38 : decode cJ6_bitCount_0f7a4 38 = .ok (.iushr, 1) := by decide +kernel
theorem dJ6_bitCount_0f7a4_39 : decode cJ6_bitCount_0f7a4 39 = .ok (.iadd, 1) := by decide +kernel
theorem dJ6_bitCount_0f7a4_40 : decode cJ6_bitCount_0f7a4 40 = .ok (.istore_n 0, 1) := by decide +kernel
theorem dJ6_bitCount_0f7a4_41 : decode cJ6_bitCount_0f7a4 41 = .ok (.iload_n 0, 1) := by decide +kernel
theorem dJ6_bitCount_0f7a4_42 : decode cJ6_bitCount_0f7a4 42 = .ok (.iload_n 0, 1) := by decide +kernel
theorem dJ6_bitCount_0f7a4_43 : decode cJ6_bitCount_0f7a4 43 = .ok (.bipush 16, 2) := by decide +kernel
theorem dJ6_bitCount_0f7a4_45 : decode cJ6_bitCount_0f7a4 45 = .ok (.iushr, 1) := by decide +kernel
theorem dJ6_bitCount_0f7a4_46 : decode cJ6_bitCount_0f7a4 46 = .ok (.iadd, 1) := by decide +kernel
theorem dJ6_bitCount_0f7a4_47 : decode cJ6_bitCount_0f7a4 47 = .ok (.istore_n 0, 1) := by decide +kernel
theorem dJ6_bitCount_0f7a4_48 : decode cJ6_bitCount_0f7a4 48 = .ok (.iload_n 0, 1) := by decide +kernel
theorem dJ6_bitCount_0f7a4_49 : decode cJ6_bitCount_0f7a4 49 = .ok (.bipush 63, 2) := by decide +kernel
theorem dJ6_bitCount_0f7a4_51 : decode cJ6_bitCount_0f7a4 51 = .ok (.iand, 1) := by decide +kernel
theorem dJ6_bitCount_0f7a4_52 : decode cJ6_bitCount_0f7a4 52 = .ok (.ireturn, 1) := by decide +kernel
