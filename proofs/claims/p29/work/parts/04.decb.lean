theorem dX7_behindName_41 : decode cX7_behindName 41 = .ok (.aload_n 3, 1) := by decide +kernel
theorem dX7_behindName_42 : decode cX7_behindName 42 = .ok (.invokevirtual 23, 3) := by decide +kernel
theorem dX7_behindName_45 : decode cX7_behindName 45 = .ok (.if_icmp .ge 29, 3) := by decide +kernel
theorem dX7_behindName_48 : decode cX7_behindName 48 = .ok (.aload_n 0, 1) := by decide +kernel
theorem dX7_behindName_49 : decode cX7_behindName 49 = .ok (.getfield 9, 3) := by decide +kernel
theorem dX7_behindName_52 : decode cX7_behindName 52 = .ok (.iload_n 2, 1) := by decide +kernel
theorem dX7_behindName_53 : decode cX7_behindName 53 = .ok (.iload 5, 2) := by decide +kernel
theorem dX7_behindName_55 : decode cX7_behindName 55 = .ok (.iadd, 1) := by decide +kernel
theorem dX7_behindName_56 : decode cX7_behindName 56 = .ok (.caload, 1) := by decide +kernel
theorem dX7_behindName_57 : decode cX7_behindName 57 = .ok (.aload_n 3, 1) := by decide +kernel
theorem dX7_behindName_58 : decode cX7_behindName 58 = .ok (.iload 5, 2) := by decide +kernel
theorem dX7_behindName_60 : decode cX7_behindName 60 = .ok (.invokevirtual 28, 3) := by decide +kernel
theorem dX7_behindName_63 : decode cX7_behindName 63 = .ok (.if_icmp .eq 5, 3) := by decide +kernel
theorem dX7_behindName_66 : decode cX7_behindName 66 = .ok (.iconst (-1), 1) := by decide +kernel
theorem dX7_behindName_67 : decode cX7_behindName 67 = .ok (.ireturn, 1) := by decide +kernel
theorem dX7_behindName_68 : decode cX7_behindName 68 = .ok (.iinc 5 1, 3) := by decide +kernel
theorem dX7_behindName_71 : decode cX7_behindName 71 = .ok (.goto (-32), 3) := by decide +kernel
theorem dX7_behindName_74 : decode cX7_behindName 74 = .ok (.iload 4, 2) := by decide +kernel
theorem dX7_behindName_76 : decode cX7_behindName 76 = .ok (.iconst 1, 1) := by decide +kernel
theorem dX7_behindName_77 : decode cX7_behindName 77 = .ok (.iadd, 1) := by decide +kernel
theorem dX7_behindName_78 : decode cX7_behindName 78 = .ok (.ireturn, 1) := by decide +kernel
theorem dX7_readAmount_0 : decode cX7_readAmount 0 = .ok (.iconst 0, 1) := by decide +kernel
theorem dX7_readAmount_1 : decode cX7_readAmount 1 = .ok (.istore 4, 2) := by decide +kernel
theorem dX7_readAmount_3 : decode cX7_readAmount 3 = .ok (.iload_n 2, 1) := by decide +kernel
theorem dX7_readAmount_4 : decode cX7_readAmount 4 = .ok (.istore 5, 2) := by decide +kernel
theorem dX7_readAmount_6 : decode cX7_readAmount 6 = .ok (.iload 5, 2) := by decide +kernel
theorem dX7_readAmount_8 : decode cX7_readAmount 8 = .ok (.aload_n 0, 1) := by decide +kernel
theorem dX7_readAmount_9 : decode cX7_readAmount 9 = .ok (.getfield 15, 3) := by decide +kernel
theorem dX7_readAmount_12 : decode cX7_readAmount 12 = .ok (.if_icmp .ge 48, 3) := by decide +kernel
theorem dX7_readAmount_15 : decode cX7_readAmount 15 = .ok (.iload 5, 2) := by decide +kernel
theorem dX7_readAmount_17 : decode cX7_readAmount 17 = .ok (.iload_n 2, 1) := by decide +kernel
theorem dX7_readAmount_18 : decode cX7_readAmount 18 = .ok (.iconst 3, 1) := by decide +kernel
theorem dX7_readAmount_19 : decode cX7_readAmount 19 = .ok (.iadd, 1) := by decide +kernel
theorem dX7_readAmount_20 : decode cX7_readAmount 20 = .ok (.if_icmp .ge 40, 3) := by decide +kernel
theorem dX7_readAmount_23 : decode cX7_readAmount 23 = .ok (.aload_n 0, 1) := by decide +kernel
theorem dX7_readAmount_24 : decode cX7_readAmount 24 = .ok (.getfield 9, 3) := by decide +kernel
theorem dX7_readAmount_27 : decode cX7_readAmount 27 = .ok (.iload 5, 2) := by decide +kernel
theorem dX7_readAmount_29 : decode cX7_readAmount 29 = .ok (.caload, 1) := by decide +kernel
theorem dX7_readAmount_30 : decode cX7_readAmount 30 = .ok (.invokestatic 71, 3) := by decide +kernel
theorem dX7_readAmount_33 : decode cX7_readAmount 33 = .ok (.ifCond .eq 27, 3) := by decide +kernel
theorem dX7_readAmount_36 : decode cX7_readAmount 36 = .ok (.iload 4, 2) := by decide +kernel
theorem dX7_readAmount_38 : decode cX7_readAmount 38 = .ok (.bipush 10, 2) := by decide +kernel
theorem dX7_readAmount_40 : decode cX7_readAmount 40 = .ok (.imul, 1) := by decide +kernel
theorem dX7_readAmount_41 : decode cX7_readAmount 41 = .ok (.aload_n 0, 1) := by decide +kernel
theorem dX7_readAmount_42 : decode cX7_readAmount 42 = .ok (.getfield 9, 3) := by decide +kernel
theorem dX7_readAmount_45 : decode cX7_readAmount 45 = .ok (.iload 5, 2) := by decide +kernel
theorem dX7_readAmount_47 : decode cX7_readAmount 47 = .ok (.caload, 1) := by decide +kernel
theorem dX7_readAmount_48 : decode cX7_readAmount 48 = .ok (.bipush 48, 2) := by decide +kernel
theorem dX7_readAmount_50 : decode cX7_readAmount 50 = .ok (.isub, 1) := by decide +kernel
theorem dX7_readAmount_51 : decode cX7_readAmount 51 = .ok (.iadd, 1) := by decide +kernel
theorem dX7_readAmount_52 : decode cX7_readAmount 52 = .ok (.istore 4, 2) := by decide +kernel
theorem dX7_readAmount_54 : decode cX7_readAmount 54 = .ok (.iinc 5 1, 3) := by decide +kernel
theorem dX7_readAmount_57 : decode cX7_readAmount 57 = .ok (.goto (-51), 3) := by decide +kernel
theorem dX7_readAmount_60 : decode cX7_readAmount 60 = .ok (.iload 5, 2) := by decide +kernel
theorem dX7_readAmount_62 : decode cX7_readAmount 62 = .ok (.iload_n 2, 1) := by decide +kernel
theorem dX7_readAmount_63 : decode cX7_readAmount 63 = .ok (.if_icmp .eq 21, 3) := by decide +kernel
theorem dX7_readAmount_66 : decode cX7_readAmount 66 = .ok (.iload 4, 2) := by decide +kernel
theorem dX7_readAmount_68 : decode cX7_readAmount 68 = .ok (.getstatic 75, 3) := by decide +kernel
theorem dX7_readAmount_71 : decode cX7_readAmount 71 = .ok (.iload_n 1, 1) := by decide +kernel
theorem dX7_readAmount_72 : decode cX7_readAmount 72 = .ok (.iaload, 1) := by decide +kernel
theorem dX7_readAmount_73 : decode cX7_readAmount 73 = .ok (.getstatic 78, 3) := by decide +kernel
theorem dX7_readAmount_76 : decode cX7_readAmount 76 = .ok (.iload_n 1, 1) := by decide +kernel
theorem dX7_readAmount_77 : decode cX7_readAmount 77 = .ok (.iaload, 1) := by decide +kernel
theorem dX7_readAmount_78 : decode cX7_readAmount 78 = .ok (.invokestatic 81, 3) := by decide +kernel
theorem dX7_readAmount_81 : decode cX7_readAmount 81 = .ok (.ifCond .eq 5, 3) := by decide +kernel
theorem dX7_readAmount_84 : decode cX7_readAmount 84 = .ok (.iconst (-1), 1) := by decide +kernel
theorem dX7_readAmount_85 : decode cX7_readAmount 85 = .ok (.ireturn, 1) := by decide +kernel
theorem dX7_readAmount_86 : decode cX7_readAmount 86 = .ok (.aload_n 3, 1) := by decide +kernel
theorem dX7_readAmount_87 : decode cX7_readAmount 87 = .ok (.iload_n 1, 1) := by decide +kernel
theorem dX7_readAmount_88 : decode cX7_readAmount 88 = .ok (.iload 4, 2) := by decide +kernel
theorem dX7_readAmount_90 : decode cX7_readAmount 90 = .ok (.invokevirtual 85, 3) := by decide +kernel
theorem dX7_readAmount_93 : decode cX7_readAmount 93 = .ok (.iload 5, 2) := by decide +kernel
theorem dX7_readAmount_95 : decode cX7_readAmount 95 = .ok (.ireturn, 1) := by decide +kernel
theorem dX7_isDigit_0 : decode cX7_isDigit 0 = .ok (.iload_n 0, 1) := by decide +kernel
theorem dX7_isDigit_1 : decode cX7_isDigit 1 = .ok (.bipush 48, 2) := by decide +kernel
theorem dX7_isDigit_3 : decode cX7_isDigit 3 = .ok (.if_icmp .lt 13, 3) := by decide +kernel
theorem dX7_isDigit_6 : decode cX7_isDigit 6 = .ok (.iload_n 0, 1) := by decide +kernel
theorem dX7_isDigit_7 : decode cX7_isDigit 7 = .ok (.bipush 57, 2) := by decide +kernel
theorem dX7_isDigit_9 : decode cX7_isDigit 9 = .ok (.if_icmp .gt 7, 3) := by decide +kernel
theorem dX7_isDigit_12 : decode cX7_isDigit 12 = .ok (.iconst 1, 1) := by decide +kernel
theorem dX7_isDigit_13 : decode cX7_isDigit 13 = .ok (.goto 4, 3) := by decide +kernel
theorem dX7_isDigit_16 : decode cX7_isDigit 16 = .ok (.iconst 0, 1) := by decide +kernel
theorem dX7_isDigit_17 : decode cX7_isDigit 17 = .ok (.ireturn, 1) := by decide +kernel
theorem dX8_init_0 : decode cX8_init 0 = .ok (.aload_n 0, 1) := by decide +kernel
theorem dX8_init_1 : decode cX8_init 1 = .ok (.invokespecial 1, 3) := by decide +kernel
theorem dX8_init_4 : decode cX8_init 4 = .ok (.aload_n 0, 1) := by decide +kernel
theorem dX8_init_5 : decode cX8_init 5 = .ok (.new 7, 3) := by decide +kernel
theorem dX8_init_8 : decode cX8_init 8 = .ok (.dup, 1) := by decide +kernel
theorem dX8_init_9 : decode cX8_init 9 = .ok (.invokespecial 9, 3) := by decide +kernel
theorem dX8_init_12 : decode cX8_init 12 = .ok (.putfield 10, 3) := by decide +kernel
theorem dX8_init_15 : decode cX8_init 15 = .ok (.aload_n 0, 1) := by decide +kernel
theorem dX8_init_16 : decode cX8_init 16 = .ok (.new 7, 3) := by decide +kernel
theorem dX8_init_19 : decode cX8_init 19 = .ok (.dup, 1) := by decide +kernel
theorem dX8_init_20 : decode cX8_init 20 = .ok (.invokespecial 9, 3) := by decide +kernel
theorem dX8_init_23 : decode cX8_init 23 = .ok (.putfield 16, 3) := by decide +kernel
theorem dX8_init_26 : decode cX8_init 26 = .ok (.aload_n 0, 1) := by decide +kernel
theorem dX8_init_27 : decode cX8_init 27 = .ok (.iconst 4, 1) := by decide +kernel
theorem dX8_init_28 : decode cX8_init 28 = .ok (.anewarray 7, 3) := by decide +kernel
theorem dX8_init_31 : decode cX8_init 31 = .ok (.putfield 19, 3) := by decide +kernel
theorem dX8_init_34 : decode cX8_init 34 = .ok (.iconst 0, 1) := by decide +kernel
theorem dX8_init_35 : decode cX8_init 35 = .ok (.istore_n 1, 1) := by decide +kernel
theorem dX8_init_36 : decode cX8_init 36 = .ok (.iload_n 1, 1) := by decide +kernel
theorem dX8_init_37 : decode cX8_init 37 = .ok (.iconst 4, 1) := by decide +kernel
theorem dX8_init_38 : decode cX8_init 38 = .ok (.if_icmp .ge 22, 3) := by decide +kernel
theorem dX8_init_41 : decode cX8_init 41 = .ok (.aload_n 0, 1) := by decide +kernel
theorem dX8_init_42 : decode cX8_init 42 = .ok (.getfield 19, 3) := by decide +kernel
theorem dX8_init_45 : decode cX8_init 45 = .ok (.iload_n 1, 1) := by decide +kernel
theorem dX8_init_46 : decode cX8_init 46 = .ok (.new 7, 3) := by decide +kernel
theorem dX8_init_49 : decode cX8_init 49 = .ok (.dup, 1) := by decide +kernel
theorem dX8_init_50 : decode cX8_init 50 = .ok (.invokespecial 9, 3) := by decide +kernel
theorem dX8_init_53 : decode cX8_init 53 = .ok (.aastore, 1) := by decide +kernel
theorem dX8_init_54 : decode cX8_init 54 = .ok (.iinc 1 1, 3) := by decide +kernel
theorem dX8_init_57 : decode cX8_init 57 = .ok (.goto (-21), 3) := by decide +kernel
theorem dX8_init_60 : decode cX8_init 60 = .ok (.aload_n 0, 1) := by decide +kernel
theorem dX8_init_61 : decode cX8_init 61 = .ok (.iconst 0, 1) := by decide +kernel
theorem dX8_init_62 : decode cX8_init 62 = .ok (.putfield 23, 3) := by decide +kernel
theorem dX8_init_65 : decode cX8_init 65 = .ok (.aload_n 0, 1) := by decide +kernel
theorem dX8_init_66 : decode cX8_init 66 = .ok (.new 27, 3) := by decide +kernel
theorem dX8_init_69 : decode cX8_init 69 = .ok (.dup, 1) := by decide +kernel
theorem dX8_init_70 : decode cX8_init 70 = .ok (.invokespecial 29, 3) := by decide +kernel
theorem dX8_init_73 : decode cX8_init 73 = .ok (.putfield 30, 3) := by decide +kernel
theorem dX8_init_76 : decode cX8_init 76 = .ok (.aload_n 0, 1) := by decide +kernel
theorem dX8_init_77 : decode cX8_init 77 = .ok (.new 34, 3) := by decide +kernel
theorem dX8_init_80 : decode cX8_init 80 = .ok (.dup, 1) := by decide +kernel
theorem dX8_init_81 : decode cX8_init 81 = .ok (.invokespecial 36, 3) := by decide +kernel
theorem dX8_init_84 : decode cX8_init 84 = .ok (.putfield 37, 3) := by decide +kernel
theorem dX8_init_87 : decode cX8_init 87 = .ok (.aload_n 0, 1) := by decide +kernel
theorem dX8_init_88 : decode cX8_init 88 = .ok (.new 41, 3) := by decide +kernel
theorem dX8_init_91 : decode cX8_init 91 = .ok (.dup, 1) := by decide +kernel
theorem dX8_init_92 : decode cX8_init 92 = .ok (.invokespecial 43, 3) := by decide +kernel
theorem dX8_init_95 : decode cX8_init 95 = .ok (.putfield 44, 3) := by decide +kernel
theorem dX8_init_98 : decode cX8_init 98 = .ok (.aload_n 0, 1) := by decide +kernel
theorem dX8_init_99 : decode cX8_init 99 = .ok (.bipush 25, 2) := by decide +kernel
theorem dX8_init_101 : decode cX8_init 101 = .ok (.newarray .int, 2) := by decide +kernel
theorem dX8_init_103 : decode cX8_init 103 = .ok (.putfield 48, 3) := by decide +kernel
theorem dX8_init_106 : decode cX8_init 106 = .ok (.return_, 1) := by decide +kernel
theorem dX8_addRoll_0 : decode cX8_addRoll 0 = .ok (.iload_n 1, 1) := by decide +kernel
theorem dX8_addRoll_1 : decode cX8_addRoll 1 = .ok (.bipush 100, 2) := by decide +kernel
theorem dX8_addRoll_3 : decode cX8_addRoll 3 = .ok (.ldc 52, 2) := by decide +kernel
theorem dX8_addRoll_5 : decode cX8_addRoll 5 = .ok (.invokestatic 53, 3) := by decide +kernel
theorem dX8_addRoll_8 : decode cX8_addRoll 8 = .ok (.ifCond .ne 13, 3) := by decide +kernel
theorem dX8_addRoll_11 : decode cX8_addRoll 11 = .ok (.iload_n 2, 1) := by decide +kernel
theorem dX8_addRoll_12 : decode cX8_addRoll 12 = .ok (.iconst 1, 1) := by decide +kernel
theorem dX8_addRoll_13 : decode cX8_addRoll 13 = .ok (.bipush 50, 2) := by decide +kernel
theorem dX8_addRoll_15 : decode cX8_addRoll 15 = .ok (.invokestatic 53, 3) := by decide +kernel
theorem dX8_addRoll_18 : decode cX8_addRoll 18 = .ok (.ifCond .eq 5, 3) := by decide +kernel
theorem dX8_addRoll_21 : decode cX8_addRoll 21 = .ok (.iconst (-1), 1) := by decide +kernel
theorem dX8_addRoll_22 : decode cX8_addRoll 22 = .ok (.ireturn, 1) := by decide +kernel
theorem dX8_addRoll_23 : decode cX8_addRoll 23 = .ok (.aload_n 0, 1) := by decide +kernel
theorem dX8_addRoll_24 : decode cX8_addRoll 24 = .ok (.getfield 10, 3) := by decide +kernel
theorem dX8_addRoll_27 : decode cX8_addRoll 27 = .ok (.getfield 57, 3) := by decide +kernel
theorem dX8_addRoll_30 : decode cX8_addRoll 30 = .ok (.bipush 6, 2) := by decide +kernel
theorem dX8_addRoll_32 : decode cX8_addRoll 32 = .ok (.if_icmp .lt 6, 3) := by decide +kernel
theorem dX8_addRoll_35 : decode cX8_addRoll 35 = .ok (.bipush (-3), 2) := by decide +kernel
theorem dX8_addRoll_37 : decode cX8_addRoll 37 = .ok (.ireturn, 1) := by decide +kernel
theorem dX8_addRoll_38 : decode cX8_addRoll 38 = .ok (.aload_n 0, 1) := by decide +kernel
theorem dX8_addRoll_39 : decode cX8_addRoll 39 = .ok (.invokevirtual 60, 3) := by decide +kernel
theorem dX8_addRoll_42 : decode cX8_addRoll 42 = .ok (.aload_n 0, 1) := by decide +kernel
theorem dX8_addRoll_43 : decode cX8_addRoll 43 = .ok (.getfield 10, 3) := by decide +kernel
theorem dX8_addRoll_46 : decode cX8_addRoll 46 = .ok (.iload_n 1, 1) := by decide +kernel
theorem dX8_addRoll_47 : decode cX8_addRoll 47 = .ok (.iload_n 2, 1) := by decide +kernel
theorem dX8_addRoll_48 : decode cX8_addRoll 48 = .ok (.invokevirtual 63, 3) := by decide +kernel
theorem dX8_addRoll_51 : decode cX8_addRoll 51 = .ok (.aload_n 0, 1) := by decide +kernel
theorem dX8_addRoll_52 : decode cX8_addRoll 52 = .ok (.getfield 10, 3) := by decide +kernel
theorem dX8_addRoll_55 : decode cX8_addRoll 55 = .ok (.getfield 57, 3) := by decide +kernel
theorem dX8_addRoll_58 : decode cX8_addRoll 58 = .ok (.ireturn, 1) := by decide +kernel
theorem dX8_weaken_0 : decode cX8_weaken 0 = .ok (.iload_n 1, 1) := by decide +kernel
theorem dX8_weaken_1 : decode cX8_weaken 1 = .ok (.iconst 0, 1) := by decide +kernel
theorem dX8_weaken_2 : decode cX8_weaken 2 = .ok (.aload_n 0, 1) := by decide +kernel
theorem dX8_weaken_3 : decode cX8_weaken 3 = .ok (.getfield 10, 3) := by decide +kernel
theorem dX8_weaken_6 : decode cX8_weaken 6 = .ok (.getfield 57, 3) := by decide +kernel
theorem dX8_weaken_9 : decode cX8_weaken 9 = .ok (.iconst 1, 1) := by decide +kernel
theorem dX8_weaken_10 : decode cX8_weaken 10 = .ok (.isub, 1) := by decide +kernel
theorem dX8_weaken_11 : decode cX8_weaken 11 = .ok (.invokestatic 53, 3) := by decide +kernel
theorem dX8_weaken_14 : decode cX8_weaken 14 = .ok (.ifCond .ne 14, 3) := by decide +kernel
theorem dX8_weaken_17 : decode cX8_weaken 17 = .ok (.iload_n 3, 1) := by decide +kernel
theorem dX8_weaken_18 : decode cX8_weaken 18 = .ok (.iconst 0, 1) := by decide +kernel
theorem dX8_weaken_19 : decode cX8_weaken 19 = .ok (.sipush 199, 3) := by decide +kernel
theorem dX8_weaken_22 : decode cX8_weaken 22 = .ok (.invokestatic 53, 3) := by decide +kernel
theorem dX8_weaken_25 : decode cX8_weaken 25 = .ok (.ifCond .eq 5, 3) := by decide +kernel
theorem dX8_weaken_28 : decode cX8_weaken 28 = .ok (.iconst (-1), 1) := by decide +kernel
theorem dX8_weaken_29 : decode cX8_weaken 29 = .ok (.ireturn, 1) := by decide +kernel
theorem dX8_weaken_30 : decode cX8_weaken 30 = .ok (.iload_n 2, 1) := by decide +kernel
theorem dX8_weaken_31 : decode cX8_weaken 31 = .ok (.iconst 1, 1) := by decide +kernel
theorem dX8_weaken_32 : decode cX8_weaken 32 = .ok (.aload_n 0, 1) := by decide +kernel
theorem dX8_weaken_33 : decode cX8_weaken 33 = .ok (.getfield 10, 3) := by decide +kernel
theorem dX8_weaken_36 : decode cX8_weaken 36 = .ok (.getfield 67, 3) := by decide +kernel
theorem dX8_weaken_39 : decode cX8_weaken 39 = .ok (.iload_n 1, 1) := by decide +kernel
theorem dX8_weaken_40 : decode cX8_weaken 40 = .ok (.aaload, 1) := by decide +kernel
theorem dX8_weaken_41 : decode cX8_weaken 41 = .ok (.getfield 71, 3) := by decide +kernel
theorem dX8_weaken_44 : decode cX8_weaken 44 = .ok (.iconst 1, 1) := by decide +kernel
theorem dX8_weaken_45 : decode cX8_weaken 45 = .ok (.isub, 1) := by decide +kernel
theorem dX8_weaken_46 : decode cX8_weaken 46 = .ok (.invokestatic 53, 3) := by decide +kernel
theorem dX8_weaken_49 : decode cX8_weaken 49 = .ok (.ifCond .eq 5, 3) := by decide +kernel
theorem dX8_weaken_52 : decode cX8_weaken 52 = .ok (.iconst (-1), 1) := by decide +kernel
theorem dX8_weaken_53 : decode cX8_weaken 53 = .ok (.ireturn, 1) := by decide +kernel
theorem dX8_weaken_54 : decode cX8_weaken 54 = .ok (.aload_n 0, 1) := by decide +kernel
theorem dX8_weaken_55 : decode cX8_weaken 55 = .ok (.getfield 10, 3) := by decide +kernel
theorem dX8_weaken_58 : decode cX8_weaken 58 = .ok (.getfield 67, 3) := by decide +kernel
theorem dX8_weaken_61 : decode cX8_weaken 61 = .ok (.iload_n 1, 1) := by decide +kernel
theorem dX8_weaken_62 : decode cX8_weaken 62 = .ok (.aaload, 1) := by decide +kernel
theorem dX8_weaken_63 : decode cX8_weaken 63 = .ok (.iload_n 2, 1) := by decide +kernel
theorem dX8_weaken_64 : decode cX8_weaken 64 = .ok (.invokevirtual 76, 3) := by decide +kernel
theorem dX8_weaken_67 : decode cX8_weaken 67 = .ok (.ifCond .ne 19, 3) := by decide +kernel
theorem dX8_weaken_70 : decode cX8_weaken 70 = .ok (.iload_n 2, 1) := by decide +kernel
theorem dX8_weaken_71 : decode cX8_weaken 71 = .ok (.aload_n 0, 1) := by decide +kernel
theorem dX8_weaken_72 : decode cX8_weaken 72 = .ok (.getfield 10, 3) := by decide +kernel
theorem dX8_weaken_75 : decode cX8_weaken 75 = .ok (.getfield 67, 3) := by decide +kernel
theorem dX8_weaken_78 : decode cX8_weaken 78 = .ok (.iload_n 1, 1) := by decide +kernel
theorem dX8_weaken_79 : decode cX8_weaken 79 = .ok (.aaload, 1) := by decide +kernel
theorem dX8_weaken_80 : decode cX8_weaken 80 = .ok (.getfield 80, 3) := by decide +kernel
theorem dX8_weaken_83 : decode cX8_weaken 83 = .ok (.if_icmp .gt 6, 3) := by decide +kernel
theorem dX8_weaken_86 : decode cX8_weaken 86 = .ok (.bipush (-2), 2) := by decide +kernel
theorem dX8_weaken_88 : decode cX8_weaken 88 = .ok (.ireturn, 1) := by decide +kernel
theorem dX8_weaken_89 : decode cX8_weaken 89 = .ok (.aload_n 0, 1) := by decide +kernel
theorem dX8_weaken_90 : decode cX8_weaken 90 = .ok (.getfield 10, 3) := by decide +kernel
theorem dX8_weaken_93 : decode cX8_weaken 93 = .ok (.getfield 67, 3) := by decide +kernel
theorem dX8_weaken_96 : decode cX8_weaken 96 = .ok (.iload_n 1, 1) := by decide +kernel
theorem dX8_weaken_97 : decode cX8_weaken 97 = .ok (.aaload, 1) := by decide +kernel
theorem dX8_weaken_98 : decode cX8_weaken 98 = .ok (.getfield 83, 3) := by decide +kernel
theorem dX8_weaken_101 : decode cX8_weaken 101 = .ok (.bipush 8, 2) := by decide +kernel
theorem dX8_weaken_103 : decode cX8_weaken 103 = .ok (.if_icmp .lt 6, 3) := by decide +kernel
theorem dX8_weaken_106 : decode cX8_weaken 106 = .ok (.bipush (-3), 2) := by decide +kernel
theorem dX8_weaken_108 : decode cX8_weaken 108 = .ok (.ireturn, 1) := by decide +kernel
theorem dX8_weaken_109 : decode cX8_weaken 109 = .ok (.aload_n 0, 1) := by decide +kernel
theorem dX8_weaken_110 : decode cX8_weaken 110 = .ok (.invokevirtual 60, 3) := by decide +kernel
theorem dX8_weaken_113 : decode cX8_weaken 113 = .ok (.aload_n 0, 1) := by decide +kernel
theorem dX8_weaken_114 : decode cX8_weaken 114 = .ok (.getfield 10, 3) := by decide +kernel
theorem dX8_weaken_117 : decode cX8_weaken 117 = .ok (.getfield 67, 3) := by decide +kernel
theorem dX8_weaken_120 : decode cX8_weaken 120 = .ok (.iload_n 1, 1) := by decide +kernel
theorem dX8_weaken_121 : decode cX8_weaken 121 = .ok (.aaload, 1) := by decide +kernel
theorem dX8_weaken_122 : decode cX8_weaken 122 = .ok (.iload_n 2, 1) := by decide +kernel
theorem dX8_weaken_123 : decode cX8_weaken 123 = .ok (.iload_n 3, 1) := by decide +kernel
theorem dX8_weaken_124 : decode cX8_weaken 124 = .ok (.invokevirtual 86, 3) := by decide +kernel
theorem dX8_weaken_127 : decode cX8_weaken 127 = .ok (.aload_n 0, 1) := by decide +kernel
theorem dX8_weaken_128 : decode cX8_weaken 128 = .ok (.getfield 10, 3) := by decide +kernel
theorem dX8_weaken_131 : decode cX8_weaken 131 = .ok (.getfield 67, 3) := by decide +kernel
theorem dX8_weaken_134 : decode cX8_weaken 134 = .ok (.iload_n 1, 1) := by decide +kernel
theorem dX8_weaken_135 : decode cX8_weaken 135 = .ok (.aaload, 1) := by decide +kernel
theorem dX8_weaken_136 : decode cX8_weaken 136 = .ok (.getfield 83, 3) := by decide +kernel
theorem dX8_weaken_139 : decode cX8_weaken 139 = .ok (.ireturn, 1) := by decide +kernel
theorem dX8_roll_0 : decode cX8_roll 0 = .ok (.iload_n 1, 1) := by decide +kernel
theorem dX8_roll_1 : decode cX8_roll 1 = .ok (.iconst 0, 1) := by decide +kernel
theorem dX8_roll_2 : decode cX8_roll 2 = .ok (.aload_n 0, 1) := by decide +kernel
theorem dX8_roll_3 : decode cX8_roll 3 = .ok (.getfield 10, 3) := by decide +kernel
theorem dX8_roll_6 : decode cX8_roll 6 = .ok (.getfield 57, 3) := by decide +kernel
theorem dX8_roll_9 : decode cX8_roll 9 = .ok (.iconst 1, 1) := by decide +kernel
theorem dX8_roll_10 : decode cX8_roll 10 = .ok (.isub, 1) := by decide +kernel
theorem dX8_roll_11 : decode cX8_roll 11 = .ok (.invokestatic 53, 3) := by decide +kernel
theorem dX8_roll_14 : decode cX8_roll 14 = .ok (.ifCond .ne 12, 3) := by decide +kernel
theorem dX8_roll_17 : decode cX8_roll 17 = .ok (.iload_n 2, 1) := by decide +kernel
theorem dX8_roll_18 : decode cX8_roll 18 = .ok (.iconst 0, 1) := by decide +kernel
theorem dX8_roll_19 : decode cX8_roll 19 = .ok (.iconst 5, 1) := by decide +kernel
theorem dX8_roll_20 : decode cX8_roll 20 = .ok (.invokestatic 53, 3) := by decide +kernel
theorem dX8_roll_23 : decode cX8_roll 23 = .ok (.ifCond .eq 5, 3) := by decide +kernel
theorem dX8_roll_26 : decode cX8_roll 26 = .ok (.iconst (-1), 1) := by decide +kernel
theorem dX8_roll_27 : decode cX8_roll 27 = .ok (.ireturn, 1) := by decide +kernel
theorem dX8_roll_28 : decode cX8_roll 28 = .ok (.aload_n 0, 1) := by decide +kernel
theorem dX8_roll_29 : decode cX8_roll 29 = .ok (.getfield 10, 3) := by decide +kernel
theorem dX8_roll_32 : decode cX8_roll 32 = .ok (.getfield 67, 3) := by decide +kernel
theorem dX8_roll_35 : decode cX8_roll 35 = .ok (.iload_n 1, 1) := by decide +kernel
theorem dX8_roll_36 : decode cX8_roll 36 = .ok (.aaload, 1) := by decide +kernel
theorem dX8_roll_37 : decode cX8_roll 37 = .ok (.iload_n 2, 1) := by decide +kernel
theorem dX8_roll_38 : decode cX8_roll 38 = .ok (.invokevirtual 89, 3) := by decide +kernel
theorem dX8_roll_41 : decode cX8_roll 41 = .ok (.ireturn, 1) := by decide +kernel
theorem dX8_addPallet_0 : decode cX8_addPallet 0 = .ok (.iload_n 1, 1) := by decide +kernel
theorem dX8_addPallet_1 : decode cX8_addPallet 1 = .ok (.bipush 20, 2) := by decide +kernel
theorem dX8_addPallet_3 : decode cX8_addPallet 3 = .ok (.sipush 200, 3) := by decide +kernel
theorem dX8_addPallet_6 : decode cX8_addPallet 6 = .ok (.invokestatic 53, 3) := by decide +kernel
theorem dX8_addPallet_9 : decode cX8_addPallet 9 = .ok (.ifCond .ne 27, 3) := by decide +kernel
theorem dX8_addPallet_12 : decode cX8_addPallet 12 = .ok (.iload_n 2, 1) := by decide +kernel
theorem dX8_addPallet_13 : decode cX8_addPallet 13 = .ok (.bipush 20, 2) := by decide +kernel
theorem dX8_addPallet_15 : decode cX8_addPallet 15 = .ok (.sipush 200, 3) := by decide +kernel
theorem dX8_addPallet_18 : decode cX8_addPallet 18 = .ok (.invokestatic 53, 3) := by decide +kernel
theorem dX8_addPallet_21 : decode cX8_addPallet 21 = .ok (.ifCond .ne 15, 3) := by decide +kernel
theorem dX8_addPallet_24 : decode cX8_addPallet 24 = .ok (.iload_n 3, 1) := by decide +kernel
theorem dX8_addPallet_25 : decode cX8_addPallet 25 = .ok (.bipush 10, 2) := by decide +kernel
theorem dX8_addPallet_27 : decode cX8_addPallet 27 = .ok (.sipush 250, 3) := by decide +kernel
theorem dX8_addPallet_30 : decode cX8_addPallet 30 = .ok (.invokestatic 53, 3) := by decide +kernel
theorem dX8_addPallet_33 : decode cX8_addPallet 33 = .ok (.ifCond .eq 5, 3) := by decide +kernel
theorem dX8_addPallet_36 : decode cX8_addPallet 36 = .ok (.iconst (-1), 1) := by decide +kernel
theorem dX8_addPallet_37 : decode cX8_addPallet 37 = .ok (.ireturn, 1) := by decide +kernel
theorem dX8_addPallet_38 : decode cX8_addPallet 38 = .ok (.iload 4, 2) := by decide +kernel
theorem dX8_addPallet_40 : decode cX8_addPallet 40 = .ok (.iconst 0, 1) := by decide +kernel
theorem dX8_addPallet_41 : decode cX8_addPallet 41 = .ok (.sipush 5000, 3) := by decide +kernel
theorem dX8_addPallet_44 : decode cX8_addPallet 44 = .ok (.invokestatic 53, 3) := by decide +kernel
theorem dX8_addPallet_47 : decode cX8_addPallet 47 = .ok (.ifCond .ne 15, 3) := by decide +kernel
theorem dX8_addPallet_50 : decode cX8_addPallet 50 = .ok (.iload 5, 2) := by decide +kernel
theorem dX8_addPallet_52 : decode cX8_addPallet 52 = .ok (.iconst 0, 1) := by decide +kernel
theorem dX8_addPallet_53 : decode cX8_addPallet 53 = .ok (.sipush 9999, 3) := by decide +kernel
theorem dX8_addPallet_56 : decode cX8_addPallet 56 = .ok (.invokestatic 53, 3) := by decide +kernel
theorem dX8_addPallet_59 : decode cX8_addPallet 59 = .ok (.ifCond .eq 5, 3) := by decide +kernel
theorem dX8_addPallet_62 : decode cX8_addPallet 62 = .ok (.iconst (-1), 1) := by decide +kernel
theorem dX8_addPallet_63 : decode cX8_addPallet 63 = .ok (.ireturn, 1) := by decide +kernel
theorem dX8_addPallet_64 : decode cX8_addPallet 64 = .ok (.aload_n 0, 1) := by decide +kernel
theorem dX8_addPallet_65 : decode cX8_addPallet 65 = .ok (.getfield 10, 3) := by decide +kernel
theorem dX8_addPallet_68 : decode cX8_addPallet 68 = .ok (.getfield 93, 3) := by decide +kernel
theorem dX8_addPallet_71 : decode cX8_addPallet 71 = .ok (.bipush 8, 2) := by decide +kernel
theorem dX8_addPallet_73 : decode cX8_addPallet 73 = .ok (.if_icmp .lt 6, 3) := by decide +kernel
theorem dX8_addPallet_76 : decode cX8_addPallet 76 = .ok (.bipush (-3), 2) := by decide +kernel
theorem dX8_addPallet_78 : decode cX8_addPallet 78 = .ok (.ireturn, 1) := by decide +kernel
theorem dX8_addPallet_79 : decode cX8_addPallet 79 = .ok (.aload_n 0, 1) := by decide +kernel
theorem dX8_addPallet_80 : decode cX8_addPallet 80 = .ok (.invokevirtual 60, 3) := by decide +kernel
theorem dX8_addPallet_83 : decode cX8_addPallet 83 = .ok (.aload_n 0, 1) := by decide +kernel
theorem dX8_addPallet_84 : decode cX8_addPallet 84 = .ok (.getfield 10, 3) := by decide +kernel
theorem dX8_addPallet_87 : decode cX8_addPallet 87 = .ok (.iload 5, 2) := by decide +kernel
theorem dX8_addPallet_89 : decode cX8_addPallet 89 = .ok (.invokevirtual 96, 3) := by decide +kernel
theorem dX8_addPallet_92 : decode cX8_addPallet 92 = .ok (.astore 6, 2) := by decide +kernel
theorem dX8_addPallet_94 : decode cX8_addPallet 94 = .ok (.aload 6, 2) := by decide +kernel
theorem dX8_addPallet_96 : decode cX8_addPallet 96 = .ok (.iload_n 1, 1) := by decide +kernel
theorem dX8_addPallet_97 : decode cX8_addPallet 97 = .ok (.iload_n 2, 1) := by decide +kernel
theorem dX8_addPallet_98 : decode cX8_addPallet 98 = .ok (.iload_n 3, 1) := by decide +kernel
theorem dX8_addPallet_99 : decode cX8_addPallet 99 = .ok (.iload 4, 2) := by decide +kernel
theorem dX8_addPallet_101 : decode cX8_addPallet 101 = .ok (.invokevirtual 100, 3) := by decide +kernel
theorem dX8_addPallet_104 : decode cX8_addPallet 104 = .ok (.aload 6, 2) := by decide +kernel
theorem dX8_addPallet_106 : decode cX8_addPallet 106 = .ok (.getfield 106, 3) := by decide +kernel
theorem dX8_addPallet_109 : decode cX8_addPallet 109 = .ok (.ireturn, 1) := by decide +kernel
theorem dX8_waiting_0 : decode cX8_waiting 0 = .ok (.iload_n 1, 1) := by decide +kernel
theorem dX8_waiting_1 : decode cX8_waiting 1 = .ok (.ifCond .lt 12, 3) := by decide +kernel
theorem dX8_waiting_4 : decode cX8_waiting 4 = .ok (.iload_n 2, 1) := by decide +kernel
theorem dX8_waiting_5 : decode cX8_waiting 5 = .ok (.iconst 0, 1) := by decide +kernel
theorem dX8_waiting_6 : decode cX8_waiting 6 = .ok (.iconst 5, 1) := by decide +kernel
theorem dX8_waiting_7 : decode cX8_waiting 7 = .ok (.invokestatic 53, 3) := by decide +kernel
theorem dX8_waiting_10 : decode cX8_waiting 10 = .ok (.ifCond .eq 5, 3) := by decide +kernel
theorem dX8_waiting_13 : decode cX8_waiting 13 = .ok (.iconst (-1), 1) := by decide +kernel
theorem dX8_waiting_14 : decode cX8_waiting 14 = .ok (.ireturn, 1) := by decide +kernel
theorem dX8_waiting_15 : decode cX8_waiting 15 = .ok (.iload_n 1, 1) := by decide +kernel
theorem dX8_waiting_16 : decode cX8_waiting 16 = .ok (.aload_n 0, 1) := by decide +kernel
theorem dX8_waiting_17 : decode cX8_waiting 17 = .ok (.getfield 10, 3) := by decide +kernel
theorem dX8_waiting_20 : decode cX8_waiting 20 = .ok (.getfield 93, 3) := by decide +kernel
theorem dX8_waiting_23 : decode cX8_waiting 23 = .ok (.if_icmp .lt 6, 3) := by decide +kernel
theorem dX8_waiting_26 : decode cX8_waiting 26 = .ok (.bipush (-4), 2) := by decide +kernel
theorem dX8_waiting_28 : decode cX8_waiting 28 = .ok (.ireturn, 1) := by decide +kernel
theorem dX8_waiting_29 : decode cX8_waiting 29 = .ok (.aload_n 0, 1) := by decide +kernel
theorem dX8_waiting_30 : decode cX8_waiting 30 = .ok (.getfield 10, 3) := by decide +kernel
theorem dX8_waiting_33 : decode cX8_waiting 33 = .ok (.getfield 116, 3) := by decide +kernel
theorem dX8_waiting_36 : decode cX8_waiting 36 = .ok (.iload_n 1, 1) := by decide +kernel
theorem dX8_waiting_37 : decode cX8_waiting 37 = .ok (.aaload, 1) := by decide +kernel
theorem dX8_waiting_38 : decode cX8_waiting 38 = .ok (.iload_n 2, 1) := by decide +kernel
theorem dX8_waiting_39 : decode cX8_waiting 39 = .ok (.invokevirtual 120, 3) := by decide +kernel
theorem dX8_waiting_42 : decode cX8_waiting 42 = .ok (.ireturn, 1) := by decide +kernel
theorem dX8_set_0 : decode cX8_set 0 = .ok (.iload_n 1, 1) := by decide +kernel
theorem dX8_set_1 : decode cX8_set 1 = .ok (.iconst 0, 1) := by decide +kernel
theorem dX8_set_2 : decode cX8_set 2 = .ok (.iconst 1, 1) := by decide +kernel
theorem dX8_set_3 : decode cX8_set 3 = .ok (.invokestatic 53, 3) := by decide +kernel
theorem dX8_set_6 : decode cX8_set 6 = .ok (.ifCond .ne 23, 3) := by decide +kernel
theorem dX8_set_9 : decode cX8_set 9 = .ok (.iload_n 2, 1) := by decide +kernel
theorem dX8_set_10 : decode cX8_set 10 = .ok (.iconst 0, 1) := by decide +kernel
theorem dX8_set_11 : decode cX8_set 11 = .ok (.iload_n 1, 1) := by decide +kernel
theorem dX8_set_12 : decode cX8_set 12 = .ok (.ifCond .ne 9, 3) := by decide +kernel
theorem dX8_set_15 : decode cX8_set 15 = .ok (.sipush 500, 3) := by decide +kernel
theorem dX8_set_18 : decode cX8_set 18 = .ok (.goto 5, 3) := by decide +kernel
theorem dX8_set_21 : decode cX8_set 21 = .ok (.bipush 20, 2) := by decide +kernel
theorem dX8_set_23 : decode cX8_set 23 = .ok (.invokestatic 53, 3) := by decide +kernel
theorem dX8_set_26 : decode cX8_set 26 = .ok (.ifCond .eq 5, 3) := by decide +kernel
theorem dX8_set_29 : decode cX8_set 29 = .ok (.iconst (-1), 1) := by decide +kernel
theorem dX8_set_30 : decode cX8_set 30 = .ok (.ireturn, 1) := by decide +kernel
theorem dX8_set_31 : decode cX8_set 31 = .ok (.aload_n 0, 1) := by decide +kernel
theorem dX8_set_32 : decode cX8_set 32 = .ok (.invokevirtual 60, 3) := by decide +kernel
theorem dX8_set_35 : decode cX8_set 35 = .ok (.iload_n 1, 1) := by decide +kernel
theorem dX8_set_36 : decode cX8_set 36 = .ok (.ifCond .ne 13, 3) := by decide +kernel
theorem dX8_set_39 : decode cX8_set 39 = .ok (.aload_n 0, 1) := by decide +kernel
theorem dX8_set_40 : decode cX8_set 40 = .ok (.getfield 10, 3) := by decide +kernel
theorem dX8_set_43 : decode cX8_set 43 = .ok (.getfield 121, 3) := by decide +kernel
theorem dX8_set_46 : decode cX8_set 46 = .ok (.goto 10, 3) := by decide +kernel
theorem dX8_set_49 : decode cX8_set 49 = .ok (.aload_n 0, 1) := by decide +kernel
theorem dX8_set_50 : decode cX8_set 50 = .ok (.getfield 10, 3) := by decide +kernel
theorem dX8_set_53 : decode cX8_set 53 = .ok (.getfield 124, 3) := by decide +kernel
theorem dX8_set_56 : decode cX8_set 56 = .ok (.istore_n 3, 1) := by decide +kernel
theorem dX8_set_57 : decode cX8_set 57 = .ok (.iload_n 1, 1) := by decide +kernel
theorem dX8_set_58 : decode cX8_set 58 = .ok (.ifCond .ne 14, 3) := by decide +kernel
theorem dX8_set_61 : decode cX8_set 61 = .ok (.aload_n 0, 1) := by decide +kernel
theorem dX8_set_62 : decode cX8_set 62 = .ok (.getfield 10, 3) := by decide +kernel
theorem dX8_set_65 : decode cX8_set 65 = .ok (.iload_n 2, 1) := by decide +kernel
theorem dX8_set_66 : decode cX8_set 66 = .ok (.putfield 121, 3) := by decide +kernel
theorem dX8_set_69 : decode cX8_set 69 = .ok (.goto 11, 3) := by decide +kernel
theorem dX8_set_72 : decode cX8_set 72 = .ok (.aload_n 0, 1) := by decide +kernel
theorem dX8_set_73 : decode cX8_set 73 = .ok (.getfield 10, 3) := by decide +kernel
theorem dX8_set_76 : decode cX8_set 76 = .ok (.iload_n 2, 1) := by decide +kernel
theorem dX8_set_77 : decode cX8_set 77 = .ok (.putfield 124, 3) := by decide +kernel
theorem dX8_set_80 : decode cX8_set 80 = .ok (.iload_n 3, 1) := by decide +kernel
theorem dX8_set_81 : decode cX8_set 81 = .ok (.ireturn, 1) := by decide +kernel
theorem dX8_undo_0 : decode cX8_undo 0 = .ok (.aload_n 0, 1) := by decide +kernel
theorem dX8_undo_1 : decode cX8_undo 1 = .ok (.getfield 23, 3) := by decide +kernel
theorem dX8_undo_4 : decode cX8_undo 4 = .ok (.ifCond .ne 6, 3) := by decide +kernel
theorem dX8_undo_7 : decode cX8_undo 7 = .ok (.bipush (-2), 2) := by decide +kernel
theorem dX8_undo_9 : decode cX8_undo 9 = .ok (.ireturn, 1) := by decide +kernel
theorem dX8_undo_10 : decode cX8_undo 10 = .ok (.aload_n 0, 1) := by decide +kernel
theorem dX8_undo_11 : decode cX8_undo 11 = .ok (.dup, 1) := by decide +kernel
theorem dX8_undo_12 : decode cX8_undo 12 = .ok (.getfield 23, 3) := by decide +kernel
theorem dX8_undo_15 : decode cX8_undo 15 = .ok (.iconst 1, 1) := by decide +kernel
theorem dX8_undo_16 : decode cX8_undo 16 = .ok (.isub, 1) := by decide +kernel
theorem dX8_undo_17 : decode cX8_undo 17 = .ok (.putfield 23, 3) := by decide +kernel
theorem dX8_undo_20 : decode cX8_undo 20 = .ok (.aload_n 0, 1) := by decide +kernel
theorem dX8_undo_21 : decode cX8_undo 21 = .ok (.getfield 10, 3) := by decide +kernel
theorem dX8_undo_24 : decode cX8_undo 24 = .ok (.aload_n 0, 1) := by decide +kernel
theorem dX8_undo_25 : decode cX8_undo 25 = .ok (.getfield 19, 3) := by decide +kernel
theorem dX8_undo_28 : decode cX8_undo 28 = .ok (.aload_n 0, 1) := by decide +kernel
theorem dX8_undo_29 : decode cX8_undo 29 = .ok (.getfield 23, 3) := by decide +kernel
theorem dX8_undo_32 : decode cX8_undo 32 = .ok (.aaload, 1) := by decide +kernel
theorem dX8_undo_33 : decode cX8_undo 33 = .ok (.invokevirtual 127, 3) := by decide +kernel
theorem dX8_undo_36 : decode cX8_undo 36 = .ok (.aload_n 0, 1) := by decide +kernel
theorem dX8_undo_37 : decode cX8_undo 37 = .ok (.getfield 23, 3) := by decide +kernel
theorem dX8_undo_40 : decode cX8_undo 40 = .ok (.ireturn, 1) := by decide +kernel
theorem dX8_count_0 : decode cX8_count 0 = .ok (.iload_n 1, 1) := by decide +kernel
theorem dX8_count_1 : decode cX8_count 1 = .ok (.tableswitch 129 0 8 #[51, 59, 67, 78, 89, 97, 105, 110, 118], 51) := by decide +kernel
theorem dX8_count_52 : decode cX8_count 52 = .ok (.aload_n 0, 1) := by decide +kernel
theorem dX8_count_53 : decode cX8_count 53 = .ok (.getfield 10, 3) := by decide +kernel
theorem dX8_count_56 : decode cX8_count 56 = .ok (.getfield 57, 3) := by decide +kernel
theorem dX8_count_59 : decode cX8_count 59 = .ok (.ireturn, 1) := by decide +kernel
theorem dX8_count_60 : decode cX8_count 60 = .ok (.aload_n 0, 1) := by decide +kernel
theorem dX8_count_61 : decode cX8_count 61 = .ok (.getfield 10, 3) := by decide +kernel
theorem dX8_count_64 : decode cX8_count 64 = .ok (.getfield 93, 3) := by decide +kernel
theorem dX8_count_67 : decode cX8_count 67 = .ok (.ireturn, 1) := by decide +kernel
theorem dX8_count_68 : decode cX8_count 68 = .ok (.aload_n 0, 1) := by decide +kernel
theorem dX8_count_69 : decode cX8_count 69 = .ok (.getfield 10, 3) := by decide +kernel
theorem dX8_count_72 : decode cX8_count 72 = .ok (.getfield 131, 3) := by decide +kernel
theorem dX8_count_75 : decode cX8_count 75 = .ok (.getfield 135, 3) := by decide +kernel
theorem dX8_count_78 : decode cX8_count 78 = .ok (.ireturn, 1) := by decide +kernel
theorem dX8_count_79 : decode cX8_count 79 = .ok (.aload_n 0, 1) := by decide +kernel
theorem dX8_count_80 : decode cX8_count 80 = .ok (.getfield 10, 3) := by decide +kernel
theorem dX8_count_83 : decode cX8_count 83 = .ok (.getfield 139, 3) := by decide +kernel
theorem dX8_count_86 : decode cX8_count 86 = .ok (.getfield 142, 3) := by decide +kernel
theorem dX8_count_89 : decode cX8_count 89 = .ok (.ireturn, 1) := by decide +kernel
theorem dX8_count_90 : decode cX8_count 90 = .ok (.aload_n 0, 1) := by decide +kernel
theorem dX8_count_91 : decode cX8_count 91 = .ok (.getfield 10, 3) := by decide +kernel
theorem dX8_count_94 : decode cX8_count 94 = .ok (.getfield 121, 3) := by decide +kernel
theorem dX8_count_97 : decode cX8_count 97 = .ok (.ireturn, 1) := by decide +kernel
theorem dX8_count_98 : decode cX8_count 98 = .ok (.aload_n 0, 1) := by decide +kernel
theorem dX8_count_99 : decode cX8_count 99 = .ok (.getfield 10, 3) := by decide +kernel
theorem dX8_count_102 : decode cX8_count 102 = .ok (.getfield 124, 3) := by decide +kernel
theorem dX8_count_105 : decode cX8_count 105 = .ok (.ireturn, 1) := by decide +kernel
theorem dX8_count_106 : decode cX8_count 106 = .ok (.aload_n 0, 1) := by decide +kernel
theorem dX8_count_107 : decode cX8_count 107 = .ok (.getfield 23, 3) := by decide +kernel
theorem dX8_count_110 : decode cX8_count 110 = .ok (.ireturn, 1) := by decide +kernel
theorem dX8_count_111 : decode cX8_count 111 = .ok (.aload_n 0, 1) := by decide +kernel
theorem dX8_count_112 : decode cX8_count 112 = .ok (.getfield 30, 3) := by decide +kernel
theorem dX8_count_115 : decode cX8_count 115 = .ok (.getfield 145, 3) := by decide +kernel
theorem dX8_count_118 : decode cX8_count 118 = .ok (.ireturn, 1) := by decide +kernel
theorem dX8_count_119 : decode cX8_count 119 = .ok (.aload_n 0, 1) := by decide +kernel
theorem dX8_count_120 : decode cX8_count 120 = .ok (.getfield 10, 3) := by decide +kernel
theorem dX8_count_123 : decode cX8_count 123 = .ok (.getfield 131, 3) := by decide +kernel
theorem dX8_count_126 : decode cX8_count 126 = .ok (.getfield 146, 3) := by decide +kernel
theorem dX8_count_129 : decode cX8_count 129 = .ok (.ireturn, 1) := by decide +kernel
theorem dX8_count_130 : decode cX8_count 130 = .ok (.iconst (-1), 1) := by decide +kernel
theorem dX8_count_131 : decode cX8_count 131 = .ok (.ireturn, 1) := by decide +kernel
theorem dX8_type_0 : decode cX8_type 0 = .ok (.iload_n 1, 1) := by decide +kernel
theorem dX8_type_1 : decode cX8_type 1 = .ok (.bipush 32, 2) := by decide +kernel
theorem dX8_type_3 : decode cX8_type 3 = .ok (.bipush 126, 2) := by decide +kernel
theorem dX8_type_5 : decode cX8_type 5 = .ok (.invokestatic 53, 3) := by decide +kernel
theorem dX8_type_8 : decode cX8_type 8 = .ok (.ifCond .eq 5, 3) := by decide +kernel
theorem dX8_type_11 : decode cX8_type 11 = .ok (.iconst (-1), 1) := by decide +kernel
theorem dX8_type_12 : decode cX8_type 12 = .ok (.ireturn, 1) := by decide +kernel
theorem dX8_type_13 : decode cX8_type 13 = .ok (.aload_n 0, 1) := by decide +kernel
theorem dX8_type_14 : decode cX8_type 14 = .ok (.getfield 30, 3) := by decide +kernel
theorem dX8_type_17 : decode cX8_type 17 = .ok (.getfield 145, 3) := by decide +kernel
theorem dX8_type_20 : decode cX8_type 20 = .ok (.bipush 100, 2) := by decide +kernel
theorem dX8_type_22 : decode cX8_type 22 = .ok (.if_icmp .lt 6, 3) := by decide +kernel
theorem dX8_type_25 : decode cX8_type 25 = .ok (.bipush (-3), 2) := by decide +kernel
theorem dX8_type_27 : decode cX8_type 27 = .ok (.ireturn, 1) := by decide +kernel
theorem dX8_type_28 : decode cX8_type 28 = .ok (.aload_n 0, 1) := by decide +kernel
theorem dX8_type_29 : decode cX8_type 29 = .ok (.getfield 30, 3) := by decide +kernel
theorem dX8_type_32 : decode cX8_type 32 = .ok (.iload_n 1, 1) := by decide +kernel
theorem dX8_type_33 : decode cX8_type 33 = .ok (.i2c, 1) := by decide +kernel
theorem dX8_type_34 : decode cX8_type 34 = .ok (.invokevirtual 149, 3) := by decide +kernel
theorem dX8_type_37 : decode cX8_type 37 = .ok (.aload_n 0, 1) := by decide +kernel
theorem dX8_type_38 : decode cX8_type 38 = .ok (.getfield 30, 3) := by decide +kernel
theorem dX8_type_41 : decode cX8_type 41 = .ok (.getfield 145, 3) := by decide +kernel
theorem dX8_type_44 : decode cX8_type 44 = .ok (.ireturn, 1) := by decide +kernel
theorem dX8_clearText_0 : decode cX8_clearText 0 = .ok (.aload_n 0, 1) := by decide +kernel
theorem dX8_clearText_1 : decode cX8_clearText 1 = .ok (.getfield 30, 3) := by decide +kernel
theorem dX8_clearText_4 : decode cX8_clearText 4 = .ok (.getfield 145, 3) := by decide +kernel
theorem dX8_clearText_7 : decode cX8_clearText 7 = .ok (.istore_n 1, 1) := by decide +kernel
theorem dX8_clearText_8 : decode cX8_clearText 8 = .ok (.aload_n 0, 1) := by decide +kernel
theorem dX8_clearText_9 : decode cX8_clearText 9 = .ok (.getfield 30, 3) := by decide +kernel
theorem dX8_clearText_12 : decode cX8_clearText 12 = .ok (.iconst 0, 1) := by decide +kernel
theorem dX8_clearText_13 : decode cX8_clearText 13 = .ok (.putfield 145, 3) := by decide +kernel
theorem dX8_clearText_16 : decode cX8_clearText 16 = .ok (.iload_n 1, 1) := by decide +kernel
theorem dX8_clearText_17 : decode cX8_clearText 17 = .ok (.ireturn, 1) := by decide +kernel
theorem dX8_fault_0 : decode cX8_fault 0 = .ok (.aload_n 0, 1) := by decide +kernel
theorem dX8_fault_1 : decode cX8_fault 1 = .ok (.getfield 30, 3) := by decide +kernel
theorem dX8_fault_4 : decode cX8_fault 4 = .ok (.aload_n 0, 1) := by decide +kernel
theorem dX8_fault_5 : decode cX8_fault 5 = .ok (.getfield 37, 3) := by decide +kernel
theorem dX8_fault_8 : decode cX8_fault 8 = .ok (.invokevirtual 153, 3) := by decide +kernel
theorem dX8_fault_11 : decode cX8_fault 11 = .ok (.istore_n 1, 1) := by decide +kernel
theorem dX8_fault_12 : decode cX8_fault 12 = .ok (.iload_n 1, 1) := by decide +kernel
theorem dX8_fault_13 : decode cX8_fault 13 = .ok (.iconst (-1), 1) := by decide +kernel
theorem dX8_fault_14 : decode cX8_fault 14 = .ok (.if_icmp .ne 8, 3) := by decide +kernel
theorem dX8_fault_17 : decode cX8_fault 17 = .ok (.bipush (-4), 2) := by decide +kernel
theorem dX8_fault_19 : decode cX8_fault 19 = .ok (.goto 4, 3) := by decide +kernel
theorem dX8_fault_22 : decode cX8_fault 22 = .ok (.iload_n 1, 1) := by decide +kernel
theorem dX8_fault_23 : decode cX8_fault 23 = .ok (.ireturn, 1) := by decide +kernel
theorem dX8_load_0 : decode cX8_load 0 = .ok (.aload_n 0, 1) := by decide +kernel
theorem dX8_load_1 : decode cX8_load 1 = .ok (.getfield 30, 3) := by decide +kernel
theorem dX8_load_4 : decode cX8_load 4 = .ok (.aload_n 0, 1) := by decide +kernel
theorem dX8_load_5 : decode cX8_load 5 = .ok (.getfield 37, 3) := by decide +kernel
theorem dX8_load_8 : decode cX8_load 8 = .ok (.invokevirtual 153, 3) := by decide +kernel
theorem dX8_load_11 : decode cX8_load 11 = .ok (.iconst (-1), 1) := by decide +kernel
theorem dX8_load_12 : decode cX8_load 12 = .ok (.if_icmp .eq 6, 3) := by decide +kernel
theorem dX8_load_15 : decode cX8_load 15 = .ok (.bipush (-2), 2) := by decide +kernel
theorem dX8_load_17 : decode cX8_load 17 = .ok (.ireturn, 1) := by decide +kernel
theorem dX8_load_18 : decode cX8_load 18 = .ok (.aload_n 0, 1) := by decide +kernel
theorem dX8_load_19 : decode cX8_load 19 = .ok (.invokevirtual 60, 3) := by decide +kernel
theorem dX8_load_22 : decode cX8_load 22 = .ok (.aload_n 0, 1) := by decide +kernel
theorem dX8_load_23 : decode cX8_load 23 = .ok (.getfield 10, 3) := by decide +kernel
theorem dX8_load_26 : decode cX8_load 26 = .ok (.getfield 139, 3) := by decide +kernel
theorem dX8_load_29 : decode cX8_load 29 = .ok (.aload_n 0, 1) := by decide +kernel
theorem dX8_load_30 : decode cX8_load 30 = .ok (.getfield 37, 3) := by decide +kernel
theorem dX8_load_33 : decode cX8_load 33 = .ok (.invokevirtual 157, 3) := by decide +kernel
theorem dX8_load_36 : decode cX8_load 36 = .ok (.aload_n 0, 1) := by decide +kernel
theorem dX8_load_37 : decode cX8_load 37 = .ok (.getfield 10, 3) := by decide +kernel
theorem dX8_load_40 : decode cX8_load 40 = .ok (.getfield 139, 3) := by decide +kernel
theorem dX8_load_43 : decode cX8_load 43 = .ok (.getfield 142, 3) := by decide +kernel
theorem dX8_load_46 : decode cX8_load 46 = .ok (.ireturn, 1) := by decide +kernel
theorem dX8_step_0 : decode cX8_step 0 = .ok (.iload_n 1, 1) := by decide +kernel
theorem dX8_step_1 : decode cX8_step 1 = .ok (.ifCond .lt 12, 3) := by decide +kernel
theorem dX8_step_4 : decode cX8_step 4 = .ok (.iload_n 2, 1) := by decide +kernel
theorem dX8_step_5 : decode cX8_step 5 = .ok (.iconst 0, 1) := by decide +kernel
theorem dX8_step_6 : decode cX8_step 6 = .ok (.iconst 1, 1) := by decide +kernel
theorem dX8_step_7 : decode cX8_step 7 = .ok (.invokestatic 53, 3) := by decide +kernel
theorem dX8_step_10 : decode cX8_step 10 = .ok (.ifCond .eq 5, 3) := by decide +kernel
theorem dX8_step_13 : decode cX8_step 13 = .ok (.iconst (-1), 1) := by decide +kernel
theorem dX8_step_14 : decode cX8_step 14 = .ok (.ireturn, 1) := by decide +kernel
theorem dX8_step_15 : decode cX8_step 15 = .ok (.iload_n 1, 1) := by decide +kernel
theorem dX8_step_16 : decode cX8_step 16 = .ok (.aload_n 0, 1) := by decide +kernel
theorem dX8_step_17 : decode cX8_step 17 = .ok (.getfield 10, 3) := by decide +kernel
theorem dX8_step_20 : decode cX8_step 20 = .ok (.getfield 139, 3) := by decide +kernel
theorem dX8_step_23 : decode cX8_step 23 = .ok (.getfield 142, 3) := by decide +kernel
theorem dX8_step_26 : decode cX8_step 26 = .ok (.if_icmp .lt 6, 3) := by decide +kernel
theorem dX8_step_29 : decode cX8_step 29 = .ok (.bipush (-4), 2) := by decide +kernel
theorem dX8_step_31 : decode cX8_step 31 = .ok (.ireturn, 1) := by decide +kernel
theorem dX8_step_32 : decode cX8_step 32 = .ok (.iload_n 2, 1) := by decide +kernel
theorem dX8_step_33 : decode cX8_step 33 = .ok (.ifCond .ne 18, 3) := by decide +kernel
theorem dX8_step_36 : decode cX8_step 36 = .ok (.aload_n 0, 1) := by decide +kernel
theorem dX8_step_37 : decode cX8_step 37 = .ok (.getfield 10, 3) := by decide +kernel
theorem dX8_step_40 : decode cX8_step 40 = .ok (.getfield 139, 3) := by decide +kernel
theorem dX8_step_43 : decode cX8_step 43 = .ok (.getfield 160, 3) := by decide +kernel
theorem dX8_step_46 : decode cX8_step 46 = .ok (.iload_n 1, 1) := by decide +kernel
theorem dX8_step_47 : decode cX8_step 47 = .ok (.iaload, 1) := by decide +kernel
theorem dX8_step_48 : decode cX8_step 48 = .ok (.goto 15, 3) := by decide +kernel
theorem dX8_step_51 : decode cX8_step 51 = .ok (.aload_n 0, 1) := by decide +kernel
theorem dX8_step_52 : decode cX8_step 52 = .ok (.getfield 10, 3) := by decide +kernel
theorem dX8_step_55 : decode cX8_step 55 = .ok (.getfield 139, 3) := by decide +kernel
theorem dX8_step_58 : decode cX8_step 58 = .ok (.getfield 163, 3) := by decide +kernel
theorem dX8_step_61 : decode cX8_step 61 = .ok (.iload_n 1, 1) := by decide +kernel
theorem dX8_step_62 : decode cX8_step 62 = .ok (.iaload, 1) := by decide +kernel
theorem dX8_step_63 : decode cX8_step 63 = .ok (.ireturn, 1) := by decide +kernel
theorem dX8_write_0 : decode cX8_write 0 = .ok (.aload_n 0, 1) := by decide +kernel
theorem dX8_write_1 : decode cX8_write 1 = .ok (.getfield 30, 3) := by decide +kernel
theorem dX8_write_4 : decode cX8_write 4 = .ok (.aload_n 0, 1) := by decide +kernel
theorem dX8_write_5 : decode cX8_write 5 = .ok (.getfield 10, 3) := by decide +kernel
theorem dX8_write_8 : decode cX8_write 8 = .ok (.getfield 139, 3) := by decide +kernel
theorem dX8_write_11 : decode cX8_write 11 = .ok (.invokevirtual 166, 3) := by decide +kernel
theorem dX8_write_14 : decode cX8_write 14 = .ok (.aload_n 0, 1) := by decide +kernel
theorem dX8_write_15 : decode cX8_write 15 = .ok (.getfield 30, 3) := by decide +kernel
theorem dX8_write_18 : decode cX8_write 18 = .ok (.getfield 145, 3) := by decide +kernel
theorem dX8_write_21 : decode cX8_write 21 = .ok (.ireturn, 1) := by decide +kernel
theorem dX8_textAt_0 : decode cX8_textAt 0 = .ok (.iload_n 1, 1) := by decide +kernel
theorem dX8_textAt_1 : decode cX8_textAt 1 = .ok (.ifCond .ge 5, 3) := by decide +kernel
theorem dX8_textAt_4 : decode cX8_textAt 4 = .ok (.iconst (-1), 1) := by decide +kernel
theorem dX8_textAt_5 : decode cX8_textAt 5 = .ok (.ireturn, 1) := by decide +kernel
theorem dX8_textAt_6 : decode cX8_textAt 6 = .ok (.iload_n 1, 1) := by decide +kernel
theorem dX8_textAt_7 : decode cX8_textAt 7 = .ok (.aload_n 0, 1) := by decide +kernel
theorem dX8_textAt_8 : decode cX8_textAt 8 = .ok (.getfield 30, 3) := by decide +kernel
theorem dX8_textAt_11 : decode cX8_textAt 11 = .ok (.getfield 145, 3) := by decide +kernel
theorem dX8_textAt_14 : decode cX8_textAt 14 = .ok (.if_icmp .lt 6, 3) := by decide +kernel
theorem dX8_textAt_17 : decode cX8_textAt 17 = .ok (.bipush (-4), 2) := by decide +kernel
theorem dX8_textAt_19 : decode cX8_textAt 19 = .ok (.ireturn, 1) := by decide +kernel
theorem dX8_textAt_20 : decode cX8_textAt 20 = .ok (.aload_n 0, 1) := by decide +kernel
theorem dX8_textAt_21 : decode cX8_textAt 21 = .ok (.getfield 30, 3) := by decide +kernel
theorem dX8_textAt_24 : decode cX8_textAt 24 = .ok (.getfield 169, 3) := by decide +kernel
theorem dX8_textAt_27 : decode cX8_textAt 27 = .ok (.iload_n 1, 1) := by decide +kernel
theorem dX8_textAt_28 : decode cX8_textAt 28 = .ok (.caload, 1) := by decide +kernel
theorem dX8_textAt_29 : decode cX8_textAt 29 = .ok (.ireturn, 1) := by decide +kernel
theorem dX8_wrap_0 : decode cX8_wrap 0 = .ok (.aload_n 0, 1) := by decide +kernel
theorem dX8_wrap_1 : decode cX8_wrap 1 = .ok (.getfield 10, 3) := by decide +kernel
theorem dX8_wrap_4 : decode cX8_wrap 4 = .ok (.getfield 93, 3) := by decide +kernel
theorem dX8_wrap_7 : decode cX8_wrap 7 = .ok (.ifCond .ne 6, 3) := by decide +kernel
theorem dX8_wrap_10 : decode cX8_wrap 10 = .ok (.bipush (-2), 2) := by decide +kernel
theorem dX8_wrap_12 : decode cX8_wrap 12 = .ok (.ireturn, 1) := by decide +kernel
theorem dX8_wrap_13 : decode cX8_wrap 13 = .ok (.aload_n 0, 1) := by decide +kernel
theorem dX8_wrap_14 : decode cX8_wrap 14 = .ok (.invokevirtual 60, 3) := by decide +kernel
theorem dX8_wrap_17 : decode cX8_wrap 17 = .ok (.aload_n 0, 1) := by decide +kernel
theorem dX8_wrap_18 : decode cX8_wrap 18 = .ok (.getfield 10, 3) := by decide +kernel
theorem dX8_wrap_21 : decode cX8_wrap 21 = .ok (.aload_n 0, 1) := by decide +kernel
theorem dX8_wrap_22 : decode cX8_wrap 22 = .ok (.getfield 44, 3) := by decide +kernel
theorem dX8_wrap_25 : decode cX8_wrap 25 = .ok (.invokevirtual 173, 3) := by decide +kernel
theorem dX8_wrap_28 : decode cX8_wrap 28 = .ok (.ireturn, 1) := by decide +kernel
theorem dX8_done_0 : decode cX8_done 0 = .ok (.iload_n 1, 1) := by decide +kernel
theorem dX8_done_1 : decode cX8_done 1 = .ok (.ifCond .lt 13, 3) := by decide +kernel
theorem dX8_done_4 : decode cX8_done 4 = .ok (.iload_n 2, 1) := by decide +kernel
theorem dX8_done_5 : decode cX8_done 5 = .ok (.iconst 0, 1) := by decide +kernel
theorem dX8_done_6 : decode cX8_done 6 = .ok (.bipush 12, 2) := by decide +kernel
theorem dX8_done_8 : decode cX8_done 8 = .ok (.invokestatic 53, 3) := by decide +kernel
theorem dX8_done_11 : decode cX8_done 11 = .ok (.ifCond .eq 5, 3) := by decide +kernel
theorem dX8_done_14 : decode cX8_done 14 = .ok (.iconst (-1), 1) := by decide +kernel
theorem dX8_done_15 : decode cX8_done 15 = .ok (.ireturn, 1) := by decide +kernel
theorem dX8_done_16 : decode cX8_done 16 = .ok (.iload_n 1, 1) := by decide +kernel
theorem dX8_done_17 : decode cX8_done 17 = .ok (.aload_n 0, 1) := by decide +kernel
theorem dX8_done_18 : decode cX8_done 18 = .ok (.getfield 10, 3) := by decide +kernel
theorem dX8_done_21 : decode cX8_done 21 = .ok (.getfield 184, 3) := by decide +kernel
theorem dX8_done_24 : decode cX8_done 24 = .ok (.if_icmp .lt 6, 3) := by decide +kernel
theorem dX8_done_27 : decode cX8_done 27 = .ok (.bipush (-4), 2) := by decide +kernel
theorem dX8_done_29 : decode cX8_done 29 = .ok (.ireturn, 1) := by decide +kernel
theorem dX8_done_30 : decode cX8_done 30 = .ok (.aload_n 0, 1) := by decide +kernel
theorem dX8_done_31 : decode cX8_done 31 = .ok (.getfield 10, 3) := by decide +kernel
theorem dX8_done_34 : decode cX8_done 34 = .ok (.getfield 177, 3) := by decide +kernel
theorem dX8_done_37 : decode cX8_done 37 = .ok (.iload_n 1, 1) := by decide +kernel
theorem dX8_done_38 : decode cX8_done 38 = .ok (.aaload, 1) := by decide +kernel
theorem dX8_done_39 : decode cX8_done 39 = .ok (.iload_n 2, 1) := by decide +kernel
theorem dX8_done_40 : decode cX8_done 40 = .ok (.invokevirtual 181, 3) := by decide +kernel
theorem dX8_done_43 : decode cX8_done 43 = .ok (.ireturn, 1) := by decide +kernel
theorem dX8_total_0 : decode cX8_total 0 = .ok (.iload_n 1, 1) := by decide +kernel
theorem dX8_total_1 : decode cX8_total 1 = .ok (.iconst 0, 1) := by decide +kernel
theorem dX8_total_2 : decode cX8_total 2 = .ok (.bipush 9, 2) := by decide +kernel
theorem dX8_total_4 : decode cX8_total 4 = .ok (.invokestatic 53, 3) := by decide +kernel
theorem dX8_total_7 : decode cX8_total 7 = .ok (.ifCond .eq 5, 3) := by decide +kernel
theorem dX8_total_10 : decode cX8_total 10 = .ok (.iconst (-1), 1) := by decide +kernel
theorem dX8_total_11 : decode cX8_total 11 = .ok (.ireturn, 1) := by decide +kernel
theorem dX8_total_12 : decode cX8_total 12 = .ok (.aload_n 0, 1) := by decide +kernel
theorem dX8_total_13 : decode cX8_total 13 = .ok (.getfield 10, 3) := by decide +kernel
theorem dX8_total_16 : decode cX8_total 16 = .ok (.getfield 131, 3) := by decide +kernel
theorem dX8_total_19 : decode cX8_total 19 = .ok (.iload_n 1, 1) := by decide +kernel
theorem dX8_total_20 : decode cX8_total 20 = .ok (.invokevirtual 196, 3) := by decide +kernel
theorem dX8_total_23 : decode cX8_total 23 = .ok (.ireturn, 1) := by decide +kernel
theorem dX8_weight_0 : decode cX8_weight 0 = .ok (.aload_n 0, 1) := by decide +kernel
theorem dX8_weight_1 : decode cX8_weight 1 = .ok (.getfield 10, 3) := by decide +kernel
theorem dX8_weight_4 : decode cX8_weight 4 = .ok (.getfield 131, 3) := by decide +kernel
theorem dX8_weight_7 : decode cX8_weight 7 = .ok (.getfield 197, 3) := by decide +kernel
theorem dX8_weight_10 : decode cX8_weight 10 = .ok (.lreturn, 1) := by decide +kernel
theorem dX8_outside_0 : decode cX8_outside 0 = .ok (.iload_n 0, 1) := by decide +kernel
theorem dX8_outside_1 : decode cX8_outside 1 = .ok (.iload_n 1, 1) := by decide +kernel
theorem dX8_outside_2 : decode cX8_outside 2 = .ok (.if_icmp .lt 8, 3) := by decide +kernel
theorem dX8_outside_5 : decode cX8_outside 5 = .ok (.iload_n 0, 1) := by decide +kernel
theorem dX8_outside_6 : decode cX8_outside 6 = .ok (.iload_n 2, 1) := by decide +kernel
theorem dX8_outside_7 : decode cX8_outside 7 = .ok (.if_icmp .le 7, 3) := by decide +kernel
theorem dX8_outside_10 : decode cX8_outside 10 = .ok (.iconst 1, 1) := by decide +kernel
theorem dX8_outside_11 : decode cX8_outside 11 = .ok (.goto 4, 3) := by decide +kernel
theorem dX8_outside_14 : decode cX8_outside 14 = .ok (.iconst 0, 1) := by decide +kernel
theorem dX8_outside_15 : decode cX8_outside 15 = .ok (.ireturn, 1) := by decide +kernel
theorem dX8_roundedUp_0 : decode cX8_roundedUp 0 = .ok (.iload_n 1, 1) := by decide +kernel
theorem dX8_roundedUp_1 : decode cX8_roundedUp 1 = .ok (.ifCond .le 13, 3) := by decide +kernel
theorem dX8_roundedUp_4 : decode cX8_roundedUp 4 = .ok (.iload_n 0, 1) := by decide +kernel
theorem dX8_roundedUp_5 : decode cX8_roundedUp 5 = .ok (.iload_n 1, 1) := by decide +kernel
theorem dX8_roundedUp_6 : decode cX8_roundedUp 6 = .ok (.iadd, 1) := by decide +kernel
theorem dX8_roundedUp_7 : decode cX8_roundedUp 7 = .ok (.iconst 1, 1) := by decide +kernel
theorem dX8_roundedUp_8 : decode cX8_roundedUp 8 = .ok (.isub, 1) := by decide +kernel
theorem dX8_roundedUp_9 : decode cX8_roundedUp 9 = .ok (.iload_n 1, 1) := by decide +kernel
theorem dX8_roundedUp_10 : decode cX8_roundedUp 10 = .ok (.idiv, 1) := by decide +kernel
theorem dX8_roundedUp_11 : decode cX8_roundedUp 11 = .ok (.goto 4, 3) := by decide +kernel
theorem dX8_roundedUp_14 : decode cX8_roundedUp 14 = .ok (.iconst 0, 1) := by decide +kernel
theorem dX8_roundedUp_15 : decode cX8_roundedUp 15 = .ok (.ireturn, 1) := by decide +kernel
theorem dX8_least_0 : decode cX8_least 0 = .ok (.aload_n 0, 1) := by decide +kernel
theorem dX8_least_1 : decode cX8_least 1 = .ok (.arraylength, 1) := by decide +kernel
theorem dX8_least_2 : decode cX8_least 2 = .ok (.ifCond .le 9, 3) := by decide +kernel
theorem dX8_least_5 : decode cX8_least 5 = .ok (.aload_n 0, 1) := by decide +kernel
theorem dX8_least_6 : decode cX8_least 6 = .ok (.iconst 0, 1) := by decide +kernel
theorem dX8_least_7 : decode cX8_least 7 = .ok (.iaload, 1) := by decide +kernel
theorem dX8_least_8 : decode cX8_least 8 = .ok (.goto 4, 3) := by decide +kernel
theorem dX8_least_11 : decode cX8_least 11 = .ok (.iconst 0, 1) := by decide +kernel
theorem dX8_least_12 : decode cX8_least 12 = .ok (.istore_n 2, 1) := by decide +kernel
theorem dX8_least_13 : decode cX8_least 13 = .ok (.iconst 1, 1) := by decide +kernel
theorem dX8_least_14 : decode cX8_least 14 = .ok (.istore_n 3, 1) := by decide +kernel
theorem dX8_least_15 : decode cX8_least 15 = .ok (.iload_n 3, 1) := by decide +kernel
theorem dX8_least_16 : decode cX8_least 16 = .ok (.iload_n 1, 1) := by decide +kernel
theorem dX8_least_17 : decode cX8_least 17 = .ok (.if_icmp .ge 23, 3) := by decide +kernel
theorem dX8_least_20 : decode cX8_least 20 = .ok (.iload_n 3, 1) := by decide +kernel
theorem dX8_least_21 : decode cX8_least 21 = .ok (.aload_n 0, 1) := by decide +kernel
theorem dX8_least_22 : decode cX8_least 22 = .ok (.arraylength, 1) := by decide +kernel
theorem dX8_least_23 : decode cX8_least 23 = .ok (.if_icmp .ge 17, 3) := by decide +kernel
theorem dX8_least_26 : decode cX8_least 26 = .ok (.iload_n 2, 1) := by decide +kernel
theorem dX8_least_27 : decode cX8_least 27 = .ok (.aload_n 0, 1) := by decide +kernel
theorem dX8_least_28 : decode cX8_least 28 = .ok (.iload_n 3, 1) := by decide +kernel
theorem dX8_least_29 : decode cX8_least 29 = .ok (.iaload, 1) := by decide +kernel
theorem dX8_least_30 : decode cX8_least 30 = .ok (.invokestatic 221, 3) := by decide +kernel
theorem dX8_least_33 : decode cX8_least 33 = .ok (.istore_n 2, 1) := by decide +kernel
theorem dX8_least_34 : decode cX8_least 34 = .ok (.iinc 3 1, 3) := by decide +kernel
theorem dX8_least_37 : decode cX8_least 37 = .ok (.goto (-22), 3) := by decide +kernel
theorem dX8_least_40 : decode cX8_least 40 = .ok (.iload_n 2, 1) := by decide +kernel
theorem dX8_least_41 : decode cX8_least 41 = .ok (.ireturn, 1) := by decide +kernel
theorem dX8_forceOf_0 : decode cX8_forceOf 0 = .ok (.iload_n 0, 1) := by decide +kernel
theorem dX8_forceOf_1 : decode cX8_forceOf 1 = .ok (.sipush 141, 3) := by decide +kernel
theorem dX8_forceOf_4 : decode cX8_forceOf 4 = .ok (.imul, 1) := by decide +kernel
theorem dX8_forceOf_5 : decode cX8_forceOf 5 = .ok (.bipush 100, 2) := by decide +kernel
theorem dX8_forceOf_7 : decode cX8_forceOf 7 = .ok (.idiv, 1) := by decide +kernel
theorem dX8_forceOf_8 : decode cX8_forceOf 8 = .ok (.ireturn, 1) := by decide +kernel
theorem dX8_greatestTension_0 : decode cX8_greatestTension 0 = .ok (.iload_n 0, 1) := by decide +kernel
theorem dX8_greatestTension_1 : decode cX8_greatestTension 1 = .ok (.bipush 100, 2) := by decide +kernel
theorem dX8_greatestTension_3 : decode cX8_greatestTension 3 = .ok (.iload_n 1, 1) := by decide +kernel
theorem dX8_greatestTension_4 : decode cX8_greatestTension 4 = .ok (.imul, 1) := by decide +kernel
theorem dX8_greatestTension_5 : decode cX8_greatestTension 5 = .ok (.bipush 99, 2) := by decide +kernel
theorem dX8_greatestTension_7 : decode cX8_greatestTension 7 = .ok (.iadd, 1) := by decide +kernel
theorem dX8_greatestTension_8 : decode cX8_greatestTension 8 = .ok (.sipush 141, 3) := by decide +kernel
theorem dX8_greatestTension_11 : decode cX8_greatestTension 11 = .ok (.idiv, 1) := by decide +kernel
theorem dX8_greatestTension_12 : decode cX8_greatestTension 12 = .ok (.invokestatic 221, 3) := by decide +kernel
theorem dX8_greatestTension_15 : decode cX8_greatestTension 15 = .ok (.ireturn, 1) := by decide +kernel
theorem dX8_firstZone_0 : decode cX8_firstZone 0 = .ok (.iload_n 0, 1) := by decide +kernel
theorem dX8_firstZone_1 : decode cX8_firstZone 1 = .ok (.bipush 10, 2) := by decide +kernel
theorem dX8_firstZone_3 : decode cX8_firstZone 3 = .ok (.idiv, 1) := by decide +kernel
theorem dX8_firstZone_4 : decode cX8_firstZone 4 = .ok (.ireturn, 1) := by decide +kernel
theorem dX8_zonesEnd_0 : decode cX8_zonesEnd 0 = .ok (.iload_n 1, 1) := by decide +kernel
theorem dX8_zonesEnd_1 : decode cX8_zonesEnd 1 = .ok (.iload_n 0, 1) := by decide +kernel
theorem dX8_zonesEnd_2 : decode cX8_zonesEnd 2 = .ok (.bipush 50, 2) := by decide +kernel
theorem dX8_zonesEnd_4 : decode cX8_zonesEnd 4 = .ok (.iadd, 1) := by decide +kernel
theorem dX8_zonesEnd_5 : decode cX8_zonesEnd 5 = .ok (.bipush 10, 2) := by decide +kernel
theorem dX8_zonesEnd_7 : decode cX8_zonesEnd 7 = .ok (.invokestatic 226, 3) := by decide +kernel
theorem dX8_zonesEnd_10 : decode cX8_zonesEnd 10 = .ok (.invokestatic 221, 3) := by decide +kernel
theorem dX8_zonesEnd_13 : decode cX8_zonesEnd 13 = .ok (.ireturn, 1) := by decide +kernel
theorem dX8_nameOf_0 : decode cX8_nameOf 0 = .ok (.iload_n 0, 1) := by decide +kernel
theorem dX8_nameOf_1 : decode cX8_nameOf 1 = .ok (.tableswitch 43 0 3 #[31, 34, 37, 40], 31) := by decide +kernel
theorem dX8_nameOf_32 : decode cX8_nameOf 32 = .ok (.ldc 229, 2) := by decide +kernel
theorem dX8_nameOf_34 : decode cX8_nameOf 34 = .ok (.areturn, 1) := by decide +kernel
theorem dX8_nameOf_35 : decode cX8_nameOf 35 = .ok (.ldc 231, 2) := by decide +kernel
theorem dX8_nameOf_37 : decode cX8_nameOf 37 = .ok (.areturn, 1) := by decide +kernel
theorem dX8_nameOf_38 : decode cX8_nameOf 38 = .ok (.ldc 233, 2) := by decide +kernel
theorem dX8_nameOf_40 : decode cX8_nameOf 40 = .ok (.areturn, 1) := by decide +kernel
theorem dX8_nameOf_41 : decode cX8_nameOf 41 = .ok (.ldc 235, 2) := by decide +kernel
theorem dX8_nameOf_43 : decode cX8_nameOf 43 = .ok (.areturn, 1) := by decide +kernel
theorem dX8_nameOf_44 : decode cX8_nameOf 44 = .ok (.ldc 237, 2) := by decide +kernel
theorem dX8_nameOf_46 : decode cX8_nameOf 46 = .ok (.areturn, 1) := by decide +kernel
theorem dX8_record_0 : decode cX8_record 0 = .ok (.aload_n 0, 1) := by decide +kernel
theorem dX8_record_1 : decode cX8_record 1 = .ok (.getfield 23, 3) := by decide +kernel
theorem dX8_record_4 : decode cX8_record 4 = .ok (.iconst 4, 1) := by decide +kernel
theorem dX8_record_5 : decode cX8_record 5 = .ok (.if_icmp .ne 54, 3) := by decide +kernel
theorem dX8_record_8 : decode cX8_record 8 = .ok (.aload_n 0, 1) := by decide +kernel
theorem dX8_record_9 : decode cX8_record 9 = .ok (.getfield 19, 3) := by decide +kernel
theorem dX8_record_12 : decode cX8_record 12 = .ok (.iconst 0, 1) := by decide +kernel
theorem dX8_record_13 : decode cX8_record 13 = .ok (.aaload, 1) := by decide +kernel
theorem dX8_record_14 : decode cX8_record 14 = .ok (.astore_n 1, 1) := by decide +kernel
theorem dX8_record_15 : decode cX8_record 15 = .ok (.iconst 1, 1) := by decide +kernel
theorem dX8_record_16 : decode cX8_record 16 = .ok (.istore_n 2, 1) := by decide +kernel
theorem dX8_record_17 : decode cX8_record 17 = .ok (.iload_n 2, 1) := by decide +kernel
theorem dX8_record_18 : decode cX8_record 18 = .ok (.iconst 4, 1) := by decide +kernel
theorem dX8_record_19 : decode cX8_record 19 = .ok (.if_icmp .ge 23, 3) := by decide +kernel
theorem dX8_record_22 : decode cX8_record 22 = .ok (.aload_n 0, 1) := by decide +kernel
theorem dX8_record_23 : decode cX8_record 23 = .ok (.getfield 19, 3) := by decide +kernel
theorem dX8_record_26 : decode cX8_record 26 = .ok (.iload_n 2, 1) := by decide +kernel
theorem dX8_record_27 : decode cX8_record 27 = .ok (.iconst 1, 1) := by decide +kernel
theorem dX8_record_28 : decode cX8_record 28 = .ok (.isub, 1) := by decide +kernel
theorem dX8_record_29 : decode cX8_record 29 = .ok (.aload_n 0, 1) := by decide +kernel
theorem dX8_record_30 : decode cX8_record 30 = .ok (.getfield 19, 3) := by decide +kernel
theorem dX8_record_33 : decode cX8_record 33 = .ok (.iload_n 2, 1) := by decide +kernel
theorem dX8_record_34 : decode cX8_record 34 = .ok (.aaload, 1) := by decide +kernel
theorem dX8_record_35 : decode cX8_record 35 = .ok (.aastore, 1) := by decide +kernel
theorem dX8_record_36 : decode cX8_record 36 = .ok (.iinc 2 1, 3) := by decide +kernel
theorem dX8_record_39 : decode cX8_record 39 = .ok (.goto (-22), 3) := by decide +kernel
theorem dX8_record_42 : decode cX8_record 42 = .ok (.aload_n 0, 1) := by decide +kernel
theorem dX8_record_43 : decode cX8_record 43 = .ok (.getfield 19, 3) := by decide +kernel
theorem dX8_record_46 : decode cX8_record 46 = .ok (.iconst 3, 1) := by decide +kernel
theorem dX8_record_47 : decode cX8_record 47 = .ok (.aload_n 1, 1) := by decide +kernel
theorem dX8_record_48 : decode cX8_record 48 = .ok (.aastore, 1) := by decide +kernel
theorem dX8_record_49 : decode cX8_record 49 = .ok (.aload_n 0, 1) := by decide +kernel
theorem dX8_record_50 : decode cX8_record 50 = .ok (.dup, 1) := by decide +kernel
theorem dX8_record_51 : decode cX8_record 51 = .ok (.getfield 23, 3) := by decide +kernel
theorem dX8_record_54 : decode cX8_record 54 = .ok (.iconst 1, 1) := by decide +kernel
theorem dX8_record_55 : decode cX8_record 55 = .ok (.isub, 1) := by decide +kernel
theorem dX8_record_56 : decode cX8_record 56 = .ok (.putfield 23, 3) := by decide +kernel
theorem dX8_record_59 : decode cX8_record 59 = .ok (.aload_n 0, 1) := by decide +kernel
theorem dX8_record_60 : decode cX8_record 60 = .ok (.getfield 19, 3) := by decide +kernel
theorem dX8_record_63 : decode cX8_record 63 = .ok (.aload_n 0, 1) := by decide +kernel
theorem dX8_record_64 : decode cX8_record 64 = .ok (.getfield 23, 3) := by decide +kernel
theorem dX8_record_67 : decode cX8_record 67 = .ok (.aaload, 1) := by decide +kernel
theorem dX8_record_68 : decode cX8_record 68 = .ok (.aload_n 0, 1) := by decide +kernel
theorem dX8_record_69 : decode cX8_record 69 = .ok (.getfield 10, 3) := by decide +kernel
theorem dX8_record_72 : decode cX8_record 72 = .ok (.invokevirtual 127, 3) := by decide +kernel
theorem dX8_record_75 : decode cX8_record 75 = .ok (.aload_n 0, 1) := by decide +kernel
theorem dX8_record_76 : decode cX8_record 76 = .ok (.dup, 1) := by decide +kernel
theorem dX8_record_77 : decode cX8_record 77 = .ok (.getfield 23, 3) := by decide +kernel
theorem dX8_record_80 : decode cX8_record 80 = .ok (.iconst 1, 1) := by decide +kernel
theorem dX8_record_81 : decode cX8_record 81 = .ok (.iadd, 1) := by decide +kernel
theorem dX8_record_82 : decode cX8_record 82 = .ok (.putfield 23, 3) := by decide +kernel
theorem dX8_record_85 : decode cX8_record 85 = .ok (.return_, 1) := by decide +kernel
theorem dJ9_max_7cf53_0 : decode cJ9_max_7cf53 0 = .ok (.iload_n 0, 1) := by decide +kernel
theorem dJ9_max_7cf53_1 : decode cJ9_max_7cf53 1 = .ok (.iload_n 1, 1) := by decide +kernel
theorem dJ9_max_7cf53_2 : decode cJ9_max_7cf53 2 = .ok (.if_icmp .lt 7, 3) := by decide +kernel
theorem dJ9_max_7cf53_5 : decode cJ9_max_7cf53 5 = .ok (.iload_n 0, 1) := by decide +kernel
theorem dJ9_max_7cf53_6 : decode cJ9_max_7cf53 6 = .ok (.goto 4, 3) := by decide +kernel
theorem dJ9_max_7cf53_9 : decode cJ9_max_7cf53 9 = .ok (.iload_n 1, 1) := by decide +kernel
theorem dJ9_max_7cf53_10 : decode cJ9_max_7cf53 10 = .ok (.ireturn, 1) := by decide +kernel
theorem dJ9_min_7cf53_0 : decode cJ9_min_7cf53 0 = .ok (.iload_n 0, 1) := by decide +kernel
theorem dJ9_min_7cf53_1 : decode cJ9_min_7cf53 1 = .ok (.iload_n 1, 1) := by decide +kernel
theorem dJ9_min_7cf53_2 : decode cJ9_min_7cf53 2 = .ok (.if_icmp .gt 7, 3) := by decide +kernel
theorem dJ9_min_7cf53_5 : decode cJ9_min_7cf53 5 = .ok (.iload_n 0, 1) := by decide +kernel
theorem dJ9_min_7cf53_6 : decode cJ9_min_7cf53 6 = .ok (.goto 4, 3) := by decide +kernel
theorem dJ9_min_7cf53_9 : decode cJ9_min_7cf53 9 = .ok (.iload_n 1, 1) := by decide +kernel
theorem dJ9_min_7cf53_10 : decode cJ9_min_7cf53 10 = .ok (.ireturn, 1) := by decide +kernel
theorem dJ0_length_8abf5_0 : decode cJ0_length_8abf5 0 = .ok (.aload_n 0, 1) := by decide +kernel
theorem dJ0_length_8abf5_1 : decode cJ0_length_8abf5 1 = .ok (.getfield 9, 3) := by decide +kernel
theorem dJ0_length_8abf5_4 : decode cJ0_length_8abf5 4 = .ok (.arraylength, 1) := by decide +kernel
theorem dJ0_length_8abf5_5 : decode cJ0_length_8abf5 5 = .ok (.aload_n 0, 1) := by decide +kernel
theorem dJ0_length_8abf5_6 : decode cJ0_length_8abf5 6 = .ok (.invokevirtual 335, 3) := by decide +kernel
theorem dJ0_length_8abf5_9 : decode cJ0_length_8abf5 9 = .ok (.ishr, 1) := by decide +kernel
theorem dJ0_length_8abf5_10 : decode cJ0_length_8abf5 10 = .ok (.ireturn, 1) := by decide +kernel
theorem dJ0_charAt_5068e_0 : decode cJ0_charAt_5068e 0 = .ok (.aload_n 0, 1) := by decide +kernel
theorem dJ0_charAt_5068e_1 : decode cJ0_charAt_5068e 1 = .ok (.invokevirtual 492, 3) := by decide +kernel
theorem dJ0_charAt_5068e_4 : decode cJ0_charAt_5068e 4 = .ok (.ifCond .eq 12, 3) := by decide +kernel
theorem dJ0_charAt_5068e_7 : decode cJ0_charAt_5068e 7 = .ok (.aload_n 0, 1) := by decide +kernel
theorem dJ0_charAt_5068e_8 : decode cJ0_charAt_5068e 8 = .ok (.getfield 9, 3) := by decide +kernel
theorem dJ0_charAt_5068e_11 : decode cJ0_charAt_5068e 11 = .ok (.iload_n 1, 1) := by decide +kernel
theorem dJ0_charAt_5068e_12 : decode cJ0_charAt_5068e 12 = .ok (.invokestatic 495, 3) := by decide +kernel
theorem dJ0_charAt_5068e_15 : decode cJ0_charAt_5068e 15 = .ok (.ireturn, 1) := by decide +kernel
theorem dJ0_charAt_5068e_16 : decode cJ0_charAt_5068e 16 = .ok (.aload_n 0, 1) := by decide +kernel
theorem dJ0_charAt_5068e_17 : decode cJ0_charAt_5068e 17 = .ok (.getfield 9, 3) := by decide +kernel
theorem dJ0_charAt_5068e_20 : decode cJ0_charAt_5068e 20 = .ok (.iload_n 1, 1) := by decide +kernel
theorem dJ0_charAt_5068e_21 : decode cJ0_charAt_5068e 21 = .ok (.invokestatic 498, 3) := by decide +kernel
theorem dJ0_charAt_5068e_24 : decode cJ0_charAt_5068e 24 = .ok (.ireturn, 1) := by decide +kernel
theorem dJ0_coder_7d493_0 : decode cJ0_coder_7d493 0 = .ok (.getstatic 38, 3) := by decide +kernel
theorem dJ0_coder_7d493_3 : decode cJ0_coder_7d493 3 = .ok (.ifCond .eq 10, 3) := by decide +kernel
theorem dJ0_coder_7d493_6 : decode cJ0_coder_7d493 6 = .ok (.aload_n 0, 1) := by decide +kernel
theorem dJ0_coder_7d493_7 : decode cJ0_coder_7d493 7 = .ok (.getfield 15, 3) := by decide +kernel
theorem dJ0_coder_7d493_10 : decode cJ0_coder_7d493 10 = .ok (.goto 4, 3) := by decide +kernel
theorem dJ0_coder_7d493_13 : decode cJ0_coder_7d493 13 = .ok (.iconst 1, 1) := by decide +kernel
theorem dJ0_coder_7d493_14 : decode cJ0_coder_7d493 14 = .ok (.ireturn, 1) := by decide +kernel
theorem dJ0_isLatin1_aae02_0 : decode cJ0_isLatin1_aae02 0 = .ok (.getstatic 38, 3) := by decide +kernel
theorem dJ0_isLatin1_aae02_3 : decode cJ0_isLatin1_aae02 3 = .ok (.ifCond .eq 14, 3) := by decide +kernel
theorem dJ0_isLatin1_aae02_6 : decode cJ0_isLatin1_aae02 6 = .ok (.aload_n 0, 1) := by decide +kernel
theorem dJ0_isLatin1_aae02_7 : decode cJ0_isLatin1_aae02 7 = .ok (.getfield 15, 3) := by decide +kernel
theorem dJ0_isLatin1_aae02_10 : decode cJ0_isLatin1_aae02 10 = .ok (.ifCond .ne 7, 3) := by decide +kernel
theorem dJ0_isLatin1_aae02_13 : decode cJ0_isLatin1_aae02 13 = .ok (.iconst 1, 1) := by decide +kernel
theorem dJ0_isLatin1_aae02_14 : decode cJ0_isLatin1_aae02 14 = .ok (.goto 4, 3) := by decide +kernel
theorem dJ0_isLatin1_aae02_17 : decode cJ0_isLatin1_aae02 17 = .ok (.iconst 0, 1) := by decide +kernel
theorem dJ0_isLatin1_aae02_18 : decode cJ0_isLatin1_aae02 18 = .ok (.ireturn, 1) := by decide +kernel
theorem dJ0_checkIndex_df160_0 : decode cJ0_checkIndex_df160 0 = .ok (.iload_n 0, 1) := by decide +kernel
theorem dJ0_checkIndex_df160_1 : decode cJ0_checkIndex_df160 1 = .ok (.iload_n 1, 1) := by decide +kernel
theorem dJ0_checkIndex_df160_2 : decode cJ0_checkIndex_df160 2 = .ok (.getstatic 1053, 3) := by decide +kernel
theorem dJ0_checkIndex_df160_5 : decode cJ0_checkIndex_df160 5 = .ok (.invokestatic 1059, 3) := by decide +kernel
theorem dJ0_checkIndex_df160_8 : decode cJ0_checkIndex_df160 8 = .ok (.pop, 1) := by decide +kernel
theorem dJ0_checkIndex_df160_9 : decode cJ0_checkIndex_df160 9 = .ok (.return_, 1) := by decide +kernel
theorem dJ1_charAt_3b067_0 : decode cJ1_charAt_3b067 0 = .ok (.iload_n 1, 1) := by decide +kernel
theorem dJ1_charAt_3b067_1 : decode cJ1_charAt_3b067 1 = .ok (.aload_n 0, 1) := by decide +kernel
theorem dJ1_charAt_3b067_2 : decode cJ1_charAt_3b067 2 = .ok (.arraylength, 1) := by decide +kernel
theorem dJ1_charAt_3b067_3 : decode cJ1_charAt_3b067 3 = .ok (.invokestatic 9, 3) := by decide +kernel
theorem dJ1_charAt_3b067_6 : decode cJ1_charAt_3b067 6 = .ok (.aload_n 0, 1) := by decide +kernel
theorem dJ1_charAt_3b067_7 : decode cJ1_charAt_3b067 7 = .ok (.iload_n 1, 1) := by decide +kernel
theorem dJ1_charAt_3b067_8 : decode cJ1_charAt_3b067 8 = .ok (.baload, 1) := by decide +kernel
theorem dJ1_charAt_3b067_9 : decode cJ1_charAt_3b067 9 = .ok (.sipush 255, 3) := by decide +kernel
theorem dJ1_charAt_3b067_12 : decode cJ1_charAt_3b067 12 = .ok (.iand, 1) := by decide +kernel
theorem dJ1_charAt_3b067_13 : decode cJ1_charAt_3b067 13 = .ok (.i2c, 1) := by decide +kernel
theorem dJ1_charAt_3b067_14 : decode cJ1_charAt_3b067 14 = .ok (.ireturn, 1) := by decide +kernel
theorem dJ2_getChar_3b067_0 : decode cJ2_getChar_3b067 0 = .ok (.getstatic 44, 3) := by decide +kernel
theorem dJ2_getChar_3b067_3 : decode cJ2_getChar_3b067 3 = .ok (.ifCond .ne 25, 3) := by decide +kernel
theorem dJ2_getChar_3b067_6 : decode cJ2_getChar_3b067 6 = .ok (.iload_n 1, 1) := by decide +kernel
theorem dJ2_getChar_3b067_7 : decode cJ2_getChar_3b067 7 = .ok (.ifCond .lt 11, 3) := by decide +kernel
theorem dJ2_getChar_3b067_10 : decode cJ2_getChar_3b067 10 = .ok (.iload_n 1, 1) := by decide +kernel
theorem dJ2_getChar_3b067_11 : decode cJ2_getChar_3b067 11 = .ok (.aload_n 0, 1) := by decide +kernel
theorem dJ2_getChar_3b067_12 : decode cJ2_getChar_3b067 12 = .ok (.invokestatic 48, 3) := by decide +kernel
theorem dJ2_getChar_3b067_15 : decode cJ2_getChar_3b067 15 = .ok (.if_icmp .lt 13, 3) := by decide +kernel
theorem dJ2_getChar_3b067_18 : decode cJ2_getChar_3b067 18 = .ok (.new 52, 3) := by decide +kernel
theorem dJ2_getChar_3b067_21 : decode cJ2_getChar_3b067 21 = .ok (.dup, 1) := by decide +kernel
theorem dJ2_getChar_3b067_22 : decode cJ2_getChar_3b067 22 = .ok (.ldc 54, 2) := by decide +kernel
theorem dJ2_getChar_3b067_24 : decode cJ2_getChar_3b067 24 = .ok (.invokespecial 56, 3) := by decide +kernel
theorem dJ2_getChar_3b067_27 : decode cJ2_getChar_3b067 27 = .ok (.athrow, 1) := by decide +kernel
theorem dJ2_getChar_3b067_28 : decode cJ2_getChar_3b067 28 = .ok (.iload_n 1, 1) := by decide +kernel
theorem dJ2_getChar_3b067_29 : decode cJ2_getChar_3b067 29 = .ok (.iconst 1, 1) := by decide +kernel
theorem dJ2_getChar_3b067_30 : decode cJ2_getChar_3b067 30 = .ok (.ishl, 1) := by decide +kernel
theorem dJ2_getChar_3b067_31 : decode cJ2_getChar_3b067 31 = .ok (.istore_n 1, 1) := by decide +kernel
theorem dJ2_getChar_3b067_32 : decode cJ2_getChar_3b067 32 = .ok (.aload_n 0, 1) := by decide +kernel
theorem dJ2_getChar_3b067_33 : decode cJ2_getChar_3b067 33 = .ok (.iload_n 1, 1) := by decide +kernel
theorem dJ2_getChar_3b067_34 : decode cJ2_getChar_3b067 34 = .ok (.iinc 1 1, 3) := by decide +kernel
theorem dJ2_getChar_3b067_37 : decode cJ2_getChar_3b067 37 = .ok (.baload, 1) := by decide +kernel
theorem dJ2_getChar_3b067_38 : decode cJ2_getChar_3b067 38 = .ok (.sipush 255, 3) := by decide +kernel
theorem dJ2_getChar_3b067_41 : decode cJ2_getChar_3b067 41 = .ok (.iand, 1) := by decide +kernel
theorem dJ2_getChar_3b067_42 : decode cJ2_getChar_3b067 42 = .ok (.getstatic 59, 3) := by decide +kernel
theorem dJ2_getChar_3b067_45 : decode cJ2_getChar_3b067 45 = .ok (.ishl, 1) := by decide +kernel
theorem dJ2_getChar_3b067_46 : decode cJ2_getChar_3b067 46 = .ok (.aload_n 0, 1) := by decide +kernel
theorem dJ2_getChar_3b067_47 : decode cJ2_getChar_3b067 47 = .ok (.iload_n 1, 1) := by decide +kernel
theorem dJ2_getChar_3b067_48 : decode cJ2_getChar_3b067 48 = .ok (.baload, 1) := by decide +kernel
theorem dJ2_getChar_3b067_49 : decode cJ2_getChar_3b067 49 = .ok (.sipush 255, 3) := by decide +kernel
theorem dJ2_getChar_3b067_52 : decode cJ2_getChar_3b067 52 = .ok (.iand, 1) := by decide +kernel
theorem dJ2_getChar_3b067_53 : decode cJ2_getChar_3b067 53 = .ok (.getstatic 63, 3) := by decide +kernel
theorem dJ2_getChar_3b067_56 : decode cJ2_getChar_3b067 56 = .ok (.ishl, 1) := by decide +kernel
theorem dJ2_getChar_3b067_57 : decode cJ2_getChar_3b067 57 = .ok (.ior, 1) := by decide +kernel
theorem dJ2_getChar_3b067_58 : decode cJ2_getChar_3b067 58 = .ok (.i2c, 1) := by decide +kernel
theorem dJ2_getChar_3b067_59 : decode cJ2_getChar_3b067 59 = .ok (.ireturn, 1) := by decide +kernel
theorem dJ2_length_9d52b_0 : decode cJ2_length_9d52b 0 = .ok (.aload_n 0, 1) := by decide +kernel
theorem dJ2_length_9d52b_1 : decode cJ2_length_9d52b 1 = .ok (.arraylength, 1) := by decide +kernel
theorem dJ2_length_9d52b_2 : decode cJ2_length_9d52b 2 = .ok (.iconst 1, 1) := by decide +kernel
theorem dJ2_length_9d52b_3 : decode cJ2_length_9d52b 3 = .ok (.ishr, 1) := by decide +kernel
theorem dJ2_length_9d52b_4 : decode cJ2_length_9d52b 4 = .ok (.ireturn, 1) := by decide +kernel
theorem dJ2_charAt_3b067_0 : decode cJ2_charAt_3b067 0 = .ok (.iload_n 1, 1) := by decide +kernel
theorem dJ2_charAt_3b067_1 : decode cJ2_charAt_3b067 1 = .ok (.aload_n 0, 1) := by decide +kernel
theorem dJ2_charAt_3b067_2 : decode cJ2_charAt_3b067 2 = .ok (.invokestatic 67, 3) := by decide +kernel
theorem dJ2_charAt_3b067_5 : decode cJ2_charAt_3b067 5 = .ok (.aload_n 0, 1) := by decide +kernel
theorem dJ2_charAt_3b067_6 : decode cJ2_charAt_3b067 6 = .ok (.iload_n 1, 1) := by decide +kernel
theorem dJ2_charAt_3b067_7 : decode cJ2_charAt_3b067 7 = .ok (.invokestatic 71, 3) := by decide +kernel
theorem dJ2_charAt_3b067_10 : decode cJ2_charAt_3b067 10 = .ok (.ireturn, 1) := by decide +kernel
theorem dJ2_checkIndex_2214a_0 : decode cJ2_checkIndex_2214a 0 = .ok (.iload_n 0, 1) := by decide +kernel
theorem dJ2_checkIndex_2214a_1 : decode cJ2_checkIndex_2214a 1 = .ok (.aload_n 1, 1) := by decide +kernel
theorem dJ2_checkIndex_2214a_2 : decode cJ2_checkIndex_2214a 2 = .ok (.invokestatic 48, 3) := by decide +kernel
theorem dJ2_checkIndex_2214a_5 : decode cJ2_checkIndex_2214a 5 = .ok (.invokestatic 414, 3) := by decide +kernel
theorem dJ2_checkIndex_2214a_8 : decode cJ2_checkIndex_2214a 8 = .ok (.return_, 1) := by decide +kernel
theorem dJ3_checkIndex_8e157_0 : decode cJ3_checkIndex_8e157 0 = .ok (.iload_n 0, 1) := by decide +kernel
theorem dJ3_checkIndex_8e157_1 : decode cJ3_checkIndex_8e157 1 = .ok (.ifCond .lt 8, 3) := by decide +kernel
theorem dJ3_checkIndex_8e157_4 : decode cJ3_checkIndex_8e157 4 = .ok (.iload_n 0, 1) := by decide +kernel
theorem dJ3_checkIndex_8e157_5 : decode cJ3_checkIndex_8e157 5 = .ok (.iload_n 1, 1) := by decide +kernel
theorem dJ3_checkIndex_8e157_6 : decode cJ3_checkIndex_8e157 6 = .ok (.if_icmp .lt 10, 3) := by decide +kernel
theorem dJ3_checkIndex_8e157_9 : decode cJ3_checkIndex_8e157 9 = .ok (.aload_n 2, 1) := by decide +kernel
theorem dJ3_checkIndex_8e157_10 : decode cJ3_checkIndex_8e157 10 = .ok (.iload_n 0, 1) := by decide +kernel
theorem dJ3_checkIndex_8e157_11 : decode cJ3_checkIndex_8e157 11 = .ok (.iload_n 1, 1) := by decide +kernel
theorem dJ3_checkIndex_8e157_12 : decode cJ3_checkIndex_8e157 12 = .ok (.invokestatic 95, 3) := by decide +kernel
theorem dJ3_checkIndex_8e157_15 : decode cJ3_checkIndex_8e157 15 = .ok (.athrow, 1) := by decide +kernel
theorem dJ3_checkIndex_8e157_16 : decode cJ3_checkIndex_8e157 16 = .ok (.iload_n 0, 1) := by decide +kernel
theorem dJ3_checkIndex_8e157_17 : decode cJ3_checkIndex_8e157 17 = .ok (.ireturn, 1) := by decide +kernel
theorem dL_cell_0 : decode cL_cell 0 = .ok (.iload_n 1, 1) := by decide +kernel
theorem dL_cell_1 : decode cL_cell 1 = .ok (.aload_n 0, 1) := by decide +kernel
theorem dL_cell_2 : decode cL_cell 2 = .ok (.arraylength, 1) := by decide +kernel
theorem dL_cell_3 : decode cL_cell 3 = .ok (.if_icmp .ge 9, 3) := by decide +kernel
theorem dL_cell_6 : decode cL_cell 6 = .ok (.aload_n 0, 1) := by decide +kernel
theorem dL_cell_7 : decode cL_cell 7 = .ok (.iload_n 1, 1) := by decide +kernel
theorem dL_cell_8 : decode cL_cell 8 = .ok (.iaload, 1) := by decide +kernel
theorem dL_cell_9 : decode cL_cell 9 = .ok (.goto 11, 3) := by decide +kernel
theorem dL_cell_12 : decode cL_cell 12 = .ok (.ldc 7, 2) := by decide +kernel
theorem dL_cell_14 : decode cL_cell 14 = .ok (.iload_n 1, 1) := by decide +kernel
theorem dL_cell_15 : decode cL_cell 15 = .ok (.imul, 1) := by decide +kernel
theorem dL_cell_16 : decode cL_cell 16 = .ok (.sipush 307, 3) := by decide +kernel
theorem dL_cell_19 : decode cL_cell 19 = .ok (.iadd, 1) := by decide +kernel
theorem dL_cell_20 : decode cL_cell 20 = .ok (.ldc 8, 2) := by decide +kernel
theorem dL_cell_22 : decode cL_cell 22 = .ok (.iand, 1) := by decide +kernel
theorem dL_cell_23 : decode cL_cell 23 = .ok (.ireturn, 1) := by decide +kernel
theorem dL_number_0 : decode cL_number 0 = .ok (.iload_n 1, 1) := by decide +kernel
theorem dL_number_1 : decode cL_number 1 = .ok (.bipush 99, 2) := by decide +kernel
theorem dL_number_3 : decode cL_number 3 = .ok (.if_icmp .le 8, 3) := by decide +kernel
theorem dL_number_6 : decode cL_number 6 = .ok (.bipush 100, 2) := by decide +kernel
theorem dL_number_8 : decode cL_number 8 = .ok (.goto 15, 3) := by decide +kernel
theorem dL_number_11 : decode cL_number 11 = .ok (.iload_n 1, 1) := by decide +kernel
theorem dL_number_12 : decode cL_number 12 = .ok (.bipush 9, 2) := by decide +kernel
theorem dL_number_14 : decode cL_number 14 = .ok (.if_icmp .le 8, 3) := by decide +kernel
theorem dL_number_17 : decode cL_number 17 = .ok (.bipush 10, 2) := by decide +kernel
theorem dL_number_19 : decode cL_number 19 = .ok (.goto 4, 3) := by decide +kernel
theorem dL_number_22 : decode cL_number 22 = .ok (.iconst 1, 1) := by decide +kernel
theorem dL_number_23 : decode cL_number 23 = .ok (.istore_n 2, 1) := by decide +kernel
theorem dL_number_24 : decode cL_number 24 = .ok (.iload_n 2, 1) := by decide +kernel
theorem dL_number_25 : decode cL_number 25 = .ok (.ifCond .le 25, 3) := by decide +kernel
theorem dL_number_28 : decode cL_number 28 = .ok (.aload_n 0, 1) := by decide +kernel
theorem dL_number_29 : decode cL_number 29 = .ok (.bipush 48, 2) := by decide +kernel
theorem dL_number_31 : decode cL_number 31 = .ok (.iload_n 1, 1) := by decide +kernel
theorem dL_number_32 : decode cL_number 32 = .ok (.iload_n 2, 1) := by decide +kernel
theorem dL_number_33 : decode cL_number 33 = .ok (.idiv, 1) := by decide +kernel
theorem dL_number_34 : decode cL_number 34 = .ok (.bipush 10, 2) := by decide +kernel
theorem dL_number_36 : decode cL_number 36 = .ok (.irem, 1) := by decide +kernel
theorem dL_number_37 : decode cL_number 37 = .ok (.iadd, 1) := by decide +kernel
theorem dL_number_38 : decode cL_number 38 = .ok (.invokevirtual 9, 3) := by decide +kernel
theorem dL_number_41 : decode cL_number 41 = .ok (.pop, 1) := by decide +kernel
theorem dL_number_42 : decode cL_number 42 = .ok (.iload_n 2, 1) := by decide +kernel
theorem dL_number_43 : decode cL_number 43 = .ok (.bipush 10, 2) := by decide +kernel
theorem dL_number_45 : decode cL_number 45 = .ok (.idiv, 1) := by decide +kernel
theorem dL_number_46 : decode cL_number 46 = .ok (.istore_n 2, 1) := by decide +kernel
theorem dL_number_47 : decode cL_number 47 = .ok (.goto (-23), 3) := by decide +kernel
theorem dL_number_50 : decode cL_number 50 = .ok (.return_, 1) := by decide +kernel
theorem dL_name_0 : decode cL_name 0 = .ok (.iload_n 1, 1) := by decide +kernel
theorem dL_name_1 : decode cL_name 1 = .ok (.ifCond .ne 9, 3) := by decide +kernel
theorem dL_name_4 : decode cL_name 4 = .ok (.ldc2_w 15, 3) := by decide +kernel
theorem dL_name_7 : decode cL_name 7 = .ok (.goto 39, 3) := by decide +kernel
theorem dL_name_10 : decode cL_name 10 = .ok (.iload_n 1, 1) := by decide +kernel
theorem dL_name_11 : decode cL_name 11 = .ok (.iconst 1, 1) := by decide +kernel
theorem dL_name_12 : decode cL_name 12 = .ok (.if_icmp .ne 9, 3) := by decide +kernel
theorem dL_name_15 : decode cL_name 15 = .ok (.ldc2_w 17, 3) := by decide +kernel
theorem dL_name_18 : decode cL_name 18 = .ok (.goto 28, 3) := by decide +kernel
theorem dL_name_21 : decode cL_name 21 = .ok (.iload_n 1, 1) := by decide +kernel
theorem dL_name_22 : decode cL_name 22 = .ok (.iconst 2, 1) := by decide +kernel
theorem dL_name_23 : decode cL_name 23 = .ok (.if_icmp .ne 9, 3) := by decide +kernel
theorem dL_name_26 : decode cL_name 26 = .ok (.ldc2_w 19, 3) := by decide +kernel
theorem dL_name_29 : decode cL_name 29 = .ok (.goto 17, 3) := by decide +kernel
theorem dL_name_32 : decode cL_name 32 = .ok (.iload_n 1, 1) := by decide +kernel
theorem dL_name_33 : decode cL_name 33 = .ok (.iconst 3, 1) := by decide +kernel
theorem dL_name_34 : decode cL_name 34 = .ok (.if_icmp .ne 9, 3) := by decide +kernel
theorem dL_name_37 : decode cL_name 37 = .ok (.ldc2_w 21, 3) := by decide +kernel
theorem dL_name_40 : decode cL_name 40 = .ok (.goto 6, 3) := by decide +kernel
theorem dL_name_43 : decode cL_name 43 = .ok (.ldc2_w 23, 3) := by decide +kernel
theorem dL_name_46 : decode cL_name 46 = .ok (.lstore_n 2, 1) := by decide +kernel
theorem dL_name_47 : decode cL_name 47 = .ok (.bipush 48, 2) := by decide +kernel
theorem dL_name_49 : decode cL_name 49 = .ok (.istore 4, 2) := by decide +kernel
theorem dL_name_51 : decode cL_name 51 = .ok (.iload 4, 2) := by decide +kernel
theorem dL_name_53 : decode cL_name 53 = .ok (.ifCond .lt 32, 3) := by decide +kernel
theorem dL_name_56 : decode cL_name 56 = .ok (.lload_n 2, 1) := by decide +kernel
theorem dL_name_57 : decode cL_name 57 = .ok (.iload 4, 2) := by decide +kernel
theorem dL_name_59 : decode cL_name 59 = .ok (.lshr, 1) := by decide +kernel
theorem dL_name_60 : decode cL_name 60 = .ok (.ldc2_w 25, 3) := by decide +kernel
theorem dL_name_63 : decode cL_name 63 = .ok (.land, 1) := by decide +kernel
theorem dL_name_64 : decode cL_name 64 = .ok (.l2i, 1) := by decide +kernel
theorem dL_name_65 : decode cL_name 65 = .ok (.istore 5, 2) := by decide +kernel
theorem dL_name_67 : decode cL_name 67 = .ok (.iload 5, 2) := by decide +kernel
theorem dL_name_69 : decode cL_name 69 = .ok (.ifCond .le 10, 3) := by decide +kernel
theorem dL_name_72 : decode cL_name 72 = .ok (.aload_n 0, 1) := by decide +kernel
theorem dL_name_73 : decode cL_name 73 = .ok (.iload 5, 2) := by decide +kernel
theorem dL_name_75 : decode cL_name 75 = .ok (.invokevirtual 9, 3) := by decide +kernel
theorem dL_name_78 : decode cL_name 78 = .ok (.pop, 1) := by decide +kernel
theorem dL_name_79 : decode cL_name 79 = .ok (.iinc 4 (-8), 3) := by decide +kernel
theorem dL_name_82 : decode cL_name 82 = .ok (.goto (-31), 3) := by decide +kernel
theorem dL_name_85 : decode cL_name 85 = .ok (.aload_n 0, 1) := by decide +kernel
theorem dL_name_86 : decode cL_name 86 = .ok (.bipush 32, 2) := by decide +kernel
theorem dL_name_88 : decode cL_name 88 = .ok (.invokevirtual 9, 3) := by decide +kernel
theorem dL_name_91 : decode cL_name 91 = .ok (.pop, 1) := by decide +kernel
theorem dL_name_92 : decode cL_name 92 = .ok (.return_, 1) := by decide +kernel
theorem dL_programs_0 : decode cL_programs 0 = .ok (.iload_n 1, 1) := by decide +kernel
theorem dL_programs_1 : decode cL_programs 1 = .ok (.istore_n 3, 1) := by decide +kernel
theorem dL_programs_2 : decode cL_programs 2 = .ok (.iconst 1, 1) := by decide +kernel
theorem dL_programs_3 : decode cL_programs 3 = .ok (.iload_n 1, 1) := by decide +kernel
theorem dL_programs_4 : decode cL_programs 4 = .ok (.iload_n 2, 1) := by decide +kernel
theorem dL_programs_5 : decode cL_programs 5 = .ok (.irem, 1) := by decide +kernel
theorem dL_programs_6 : decode cL_programs 6 = .ok (.iadd, 1) := by decide +kernel
theorem dL_programs_7 : decode cL_programs 7 = .ok (.istore 4, 2) := by decide +kernel
theorem dL_programs_9 : decode cL_programs 9 = .ok (.aload_n 0, 1) := by decide +kernel
theorem dL_programs_10 : decode cL_programs 10 = .ok (.invokevirtual 27, 3) := by decide +kernel
theorem dL_programs_13 : decode cL_programs 13 = .ok (.pop, 1) := by decide +kernel
theorem dL_programs_14 : decode cL_programs 14 = .ok (.iconst 0, 1) := by decide +kernel
theorem dL_programs_15 : decode cL_programs 15 = .ok (.istore 5, 2) := by decide +kernel
theorem dL_programs_17 : decode cL_programs 17 = .ok (.iload 5, 2) := by decide +kernel
theorem dL_programs_19 : decode cL_programs 19 = .ok (.iload 4, 2) := by decide +kernel
theorem dL_programs_21 : decode cL_programs 21 = .ok (.if_icmp .ge 122, 3) := by decide +kernel
theorem dL_programs_24 : decode cL_programs 24 = .ok (.iload_n 3, 1) := by decide +kernel
theorem dL_programs_25 : decode cL_programs 25 = .ok (.ldc 31, 2) := by decide +kernel
theorem dL_programs_27 : decode cL_programs 27 = .ok (.imul, 1) := by decide +kernel
theorem dL_programs_28 : decode cL_programs 28 = .ok (.sipush 12345, 3) := by decide +kernel
theorem dL_programs_31 : decode cL_programs 31 = .ok (.iadd, 1) := by decide +kernel
theorem dL_programs_32 : decode cL_programs 32 = .ok (.ldc 8, 2) := by decide +kernel
theorem dL_programs_34 : decode cL_programs 34 = .ok (.iand, 1) := by decide +kernel
theorem dL_programs_35 : decode cL_programs 35 = .ok (.istore_n 3, 1) := by decide +kernel
theorem dL_programs_36 : decode cL_programs 36 = .ok (.iload_n 3, 1) := by decide +kernel
theorem dL_programs_37 : decode cL_programs 37 = .ok (.bipush 8, 2) := by decide +kernel
theorem dL_programs_39 : decode cL_programs 39 = .ok (.ishr, 1) := by decide +kernel
theorem dL_programs_40 : decode cL_programs 40 = .ok (.iconst 5, 1) := by decide +kernel
theorem dL_programs_41 : decode cL_programs 41 = .ok (.irem, 1) := by decide +kernel
theorem dL_programs_42 : decode cL_programs 42 = .ok (.istore 6, 2) := by decide +kernel
theorem dL_programs_44 : decode cL_programs 44 = .ok (.iload 6, 2) := by decide +kernel
theorem dL_programs_46 : decode cL_programs 46 = .ok (.ifCond .ne 15, 3) := by decide +kernel
theorem dL_programs_49 : decode cL_programs 49 = .ok (.iconst 1, 1) := by decide +kernel
theorem dL_programs_50 : decode cL_programs 50 = .ok (.iload_n 3, 1) := by decide +kernel
theorem dL_programs_51 : decode cL_programs 51 = .ok (.bipush 12, 2) := by decide +kernel
theorem dL_programs_53 : decode cL_programs 53 = .ok (.ishr, 1) := by decide +kernel
theorem dL_programs_54 : decode cL_programs 54 = .ok (.bipush 6, 2) := by decide +kernel
theorem dL_programs_56 : decode cL_programs 56 = .ok (.irem, 1) := by decide +kernel
theorem dL_programs_57 : decode cL_programs 57 = .ok (.iadd, 1) := by decide +kernel
theorem dL_programs_58 : decode cL_programs 58 = .ok (.goto 46, 3) := by decide +kernel
theorem dL_programs_61 : decode cL_programs 61 = .ok (.iload 6, 2) := by decide +kernel
theorem dL_programs_63 : decode cL_programs 63 = .ok (.iconst 3, 1) := by decide +kernel
theorem dL_programs_64 : decode cL_programs 64 = .ok (.if_icmp .ge 15, 3) := by decide +kernel
theorem dL_programs_67 : decode cL_programs 67 = .ok (.iconst 5, 1) := by decide +kernel
theorem dL_programs_68 : decode cL_programs 68 = .ok (.iload_n 3, 1) := by decide +kernel
theorem dL_programs_69 : decode cL_programs 69 = .ok (.bipush 12, 2) := by decide +kernel
theorem dL_programs_71 : decode cL_programs 71 = .ok (.ishr, 1) := by decide +kernel
theorem dL_programs_72 : decode cL_programs 72 = .ok (.bipush 60, 2) := by decide +kernel
theorem dL_programs_74 : decode cL_programs 74 = .ok (.irem, 1) := by decide +kernel
theorem dL_programs_75 : decode cL_programs 75 = .ok (.iadd, 1) := by decide +kernel
theorem dL_programs_76 : decode cL_programs 76 = .ok (.goto 28, 3) := by decide +kernel
theorem dL_programs_79 : decode cL_programs 79 = .ok (.iload 6, 2) := by decide +kernel
theorem dL_programs_81 : decode cL_programs 81 = .ok (.iconst 3, 1) := by decide +kernel
theorem dL_programs_82 : decode cL_programs 82 = .ok (.if_icmp .ne 14, 3) := by decide +kernel
theorem dL_programs_85 : decode cL_programs 85 = .ok (.iload_n 3, 1) := by decide +kernel
theorem dL_programs_86 : decode cL_programs 86 = .ok (.bipush 12, 2) := by decide +kernel
theorem dL_programs_88 : decode cL_programs 88 = .ok (.ishr, 1) := by decide +kernel
theorem dL_programs_89 : decode cL_programs 89 = .ok (.sipush 200, 3) := by decide +kernel
theorem dL_programs_92 : decode cL_programs 92 = .ok (.irem, 1) := by decide +kernel
theorem dL_programs_93 : decode cL_programs 93 = .ok (.goto 11, 3) := by decide +kernel
theorem dL_programs_96 : decode cL_programs 96 = .ok (.iload_n 3, 1) := by decide +kernel
theorem dL_programs_97 : decode cL_programs 97 = .ok (.bipush 12, 2) := by decide +kernel
theorem dL_programs_99 : decode cL_programs 99 = .ok (.ishr, 1) := by decide +kernel
theorem dL_programs_100 : decode cL_programs 100 = .ok (.sipush 301, 3) := by decide +kernel
theorem dL_programs_103 : decode cL_programs 103 = .ok (.irem, 1) := by decide +kernel
theorem dL_programs_104 : decode cL_programs 104 = .ok (.istore 7, 2) := by decide +kernel
theorem dL_programs_106 : decode cL_programs 106 = .ok (.iload 5, 2) := by decide +kernel
theorem dL_programs_108 : decode cL_programs 108 = .ok (.ifCond .le 17, 3) := by decide +kernel
theorem dL_programs_111 : decode cL_programs 111 = .ok (.aload_n 0, 1) := by decide +kernel
theorem dL_programs_112 : decode cL_programs 112 = .ok (.bipush 44, 2) := by decide +kernel
theorem dL_programs_114 : decode cL_programs 114 = .ok (.invokevirtual 9, 3) := by decide +kernel
theorem dL_programs_117 : decode cL_programs 117 = .ok (.pop, 1) := by decide +kernel
theorem dL_programs_118 : decode cL_programs 118 = .ok (.aload_n 0, 1) := by decide +kernel
theorem dL_programs_119 : decode cL_programs 119 = .ok (.bipush 32, 2) := by decide +kernel
theorem dL_programs_121 : decode cL_programs 121 = .ok (.invokevirtual 9, 3) := by decide +kernel
theorem dL_programs_124 : decode cL_programs 124 = .ok (.pop, 1) := by decide +kernel
theorem dL_programs_125 : decode cL_programs 125 = .ok (.aload_n 0, 1) := by decide +kernel
theorem dL_programs_126 : decode cL_programs 126 = .ok (.iload 6, 2) := by decide +kernel
theorem dL_programs_128 : decode cL_programs 128 = .ok (.invokestatic 32, 3) := by decide +kernel
theorem dL_programs_131 : decode cL_programs 131 = .ok (.aload_n 0, 1) := by decide +kernel
theorem dL_programs_132 : decode cL_programs 132 = .ok (.iload 7, 2) := by decide +kernel
theorem dL_programs_134 : decode cL_programs 134 = .ok (.invokestatic 38, 3) := by decide +kernel
theorem dL_programs_137 : decode cL_programs 137 = .ok (.iinc 5 1, 3) := by decide +kernel
theorem dL_programs_140 : decode cL_programs 140 = .ok (.goto (-123), 3) := by decide +kernel
theorem dL_programs_143 : decode cL_programs 143 = .ok (.aload_n 0, 1) := by decide +kernel
theorem dL_programs_144 : decode cL_programs 144 = .ok (.invokevirtual 41, 3) := by decide +kernel
theorem dL_programs_147 : decode cL_programs 147 = .ok (.ireturn, 1) := by decide +kernel
theorem dL_isWritten_0 : decode cL_isWritten 0 = .ok (.aload_n 0, 1) := by decide +kernel
theorem dL_isWritten_1 : decode cL_isWritten 1 = .ok (.iconst 3, 1) := by decide +kernel
theorem dL_isWritten_2 : decode cL_isWritten 2 = .ok (.invokevirtual 44, 3) := by decide +kernel
theorem dL_isWritten_5 : decode cL_isWritten 5 = .ok (.istore_n 3, 1) := by decide +kernel
theorem dL_isWritten_6 : decode cL_isWritten 6 = .ok (.iconst 0, 1) := by decide +kernel
theorem dL_isWritten_7 : decode cL_isWritten 7 = .ok (.istore 4, 2) := by decide +kernel
theorem dL_isWritten_9 : decode cL_isWritten 9 = .ok (.iload 4, 2) := by decide +kernel
theorem dL_isWritten_11 : decode cL_isWritten 11 = .ok (.iload_n 3, 1) := by decide +kernel
theorem dL_isWritten_12 : decode cL_isWritten 12 = .ok (.if_icmp .ge 37, 3) := by decide +kernel
theorem dL_isWritten_15 : decode cL_isWritten 15 = .ok (.aload_n 1, 1) := by decide +kernel
theorem dL_isWritten_16 : decode cL_isWritten 16 = .ok (.iconst 2, 1) := by decide +kernel
theorem dL_isWritten_17 : decode cL_isWritten 17 = .ok (.iload 4, 2) := by decide +kernel
theorem dL_isWritten_19 : decode cL_isWritten 19 = .ok (.imul, 1) := by decide +kernel
theorem dL_isWritten_20 : decode cL_isWritten 20 = .ok (.aload_n 0, 1) := by decide +kernel
theorem dL_isWritten_21 : decode cL_isWritten 21 = .ok (.iload 4, 2) := by decide +kernel
theorem dL_isWritten_23 : decode cL_isWritten 23 = .ok (.iconst 0, 1) := by decide +kernel
theorem dL_isWritten_24 : decode cL_isWritten 24 = .ok (.invokevirtual 47, 3) := by decide +kernel
theorem dL_isWritten_27 : decode cL_isWritten 27 = .ok (.iastore, 1) := by decide +kernel
theorem dL_isWritten_28 : decode cL_isWritten 28 = .ok (.aload_n 1, 1) := by decide +kernel
theorem dL_isWritten_29 : decode cL_isWritten 29 = .ok (.iconst 2, 1) := by decide +kernel
theorem dL_isWritten_30 : decode cL_isWritten 30 = .ok (.iload 4, 2) := by decide +kernel
theorem dL_isWritten_32 : decode cL_isWritten 32 = .ok (.imul, 1) := by decide +kernel
theorem dL_isWritten_33 : decode cL_isWritten 33 = .ok (.iconst 1, 1) := by decide +kernel
theorem dL_isWritten_34 : decode cL_isWritten 34 = .ok (.iadd, 1) := by decide +kernel
theorem dL_isWritten_35 : decode cL_isWritten 35 = .ok (.aload_n 0, 1) := by decide +kernel
theorem dL_isWritten_36 : decode cL_isWritten 36 = .ok (.iload 4, 2) := by decide +kernel
theorem dL_isWritten_38 : decode cL_isWritten 38 = .ok (.iconst 1, 1) := by decide +kernel
theorem dL_isWritten_39 : decode cL_isWritten 39 = .ok (.invokevirtual 47, 3) := by decide +kernel
theorem dL_isWritten_42 : decode cL_isWritten 42 = .ok (.iastore, 1) := by decide +kernel
theorem dL_isWritten_43 : decode cL_isWritten 43 = .ok (.iinc 4 1, 3) := by decide +kernel
theorem dL_isWritten_46 : decode cL_isWritten 46 = .ok (.goto (-37), 3) := by decide +kernel
theorem dL_isWritten_49 : decode cL_isWritten 49 = .ok (.aload_n 0, 1) := by decide +kernel
theorem dL_isWritten_50 : decode cL_isWritten 50 = .ok (.invokevirtual 51, 3) := by decide +kernel
theorem dL_isWritten_53 : decode cL_isWritten 53 = .ok (.istore 4, 2) := by decide +kernel
theorem dL_isWritten_55 : decode cL_isWritten 55 = .ok (.aload_n 0, 1) := by decide +kernel
theorem dL_isWritten_56 : decode cL_isWritten 56 = .ok (.bipush 7, 2) := by decide +kernel
theorem dL_isWritten_58 : decode cL_isWritten 58 = .ok (.invokevirtual 44, 3) := by decide +kernel
theorem dL_isWritten_61 : decode cL_isWritten 61 = .ok (.iload 4, 2) := by decide +kernel
theorem dL_isWritten_63 : decode cL_isWritten 63 = .ok (.if_icmp .ne 36, 3) := by decide +kernel
theorem dL_isWritten_66 : decode cL_isWritten 66 = .ok (.aload_n 0, 1) := by decide +kernel
theorem dL_isWritten_67 : decode cL_isWritten 67 = .ok (.iload 4, 2) := by decide +kernel
theorem dL_isWritten_69 : decode cL_isWritten 69 = .ok (.invokevirtual 54, 3) := by decide +kernel
theorem dL_isWritten_72 : decode cL_isWritten 72 = .ok (.bipush (-4), 2) := by decide +kernel
theorem dL_isWritten_74 : decode cL_isWritten 74 = .ok (.if_icmp .ne 25, 3) := by decide +kernel
theorem dL_isWritten_77 : decode cL_isWritten 77 = .ok (.iload 4, 2) := by decide +kernel
theorem dL_isWritten_79 : decode cL_isWritten 79 = .ok (.bipush 100, 2) := by decide +kernel
theorem dL_isWritten_81 : decode cL_isWritten 81 = .ok (.if_icmp .gt 18, 3) := by decide +kernel
theorem dL_isWritten_84 : decode cL_isWritten 84 = .ok (.aload_n 0, 1) := by decide +kernel
theorem dL_isWritten_85 : decode cL_isWritten 85 = .ok (.iload_n 3, 1) := by decide +kernel
theorem dL_isWritten_86 : decode cL_isWritten 86 = .ok (.iconst 0, 1) := by decide +kernel
theorem dL_isWritten_87 : decode cL_isWritten 87 = .ok (.invokevirtual 47, 3) := by decide +kernel
theorem dL_isWritten_90 : decode cL_isWritten 90 = .ok (.bipush (-4), 2) := by decide +kernel
theorem dL_isWritten_92 : decode cL_isWritten 92 = .ok (.if_icmp .ne 7, 3) := by decide +kernel
theorem dL_isWritten_95 : decode cL_isWritten 95 = .ok (.iconst 1, 1) := by decide +kernel
theorem dL_isWritten_96 : decode cL_isWritten 96 = .ok (.goto 4, 3) := by decide +kernel
theorem dL_isWritten_99 : decode cL_isWritten 99 = .ok (.iconst 0, 1) := by decide +kernel
theorem dL_isWritten_100 : decode cL_isWritten 100 = .ok (.istore 5, 2) := by decide +kernel
theorem dL_isWritten_102 : decode cL_isWritten 102 = .ok (.iload 4, 2) := by decide +kernel
theorem dL_isWritten_104 : decode cL_isWritten 104 = .ok (.bipush 100, 2) := by decide +kernel
theorem dL_isWritten_106 : decode cL_isWritten 106 = .ok (.if_icmp .ge 207, 3) := by decide +kernel
theorem dL_isWritten_109 : decode cL_isWritten 109 = .ok (.iload 5, 2) := by decide +kernel
theorem dL_isWritten_111 : decode cL_isWritten 111 = .ok (.ifCond .eq 24, 3) := by decide +kernel
theorem dL_isWritten_114 : decode cL_isWritten 114 = .ok (.aload_n 0, 1) := by decide +kernel
theorem dL_isWritten_115 : decode cL_isWritten 115 = .ok (.invokevirtual 57, 3) := by decide +kernel
theorem dL_isWritten_118 : decode cL_isWritten 118 = .ok (.bipush (-4), 2) := by decide +kernel
theorem dL_isWritten_120 : decode cL_isWritten 120 = .ok (.if_icmp .ne 15, 3) := by decide +kernel
theorem dL_isWritten_123 : decode cL_isWritten 123 = .ok (.aload_n 0, 1) := by decide +kernel
theorem dL_isWritten_124 : decode cL_isWritten 124 = .ok (.invokevirtual 41, 3) := by decide +kernel
theorem dL_isWritten_127 : decode cL_isWritten 127 = .ok (.iload_n 3, 1) := by decide +kernel
theorem dL_isWritten_128 : decode cL_isWritten 128 = .ok (.if_icmp .ne 7, 3) := by decide +kernel
theorem dL_isWritten_131 : decode cL_isWritten 131 = .ok (.iconst 1, 1) := by decide +kernel
theorem dL_isWritten_132 : decode cL_isWritten 132 = .ok (.goto 4, 3) := by decide +kernel
theorem dL_isWritten_135 : decode cL_isWritten 135 = .ok (.iconst 0, 1) := by decide +kernel
theorem dL_isWritten_136 : decode cL_isWritten 136 = .ok (.istore 5, 2) := by decide +kernel
theorem dL_isWritten_138 : decode cL_isWritten 138 = .ok (.iconst 0, 1) := by decide +kernel
theorem dL_isWritten_139 : decode cL_isWritten 139 = .ok (.istore 6, 2) := by decide +kernel
theorem dL_isWritten_141 : decode cL_isWritten 141 = .ok (.iload 6, 2) := by decide +kernel
theorem dL_isWritten_143 : decode cL_isWritten 143 = .ok (.iload_n 3, 1) := by decide +kernel
theorem dL_isWritten_144 : decode cL_isWritten 144 = .ok (.if_icmp .ge 55, 3) := by decide +kernel
theorem dL_isWritten_147 : decode cL_isWritten 147 = .ok (.iload 5, 2) := by decide +kernel
theorem dL_isWritten_149 : decode cL_isWritten 149 = .ok (.ifCond .eq 50, 3) := by decide +kernel
theorem dL_isWritten_152 : decode cL_isWritten 152 = .ok (.aload_n 0, 1) := by decide +kernel
theorem dL_isWritten_153 : decode cL_isWritten 153 = .ok (.iload 6, 2) := by decide +kernel
theorem dL_isWritten_155 : decode cL_isWritten 155 = .ok (.iconst 0, 1) := by decide +kernel
theorem dL_isWritten_156 : decode cL_isWritten 156 = .ok (.invokevirtual 47, 3) := by decide +kernel
theorem dL_isWritten_159 : decode cL_isWritten 159 = .ok (.aload_n 1, 1) := by decide +kernel
theorem dL_isWritten_160 : decode cL_isWritten 160 = .ok (.iconst 2, 1) := by decide +kernel
theorem dL_isWritten_161 : decode cL_isWritten 161 = .ok (.iload 6, 2) := by decide +kernel
theorem dL_isWritten_163 : decode cL_isWritten 163 = .ok (.imul, 1) := by decide +kernel
theorem dL_isWritten_164 : decode cL_isWritten 164 = .ok (.iaload, 1) := by decide +kernel
theorem dL_isWritten_165 : decode cL_isWritten 165 = .ok (.if_icmp .ne 25, 3) := by decide +kernel
theorem dL_isWritten_168 : decode cL_isWritten 168 = .ok (.aload_n 0, 1) := by decide +kernel
theorem dL_isWritten_169 : decode cL_isWritten 169 = .ok (.iload 6, 2) := by decide +kernel
theorem dL_isWritten_171 : decode cL_isWritten 171 = .ok (.iconst 1, 1) := by decide +kernel
theorem dL_isWritten_172 : decode cL_isWritten 172 = .ok (.invokevirtual 47, 3) := by decide +kernel
theorem dL_isWritten_175 : decode cL_isWritten 175 = .ok (.aload_n 1, 1) := by decide +kernel
theorem dL_isWritten_176 : decode cL_isWritten 176 = .ok (.iconst 2, 1) := by decide +kernel
theorem dL_isWritten_177 : decode cL_isWritten 177 = .ok (.iload 6, 2) := by decide +kernel
theorem dL_isWritten_179 : decode cL_isWritten 179 = .ok (.imul, 1) := by decide +kernel
theorem dL_isWritten_180 : decode cL_isWritten 180 = .ok (.iconst 1, 1) := by decide +kernel
theorem dL_isWritten_181 : decode cL_isWritten 181 = .ok (.iadd, 1) := by decide +kernel
theorem dL_isWritten_182 : decode cL_isWritten 182 = .ok (.iaload, 1) := by decide +kernel
theorem dL_isWritten_183 : decode cL_isWritten 183 = .ok (.if_icmp .ne 7, 3) := by decide +kernel
theorem dL_isWritten_186 : decode cL_isWritten 186 = .ok (.iconst 1, 1) := by decide +kernel
theorem dL_isWritten_187 : decode cL_isWritten 187 = .ok (.goto 4, 3) := by decide +kernel
theorem dL_isWritten_190 : decode cL_isWritten 190 = .ok (.iconst 0, 1) := by decide +kernel
theorem dL_isWritten_191 : decode cL_isWritten 191 = .ok (.istore 5, 2) := by decide +kernel
theorem dL_isWritten_193 : decode cL_isWritten 193 = .ok (.iinc 6 1, 3) := by decide +kernel
theorem dL_isWritten_196 : decode cL_isWritten 196 = .ok (.goto (-55), 3) := by decide +kernel
theorem dL_isWritten_199 : decode cL_isWritten 199 = .ok (.iload_n 3, 1) := by decide +kernel
theorem dL_isWritten_200 : decode cL_isWritten 200 = .ok (.ifCond .ne 7, 3) := by decide +kernel
theorem dL_isWritten_203 : decode cL_isWritten 203 = .ok (.iconst 0, 1) := by decide +kernel
theorem dL_isWritten_204 : decode cL_isWritten 204 = .ok (.goto 5, 3) := by decide +kernel
theorem dL_isWritten_207 : decode cL_isWritten 207 = .ok (.iload 4, 2) := by decide +kernel
theorem dL_isWritten_209 : decode cL_isWritten 209 = .ok (.istore 6, 2) := by decide +kernel
theorem dL_isWritten_211 : decode cL_isWritten 211 = .ok (.iload 6, 2) := by decide +kernel
theorem dL_isWritten_213 : decode cL_isWritten 213 = .ok (.ifCond .le 22, 3) := by decide +kernel
theorem dL_isWritten_216 : decode cL_isWritten 216 = .ok (.aload_n 0, 1) := by decide +kernel
theorem dL_isWritten_217 : decode cL_isWritten 217 = .ok (.iload 6, 2) := by decide +kernel
theorem dL_isWritten_219 : decode cL_isWritten 219 = .ok (.iconst 1, 1) := by decide +kernel
theorem dL_isWritten_220 : decode cL_isWritten 220 = .ok (.isub, 1) := by decide +kernel
theorem dL_isWritten_221 : decode cL_isWritten 221 = .ok (.invokevirtual 54, 3) := by decide +kernel
theorem dL_isWritten_224 : decode cL_isWritten 224 = .ok (.bipush 44, 2) := by decide +kernel
theorem dL_isWritten_226 : decode cL_isWritten 226 = .ok (.if_icmp .eq 9, 3) := by decide +kernel
theorem dL_isWritten_229 : decode cL_isWritten 229 = .ok (.iinc 6 (-1), 3) := by decide +kernel
theorem dL_isWritten_232 : decode cL_isWritten 232 = .ok (.goto (-21), 3) := by decide +kernel
theorem dL_isWritten_235 : decode cL_isWritten 235 = .ok (.iload 6, 2) := by decide +kernel
theorem dL_isWritten_237 : decode cL_isWritten 237 = .ok (.iload 6, 2) := by decide +kernel
theorem dL_isWritten_239 : decode cL_isWritten 239 = .ok (.ifCond .le 7, 3) := by decide +kernel
theorem dL_isWritten_242 : decode cL_isWritten 242 = .ok (.iconst 1, 1) := by decide +kernel
theorem dL_isWritten_243 : decode cL_isWritten 243 = .ok (.goto 4, 3) := by decide +kernel
theorem dL_isWritten_246 : decode cL_isWritten 246 = .ok (.iconst 0, 1) := by decide +kernel
theorem dL_isWritten_247 : decode cL_isWritten 247 = .ok (.iadd, 1) := by decide +kernel
theorem dL_isWritten_248 : decode cL_isWritten 248 = .ok (.istore 6, 2) := by decide +kernel
theorem dL_isWritten_250 : decode cL_isWritten 250 = .ok (.iload 5, 2) := by decide +kernel
theorem dL_isWritten_252 : decode cL_isWritten 252 = .ok (.ifCond .eq 58, 3) := by decide +kernel
theorem dL_isWritten_255 : decode cL_isWritten 255 = .ok (.aload_n 0, 1) := by decide +kernel
theorem dL_isWritten_256 : decode cL_isWritten 256 = .ok (.iload_n 2, 1) := by decide +kernel
theorem dL_isWritten_257 : decode cL_isWritten 257 = .ok (.iconst 2, 1) := by decide +kernel
theorem dL_isWritten_258 : decode cL_isWritten 258 = .ok (.irem, 1) := by decide +kernel
theorem dL_isWritten_259 : decode cL_isWritten 259 = .ok (.ifCond .ne 8, 3) := by decide +kernel
theorem dL_isWritten_262 : decode cL_isWritten 262 = .ok (.bipush 44, 2) := by decide +kernel
theorem dL_isWritten_264 : decode cL_isWritten 264 = .ok (.goto 5, 3) := by decide +kernel
theorem dL_isWritten_267 : decode cL_isWritten 267 = .ok (.bipush 35, 2) := by decide +kernel
theorem dL_isWritten_269 : decode cL_isWritten 269 = .ok (.invokevirtual 9, 3) := by decide +kernel
theorem dL_isWritten_272 : decode cL_isWritten 272 = .ok (.iload 4, 2) := by decide +kernel
theorem dL_isWritten_274 : decode cL_isWritten 274 = .ok (.iconst 1, 1) := by decide +kernel
theorem dL_isWritten_275 : decode cL_isWritten 275 = .ok (.iadd, 1) := by decide +kernel
theorem dL_isWritten_276 : decode cL_isWritten 276 = .ok (.if_icmp .ne 34, 3) := by decide +kernel
theorem dL_isWritten_279 : decode cL_isWritten 279 = .ok (.aload_n 0, 1) := by decide +kernel
theorem dL_isWritten_280 : decode cL_isWritten 280 = .ok (.invokevirtual 57, 3) := by decide +kernel
theorem dL_isWritten_283 : decode cL_isWritten 283 = .ok (.iload 6, 2) := by decide +kernel
theorem dL_isWritten_285 : decode cL_isWritten 285 = .ok (.if_icmp .ne 25, 3) := by decide +kernel
theorem dL_isWritten_288 : decode cL_isWritten 288 = .ok (.aload_n 0, 1) := by decide +kernel
theorem dL_isWritten_289 : decode cL_isWritten 289 = .ok (.invokevirtual 41, 3) := by decide +kernel
theorem dL_isWritten_292 : decode cL_isWritten 292 = .ok (.bipush (-2), 2) := by decide +kernel
theorem dL_isWritten_294 : decode cL_isWritten 294 = .ok (.if_icmp .ne 16, 3) := by decide +kernel
theorem dL_isWritten_297 : decode cL_isWritten 297 = .ok (.aload_n 0, 1) := by decide +kernel
theorem dL_isWritten_298 : decode cL_isWritten 298 = .ok (.iconst 3, 1) := by decide +kernel
theorem dL_isWritten_299 : decode cL_isWritten 299 = .ok (.invokevirtual 44, 3) := by decide +kernel
theorem dL_isWritten_302 : decode cL_isWritten 302 = .ok (.iload_n 3, 1) := by decide +kernel
theorem dL_isWritten_303 : decode cL_isWritten 303 = .ok (.if_icmp .ne 7, 3) := by decide +kernel
theorem dL_isWritten_306 : decode cL_isWritten 306 = .ok (.iconst 1, 1) := by decide +kernel
theorem dL_isWritten_307 : decode cL_isWritten 307 = .ok (.goto 4, 3) := by decide +kernel
theorem dL_isWritten_310 : decode cL_isWritten 310 = .ok (.iconst 0, 1) := by decide +kernel
theorem dL_isWritten_311 : decode cL_isWritten 311 = .ok (.istore 5, 2) := by decide +kernel
theorem dL_isWritten_313 : decode cL_isWritten 313 = .ok (.iload 5, 2) := by decide +kernel
theorem dL_isWritten_315 : decode cL_isWritten 315 = .ok (.ireturn, 1) := by decide +kernel
theorem dL_isKept_0 : decode cL_isKept 0 = .ok (.iconst 0, 1) := by decide +kernel
theorem dL_isKept_1 : decode cL_isKept 1 = .ok (.istore_n 2, 1) := by decide +kernel
theorem dL_isKept_2 : decode cL_isKept 2 = .ok (.iconst 0, 1) := by decide +kernel
theorem dL_isKept_3 : decode cL_isKept 3 = .ok (.istore_n 3, 1) := by decide +kernel
theorem dL_isKept_4 : decode cL_isKept 4 = .ok (.iload_n 3, 1) := by decide +kernel
theorem dL_isKept_5 : decode cL_isKept 5 = .ok (.aload_n 0, 1) := by decide +kernel
theorem dL_isKept_6 : decode cL_isKept 6 = .ok (.iconst 0, 1) := by decide +kernel
theorem dL_isKept_7 : decode cL_isKept 7 = .ok (.invokevirtual 44, 3) := by decide +kernel
theorem dL_isKept_10 : decode cL_isKept 10 = .ok (.if_icmp .ge 86, 3) := by decide +kernel
theorem dL_isKept_13 : decode cL_isKept 13 = .ok (.iload_n 2, 1) := by decide +kernel
theorem dL_isKept_14 : decode cL_isKept 14 = .ok (.aload_n 0, 1) := by decide +kernel
theorem dL_isKept_15 : decode cL_isKept 15 = .ok (.iload_n 3, 1) := by decide +kernel
theorem dL_isKept_16 : decode cL_isKept 16 = .ok (.iconst 0, 1) := by decide +kernel
theorem dL_isKept_17 : decode cL_isKept 17 = .ok (.invokevirtual 60, 3) := by decide +kernel
theorem dL_isKept_20 : decode cL_isKept 20 = .ok (.aload_n 0, 1) := by decide +kernel
theorem dL_isKept_21 : decode cL_isKept 21 = .ok (.iload_n 3, 1) := by decide +kernel
theorem dL_isKept_22 : decode cL_isKept 22 = .ok (.iconst 2, 1) := by decide +kernel
theorem dL_isKept_23 : decode cL_isKept 23 = .ok (.invokevirtual 60, 3) := by decide +kernel
theorem dL_isKept_26 : decode cL_isKept 26 = .ok (.isub, 1) := by decide +kernel
theorem dL_isKept_27 : decode cL_isKept 27 = .ok (.iadd, 1) := by decide +kernel
theorem dL_isKept_28 : decode cL_isKept 28 = .ok (.istore_n 2, 1) := by decide +kernel
theorem dL_isKept_29 : decode cL_isKept 29 = .ok (.aload_n 0, 1) := by decide +kernel
theorem dL_isKept_30 : decode cL_isKept 30 = .ok (.iload_n 3, 1) := by decide +kernel
theorem dL_isKept_31 : decode cL_isKept 31 = .ok (.iconst 3, 1) := by decide +kernel
theorem dL_isKept_32 : decode cL_isKept 32 = .ok (.invokevirtual 60, 3) := by decide +kernel
theorem dL_isKept_35 : decode cL_isKept 35 = .ok (.istore 4, 2) := by decide +kernel
theorem dL_isKept_37 : decode cL_isKept 37 = .ok (.aload_n 0, 1) := by decide +kernel
theorem dL_isKept_38 : decode cL_isKept 38 = .ok (.iload_n 3, 1) := by decide +kernel
theorem dL_isKept_39 : decode cL_isKept 39 = .ok (.iconst 4, 1) := by decide +kernel
theorem dL_isKept_40 : decode cL_isKept 40 = .ok (.invokevirtual 60, 3) := by decide +kernel
theorem dL_isKept_43 : decode cL_isKept 43 = .ok (.ifCond .le 7, 3) := by decide +kernel
theorem dL_isKept_46 : decode cL_isKept 46 = .ok (.iconst 1, 1) := by decide +kernel
theorem dL_isKept_47 : decode cL_isKept 47 = .ok (.goto 4, 3) := by decide +kernel
theorem dL_isKept_50 : decode cL_isKept 50 = .ok (.iconst 0, 1) := by decide +kernel
theorem dL_isKept_51 : decode cL_isKept 51 = .ok (.istore 5, 2) := by decide +kernel
theorem dL_isKept_53 : decode cL_isKept 53 = .ok (.iload 5, 2) := by decide +kernel
theorem dL_isKept_55 : decode cL_isKept 55 = .ok (.iload 4, 2) := by decide +kernel
theorem dL_isKept_57 : decode cL_isKept 57 = .ok (.ifCond .le 7, 3) := by decide +kernel
theorem dL_isKept_60 : decode cL_isKept 60 = .ok (.iconst 1, 1) := by decide +kernel
theorem dL_isKept_61 : decode cL_isKept 61 = .ok (.goto 4, 3) := by decide +kernel
theorem dL_isKept_64 : decode cL_isKept 64 = .ok (.iconst 0, 1) := by decide +kernel
theorem dL_isKept_65 : decode cL_isKept 65 = .ok (.if_icmp .ne 23, 3) := by decide +kernel
theorem dL_isKept_68 : decode cL_isKept 68 = .ok (.iload 5, 2) := by decide +kernel
theorem dL_isKept_70 : decode cL_isKept 70 = .ok (.ifCond .eq 20, 3) := by decide +kernel
theorem dL_isKept_73 : decode cL_isKept 73 = .ok (.aload_n 0, 1) := by decide +kernel
theorem dL_isKept_74 : decode cL_isKept 74 = .ok (.iload_n 3, 1) := by decide +kernel
theorem dL_isKept_75 : decode cL_isKept 75 = .ok (.iconst 4, 1) := by decide +kernel
theorem dL_isKept_76 : decode cL_isKept 76 = .ok (.invokevirtual 60, 3) := by decide +kernel
theorem dL_isKept_79 : decode cL_isKept 79 = .ok (.aload_n 0, 1) := by decide +kernel
theorem dL_isKept_80 : decode cL_isKept 80 = .ok (.iload_n 3, 1) := by decide +kernel
theorem dL_isKept_81 : decode cL_isKept 81 = .ok (.iconst 2, 1) := by decide +kernel
theorem dL_isKept_82 : decode cL_isKept 82 = .ok (.invokevirtual 60, 3) := by decide +kernel
theorem dL_isKept_85 : decode cL_isKept 85 = .ok (.if_icmp .gt 5, 3) := by decide +kernel
theorem dL_isKept_88 : decode cL_isKept 88 = .ok (.iconst 0, 1) := by decide +kernel
theorem dL_isKept_89 : decode cL_isKept 89 = .ok (.ireturn, 1) := by decide +kernel
theorem dL_isKept_90 : decode cL_isKept 90 = .ok (.iinc 3 1, 3) := by decide +kernel
theorem dL_isKept_93 : decode cL_isKept 93 = .ok (.goto (-89), 3) := by decide +kernel
theorem dL_isKept_96 : decode cL_isKept 96 = .ok (.aload_n 0, 1) := by decide +kernel
theorem dL_isKept_97 : decode cL_isKept 97 = .ok (.iconst 0, 1) := by decide +kernel
theorem dL_isKept_98 : decode cL_isKept 98 = .ok (.invokevirtual 63, 3) := by decide +kernel
theorem dL_isKept_101 : decode cL_isKept 101 = .ok (.aload_n 0, 1) := by decide +kernel
theorem dL_isKept_102 : decode cL_isKept 102 = .ok (.iconst 1, 1) := by decide +kernel
theorem dL_isKept_103 : decode cL_isKept 103 = .ok (.invokevirtual 63, 3) := by decide +kernel
theorem dL_isKept_106 : decode cL_isKept 106 = .ok (.aload_n 0, 1) := by decide +kernel
theorem dL_isKept_107 : decode cL_isKept 107 = .ok (.iconst 2, 1) := by decide +kernel
theorem dL_isKept_108 : decode cL_isKept 108 = .ok (.invokevirtual 63, 3) := by decide +kernel
theorem dL_isKept_111 : decode cL_isKept 111 = .ok (.iadd, 1) := by decide +kernel
theorem dL_isKept_112 : decode cL_isKept 112 = .ok (.aload_n 0, 1) := by decide +kernel
theorem dL_isKept_113 : decode cL_isKept 113 = .ok (.iconst 3, 1) := by decide +kernel
theorem dL_isKept_114 : decode cL_isKept 114 = .ok (.invokevirtual 63, 3) := by decide +kernel
theorem dL_isKept_117 : decode cL_isKept 117 = .ok (.iadd, 1) := by decide +kernel
theorem dL_isKept_118 : decode cL_isKept 118 = .ok (.aload_n 0, 1) := by decide +kernel
theorem dL_isKept_119 : decode cL_isKept 119 = .ok (.iconst 4, 1) := by decide +kernel
theorem dL_isKept_120 : decode cL_isKept 120 = .ok (.invokevirtual 63, 3) := by decide +kernel
theorem dL_isKept_123 : decode cL_isKept 123 = .ok (.iadd, 1) := by decide +kernel
theorem dL_isKept_124 : decode cL_isKept 124 = .ok (.if_icmp .ne 18, 3) := by decide +kernel
theorem dL_isKept_127 : decode cL_isKept 127 = .ok (.iload_n 2, 1) := by decide +kernel
theorem dL_isKept_128 : decode cL_isKept 128 = .ok (.aload_n 0, 1) := by decide +kernel
theorem dL_isKept_129 : decode cL_isKept 129 = .ok (.iconst 0, 1) := by decide +kernel
theorem dL_isKept_130 : decode cL_isKept 130 = .ok (.invokevirtual 63, 3) := by decide +kernel
theorem dL_isKept_133 : decode cL_isKept 133 = .ok (.iadd, 1) := by decide +kernel
theorem dL_isKept_134 : decode cL_isKept 134 = .ok (.iload_n 1, 1) := by decide +kernel
theorem dL_isKept_135 : decode cL_isKept 135 = .ok (.if_icmp .ne 7, 3) := by decide +kernel
theorem dL_isKept_138 : decode cL_isKept 138 = .ok (.iconst 1, 1) := by decide +kernel
theorem dL_isKept_139 : decode cL_isKept 139 = .ok (.goto 4, 3) := by decide +kernel
theorem dL_isKept_142 : decode cL_isKept 142 = .ok (.iconst 0, 1) := by decide +kernel
theorem dL_isKept_143 : decode cL_isKept 143 = .ok (.ireturn, 1) := by decide +kernel
theorem dL_isUndone_0 : decode cL_isUndone 0 = .ok (.aload_n 0, 1) := by decide +kernel
theorem dL_isUndone_1 : decode cL_isUndone 1 = .ok (.iconst 1, 1) := by decide +kernel
theorem dL_isUndone_2 : decode cL_isUndone 2 = .ok (.invokevirtual 44, 3) := by decide +kernel
theorem dL_isUndone_5 : decode cL_isUndone 5 = .ok (.istore_n 1, 1) := by decide +kernel
theorem dL_isUndone_6 : decode cL_isUndone 6 = .ok (.aload_n 0, 1) := by decide +kernel
theorem dL_isUndone_7 : decode cL_isUndone 7 = .ok (.iconst 0, 1) := by decide +kernel
theorem dL_isUndone_8 : decode cL_isUndone 8 = .ok (.iconst 0, 1) := by decide +kernel
theorem dL_isUndone_9 : decode cL_isUndone 9 = .ok (.invokevirtual 66, 3) := by decide +kernel
theorem dL_isUndone_12 : decode cL_isUndone 12 = .ok (.istore_n 2, 1) := by decide +kernel
theorem dL_isUndone_13 : decode cL_isUndone 13 = .ok (.aload_n 0, 1) := by decide +kernel
theorem dL_isUndone_14 : decode cL_isUndone 14 = .ok (.iconst 2, 1) := by decide +kernel
theorem dL_isUndone_15 : decode cL_isUndone 15 = .ok (.invokevirtual 44, 3) := by decide +kernel
theorem dL_isUndone_18 : decode cL_isUndone 18 = .ok (.istore_n 3, 1) := by decide +kernel
theorem dL_isUndone_19 : decode cL_isUndone 19 = .ok (.aload_n 0, 1) := by decide +kernel
theorem dL_isUndone_20 : decode cL_isUndone 20 = .ok (.bipush 8, 2) := by decide +kernel
theorem dL_isUndone_22 : decode cL_isUndone 22 = .ok (.invokevirtual 44, 3) := by decide +kernel
theorem dL_isUndone_25 : decode cL_isUndone 25 = .ok (.istore 4, 2) := by decide +kernel
theorem dL_isUndone_27 : decode cL_isUndone 27 = .ok (.aload_n 0, 1) := by decide +kernel
theorem dL_isUndone_28 : decode cL_isUndone 28 = .ok (.iconst 0, 1) := by decide +kernel
theorem dL_isUndone_29 : decode cL_isUndone 29 = .ok (.invokevirtual 44, 3) := by decide +kernel
theorem dL_isUndone_32 : decode cL_isUndone 32 = .ok (.istore 5, 2) := by decide +kernel
theorem dL_isUndone_34 : decode cL_isUndone 34 = .ok (.iload 5, 2) := by decide +kernel
theorem dL_isUndone_36 : decode cL_isUndone 36 = .ok (.ifCond .le 12, 3) := by decide +kernel
theorem dL_isUndone_39 : decode cL_isUndone 39 = .ok (.aload_n 0, 1) := by decide +kernel
theorem dL_isUndone_40 : decode cL_isUndone 40 = .ok (.iconst 0, 1) := by decide +kernel
theorem dL_isUndone_41 : decode cL_isUndone 41 = .ok (.iconst 2, 1) := by decide +kernel
theorem dL_isUndone_42 : decode cL_isUndone 42 = .ok (.invokevirtual 60, 3) := by decide +kernel
theorem dL_isUndone_45 : decode cL_isUndone 45 = .ok (.goto 4, 3) := by decide +kernel
theorem dL_isUndone_48 : decode cL_isUndone 48 = .ok (.iconst 0, 1) := by decide +kernel
theorem dL_isUndone_49 : decode cL_isUndone 49 = .ok (.istore 6, 2) := by decide +kernel
theorem dL_isUndone_51 : decode cL_isUndone 51 = .ok (.aload_n 0, 1) := by decide +kernel
theorem dL_isUndone_52 : decode cL_isUndone 52 = .ok (.iconst 0, 1) := by decide +kernel
theorem dL_isUndone_53 : decode cL_isUndone 53 = .ok (.invokevirtual 63, 3) := by decide +kernel
theorem dL_isUndone_56 : decode cL_isUndone 56 = .ok (.istore 7, 2) := by decide +kernel
theorem dL_isUndone_58 : decode cL_isUndone 58 = .ok (.aload_n 0, 1) := by decide +kernel
theorem dL_isUndone_59 : decode cL_isUndone 59 = .ok (.invokevirtual 69, 3) := by decide +kernel
theorem dL_isUndone_62 : decode cL_isUndone 62 = .ok (.lstore 8, 2) := by decide +kernel
theorem dL_isUndone_64 : decode cL_isUndone 64 = .ok (.aload_n 0, 1) := by decide +kernel
theorem dL_isUndone_65 : decode cL_isUndone 65 = .ok (.invokevirtual 73, 3) := by decide +kernel
theorem dL_isUndone_68 : decode cL_isUndone 68 = .ok (.istore 10, 2) := by decide +kernel
theorem dL_isUndone_70 : decode cL_isUndone 70 = .ok (.iload 10, 2) := by decide +kernel
theorem dL_isUndone_72 : decode cL_isUndone 72 = .ok (.ifCond .lt 111, 3) := by decide +kernel
theorem dL_isUndone_75 : decode cL_isUndone 75 = .ok (.iload 10, 2) := by decide +kernel
theorem dL_isUndone_77 : decode cL_isUndone 77 = .ok (.iconst 2, 1) := by decide +kernel
theorem dL_isUndone_78 : decode cL_isUndone 78 = .ok (.if_icmp .gt 105, 3) := by decide +kernel
theorem dL_isUndone_81 : decode cL_isUndone 81 = .ok (.aload_n 0, 1) := by decide +kernel
theorem dL_isUndone_82 : decode cL_isUndone 82 = .ok (.iconst 1, 1) := by decide +kernel
theorem dL_isUndone_83 : decode cL_isUndone 83 = .ok (.invokevirtual 44, 3) := by decide +kernel
theorem dL_isUndone_86 : decode cL_isUndone 86 = .ok (.iload_n 1, 1) := by decide +kernel
theorem dL_isUndone_87 : decode cL_isUndone 87 = .ok (.iconst 1, 1) := by decide +kernel
theorem dL_isUndone_88 : decode cL_isUndone 88 = .ok (.isub, 1) := by decide +kernel
theorem dL_isUndone_89 : decode cL_isUndone 89 = .ok (.if_icmp .ne 94, 3) := by decide +kernel
theorem dL_isUndone_92 : decode cL_isUndone 92 = .ok (.aload_n 0, 1) := by decide +kernel
theorem dL_isUndone_93 : decode cL_isUndone 93 = .ok (.iconst 2, 1) := by decide +kernel
theorem dL_isUndone_94 : decode cL_isUndone 94 = .ok (.invokevirtual 44, 3) := by decide +kernel
theorem dL_isUndone_97 : decode cL_isUndone 97 = .ok (.iload_n 3, 1) := by decide +kernel
theorem dL_isUndone_98 : decode cL_isUndone 98 = .ok (.iconst 1, 1) := by decide +kernel
theorem dL_isUndone_99 : decode cL_isUndone 99 = .ok (.iadd, 1) := by decide +kernel
theorem dL_isUndone_100 : decode cL_isUndone 100 = .ok (.if_icmp .ne 83, 3) := by decide +kernel
theorem dL_isUndone_103 : decode cL_isUndone 103 = .ok (.aload_n 0, 1) := by decide +kernel
theorem dL_isUndone_104 : decode cL_isUndone 104 = .ok (.iconst 0, 1) := by decide +kernel
theorem dL_isUndone_105 : decode cL_isUndone 105 = .ok (.iconst 1, 1) := by decide +kernel
theorem dL_isUndone_106 : decode cL_isUndone 106 = .ok (.invokevirtual 76, 3) := by decide +kernel
theorem dL_isUndone_109 : decode cL_isUndone 109 = .ok (.iload 10, 2) := by decide +kernel
theorem dL_isUndone_111 : decode cL_isUndone 111 = .ok (.if_icmp .ne 72, 3) := by decide +kernel
theorem dL_isUndone_114 : decode cL_isUndone 114 = .ok (.aload_n 0, 1) := by decide +kernel
theorem dL_isUndone_115 : decode cL_isUndone 115 = .ok (.iconst 0, 1) := by decide +kernel
theorem dL_isUndone_116 : decode cL_isUndone 116 = .ok (.bipush 6, 2) := by decide +kernel
theorem dL_isUndone_118 : decode cL_isUndone 118 = .ok (.invokevirtual 76, 3) := by decide +kernel
theorem dL_isUndone_121 : decode cL_isUndone 121 = .ok (.aload_n 0, 1) := by decide +kernel
theorem dL_isUndone_122 : decode cL_isUndone 122 = .ok (.iconst 5, 1) := by decide +kernel
theorem dL_isUndone_123 : decode cL_isUndone 123 = .ok (.invokevirtual 44, 3) := by decide +kernel
theorem dL_isUndone_126 : decode cL_isUndone 126 = .ok (.iconst 1, 1) := by decide +kernel
theorem dL_isUndone_127 : decode cL_isUndone 127 = .ok (.iadd, 1) := by decide +kernel
theorem dL_isUndone_128 : decode cL_isUndone 128 = .ok (.if_icmp .gt 55, 3) := by decide +kernel
theorem dL_isUndone_131 : decode cL_isUndone 131 = .ok (.iload 10, 2) := by decide +kernel
theorem dL_isUndone_133 : decode cL_isUndone 133 = .ok (.iconst 2, 1) := by decide +kernel
theorem dL_isUndone_134 : decode cL_isUndone 134 = .ok (.if_icmp .ne 7, 3) := by decide +kernel
theorem dL_isUndone_137 : decode cL_isUndone 137 = .ok (.iconst 1, 1) := by decide +kernel
theorem dL_isUndone_138 : decode cL_isUndone 138 = .ok (.goto 4, 3) := by decide +kernel
theorem dL_isUndone_141 : decode cL_isUndone 141 = .ok (.iconst 0, 1) := by decide +kernel
theorem dL_isUndone_142 : decode cL_isUndone 142 = .ok (.aload_n 0, 1) := by decide +kernel
theorem dL_isUndone_143 : decode cL_isUndone 143 = .ok (.iconst 0, 1) := by decide +kernel
theorem dL_isUndone_144 : decode cL_isUndone 144 = .ok (.bipush 6, 2) := by decide +kernel
theorem dL_isUndone_146 : decode cL_isUndone 146 = .ok (.invokevirtual 76, 3) := by decide +kernel
theorem dL_isUndone_149 : decode cL_isUndone 149 = .ok (.aload_n 0, 1) := by decide +kernel
theorem dL_isUndone_150 : decode cL_isUndone 150 = .ok (.iconst 5, 1) := by decide +kernel
theorem dL_isUndone_151 : decode cL_isUndone 151 = .ok (.invokevirtual 44, 3) := by decide +kernel
theorem dL_isUndone_154 : decode cL_isUndone 154 = .ok (.if_icmp .le 7, 3) := by decide +kernel
theorem dL_isUndone_157 : decode cL_isUndone 157 = .ok (.iconst 1, 1) := by decide +kernel
theorem dL_isUndone_158 : decode cL_isUndone 158 = .ok (.goto 4, 3) := by decide +kernel
theorem dL_isUndone_161 : decode cL_isUndone 161 = .ok (.iconst 0, 1) := by decide +kernel
theorem dL_isUndone_162 : decode cL_isUndone 162 = .ok (.if_icmp .ne 21, 3) := by decide +kernel
theorem dL_isUndone_165 : decode cL_isUndone 165 = .ok (.iload 10, 2) := by decide +kernel
theorem dL_isUndone_167 : decode cL_isUndone 167 = .ok (.iconst 1, 1) := by decide +kernel
theorem dL_isUndone_168 : decode cL_isUndone 168 = .ok (.if_icmp .ne 11, 3) := by decide +kernel
theorem dL_isUndone_171 : decode cL_isUndone 171 = .ok (.aload_n 0, 1) := by decide +kernel
theorem dL_isUndone_172 : decode cL_isUndone 172 = .ok (.iconst 0, 1) := by decide +kernel
theorem dL_isUndone_173 : decode cL_isUndone 173 = .ok (.invokevirtual 44, 3) := by decide +kernel
theorem dL_isUndone_176 : decode cL_isUndone 176 = .ok (.ifCond .ne 7, 3) := by decide +kernel
theorem dL_isUndone_179 : decode cL_isUndone 179 = .ok (.iconst 1, 1) := by decide +kernel
theorem dL_isUndone_180 : decode cL_isUndone 180 = .ok (.goto 4, 3) := by decide +kernel
theorem dL_isUndone_183 : decode cL_isUndone 183 = .ok (.iconst 0, 1) := by decide +kernel
theorem dL_isUndone_184 : decode cL_isUndone 184 = .ok (.istore 11, 2) := by decide +kernel
theorem dL_isUndone_186 : decode cL_isUndone 186 = .ok (.aload_n 0, 1) := by decide +kernel
theorem dL_isUndone_187 : decode cL_isUndone 187 = .ok (.bipush 7, 2) := by decide +kernel
theorem dL_isUndone_189 : decode cL_isUndone 189 = .ok (.invokevirtual 63, 3) := by decide +kernel
theorem dL_isUndone_192 : decode cL_isUndone 192 = .ok (.istore 12, 2) := by decide +kernel
theorem dL_isUndone_194 : decode cL_isUndone 194 = .ok (.iload 11, 2) := by decide +kernel
theorem dL_isUndone_196 : decode cL_isUndone 196 = .ok (.ifCond .eq 83, 3) := by decide +kernel
theorem dL_isUndone_199 : decode cL_isUndone 199 = .ok (.aload_n 0, 1) := by decide +kernel
theorem dL_isUndone_200 : decode cL_isUndone 200 = .ok (.invokevirtual 79, 3) := by decide +kernel
theorem dL_isUndone_203 : decode cL_isUndone 203 = .ok (.ifCond .lt 76, 3) := by decide +kernel
theorem dL_isUndone_206 : decode cL_isUndone 206 = .ok (.aload_n 0, 1) := by decide +kernel
theorem dL_isUndone_207 : decode cL_isUndone 207 = .ok (.iconst 1, 1) := by decide +kernel
theorem dL_isUndone_208 : decode cL_isUndone 208 = .ok (.invokevirtual 44, 3) := by decide +kernel
theorem dL_isUndone_211 : decode cL_isUndone 211 = .ok (.iload_n 1, 1) := by decide +kernel
theorem dL_isUndone_212 : decode cL_isUndone 212 = .ok (.if_icmp .ne 67, 3) := by decide +kernel
theorem dL_isUndone_215 : decode cL_isUndone 215 = .ok (.aload_n 0, 1) := by decide +kernel
theorem dL_isUndone_216 : decode cL_isUndone 216 = .ok (.iconst 0, 1) := by decide +kernel
theorem dL_isUndone_217 : decode cL_isUndone 217 = .ok (.iconst 0, 1) := by decide +kernel
theorem dL_isUndone_218 : decode cL_isUndone 218 = .ok (.invokevirtual 66, 3) := by decide +kernel
theorem dL_isUndone_221 : decode cL_isUndone 221 = .ok (.iload_n 2, 1) := by decide +kernel
theorem dL_isUndone_222 : decode cL_isUndone 222 = .ok (.if_icmp .ne 57, 3) := by decide +kernel
theorem dL_isUndone_225 : decode cL_isUndone 225 = .ok (.aload_n 0, 1) := by decide +kernel
theorem dL_isUndone_226 : decode cL_isUndone 226 = .ok (.iconst 2, 1) := by decide +kernel
theorem dL_isUndone_227 : decode cL_isUndone 227 = .ok (.invokevirtual 44, 3) := by decide +kernel
theorem dL_isUndone_230 : decode cL_isUndone 230 = .ok (.iload_n 3, 1) := by decide +kernel
theorem dL_isUndone_231 : decode cL_isUndone 231 = .ok (.if_icmp .ne 48, 3) := by decide +kernel
theorem dL_isUndone_234 : decode cL_isUndone 234 = .ok (.aload_n 0, 1) := by decide +kernel
theorem dL_isUndone_235 : decode cL_isUndone 235 = .ok (.bipush 8, 2) := by decide +kernel
theorem dL_isUndone_237 : decode cL_isUndone 237 = .ok (.invokevirtual 44, 3) := by decide +kernel
theorem dL_isUndone_240 : decode cL_isUndone 240 = .ok (.iload 4, 2) := by decide +kernel
theorem dL_isUndone_242 : decode cL_isUndone 242 = .ok (.if_icmp .ne 37, 3) := by decide +kernel
theorem dL_isUndone_245 : decode cL_isUndone 245 = .ok (.aload_n 0, 1) := by decide +kernel
theorem dL_isUndone_246 : decode cL_isUndone 246 = .ok (.iconst 0, 1) := by decide +kernel
theorem dL_isUndone_247 : decode cL_isUndone 247 = .ok (.invokevirtual 44, 3) := by decide +kernel
theorem dL_isUndone_250 : decode cL_isUndone 250 = .ok (.iload 5, 2) := by decide +kernel
theorem dL_isUndone_252 : decode cL_isUndone 252 = .ok (.if_icmp .ne 27, 3) := by decide +kernel
theorem dL_isUndone_255 : decode cL_isUndone 255 = .ok (.aload_n 0, 1) := by decide +kernel
theorem dL_isUndone_256 : decode cL_isUndone 256 = .ok (.iconst 0, 1) := by decide +kernel
theorem dL_isUndone_257 : decode cL_isUndone 257 = .ok (.invokevirtual 63, 3) := by decide +kernel
theorem dL_isUndone_260 : decode cL_isUndone 260 = .ok (.iload 7, 2) := by decide +kernel
theorem dL_isUndone_262 : decode cL_isUndone 262 = .ok (.if_icmp .ne 17, 3) := by decide +kernel
theorem dL_isUndone_265 : decode cL_isUndone 265 = .ok (.aload_n 0, 1) := by decide +kernel
theorem dL_isUndone_266 : decode cL_isUndone 266 = .ok (.invokevirtual 69, 3) := by decide +kernel
theorem dL_isUndone_269 : decode cL_isUndone 269 = .ok (.lload 8, 2) := by decide +kernel
theorem dL_isUndone_271 : decode cL_isUndone 271 = .ok (.lcmp, 1) := by decide +kernel
theorem dL_isUndone_272 : decode cL_isUndone 272 = .ok (.ifCond .ne 7, 3) := by decide +kernel
theorem dL_isUndone_275 : decode cL_isUndone 275 = .ok (.iconst 1, 1) := by decide +kernel
theorem dL_isUndone_276 : decode cL_isUndone 276 = .ok (.goto 4, 3) := by decide +kernel
theorem dL_isUndone_279 : decode cL_isUndone 279 = .ok (.iconst 0, 1) := by decide +kernel
theorem dL_isUndone_280 : decode cL_isUndone 280 = .ok (.istore 11, 2) := by decide +kernel
theorem dL_isUndone_282 : decode cL_isUndone 282 = .ok (.iload 11, 2) := by decide +kernel
theorem dL_isUndone_284 : decode cL_isUndone 284 = .ok (.ifCond .eq 43, 3) := by decide +kernel
theorem dL_isUndone_287 : decode cL_isUndone 287 = .ok (.iload 5, 2) := by decide +kernel
theorem dL_isUndone_289 : decode cL_isUndone 289 = .ok (.ifCond .eq 14, 3) := by decide +kernel
theorem dL_isUndone_292 : decode cL_isUndone 292 = .ok (.aload_n 0, 1) := by decide +kernel
theorem dL_isUndone_293 : decode cL_isUndone 293 = .ok (.iconst 0, 1) := by decide +kernel
theorem dL_isUndone_294 : decode cL_isUndone 294 = .ok (.iconst 2, 1) := by decide +kernel
theorem dL_isUndone_295 : decode cL_isUndone 295 = .ok (.invokevirtual 60, 3) := by decide +kernel
theorem dL_isUndone_298 : decode cL_isUndone 298 = .ok (.iload 6, 2) := by decide +kernel
theorem dL_isUndone_300 : decode cL_isUndone 300 = .ok (.if_icmp .ne 27, 3) := by decide +kernel
theorem dL_isUndone_303 : decode cL_isUndone 303 = .ok (.aload_n 0, 1) := by decide +kernel
theorem dL_isUndone_304 : decode cL_isUndone 304 = .ok (.invokevirtual 73, 3) := by decide +kernel
theorem dL_isUndone_307 : decode cL_isUndone 307 = .ok (.iload 10, 2) := by decide +kernel
theorem dL_isUndone_309 : decode cL_isUndone 309 = .ok (.if_icmp .ne 18, 3) := by decide +kernel
theorem dL_isUndone_312 : decode cL_isUndone 312 = .ok (.aload_n 0, 1) := by decide +kernel
theorem dL_isUndone_313 : decode cL_isUndone 313 = .ok (.bipush 7, 2) := by decide +kernel
theorem dL_isUndone_315 : decode cL_isUndone 315 = .ok (.invokevirtual 63, 3) := by decide +kernel
theorem dL_isUndone_318 : decode cL_isUndone 318 = .ok (.iload 12, 2) := by decide +kernel
theorem dL_isUndone_320 : decode cL_isUndone 320 = .ok (.if_icmp .ne 7, 3) := by decide +kernel
theorem dL_isUndone_323 : decode cL_isUndone 323 = .ok (.iconst 1, 1) := by decide +kernel
theorem dL_isUndone_324 : decode cL_isUndone 324 = .ok (.goto 4, 3) := by decide +kernel
theorem dL_isUndone_327 : decode cL_isUndone 327 = .ok (.iconst 0, 1) := by decide +kernel
theorem dL_isUndone_328 : decode cL_isUndone 328 = .ok (.istore 11, 2) := by decide +kernel
theorem dL_isUndone_330 : decode cL_isUndone 330 = .ok (.iload 11, 2) := by decide +kernel
theorem dL_isUndone_332 : decode cL_isUndone 332 = .ok (.ireturn, 1) := by decide +kernel
theorem dL_law_0 : decode cL_law 0 = .ok (.bipush 24, 2) := by decide +kernel
theorem dL_law_2 : decode cL_law 2 = .ok (.newarray .int, 2) := by decide +kernel
theorem dL_law_4 : decode cL_law 4 = .ok (.astore_n 1, 1) := by decide +kernel
theorem dL_law_5 : decode cL_law 5 = .ok (.new 10, 3) := by decide +kernel
theorem dL_law_8 : decode cL_law 8 = .ok (.dup, 1) := by decide +kernel
theorem dL_law_9 : decode cL_law 9 = .ok (.invokespecial 82, 3) := by decide +kernel
theorem dL_law_12 : decode cL_law 12 = .ok (.astore_n 2, 1) := by decide +kernel
theorem dL_law_13 : decode cL_law 13 = .ok (.iconst 0, 1) := by decide +kernel
theorem dL_law_14 : decode cL_law 14 = .ok (.istore_n 3, 1) := by decide +kernel
theorem dL_law_15 : decode cL_law 15 = .ok (.aload_n 2, 1) := by decide +kernel
theorem dL_law_16 : decode cL_law 16 = .ok (.invokevirtual 79, 3) := by decide +kernel
theorem dL_law_19 : decode cL_law 19 = .ok (.bipush (-2), 2) := by decide +kernel
theorem dL_law_21 : decode cL_law 21 = .ok (.if_icmp .ne 46, 3) := by decide +kernel
theorem dL_law_24 : decode cL_law 24 = .ok (.aload_n 2, 1) := by decide +kernel
theorem dL_law_25 : decode cL_law 25 = .ok (.invokevirtual 57, 3) := by decide +kernel
theorem dL_law_28 : decode cL_law 28 = .ok (.bipush (-4), 2) := by decide +kernel
theorem dL_law_30 : decode cL_law 30 = .ok (.if_icmp .ne 37, 3) := by decide +kernel
theorem dL_law_33 : decode cL_law 33 = .ok (.aload_n 2, 1) := by decide +kernel
theorem dL_law_34 : decode cL_law 34 = .ok (.invokevirtual 41, 3) := by decide +kernel
theorem dL_law_37 : decode cL_law 37 = .ok (.ifCond .ne 30, 3) := by decide +kernel
theorem dL_law_40 : decode cL_law 40 = .ok (.aload_n 2, 1) := by decide +kernel
theorem dL_law_41 : decode cL_law 41 = .ok (.bipush 99, 2) := by decide +kernel
theorem dL_law_43 : decode cL_law 43 = .ok (.iconst 1, 1) := by decide +kernel
theorem dL_law_44 : decode cL_law 44 = .ok (.invokevirtual 83, 3) := by decide +kernel
theorem dL_law_47 : decode cL_law 47 = .ok (.iconst (-1), 1) := by decide +kernel
theorem dL_law_48 : decode cL_law 48 = .ok (.if_icmp .ne 19, 3) := by decide +kernel
theorem dL_law_51 : decode cL_law 51 = .ok (.aload_n 2, 1) := by decide +kernel
theorem dL_law_52 : decode cL_law 52 = .ok (.bipush 100, 2) := by decide +kernel
theorem dL_law_54 : decode cL_law 54 = .ok (.bipush 51, 2) := by decide +kernel
theorem dL_law_56 : decode cL_law 56 = .ok (.invokevirtual 83, 3) := by decide +kernel
theorem dL_law_59 : decode cL_law 59 = .ok (.iconst (-1), 1) := by decide +kernel
theorem dL_law_60 : decode cL_law 60 = .ok (.if_icmp .ne 7, 3) := by decide +kernel
theorem dL_law_63 : decode cL_law 63 = .ok (.iconst 1, 1) := by decide +kernel
theorem dL_law_64 : decode cL_law 64 = .ok (.goto 4, 3) := by decide +kernel
theorem dL_law_67 : decode cL_law 67 = .ok (.iconst 0, 1) := by decide +kernel
theorem dL_law_68 : decode cL_law 68 = .ok (.istore 4, 2) := by decide +kernel
theorem dL_law_70 : decode cL_law 70 = .ok (.iconst 0, 1) := by decide +kernel
theorem dL_law_71 : decode cL_law 71 = .ok (.istore 5, 2) := by decide +kernel
theorem dL_law_73 : decode cL_law 73 = .ok (.iload 5, 2) := by decide +kernel
theorem dL_law_75 : decode cL_law 75 = .ok (.bipush 10, 2) := by decide +kernel
theorem dL_law_77 : decode cL_law 77 = .ok (.if_icmp .ge 346, 3) := by decide +kernel
theorem dL_law_80 : decode cL_law 80 = .ok (.iload 4, 2) := by decide +kernel
theorem dL_law_82 : decode cL_law 82 = .ok (.ifCond .eq 341, 3) := by decide +kernel
theorem dL_law_85 : decode cL_law 85 = .ok (.aload_n 0, 1) := by decide +kernel
theorem dL_law_86 : decode cL_law 86 = .ok (.iconst 3, 1) := by decide +kernel
theorem dL_law_87 : decode cL_law 87 = .ok (.iload 5, 2) := by decide +kernel
theorem dL_law_89 : decode cL_law 89 = .ok (.imul, 1) := by decide +kernel
theorem dL_law_90 : decode cL_law 90 = .ok (.invokestatic 86, 3) := by decide +kernel
theorem dL_law_93 : decode cL_law 93 = .ok (.istore 6, 2) := by decide +kernel
theorem dL_law_95 : decode cL_law 95 = .ok (.aload_n 0, 1) := by decide +kernel
theorem dL_law_96 : decode cL_law 96 = .ok (.iconst 3, 1) := by decide +kernel
theorem dL_law_97 : decode cL_law 97 = .ok (.iload 5, 2) := by decide +kernel
theorem dL_law_99 : decode cL_law 99 = .ok (.imul, 1) := by decide +kernel
theorem dL_law_100 : decode cL_law 100 = .ok (.iconst 1, 1) := by decide +kernel
theorem dL_law_101 : decode cL_law 101 = .ok (.iadd, 1) := by decide +kernel
theorem dL_law_102 : decode cL_law 102 = .ok (.invokestatic 86, 3) := by decide +kernel
theorem dL_law_105 : decode cL_law 105 = .ok (.istore 7, 2) := by decide +kernel
theorem dL_law_107 : decode cL_law 107 = .ok (.aload_n 2, 1) := by decide +kernel
theorem dL_law_108 : decode cL_law 108 = .ok (.iconst 0, 1) := by decide +kernel
theorem dL_law_109 : decode cL_law 109 = .ok (.invokevirtual 44, 3) := by decide +kernel
theorem dL_law_112 : decode cL_law 112 = .ok (.istore 8, 2) := by decide +kernel
theorem dL_law_114 : decode cL_law 114 = .ok (.iload 6, 2) := by decide +kernel
theorem dL_law_116 : decode cL_law 116 = .ok (.iconst 4, 1) := by decide +kernel
theorem dL_law_117 : decode cL_law 117 = .ok (.irem, 1) := by decide +kernel
theorem dL_law_118 : decode cL_law 118 = .ok (.iconst 3, 1) := by decide +kernel
theorem dL_law_119 : decode cL_law 119 = .ok (.if_icmp .eq 168, 3) := by decide +kernel
theorem dL_law_122 : decode cL_law 122 = .ok (.bipush 100, 2) := by decide +kernel
theorem dL_law_124 : decode cL_law 124 = .ok (.iload 6, 2) := by decide +kernel
theorem dL_law_126 : decode cL_law 126 = .ok (.iconst 4, 1) := by decide +kernel
theorem dL_law_127 : decode cL_law 127 = .ok (.ishr, 1) := by decide +kernel
theorem dL_law_128 : decode cL_law 128 = .ok (.sipush 30000, 3) := by decide +kernel
theorem dL_law_131 : decode cL_law 131 = .ok (.irem, 1) := by decide +kernel
theorem dL_law_132 : decode cL_law 132 = .ok (.iadd, 1) := by decide +kernel
theorem dL_law_133 : decode cL_law 133 = .ok (.istore 9, 2) := by decide +kernel
theorem dL_law_135 : decode cL_law 135 = .ok (.aload_n 2, 1) := by decide +kernel
theorem dL_law_136 : decode cL_law 136 = .ok (.iload 9, 2) := by decide +kernel
theorem dL_law_138 : decode cL_law 138 = .ok (.iconst 1, 1) := by decide +kernel
theorem dL_law_139 : decode cL_law 139 = .ok (.iload 6, 2) := by decide +kernel
theorem dL_law_141 : decode cL_law 141 = .ok (.bipush 50, 2) := by decide +kernel
theorem dL_law_143 : decode cL_law 143 = .ok (.irem, 1) := by decide +kernel
theorem dL_law_144 : decode cL_law 144 = .ok (.iadd, 1) := by decide +kernel
theorem dL_law_145 : decode cL_law 145 = .ok (.invokevirtual 83, 3) := by decide +kernel
theorem dL_law_148 : decode cL_law 148 = .ok (.istore 10, 2) := by decide +kernel
theorem dL_law_150 : decode cL_law 150 = .ok (.iload 10, 2) := by decide +kernel
theorem dL_law_152 : decode cL_law 152 = .ok (.iload 8, 2) := by decide +kernel
theorem dL_law_154 : decode cL_law 154 = .ok (.bipush 6, 2) := by decide +kernel
theorem dL_law_156 : decode cL_law 156 = .ok (.if_icmp .ne 8, 3) := by decide +kernel
theorem dL_law_159 : decode cL_law 159 = .ok (.bipush (-3), 2) := by decide +kernel
theorem dL_law_161 : decode cL_law 161 = .ok (.goto 7, 3) := by decide +kernel
theorem dL_law_164 : decode cL_law 164 = .ok (.iload 8, 2) := by decide +kernel
theorem dL_law_166 : decode cL_law 166 = .ok (.iconst 1, 1) := by decide +kernel
theorem dL_law_167 : decode cL_law 167 = .ok (.iadd, 1) := by decide +kernel
theorem dL_law_168 : decode cL_law 168 = .ok (.if_icmp .ne 7, 3) := by decide +kernel
theorem dL_law_171 : decode cL_law 171 = .ok (.iconst 1, 1) := by decide +kernel
theorem dL_law_172 : decode cL_law 172 = .ok (.goto 4, 3) := by decide +kernel
theorem dL_law_175 : decode cL_law 175 = .ok (.iconst 0, 1) := by decide +kernel
theorem dL_law_176 : decode cL_law 176 = .ok (.istore 4, 2) := by decide +kernel
theorem dL_law_178 : decode cL_law 178 = .ok (.iload_n 3, 1) := by decide +kernel
theorem dL_law_179 : decode cL_law 179 = .ok (.iload 8, 2) := by decide +kernel
theorem dL_law_181 : decode cL_law 181 = .ok (.bipush 6, 2) := by decide +kernel
theorem dL_law_183 : decode cL_law 183 = .ok (.if_icmp .ne 7, 3) := by decide +kernel
theorem dL_law_186 : decode cL_law 186 = .ok (.iconst 0, 1) := by decide +kernel
theorem dL_law_187 : decode cL_law 187 = .ok (.goto 5, 3) := by decide +kernel
theorem dL_law_190 : decode cL_law 190 = .ok (.iload 9, 2) := by decide +kernel
theorem dL_law_192 : decode cL_law 192 = .ok (.iadd, 1) := by decide +kernel
theorem dL_law_193 : decode cL_law 193 = .ok (.istore_n 3, 1) := by decide +kernel
theorem dL_law_194 : decode cL_law 194 = .ok (.iconst 0, 1) := by decide +kernel
theorem dL_law_195 : decode cL_law 195 = .ok (.istore 11, 2) := by decide +kernel
theorem dL_law_197 : decode cL_law 197 = .ok (.iload 11, 2) := by decide +kernel
theorem dL_law_199 : decode cL_law 199 = .ok (.bipush 9, 2) := by decide +kernel
theorem dL_law_201 : decode cL_law 201 = .ok (.if_icmp .ge 86, 3) := by decide +kernel
theorem dL_law_204 : decode cL_law 204 = .ok (.iload 8, 2) := by decide +kernel
theorem dL_law_206 : decode cL_law 206 = .ok (.bipush 6, 2) := by decide +kernel
theorem dL_law_208 : decode cL_law 208 = .ok (.if_icmp .ge 79, 3) := by decide +kernel
theorem dL_law_211 : decode cL_law 211 = .ok (.iload 4, 2) := by decide +kernel
theorem dL_law_213 : decode cL_law 213 = .ok (.ifCond .eq 74, 3) := by decide +kernel
theorem dL_law_216 : decode cL_law 216 = .ok (.aload_n 2, 1) := by decide +kernel
theorem dL_law_217 : decode cL_law 217 = .ok (.iload 8, 2) := by decide +kernel
theorem dL_law_219 : decode cL_law 219 = .ok (.iconst 1, 1) := by decide +kernel
theorem dL_law_220 : decode cL_law 220 = .ok (.iload 11, 2) := by decide +kernel
theorem dL_law_222 : decode cL_law 222 = .ok (.bipush 7, 2) := by decide +kernel
theorem dL_law_224 : decode cL_law 224 = .ok (.imul, 1) := by decide +kernel
theorem dL_law_225 : decode cL_law 225 = .ok (.iadd, 1) := by decide +kernel
theorem dL_law_226 : decode cL_law 226 = .ok (.iload 7, 2) := by decide +kernel
theorem dL_law_228 : decode cL_law 228 = .ok (.iload 11, 2) := by decide +kernel
theorem dL_law_230 : decode cL_law 230 = .ok (.ishr, 1) := by decide +kernel
theorem dL_law_231 : decode cL_law 231 = .ok (.sipush 200, 3) := by decide +kernel
theorem dL_law_234 : decode cL_law 234 = .ok (.irem, 1) := by decide +kernel
theorem dL_law_235 : decode cL_law 235 = .ok (.invokevirtual 90, 3) := by decide +kernel
theorem dL_law_238 : decode cL_law 238 = .ok (.istore 12, 2) := by decide +kernel
theorem dL_law_240 : decode cL_law 240 = .ok (.iload 12, 2) := by decide +kernel
theorem dL_law_242 : decode cL_law 242 = .ok (.iload 11, 2) := by decide +kernel
theorem dL_law_244 : decode cL_law 244 = .ok (.bipush 8, 2) := by decide +kernel
theorem dL_law_246 : decode cL_law 246 = .ok (.if_icmp .ne 8, 3) := by decide +kernel
theorem dL_law_249 : decode cL_law 249 = .ok (.bipush (-3), 2) := by decide +kernel
theorem dL_law_251 : decode cL_law 251 = .ok (.goto 7, 3) := by decide +kernel
theorem dL_law_254 : decode cL_law 254 = .ok (.iload 11, 2) := by decide +kernel
theorem dL_law_256 : decode cL_law 256 = .ok (.iconst 1, 1) := by decide +kernel
theorem dL_law_257 : decode cL_law 257 = .ok (.iadd, 1) := by decide +kernel
theorem dL_law_258 : decode cL_law 258 = .ok (.if_icmp .ne 20, 3) := by decide +kernel
theorem dL_law_261 : decode cL_law 261 = .ok (.aload_n 2, 1) := by decide +kernel
theorem dL_law_262 : decode cL_law 262 = .ok (.iload 8, 2) := by decide +kernel
theorem dL_law_264 : decode cL_law 264 = .ok (.iconst 1, 1) := by decide +kernel
theorem dL_law_265 : decode cL_law 265 = .ok (.iconst 5, 1) := by decide +kernel
theorem dL_law_266 : decode cL_law 266 = .ok (.invokevirtual 90, 3) := by decide +kernel
theorem dL_law_269 : decode cL_law 269 = .ok (.bipush (-2), 2) := by decide +kernel
theorem dL_law_271 : decode cL_law 271 = .ok (.if_icmp .ne 7, 3) := by decide +kernel
theorem dL_law_274 : decode cL_law 274 = .ok (.iconst 1, 1) := by decide +kernel
theorem dL_law_275 : decode cL_law 275 = .ok (.goto 4, 3) := by decide +kernel
theorem dL_law_278 : decode cL_law 278 = .ok (.iconst 0, 1) := by decide +kernel
theorem dL_law_279 : decode cL_law 279 = .ok (.istore 4, 2) := by decide +kernel
theorem dL_law_281 : decode cL_law 281 = .ok (.iinc 11 1, 3) := by decide +kernel
theorem dL_law_284 : decode cL_law 284 = .ok (.goto (-87), 3) := by decide +kernel
theorem dL_law_287 : decode cL_law 287 = .ok (.iload 4, 2) := by decide +kernel
theorem dL_law_289 : decode cL_law 289 = .ok (.ifCond .eq 49, 3) := by decide +kernel
theorem dL_law_292 : decode cL_law 292 = .ok (.aload_n 2, 1) := by decide +kernel
theorem dL_law_293 : decode cL_law 293 = .ok (.aload_n 0, 1) := by decide +kernel
theorem dL_law_294 : decode cL_law 294 = .ok (.iconst 3, 1) := by decide +kernel
theorem dL_law_295 : decode cL_law 295 = .ok (.iload 5, 2) := by decide +kernel
theorem dL_law_297 : decode cL_law 297 = .ok (.imul, 1) := by decide +kernel
theorem dL_law_298 : decode cL_law 298 = .ok (.iconst 2, 1) := by decide +kernel
theorem dL_law_299 : decode cL_law 299 = .ok (.iadd, 1) := by decide +kernel
theorem dL_law_300 : decode cL_law 300 = .ok (.invokestatic 86, 3) := by decide +kernel
theorem dL_law_303 : decode cL_law 303 = .ok (.iconst 5, 1) := by decide +kernel
theorem dL_law_304 : decode cL_law 304 = .ok (.invokestatic 94, 3) := by decide +kernel
theorem dL_law_307 : decode cL_law 307 = .ok (.iconst 1, 1) := by decide +kernel
theorem dL_law_308 : decode cL_law 308 = .ok (.if_icmp .lt 30, 3) := by decide +kernel
theorem dL_law_311 : decode cL_law 311 = .ok (.aload_n 2, 1) := by decide +kernel
theorem dL_law_312 : decode cL_law 312 = .ok (.aload_n 1, 1) := by decide +kernel
theorem dL_law_313 : decode cL_law 313 = .ok (.iload 6, 2) := by decide +kernel
theorem dL_law_315 : decode cL_law 315 = .ok (.invokestatic 98, 3) := by decide +kernel
theorem dL_law_318 : decode cL_law 318 = .ok (.ifCond .eq 20, 3) := by decide +kernel
theorem dL_law_321 : decode cL_law 321 = .ok (.aload_n 2, 1) := by decide +kernel
theorem dL_law_322 : decode cL_law 322 = .ok (.iconst 1, 1) := by decide +kernel
theorem dL_law_323 : decode cL_law 323 = .ok (.iload 7, 2) := by decide +kernel
theorem dL_law_325 : decode cL_law 325 = .ok (.bipush 21, 2) := by decide +kernel
theorem dL_law_327 : decode cL_law 327 = .ok (.irem, 1) := by decide +kernel
theorem dL_law_328 : decode cL_law 328 = .ok (.invokevirtual 102, 3) := by decide +kernel
theorem dL_law_331 : decode cL_law 331 = .ok (.ifCond .lt 7, 3) := by decide +kernel
theorem dL_law_334 : decode cL_law 334 = .ok (.iconst 1, 1) := by decide +kernel
theorem dL_law_335 : decode cL_law 335 = .ok (.goto 4, 3) := by decide +kernel
theorem dL_law_338 : decode cL_law 338 = .ok (.iconst 0, 1) := by decide +kernel
theorem dL_law_339 : decode cL_law 339 = .ok (.istore 4, 2) := by decide +kernel
theorem dL_law_341 : decode cL_law 341 = .ok (.iload 4, 2) := by decide +kernel
theorem dL_law_343 : decode cL_law 343 = .ok (.ifCond .eq 71, 3) := by decide +kernel
theorem dL_law_346 : decode cL_law 346 = .ok (.aload_n 2, 1) := by decide +kernel
theorem dL_law_347 : decode cL_law 347 = .ok (.bipush 20, 2) := by decide +kernel
theorem dL_law_349 : decode cL_law 349 = .ok (.iload 7, 2) := by decide +kernel
theorem dL_law_351 : decode cL_law 351 = .ok (.sipush 181, 3) := by decide +kernel
theorem dL_law_354 : decode cL_law 354 = .ok (.irem, 1) := by decide +kernel
theorem dL_law_355 : decode cL_law 355 = .ok (.iadd, 1) := by decide +kernel
theorem dL_law_356 : decode cL_law 356 = .ok (.bipush 20, 2) := by decide +kernel
theorem dL_law_358 : decode cL_law 358 = .ok (.iload 7, 2) := by decide +kernel
theorem dL_law_360 : decode cL_law 360 = .ok (.bipush 6, 2) := by decide +kernel
theorem dL_law_362 : decode cL_law 362 = .ok (.ishr, 1) := by decide +kernel
theorem dL_law_363 : decode cL_law 363 = .ok (.sipush 181, 3) := by decide +kernel
theorem dL_law_366 : decode cL_law 366 = .ok (.irem, 1) := by decide +kernel
theorem dL_law_367 : decode cL_law 367 = .ok (.iadd, 1) := by decide +kernel
theorem dL_law_368 : decode cL_law 368 = .ok (.bipush 10, 2) := by decide +kernel
theorem dL_law_370 : decode cL_law 370 = .ok (.iload 7, 2) := by decide +kernel
theorem dL_law_372 : decode cL_law 372 = .ok (.iconst 2, 1) := by decide +kernel
theorem dL_law_373 : decode cL_law 373 = .ok (.ishr, 1) := by decide +kernel
theorem dL_law_374 : decode cL_law 374 = .ok (.sipush 241, 3) := by decide +kernel
theorem dL_law_377 : decode cL_law 377 = .ok (.irem, 1) := by decide +kernel
theorem dL_law_378 : decode cL_law 378 = .ok (.iadd, 1) := by decide +kernel
theorem dL_law_379 : decode cL_law 379 = .ok (.iload 7, 2) := by decide +kernel
theorem dL_law_381 : decode cL_law 381 = .ok (.iconst 4, 1) := by decide +kernel
theorem dL_law_382 : decode cL_law 382 = .ok (.ishr, 1) := by decide +kernel
theorem dL_law_383 : decode cL_law 383 = .ok (.sipush 5001, 3) := by decide +kernel
theorem dL_law_386 : decode cL_law 386 = .ok (.irem, 1) := by decide +kernel
theorem dL_law_387 : decode cL_law 387 = .ok (.iload 5, 2) := by decide +kernel
theorem dL_law_389 : decode cL_law 389 = .ok (.invokevirtual 105, 3) := by decide +kernel
theorem dL_law_392 : decode cL_law 392 = .ok (.ifCond .lt 22, 3) := by decide +kernel
theorem dL_law_395 : decode cL_law 395 = .ok (.aload_n 2, 1) := by decide +kernel
theorem dL_law_396 : decode cL_law 396 = .ok (.invokestatic 109, 3) := by decide +kernel
theorem dL_law_399 : decode cL_law 399 = .ok (.ifCond .eq 15, 3) := by decide +kernel
theorem dL_law_402 : decode cL_law 402 = .ok (.aload_n 2, 1) := by decide +kernel
theorem dL_law_403 : decode cL_law 403 = .ok (.iload_n 3, 1) := by decide +kernel
theorem dL_law_404 : decode cL_law 404 = .ok (.invokestatic 113, 3) := by decide +kernel
theorem dL_law_407 : decode cL_law 407 = .ok (.ifCond .eq 7, 3) := by decide +kernel
theorem dL_law_410 : decode cL_law 410 = .ok (.iconst 1, 1) := by decide +kernel
theorem dL_law_411 : decode cL_law 411 = .ok (.goto 4, 3) := by decide +kernel
theorem dL_law_414 : decode cL_law 414 = .ok (.iconst 0, 1) := by decide +kernel
theorem dL_law_415 : decode cL_law 415 = .ok (.istore 4, 2) := by decide +kernel
theorem dL_law_417 : decode cL_law 417 = .ok (.iinc 5 1, 3) := by decide +kernel
theorem dL_law_420 : decode cL_law 420 = .ok (.goto (-347), 3) := by decide +kernel
theorem dL_law_423 : decode cL_law 423 = .ok (.iload 4, 2) := by decide +kernel
theorem dL_law_425 : decode cL_law 425 = .ok (.ifCond .eq 60, 3) := by decide +kernel
theorem dL_law_428 : decode cL_law 428 = .ok (.aload_n 2, 1) := by decide +kernel
theorem dL_law_429 : decode cL_law 429 = .ok (.bipush 6, 2) := by decide +kernel
theorem dL_law_431 : decode cL_law 431 = .ok (.iconst 1, 1) := by decide +kernel
theorem dL_law_432 : decode cL_law 432 = .ok (.iconst 1, 1) := by decide +kernel
theorem dL_law_433 : decode cL_law 433 = .ok (.invokevirtual 90, 3) := by decide +kernel
theorem dL_law_436 : decode cL_law 436 = .ok (.iconst (-1), 1) := by decide +kernel
theorem dL_law_437 : decode cL_law 437 = .ok (.if_icmp .ne 48, 3) := by decide +kernel
theorem dL_law_440 : decode cL_law 440 = .ok (.aload_n 2, 1) := by decide +kernel
theorem dL_law_441 : decode cL_law 441 = .ok (.iconst 2, 1) := by decide +kernel
theorem dL_law_442 : decode cL_law 442 = .ok (.iconst 0, 1) := by decide +kernel
theorem dL_law_443 : decode cL_law 443 = .ok (.invokevirtual 102, 3) := by decide +kernel
theorem dL_law_446 : decode cL_law 446 = .ok (.iconst (-1), 1) := by decide +kernel
theorem dL_law_447 : decode cL_law 447 = .ok (.if_icmp .ne 38, 3) := by decide +kernel
theorem dL_law_450 : decode cL_law 450 = .ok (.aload_n 2, 1) := by decide +kernel
theorem dL_law_451 : decode cL_law 451 = .ok (.iconst 1, 1) := by decide +kernel
theorem dL_law_452 : decode cL_law 452 = .ok (.bipush 21, 2) := by decide +kernel
theorem dL_law_454 : decode cL_law 454 = .ok (.invokevirtual 102, 3) := by decide +kernel
theorem dL_law_457 : decode cL_law 457 = .ok (.iconst (-1), 1) := by decide +kernel
theorem dL_law_458 : decode cL_law 458 = .ok (.if_icmp .ne 27, 3) := by decide +kernel
theorem dL_law_461 : decode cL_law 461 = .ok (.aload_n 2, 1) := by decide +kernel
theorem dL_law_462 : decode cL_law 462 = .ok (.bipush 9, 2) := by decide +kernel
theorem dL_law_464 : decode cL_law 464 = .ok (.invokevirtual 44, 3) := by decide +kernel
theorem dL_law_467 : decode cL_law 467 = .ok (.iconst (-1), 1) := by decide +kernel
theorem dL_law_468 : decode cL_law 468 = .ok (.if_icmp .ne 17, 3) := by decide +kernel
theorem dL_law_471 : decode cL_law 471 = .ok (.aload_n 2, 1) := by decide +kernel
theorem dL_law_472 : decode cL_law 472 = .ok (.bipush 31, 2) := by decide +kernel
theorem dL_law_474 : decode cL_law 474 = .ok (.invokevirtual 9, 3) := by decide +kernel
theorem dL_law_477 : decode cL_law 477 = .ok (.iconst (-1), 1) := by decide +kernel
theorem dL_law_478 : decode cL_law 478 = .ok (.if_icmp .ne 7, 3) := by decide +kernel
theorem dL_law_481 : decode cL_law 481 = .ok (.iconst 1, 1) := by decide +kernel
theorem dL_law_482 : decode cL_law 482 = .ok (.goto 4, 3) := by decide +kernel
theorem dL_law_485 : decode cL_law 485 = .ok (.iconst 0, 1) := by decide +kernel
theorem dL_law_486 : decode cL_law 486 = .ok (.ireturn, 1) := by decide +kernel
