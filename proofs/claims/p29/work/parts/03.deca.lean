theorem dX0_init_0 : decode cX0_init 0 = .ok (.aload_n 0, 1) := by decide +kernel
theorem dX0_init_1 : decode cX0_init 1 = .ok (.invokespecial 3, 3) := by decide +kernel
theorem dX0_init_4 : decode cX0_init 4 = .ok (.aload_n 0, 1) := by decide +kernel
theorem dX0_init_5 : decode cX0_init 5 = .ok (.new 9, 3) := by decide +kernel
theorem dX0_init_8 : decode cX0_init 8 = .ok (.dup, 1) := by decide +kernel
theorem dX0_init_9 : decode cX0_init 9 = .ok (.invokespecial 11, 3) := by decide +kernel
theorem dX0_init_12 : decode cX0_init 12 = .ok (.putfield 12, 3) := by decide +kernel
theorem dX0_init_15 : decode cX0_init 15 = .ok (.return_, 1) := by decide +kernel
theorem dX0_begin_0 : decode cX0_begin 0 = .ok (.aload_n 0, 1) := by decide +kernel
theorem dX0_begin_1 : decode cX0_begin 1 = .ok (.aload_n 1, 1) := by decide +kernel
theorem dX0_begin_2 : decode cX0_begin 2 = .ok (.putfield 12, 3) := by decide +kernel
theorem dX0_begin_5 : decode cX0_begin 5 = .ok (.aload_n 0, 1) := by decide +kernel
theorem dX0_begin_6 : decode cX0_begin 6 = .ok (.iload_n 2, 1) := by decide +kernel
theorem dX0_begin_7 : decode cX0_begin 7 = .ok (.putfield 18, 3) := by decide +kernel
theorem dX0_begin_10 : decode cX0_begin 10 = .ok (.aload_n 0, 1) := by decide +kernel
theorem dX0_begin_11 : decode cX0_begin 11 = .ok (.iconst 0, 1) := by decide +kernel
theorem dX0_begin_12 : decode cX0_begin 12 = .ok (.putfield 22, 3) := by decide +kernel
theorem dX0_begin_15 : decode cX0_begin 15 = .ok (.aload_n 0, 1) := by decide +kernel
theorem dX0_begin_16 : decode cX0_begin 16 = .ok (.iconst 0, 1) := by decide +kernel
theorem dX0_begin_17 : decode cX0_begin 17 = .ok (.putfield 25, 3) := by decide +kernel
theorem dX0_begin_20 : decode cX0_begin 20 = .ok (.aload_n 0, 1) := by decide +kernel
theorem dX0_begin_21 : decode cX0_begin 21 = .ok (.iconst 0, 1) := by decide +kernel
theorem dX0_begin_22 : decode cX0_begin 22 = .ok (.putfield 28, 3) := by decide +kernel
theorem dX0_begin_25 : decode cX0_begin 25 = .ok (.aload_n 0, 1) := by decide +kernel
theorem dX0_begin_26 : decode cX0_begin 26 = .ok (.bipush 40, 2) := by decide +kernel
theorem dX0_begin_28 : decode cX0_begin 28 = .ok (.putfield 31, 3) := by decide +kernel
theorem dX0_begin_31 : decode cX0_begin 31 = .ok (.aload_n 0, 1) := by decide +kernel
theorem dX0_begin_32 : decode cX0_begin 32 = .ok (.bipush 100, 2) := by decide +kernel
theorem dX0_begin_34 : decode cX0_begin 34 = .ok (.putfield 34, 3) := by decide +kernel
theorem dX0_begin_37 : decode cX0_begin 37 = .ok (.return_, 1) := by decide +kernel
theorem dX0_advance_0 : decode cX0_advance 0 = .ok (.aload_n 0, 1) := by decide +kernel
theorem dX0_advance_1 : decode cX0_advance 1 = .ok (.getfield 22, 3) := by decide +kernel
theorem dX0_advance_4 : decode cX0_advance 4 = .ok (.aload_n 0, 1) := by decide +kernel
theorem dX0_advance_5 : decode cX0_advance 5 = .ok (.getfield 12, 3) := by decide +kernel
theorem dX0_advance_8 : decode cX0_advance 8 = .ok (.getfield 37, 3) := by decide +kernel
theorem dX0_advance_11 : decode cX0_advance 11 = .ok (.if_icmp .ge 54, 3) := by decide +kernel
theorem dX0_advance_14 : decode cX0_advance 14 = .ok (.aload_n 0, 1) := by decide +kernel
theorem dX0_advance_15 : decode cX0_advance 15 = .ok (.aload_n 0, 1) := by decide +kernel
theorem dX0_advance_16 : decode cX0_advance 16 = .ok (.getfield 12, 3) := by decide +kernel
theorem dX0_advance_19 : decode cX0_advance 19 = .ok (.getfield 40, 3) := by decide +kernel
theorem dX0_advance_22 : decode cX0_advance 22 = .ok (.aload_n 0, 1) := by decide +kernel
theorem dX0_advance_23 : decode cX0_advance 23 = .ok (.getfield 22, 3) := by decide +kernel
theorem dX0_advance_26 : decode cX0_advance 26 = .ok (.iaload, 1) := by decide +kernel
theorem dX0_advance_27 : decode cX0_advance 27 = .ok (.aload_n 0, 1) := by decide +kernel
theorem dX0_advance_28 : decode cX0_advance 28 = .ok (.getfield 12, 3) := by decide +kernel
theorem dX0_advance_31 : decode cX0_advance 31 = .ok (.getfield 44, 3) := by decide +kernel
theorem dX0_advance_34 : decode cX0_advance 34 = .ok (.aload_n 0, 1) := by decide +kernel
theorem dX0_advance_35 : decode cX0_advance 35 = .ok (.getfield 22, 3) := by decide +kernel
theorem dX0_advance_38 : decode cX0_advance 38 = .ok (.iaload, 1) := by decide +kernel
theorem dX0_advance_39 : decode cX0_advance 39 = .ok (.invokevirtual 47, 3) := by decide +kernel
theorem dX0_advance_42 : decode cX0_advance 42 = .ok (.ifCond .eq 5, 3) := by decide +kernel
theorem dX0_advance_45 : decode cX0_advance 45 = .ok (.iconst 1, 1) := by decide +kernel
theorem dX0_advance_46 : decode cX0_advance 46 = .ok (.ireturn, 1) := by decide +kernel
theorem dX0_advance_47 : decode cX0_advance 47 = .ok (.aload_n 0, 1) := by decide +kernel
theorem dX0_advance_48 : decode cX0_advance 48 = .ok (.dup, 1) := by decide +kernel
theorem dX0_advance_49 : decode cX0_advance 49 = .ok (.getfield 22, 3) := by decide +kernel
theorem dX0_advance_52 : decode cX0_advance 52 = .ok (.iconst 1, 1) := by decide +kernel
theorem dX0_advance_53 : decode cX0_advance 53 = .ok (.iadd, 1) := by decide +kernel
theorem dX0_advance_54 : decode cX0_advance 54 = .ok (.putfield 22, 3) := by decide +kernel
theorem dX0_advance_57 : decode cX0_advance 57 = .ok (.aload_n 0, 1) := by decide +kernel
theorem dX0_advance_58 : decode cX0_advance 58 = .ok (.iconst 0, 1) := by decide +kernel
theorem dX0_advance_59 : decode cX0_advance 59 = .ok (.putfield 25, 3) := by decide +kernel
theorem dX0_advance_62 : decode cX0_advance 62 = .ok (.goto (-62), 3) := by decide +kernel
theorem dX0_advance_65 : decode cX0_advance 65 = .ok (.iconst 0, 1) := by decide +kernel
theorem dX0_advance_66 : decode cX0_advance 66 = .ok (.ireturn, 1) := by decide +kernel
theorem dX0_takesTurn_0 : decode cX0_takesTurn 0 = .ok (.iload_n 1, 1) := by decide +kernel
theorem dX0_takesTurn_1 : decode cX0_takesTurn 1 = .ok (.tableswitch 119 0 3 #[31, 55, 87, 112], 31) := by decide +kernel
theorem dX0_takesTurn_32 : decode cX0_takesTurn 32 = .ok (.aload_n 0, 1) := by decide +kernel
theorem dX0_takesTurn_33 : decode cX0_takesTurn 33 = .ok (.dup, 1) := by decide +kernel
theorem dX0_takesTurn_34 : decode cX0_takesTurn 34 = .ok (.getfield 25, 3) := by decide +kernel
theorem dX0_takesTurn_37 : decode cX0_takesTurn 37 = .ok (.iconst 1, 1) := by decide +kernel
theorem dX0_takesTurn_38 : decode cX0_takesTurn 38 = .ok (.iadd, 1) := by decide +kernel
theorem dX0_takesTurn_39 : decode cX0_takesTurn 39 = .ok (.putfield 25, 3) := by decide +kernel
theorem dX0_takesTurn_42 : decode cX0_takesTurn 42 = .ok (.aload_n 0, 1) := by decide +kernel
theorem dX0_takesTurn_43 : decode cX0_takesTurn 43 = .ok (.getfield 25, 3) := by decide +kernel
theorem dX0_takesTurn_46 : decode cX0_takesTurn 46 = .ok (.iload_n 2, 1) := by decide +kernel
theorem dX0_takesTurn_47 : decode cX0_takesTurn 47 = .ok (.if_icmp .gt 7, 3) := by decide +kernel
theorem dX0_takesTurn_50 : decode cX0_takesTurn 50 = .ok (.iconst 1, 1) := by decide +kernel
theorem dX0_takesTurn_51 : decode cX0_takesTurn 51 = .ok (.goto 4, 3) := by decide +kernel
theorem dX0_takesTurn_54 : decode cX0_takesTurn 54 = .ok (.iconst 0, 1) := by decide +kernel
theorem dX0_takesTurn_55 : decode cX0_takesTurn 55 = .ok (.ireturn, 1) := by decide +kernel
theorem dX0_takesTurn_56 : decode cX0_takesTurn 56 = .ok (.aload_n 0, 1) := by decide +kernel
theorem dX0_takesTurn_57 : decode cX0_takesTurn 57 = .ok (.getfield 28, 3) := by decide +kernel
theorem dX0_takesTurn_60 : decode cX0_takesTurn 60 = .ok (.aload_n 0, 1) := by decide +kernel
theorem dX0_takesTurn_61 : decode cX0_takesTurn 61 = .ok (.getfield 18, 3) := by decide +kernel
theorem dX0_takesTurn_64 : decode cX0_takesTurn 64 = .ok (.if_icmp .lt 5, 3) := by decide +kernel
theorem dX0_takesTurn_67 : decode cX0_takesTurn 67 = .ok (.iconst 0, 1) := by decide +kernel
theorem dX0_takesTurn_68 : decode cX0_takesTurn 68 = .ok (.ireturn, 1) := by decide +kernel
theorem dX0_takesTurn_69 : decode cX0_takesTurn 69 = .ok (.aload_n 0, 1) := by decide +kernel
theorem dX0_takesTurn_70 : decode cX0_takesTurn 70 = .ok (.aload_n 0, 1) := by decide +kernel
theorem dX0_takesTurn_71 : decode cX0_takesTurn 71 = .ok (.getfield 28, 3) := by decide +kernel
theorem dX0_takesTurn_74 : decode cX0_takesTurn 74 = .ok (.iload_n 2, 1) := by decide +kernel
theorem dX0_takesTurn_75 : decode cX0_takesTurn 75 = .ok (.iadd, 1) := by decide +kernel
theorem dX0_takesTurn_76 : decode cX0_takesTurn 76 = .ok (.aload_n 0, 1) := by decide +kernel
theorem dX0_takesTurn_77 : decode cX0_takesTurn 77 = .ok (.getfield 18, 3) := by decide +kernel
theorem dX0_takesTurn_80 : decode cX0_takesTurn 80 = .ok (.invokestatic 51, 3) := by decide +kernel
theorem dX0_takesTurn_83 : decode cX0_takesTurn 83 = .ok (.putfield 28, 3) := by decide +kernel
theorem dX0_takesTurn_86 : decode cX0_takesTurn 86 = .ok (.iconst 1, 1) := by decide +kernel
theorem dX0_takesTurn_87 : decode cX0_takesTurn 87 = .ok (.ireturn, 1) := by decide +kernel
theorem dX0_takesTurn_88 : decode cX0_takesTurn 88 = .ok (.aload_n 0, 1) := by decide +kernel
theorem dX0_takesTurn_89 : decode cX0_takesTurn 89 = .ok (.getfield 28, 3) := by decide +kernel
theorem dX0_takesTurn_92 : decode cX0_takesTurn 92 = .ok (.ifCond .gt 5, 3) := by decide +kernel
theorem dX0_takesTurn_95 : decode cX0_takesTurn 95 = .ok (.iconst 0, 1) := by decide +kernel
theorem dX0_takesTurn_96 : decode cX0_takesTurn 96 = .ok (.ireturn, 1) := by decide +kernel
theorem dX0_takesTurn_97 : decode cX0_takesTurn 97 = .ok (.aload_n 0, 1) := by decide +kernel
theorem dX0_takesTurn_98 : decode cX0_takesTurn 98 = .ok (.aload_n 0, 1) := by decide +kernel
theorem dX0_takesTurn_99 : decode cX0_takesTurn 99 = .ok (.getfield 28, 3) := by decide +kernel
theorem dX0_takesTurn_102 : decode cX0_takesTurn 102 = .ok (.iload_n 2, 1) := by decide +kernel
theorem dX0_takesTurn_103 : decode cX0_takesTurn 103 = .ok (.isub, 1) := by decide +kernel
theorem dX0_takesTurn_104 : decode cX0_takesTurn 104 = .ok (.iconst 0, 1) := by decide +kernel
theorem dX0_takesTurn_105 : decode cX0_takesTurn 105 = .ok (.invokestatic 57, 3) := by decide +kernel
theorem dX0_takesTurn_108 : decode cX0_takesTurn 108 = .ok (.putfield 28, 3) := by decide +kernel
theorem dX0_takesTurn_111 : decode cX0_takesTurn 111 = .ok (.iconst 1, 1) := by decide +kernel
theorem dX0_takesTurn_112 : decode cX0_takesTurn 112 = .ok (.ireturn, 1) := by decide +kernel
theorem dX0_takesTurn_113 : decode cX0_takesTurn 113 = .ok (.aload_n 0, 1) := by decide +kernel
theorem dX0_takesTurn_114 : decode cX0_takesTurn 114 = .ok (.iload_n 2, 1) := by decide +kernel
theorem dX0_takesTurn_115 : decode cX0_takesTurn 115 = .ok (.putfield 31, 3) := by decide +kernel
theorem dX0_takesTurn_118 : decode cX0_takesTurn 118 = .ok (.iconst 0, 1) := by decide +kernel
theorem dX0_takesTurn_119 : decode cX0_takesTurn 119 = .ok (.ireturn, 1) := by decide +kernel
theorem dX0_takesTurn_120 : decode cX0_takesTurn 120 = .ok (.aload_n 0, 1) := by decide +kernel
theorem dX0_takesTurn_121 : decode cX0_takesTurn 121 = .ok (.iload_n 2, 1) := by decide +kernel
theorem dX0_takesTurn_122 : decode cX0_takesTurn 122 = .ok (.putfield 34, 3) := by decide +kernel
theorem dX0_takesTurn_125 : decode cX0_takesTurn 125 = .ok (.iconst 0, 1) := by decide +kernel
theorem dX0_takesTurn_126 : decode cX0_takesTurn 126 = .ok (.ireturn, 1) := by decide +kernel
theorem dX1_init_0 : decode cX1_init 0 = .ok (.aload_n 0, 1) := by decide +kernel
theorem dX1_init_1 : decode cX1_init 1 = .ok (.invokespecial 3, 3) := by decide +kernel
theorem dX1_init_4 : decode cX1_init 4 = .ok (.return_, 1) := by decide +kernel
theorem dX1_measure_0 : decode cX1_measure 0 = .ok (.aload_n 0, 1) := by decide +kernel
theorem dX1_measure_1 : decode cX1_measure 1 = .ok (.iload_n 1, 1) := by decide +kernel
theorem dX1_measure_2 : decode cX1_measure 2 = .ok (.putfield 9, 3) := by decide +kernel
theorem dX1_measure_5 : decode cX1_measure 5 = .ok (.aload_n 0, 1) := by decide +kernel
theorem dX1_measure_6 : decode cX1_measure 6 = .ok (.iload_n 2, 1) := by decide +kernel
theorem dX1_measure_7 : decode cX1_measure 7 = .ok (.putfield 15, 3) := by decide +kernel
theorem dX1_measure_10 : decode cX1_measure 10 = .ok (.aload_n 0, 1) := by decide +kernel
theorem dX1_measure_11 : decode cX1_measure 11 = .ok (.iload_n 3, 1) := by decide +kernel
theorem dX1_measure_12 : decode cX1_measure 12 = .ok (.putfield 18, 3) := by decide +kernel
theorem dX1_measure_15 : decode cX1_measure 15 = .ok (.aload_n 0, 1) := by decide +kernel
theorem dX1_measure_16 : decode cX1_measure 16 = .ok (.iload 4, 2) := by decide +kernel
theorem dX1_measure_18 : decode cX1_measure 18 = .ok (.putfield 21, 3) := by decide +kernel
theorem dX1_measure_21 : decode cX1_measure 21 = .ok (.return_, 1) := by decide +kernel
theorem dX1_copyFrom_0 : decode cX1_copyFrom 0 = .ok (.aload_n 0, 1) := by decide +kernel
theorem dX1_copyFrom_1 : decode cX1_copyFrom 1 = .ok (.aload_n 1, 1) := by decide +kernel
theorem dX1_copyFrom_2 : decode cX1_copyFrom 2 = .ok (.getfield 24, 3) := by decide +kernel
theorem dX1_copyFrom_5 : decode cX1_copyFrom 5 = .ok (.putfield 24, 3) := by decide +kernel
theorem dX1_copyFrom_8 : decode cX1_copyFrom 8 = .ok (.aload_n 0, 1) := by decide +kernel
theorem dX1_copyFrom_9 : decode cX1_copyFrom 9 = .ok (.aload_n 1, 1) := by decide +kernel
theorem dX1_copyFrom_10 : decode cX1_copyFrom 10 = .ok (.getfield 27, 3) := by decide +kernel
theorem dX1_copyFrom_13 : decode cX1_copyFrom 13 = .ok (.putfield 27, 3) := by decide +kernel
theorem dX1_copyFrom_16 : decode cX1_copyFrom 16 = .ok (.aload_n 0, 1) := by decide +kernel
theorem dX1_copyFrom_17 : decode cX1_copyFrom 17 = .ok (.aload_n 1, 1) := by decide +kernel
theorem dX1_copyFrom_18 : decode cX1_copyFrom 18 = .ok (.getfield 9, 3) := by decide +kernel
theorem dX1_copyFrom_21 : decode cX1_copyFrom 21 = .ok (.aload_n 1, 1) := by decide +kernel
theorem dX1_copyFrom_22 : decode cX1_copyFrom 22 = .ok (.getfield 15, 3) := by decide +kernel
theorem dX1_copyFrom_25 : decode cX1_copyFrom 25 = .ok (.aload_n 1, 1) := by decide +kernel
theorem dX1_copyFrom_26 : decode cX1_copyFrom 26 = .ok (.getfield 18, 3) := by decide +kernel
theorem dX1_copyFrom_29 : decode cX1_copyFrom 29 = .ok (.aload_n 1, 1) := by decide +kernel
theorem dX1_copyFrom_30 : decode cX1_copyFrom 30 = .ok (.getfield 21, 3) := by decide +kernel
theorem dX1_copyFrom_33 : decode cX1_copyFrom 33 = .ok (.invokevirtual 30, 3) := by decide +kernel
theorem dX1_copyFrom_36 : decode cX1_copyFrom 36 = .ok (.return_, 1) := by decide +kernel
theorem dX1_property_0 : decode cX1_property 0 = .ok (.iload_n 1, 1) := by decide +kernel
theorem dX1_property_1 : decode cX1_property 1 = .ok (.tableswitch 60 0 4 #[35, 40, 45, 50, 55], 35) := by decide +kernel
theorem dX1_property_36 : decode cX1_property 36 = .ok (.aload_n 0, 1) := by decide +kernel
theorem dX1_property_37 : decode cX1_property 37 = .ok (.getfield 24, 3) := by decide +kernel
theorem dX1_property_40 : decode cX1_property 40 = .ok (.ireturn, 1) := by decide +kernel
theorem dX1_property_41 : decode cX1_property 41 = .ok (.aload_n 0, 1) := by decide +kernel
theorem dX1_property_42 : decode cX1_property 42 = .ok (.getfield 9, 3) := by decide +kernel
theorem dX1_property_45 : decode cX1_property 45 = .ok (.ireturn, 1) := by decide +kernel
theorem dX1_property_46 : decode cX1_property 46 = .ok (.aload_n 0, 1) := by decide +kernel
theorem dX1_property_47 : decode cX1_property 47 = .ok (.getfield 15, 3) := by decide +kernel
theorem dX1_property_50 : decode cX1_property 50 = .ok (.ireturn, 1) := by decide +kernel
theorem dX1_property_51 : decode cX1_property 51 = .ok (.aload_n 0, 1) := by decide +kernel
theorem dX1_property_52 : decode cX1_property 52 = .ok (.getfield 18, 3) := by decide +kernel
theorem dX1_property_55 : decode cX1_property 55 = .ok (.ireturn, 1) := by decide +kernel
theorem dX1_property_56 : decode cX1_property 56 = .ok (.aload_n 0, 1) := by decide +kernel
theorem dX1_property_57 : decode cX1_property 57 = .ok (.getfield 21, 3) := by decide +kernel
theorem dX1_property_60 : decode cX1_property 60 = .ok (.ireturn, 1) := by decide +kernel
theorem dX1_property_61 : decode cX1_property 61 = .ok (.aload_n 0, 1) := by decide +kernel
theorem dX1_property_62 : decode cX1_property 62 = .ok (.getfield 27, 3) := by decide +kernel
theorem dX1_property_65 : decode cX1_property 65 = .ok (.ireturn, 1) := by decide +kernel
theorem dX1_zones_0 : decode cX1_zones 0 = .ok (.aload_n 0, 1) := by decide +kernel
theorem dX1_zones_1 : decode cX1_zones 1 = .ok (.getfield 18, 3) := by decide +kernel
theorem dX1_zones_4 : decode cX1_zones 4 = .ok (.bipush 10, 2) := by decide +kernel
theorem dX1_zones_6 : decode cX1_zones 6 = .ok (.invokestatic 34, 3) := by decide +kernel
theorem dX1_zones_9 : decode cX1_zones 9 = .ok (.ireturn, 1) := by decide +kernel
theorem dX1_top_0 : decode cX1_top 0 = .ok (.iconst 0, 1) := by decide +kernel
theorem dX1_top_1 : decode cX1_top 1 = .ok (.aload_n 0, 1) := by decide +kernel
theorem dX1_top_2 : decode cX1_top 2 = .ok (.getfield 18, 3) := by decide +kernel
theorem dX1_top_5 : decode cX1_top 5 = .ok (.bipush 50, 2) := by decide +kernel
theorem dX1_top_7 : decode cX1_top 7 = .ok (.isub, 1) := by decide +kernel
theorem dX1_top_8 : decode cX1_top 8 = .ok (.invokestatic 38, 3) := by decide +kernel
theorem dX1_top_11 : decode cX1_top 11 = .ok (.ireturn, 1) := by decide +kernel
theorem dX1_lengthOfTurn_0 : decode cX1_lengthOfTurn 0 = .ok (.iconst 2, 1) := by decide +kernel
theorem dX1_lengthOfTurn_1 : decode cX1_lengthOfTurn 1 = .ok (.aload_n 0, 1) := by decide +kernel
theorem dX1_lengthOfTurn_2 : decode cX1_lengthOfTurn 2 = .ok (.getfield 9, 3) := by decide +kernel
theorem dX1_lengthOfTurn_5 : decode cX1_lengthOfTurn 5 = .ok (.aload_n 0, 1) := by decide +kernel
theorem dX1_lengthOfTurn_6 : decode cX1_lengthOfTurn 6 = .ok (.getfield 15, 3) := by decide +kernel
theorem dX1_lengthOfTurn_9 : decode cX1_lengthOfTurn 9 = .ok (.iadd, 1) := by decide +kernel
theorem dX1_lengthOfTurn_10 : decode cX1_lengthOfTurn 10 = .ok (.imul, 1) := by decide +kernel
theorem dX1_lengthOfTurn_11 : decode cX1_lengthOfTurn 11 = .ok (.bipush 100, 2) := by decide +kernel
theorem dX1_lengthOfTurn_13 : decode cX1_lengthOfTurn 13 = .ok (.imul, 1) := by decide +kernel
theorem dX1_lengthOfTurn_14 : decode cX1_lengthOfTurn 14 = .ok (.bipush 100, 2) := by decide +kernel
theorem dX1_lengthOfTurn_16 : decode cX1_lengthOfTurn 16 = .ok (.iload_n 1, 1) := by decide +kernel
theorem dX1_lengthOfTurn_17 : decode cX1_lengthOfTurn 17 = .ok (.iadd, 1) := by decide +kernel
theorem dX1_lengthOfTurn_18 : decode cX1_lengthOfTurn 18 = .ok (.invokestatic 34, 3) := by decide +kernel
theorem dX1_lengthOfTurn_21 : decode cX1_lengthOfTurn 21 = .ok (.ireturn, 1) := by decide +kernel
theorem dX1_timeOfTurn_0 : decode cX1_timeOfTurn 0 = .ok (.iconst 2, 1) := by decide +kernel
theorem dX1_timeOfTurn_1 : decode cX1_timeOfTurn 1 = .ok (.aload_n 0, 1) := by decide +kernel
theorem dX1_timeOfTurn_2 : decode cX1_timeOfTurn 2 = .ok (.getfield 9, 3) := by decide +kernel
theorem dX1_timeOfTurn_5 : decode cX1_timeOfTurn 5 = .ok (.aload_n 0, 1) := by decide +kernel
theorem dX1_timeOfTurn_6 : decode cX1_timeOfTurn 6 = .ok (.getfield 15, 3) := by decide +kernel
theorem dX1_timeOfTurn_9 : decode cX1_timeOfTurn 9 = .ok (.iadd, 1) := by decide +kernel
theorem dX1_timeOfTurn_10 : decode cX1_timeOfTurn 10 = .ok (.imul, 1) := by decide +kernel
theorem dX1_timeOfTurn_11 : decode cX1_timeOfTurn 11 = .ok (.bipush 40, 2) := by decide +kernel
theorem dX1_timeOfTurn_13 : decode cX1_timeOfTurn 13 = .ok (.invokestatic 34, 3) := by decide +kernel
theorem dX1_timeOfTurn_16 : decode cX1_timeOfTurn 16 = .ok (.ireturn, 1) := by decide +kernel
theorem dX2_init_0 : decode cX2_init 0 = .ok (.aload_n 0, 1) := by decide +kernel
theorem dX2_init_1 : decode cX2_init 1 = .ok (.invokespecial 3, 3) := by decide +kernel
theorem dX2_init_4 : decode cX2_init 4 = .ok (.aload_n 0, 1) := by decide +kernel
theorem dX2_init_5 : decode cX2_init 5 = .ok (.bipush 12, 2) := by decide +kernel
theorem dX2_init_7 : decode cX2_init 7 = .ok (.newarray .int, 2) := by decide +kernel
theorem dX2_init_9 : decode cX2_init 9 = .ok (.putfield 9, 3) := by decide +kernel
theorem dX2_init_12 : decode cX2_init 12 = .ok (.aload_n 0, 1) := by decide +kernel
theorem dX2_init_13 : decode cX2_init 13 = .ok (.bipush 12, 2) := by decide +kernel
theorem dX2_init_15 : decode cX2_init 15 = .ok (.newarray .int, 2) := by decide +kernel
theorem dX2_init_17 : decode cX2_init 17 = .ok (.putfield 15, 3) := by decide +kernel
theorem dX2_init_20 : decode cX2_init 20 = .ok (.return_, 1) := by decide +kernel
theorem dX2_append_0 : decode cX2_append 0 = .ok (.aload_n 0, 1) := by decide +kernel
theorem dX2_append_1 : decode cX2_append 1 = .ok (.getfield 18, 3) := by decide +kernel
theorem dX2_append_4 : decode cX2_append 4 = .ok (.bipush 12, 2) := by decide +kernel
theorem dX2_append_6 : decode cX2_append 6 = .ok (.if_icmp .ge 33, 3) := by decide +kernel
theorem dX2_append_9 : decode cX2_append 9 = .ok (.aload_n 0, 1) := by decide +kernel
theorem dX2_append_10 : decode cX2_append 10 = .ok (.getfield 9, 3) := by decide +kernel
theorem dX2_append_13 : decode cX2_append 13 = .ok (.aload_n 0, 1) := by decide +kernel
theorem dX2_append_14 : decode cX2_append 14 = .ok (.getfield 18, 3) := by decide +kernel
theorem dX2_append_17 : decode cX2_append 17 = .ok (.iload_n 1, 1) := by decide +kernel
theorem dX2_append_18 : decode cX2_append 18 = .ok (.iastore, 1) := by decide +kernel
theorem dX2_append_19 : decode cX2_append 19 = .ok (.aload_n 0, 1) := by decide +kernel
theorem dX2_append_20 : decode cX2_append 20 = .ok (.getfield 15, 3) := by decide +kernel
theorem dX2_append_23 : decode cX2_append 23 = .ok (.aload_n 0, 1) := by decide +kernel
theorem dX2_append_24 : decode cX2_append 24 = .ok (.getfield 18, 3) := by decide +kernel
theorem dX2_append_27 : decode cX2_append 27 = .ok (.iload_n 2, 1) := by decide +kernel
theorem dX2_append_28 : decode cX2_append 28 = .ok (.iastore, 1) := by decide +kernel
theorem dX2_append_29 : decode cX2_append 29 = .ok (.aload_n 0, 1) := by decide +kernel
theorem dX2_append_30 : decode cX2_append 30 = .ok (.dup, 1) := by decide +kernel
theorem dX2_append_31 : decode cX2_append 31 = .ok (.getfield 18, 3) := by decide +kernel
theorem dX2_append_34 : decode cX2_append 34 = .ok (.iconst 1, 1) := by decide +kernel
theorem dX2_append_35 : decode cX2_append 35 = .ok (.iadd, 1) := by decide +kernel
theorem dX2_append_36 : decode cX2_append 36 = .ok (.putfield 18, 3) := by decide +kernel
theorem dX2_append_39 : decode cX2_append 39 = .ok (.return_, 1) := by decide +kernel
theorem dX2_copyFrom_0 : decode cX2_copyFrom 0 = .ok (.aload_n 0, 1) := by decide +kernel
theorem dX2_copyFrom_1 : decode cX2_copyFrom 1 = .ok (.aload_n 1, 1) := by decide +kernel
theorem dX2_copyFrom_2 : decode cX2_copyFrom 2 = .ok (.getfield 18, 3) := by decide +kernel
theorem dX2_copyFrom_5 : decode cX2_copyFrom 5 = .ok (.putfield 18, 3) := by decide +kernel
theorem dX2_copyFrom_8 : decode cX2_copyFrom 8 = .ok (.iconst 0, 1) := by decide +kernel
theorem dX2_copyFrom_9 : decode cX2_copyFrom 9 = .ok (.istore_n 2, 1) := by decide +kernel
theorem dX2_copyFrom_10 : decode cX2_copyFrom 10 = .ok (.iload_n 2, 1) := by decide +kernel
theorem dX2_copyFrom_11 : decode cX2_copyFrom 11 = .ok (.aload_n 0, 1) := by decide +kernel
theorem dX2_copyFrom_12 : decode cX2_copyFrom 12 = .ok (.getfield 18, 3) := by decide +kernel
theorem dX2_copyFrom_15 : decode cX2_copyFrom 15 = .ok (.if_icmp .ge 33, 3) := by decide +kernel
theorem dX2_copyFrom_18 : decode cX2_copyFrom 18 = .ok (.aload_n 0, 1) := by decide +kernel
theorem dX2_copyFrom_19 : decode cX2_copyFrom 19 = .ok (.getfield 9, 3) := by decide +kernel
theorem dX2_copyFrom_22 : decode cX2_copyFrom 22 = .ok (.iload_n 2, 1) := by decide +kernel
theorem dX2_copyFrom_23 : decode cX2_copyFrom 23 = .ok (.aload_n 1, 1) := by decide +kernel
theorem dX2_copyFrom_24 : decode cX2_copyFrom 24 = .ok (.getfield 9, 3) := by decide +kernel
theorem dX2_copyFrom_27 : decode cX2_copyFrom 27 = .ok (.iload_n 2, 1) := by decide +kernel
theorem dX2_copyFrom_28 : decode cX2_copyFrom 28 = .ok (.iaload, 1) := by decide +kernel
theorem dX2_copyFrom_29 : decode cX2_copyFrom 29 = .ok (.iastore, 1) := by decide +kernel
theorem dX2_copyFrom_30 : decode cX2_copyFrom 30 = .ok (.aload_n 0, 1) := by decide +kernel
theorem dX2_copyFrom_31 : decode cX2_copyFrom 31 = .ok (.getfield 15, 3) := by decide +kernel
theorem dX2_copyFrom_34 : decode cX2_copyFrom 34 = .ok (.iload_n 2, 1) := by decide +kernel
theorem dX2_copyFrom_35 : decode cX2_copyFrom 35 = .ok (.aload_n 1, 1) := by decide +kernel
theorem dX2_copyFrom_36 : decode cX2_copyFrom 36 = .ok (.getfield 15, 3) := by decide +kernel
theorem dX2_copyFrom_39 : decode cX2_copyFrom 39 = .ok (.iload_n 2, 1) := by decide +kernel
theorem dX2_copyFrom_40 : decode cX2_copyFrom 40 = .ok (.iaload, 1) := by decide +kernel
theorem dX2_copyFrom_41 : decode cX2_copyFrom 41 = .ok (.iastore, 1) := by decide +kernel
theorem dX2_copyFrom_42 : decode cX2_copyFrom 42 = .ok (.iinc 2 1, 3) := by decide +kernel
theorem dX2_copyFrom_45 : decode cX2_copyFrom 45 = .ok (.goto (-35), 3) := by decide +kernel
theorem dX2_copyFrom_48 : decode cX2_copyFrom 48 = .ok (.return_, 1) := by decide +kernel
theorem dX3_init_0 : decode cX3_init 0 = .ok (.aload_n 0, 1) := by decide +kernel
theorem dX3_init_1 : decode cX3_init 1 = .ok (.invokespecial 3, 3) := by decide +kernel
theorem dX3_init_4 : decode cX3_init 4 = .ok (.aload_n 0, 1) := by decide +kernel
theorem dX3_init_5 : decode cX3_init 5 = .ok (.bipush 25, 2) := by decide +kernel
theorem dX3_init_7 : decode cX3_init 7 = .ok (.newarray .int, 2) := by decide +kernel
theorem dX3_init_9 : decode cX3_init 9 = .ok (.putfield 9, 3) := by decide +kernel
theorem dX3_init_12 : decode cX3_init 12 = .ok (.aload_n 0, 1) := by decide +kernel
theorem dX3_init_13 : decode cX3_init 13 = .ok (.bipush 25, 2) := by decide +kernel
theorem dX3_init_15 : decode cX3_init 15 = .ok (.newarray .int, 2) := by decide +kernel
theorem dX3_init_17 : decode cX3_init 17 = .ok (.putfield 15, 3) := by decide +kernel
theorem dX3_init_20 : decode cX3_init 20 = .ok (.return_, 1) := by decide +kernel
theorem dX3_begin_0 : decode cX3_begin 0 = .ok (.aload_n 0, 1) := by decide +kernel
theorem dX3_begin_1 : decode cX3_begin 1 = .ok (.aload_n 1, 1) := by decide +kernel
theorem dX3_begin_2 : decode cX3_begin 2 = .ok (.getfield 18, 3) := by decide +kernel
theorem dX3_begin_5 : decode cX3_begin 5 = .ok (.putfield 24, 3) := by decide +kernel
theorem dX3_begin_8 : decode cX3_begin 8 = .ok (.aload_n 0, 1) := by decide +kernel
theorem dX3_begin_9 : decode cX3_begin 9 = .ok (.aload_n 1, 1) := by decide +kernel
theorem dX3_begin_10 : decode cX3_begin 10 = .ok (.invokevirtual 25, 3) := by decide +kernel
theorem dX3_begin_13 : decode cX3_begin 13 = .ok (.putfield 29, 3) := by decide +kernel
theorem dX3_begin_16 : decode cX3_begin 16 = .ok (.aload_n 0, 1) := by decide +kernel
theorem dX3_begin_17 : decode cX3_begin 17 = .ok (.iconst 0, 1) := by decide +kernel
theorem dX3_begin_18 : decode cX3_begin 18 = .ok (.putfield 31, 3) := by decide +kernel
theorem dX3_begin_21 : decode cX3_begin 21 = .ok (.aload_n 0, 1) := by decide +kernel
theorem dX3_begin_22 : decode cX3_begin 22 = .ok (.iconst 0, 1) := by decide +kernel
theorem dX3_begin_23 : decode cX3_begin 23 = .ok (.putfield 34, 3) := by decide +kernel
theorem dX3_begin_26 : decode cX3_begin 26 = .ok (.aload_n 0, 1) := by decide +kernel
theorem dX3_begin_27 : decode cX3_begin 27 = .ok (.iconst 0, 1) := by decide +kernel
theorem dX3_begin_28 : decode cX3_begin 28 = .ok (.putfield 37, 3) := by decide +kernel
theorem dX3_begin_31 : decode cX3_begin 31 = .ok (.aload_n 0, 1) := by decide +kernel
theorem dX3_begin_32 : decode cX3_begin 32 = .ok (.iconst 0, 1) := by decide +kernel
theorem dX3_begin_33 : decode cX3_begin 33 = .ok (.putfield 40, 3) := by decide +kernel
theorem dX3_begin_36 : decode cX3_begin 36 = .ok (.aload_n 0, 1) := by decide +kernel
theorem dX3_begin_37 : decode cX3_begin 37 = .ok (.iconst 0, 1) := by decide +kernel
theorem dX3_begin_38 : decode cX3_begin 38 = .ok (.putfield 43, 3) := by decide +kernel
theorem dX3_begin_41 : decode cX3_begin 41 = .ok (.aload_n 0, 1) := by decide +kernel
theorem dX3_begin_42 : decode cX3_begin 42 = .ok (.iconst 0, 1) := by decide +kernel
theorem dX3_begin_43 : decode cX3_begin 43 = .ok (.putfield 46, 3) := by decide +kernel
theorem dX3_begin_46 : decode cX3_begin 46 = .ok (.aload_n 0, 1) := by decide +kernel
theorem dX3_begin_47 : decode cX3_begin 47 = .ok (.iconst 0, 1) := by decide +kernel
theorem dX3_begin_48 : decode cX3_begin 48 = .ok (.putfield 49, 3) := by decide +kernel
theorem dX3_begin_51 : decode cX3_begin 51 = .ok (.aload_n 0, 1) := by decide +kernel
theorem dX3_begin_52 : decode cX3_begin 52 = .ok (.iconst 0, 1) := by decide +kernel
theorem dX3_begin_53 : decode cX3_begin 53 = .ok (.putfield 52, 3) := by decide +kernel
theorem dX3_begin_56 : decode cX3_begin 56 = .ok (.aload_n 0, 1) := by decide +kernel
theorem dX3_begin_57 : decode cX3_begin 57 = .ok (.iconst 0, 1) := by decide +kernel
theorem dX3_begin_58 : decode cX3_begin 58 = .ok (.putfield 55, 3) := by decide +kernel
theorem dX3_begin_61 : decode cX3_begin 61 = .ok (.aload_n 0, 1) := by decide +kernel
theorem dX3_begin_62 : decode cX3_begin 62 = .ok (.iconst 0, 1) := by decide +kernel
theorem dX3_begin_63 : decode cX3_begin 63 = .ok (.putfield 58, 3) := by decide +kernel
theorem dX3_begin_66 : decode cX3_begin 66 = .ok (.aload_n 0, 1) := by decide +kernel
theorem dX3_begin_67 : decode cX3_begin 67 = .ok (.iconst 0, 1) := by decide +kernel
theorem dX3_begin_68 : decode cX3_begin 68 = .ok (.putfield 61, 3) := by decide +kernel
theorem dX3_begin_71 : decode cX3_begin 71 = .ok (.iconst 0, 1) := by decide +kernel
theorem dX3_begin_72 : decode cX3_begin 72 = .ok (.istore_n 2, 1) := by decide +kernel
theorem dX3_begin_73 : decode cX3_begin 73 = .ok (.iload_n 2, 1) := by decide +kernel
theorem dX3_begin_74 : decode cX3_begin 74 = .ok (.aload_n 0, 1) := by decide +kernel
theorem dX3_begin_75 : decode cX3_begin 75 = .ok (.getfield 29, 3) := by decide +kernel
theorem dX3_begin_78 : decode cX3_begin 78 = .ok (.if_icmp .ge 23, 3) := by decide +kernel
theorem dX3_begin_81 : decode cX3_begin 81 = .ok (.aload_n 0, 1) := by decide +kernel
theorem dX3_begin_82 : decode cX3_begin 82 = .ok (.getfield 9, 3) := by decide +kernel
theorem dX3_begin_85 : decode cX3_begin 85 = .ok (.iload_n 2, 1) := by decide +kernel
theorem dX3_begin_86 : decode cX3_begin 86 = .ok (.iconst 0, 1) := by decide +kernel
theorem dX3_begin_87 : decode cX3_begin 87 = .ok (.iastore, 1) := by decide +kernel
theorem dX3_begin_88 : decode cX3_begin 88 = .ok (.aload_n 0, 1) := by decide +kernel
theorem dX3_begin_89 : decode cX3_begin 89 = .ok (.getfield 15, 3) := by decide +kernel
theorem dX3_begin_92 : decode cX3_begin 92 = .ok (.iload_n 2, 1) := by decide +kernel
theorem dX3_begin_93 : decode cX3_begin 93 = .ok (.iconst 0, 1) := by decide +kernel
theorem dX3_begin_94 : decode cX3_begin 94 = .ok (.iastore, 1) := by decide +kernel
theorem dX3_begin_95 : decode cX3_begin 95 = .ok (.iinc 2 1, 3) := by decide +kernel
theorem dX3_begin_98 : decode cX3_begin 98 = .ok (.goto (-25), 3) := by decide +kernel
theorem dX3_begin_101 : decode cX3_begin 101 = .ok (.return_, 1) := by decide +kernel
theorem dX3_copyFrom_0 : decode cX3_copyFrom 0 = .ok (.aload_n 0, 1) := by decide +kernel
theorem dX3_copyFrom_1 : decode cX3_copyFrom 1 = .ok (.aload_n 1, 1) := by decide +kernel
theorem dX3_copyFrom_2 : decode cX3_copyFrom 2 = .ok (.getfield 24, 3) := by decide +kernel
theorem dX3_copyFrom_5 : decode cX3_copyFrom 5 = .ok (.putfield 24, 3) := by decide +kernel
theorem dX3_copyFrom_8 : decode cX3_copyFrom 8 = .ok (.aload_n 0, 1) := by decide +kernel
theorem dX3_copyFrom_9 : decode cX3_copyFrom 9 = .ok (.aload_n 1, 1) := by decide +kernel
theorem dX3_copyFrom_10 : decode cX3_copyFrom 10 = .ok (.getfield 29, 3) := by decide +kernel
theorem dX3_copyFrom_13 : decode cX3_copyFrom 13 = .ok (.putfield 29, 3) := by decide +kernel
theorem dX3_copyFrom_16 : decode cX3_copyFrom 16 = .ok (.aload_n 0, 1) := by decide +kernel
theorem dX3_copyFrom_17 : decode cX3_copyFrom 17 = .ok (.aload_n 1, 1) := by decide +kernel
theorem dX3_copyFrom_18 : decode cX3_copyFrom 18 = .ok (.getfield 31, 3) := by decide +kernel
theorem dX3_copyFrom_21 : decode cX3_copyFrom 21 = .ok (.putfield 31, 3) := by decide +kernel
theorem dX3_copyFrom_24 : decode cX3_copyFrom 24 = .ok (.aload_n 0, 1) := by decide +kernel
theorem dX3_copyFrom_25 : decode cX3_copyFrom 25 = .ok (.aload_n 1, 1) := by decide +kernel
theorem dX3_copyFrom_26 : decode cX3_copyFrom 26 = .ok (.getfield 34, 3) := by decide +kernel
theorem dX3_copyFrom_29 : decode cX3_copyFrom 29 = .ok (.putfield 34, 3) := by decide +kernel
theorem dX3_copyFrom_32 : decode cX3_copyFrom 32 = .ok (.aload_n 0, 1) := by decide +kernel
theorem dX3_copyFrom_33 : decode cX3_copyFrom 33 = .ok (.aload_n 1, 1) := by decide +kernel
theorem dX3_copyFrom_34 : decode cX3_copyFrom 34 = .ok (.getfield 37, 3) := by decide +kernel
theorem dX3_copyFrom_37 : decode cX3_copyFrom 37 = .ok (.putfield 37, 3) := by decide +kernel
theorem dX3_copyFrom_40 : decode cX3_copyFrom 40 = .ok (.aload_n 0, 1) := by decide +kernel
theorem dX3_copyFrom_41 : decode cX3_copyFrom 41 = .ok (.aload_n 1, 1) := by decide +kernel
theorem dX3_copyFrom_42 : decode cX3_copyFrom 42 = .ok (.getfield 40, 3) := by decide +kernel
theorem dX3_copyFrom_45 : decode cX3_copyFrom 45 = .ok (.putfield 40, 3) := by decide +kernel
theorem dX3_copyFrom_48 : decode cX3_copyFrom 48 = .ok (.aload_n 0, 1) := by decide +kernel
theorem dX3_copyFrom_49 : decode cX3_copyFrom 49 = .ok (.aload_n 1, 1) := by decide +kernel
theorem dX3_copyFrom_50 : decode cX3_copyFrom 50 = .ok (.getfield 43, 3) := by decide +kernel
theorem dX3_copyFrom_53 : decode cX3_copyFrom 53 = .ok (.putfield 43, 3) := by decide +kernel
theorem dX3_copyFrom_56 : decode cX3_copyFrom 56 = .ok (.aload_n 0, 1) := by decide +kernel
theorem dX3_copyFrom_57 : decode cX3_copyFrom 57 = .ok (.aload_n 1, 1) := by decide +kernel
theorem dX3_copyFrom_58 : decode cX3_copyFrom 58 = .ok (.getfield 46, 3) := by decide +kernel
theorem dX3_copyFrom_61 : decode cX3_copyFrom 61 = .ok (.putfield 46, 3) := by decide +kernel
theorem dX3_copyFrom_64 : decode cX3_copyFrom 64 = .ok (.aload_n 0, 1) := by decide +kernel
theorem dX3_copyFrom_65 : decode cX3_copyFrom 65 = .ok (.aload_n 1, 1) := by decide +kernel
theorem dX3_copyFrom_66 : decode cX3_copyFrom 66 = .ok (.getfield 49, 3) := by decide +kernel
theorem dX3_copyFrom_69 : decode cX3_copyFrom 69 = .ok (.putfield 49, 3) := by decide +kernel
theorem dX3_copyFrom_72 : decode cX3_copyFrom 72 = .ok (.aload_n 0, 1) := by decide +kernel
theorem dX3_copyFrom_73 : decode cX3_copyFrom 73 = .ok (.aload_n 1, 1) := by decide +kernel
theorem dX3_copyFrom_74 : decode cX3_copyFrom 74 = .ok (.getfield 52, 3) := by decide +kernel
theorem dX3_copyFrom_77 : decode cX3_copyFrom 77 = .ok (.putfield 52, 3) := by decide +kernel
theorem dX3_copyFrom_80 : decode cX3_copyFrom 80 = .ok (.aload_n 0, 1) := by decide +kernel
theorem dX3_copyFrom_81 : decode cX3_copyFrom 81 = .ok (.aload_n 1, 1) := by decide +kernel
theorem dX3_copyFrom_82 : decode cX3_copyFrom 82 = .ok (.getfield 55, 3) := by decide +kernel
theorem dX3_copyFrom_85 : decode cX3_copyFrom 85 = .ok (.putfield 55, 3) := by decide +kernel
theorem dX3_copyFrom_88 : decode cX3_copyFrom 88 = .ok (.aload_n 0, 1) := by decide +kernel
theorem dX3_copyFrom_89 : decode cX3_copyFrom 89 = .ok (.aload_n 1, 1) := by decide +kernel
theorem dX3_copyFrom_90 : decode cX3_copyFrom 90 = .ok (.getfield 58, 3) := by decide +kernel
theorem dX3_copyFrom_93 : decode cX3_copyFrom 93 = .ok (.putfield 58, 3) := by decide +kernel
theorem dX3_copyFrom_96 : decode cX3_copyFrom 96 = .ok (.aload_n 0, 1) := by decide +kernel
theorem dX3_copyFrom_97 : decode cX3_copyFrom 97 = .ok (.aload_n 1, 1) := by decide +kernel
theorem dX3_copyFrom_98 : decode cX3_copyFrom 98 = .ok (.getfield 61, 3) := by decide +kernel
theorem dX3_copyFrom_101 : decode cX3_copyFrom 101 = .ok (.putfield 61, 3) := by decide +kernel
theorem dX3_copyFrom_104 : decode cX3_copyFrom 104 = .ok (.iconst 0, 1) := by decide +kernel
theorem dX3_copyFrom_105 : decode cX3_copyFrom 105 = .ok (.istore_n 2, 1) := by decide +kernel
theorem dX3_copyFrom_106 : decode cX3_copyFrom 106 = .ok (.iload_n 2, 1) := by decide +kernel
theorem dX3_copyFrom_107 : decode cX3_copyFrom 107 = .ok (.aload_n 0, 1) := by decide +kernel
theorem dX3_copyFrom_108 : decode cX3_copyFrom 108 = .ok (.getfield 29, 3) := by decide +kernel
theorem dX3_copyFrom_111 : decode cX3_copyFrom 111 = .ok (.if_icmp .ge 33, 3) := by decide +kernel
theorem dX3_copyFrom_114 : decode cX3_copyFrom 114 = .ok (.aload_n 0, 1) := by decide +kernel
theorem dX3_copyFrom_115 : decode cX3_copyFrom 115 = .ok (.getfield 9, 3) := by decide +kernel
theorem dX3_copyFrom_118 : decode cX3_copyFrom 118 = .ok (.iload_n 2, 1) := by decide +kernel
theorem dX3_copyFrom_119 : decode cX3_copyFrom 119 = .ok (.aload_n 1, 1) := by decide +kernel
theorem dX3_copyFrom_120 : decode cX3_copyFrom 120 = .ok (.getfield 9, 3) := by decide +kernel
theorem dX3_copyFrom_123 : decode cX3_copyFrom 123 = .ok (.iload_n 2, 1) := by decide +kernel
theorem dX3_copyFrom_124 : decode cX3_copyFrom 124 = .ok (.iaload, 1) := by decide +kernel
theorem dX3_copyFrom_125 : decode cX3_copyFrom 125 = .ok (.iastore, 1) := by decide +kernel
theorem dX3_copyFrom_126 : decode cX3_copyFrom 126 = .ok (.aload_n 0, 1) := by decide +kernel
theorem dX3_copyFrom_127 : decode cX3_copyFrom 127 = .ok (.getfield 15, 3) := by decide +kernel
theorem dX3_copyFrom_130 : decode cX3_copyFrom 130 = .ok (.iload_n 2, 1) := by decide +kernel
theorem dX3_copyFrom_131 : decode cX3_copyFrom 131 = .ok (.aload_n 1, 1) := by decide +kernel
theorem dX3_copyFrom_132 : decode cX3_copyFrom 132 = .ok (.getfield 15, 3) := by decide +kernel
theorem dX3_copyFrom_135 : decode cX3_copyFrom 135 = .ok (.iload_n 2, 1) := by decide +kernel
theorem dX3_copyFrom_136 : decode cX3_copyFrom 136 = .ok (.iaload, 1) := by decide +kernel
theorem dX3_copyFrom_137 : decode cX3_copyFrom 137 = .ok (.iastore, 1) := by decide +kernel
theorem dX3_copyFrom_138 : decode cX3_copyFrom 138 = .ok (.iinc 2 1, 3) := by decide +kernel
theorem dX3_copyFrom_141 : decode cX3_copyFrom 141 = .ok (.goto (-35), 3) := by decide +kernel
theorem dX3_copyFrom_144 : decode cX3_copyFrom 144 = .ok (.return_, 1) := by decide +kernel
theorem dX3_greatestForce_0 : decode cX3_greatestForce 0 = .ok (.iconst 0, 1) := by decide +kernel
theorem dX3_greatestForce_1 : decode cX3_greatestForce 1 = .ok (.istore_n 3, 1) := by decide +kernel
theorem dX3_greatestForce_2 : decode cX3_greatestForce 2 = .ok (.iload_n 1, 1) := by decide +kernel
theorem dX3_greatestForce_3 : decode cX3_greatestForce 3 = .ok (.istore 4, 2) := by decide +kernel
theorem dX3_greatestForce_5 : decode cX3_greatestForce 5 = .ok (.iload 4, 2) := by decide +kernel
theorem dX3_greatestForce_7 : decode cX3_greatestForce 7 = .ok (.iload_n 2, 1) := by decide +kernel
theorem dX3_greatestForce_8 : decode cX3_greatestForce 8 = .ok (.if_icmp .ge 21, 3) := by decide +kernel
theorem dX3_greatestForce_11 : decode cX3_greatestForce 11 = .ok (.iload_n 3, 1) := by decide +kernel
theorem dX3_greatestForce_12 : decode cX3_greatestForce 12 = .ok (.aload_n 0, 1) := by decide +kernel
theorem dX3_greatestForce_13 : decode cX3_greatestForce 13 = .ok (.getfield 15, 3) := by decide +kernel
theorem dX3_greatestForce_16 : decode cX3_greatestForce 16 = .ok (.iload 4, 2) := by decide +kernel
theorem dX3_greatestForce_18 : decode cX3_greatestForce 18 = .ok (.iaload, 1) := by decide +kernel
theorem dX3_greatestForce_19 : decode cX3_greatestForce 19 = .ok (.invokestatic 64, 3) := by decide +kernel
theorem dX3_greatestForce_22 : decode cX3_greatestForce 22 = .ok (.istore_n 3, 1) := by decide +kernel
theorem dX3_greatestForce_23 : decode cX3_greatestForce 23 = .ok (.iinc 4 1, 3) := by decide +kernel
theorem dX3_greatestForce_26 : decode cX3_greatestForce 26 = .ok (.goto (-21), 3) := by decide +kernel
theorem dX3_greatestForce_29 : decode cX3_greatestForce 29 = .ok (.iload_n 3, 1) := by decide +kernel
theorem dX3_greatestForce_30 : decode cX3_greatestForce 30 = .ok (.ireturn, 1) := by decide +kernel
theorem dX3_addLayer_0 : decode cX3_addLayer 0 = .ok (.iload_n 1, 1) := by decide +kernel
theorem dX3_addLayer_1 : decode cX3_addLayer 1 = .ok (.aload_n 0, 1) := by decide +kernel
theorem dX3_addLayer_2 : decode cX3_addLayer 2 = .ok (.getfield 29, 3) := by decide +kernel
theorem dX3_addLayer_5 : decode cX3_addLayer 5 = .ok (.invokestatic 70, 3) := by decide +kernel
theorem dX3_addLayer_8 : decode cX3_addLayer 8 = .ok (.istore_n 3, 1) := by decide +kernel
theorem dX3_addLayer_9 : decode cX3_addLayer 9 = .ok (.iload_n 1, 1) := by decide +kernel
theorem dX3_addLayer_10 : decode cX3_addLayer 10 = .ok (.invokestatic 73, 3) := by decide +kernel
theorem dX3_addLayer_13 : decode cX3_addLayer 13 = .ok (.istore 4, 2) := by decide +kernel
theorem dX3_addLayer_15 : decode cX3_addLayer 15 = .ok (.iload 4, 2) := by decide +kernel
theorem dX3_addLayer_17 : decode cX3_addLayer 17 = .ok (.iload_n 3, 1) := by decide +kernel
theorem dX3_addLayer_18 : decode cX3_addLayer 18 = .ok (.if_icmp .ge 31, 3) := by decide +kernel
theorem dX3_addLayer_21 : decode cX3_addLayer 21 = .ok (.aload_n 0, 1) := by decide +kernel
theorem dX3_addLayer_22 : decode cX3_addLayer 22 = .ok (.getfield 9, 3) := by decide +kernel
theorem dX3_addLayer_25 : decode cX3_addLayer 25 = .ok (.iload 4, 2) := by decide +kernel
theorem dX3_addLayer_27 : decode cX3_addLayer 27 = .ok (.dup2, 1) := by decide +kernel
theorem dX3_addLayer_28 : decode cX3_addLayer 28 = .ok (.iaload, 1) := by decide +kernel
theorem dX3_addLayer_29 : decode cX3_addLayer 29 = .ok (.iconst 1, 1) := by decide +kernel
theorem dX3_addLayer_30 : decode cX3_addLayer 30 = .ok (.iadd, 1) := by decide +kernel
theorem dX3_addLayer_31 : decode cX3_addLayer 31 = .ok (.iastore, 1) := by decide +kernel
theorem dX3_addLayer_32 : decode cX3_addLayer 32 = .ok (.aload_n 0, 1) := by decide +kernel
theorem dX3_addLayer_33 : decode cX3_addLayer 33 = .ok (.getfield 15, 3) := by decide +kernel
theorem dX3_addLayer_36 : decode cX3_addLayer 36 = .ok (.iload 4, 2) := by decide +kernel
theorem dX3_addLayer_38 : decode cX3_addLayer 38 = .ok (.dup2, 1) := by decide +kernel
theorem dX3_addLayer_39 : decode cX3_addLayer 39 = .ok (.iaload, 1) := by decide +kernel
theorem dX3_addLayer_40 : decode cX3_addLayer 40 = .ok (.iload_n 2, 1) := by decide +kernel
theorem dX3_addLayer_41 : decode cX3_addLayer 41 = .ok (.iadd, 1) := by decide +kernel
theorem dX3_addLayer_42 : decode cX3_addLayer 42 = .ok (.iastore, 1) := by decide +kernel
theorem dX3_addLayer_43 : decode cX3_addLayer 43 = .ok (.iinc 4 1, 3) := by decide +kernel
theorem dX3_addLayer_46 : decode cX3_addLayer 46 = .ok (.goto (-31), 3) := by decide +kernel
theorem dX3_addLayer_49 : decode cX3_addLayer 49 = .ok (.return_, 1) := by decide +kernel
theorem dX3_property_0 : decode cX3_property 0 = .ok (.iload_n 1, 1) := by decide +kernel
theorem dX3_property_1 : decode cX3_property 1 = .ok (.tableswitch 145 0 11 #[63, 68, 73, 78, 83, 88, 103, 108, 113, 125, 135, 140], 63) := by decide +kernel
theorem dX3_property_64 : decode cX3_property 64 = .ok (.aload_n 0, 1) := by decide +kernel
theorem dX3_property_65 : decode cX3_property 65 = .ok (.getfield 24, 3) := by decide +kernel
theorem dX3_property_68 : decode cX3_property 68 = .ok (.ireturn, 1) := by decide +kernel
theorem dX3_property_69 : decode cX3_property 69 = .ok (.aload_n 0, 1) := by decide +kernel
theorem dX3_property_70 : decode cX3_property 70 = .ok (.getfield 31, 3) := by decide +kernel
theorem dX3_property_73 : decode cX3_property 73 = .ok (.ireturn, 1) := by decide +kernel
theorem dX3_property_74 : decode cX3_property 74 = .ok (.aload_n 0, 1) := by decide +kernel
theorem dX3_property_75 : decode cX3_property 75 = .ok (.getfield 34, 3) := by decide +kernel
theorem dX3_property_78 : decode cX3_property 78 = .ok (.ireturn, 1) := by decide +kernel
theorem dX3_property_79 : decode cX3_property 79 = .ok (.aload_n 0, 1) := by decide +kernel
theorem dX3_property_80 : decode cX3_property 80 = .ok (.getfield 37, 3) := by decide +kernel
theorem dX3_property_83 : decode cX3_property 83 = .ok (.ireturn, 1) := by decide +kernel
theorem dX3_property_84 : decode cX3_property 84 = .ok (.aload_n 0, 1) := by decide +kernel
theorem dX3_property_85 : decode cX3_property 85 = .ok (.getfield 40, 3) := by decide +kernel
theorem dX3_property_88 : decode cX3_property 88 = .ok (.ireturn, 1) := by decide +kernel
theorem dX3_property_89 : decode cX3_property 89 = .ok (.aload_n 0, 1) := by decide +kernel
theorem dX3_property_90 : decode cX3_property 90 = .ok (.getfield 43, 3) := by decide +kernel
theorem dX3_property_93 : decode cX3_property 93 = .ok (.aload_n 0, 1) := by decide +kernel
theorem dX3_property_94 : decode cX3_property 94 = .ok (.getfield 46, 3) := by decide +kernel
theorem dX3_property_97 : decode cX3_property 97 = .ok (.iadd, 1) := by decide +kernel
theorem dX3_property_98 : decode cX3_property 98 = .ok (.aload_n 0, 1) := by decide +kernel
theorem dX3_property_99 : decode cX3_property 99 = .ok (.getfield 49, 3) := by decide +kernel
theorem dX3_property_102 : decode cX3_property 102 = .ok (.iadd, 1) := by decide +kernel
theorem dX3_property_103 : decode cX3_property 103 = .ok (.ireturn, 1) := by decide +kernel
theorem dX3_property_104 : decode cX3_property 104 = .ok (.aload_n 0, 1) := by decide +kernel
theorem dX3_property_105 : decode cX3_property 105 = .ok (.getfield 52, 3) := by decide +kernel
theorem dX3_property_108 : decode cX3_property 108 = .ok (.ireturn, 1) := by decide +kernel
theorem dX3_property_109 : decode cX3_property 109 = .ok (.aload_n 0, 1) := by decide +kernel
theorem dX3_property_110 : decode cX3_property 110 = .ok (.getfield 55, 3) := by decide +kernel
theorem dX3_property_113 : decode cX3_property 113 = .ok (.ireturn, 1) := by decide +kernel
theorem dX3_property_114 : decode cX3_property 114 = .ok (.aload_n 0, 1) := by decide +kernel
theorem dX3_property_115 : decode cX3_property 115 = .ok (.getfield 9, 3) := by decide +kernel
theorem dX3_property_118 : decode cX3_property 118 = .ok (.aload_n 0, 1) := by decide +kernel
theorem dX3_property_119 : decode cX3_property 119 = .ok (.getfield 29, 3) := by decide +kernel
theorem dX3_property_122 : decode cX3_property 122 = .ok (.invokestatic 77, 3) := by decide +kernel
theorem dX3_property_125 : decode cX3_property 125 = .ok (.ireturn, 1) := by decide +kernel
theorem dX3_property_126 : decode cX3_property 126 = .ok (.aload_n 0, 1) := by decide +kernel
theorem dX3_property_127 : decode cX3_property 127 = .ok (.iconst 0, 1) := by decide +kernel
theorem dX3_property_128 : decode cX3_property 128 = .ok (.aload_n 0, 1) := by decide +kernel
theorem dX3_property_129 : decode cX3_property 129 = .ok (.getfield 29, 3) := by decide +kernel
theorem dX3_property_132 : decode cX3_property 132 = .ok (.invokevirtual 81, 3) := by decide +kernel
theorem dX3_property_135 : decode cX3_property 135 = .ok (.ireturn, 1) := by decide +kernel
theorem dX3_property_136 : decode cX3_property 136 = .ok (.aload_n 0, 1) := by decide +kernel
theorem dX3_property_137 : decode cX3_property 137 = .ok (.getfield 58, 3) := by decide +kernel
theorem dX3_property_140 : decode cX3_property 140 = .ok (.ireturn, 1) := by decide +kernel
theorem dX3_property_141 : decode cX3_property 141 = .ok (.aload_n 0, 1) := by decide +kernel
theorem dX3_property_142 : decode cX3_property 142 = .ok (.getfield 61, 3) := by decide +kernel
theorem dX3_property_145 : decode cX3_property 145 = .ok (.ireturn, 1) := by decide +kernel
theorem dX3_property_146 : decode cX3_property 146 = .ok (.aload_n 0, 1) := by decide +kernel
theorem dX3_property_147 : decode cX3_property 147 = .ok (.getfield 29, 3) := by decide +kernel
theorem dX3_property_150 : decode cX3_property 150 = .ok (.ireturn, 1) := by decide +kernel
theorem dX4_init_0 : decode cX4_init 0 = .ok (.aload_n 0, 1) := by decide +kernel
theorem dX4_init_1 : decode cX4_init 1 = .ok (.invokespecial 3, 3) := by decide +kernel
theorem dX4_init_4 : decode cX4_init 4 = .ok (.aload_n 0, 1) := by decide +kernel
theorem dX4_init_5 : decode cX4_init 5 = .ok (.bipush 8, 2) := by decide +kernel
theorem dX4_init_7 : decode cX4_init 7 = .ok (.newarray .int, 2) := by decide +kernel
theorem dX4_init_9 : decode cX4_init 9 = .ok (.putfield 9, 3) := by decide +kernel
theorem dX4_init_12 : decode cX4_init 12 = .ok (.aload_n 0, 1) := by decide +kernel
theorem dX4_init_13 : decode cX4_init 13 = .ok (.bipush 8, 2) := by decide +kernel
theorem dX4_init_15 : decode cX4_init 15 = .ok (.newarray .int, 2) := by decide +kernel
theorem dX4_init_17 : decode cX4_init 17 = .ok (.putfield 15, 3) := by decide +kernel
theorem dX4_init_20 : decode cX4_init 20 = .ok (.return_, 1) := by decide +kernel
theorem dX4_begin_0 : decode cX4_begin 0 = .ok (.aload_n 0, 1) := by decide +kernel
theorem dX4_begin_1 : decode cX4_begin 1 = .ok (.iload_n 1, 1) := by decide +kernel
theorem dX4_begin_2 : decode cX4_begin 2 = .ok (.putfield 18, 3) := by decide +kernel
theorem dX4_begin_5 : decode cX4_begin 5 = .ok (.aload_n 0, 1) := by decide +kernel
theorem dX4_begin_6 : decode cX4_begin 6 = .ok (.iload_n 2, 1) := by decide +kernel
theorem dX4_begin_7 : decode cX4_begin 7 = .ok (.putfield 22, 3) := by decide +kernel
theorem dX4_begin_10 : decode cX4_begin 10 = .ok (.aload_n 0, 1) := by decide +kernel
theorem dX4_begin_11 : decode cX4_begin 11 = .ok (.iconst 0, 1) := by decide +kernel
theorem dX4_begin_12 : decode cX4_begin 12 = .ok (.putfield 25, 3) := by decide +kernel
theorem dX4_begin_15 : decode cX4_begin 15 = .ok (.aload_n 0, 1) := by decide +kernel
theorem dX4_begin_16 : decode cX4_begin 16 = .ok (.iconst 0, 1) := by decide +kernel
theorem dX4_begin_17 : decode cX4_begin 17 = .ok (.putfield 28, 3) := by decide +kernel
theorem dX4_begin_20 : decode cX4_begin 20 = .ok (.return_, 1) := by decide +kernel
theorem dX4_copyFrom_0 : decode cX4_copyFrom 0 = .ok (.aload_n 0, 1) := by decide +kernel
theorem dX4_copyFrom_1 : decode cX4_copyFrom 1 = .ok (.aload_n 1, 1) := by decide +kernel
theorem dX4_copyFrom_2 : decode cX4_copyFrom 2 = .ok (.getfield 18, 3) := by decide +kernel
theorem dX4_copyFrom_5 : decode cX4_copyFrom 5 = .ok (.putfield 18, 3) := by decide +kernel
theorem dX4_copyFrom_8 : decode cX4_copyFrom 8 = .ok (.aload_n 0, 1) := by decide +kernel
theorem dX4_copyFrom_9 : decode cX4_copyFrom 9 = .ok (.aload_n 1, 1) := by decide +kernel
theorem dX4_copyFrom_10 : decode cX4_copyFrom 10 = .ok (.getfield 22, 3) := by decide +kernel
theorem dX4_copyFrom_13 : decode cX4_copyFrom 13 = .ok (.putfield 22, 3) := by decide +kernel
theorem dX4_copyFrom_16 : decode cX4_copyFrom 16 = .ok (.aload_n 0, 1) := by decide +kernel
theorem dX4_copyFrom_17 : decode cX4_copyFrom 17 = .ok (.aload_n 1, 1) := by decide +kernel
theorem dX4_copyFrom_18 : decode cX4_copyFrom 18 = .ok (.getfield 25, 3) := by decide +kernel
theorem dX4_copyFrom_21 : decode cX4_copyFrom 21 = .ok (.putfield 25, 3) := by decide +kernel
theorem dX4_copyFrom_24 : decode cX4_copyFrom 24 = .ok (.aload_n 0, 1) := by decide +kernel
theorem dX4_copyFrom_25 : decode cX4_copyFrom 25 = .ok (.aload_n 1, 1) := by decide +kernel
theorem dX4_copyFrom_26 : decode cX4_copyFrom 26 = .ok (.getfield 28, 3) := by decide +kernel
theorem dX4_copyFrom_29 : decode cX4_copyFrom 29 = .ok (.putfield 28, 3) := by decide +kernel
theorem dX4_copyFrom_32 : decode cX4_copyFrom 32 = .ok (.iconst 0, 1) := by decide +kernel
theorem dX4_copyFrom_33 : decode cX4_copyFrom 33 = .ok (.istore_n 2, 1) := by decide +kernel
theorem dX4_copyFrom_34 : decode cX4_copyFrom 34 = .ok (.iload_n 2, 1) := by decide +kernel
theorem dX4_copyFrom_35 : decode cX4_copyFrom 35 = .ok (.aload_n 0, 1) := by decide +kernel
theorem dX4_copyFrom_36 : decode cX4_copyFrom 36 = .ok (.getfield 28, 3) := by decide +kernel
theorem dX4_copyFrom_39 : decode cX4_copyFrom 39 = .ok (.if_icmp .ge 33, 3) := by decide +kernel
theorem dX4_copyFrom_42 : decode cX4_copyFrom 42 = .ok (.aload_n 0, 1) := by decide +kernel
theorem dX4_copyFrom_43 : decode cX4_copyFrom 43 = .ok (.getfield 9, 3) := by decide +kernel
theorem dX4_copyFrom_46 : decode cX4_copyFrom 46 = .ok (.iload_n 2, 1) := by decide +kernel
theorem dX4_copyFrom_47 : decode cX4_copyFrom 47 = .ok (.aload_n 1, 1) := by decide +kernel
theorem dX4_copyFrom_48 : decode cX4_copyFrom 48 = .ok (.getfield 9, 3) := by decide +kernel
theorem dX4_copyFrom_51 : decode cX4_copyFrom 51 = .ok (.iload_n 2, 1) := by decide +kernel
theorem dX4_copyFrom_52 : decode cX4_copyFrom 52 = .ok (.iaload, 1) := by decide +kernel
theorem dX4_copyFrom_53 : decode cX4_copyFrom 53 = .ok (.iastore, 1) := by decide +kernel
theorem dX4_copyFrom_54 : decode cX4_copyFrom 54 = .ok (.aload_n 0, 1) := by decide +kernel
theorem dX4_copyFrom_55 : decode cX4_copyFrom 55 = .ok (.getfield 15, 3) := by decide +kernel
theorem dX4_copyFrom_58 : decode cX4_copyFrom 58 = .ok (.iload_n 2, 1) := by decide +kernel
theorem dX4_copyFrom_59 : decode cX4_copyFrom 59 = .ok (.aload_n 1, 1) := by decide +kernel
theorem dX4_copyFrom_60 : decode cX4_copyFrom 60 = .ok (.getfield 15, 3) := by decide +kernel
theorem dX4_copyFrom_63 : decode cX4_copyFrom 63 = .ok (.iload_n 2, 1) := by decide +kernel
theorem dX4_copyFrom_64 : decode cX4_copyFrom 64 = .ok (.iaload, 1) := by decide +kernel
theorem dX4_copyFrom_65 : decode cX4_copyFrom 65 = .ok (.iastore, 1) := by decide +kernel
theorem dX4_copyFrom_66 : decode cX4_copyFrom 66 = .ok (.iinc 2 1, 3) := by decide +kernel
theorem dX4_copyFrom_69 : decode cX4_copyFrom 69 = .ok (.goto (-35), 3) := by decide +kernel
theorem dX4_copyFrom_72 : decode cX4_copyFrom 72 = .ok (.return_, 1) := by decide +kernel
theorem dX4_rest_0 : decode cX4_rest 0 = .ok (.aload_n 0, 1) := by decide +kernel
theorem dX4_rest_1 : decode cX4_rest 1 = .ok (.getfield 18, 3) := by decide +kernel
theorem dX4_rest_4 : decode cX4_rest 4 = .ok (.aload_n 0, 1) := by decide +kernel
theorem dX4_rest_5 : decode cX4_rest 5 = .ok (.getfield 25, 3) := by decide +kernel
theorem dX4_rest_8 : decode cX4_rest 8 = .ok (.isub, 1) := by decide +kernel
theorem dX4_rest_9 : decode cX4_rest 9 = .ok (.ireturn, 1) := by decide +kernel
theorem dX4_isWeakAt_0 : decode cX4_isWeakAt 0 = .ok (.iconst 0, 1) := by decide +kernel
theorem dX4_isWeakAt_1 : decode cX4_isWeakAt 1 = .ok (.istore_n 2, 1) := by decide +kernel
theorem dX4_isWeakAt_2 : decode cX4_isWeakAt 2 = .ok (.iload_n 2, 1) := by decide +kernel
theorem dX4_isWeakAt_3 : decode cX4_isWeakAt 3 = .ok (.aload_n 0, 1) := by decide +kernel
theorem dX4_isWeakAt_4 : decode cX4_isWeakAt 4 = .ok (.getfield 28, 3) := by decide +kernel
theorem dX4_isWeakAt_7 : decode cX4_isWeakAt 7 = .ok (.if_icmp .ge 21, 3) := by decide +kernel
theorem dX4_isWeakAt_10 : decode cX4_isWeakAt 10 = .ok (.aload_n 0, 1) := by decide +kernel
theorem dX4_isWeakAt_11 : decode cX4_isWeakAt 11 = .ok (.getfield 9, 3) := by decide +kernel
theorem dX4_isWeakAt_14 : decode cX4_isWeakAt 14 = .ok (.iload_n 2, 1) := by decide +kernel
theorem dX4_isWeakAt_15 : decode cX4_isWeakAt 15 = .ok (.iaload, 1) := by decide +kernel
theorem dX4_isWeakAt_16 : decode cX4_isWeakAt 16 = .ok (.iload_n 1, 1) := by decide +kernel
theorem dX4_isWeakAt_17 : decode cX4_isWeakAt 17 = .ok (.if_icmp .ne 5, 3) := by decide +kernel
theorem dX4_isWeakAt_20 : decode cX4_isWeakAt 20 = .ok (.iconst 1, 1) := by decide +kernel
theorem dX4_isWeakAt_21 : decode cX4_isWeakAt 21 = .ok (.ireturn, 1) := by decide +kernel
theorem dX4_isWeakAt_22 : decode cX4_isWeakAt 22 = .ok (.iinc 2 1, 3) := by decide +kernel
theorem dX4_isWeakAt_25 : decode cX4_isWeakAt 25 = .ok (.goto (-23), 3) := by decide +kernel
theorem dX4_isWeakAt_28 : decode cX4_isWeakAt 28 = .ok (.iconst 0, 1) := by decide +kernel
theorem dX4_isWeakAt_29 : decode cX4_isWeakAt 29 = .ok (.ireturn, 1) := by decide +kernel
theorem dX4_insertWeakPlace_0 : decode cX4_insertWeakPlace 0 = .ok (.aload_n 0, 1) := by decide +kernel
theorem dX4_insertWeakPlace_1 : decode cX4_insertWeakPlace 1 = .ok (.getfield 28, 3) := by decide +kernel
theorem dX4_insertWeakPlace_4 : decode cX4_insertWeakPlace 4 = .ok (.bipush 8, 2) := by decide +kernel
theorem dX4_insertWeakPlace_6 : decode cX4_insertWeakPlace 6 = .ok (.if_icmp .lt 4, 3) := by decide +kernel
theorem dX4_insertWeakPlace_9 : decode cX4_insertWeakPlace 9 = .ok (.return_, 1) := by decide +kernel
theorem dX4_insertWeakPlace_10 : decode cX4_insertWeakPlace 10 = .ok (.aload_n 0, 1) := by decide +kernel
theorem dX4_insertWeakPlace_11 : decode cX4_insertWeakPlace 11 = .ok (.getfield 28, 3) := by decide +kernel
theorem dX4_insertWeakPlace_14 : decode cX4_insertWeakPlace 14 = .ok (.istore_n 3, 1) := by decide +kernel
theorem dX4_insertWeakPlace_15 : decode cX4_insertWeakPlace 15 = .ok (.iload_n 3, 1) := by decide +kernel
theorem dX4_insertWeakPlace_16 : decode cX4_insertWeakPlace 16 = .ok (.ifCond .le 49, 3) := by decide +kernel
theorem dX4_insertWeakPlace_19 : decode cX4_insertWeakPlace 19 = .ok (.aload_n 0, 1) := by decide +kernel
theorem dX4_insertWeakPlace_20 : decode cX4_insertWeakPlace 20 = .ok (.getfield 9, 3) := by decide +kernel
theorem dX4_insertWeakPlace_23 : decode cX4_insertWeakPlace 23 = .ok (.iload_n 3, 1) := by decide +kernel
theorem dX4_insertWeakPlace_24 : decode cX4_insertWeakPlace 24 = .ok (.iconst 1, 1) := by decide +kernel
theorem dX4_insertWeakPlace_25 : decode cX4_insertWeakPlace 25 = .ok (.isub, 1) := by decide +kernel
theorem dX4_insertWeakPlace_26 : decode cX4_insertWeakPlace 26 = .ok (.iaload, 1) := by decide +kernel
theorem dX4_insertWeakPlace_27 : decode cX4_insertWeakPlace 27 = .ok (.iload_n 1, 1) := by decide +kernel
theorem dX4_insertWeakPlace_28 : decode cX4_insertWeakPlace 28 = .ok (.if_icmp .le 37, 3) := by decide +kernel
theorem dX4_insertWeakPlace_31 : decode cX4_insertWeakPlace 31 = .ok (.aload_n 0, 1) := by decide +kernel
theorem dX4_insertWeakPlace_32 : decode cX4_insertWeakPlace 32 = .ok (.getfield 9, 3) := by decide +kernel
theorem dX4_insertWeakPlace_35 : decode cX4_insertWeakPlace 35 = .ok (.iload_n 3, 1) := by decide +kernel
theorem dX4_insertWeakPlace_36 : decode cX4_insertWeakPlace 36 = .ok (.aload_n 0, 1) := by decide +kernel
theorem dX4_insertWeakPlace_37 : decode cX4_insertWeakPlace 37 = .ok (.getfield 9, 3) := by decide +kernel
theorem dX4_insertWeakPlace_40 : decode cX4_insertWeakPlace 40 = .ok (.iload_n 3, 1) := by decide +kernel
theorem dX4_insertWeakPlace_41 : decode cX4_insertWeakPlace 41 = .ok (.iconst 1, 1) := by decide +kernel
theorem dX4_insertWeakPlace_42 : decode cX4_insertWeakPlace 42 = .ok (.isub, 1) := by decide +kernel
theorem dX4_insertWeakPlace_43 : decode cX4_insertWeakPlace 43 = .ok (.iaload, 1) := by decide +kernel
theorem dX4_insertWeakPlace_44 : decode cX4_insertWeakPlace 44 = .ok (.iastore, 1) := by decide +kernel
theorem dX4_insertWeakPlace_45 : decode cX4_insertWeakPlace 45 = .ok (.aload_n 0, 1) := by decide +kernel
theorem dX4_insertWeakPlace_46 : decode cX4_insertWeakPlace 46 = .ok (.getfield 15, 3) := by decide +kernel
theorem dX4_insertWeakPlace_49 : decode cX4_insertWeakPlace 49 = .ok (.iload_n 3, 1) := by decide +kernel
theorem dX4_insertWeakPlace_50 : decode cX4_insertWeakPlace 50 = .ok (.aload_n 0, 1) := by decide +kernel
theorem dX4_insertWeakPlace_51 : decode cX4_insertWeakPlace 51 = .ok (.getfield 15, 3) := by decide +kernel
theorem dX4_insertWeakPlace_54 : decode cX4_insertWeakPlace 54 = .ok (.iload_n 3, 1) := by decide +kernel
theorem dX4_insertWeakPlace_55 : decode cX4_insertWeakPlace 55 = .ok (.iconst 1, 1) := by decide +kernel
theorem dX4_insertWeakPlace_56 : decode cX4_insertWeakPlace 56 = .ok (.isub, 1) := by decide +kernel
theorem dX4_insertWeakPlace_57 : decode cX4_insertWeakPlace 57 = .ok (.iaload, 1) := by decide +kernel
theorem dX4_insertWeakPlace_58 : decode cX4_insertWeakPlace 58 = .ok (.iastore, 1) := by decide +kernel
theorem dX4_insertWeakPlace_59 : decode cX4_insertWeakPlace 59 = .ok (.iinc 3 (-1), 3) := by decide +kernel
theorem dX4_insertWeakPlace_62 : decode cX4_insertWeakPlace 62 = .ok (.goto (-47), 3) := by decide +kernel
theorem dX4_insertWeakPlace_65 : decode cX4_insertWeakPlace 65 = .ok (.aload_n 0, 1) := by decide +kernel
theorem dX4_insertWeakPlace_66 : decode cX4_insertWeakPlace 66 = .ok (.getfield 9, 3) := by decide +kernel
theorem dX4_insertWeakPlace_69 : decode cX4_insertWeakPlace 69 = .ok (.iload_n 3, 1) := by decide +kernel
theorem dX4_insertWeakPlace_70 : decode cX4_insertWeakPlace 70 = .ok (.iload_n 1, 1) := by decide +kernel
theorem dX4_insertWeakPlace_71 : decode cX4_insertWeakPlace 71 = .ok (.iastore, 1) := by decide +kernel
theorem dX4_insertWeakPlace_72 : decode cX4_insertWeakPlace 72 = .ok (.aload_n 0, 1) := by decide +kernel
theorem dX4_insertWeakPlace_73 : decode cX4_insertWeakPlace 73 = .ok (.getfield 15, 3) := by decide +kernel
theorem dX4_insertWeakPlace_76 : decode cX4_insertWeakPlace 76 = .ok (.iload_n 3, 1) := by decide +kernel
theorem dX4_insertWeakPlace_77 : decode cX4_insertWeakPlace 77 = .ok (.iload_n 2, 1) := by decide +kernel
theorem dX4_insertWeakPlace_78 : decode cX4_insertWeakPlace 78 = .ok (.iastore, 1) := by decide +kernel
theorem dX4_insertWeakPlace_79 : decode cX4_insertWeakPlace 79 = .ok (.aload_n 0, 1) := by decide +kernel
theorem dX4_insertWeakPlace_80 : decode cX4_insertWeakPlace 80 = .ok (.dup, 1) := by decide +kernel
theorem dX4_insertWeakPlace_81 : decode cX4_insertWeakPlace 81 = .ok (.getfield 28, 3) := by decide +kernel
theorem dX4_insertWeakPlace_84 : decode cX4_insertWeakPlace 84 = .ok (.iconst 1, 1) := by decide +kernel
theorem dX4_insertWeakPlace_85 : decode cX4_insertWeakPlace 85 = .ok (.iadd, 1) := by decide +kernel
theorem dX4_insertWeakPlace_86 : decode cX4_insertWeakPlace 86 = .ok (.putfield 28, 3) := by decide +kernel
theorem dX4_insertWeakPlace_89 : decode cX4_insertWeakPlace 89 = .ok (.return_, 1) := by decide +kernel
theorem dX4_nextWeak_0 : decode cX4_nextWeak 0 = .ok (.iconst 0, 1) := by decide +kernel
theorem dX4_nextWeak_1 : decode cX4_nextWeak 1 = .ok (.istore_n 1, 1) := by decide +kernel
theorem dX4_nextWeak_2 : decode cX4_nextWeak 2 = .ok (.iload_n 1, 1) := by decide +kernel
theorem dX4_nextWeak_3 : decode cX4_nextWeak 3 = .ok (.aload_n 0, 1) := by decide +kernel
theorem dX4_nextWeak_4 : decode cX4_nextWeak 4 = .ok (.getfield 28, 3) := by decide +kernel
theorem dX4_nextWeak_7 : decode cX4_nextWeak 7 = .ok (.if_icmp .ge 22, 3) := by decide +kernel
theorem dX4_nextWeak_10 : decode cX4_nextWeak 10 = .ok (.aload_n 0, 1) := by decide +kernel
theorem dX4_nextWeak_11 : decode cX4_nextWeak 11 = .ok (.getfield 9, 3) := by decide +kernel
theorem dX4_nextWeak_14 : decode cX4_nextWeak 14 = .ok (.iload_n 1, 1) := by decide +kernel
theorem dX4_nextWeak_15 : decode cX4_nextWeak 15 = .ok (.iaload, 1) := by decide +kernel
theorem dX4_nextWeak_16 : decode cX4_nextWeak 16 = .ok (.aload_n 0, 1) := by decide +kernel
theorem dX4_nextWeak_17 : decode cX4_nextWeak 17 = .ok (.getfield 25, 3) := by decide +kernel
theorem dX4_nextWeak_20 : decode cX4_nextWeak 20 = .ok (.if_icmp .gt 9, 3) := by decide +kernel
theorem dX4_nextWeak_23 : decode cX4_nextWeak 23 = .ok (.iinc 1 1, 3) := by decide +kernel
theorem dX4_nextWeak_26 : decode cX4_nextWeak 26 = .ok (.goto (-24), 3) := by decide +kernel
theorem dX4_nextWeak_29 : decode cX4_nextWeak 29 = .ok (.iload_n 1, 1) := by decide +kernel
theorem dX4_nextWeak_30 : decode cX4_nextWeak 30 = .ok (.ireturn, 1) := by decide +kernel
theorem dX4_property_0 : decode cX4_property 0 = .ok (.aload_n 0, 1) := by decide +kernel
theorem dX4_property_1 : decode cX4_property 1 = .ok (.invokevirtual 31, 3) := by decide +kernel
theorem dX4_property_4 : decode cX4_property 4 = .ok (.istore_n 2, 1) := by decide +kernel
theorem dX4_property_5 : decode cX4_property 5 = .ok (.iload_n 1, 1) := by decide +kernel
theorem dX4_property_6 : decode cX4_property 6 = .ok (.tableswitch 76 0 4 #[34, 39, 44, 49, 56], 34) := by decide +kernel
theorem dX4_property_40 : decode cX4_property 40 = .ok (.aload_n 0, 1) := by decide +kernel
theorem dX4_property_41 : decode cX4_property 41 = .ok (.getfield 18, 3) := by decide +kernel
theorem dX4_property_44 : decode cX4_property 44 = .ok (.ireturn, 1) := by decide +kernel
theorem dX4_property_45 : decode cX4_property 45 = .ok (.aload_n 0, 1) := by decide +kernel
theorem dX4_property_46 : decode cX4_property 46 = .ok (.getfield 22, 3) := by decide +kernel
theorem dX4_property_49 : decode cX4_property 49 = .ok (.ireturn, 1) := by decide +kernel
theorem dX4_property_50 : decode cX4_property 50 = .ok (.aload_n 0, 1) := by decide +kernel
theorem dX4_property_51 : decode cX4_property 51 = .ok (.getfield 25, 3) := by decide +kernel
theorem dX4_property_54 : decode cX4_property 54 = .ok (.ireturn, 1) := by decide +kernel
theorem dX4_property_55 : decode cX4_property 55 = .ok (.aload_n 0, 1) := by decide +kernel
theorem dX4_property_56 : decode cX4_property 56 = .ok (.getfield 28, 3) := by decide +kernel
theorem dX4_property_59 : decode cX4_property 59 = .ok (.iload_n 2, 1) := by decide +kernel
theorem dX4_property_60 : decode cX4_property 60 = .ok (.isub, 1) := by decide +kernel
theorem dX4_property_61 : decode cX4_property 61 = .ok (.ireturn, 1) := by decide +kernel
theorem dX4_property_62 : decode cX4_property 62 = .ok (.iload_n 2, 1) := by decide +kernel
theorem dX4_property_63 : decode cX4_property 63 = .ok (.aload_n 0, 1) := by decide +kernel
theorem dX4_property_64 : decode cX4_property 64 = .ok (.getfield 28, 3) := by decide +kernel
theorem dX4_property_67 : decode cX4_property 67 = .ok (.if_icmp .ge 12, 3) := by decide +kernel
theorem dX4_property_70 : decode cX4_property 70 = .ok (.aload_n 0, 1) := by decide +kernel
theorem dX4_property_71 : decode cX4_property 71 = .ok (.getfield 9, 3) := by decide +kernel
theorem dX4_property_74 : decode cX4_property 74 = .ok (.iload_n 2, 1) := by decide +kernel
theorem dX4_property_75 : decode cX4_property 75 = .ok (.iaload, 1) := by decide +kernel
theorem dX4_property_76 : decode cX4_property 76 = .ok (.goto 5, 3) := by decide +kernel
theorem dX4_property_79 : decode cX4_property 79 = .ok (.bipush (-4), 2) := by decide +kernel
theorem dX4_property_81 : decode cX4_property 81 = .ok (.ireturn, 1) := by decide +kernel
theorem dX4_property_82 : decode cX4_property 82 = .ok (.iload_n 2, 1) := by decide +kernel
theorem dX4_property_83 : decode cX4_property 83 = .ok (.aload_n 0, 1) := by decide +kernel
theorem dX4_property_84 : decode cX4_property 84 = .ok (.getfield 28, 3) := by decide +kernel
theorem dX4_property_87 : decode cX4_property 87 = .ok (.if_icmp .ge 12, 3) := by decide +kernel
theorem dX4_property_90 : decode cX4_property 90 = .ok (.aload_n 0, 1) := by decide +kernel
theorem dX4_property_91 : decode cX4_property 91 = .ok (.getfield 15, 3) := by decide +kernel
theorem dX4_property_94 : decode cX4_property 94 = .ok (.iload_n 2, 1) := by decide +kernel
theorem dX4_property_95 : decode cX4_property 95 = .ok (.iaload, 1) := by decide +kernel
theorem dX4_property_96 : decode cX4_property 96 = .ok (.goto 5, 3) := by decide +kernel
theorem dX4_property_99 : decode cX4_property 99 = .ok (.bipush (-4), 2) := by decide +kernel
theorem dX4_property_101 : decode cX4_property 101 = .ok (.ireturn, 1) := by decide +kernel
theorem dX4_breakingPlace_0 : decode cX4_breakingPlace 0 = .ok (.aload_n 0, 1) := by decide +kernel
theorem dX4_breakingPlace_1 : decode cX4_breakingPlace 1 = .ok (.invokevirtual 31, 3) := by decide +kernel
theorem dX4_breakingPlace_4 : decode cX4_breakingPlace 4 = .ok (.istore_n 3, 1) := by decide +kernel
theorem dX4_breakingPlace_5 : decode cX4_breakingPlace 5 = .ok (.iload_n 3, 1) := by decide +kernel
theorem dX4_breakingPlace_6 : decode cX4_breakingPlace 6 = .ok (.aload_n 0, 1) := by decide +kernel
theorem dX4_breakingPlace_7 : decode cX4_breakingPlace 7 = .ok (.getfield 28, 3) := by decide +kernel
theorem dX4_breakingPlace_10 : decode cX4_breakingPlace 10 = .ok (.if_icmp .ge 41, 3) := by decide +kernel
theorem dX4_breakingPlace_13 : decode cX4_breakingPlace 13 = .ok (.aload_n 0, 1) := by decide +kernel
theorem dX4_breakingPlace_14 : decode cX4_breakingPlace 14 = .ok (.getfield 9, 3) := by decide +kernel
theorem dX4_breakingPlace_17 : decode cX4_breakingPlace 17 = .ok (.iload_n 3, 1) := by decide +kernel
theorem dX4_breakingPlace_18 : decode cX4_breakingPlace 18 = .ok (.iaload, 1) := by decide +kernel
theorem dX4_breakingPlace_19 : decode cX4_breakingPlace 19 = .ok (.aload_n 0, 1) := by decide +kernel
theorem dX4_breakingPlace_20 : decode cX4_breakingPlace 20 = .ok (.getfield 25, 3) := by decide +kernel
theorem dX4_breakingPlace_23 : decode cX4_breakingPlace 23 = .ok (.iload_n 1, 1) := by decide +kernel
theorem dX4_breakingPlace_24 : decode cX4_breakingPlace 24 = .ok (.iadd, 1) := by decide +kernel
theorem dX4_breakingPlace_25 : decode cX4_breakingPlace 25 = .ok (.if_icmp .gt 26, 3) := by decide +kernel
theorem dX4_breakingPlace_28 : decode cX4_breakingPlace 28 = .ok (.aload_n 0, 1) := by decide +kernel
theorem dX4_breakingPlace_29 : decode cX4_breakingPlace 29 = .ok (.getfield 15, 3) := by decide +kernel
theorem dX4_breakingPlace_32 : decode cX4_breakingPlace 32 = .ok (.iload_n 3, 1) := by decide +kernel
theorem dX4_breakingPlace_33 : decode cX4_breakingPlace 33 = .ok (.iaload, 1) := by decide +kernel
theorem dX4_breakingPlace_34 : decode cX4_breakingPlace 34 = .ok (.iload_n 2, 1) := by decide +kernel
theorem dX4_breakingPlace_35 : decode cX4_breakingPlace 35 = .ok (.if_icmp .ge 10, 3) := by decide +kernel
theorem dX4_breakingPlace_38 : decode cX4_breakingPlace 38 = .ok (.aload_n 0, 1) := by decide +kernel
theorem dX4_breakingPlace_39 : decode cX4_breakingPlace 39 = .ok (.getfield 9, 3) := by decide +kernel
theorem dX4_breakingPlace_42 : decode cX4_breakingPlace 42 = .ok (.iload_n 3, 1) := by decide +kernel
theorem dX4_breakingPlace_43 : decode cX4_breakingPlace 43 = .ok (.iaload, 1) := by decide +kernel
theorem dX4_breakingPlace_44 : decode cX4_breakingPlace 44 = .ok (.ireturn, 1) := by decide +kernel
theorem dX4_breakingPlace_45 : decode cX4_breakingPlace 45 = .ok (.iinc 3 1, 3) := by decide +kernel
theorem dX4_breakingPlace_48 : decode cX4_breakingPlace 48 = .ok (.goto (-43), 3) := by decide +kernel
theorem dX4_breakingPlace_51 : decode cX4_breakingPlace 51 = .ok (.iconst (-1), 1) := by decide +kernel
theorem dX4_breakingPlace_52 : decode cX4_breakingPlace 52 = .ok (.ireturn, 1) := by decide +kernel
theorem dX5_init_0 : decode cX5_init 0 = .ok (.aload_n 0, 1) := by decide +kernel
theorem dX5_init_1 : decode cX5_init 1 = .ok (.invokespecial 3, 3) := by decide +kernel
theorem dX5_init_4 : decode cX5_init 4 = .ok (.aload_n 0, 1) := by decide +kernel
theorem dX5_init_5 : decode cX5_init 5 = .ok (.bipush 6, 2) := by decide +kernel
theorem dX5_init_7 : decode cX5_init 7 = .ok (.anewarray 9, 3) := by decide +kernel
theorem dX5_init_10 : decode cX5_init 10 = .ok (.putfield 11, 3) := by decide +kernel
theorem dX5_init_13 : decode cX5_init 13 = .ok (.iconst 0, 1) := by decide +kernel
theorem dX5_init_14 : decode cX5_init 14 = .ok (.istore_n 1, 1) := by decide +kernel
theorem dX5_init_15 : decode cX5_init 15 = .ok (.iload_n 1, 1) := by decide +kernel
theorem dX5_init_16 : decode cX5_init 16 = .ok (.bipush 6, 2) := by decide +kernel
theorem dX5_init_18 : decode cX5_init 18 = .ok (.if_icmp .ge 22, 3) := by decide +kernel
theorem dX5_init_21 : decode cX5_init 21 = .ok (.aload_n 0, 1) := by decide +kernel
theorem dX5_init_22 : decode cX5_init 22 = .ok (.getfield 11, 3) := by decide +kernel
theorem dX5_init_25 : decode cX5_init 25 = .ok (.iload_n 1, 1) := by decide +kernel
theorem dX5_init_26 : decode cX5_init 26 = .ok (.new 9, 3) := by decide +kernel
theorem dX5_init_29 : decode cX5_init 29 = .ok (.dup, 1) := by decide +kernel
theorem dX5_init_30 : decode cX5_init 30 = .ok (.invokespecial 17, 3) := by decide +kernel
theorem dX5_init_33 : decode cX5_init 33 = .ok (.aastore, 1) := by decide +kernel
theorem dX5_init_34 : decode cX5_init 34 = .ok (.iinc 1 1, 3) := by decide +kernel
theorem dX5_init_37 : decode cX5_init 37 = .ok (.goto (-22), 3) := by decide +kernel
theorem dX5_init_40 : decode cX5_init 40 = .ok (.aload_n 0, 1) := by decide +kernel
theorem dX5_init_41 : decode cX5_init 41 = .ok (.bipush 8, 2) := by decide +kernel
theorem dX5_init_43 : decode cX5_init 43 = .ok (.anewarray 18, 3) := by decide +kernel
theorem dX5_init_46 : decode cX5_init 46 = .ok (.putfield 20, 3) := by decide +kernel
theorem dX5_init_49 : decode cX5_init 49 = .ok (.iconst 0, 1) := by decide +kernel
theorem dX5_init_50 : decode cX5_init 50 = .ok (.istore_n 1, 1) := by decide +kernel
theorem dX5_init_51 : decode cX5_init 51 = .ok (.iload_n 1, 1) := by decide +kernel
theorem dX5_init_52 : decode cX5_init 52 = .ok (.bipush 8, 2) := by decide +kernel
theorem dX5_init_54 : decode cX5_init 54 = .ok (.if_icmp .ge 22, 3) := by decide +kernel
theorem dX5_init_57 : decode cX5_init 57 = .ok (.aload_n 0, 1) := by decide +kernel
theorem dX5_init_58 : decode cX5_init 58 = .ok (.getfield 20, 3) := by decide +kernel
theorem dX5_init_61 : decode cX5_init 61 = .ok (.iload_n 1, 1) := by decide +kernel
theorem dX5_init_62 : decode cX5_init 62 = .ok (.new 18, 3) := by decide +kernel
theorem dX5_init_65 : decode cX5_init 65 = .ok (.dup, 1) := by decide +kernel
theorem dX5_init_66 : decode cX5_init 66 = .ok (.invokespecial 24, 3) := by decide +kernel
theorem dX5_init_69 : decode cX5_init 69 = .ok (.aastore, 1) := by decide +kernel
theorem dX5_init_70 : decode cX5_init 70 = .ok (.iinc 1 1, 3) := by decide +kernel
theorem dX5_init_73 : decode cX5_init 73 = .ok (.goto (-22), 3) := by decide +kernel
theorem dX5_init_76 : decode cX5_init 76 = .ok (.aload_n 0, 1) := by decide +kernel
theorem dX5_init_77 : decode cX5_init 77 = .ok (.bipush 6, 2) := by decide +kernel
theorem dX5_init_79 : decode cX5_init 79 = .ok (.anewarray 25, 3) := by decide +kernel
theorem dX5_init_82 : decode cX5_init 82 = .ok (.putfield 27, 3) := by decide +kernel
theorem dX5_init_85 : decode cX5_init 85 = .ok (.iconst 0, 1) := by decide +kernel
theorem dX5_init_86 : decode cX5_init 86 = .ok (.istore_n 1, 1) := by decide +kernel
theorem dX5_init_87 : decode cX5_init 87 = .ok (.iload_n 1, 1) := by decide +kernel
theorem dX5_init_88 : decode cX5_init 88 = .ok (.bipush 6, 2) := by decide +kernel
theorem dX5_init_90 : decode cX5_init 90 = .ok (.if_icmp .ge 22, 3) := by decide +kernel
theorem dX5_init_93 : decode cX5_init 93 = .ok (.aload_n 0, 1) := by decide +kernel
theorem dX5_init_94 : decode cX5_init 94 = .ok (.getfield 27, 3) := by decide +kernel
theorem dX5_init_97 : decode cX5_init 97 = .ok (.iload_n 1, 1) := by decide +kernel
theorem dX5_init_98 : decode cX5_init 98 = .ok (.new 25, 3) := by decide +kernel
theorem dX5_init_101 : decode cX5_init 101 = .ok (.dup, 1) := by decide +kernel
theorem dX5_init_102 : decode cX5_init 102 = .ok (.invokespecial 31, 3) := by decide +kernel
theorem dX5_init_105 : decode cX5_init 105 = .ok (.aastore, 1) := by decide +kernel
theorem dX5_init_106 : decode cX5_init 106 = .ok (.iinc 1 1, 3) := by decide +kernel
theorem dX5_init_109 : decode cX5_init 109 = .ok (.goto (-22), 3) := by decide +kernel
theorem dX5_init_112 : decode cX5_init 112 = .ok (.aload_n 0, 1) := by decide +kernel
theorem dX5_init_113 : decode cX5_init 113 = .ok (.new 32, 3) := by decide +kernel
theorem dX5_init_116 : decode cX5_init 116 = .ok (.dup, 1) := by decide +kernel
theorem dX5_init_117 : decode cX5_init 117 = .ok (.invokespecial 34, 3) := by decide +kernel
theorem dX5_init_120 : decode cX5_init 120 = .ok (.putfield 35, 3) := by decide +kernel
theorem dX5_init_123 : decode cX5_init 123 = .ok (.aload_n 0, 1) := by decide +kernel
theorem dX5_init_124 : decode cX5_init 124 = .ok (.new 39, 3) := by decide +kernel
theorem dX5_init_127 : decode cX5_init 127 = .ok (.dup, 1) := by decide +kernel
theorem dX5_init_128 : decode cX5_init 128 = .ok (.invokespecial 41, 3) := by decide +kernel
theorem dX5_init_131 : decode cX5_init 131 = .ok (.putfield 42, 3) := by decide +kernel
theorem dX5_init_134 : decode cX5_init 134 = .ok (.aload_n 0, 1) := by decide +kernel
theorem dX5_init_135 : decode cX5_init 135 = .ok (.bipush 30, 2) := by decide +kernel
theorem dX5_init_137 : decode cX5_init 137 = .ok (.putfield 46, 3) := by decide +kernel
theorem dX5_init_140 : decode cX5_init 140 = .ok (.aload_n 0, 1) := by decide +kernel
theorem dX5_init_141 : decode cX5_init 141 = .ok (.iconst 3, 1) := by decide +kernel
theorem dX5_init_142 : decode cX5_init 142 = .ok (.putfield 50, 3) := by decide +kernel
theorem dX5_init_145 : decode cX5_init 145 = .ok (.return_, 1) := by decide +kernel
theorem dX5_copyFrom_0 : decode cX5_copyFrom 0 = .ok (.aload_n 0, 1) := by decide +kernel
theorem dX5_copyFrom_1 : decode cX5_copyFrom 1 = .ok (.aload_n 1, 1) := by decide +kernel
theorem dX5_copyFrom_2 : decode cX5_copyFrom 2 = .ok (.getfield 53, 3) := by decide +kernel
theorem dX5_copyFrom_5 : decode cX5_copyFrom 5 = .ok (.putfield 53, 3) := by decide +kernel
theorem dX5_copyFrom_8 : decode cX5_copyFrom 8 = .ok (.iconst 0, 1) := by decide +kernel
theorem dX5_copyFrom_9 : decode cX5_copyFrom 9 = .ok (.istore_n 2, 1) := by decide +kernel
theorem dX5_copyFrom_10 : decode cX5_copyFrom 10 = .ok (.iload_n 2, 1) := by decide +kernel
theorem dX5_copyFrom_11 : decode cX5_copyFrom 11 = .ok (.aload_n 0, 1) := by decide +kernel
theorem dX5_copyFrom_12 : decode cX5_copyFrom 12 = .ok (.getfield 53, 3) := by decide +kernel
theorem dX5_copyFrom_15 : decode cX5_copyFrom 15 = .ok (.if_icmp .ge 24, 3) := by decide +kernel
theorem dX5_copyFrom_18 : decode cX5_copyFrom 18 = .ok (.aload_n 0, 1) := by decide +kernel
theorem dX5_copyFrom_19 : decode cX5_copyFrom 19 = .ok (.getfield 11, 3) := by decide +kernel
theorem dX5_copyFrom_22 : decode cX5_copyFrom 22 = .ok (.iload_n 2, 1) := by decide +kernel
theorem dX5_copyFrom_23 : decode cX5_copyFrom 23 = .ok (.aaload, 1) := by decide +kernel
theorem dX5_copyFrom_24 : decode cX5_copyFrom 24 = .ok (.aload_n 1, 1) := by decide +kernel
theorem dX5_copyFrom_25 : decode cX5_copyFrom 25 = .ok (.getfield 11, 3) := by decide +kernel
theorem dX5_copyFrom_28 : decode cX5_copyFrom 28 = .ok (.iload_n 2, 1) := by decide +kernel
theorem dX5_copyFrom_29 : decode cX5_copyFrom 29 = .ok (.aaload, 1) := by decide +kernel
theorem dX5_copyFrom_30 : decode cX5_copyFrom 30 = .ok (.invokevirtual 56, 3) := by decide +kernel
theorem dX5_copyFrom_33 : decode cX5_copyFrom 33 = .ok (.iinc 2 1, 3) := by decide +kernel
theorem dX5_copyFrom_36 : decode cX5_copyFrom 36 = .ok (.goto (-26), 3) := by decide +kernel
theorem dX5_copyFrom_39 : decode cX5_copyFrom 39 = .ok (.aload_n 0, 1) := by decide +kernel
theorem dX5_copyFrom_40 : decode cX5_copyFrom 40 = .ok (.aload_n 1, 1) := by decide +kernel
theorem dX5_copyFrom_41 : decode cX5_copyFrom 41 = .ok (.getfield 60, 3) := by decide +kernel
theorem dX5_copyFrom_44 : decode cX5_copyFrom 44 = .ok (.putfield 60, 3) := by decide +kernel
theorem dX5_copyFrom_47 : decode cX5_copyFrom 47 = .ok (.iconst 0, 1) := by decide +kernel
theorem dX5_copyFrom_48 : decode cX5_copyFrom 48 = .ok (.istore_n 2, 1) := by decide +kernel
theorem dX5_copyFrom_49 : decode cX5_copyFrom 49 = .ok (.iload_n 2, 1) := by decide +kernel
theorem dX5_copyFrom_50 : decode cX5_copyFrom 50 = .ok (.aload_n 0, 1) := by decide +kernel
theorem dX5_copyFrom_51 : decode cX5_copyFrom 51 = .ok (.getfield 60, 3) := by decide +kernel
theorem dX5_copyFrom_54 : decode cX5_copyFrom 54 = .ok (.if_icmp .ge 24, 3) := by decide +kernel
theorem dX5_copyFrom_57 : decode cX5_copyFrom 57 = .ok (.aload_n 0, 1) := by decide +kernel
theorem dX5_copyFrom_58 : decode cX5_copyFrom 58 = .ok (.getfield 20, 3) := by decide +kernel
theorem dX5_copyFrom_61 : decode cX5_copyFrom 61 = .ok (.iload_n 2, 1) := by decide +kernel
theorem dX5_copyFrom_62 : decode cX5_copyFrom 62 = .ok (.aaload, 1) := by decide +kernel
theorem dX5_copyFrom_63 : decode cX5_copyFrom 63 = .ok (.aload_n 1, 1) := by decide +kernel
theorem dX5_copyFrom_64 : decode cX5_copyFrom 64 = .ok (.getfield 20, 3) := by decide +kernel
theorem dX5_copyFrom_67 : decode cX5_copyFrom 67 = .ok (.iload_n 2, 1) := by decide +kernel
theorem dX5_copyFrom_68 : decode cX5_copyFrom 68 = .ok (.aaload, 1) := by decide +kernel
theorem dX5_copyFrom_69 : decode cX5_copyFrom 69 = .ok (.invokevirtual 63, 3) := by decide +kernel
theorem dX5_copyFrom_72 : decode cX5_copyFrom 72 = .ok (.iinc 2 1, 3) := by decide +kernel
theorem dX5_copyFrom_75 : decode cX5_copyFrom 75 = .ok (.goto (-26), 3) := by decide +kernel
theorem dX5_copyFrom_78 : decode cX5_copyFrom 78 = .ok (.aload_n 0, 1) := by decide +kernel
theorem dX5_copyFrom_79 : decode cX5_copyFrom 79 = .ok (.aload_n 1, 1) := by decide +kernel
theorem dX5_copyFrom_80 : decode cX5_copyFrom 80 = .ok (.getfield 66, 3) := by decide +kernel
theorem dX5_copyFrom_83 : decode cX5_copyFrom 83 = .ok (.putfield 66, 3) := by decide +kernel
theorem dX5_copyFrom_86 : decode cX5_copyFrom 86 = .ok (.aload_n 0, 1) := by decide +kernel
theorem dX5_copyFrom_87 : decode cX5_copyFrom 87 = .ok (.aload_n 1, 1) := by decide +kernel
theorem dX5_copyFrom_88 : decode cX5_copyFrom 88 = .ok (.getfield 69, 3) := by decide +kernel
theorem dX5_copyFrom_91 : decode cX5_copyFrom 91 = .ok (.putfield 69, 3) := by decide +kernel
theorem dX5_copyFrom_94 : decode cX5_copyFrom 94 = .ok (.iconst 0, 1) := by decide +kernel
theorem dX5_copyFrom_95 : decode cX5_copyFrom 95 = .ok (.istore_n 2, 1) := by decide +kernel
theorem dX5_copyFrom_96 : decode cX5_copyFrom 96 = .ok (.iload_n 2, 1) := by decide +kernel
theorem dX5_copyFrom_97 : decode cX5_copyFrom 97 = .ok (.aload_n 0, 1) := by decide +kernel
theorem dX5_copyFrom_98 : decode cX5_copyFrom 98 = .ok (.getfield 69, 3) := by decide +kernel
theorem dX5_copyFrom_101 : decode cX5_copyFrom 101 = .ok (.if_icmp .ge 24, 3) := by decide +kernel
theorem dX5_copyFrom_104 : decode cX5_copyFrom 104 = .ok (.aload_n 0, 1) := by decide +kernel
theorem dX5_copyFrom_105 : decode cX5_copyFrom 105 = .ok (.getfield 27, 3) := by decide +kernel
theorem dX5_copyFrom_108 : decode cX5_copyFrom 108 = .ok (.iload_n 2, 1) := by decide +kernel
theorem dX5_copyFrom_109 : decode cX5_copyFrom 109 = .ok (.aaload, 1) := by decide +kernel
theorem dX5_copyFrom_110 : decode cX5_copyFrom 110 = .ok (.aload_n 1, 1) := by decide +kernel
theorem dX5_copyFrom_111 : decode cX5_copyFrom 111 = .ok (.getfield 27, 3) := by decide +kernel
theorem dX5_copyFrom_114 : decode cX5_copyFrom 114 = .ok (.iload_n 2, 1) := by decide +kernel
theorem dX5_copyFrom_115 : decode cX5_copyFrom 115 = .ok (.aaload, 1) := by decide +kernel
theorem dX5_copyFrom_116 : decode cX5_copyFrom 116 = .ok (.invokevirtual 72, 3) := by decide +kernel
theorem dX5_copyFrom_119 : decode cX5_copyFrom 119 = .ok (.iinc 2 1, 3) := by decide +kernel
theorem dX5_copyFrom_122 : decode cX5_copyFrom 122 = .ok (.goto (-26), 3) := by decide +kernel
theorem dX5_copyFrom_125 : decode cX5_copyFrom 125 = .ok (.aload_n 0, 1) := by decide +kernel
theorem dX5_copyFrom_126 : decode cX5_copyFrom 126 = .ok (.getfield 35, 3) := by decide +kernel
theorem dX5_copyFrom_129 : decode cX5_copyFrom 129 = .ok (.aload_n 1, 1) := by decide +kernel
theorem dX5_copyFrom_130 : decode cX5_copyFrom 130 = .ok (.getfield 35, 3) := by decide +kernel
theorem dX5_copyFrom_133 : decode cX5_copyFrom 133 = .ok (.invokevirtual 75, 3) := by decide +kernel
theorem dX5_copyFrom_136 : decode cX5_copyFrom 136 = .ok (.aload_n 0, 1) := by decide +kernel
theorem dX5_copyFrom_137 : decode cX5_copyFrom 137 = .ok (.getfield 42, 3) := by decide +kernel
theorem dX5_copyFrom_140 : decode cX5_copyFrom 140 = .ok (.aload_n 1, 1) := by decide +kernel
theorem dX5_copyFrom_141 : decode cX5_copyFrom 141 = .ok (.getfield 42, 3) := by decide +kernel
theorem dX5_copyFrom_144 : decode cX5_copyFrom 144 = .ok (.invokevirtual 78, 3) := by decide +kernel
theorem dX5_copyFrom_147 : decode cX5_copyFrom 147 = .ok (.aload_n 0, 1) := by decide +kernel
theorem dX5_copyFrom_148 : decode cX5_copyFrom 148 = .ok (.aload_n 1, 1) := by decide +kernel
theorem dX5_copyFrom_149 : decode cX5_copyFrom 149 = .ok (.getfield 46, 3) := by decide +kernel
theorem dX5_copyFrom_152 : decode cX5_copyFrom 152 = .ok (.putfield 46, 3) := by decide +kernel
theorem dX5_copyFrom_155 : decode cX5_copyFrom 155 = .ok (.aload_n 0, 1) := by decide +kernel
theorem dX5_copyFrom_156 : decode cX5_copyFrom 156 = .ok (.aload_n 1, 1) := by decide +kernel
theorem dX5_copyFrom_157 : decode cX5_copyFrom 157 = .ok (.getfield 50, 3) := by decide +kernel
theorem dX5_copyFrom_160 : decode cX5_copyFrom 160 = .ok (.putfield 50, 3) := by decide +kernel
theorem dX5_copyFrom_163 : decode cX5_copyFrom 163 = .ok (.return_, 1) := by decide +kernel
theorem dX5_appendRoll_0 : decode cX5_appendRoll 0 = .ok (.aload_n 0, 1) := by decide +kernel
theorem dX5_appendRoll_1 : decode cX5_appendRoll 1 = .ok (.getfield 53, 3) := by decide +kernel
theorem dX5_appendRoll_4 : decode cX5_appendRoll 4 = .ok (.bipush 6, 2) := by decide +kernel
theorem dX5_appendRoll_6 : decode cX5_appendRoll 6 = .ok (.if_icmp .ge 27, 3) := by decide +kernel
theorem dX5_appendRoll_9 : decode cX5_appendRoll 9 = .ok (.aload_n 0, 1) := by decide +kernel
theorem dX5_appendRoll_10 : decode cX5_appendRoll 10 = .ok (.getfield 11, 3) := by decide +kernel
theorem dX5_appendRoll_13 : decode cX5_appendRoll 13 = .ok (.aload_n 0, 1) := by decide +kernel
theorem dX5_appendRoll_14 : decode cX5_appendRoll 14 = .ok (.getfield 53, 3) := by decide +kernel
theorem dX5_appendRoll_17 : decode cX5_appendRoll 17 = .ok (.aaload, 1) := by decide +kernel
theorem dX5_appendRoll_18 : decode cX5_appendRoll 18 = .ok (.iload_n 1, 1) := by decide +kernel
theorem dX5_appendRoll_19 : decode cX5_appendRoll 19 = .ok (.iload_n 2, 1) := by decide +kernel
theorem dX5_appendRoll_20 : decode cX5_appendRoll 20 = .ok (.invokevirtual 81, 3) := by decide +kernel
theorem dX5_appendRoll_23 : decode cX5_appendRoll 23 = .ok (.aload_n 0, 1) := by decide +kernel
theorem dX5_appendRoll_24 : decode cX5_appendRoll 24 = .ok (.dup, 1) := by decide +kernel
theorem dX5_appendRoll_25 : decode cX5_appendRoll 25 = .ok (.getfield 53, 3) := by decide +kernel
theorem dX5_appendRoll_28 : decode cX5_appendRoll 28 = .ok (.iconst 1, 1) := by decide +kernel
theorem dX5_appendRoll_29 : decode cX5_appendRoll 29 = .ok (.iadd, 1) := by decide +kernel
theorem dX5_appendRoll_30 : decode cX5_appendRoll 30 = .ok (.putfield 53, 3) := by decide +kernel
theorem dX5_appendRoll_33 : decode cX5_appendRoll 33 = .ok (.return_, 1) := by decide +kernel
theorem dX5_removePresentRoll_0 : decode cX5_removePresentRoll 0 = .ok (.aload_n 0, 1) := by decide +kernel
theorem dX5_removePresentRoll_1 : decode cX5_removePresentRoll 1 = .ok (.getfield 11, 3) := by decide +kernel
theorem dX5_removePresentRoll_4 : decode cX5_removePresentRoll 4 = .ok (.iconst 0, 1) := by decide +kernel
theorem dX5_removePresentRoll_5 : decode cX5_removePresentRoll 5 = .ok (.aaload, 1) := by decide +kernel
theorem dX5_removePresentRoll_6 : decode cX5_removePresentRoll 6 = .ok (.astore_n 1, 1) := by decide +kernel
theorem dX5_removePresentRoll_7 : decode cX5_removePresentRoll 7 = .ok (.iconst 1, 1) := by decide +kernel
theorem dX5_removePresentRoll_8 : decode cX5_removePresentRoll 8 = .ok (.istore_n 2, 1) := by decide +kernel
theorem dX5_removePresentRoll_9 : decode cX5_removePresentRoll 9 = .ok (.iload_n 2, 1) := by decide +kernel
theorem dX5_removePresentRoll_10 : decode cX5_removePresentRoll 10 = .ok (.aload_n 0, 1) := by decide +kernel
theorem dX5_removePresentRoll_11 : decode cX5_removePresentRoll 11 = .ok (.getfield 53, 3) := by decide +kernel
theorem dX5_removePresentRoll_14 : decode cX5_removePresentRoll 14 = .ok (.if_icmp .ge 23, 3) := by decide +kernel
theorem dX5_removePresentRoll_17 : decode cX5_removePresentRoll 17 = .ok (.aload_n 0, 1) := by decide +kernel
theorem dX5_removePresentRoll_18 : decode cX5_removePresentRoll 18 = .ok (.getfield 11, 3) := by decide +kernel
theorem dX5_removePresentRoll_21 : decode cX5_removePresentRoll 21 = .ok (.iload_n 2, 1) := by decide +kernel
theorem dX5_removePresentRoll_22 : decode cX5_removePresentRoll 22 = .ok (.iconst 1, 1) := by decide +kernel
theorem dX5_removePresentRoll_23 : decode cX5_removePresentRoll 23 = .ok (.isub, 1) := by decide +kernel
theorem dX5_removePresentRoll_24 : decode cX5_removePresentRoll 24 = .ok (.aload_n 0, 1) := by decide +kernel
theorem dX5_removePresentRoll_25 : decode cX5_removePresentRoll 25 = .ok (.getfield 11, 3) := by decide +kernel
theorem dX5_removePresentRoll_28 : decode cX5_removePresentRoll 28 = .ok (.iload_n 2, 1) := by decide +kernel
theorem dX5_removePresentRoll_29 : decode cX5_removePresentRoll 29 = .ok (.aaload, 1) := by decide +kernel
theorem dX5_removePresentRoll_30 : decode cX5_removePresentRoll 30 = .ok (.aastore, 1) := by decide +kernel
theorem dX5_removePresentRoll_31 : decode cX5_removePresentRoll 31 = .ok (.iinc 2 1, 3) := by decide +kernel
theorem dX5_removePresentRoll_34 : decode cX5_removePresentRoll 34 = .ok (.goto (-25), 3) := by decide +kernel
theorem dX5_removePresentRoll_37 : decode cX5_removePresentRoll 37 = .ok (.aload_n 0, 1) := by decide +kernel
theorem dX5_removePresentRoll_38 : decode cX5_removePresentRoll 38 = .ok (.dup, 1) := by decide +kernel
theorem dX5_removePresentRoll_39 : decode cX5_removePresentRoll 39 = .ok (.getfield 53, 3) := by decide +kernel
theorem dX5_removePresentRoll_42 : decode cX5_removePresentRoll 42 = .ok (.iconst 1, 1) := by decide +kernel
theorem dX5_removePresentRoll_43 : decode cX5_removePresentRoll 43 = .ok (.isub, 1) := by decide +kernel
theorem dX5_removePresentRoll_44 : decode cX5_removePresentRoll 44 = .ok (.putfield 53, 3) := by decide +kernel
theorem dX5_removePresentRoll_47 : decode cX5_removePresentRoll 47 = .ok (.aload_n 0, 1) := by decide +kernel
theorem dX5_removePresentRoll_48 : decode cX5_removePresentRoll 48 = .ok (.getfield 11, 3) := by decide +kernel
theorem dX5_removePresentRoll_51 : decode cX5_removePresentRoll 51 = .ok (.aload_n 0, 1) := by decide +kernel
theorem dX5_removePresentRoll_52 : decode cX5_removePresentRoll 52 = .ok (.getfield 53, 3) := by decide +kernel
theorem dX5_removePresentRoll_55 : decode cX5_removePresentRoll 55 = .ok (.aload_n 1, 1) := by decide +kernel
theorem dX5_removePresentRoll_56 : decode cX5_removePresentRoll 56 = .ok (.aastore, 1) := by decide +kernel
theorem dX5_removePresentRoll_57 : decode cX5_removePresentRoll 57 = .ok (.return_, 1) := by decide +kernel
theorem dX5_insertPallet_0 : decode cX5_insertPallet 0 = .ok (.aload_n 0, 1) := by decide +kernel
theorem dX5_insertPallet_1 : decode cX5_insertPallet 1 = .ok (.getfield 60, 3) := by decide +kernel
theorem dX5_insertPallet_4 : decode cX5_insertPallet 4 = .ok (.bipush 7, 2) := by decide +kernel
theorem dX5_insertPallet_6 : decode cX5_insertPallet 6 = .ok (.invokestatic 85, 3) := by decide +kernel
theorem dX5_insertPallet_9 : decode cX5_insertPallet 9 = .ok (.istore_n 2, 1) := by decide +kernel
theorem dX5_insertPallet_10 : decode cX5_insertPallet 10 = .ok (.aload_n 0, 1) := by decide +kernel
theorem dX5_insertPallet_11 : decode cX5_insertPallet 11 = .ok (.getfield 20, 3) := by decide +kernel
theorem dX5_insertPallet_14 : decode cX5_insertPallet 14 = .ok (.iload_n 2, 1) := by decide +kernel
theorem dX5_insertPallet_15 : decode cX5_insertPallet 15 = .ok (.aaload, 1) := by decide +kernel
theorem dX5_insertPallet_16 : decode cX5_insertPallet 16 = .ok (.astore_n 3, 1) := by decide +kernel
theorem dX5_insertPallet_17 : decode cX5_insertPallet 17 = .ok (.iload_n 2, 1) := by decide +kernel
theorem dX5_insertPallet_18 : decode cX5_insertPallet 18 = .ok (.ifCond .le 38, 3) := by decide +kernel
theorem dX5_insertPallet_21 : decode cX5_insertPallet 21 = .ok (.aload_n 0, 1) := by decide +kernel
theorem dX5_insertPallet_22 : decode cX5_insertPallet 22 = .ok (.getfield 20, 3) := by decide +kernel
theorem dX5_insertPallet_25 : decode cX5_insertPallet 25 = .ok (.iload_n 2, 1) := by decide +kernel
theorem dX5_insertPallet_26 : decode cX5_insertPallet 26 = .ok (.iconst 1, 1) := by decide +kernel
theorem dX5_insertPallet_27 : decode cX5_insertPallet 27 = .ok (.isub, 1) := by decide +kernel
theorem dX5_insertPallet_28 : decode cX5_insertPallet 28 = .ok (.aaload, 1) := by decide +kernel
theorem dX5_insertPallet_29 : decode cX5_insertPallet 29 = .ok (.getfield 91, 3) := by decide +kernel
theorem dX5_insertPallet_32 : decode cX5_insertPallet 32 = .ok (.iload_n 1, 1) := by decide +kernel
theorem dX5_insertPallet_33 : decode cX5_insertPallet 33 = .ok (.if_icmp .le 23, 3) := by decide +kernel
theorem dX5_insertPallet_36 : decode cX5_insertPallet 36 = .ok (.aload_n 0, 1) := by decide +kernel
theorem dX5_insertPallet_37 : decode cX5_insertPallet 37 = .ok (.getfield 20, 3) := by decide +kernel
theorem dX5_insertPallet_40 : decode cX5_insertPallet 40 = .ok (.iload_n 2, 1) := by decide +kernel
theorem dX5_insertPallet_41 : decode cX5_insertPallet 41 = .ok (.aload_n 0, 1) := by decide +kernel
theorem dX5_insertPallet_42 : decode cX5_insertPallet 42 = .ok (.getfield 20, 3) := by decide +kernel
theorem dX5_insertPallet_45 : decode cX5_insertPallet 45 = .ok (.iload_n 2, 1) := by decide +kernel
theorem dX5_insertPallet_46 : decode cX5_insertPallet 46 = .ok (.iconst 1, 1) := by decide +kernel
theorem dX5_insertPallet_47 : decode cX5_insertPallet 47 = .ok (.isub, 1) := by decide +kernel
theorem dX5_insertPallet_48 : decode cX5_insertPallet 48 = .ok (.aaload, 1) := by decide +kernel
theorem dX5_insertPallet_49 : decode cX5_insertPallet 49 = .ok (.aastore, 1) := by decide +kernel
theorem dX5_insertPallet_50 : decode cX5_insertPallet 50 = .ok (.iinc 2 (-1), 3) := by decide +kernel
theorem dX5_insertPallet_53 : decode cX5_insertPallet 53 = .ok (.goto (-36), 3) := by decide +kernel
theorem dX5_insertPallet_56 : decode cX5_insertPallet 56 = .ok (.aload_n 0, 1) := by decide +kernel
theorem dX5_insertPallet_57 : decode cX5_insertPallet 57 = .ok (.getfield 20, 3) := by decide +kernel
theorem dX5_insertPallet_60 : decode cX5_insertPallet 60 = .ok (.iload_n 2, 1) := by decide +kernel
theorem dX5_insertPallet_61 : decode cX5_insertPallet 61 = .ok (.aload_n 3, 1) := by decide +kernel
theorem dX5_insertPallet_62 : decode cX5_insertPallet 62 = .ok (.aastore, 1) := by decide +kernel
theorem dX5_insertPallet_63 : decode cX5_insertPallet 63 = .ok (.aload_n 0, 1) := by decide +kernel
theorem dX5_insertPallet_64 : decode cX5_insertPallet 64 = .ok (.aload_n 0, 1) := by decide +kernel
theorem dX5_insertPallet_65 : decode cX5_insertPallet 65 = .ok (.getfield 60, 3) := by decide +kernel
theorem dX5_insertPallet_68 : decode cX5_insertPallet 68 = .ok (.iconst 1, 1) := by decide +kernel
theorem dX5_insertPallet_69 : decode cX5_insertPallet 69 = .ok (.iadd, 1) := by decide +kernel
theorem dX5_insertPallet_70 : decode cX5_insertPallet 70 = .ok (.bipush 8, 2) := by decide +kernel
theorem dX5_insertPallet_72 : decode cX5_insertPallet 72 = .ok (.invokestatic 85, 3) := by decide +kernel
theorem dX5_insertPallet_75 : decode cX5_insertPallet 75 = .ok (.putfield 60, 3) := by decide +kernel
theorem dX5_insertPallet_78 : decode cX5_insertPallet 78 = .ok (.aload_n 3, 1) := by decide +kernel
theorem dX5_insertPallet_79 : decode cX5_insertPallet 79 = .ok (.aload_n 0, 1) := by decide +kernel
theorem dX5_insertPallet_80 : decode cX5_insertPallet 80 = .ok (.getfield 66, 3) := by decide +kernel
theorem dX5_insertPallet_83 : decode cX5_insertPallet 83 = .ok (.putfield 94, 3) := by decide +kernel
theorem dX5_insertPallet_86 : decode cX5_insertPallet 86 = .ok (.aload_n 3, 1) := by decide +kernel
theorem dX5_insertPallet_87 : decode cX5_insertPallet 87 = .ok (.iload_n 1, 1) := by decide +kernel
theorem dX5_insertPallet_88 : decode cX5_insertPallet 88 = .ok (.putfield 91, 3) := by decide +kernel
theorem dX5_insertPallet_91 : decode cX5_insertPallet 91 = .ok (.aload_n 0, 1) := by decide +kernel
theorem dX5_insertPallet_92 : decode cX5_insertPallet 92 = .ok (.dup, 1) := by decide +kernel
theorem dX5_insertPallet_93 : decode cX5_insertPallet 93 = .ok (.getfield 66, 3) := by decide +kernel
theorem dX5_insertPallet_96 : decode cX5_insertPallet 96 = .ok (.iconst 1, 1) := by decide +kernel
theorem dX5_insertPallet_97 : decode cX5_insertPallet 97 = .ok (.iadd, 1) := by decide +kernel
theorem dX5_insertPallet_98 : decode cX5_insertPallet 98 = .ok (.putfield 66, 3) := by decide +kernel
theorem dX5_insertPallet_101 : decode cX5_insertPallet 101 = .ok (.aload_n 3, 1) := by decide +kernel
theorem dX5_insertPallet_102 : decode cX5_insertPallet 102 = .ok (.areturn, 1) := by decide +kernel
theorem dX5_removePallet_0 : decode cX5_removePallet 0 = .ok (.aload_n 0, 1) := by decide +kernel
theorem dX5_removePallet_1 : decode cX5_removePallet 1 = .ok (.getfield 20, 3) := by decide +kernel
theorem dX5_removePallet_4 : decode cX5_removePallet 4 = .ok (.iload_n 1, 1) := by decide +kernel
theorem dX5_removePallet_5 : decode cX5_removePallet 5 = .ok (.aaload, 1) := by decide +kernel
theorem dX5_removePallet_6 : decode cX5_removePallet 6 = .ok (.astore_n 2, 1) := by decide +kernel
theorem dX5_removePallet_7 : decode cX5_removePallet 7 = .ok (.iload_n 1, 1) := by decide +kernel
theorem dX5_removePallet_8 : decode cX5_removePallet 8 = .ok (.iconst 1, 1) := by decide +kernel
theorem dX5_removePallet_9 : decode cX5_removePallet 9 = .ok (.iadd, 1) := by decide +kernel
theorem dX5_removePallet_10 : decode cX5_removePallet 10 = .ok (.istore_n 3, 1) := by decide +kernel
theorem dX5_removePallet_11 : decode cX5_removePallet 11 = .ok (.iload_n 3, 1) := by decide +kernel
theorem dX5_removePallet_12 : decode cX5_removePallet 12 = .ok (.aload_n 0, 1) := by decide +kernel
theorem dX5_removePallet_13 : decode cX5_removePallet 13 = .ok (.getfield 60, 3) := by decide +kernel
theorem dX5_removePallet_16 : decode cX5_removePallet 16 = .ok (.if_icmp .ge 23, 3) := by decide +kernel
theorem dX5_removePallet_19 : decode cX5_removePallet 19 = .ok (.aload_n 0, 1) := by decide +kernel
theorem dX5_removePallet_20 : decode cX5_removePallet 20 = .ok (.getfield 20, 3) := by decide +kernel
theorem dX5_removePallet_23 : decode cX5_removePallet 23 = .ok (.iload_n 3, 1) := by decide +kernel
theorem dX5_removePallet_24 : decode cX5_removePallet 24 = .ok (.iconst 1, 1) := by decide +kernel
theorem dX5_removePallet_25 : decode cX5_removePallet 25 = .ok (.isub, 1) := by decide +kernel
theorem dX5_removePallet_26 : decode cX5_removePallet 26 = .ok (.aload_n 0, 1) := by decide +kernel
theorem dX5_removePallet_27 : decode cX5_removePallet 27 = .ok (.getfield 20, 3) := by decide +kernel
theorem dX5_removePallet_30 : decode cX5_removePallet 30 = .ok (.iload_n 3, 1) := by decide +kernel
theorem dX5_removePallet_31 : decode cX5_removePallet 31 = .ok (.aaload, 1) := by decide +kernel
theorem dX5_removePallet_32 : decode cX5_removePallet 32 = .ok (.aastore, 1) := by decide +kernel
theorem dX5_removePallet_33 : decode cX5_removePallet 33 = .ok (.iinc 3 1, 3) := by decide +kernel
theorem dX5_removePallet_36 : decode cX5_removePallet 36 = .ok (.goto (-25), 3) := by decide +kernel
theorem dX5_removePallet_39 : decode cX5_removePallet 39 = .ok (.aload_n 0, 1) := by decide +kernel
theorem dX5_removePallet_40 : decode cX5_removePallet 40 = .ok (.dup, 1) := by decide +kernel
theorem dX5_removePallet_41 : decode cX5_removePallet 41 = .ok (.getfield 60, 3) := by decide +kernel
theorem dX5_removePallet_44 : decode cX5_removePallet 44 = .ok (.iconst 1, 1) := by decide +kernel
theorem dX5_removePallet_45 : decode cX5_removePallet 45 = .ok (.isub, 1) := by decide +kernel
theorem dX5_removePallet_46 : decode cX5_removePallet 46 = .ok (.putfield 60, 3) := by decide +kernel
theorem dX5_removePallet_49 : decode cX5_removePallet 49 = .ok (.aload_n 0, 1) := by decide +kernel
theorem dX5_removePallet_50 : decode cX5_removePallet 50 = .ok (.getfield 20, 3) := by decide +kernel
theorem dX5_removePallet_53 : decode cX5_removePallet 53 = .ok (.aload_n 0, 1) := by decide +kernel
theorem dX5_removePallet_54 : decode cX5_removePallet 54 = .ok (.getfield 60, 3) := by decide +kernel
theorem dX5_removePallet_57 : decode cX5_removePallet 57 = .ok (.aload_n 2, 1) := by decide +kernel
theorem dX5_removePallet_58 : decode cX5_removePallet 58 = .ok (.aastore, 1) := by decide +kernel
theorem dX5_removePallet_59 : decode cX5_removePallet 59 = .ok (.return_, 1) := by decide +kernel
theorem dX5_keepNewResult_0 : decode cX5_keepNewResult 0 = .ok (.aload_n 0, 1) := by decide +kernel
theorem dX5_keepNewResult_1 : decode cX5_keepNewResult 1 = .ok (.getfield 27, 3) := by decide +kernel
theorem dX5_keepNewResult_4 : decode cX5_keepNewResult 4 = .ok (.iconst 5, 1) := by decide +kernel
theorem dX5_keepNewResult_5 : decode cX5_keepNewResult 5 = .ok (.aaload, 1) := by decide +kernel
theorem dX5_keepNewResult_6 : decode cX5_keepNewResult 6 = .ok (.astore_n 1, 1) := by decide +kernel
theorem dX5_keepNewResult_7 : decode cX5_keepNewResult 7 = .ok (.iconst 5, 1) := by decide +kernel
theorem dX5_keepNewResult_8 : decode cX5_keepNewResult 8 = .ok (.istore_n 2, 1) := by decide +kernel
theorem dX5_keepNewResult_9 : decode cX5_keepNewResult 9 = .ok (.iload_n 2, 1) := by decide +kernel
theorem dX5_keepNewResult_10 : decode cX5_keepNewResult 10 = .ok (.ifCond .le 23, 3) := by decide +kernel
theorem dX5_keepNewResult_13 : decode cX5_keepNewResult 13 = .ok (.aload_n 0, 1) := by decide +kernel
theorem dX5_keepNewResult_14 : decode cX5_keepNewResult 14 = .ok (.getfield 27, 3) := by decide +kernel
theorem dX5_keepNewResult_17 : decode cX5_keepNewResult 17 = .ok (.iload_n 2, 1) := by decide +kernel
theorem dX5_keepNewResult_18 : decode cX5_keepNewResult 18 = .ok (.aload_n 0, 1) := by decide +kernel
theorem dX5_keepNewResult_19 : decode cX5_keepNewResult 19 = .ok (.getfield 27, 3) := by decide +kernel
theorem dX5_keepNewResult_22 : decode cX5_keepNewResult 22 = .ok (.iload_n 2, 1) := by decide +kernel
theorem dX5_keepNewResult_23 : decode cX5_keepNewResult 23 = .ok (.iconst 1, 1) := by decide +kernel
theorem dX5_keepNewResult_24 : decode cX5_keepNewResult 24 = .ok (.isub, 1) := by decide +kernel
theorem dX5_keepNewResult_25 : decode cX5_keepNewResult 25 = .ok (.aaload, 1) := by decide +kernel
theorem dX5_keepNewResult_26 : decode cX5_keepNewResult 26 = .ok (.aastore, 1) := by decide +kernel
theorem dX5_keepNewResult_27 : decode cX5_keepNewResult 27 = .ok (.iinc 2 (-1), 3) := by decide +kernel
theorem dX5_keepNewResult_30 : decode cX5_keepNewResult 30 = .ok (.goto (-21), 3) := by decide +kernel
theorem dX5_keepNewResult_33 : decode cX5_keepNewResult 33 = .ok (.aload_n 0, 1) := by decide +kernel
theorem dX5_keepNewResult_34 : decode cX5_keepNewResult 34 = .ok (.getfield 27, 3) := by decide +kernel
theorem dX5_keepNewResult_37 : decode cX5_keepNewResult 37 = .ok (.iconst 0, 1) := by decide +kernel
theorem dX5_keepNewResult_38 : decode cX5_keepNewResult 38 = .ok (.aload_n 1, 1) := by decide +kernel
theorem dX5_keepNewResult_39 : decode cX5_keepNewResult 39 = .ok (.aastore, 1) := by decide +kernel
theorem dX5_keepNewResult_40 : decode cX5_keepNewResult 40 = .ok (.aload_n 0, 1) := by decide +kernel
theorem dX5_keepNewResult_41 : decode cX5_keepNewResult 41 = .ok (.aload_n 0, 1) := by decide +kernel
theorem dX5_keepNewResult_42 : decode cX5_keepNewResult 42 = .ok (.getfield 69, 3) := by decide +kernel
theorem dX5_keepNewResult_45 : decode cX5_keepNewResult 45 = .ok (.iconst 1, 1) := by decide +kernel
theorem dX5_keepNewResult_46 : decode cX5_keepNewResult 46 = .ok (.iadd, 1) := by decide +kernel
theorem dX5_keepNewResult_47 : decode cX5_keepNewResult 47 = .ok (.bipush 6, 2) := by decide +kernel
theorem dX5_keepNewResult_49 : decode cX5_keepNewResult 49 = .ok (.invokestatic 85, 3) := by decide +kernel
theorem dX5_keepNewResult_52 : decode cX5_keepNewResult 52 = .ok (.putfield 69, 3) := by decide +kernel
theorem dX5_keepNewResult_55 : decode cX5_keepNewResult 55 = .ok (.aload_n 1, 1) := by decide +kernel
theorem dX5_keepNewResult_56 : decode cX5_keepNewResult 56 = .ok (.areturn, 1) := by decide +kernel
theorem dX5_wrapNext_0 : decode cX5_wrapNext 0 = .ok (.aload_n 0, 1) := by decide +kernel
theorem dX5_wrapNext_1 : decode cX5_wrapNext 1 = .ok (.getfield 20, 3) := by decide +kernel
theorem dX5_wrapNext_4 : decode cX5_wrapNext 4 = .ok (.iconst 0, 1) := by decide +kernel
theorem dX5_wrapNext_5 : decode cX5_wrapNext 5 = .ok (.aaload, 1) := by decide +kernel
theorem dX5_wrapNext_6 : decode cX5_wrapNext 6 = .ok (.astore_n 2, 1) := by decide +kernel
theorem dX5_wrapNext_7 : decode cX5_wrapNext 7 = .ok (.aload_n 0, 1) := by decide +kernel
theorem dX5_wrapNext_8 : decode cX5_wrapNext 8 = .ok (.invokevirtual 97, 3) := by decide +kernel
theorem dX5_wrapNext_11 : decode cX5_wrapNext 11 = .ok (.astore_n 3, 1) := by decide +kernel
theorem dX5_wrapNext_12 : decode cX5_wrapNext 12 = .ok (.aload_n 3, 1) := by decide +kernel
theorem dX5_wrapNext_13 : decode cX5_wrapNext 13 = .ok (.aload_n 2, 1) := by decide +kernel
theorem dX5_wrapNext_14 : decode cX5_wrapNext 14 = .ok (.invokevirtual 101, 3) := by decide +kernel
theorem dX5_wrapNext_17 : decode cX5_wrapNext 17 = .ok (.aload_n 1, 1) := by decide +kernel
theorem dX5_wrapNext_18 : decode cX5_wrapNext 18 = .ok (.aload_n 0, 1) := by decide +kernel
theorem dX5_wrapNext_19 : decode cX5_wrapNext 19 = .ok (.getfield 35, 3) := by decide +kernel
theorem dX5_wrapNext_22 : decode cX5_wrapNext 22 = .ok (.aload_n 2, 1) := by decide +kernel
theorem dX5_wrapNext_23 : decode cX5_wrapNext 23 = .ok (.invokevirtual 103, 3) := by decide +kernel
theorem dX5_wrapNext_26 : decode cX5_wrapNext 26 = .ok (.invokevirtual 107, 3) := by decide +kernel
theorem dX5_wrapNext_29 : decode cX5_wrapNext 29 = .ok (.iconst 0, 1) := by decide +kernel
theorem dX5_wrapNext_30 : decode cX5_wrapNext 30 = .ok (.istore 4, 2) := by decide +kernel
theorem dX5_wrapNext_32 : decode cX5_wrapNext 32 = .ok (.iload 4, 2) := by decide +kernel
theorem dX5_wrapNext_34 : decode cX5_wrapNext 34 = .ok (.ldc 112, 2) := by decide +kernel
theorem dX5_wrapNext_36 : decode cX5_wrapNext 36 = .ok (.if_icmp .ge 30, 3) := by decide +kernel
theorem dX5_wrapNext_39 : decode cX5_wrapNext 39 = .ok (.aload_n 3, 1) := by decide +kernel
theorem dX5_wrapNext_40 : decode cX5_wrapNext 40 = .ok (.getfield 113, 3) := by decide +kernel
theorem dX5_wrapNext_43 : decode cX5_wrapNext 43 = .ok (.ifCond .ne 23, 3) := by decide +kernel
theorem dX5_wrapNext_46 : decode cX5_wrapNext 46 = .ok (.aload_n 1, 1) := by decide +kernel
theorem dX5_wrapNext_47 : decode cX5_wrapNext 47 = .ok (.invokevirtual 116, 3) := by decide +kernel
theorem dX5_wrapNext_50 : decode cX5_wrapNext 50 = .ok (.ifCond .eq 16, 3) := by decide +kernel
theorem dX5_wrapNext_53 : decode cX5_wrapNext 53 = .ok (.aload_n 0, 1) := by decide +kernel
theorem dX5_wrapNext_54 : decode cX5_wrapNext 54 = .ok (.aload_n 2, 1) := by decide +kernel
theorem dX5_wrapNext_55 : decode cX5_wrapNext 55 = .ok (.aload_n 1, 1) := by decide +kernel
theorem dX5_wrapNext_56 : decode cX5_wrapNext 56 = .ok (.aload_n 3, 1) := by decide +kernel
theorem dX5_wrapNext_57 : decode cX5_wrapNext 57 = .ok (.invokevirtual 120, 3) := by decide +kernel
theorem dX5_wrapNext_60 : decode cX5_wrapNext 60 = .ok (.iinc 4 1, 3) := by decide +kernel
theorem dX5_wrapNext_63 : decode cX5_wrapNext 63 = .ok (.goto (-31), 3) := by decide +kernel
theorem dX5_wrapNext_66 : decode cX5_wrapNext 66 = .ok (.aload_n 0, 1) := by decide +kernel
theorem dX5_wrapNext_67 : decode cX5_wrapNext 67 = .ok (.iconst 0, 1) := by decide +kernel
theorem dX5_wrapNext_68 : decode cX5_wrapNext 68 = .ok (.invokevirtual 124, 3) := by decide +kernel
theorem dX5_wrapNext_71 : decode cX5_wrapNext 71 = .ok (.aload_n 0, 1) := by decide +kernel
theorem dX5_wrapNext_72 : decode cX5_wrapNext 72 = .ok (.getfield 42, 3) := by decide +kernel
theorem dX5_wrapNext_75 : decode cX5_wrapNext 75 = .ok (.aload_n 3, 1) := by decide +kernel
theorem dX5_wrapNext_76 : decode cX5_wrapNext 76 = .ok (.invokevirtual 128, 3) := by decide +kernel
theorem dX5_wrapNext_79 : decode cX5_wrapNext 79 = .ok (.aload_n 3, 1) := by decide +kernel
theorem dX5_wrapNext_80 : decode cX5_wrapNext 80 = .ok (.getfield 113, 3) := by decide +kernel
theorem dX5_wrapNext_83 : decode cX5_wrapNext 83 = .ok (.ireturn, 1) := by decide +kernel
theorem dX5_turnOnce_0 : decode cX5_turnOnce 0 = .ok (.aload_n 2, 1) := by decide +kernel
theorem dX5_turnOnce_1 : decode cX5_turnOnce 1 = .ok (.getfield 131, 3) := by decide +kernel
theorem dX5_turnOnce_4 : decode cX5_turnOnce 4 = .ok (.aload_n 3, 1) := by decide +kernel
theorem dX5_turnOnce_5 : decode cX5_turnOnce 5 = .ok (.getfield 134, 3) := by decide +kernel
theorem dX5_turnOnce_8 : decode cX5_turnOnce 8 = .ok (.invokestatic 137, 3) := by decide +kernel
theorem dX5_turnOnce_11 : decode cX5_turnOnce 11 = .ok (.istore 4, 2) := by decide +kernel
theorem dX5_turnOnce_13 : decode cX5_turnOnce 13 = .ok (.aload_n 1, 1) := by decide +kernel
theorem dX5_turnOnce_14 : decode cX5_turnOnce 14 = .ok (.getfield 140, 3) := by decide +kernel
theorem dX5_turnOnce_17 : decode cX5_turnOnce 17 = .ok (.aload_n 3, 1) := by decide +kernel
theorem dX5_turnOnce_18 : decode cX5_turnOnce 18 = .ok (.aload_n 2, 1) := by decide +kernel
theorem dX5_turnOnce_19 : decode cX5_turnOnce 19 = .ok (.getfield 131, 3) := by decide +kernel
theorem dX5_turnOnce_22 : decode cX5_turnOnce 22 = .ok (.invokestatic 143, 3) := by decide +kernel
theorem dX5_turnOnce_25 : decode cX5_turnOnce 25 = .ok (.iload 4, 2) := by decide +kernel
theorem dX5_turnOnce_27 : decode cX5_turnOnce 27 = .ok (.invokevirtual 147, 3) := by decide +kernel
theorem dX5_turnOnce_30 : decode cX5_turnOnce 30 = .ok (.isub, 1) := by decide +kernel
theorem dX5_turnOnce_31 : decode cX5_turnOnce 31 = .ok (.istore 5, 2) := by decide +kernel
theorem dX5_turnOnce_33 : decode cX5_turnOnce 33 = .ok (.aload_n 2, 1) := by decide +kernel
theorem dX5_turnOnce_34 : decode cX5_turnOnce 34 = .ok (.getfield 150, 3) := by decide +kernel
theorem dX5_turnOnce_37 : decode cX5_turnOnce 37 = .ok (.iload 5, 2) := by decide +kernel
theorem dX5_turnOnce_39 : decode cX5_turnOnce 39 = .ok (.invokestatic 153, 3) := by decide +kernel
theorem dX5_turnOnce_42 : decode cX5_turnOnce 42 = .ok (.istore 6, 2) := by decide +kernel
theorem dX5_turnOnce_44 : decode cX5_turnOnce 44 = .ok (.iload 6, 2) := by decide +kernel
theorem dX5_turnOnce_46 : decode cX5_turnOnce 46 = .ok (.ifCond .ne 21, 3) := by decide +kernel
theorem dX5_turnOnce_49 : decode cX5_turnOnce 49 = .ok (.aload_n 2, 1) := by decide +kernel
theorem dX5_turnOnce_50 : decode cX5_turnOnce 50 = .ok (.getfield 150, 3) := by decide +kernel
theorem dX5_turnOnce_53 : decode cX5_turnOnce 53 = .ok (.ifCond .eq 14, 3) := by decide +kernel
theorem dX5_turnOnce_56 : decode cX5_turnOnce 56 = .ok (.aload_n 3, 1) := by decide +kernel
theorem dX5_turnOnce_57 : decode cX5_turnOnce 57 = .ok (.dup, 1) := by decide +kernel
theorem dX5_turnOnce_58 : decode cX5_turnOnce 58 = .ok (.getfield 156, 3) := by decide +kernel
theorem dX5_turnOnce_61 : decode cX5_turnOnce 61 = .ok (.iconst 1, 1) := by decide +kernel
theorem dX5_turnOnce_62 : decode cX5_turnOnce 62 = .ok (.iadd, 1) := by decide +kernel
theorem dX5_turnOnce_63 : decode cX5_turnOnce 63 = .ok (.putfield 156, 3) := by decide +kernel
theorem dX5_turnOnce_66 : decode cX5_turnOnce 66 = .ok (.return_, 1) := by decide +kernel
theorem dX5_turnOnce_67 : decode cX5_turnOnce 67 = .ok (.aload_n 3, 1) := by decide +kernel
theorem dX5_turnOnce_68 : decode cX5_turnOnce 68 = .ok (.aload_n 0, 1) := by decide +kernel
theorem dX5_turnOnce_69 : decode cX5_turnOnce 69 = .ok (.aload_n 1, 1) := by decide +kernel
theorem dX5_turnOnce_70 : decode cX5_turnOnce 70 = .ok (.aload_n 2, 1) := by decide +kernel
theorem dX5_turnOnce_71 : decode cX5_turnOnce 71 = .ok (.getfield 159, 3) := by decide +kernel
theorem dX5_turnOnce_74 : decode cX5_turnOnce 74 = .ok (.invokevirtual 162, 3) := by decide +kernel
theorem dX5_turnOnce_77 : decode cX5_turnOnce 77 = .ok (.iload 6, 2) := by decide +kernel
theorem dX5_turnOnce_79 : decode cX5_turnOnce 79 = .ok (.aload_n 3, 1) := by decide +kernel
theorem dX5_turnOnce_80 : decode cX5_turnOnce 80 = .ok (.invokevirtual 165, 3) := by decide +kernel
theorem dX5_turnOnce_83 : decode cX5_turnOnce 83 = .ok (.putfield 113, 3) := by decide +kernel
theorem dX5_turnOnce_86 : decode cX5_turnOnce 86 = .ok (.aload_n 3, 1) := by decide +kernel
theorem dX5_turnOnce_87 : decode cX5_turnOnce 87 = .ok (.getfield 113, 3) := by decide +kernel
theorem dX5_turnOnce_90 : decode cX5_turnOnce 90 = .ok (.ifCond .ne 39, 3) := by decide +kernel
theorem dX5_turnOnce_93 : decode cX5_turnOnce 93 = .ok (.aload_n 3, 1) := by decide +kernel
theorem dX5_turnOnce_94 : decode cX5_turnOnce 94 = .ok (.dup, 1) := by decide +kernel
theorem dX5_turnOnce_95 : decode cX5_turnOnce 95 = .ok (.getfield 169, 3) := by decide +kernel
theorem dX5_turnOnce_98 : decode cX5_turnOnce 98 = .ok (.iconst 1, 1) := by decide +kernel
theorem dX5_turnOnce_99 : decode cX5_turnOnce 99 = .ok (.iadd, 1) := by decide +kernel
theorem dX5_turnOnce_100 : decode cX5_turnOnce 100 = .ok (.putfield 169, 3) := by decide +kernel
theorem dX5_turnOnce_103 : decode cX5_turnOnce 103 = .ok (.aload_n 3, 1) := by decide +kernel
theorem dX5_turnOnce_104 : decode cX5_turnOnce 104 = .ok (.dup, 1) := by decide +kernel
theorem dX5_turnOnce_105 : decode cX5_turnOnce 105 = .ok (.getfield 172, 3) := by decide +kernel
theorem dX5_turnOnce_108 : decode cX5_turnOnce 108 = .ok (.aload_n 1, 1) := by decide +kernel
theorem dX5_turnOnce_109 : decode cX5_turnOnce 109 = .ok (.invokevirtual 175, 3) := by decide +kernel
theorem dX5_turnOnce_112 : decode cX5_turnOnce 112 = .ok (.iadd, 1) := by decide +kernel
theorem dX5_turnOnce_113 : decode cX5_turnOnce 113 = .ok (.putfield 172, 3) := by decide +kernel
theorem dX5_turnOnce_116 : decode cX5_turnOnce 116 = .ok (.aload_n 3, 1) := by decide +kernel
theorem dX5_turnOnce_117 : decode cX5_turnOnce 117 = .ok (.aload_n 2, 1) := by decide +kernel
theorem dX5_turnOnce_118 : decode cX5_turnOnce 118 = .ok (.getfield 131, 3) := by decide +kernel
theorem dX5_turnOnce_121 : decode cX5_turnOnce 121 = .ok (.iload 6, 2) := by decide +kernel
theorem dX5_turnOnce_123 : decode cX5_turnOnce 123 = .ok (.invokestatic 178, 3) := by decide +kernel
theorem dX5_turnOnce_126 : decode cX5_turnOnce 126 = .ok (.invokevirtual 181, 3) := by decide +kernel
theorem dX5_turnOnce_129 : decode cX5_turnOnce 129 = .ok (.return_, 1) := by decide +kernel
theorem dX5_fetchFilm_0 : decode cX5_fetchFilm 0 = .ok (.iconst 0, 1) := by decide +kernel
theorem dX5_fetchFilm_1 : decode cX5_fetchFilm 1 = .ok (.istore 4, 2) := by decide +kernel
theorem dX5_fetchFilm_3 : decode cX5_fetchFilm 3 = .ok (.iload 4, 2) := by decide +kernel
theorem dX5_fetchFilm_5 : decode cX5_fetchFilm 5 = .ok (.ldc 112, 2) := by decide +kernel
theorem dX5_fetchFilm_7 : decode cX5_fetchFilm 7 = .ok (.if_icmp .ge 123, 3) := by decide +kernel
theorem dX5_fetchFilm_10 : decode cX5_fetchFilm 10 = .ok (.aload_n 0, 1) := by decide +kernel
theorem dX5_fetchFilm_11 : decode cX5_fetchFilm 11 = .ok (.getfield 53, 3) := by decide +kernel
theorem dX5_fetchFilm_14 : decode cX5_fetchFilm 14 = .ok (.ifCond .le 116, 3) := by decide +kernel
theorem dX5_fetchFilm_17 : decode cX5_fetchFilm 17 = .ok (.aload_n 0, 1) := by decide +kernel
theorem dX5_fetchFilm_18 : decode cX5_fetchFilm 18 = .ok (.getfield 11, 3) := by decide +kernel
theorem dX5_fetchFilm_21 : decode cX5_fetchFilm 21 = .ok (.iconst 0, 1) := by decide +kernel
theorem dX5_fetchFilm_22 : decode cX5_fetchFilm 22 = .ok (.aaload, 1) := by decide +kernel
theorem dX5_fetchFilm_23 : decode cX5_fetchFilm 23 = .ok (.invokevirtual 184, 3) := by decide +kernel
theorem dX5_fetchFilm_26 : decode cX5_fetchFilm 26 = .ok (.iload_n 1, 1) := by decide +kernel
theorem dX5_fetchFilm_27 : decode cX5_fetchFilm 27 = .ok (.if_icmp .ge 11, 3) := by decide +kernel
theorem dX5_fetchFilm_30 : decode cX5_fetchFilm 30 = .ok (.aload_n 0, 1) := by decide +kernel
theorem dX5_fetchFilm_31 : decode cX5_fetchFilm 31 = .ok (.aload_n 3, 1) := by decide +kernel
theorem dX5_fetchFilm_32 : decode cX5_fetchFilm 32 = .ok (.invokevirtual 187, 3) := by decide +kernel
theorem dX5_fetchFilm_35 : decode cX5_fetchFilm 35 = .ok (.goto 89, 3) := by decide +kernel
theorem dX5_fetchFilm_38 : decode cX5_fetchFilm 38 = .ok (.aload_n 0, 1) := by decide +kernel
theorem dX5_fetchFilm_39 : decode cX5_fetchFilm 39 = .ok (.getfield 11, 3) := by decide +kernel
theorem dX5_fetchFilm_42 : decode cX5_fetchFilm 42 = .ok (.iconst 0, 1) := by decide +kernel
theorem dX5_fetchFilm_43 : decode cX5_fetchFilm 43 = .ok (.aaload, 1) := by decide +kernel
theorem dX5_fetchFilm_44 : decode cX5_fetchFilm 44 = .ok (.iload_n 1, 1) := by decide +kernel
theorem dX5_fetchFilm_45 : decode cX5_fetchFilm 45 = .ok (.iload_n 2, 1) := by decide +kernel
theorem dX5_fetchFilm_46 : decode cX5_fetchFilm 46 = .ok (.invokevirtual 190, 3) := by decide +kernel
theorem dX5_fetchFilm_49 : decode cX5_fetchFilm 49 = .ok (.istore 5, 2) := by decide +kernel
theorem dX5_fetchFilm_51 : decode cX5_fetchFilm 51 = .ok (.iload 5, 2) := by decide +kernel
theorem dX5_fetchFilm_53 : decode cX5_fetchFilm 53 = .ok (.iconst (-1), 1) := by decide +kernel
theorem dX5_fetchFilm_54 : decode cX5_fetchFilm 54 = .ok (.if_icmp .ne 50, 3) := by decide +kernel
theorem dX5_fetchFilm_57 : decode cX5_fetchFilm 57 = .ok (.aload_n 0, 1) := by decide +kernel
theorem dX5_fetchFilm_58 : decode cX5_fetchFilm 58 = .ok (.getfield 11, 3) := by decide +kernel
theorem dX5_fetchFilm_61 : decode cX5_fetchFilm 61 = .ok (.iconst 0, 1) := by decide +kernel
theorem dX5_fetchFilm_62 : decode cX5_fetchFilm 62 = .ok (.aaload, 1) := by decide +kernel
theorem dX5_fetchFilm_63 : decode cX5_fetchFilm 63 = .ok (.dup, 1) := by decide +kernel
theorem dX5_fetchFilm_64 : decode cX5_fetchFilm 64 = .ok (.getfield 193, 3) := by decide +kernel
theorem dX5_fetchFilm_67 : decode cX5_fetchFilm 67 = .ok (.iload_n 1, 1) := by decide +kernel
theorem dX5_fetchFilm_68 : decode cX5_fetchFilm 68 = .ok (.iadd, 1) := by decide +kernel
theorem dX5_fetchFilm_69 : decode cX5_fetchFilm 69 = .ok (.putfield 193, 3) := by decide +kernel
theorem dX5_fetchFilm_72 : decode cX5_fetchFilm 72 = .ok (.aload_n 3, 1) := by decide +kernel
theorem dX5_fetchFilm_73 : decode cX5_fetchFilm 73 = .ok (.dup, 1) := by decide +kernel
theorem dX5_fetchFilm_74 : decode cX5_fetchFilm 74 = .ok (.getfield 196, 3) := by decide +kernel
theorem dX5_fetchFilm_77 : decode cX5_fetchFilm 77 = .ok (.iload_n 1, 1) := by decide +kernel
theorem dX5_fetchFilm_78 : decode cX5_fetchFilm 78 = .ok (.iadd, 1) := by decide +kernel
theorem dX5_fetchFilm_79 : decode cX5_fetchFilm 79 = .ok (.putfield 196, 3) := by decide +kernel
theorem dX5_fetchFilm_82 : decode cX5_fetchFilm 82 = .ok (.aload_n 3, 1) := by decide +kernel
theorem dX5_fetchFilm_83 : decode cX5_fetchFilm 83 = .ok (.dup, 1) := by decide +kernel
theorem dX5_fetchFilm_84 : decode cX5_fetchFilm 84 = .ok (.getfield 199, 3) := by decide +kernel
theorem dX5_fetchFilm_87 : decode cX5_fetchFilm 87 = .ok (.iload_n 1, 1) := by decide +kernel
theorem dX5_fetchFilm_88 : decode cX5_fetchFilm 88 = .ok (.aload_n 0, 1) := by decide +kernel
theorem dX5_fetchFilm_89 : decode cX5_fetchFilm 89 = .ok (.getfield 11, 3) := by decide +kernel
theorem dX5_fetchFilm_92 : decode cX5_fetchFilm 92 = .ok (.iconst 0, 1) := by decide +kernel
theorem dX5_fetchFilm_93 : decode cX5_fetchFilm 93 = .ok (.aaload, 1) := by decide +kernel
theorem dX5_fetchFilm_94 : decode cX5_fetchFilm 94 = .ok (.getfield 202, 3) := by decide +kernel
theorem dX5_fetchFilm_97 : decode cX5_fetchFilm 97 = .ok (.imul, 1) := by decide +kernel
theorem dX5_fetchFilm_98 : decode cX5_fetchFilm 98 = .ok (.iadd, 1) := by decide +kernel
theorem dX5_fetchFilm_99 : decode cX5_fetchFilm 99 = .ok (.putfield 199, 3) := by decide +kernel
theorem dX5_fetchFilm_102 : decode cX5_fetchFilm 102 = .ok (.iconst 0, 1) := by decide +kernel
theorem dX5_fetchFilm_103 : decode cX5_fetchFilm 103 = .ok (.ireturn, 1) := by decide +kernel
theorem dX5_fetchFilm_104 : decode cX5_fetchFilm 104 = .ok (.aload_n 0, 1) := by decide +kernel
theorem dX5_fetchFilm_105 : decode cX5_fetchFilm 105 = .ok (.iload 5, 2) := by decide +kernel
theorem dX5_fetchFilm_107 : decode cX5_fetchFilm 107 = .ok (.aload_n 3, 1) := by decide +kernel
theorem dX5_fetchFilm_108 : decode cX5_fetchFilm 108 = .ok (.invokevirtual 203, 3) := by decide +kernel
theorem dX5_fetchFilm_111 : decode cX5_fetchFilm 111 = .ok (.aload_n 3, 1) := by decide +kernel
theorem dX5_fetchFilm_112 : decode cX5_fetchFilm 112 = .ok (.getfield 207, 3) := by decide +kernel
theorem dX5_fetchFilm_115 : decode cX5_fetchFilm 115 = .ok (.aload_n 0, 1) := by decide +kernel
theorem dX5_fetchFilm_116 : decode cX5_fetchFilm 116 = .ok (.getfield 50, 3) := by decide +kernel
theorem dX5_fetchFilm_119 : decode cX5_fetchFilm 119 = .ok (.if_icmp .le 5, 3) := by decide +kernel
theorem dX5_fetchFilm_122 : decode cX5_fetchFilm 122 = .ok (.iconst 2, 1) := by decide +kernel
theorem dX5_fetchFilm_123 : decode cX5_fetchFilm 123 = .ok (.ireturn, 1) := by decide +kernel
theorem dX5_fetchFilm_124 : decode cX5_fetchFilm 124 = .ok (.iinc 4 1, 3) := by decide +kernel
theorem dX5_fetchFilm_127 : decode cX5_fetchFilm 127 = .ok (.goto (-124), 3) := by decide +kernel
theorem dX5_fetchFilm_130 : decode cX5_fetchFilm 130 = .ok (.iconst 1, 1) := by decide +kernel
theorem dX5_fetchFilm_131 : decode cX5_fetchFilm 131 = .ok (.ireturn, 1) := by decide +kernel
theorem dX5_changeRoll_0 : decode cX5_changeRoll 0 = .ok (.aload_n 1, 1) := by decide +kernel
theorem dX5_changeRoll_1 : decode cX5_changeRoll 1 = .ok (.dup, 1) := by decide +kernel
theorem dX5_changeRoll_2 : decode cX5_changeRoll 2 = .ok (.getfield 210, 3) := by decide +kernel
theorem dX5_changeRoll_5 : decode cX5_changeRoll 5 = .ok (.aload_n 0, 1) := by decide +kernel
theorem dX5_changeRoll_6 : decode cX5_changeRoll 6 = .ok (.getfield 11, 3) := by decide +kernel
theorem dX5_changeRoll_9 : decode cX5_changeRoll 9 = .ok (.iconst 0, 1) := by decide +kernel
theorem dX5_changeRoll_10 : decode cX5_changeRoll 10 = .ok (.aaload, 1) := by decide +kernel
theorem dX5_changeRoll_11 : decode cX5_changeRoll 11 = .ok (.invokevirtual 184, 3) := by decide +kernel
theorem dX5_changeRoll_14 : decode cX5_changeRoll 14 = .ok (.iadd, 1) := by decide +kernel
theorem dX5_changeRoll_15 : decode cX5_changeRoll 15 = .ok (.putfield 210, 3) := by decide +kernel
theorem dX5_changeRoll_18 : decode cX5_changeRoll 18 = .ok (.aload_n 1, 1) := by decide +kernel
theorem dX5_changeRoll_19 : decode cX5_changeRoll 19 = .ok (.dup, 1) := by decide +kernel
theorem dX5_changeRoll_20 : decode cX5_changeRoll 20 = .ok (.getfield 213, 3) := by decide +kernel
theorem dX5_changeRoll_23 : decode cX5_changeRoll 23 = .ok (.iconst 1, 1) := by decide +kernel
theorem dX5_changeRoll_24 : decode cX5_changeRoll 24 = .ok (.iadd, 1) := by decide +kernel
theorem dX5_changeRoll_25 : decode cX5_changeRoll 25 = .ok (.putfield 213, 3) := by decide +kernel
theorem dX5_changeRoll_28 : decode cX5_changeRoll 28 = .ok (.aload_n 1, 1) := by decide +kernel
theorem dX5_changeRoll_29 : decode cX5_changeRoll 29 = .ok (.dup, 1) := by decide +kernel
theorem dX5_changeRoll_30 : decode cX5_changeRoll 30 = .ok (.getfield 172, 3) := by decide +kernel
theorem dX5_changeRoll_33 : decode cX5_changeRoll 33 = .ok (.bipush 60, 2) := by decide +kernel
theorem dX5_changeRoll_35 : decode cX5_changeRoll 35 = .ok (.iadd, 1) := by decide +kernel
theorem dX5_changeRoll_36 : decode cX5_changeRoll 36 = .ok (.putfield 172, 3) := by decide +kernel
theorem dX5_changeRoll_39 : decode cX5_changeRoll 39 = .ok (.aload_n 0, 1) := by decide +kernel
theorem dX5_changeRoll_40 : decode cX5_changeRoll 40 = .ok (.invokevirtual 216, 3) := by decide +kernel
theorem dX5_changeRoll_43 : decode cX5_changeRoll 43 = .ok (.return_, 1) := by decide +kernel
theorem dX5_breakFilm_0 : decode cX5_breakFilm 0 = .ok (.aload_n 0, 1) := by decide +kernel
theorem dX5_breakFilm_1 : decode cX5_breakFilm 1 = .ok (.getfield 11, 3) := by decide +kernel
theorem dX5_breakFilm_4 : decode cX5_breakFilm 4 = .ok (.iconst 0, 1) := by decide +kernel
theorem dX5_breakFilm_5 : decode cX5_breakFilm 5 = .ok (.aaload, 1) := by decide +kernel
theorem dX5_breakFilm_6 : decode cX5_breakFilm 6 = .ok (.astore_n 3, 1) := by decide +kernel
theorem dX5_breakFilm_7 : decode cX5_breakFilm 7 = .ok (.aload_n 2, 1) := by decide +kernel
theorem dX5_breakFilm_8 : decode cX5_breakFilm 8 = .ok (.dup, 1) := by decide +kernel
theorem dX5_breakFilm_9 : decode cX5_breakFilm 9 = .ok (.getfield 219, 3) := by decide +kernel
theorem dX5_breakFilm_12 : decode cX5_breakFilm 12 = .ok (.iload_n 1, 1) := by decide +kernel
theorem dX5_breakFilm_13 : decode cX5_breakFilm 13 = .ok (.aload_n 3, 1) := by decide +kernel
theorem dX5_breakFilm_14 : decode cX5_breakFilm 14 = .ok (.getfield 193, 3) := by decide +kernel
theorem dX5_breakFilm_17 : decode cX5_breakFilm 17 = .ok (.isub, 1) := by decide +kernel
theorem dX5_breakFilm_18 : decode cX5_breakFilm 18 = .ok (.iadd, 1) := by decide +kernel
theorem dX5_breakFilm_19 : decode cX5_breakFilm 19 = .ok (.putfield 219, 3) := by decide +kernel
theorem dX5_breakFilm_22 : decode cX5_breakFilm 22 = .ok (.aload_n 3, 1) := by decide +kernel
theorem dX5_breakFilm_23 : decode cX5_breakFilm 23 = .ok (.iload_n 1, 1) := by decide +kernel
theorem dX5_breakFilm_24 : decode cX5_breakFilm 24 = .ok (.putfield 193, 3) := by decide +kernel
theorem dX5_breakFilm_27 : decode cX5_breakFilm 27 = .ok (.aload_n 0, 1) := by decide +kernel
theorem dX5_breakFilm_28 : decode cX5_breakFilm 28 = .ok (.getfield 46, 3) := by decide +kernel
theorem dX5_breakFilm_31 : decode cX5_breakFilm 31 = .ok (.aload_n 3, 1) := by decide +kernel
theorem dX5_breakFilm_32 : decode cX5_breakFilm 32 = .ok (.invokevirtual 184, 3) := by decide +kernel
theorem dX5_breakFilm_35 : decode cX5_breakFilm 35 = .ok (.invokestatic 85, 3) := by decide +kernel
theorem dX5_breakFilm_38 : decode cX5_breakFilm 38 = .ok (.istore 4, 2) := by decide +kernel
theorem dX5_breakFilm_40 : decode cX5_breakFilm 40 = .ok (.aload_n 2, 1) := by decide +kernel
theorem dX5_breakFilm_41 : decode cX5_breakFilm 41 = .ok (.dup, 1) := by decide +kernel
theorem dX5_breakFilm_42 : decode cX5_breakFilm 42 = .ok (.getfield 222, 3) := by decide +kernel
theorem dX5_breakFilm_45 : decode cX5_breakFilm 45 = .ok (.iload 4, 2) := by decide +kernel
theorem dX5_breakFilm_47 : decode cX5_breakFilm 47 = .ok (.iadd, 1) := by decide +kernel
theorem dX5_breakFilm_48 : decode cX5_breakFilm 48 = .ok (.putfield 222, 3) := by decide +kernel
theorem dX5_breakFilm_51 : decode cX5_breakFilm 51 = .ok (.aload_n 3, 1) := by decide +kernel
theorem dX5_breakFilm_52 : decode cX5_breakFilm 52 = .ok (.dup, 1) := by decide +kernel
theorem dX5_breakFilm_53 : decode cX5_breakFilm 53 = .ok (.getfield 193, 3) := by decide +kernel
theorem dX5_breakFilm_56 : decode cX5_breakFilm 56 = .ok (.iload 4, 2) := by decide +kernel
theorem dX5_breakFilm_58 : decode cX5_breakFilm 58 = .ok (.iadd, 1) := by decide +kernel
theorem dX5_breakFilm_59 : decode cX5_breakFilm 59 = .ok (.putfield 193, 3) := by decide +kernel
theorem dX5_breakFilm_62 : decode cX5_breakFilm 62 = .ok (.aload_n 2, 1) := by decide +kernel
theorem dX5_breakFilm_63 : decode cX5_breakFilm 63 = .ok (.dup, 1) := by decide +kernel
theorem dX5_breakFilm_64 : decode cX5_breakFilm 64 = .ok (.getfield 207, 3) := by decide +kernel
theorem dX5_breakFilm_67 : decode cX5_breakFilm 67 = .ok (.iconst 1, 1) := by decide +kernel
theorem dX5_breakFilm_68 : decode cX5_breakFilm 68 = .ok (.iadd, 1) := by decide +kernel
theorem dX5_breakFilm_69 : decode cX5_breakFilm 69 = .ok (.putfield 207, 3) := by decide +kernel
theorem dX5_breakFilm_72 : decode cX5_breakFilm 72 = .ok (.aload_n 2, 1) := by decide +kernel
theorem dX5_breakFilm_73 : decode cX5_breakFilm 73 = .ok (.dup, 1) := by decide +kernel
theorem dX5_breakFilm_74 : decode cX5_breakFilm 74 = .ok (.getfield 172, 3) := by decide +kernel
theorem dX5_breakFilm_77 : decode cX5_breakFilm 77 = .ok (.bipush 40, 2) := by decide +kernel
theorem dX5_breakFilm_79 : decode cX5_breakFilm 79 = .ok (.iadd, 1) := by decide +kernel
theorem dX5_breakFilm_80 : decode cX5_breakFilm 80 = .ok (.putfield 172, 3) := by decide +kernel
theorem dX5_breakFilm_83 : decode cX5_breakFilm 83 = .ok (.return_, 1) := by decide +kernel
theorem dX6_init_0 : decode cX6_init 0 = .ok (.aload_n 0, 1) := by decide +kernel
theorem dX6_init_1 : decode cX6_init 1 = .ok (.invokespecial 3, 3) := by decide +kernel
theorem dX6_init_4 : decode cX6_init 4 = .ok (.return_, 1) := by decide +kernel
theorem dX6_add_0 : decode cX6_add 0 = .ok (.aload_n 0, 1) := by decide +kernel
theorem dX6_add_1 : decode cX6_add 1 = .ok (.dup, 1) := by decide +kernel
theorem dX6_add_2 : decode cX6_add 2 = .ok (.getfield 9, 3) := by decide +kernel
theorem dX6_add_5 : decode cX6_add 5 = .ok (.iconst 1, 1) := by decide +kernel
theorem dX6_add_6 : decode cX6_add 6 = .ok (.iadd, 1) := by decide +kernel
theorem dX6_add_7 : decode cX6_add 7 = .ok (.putfield 9, 3) := by decide +kernel
theorem dX6_add_10 : decode cX6_add 10 = .ok (.aload_n 0, 1) := by decide +kernel
theorem dX6_add_11 : decode cX6_add 11 = .ok (.dup, 1) := by decide +kernel
theorem dX6_add_12 : decode cX6_add 12 = .ok (.getfield 15, 3) := by decide +kernel
theorem dX6_add_15 : decode cX6_add 15 = .ok (.aload_n 1, 1) := by decide +kernel
theorem dX6_add_16 : decode cX6_add 16 = .ok (.getfield 18, 3) := by decide +kernel
theorem dX6_add_19 : decode cX6_add 19 = .ok (.ifCond .ne 7, 3) := by decide +kernel
theorem dX6_add_22 : decode cX6_add 22 = .ok (.iconst 0, 1) := by decide +kernel
theorem dX6_add_23 : decode cX6_add 23 = .ok (.goto 4, 3) := by decide +kernel
theorem dX6_add_26 : decode cX6_add 26 = .ok (.iconst 1, 1) := by decide +kernel
theorem dX6_add_27 : decode cX6_add 27 = .ok (.iadd, 1) := by decide +kernel
theorem dX6_add_28 : decode cX6_add 28 = .ok (.putfield 15, 3) := by decide +kernel
theorem dX6_add_31 : decode cX6_add 31 = .ok (.aload_n 0, 1) := by decide +kernel
theorem dX6_add_32 : decode cX6_add 32 = .ok (.dup, 1) := by decide +kernel
theorem dX6_add_33 : decode cX6_add 33 = .ok (.getfield 23, 3) := by decide +kernel
theorem dX6_add_36 : decode cX6_add 36 = .ok (.aload_n 1, 1) := by decide +kernel
theorem dX6_add_37 : decode cX6_add 37 = .ok (.getfield 26, 3) := by decide +kernel
theorem dX6_add_40 : decode cX6_add 40 = .ok (.iadd, 1) := by decide +kernel
theorem dX6_add_41 : decode cX6_add 41 = .ok (.putfield 23, 3) := by decide +kernel
theorem dX6_add_44 : decode cX6_add 44 = .ok (.aload_n 0, 1) := by decide +kernel
theorem dX6_add_45 : decode cX6_add 45 = .ok (.dup, 1) := by decide +kernel
theorem dX6_add_46 : decode cX6_add 46 = .ok (.getfield 27, 3) := by decide +kernel
theorem dX6_add_49 : decode cX6_add 49 = .ok (.aload_n 1, 1) := by decide +kernel
theorem dX6_add_50 : decode cX6_add 50 = .ok (.getfield 30, 3) := by decide +kernel
theorem dX6_add_53 : decode cX6_add 53 = .ok (.iadd, 1) := by decide +kernel
theorem dX6_add_54 : decode cX6_add 54 = .ok (.putfield 27, 3) := by decide +kernel
theorem dX6_add_57 : decode cX6_add 57 = .ok (.aload_n 0, 1) := by decide +kernel
theorem dX6_add_58 : decode cX6_add 58 = .ok (.dup, 1) := by decide +kernel
theorem dX6_add_59 : decode cX6_add 59 = .ok (.getfield 31, 3) := by decide +kernel
theorem dX6_add_62 : decode cX6_add 62 = .ok (.aload_n 1, 1) := by decide +kernel
theorem dX6_add_63 : decode cX6_add 63 = .ok (.getfield 34, 3) := by decide +kernel
theorem dX6_add_66 : decode cX6_add 66 = .ok (.iadd, 1) := by decide +kernel
theorem dX6_add_67 : decode cX6_add 67 = .ok (.putfield 31, 3) := by decide +kernel
theorem dX6_add_70 : decode cX6_add 70 = .ok (.aload_n 0, 1) := by decide +kernel
theorem dX6_add_71 : decode cX6_add 71 = .ok (.dup, 1) := by decide +kernel
theorem dX6_add_72 : decode cX6_add 72 = .ok (.getfield 37, 3) := by decide +kernel
theorem dX6_add_75 : decode cX6_add 75 = .ok (.aload_n 1, 1) := by decide +kernel
theorem dX6_add_76 : decode cX6_add 76 = .ok (.getfield 40, 3) := by decide +kernel
theorem dX6_add_79 : decode cX6_add 79 = .ok (.iadd, 1) := by decide +kernel
theorem dX6_add_80 : decode cX6_add 80 = .ok (.putfield 37, 3) := by decide +kernel
theorem dX6_add_83 : decode cX6_add 83 = .ok (.aload_n 0, 1) := by decide +kernel
theorem dX6_add_84 : decode cX6_add 84 = .ok (.dup, 1) := by decide +kernel
theorem dX6_add_85 : decode cX6_add 85 = .ok (.getfield 41, 3) := by decide +kernel
theorem dX6_add_88 : decode cX6_add 88 = .ok (.aload_n 1, 1) := by decide +kernel
theorem dX6_add_89 : decode cX6_add 89 = .ok (.getfield 44, 3) := by decide +kernel
theorem dX6_add_92 : decode cX6_add 92 = .ok (.iadd, 1) := by decide +kernel
theorem dX6_add_93 : decode cX6_add 93 = .ok (.putfield 41, 3) := by decide +kernel
theorem dX6_add_96 : decode cX6_add 96 = .ok (.aload_n 0, 1) := by decide +kernel
theorem dX6_add_97 : decode cX6_add 97 = .ok (.dup, 1) := by decide +kernel
theorem dX6_add_98 : decode cX6_add 98 = .ok (.getfield 45, 3) := by decide +kernel
theorem dX6_add_101 : decode cX6_add 101 = .ok (.aload_n 1, 1) := by decide +kernel
theorem dX6_add_102 : decode cX6_add 102 = .ok (.getfield 48, 3) := by decide +kernel
theorem dX6_add_105 : decode cX6_add 105 = .ok (.iadd, 1) := by decide +kernel
theorem dX6_add_106 : decode cX6_add 106 = .ok (.putfield 45, 3) := by decide +kernel
theorem dX6_add_109 : decode cX6_add 109 = .ok (.aload_n 0, 1) := by decide +kernel
theorem dX6_add_110 : decode cX6_add 110 = .ok (.dup, 1) := by decide +kernel
theorem dX6_add_111 : decode cX6_add 111 = .ok (.getfield 49, 3) := by decide +kernel
theorem dX6_add_114 : decode cX6_add 114 = .ok (.aload_n 1, 1) := by decide +kernel
theorem dX6_add_115 : decode cX6_add 115 = .ok (.getfield 52, 3) := by decide +kernel
theorem dX6_add_118 : decode cX6_add 118 = .ok (.iadd, 1) := by decide +kernel
theorem dX6_add_119 : decode cX6_add 119 = .ok (.putfield 49, 3) := by decide +kernel
theorem dX6_add_122 : decode cX6_add 122 = .ok (.aload_n 0, 1) := by decide +kernel
theorem dX6_add_123 : decode cX6_add 123 = .ok (.dup, 1) := by decide +kernel
theorem dX6_add_124 : decode cX6_add 124 = .ok (.getfield 53, 3) := by decide +kernel
theorem dX6_add_127 : decode cX6_add 127 = .ok (.aload_n 1, 1) := by decide +kernel
theorem dX6_add_128 : decode cX6_add 128 = .ok (.getfield 56, 3) := by decide +kernel
theorem dX6_add_131 : decode cX6_add 131 = .ok (.iadd, 1) := by decide +kernel
theorem dX6_add_132 : decode cX6_add 132 = .ok (.putfield 53, 3) := by decide +kernel
theorem dX6_add_135 : decode cX6_add 135 = .ok (.aload_n 0, 1) := by decide +kernel
theorem dX6_add_136 : decode cX6_add 136 = .ok (.dup, 1) := by decide +kernel
theorem dX6_add_137 : decode cX6_add 137 = .ok (.getfield 57, 3) := by decide +kernel
theorem dX6_add_140 : decode cX6_add 140 = .ok (.aload_n 1, 1) := by decide +kernel
theorem dX6_add_141 : decode cX6_add 141 = .ok (.getfield 60, 3) := by decide +kernel
theorem dX6_add_144 : decode cX6_add 144 = .ok (.iadd, 1) := by decide +kernel
theorem dX6_add_145 : decode cX6_add 145 = .ok (.putfield 57, 3) := by decide +kernel
theorem dX6_add_148 : decode cX6_add 148 = .ok (.aload_n 0, 1) := by decide +kernel
theorem dX6_add_149 : decode cX6_add 149 = .ok (.dup, 1) := by decide +kernel
theorem dX6_add_150 : decode cX6_add 150 = .ok (.getfield 61, 3) := by decide +kernel
theorem dX6_add_153 : decode cX6_add 153 = .ok (.aload_n 1, 1) := by decide +kernel
theorem dX6_add_154 : decode cX6_add 154 = .ok (.getfield 65, 3) := by decide +kernel
theorem dX6_add_157 : decode cX6_add 157 = .ok (.i2l, 1) := by decide +kernel
theorem dX6_add_158 : decode cX6_add 158 = .ok (.ladd, 1) := by decide +kernel
theorem dX6_add_159 : decode cX6_add 159 = .ok (.putfield 61, 3) := by decide +kernel
theorem dX6_add_162 : decode cX6_add 162 = .ok (.return_, 1) := by decide +kernel
theorem dX6_copyFrom_0 : decode cX6_copyFrom 0 = .ok (.aload_n 0, 1) := by decide +kernel
theorem dX6_copyFrom_1 : decode cX6_copyFrom 1 = .ok (.aload_n 1, 1) := by decide +kernel
theorem dX6_copyFrom_2 : decode cX6_copyFrom 2 = .ok (.getfield 9, 3) := by decide +kernel
theorem dX6_copyFrom_5 : decode cX6_copyFrom 5 = .ok (.putfield 9, 3) := by decide +kernel
theorem dX6_copyFrom_8 : decode cX6_copyFrom 8 = .ok (.aload_n 0, 1) := by decide +kernel
theorem dX6_copyFrom_9 : decode cX6_copyFrom 9 = .ok (.aload_n 1, 1) := by decide +kernel
theorem dX6_copyFrom_10 : decode cX6_copyFrom 10 = .ok (.getfield 15, 3) := by decide +kernel
theorem dX6_copyFrom_13 : decode cX6_copyFrom 13 = .ok (.putfield 15, 3) := by decide +kernel
theorem dX6_copyFrom_16 : decode cX6_copyFrom 16 = .ok (.aload_n 0, 1) := by decide +kernel
theorem dX6_copyFrom_17 : decode cX6_copyFrom 17 = .ok (.aload_n 1, 1) := by decide +kernel
theorem dX6_copyFrom_18 : decode cX6_copyFrom 18 = .ok (.getfield 23, 3) := by decide +kernel
theorem dX6_copyFrom_21 : decode cX6_copyFrom 21 = .ok (.putfield 23, 3) := by decide +kernel
theorem dX6_copyFrom_24 : decode cX6_copyFrom 24 = .ok (.aload_n 0, 1) := by decide +kernel
theorem dX6_copyFrom_25 : decode cX6_copyFrom 25 = .ok (.aload_n 1, 1) := by decide +kernel
theorem dX6_copyFrom_26 : decode cX6_copyFrom 26 = .ok (.getfield 27, 3) := by decide +kernel
theorem dX6_copyFrom_29 : decode cX6_copyFrom 29 = .ok (.putfield 27, 3) := by decide +kernel
theorem dX6_copyFrom_32 : decode cX6_copyFrom 32 = .ok (.aload_n 0, 1) := by decide +kernel
theorem dX6_copyFrom_33 : decode cX6_copyFrom 33 = .ok (.aload_n 1, 1) := by decide +kernel
theorem dX6_copyFrom_34 : decode cX6_copyFrom 34 = .ok (.getfield 31, 3) := by decide +kernel
theorem dX6_copyFrom_37 : decode cX6_copyFrom 37 = .ok (.putfield 31, 3) := by decide +kernel
theorem dX6_copyFrom_40 : decode cX6_copyFrom 40 = .ok (.aload_n 0, 1) := by decide +kernel
theorem dX6_copyFrom_41 : decode cX6_copyFrom 41 = .ok (.aload_n 1, 1) := by decide +kernel
theorem dX6_copyFrom_42 : decode cX6_copyFrom 42 = .ok (.getfield 37, 3) := by decide +kernel
theorem dX6_copyFrom_45 : decode cX6_copyFrom 45 = .ok (.putfield 37, 3) := by decide +kernel
theorem dX6_copyFrom_48 : decode cX6_copyFrom 48 = .ok (.aload_n 0, 1) := by decide +kernel
theorem dX6_copyFrom_49 : decode cX6_copyFrom 49 = .ok (.aload_n 1, 1) := by decide +kernel
theorem dX6_copyFrom_50 : decode cX6_copyFrom 50 = .ok (.getfield 41, 3) := by decide +kernel
theorem dX6_copyFrom_53 : decode cX6_copyFrom 53 = .ok (.putfield 41, 3) := by decide +kernel
theorem dX6_copyFrom_56 : decode cX6_copyFrom 56 = .ok (.aload_n 0, 1) := by decide +kernel
theorem dX6_copyFrom_57 : decode cX6_copyFrom 57 = .ok (.aload_n 1, 1) := by decide +kernel
theorem dX6_copyFrom_58 : decode cX6_copyFrom 58 = .ok (.getfield 45, 3) := by decide +kernel
theorem dX6_copyFrom_61 : decode cX6_copyFrom 61 = .ok (.putfield 45, 3) := by decide +kernel
theorem dX6_copyFrom_64 : decode cX6_copyFrom 64 = .ok (.aload_n 0, 1) := by decide +kernel
theorem dX6_copyFrom_65 : decode cX6_copyFrom 65 = .ok (.aload_n 1, 1) := by decide +kernel
theorem dX6_copyFrom_66 : decode cX6_copyFrom 66 = .ok (.getfield 49, 3) := by decide +kernel
theorem dX6_copyFrom_69 : decode cX6_copyFrom 69 = .ok (.putfield 49, 3) := by decide +kernel
theorem dX6_copyFrom_72 : decode cX6_copyFrom 72 = .ok (.aload_n 0, 1) := by decide +kernel
theorem dX6_copyFrom_73 : decode cX6_copyFrom 73 = .ok (.aload_n 1, 1) := by decide +kernel
theorem dX6_copyFrom_74 : decode cX6_copyFrom 74 = .ok (.getfield 53, 3) := by decide +kernel
theorem dX6_copyFrom_77 : decode cX6_copyFrom 77 = .ok (.putfield 53, 3) := by decide +kernel
theorem dX6_copyFrom_80 : decode cX6_copyFrom 80 = .ok (.aload_n 0, 1) := by decide +kernel
theorem dX6_copyFrom_81 : decode cX6_copyFrom 81 = .ok (.aload_n 1, 1) := by decide +kernel
theorem dX6_copyFrom_82 : decode cX6_copyFrom 82 = .ok (.getfield 57, 3) := by decide +kernel
theorem dX6_copyFrom_85 : decode cX6_copyFrom 85 = .ok (.putfield 57, 3) := by decide +kernel
theorem dX6_copyFrom_88 : decode cX6_copyFrom 88 = .ok (.aload_n 0, 1) := by decide +kernel
theorem dX6_copyFrom_89 : decode cX6_copyFrom 89 = .ok (.aload_n 1, 1) := by decide +kernel
theorem dX6_copyFrom_90 : decode cX6_copyFrom 90 = .ok (.getfield 61, 3) := by decide +kernel
theorem dX6_copyFrom_93 : decode cX6_copyFrom 93 = .ok (.putfield 61, 3) := by decide +kernel
theorem dX6_copyFrom_96 : decode cX6_copyFrom 96 = .ok (.return_, 1) := by decide +kernel
theorem dX6_property_0 : decode cX6_property 0 = .ok (.iload_n 1, 1) := by decide +kernel
theorem dX6_property_1 : decode cX6_property 1 = .ok (.tableswitch 111 0 8 #[51, 71, 76, 81, 86, 91, 96, 101, 106], 51) := by decide +kernel
theorem dX6_property_52 : decode cX6_property 52 = .ok (.aload_n 0, 1) := by decide +kernel
theorem dX6_property_53 : decode cX6_property 53 = .ok (.getfield 31, 3) := by decide +kernel
theorem dX6_property_56 : decode cX6_property 56 = .ok (.aload_n 0, 1) := by decide +kernel
theorem dX6_property_57 : decode cX6_property 57 = .ok (.getfield 37, 3) := by decide +kernel
theorem dX6_property_60 : decode cX6_property 60 = .ok (.iadd, 1) := by decide +kernel
theorem dX6_property_61 : decode cX6_property 61 = .ok (.aload_n 0, 1) := by decide +kernel
theorem dX6_property_62 : decode cX6_property 62 = .ok (.getfield 41, 3) := by decide +kernel
theorem dX6_property_65 : decode cX6_property 65 = .ok (.iadd, 1) := by decide +kernel
theorem dX6_property_66 : decode cX6_property 66 = .ok (.aload_n 0, 1) := by decide +kernel
theorem dX6_property_67 : decode cX6_property 67 = .ok (.getfield 45, 3) := by decide +kernel
theorem dX6_property_70 : decode cX6_property 70 = .ok (.iadd, 1) := by decide +kernel
theorem dX6_property_71 : decode cX6_property 71 = .ok (.ireturn, 1) := by decide +kernel
theorem dX6_property_72 : decode cX6_property 72 = .ok (.aload_n 0, 1) := by decide +kernel
theorem dX6_property_73 : decode cX6_property 73 = .ok (.getfield 31, 3) := by decide +kernel
theorem dX6_property_76 : decode cX6_property 76 = .ok (.ireturn, 1) := by decide +kernel
theorem dX6_property_77 : decode cX6_property 77 = .ok (.aload_n 0, 1) := by decide +kernel
theorem dX6_property_78 : decode cX6_property 78 = .ok (.getfield 37, 3) := by decide +kernel
theorem dX6_property_81 : decode cX6_property 81 = .ok (.ireturn, 1) := by decide +kernel
theorem dX6_property_82 : decode cX6_property 82 = .ok (.aload_n 0, 1) := by decide +kernel
theorem dX6_property_83 : decode cX6_property 83 = .ok (.getfield 41, 3) := by decide +kernel
theorem dX6_property_86 : decode cX6_property 86 = .ok (.ireturn, 1) := by decide +kernel
theorem dX6_property_87 : decode cX6_property 87 = .ok (.aload_n 0, 1) := by decide +kernel
theorem dX6_property_88 : decode cX6_property 88 = .ok (.getfield 45, 3) := by decide +kernel
theorem dX6_property_91 : decode cX6_property 91 = .ok (.ireturn, 1) := by decide +kernel
theorem dX6_property_92 : decode cX6_property 92 = .ok (.aload_n 0, 1) := by decide +kernel
theorem dX6_property_93 : decode cX6_property 93 = .ok (.getfield 49, 3) := by decide +kernel
theorem dX6_property_96 : decode cX6_property 96 = .ok (.ireturn, 1) := by decide +kernel
theorem dX6_property_97 : decode cX6_property 97 = .ok (.aload_n 0, 1) := by decide +kernel
theorem dX6_property_98 : decode cX6_property 98 = .ok (.getfield 53, 3) := by decide +kernel
theorem dX6_property_101 : decode cX6_property 101 = .ok (.ireturn, 1) := by decide +kernel
theorem dX6_property_102 : decode cX6_property 102 = .ok (.aload_n 0, 1) := by decide +kernel
theorem dX6_property_103 : decode cX6_property 103 = .ok (.getfield 23, 3) := by decide +kernel
theorem dX6_property_106 : decode cX6_property 106 = .ok (.ireturn, 1) := by decide +kernel
theorem dX6_property_107 : decode cX6_property 107 = .ok (.aload_n 0, 1) := by decide +kernel
theorem dX6_property_108 : decode cX6_property 108 = .ok (.getfield 27, 3) := by decide +kernel
theorem dX6_property_111 : decode cX6_property 111 = .ok (.ireturn, 1) := by decide +kernel
theorem dX6_property_112 : decode cX6_property 112 = .ok (.aload_n 0, 1) := by decide +kernel
theorem dX6_property_113 : decode cX6_property 113 = .ok (.getfield 15, 3) := by decide +kernel
theorem dX6_property_116 : decode cX6_property 116 = .ok (.ireturn, 1) := by decide +kernel
theorem dX7_init_0 : decode cX7_init 0 = .ok (.aload_n 0, 1) := by decide +kernel
theorem dX7_init_1 : decode cX7_init 1 = .ok (.invokespecial 3, 3) := by decide +kernel
theorem dX7_init_4 : decode cX7_init 4 = .ok (.aload_n 0, 1) := by decide +kernel
theorem dX7_init_5 : decode cX7_init 5 = .ok (.bipush 100, 2) := by decide +kernel
theorem dX7_init_7 : decode cX7_init 7 = .ok (.newarray .char, 2) := by decide +kernel
theorem dX7_init_9 : decode cX7_init 9 = .ok (.putfield 9, 3) := by decide +kernel
theorem dX7_init_12 : decode cX7_init 12 = .ok (.return_, 1) := by decide +kernel
theorem dX7_append_0 : decode cX7_append 0 = .ok (.aload_n 0, 1) := by decide +kernel
theorem dX7_append_1 : decode cX7_append 1 = .ok (.getfield 15, 3) := by decide +kernel
theorem dX7_append_4 : decode cX7_append 4 = .ok (.bipush 100, 2) := by decide +kernel
theorem dX7_append_6 : decode cX7_append 6 = .ok (.if_icmp .ge 23, 3) := by decide +kernel
theorem dX7_append_9 : decode cX7_append 9 = .ok (.aload_n 0, 1) := by decide +kernel
theorem dX7_append_10 : decode cX7_append 10 = .ok (.getfield 9, 3) := by decide +kernel
theorem dX7_append_13 : decode cX7_append 13 = .ok (.aload_n 0, 1) := by decide +kernel
theorem dX7_append_14 : decode cX7_append 14 = .ok (.getfield 15, 3) := by decide +kernel
theorem dX7_append_17 : decode cX7_append 17 = .ok (.iload_n 1, 1) := by decide +kernel
theorem dX7_append_18 : decode cX7_append 18 = .ok (.castore, 1) := by decide +kernel
theorem dX7_append_19 : decode cX7_append 19 = .ok (.aload_n 0, 1) := by decide +kernel
theorem dX7_append_20 : decode cX7_append 20 = .ok (.dup, 1) := by decide +kernel
theorem dX7_append_21 : decode cX7_append 21 = .ok (.getfield 15, 3) := by decide +kernel
theorem dX7_append_24 : decode cX7_append 24 = .ok (.iconst 1, 1) := by decide +kernel
theorem dX7_append_25 : decode cX7_append 25 = .ok (.iadd, 1) := by decide +kernel
theorem dX7_append_26 : decode cX7_append 26 = .ok (.putfield 15, 3) := by decide +kernel
theorem dX7_append_29 : decode cX7_append 29 = .ok (.return_, 1) := by decide +kernel
theorem dX7_appendName_0 : decode cX7_appendName 0 = .ok (.iload_n 1, 1) := by decide +kernel
theorem dX7_appendName_1 : decode cX7_appendName 1 = .ok (.invokestatic 19, 3) := by decide +kernel
theorem dX7_appendName_4 : decode cX7_appendName 4 = .ok (.astore_n 2, 1) := by decide +kernel
theorem dX7_appendName_5 : decode cX7_appendName 5 = .ok (.iconst 0, 1) := by decide +kernel
theorem dX7_appendName_6 : decode cX7_appendName 6 = .ok (.istore_n 3, 1) := by decide +kernel
theorem dX7_appendName_7 : decode cX7_appendName 7 = .ok (.iload_n 3, 1) := by decide +kernel
theorem dX7_appendName_8 : decode cX7_appendName 8 = .ok (.aload_n 2, 1) := by decide +kernel
theorem dX7_appendName_9 : decode cX7_appendName 9 = .ok (.invokevirtual 23, 3) := by decide +kernel
theorem dX7_appendName_12 : decode cX7_appendName 12 = .ok (.if_icmp .ge 18, 3) := by decide +kernel
theorem dX7_appendName_15 : decode cX7_appendName 15 = .ok (.aload_n 0, 1) := by decide +kernel
theorem dX7_appendName_16 : decode cX7_appendName 16 = .ok (.aload_n 2, 1) := by decide +kernel
theorem dX7_appendName_17 : decode cX7_appendName 17 = .ok (.iload_n 3, 1) := by decide +kernel
theorem dX7_appendName_18 : decode cX7_appendName 18 = .ok (.invokevirtual 28, 3) := by decide +kernel
theorem dX7_appendName_21 : decode cX7_appendName 21 = .ok (.invokevirtual 32, 3) := by decide +kernel
theorem dX7_appendName_24 : decode cX7_appendName 24 = .ok (.iinc 3 1, 3) := by decide +kernel
theorem dX7_appendName_27 : decode cX7_appendName 27 = .ok (.goto (-20), 3) := by decide +kernel
theorem dX7_appendName_30 : decode cX7_appendName 30 = .ok (.return_, 1) := by decide +kernel
theorem dX7_appendAmount_0 : decode cX7_appendAmount 0 = .ok (.iload_n 1, 1) := by decide +kernel
theorem dX7_appendAmount_1 : decode cX7_appendAmount 1 = .ok (.bipush 100, 2) := by decide +kernel
theorem dX7_appendAmount_3 : decode cX7_appendAmount 3 = .ok (.if_icmp .lt 18, 3) := by decide +kernel
theorem dX7_appendAmount_6 : decode cX7_appendAmount 6 = .ok (.aload_n 0, 1) := by decide +kernel
theorem dX7_appendAmount_7 : decode cX7_appendAmount 7 = .ok (.bipush 48, 2) := by decide +kernel
theorem dX7_appendAmount_9 : decode cX7_appendAmount 9 = .ok (.iload_n 1, 1) := by decide +kernel
theorem dX7_appendAmount_10 : decode cX7_appendAmount 10 = .ok (.bipush 100, 2) := by decide +kernel
theorem dX7_appendAmount_12 : decode cX7_appendAmount 12 = .ok (.idiv, 1) := by decide +kernel
theorem dX7_appendAmount_13 : decode cX7_appendAmount 13 = .ok (.bipush 10, 2) := by decide +kernel
theorem dX7_appendAmount_15 : decode cX7_appendAmount 15 = .ok (.irem, 1) := by decide +kernel
theorem dX7_appendAmount_16 : decode cX7_appendAmount 16 = .ok (.iadd, 1) := by decide +kernel
theorem dX7_appendAmount_17 : decode cX7_appendAmount 17 = .ok (.i2c, 1) := by decide +kernel
theorem dX7_appendAmount_18 : decode cX7_appendAmount 18 = .ok (.invokevirtual 32, 3) := by decide +kernel
theorem dX7_appendAmount_21 : decode cX7_appendAmount 21 = .ok (.iload_n 1, 1) := by decide +kernel
theorem dX7_appendAmount_22 : decode cX7_appendAmount 22 = .ok (.bipush 10, 2) := by decide +kernel
theorem dX7_appendAmount_24 : decode cX7_appendAmount 24 = .ok (.if_icmp .lt 18, 3) := by decide +kernel
theorem dX7_appendAmount_27 : decode cX7_appendAmount 27 = .ok (.aload_n 0, 1) := by decide +kernel
theorem dX7_appendAmount_28 : decode cX7_appendAmount 28 = .ok (.bipush 48, 2) := by decide +kernel
theorem dX7_appendAmount_30 : decode cX7_appendAmount 30 = .ok (.iload_n 1, 1) := by decide +kernel
theorem dX7_appendAmount_31 : decode cX7_appendAmount 31 = .ok (.bipush 10, 2) := by decide +kernel
theorem dX7_appendAmount_33 : decode cX7_appendAmount 33 = .ok (.idiv, 1) := by decide +kernel
theorem dX7_appendAmount_34 : decode cX7_appendAmount 34 = .ok (.bipush 10, 2) := by decide +kernel
theorem dX7_appendAmount_36 : decode cX7_appendAmount 36 = .ok (.irem, 1) := by decide +kernel
theorem dX7_appendAmount_37 : decode cX7_appendAmount 37 = .ok (.iadd, 1) := by decide +kernel
theorem dX7_appendAmount_38 : decode cX7_appendAmount 38 = .ok (.i2c, 1) := by decide +kernel
theorem dX7_appendAmount_39 : decode cX7_appendAmount 39 = .ok (.invokevirtual 32, 3) := by decide +kernel
theorem dX7_appendAmount_42 : decode cX7_appendAmount 42 = .ok (.aload_n 0, 1) := by decide +kernel
theorem dX7_appendAmount_43 : decode cX7_appendAmount 43 = .ok (.bipush 48, 2) := by decide +kernel
theorem dX7_appendAmount_45 : decode cX7_appendAmount 45 = .ok (.iload_n 1, 1) := by decide +kernel
theorem dX7_appendAmount_46 : decode cX7_appendAmount 46 = .ok (.bipush 10, 2) := by decide +kernel
theorem dX7_appendAmount_48 : decode cX7_appendAmount 48 = .ok (.irem, 1) := by decide +kernel
theorem dX7_appendAmount_49 : decode cX7_appendAmount 49 = .ok (.iadd, 1) := by decide +kernel
theorem dX7_appendAmount_50 : decode cX7_appendAmount 50 = .ok (.i2c, 1) := by decide +kernel
theorem dX7_appendAmount_51 : decode cX7_appendAmount 51 = .ok (.invokevirtual 32, 3) := by decide +kernel
theorem dX7_appendAmount_54 : decode cX7_appendAmount 54 = .ok (.return_, 1) := by decide +kernel
theorem dX7_showProgram_0 : decode cX7_showProgram 0 = .ok (.aload_n 0, 1) := by decide +kernel
theorem dX7_showProgram_1 : decode cX7_showProgram 1 = .ok (.iconst 0, 1) := by decide +kernel
theorem dX7_showProgram_2 : decode cX7_showProgram 2 = .ok (.putfield 15, 3) := by decide +kernel
theorem dX7_showProgram_5 : decode cX7_showProgram 5 = .ok (.iconst 0, 1) := by decide +kernel
theorem dX7_showProgram_6 : decode cX7_showProgram 6 = .ok (.istore_n 2, 1) := by decide +kernel
theorem dX7_showProgram_7 : decode cX7_showProgram 7 = .ok (.iload_n 2, 1) := by decide +kernel
theorem dX7_showProgram_8 : decode cX7_showProgram 8 = .ok (.aload_n 1, 1) := by decide +kernel
theorem dX7_showProgram_9 : decode cX7_showProgram 9 = .ok (.getfield 36, 3) := by decide +kernel
theorem dX7_showProgram_12 : decode cX7_showProgram 12 = .ok (.if_icmp .ge 51, 3) := by decide +kernel
theorem dX7_showProgram_15 : decode cX7_showProgram 15 = .ok (.iload_n 2, 1) := by decide +kernel
theorem dX7_showProgram_16 : decode cX7_showProgram 16 = .ok (.ifCond .le 15, 3) := by decide +kernel
theorem dX7_showProgram_19 : decode cX7_showProgram 19 = .ok (.aload_n 0, 1) := by decide +kernel
theorem dX7_showProgram_20 : decode cX7_showProgram 20 = .ok (.bipush 44, 2) := by decide +kernel
theorem dX7_showProgram_22 : decode cX7_showProgram 22 = .ok (.invokevirtual 32, 3) := by decide +kernel
theorem dX7_showProgram_25 : decode cX7_showProgram 25 = .ok (.aload_n 0, 1) := by decide +kernel
theorem dX7_showProgram_26 : decode cX7_showProgram 26 = .ok (.bipush 32, 2) := by decide +kernel
theorem dX7_showProgram_28 : decode cX7_showProgram 28 = .ok (.invokevirtual 32, 3) := by decide +kernel
theorem dX7_showProgram_31 : decode cX7_showProgram 31 = .ok (.aload_n 0, 1) := by decide +kernel
theorem dX7_showProgram_32 : decode cX7_showProgram 32 = .ok (.aload_n 1, 1) := by decide +kernel
theorem dX7_showProgram_33 : decode cX7_showProgram 33 = .ok (.getfield 41, 3) := by decide +kernel
theorem dX7_showProgram_36 : decode cX7_showProgram 36 = .ok (.iload_n 2, 1) := by decide +kernel
theorem dX7_showProgram_37 : decode cX7_showProgram 37 = .ok (.iaload, 1) := by decide +kernel
theorem dX7_showProgram_38 : decode cX7_showProgram 38 = .ok (.invokevirtual 45, 3) := by decide +kernel
theorem dX7_showProgram_41 : decode cX7_showProgram 41 = .ok (.aload_n 0, 1) := by decide +kernel
theorem dX7_showProgram_42 : decode cX7_showProgram 42 = .ok (.bipush 32, 2) := by decide +kernel
theorem dX7_showProgram_44 : decode cX7_showProgram 44 = .ok (.invokevirtual 32, 3) := by decide +kernel
theorem dX7_showProgram_47 : decode cX7_showProgram 47 = .ok (.aload_n 0, 1) := by decide +kernel
theorem dX7_showProgram_48 : decode cX7_showProgram 48 = .ok (.aload_n 1, 1) := by decide +kernel
theorem dX7_showProgram_49 : decode cX7_showProgram 49 = .ok (.getfield 49, 3) := by decide +kernel
theorem dX7_showProgram_52 : decode cX7_showProgram 52 = .ok (.iload_n 2, 1) := by decide +kernel
theorem dX7_showProgram_53 : decode cX7_showProgram 53 = .ok (.iaload, 1) := by decide +kernel
theorem dX7_showProgram_54 : decode cX7_showProgram 54 = .ok (.invokevirtual 52, 3) := by decide +kernel
theorem dX7_showProgram_57 : decode cX7_showProgram 57 = .ok (.iinc 2 1, 3) := by decide +kernel
theorem dX7_showProgram_60 : decode cX7_showProgram 60 = .ok (.goto (-53), 3) := by decide +kernel
theorem dX7_showProgram_63 : decode cX7_showProgram 63 = .ok (.return_, 1) := by decide +kernel
theorem dX7_readInto_0 : decode cX7_readInto 0 = .ok (.aload_n 1, 1) := by decide +kernel
theorem dX7_readInto_1 : decode cX7_readInto 1 = .ok (.iconst 0, 1) := by decide +kernel
theorem dX7_readInto_2 : decode cX7_readInto 2 = .ok (.putfield 36, 3) := by decide +kernel
theorem dX7_readInto_5 : decode cX7_readInto 5 = .ok (.aload_n 0, 1) := by decide +kernel
theorem dX7_readInto_6 : decode cX7_readInto 6 = .ok (.getfield 15, 3) := by decide +kernel
theorem dX7_readInto_9 : decode cX7_readInto 9 = .ok (.ifCond .ne 5, 3) := by decide +kernel
theorem dX7_readInto_12 : decode cX7_readInto 12 = .ok (.iconst (-1), 1) := by decide +kernel
theorem dX7_readInto_13 : decode cX7_readInto 13 = .ok (.ireturn, 1) := by decide +kernel
theorem dX7_readInto_14 : decode cX7_readInto 14 = .ok (.iconst 0, 1) := by decide +kernel
theorem dX7_readInto_15 : decode cX7_readInto 15 = .ok (.istore_n 2, 1) := by decide +kernel
theorem dX7_readInto_16 : decode cX7_readInto 16 = .ok (.iconst 0, 1) := by decide +kernel
theorem dX7_readInto_17 : decode cX7_readInto 17 = .ok (.istore_n 3, 1) := by decide +kernel
theorem dX7_readInto_18 : decode cX7_readInto 18 = .ok (.iload_n 3, 1) := by decide +kernel
theorem dX7_readInto_19 : decode cX7_readInto 19 = .ok (.bipush 12, 2) := by decide +kernel
theorem dX7_readInto_21 : decode cX7_readInto 21 = .ok (.if_icmp .ge 50, 3) := by decide +kernel
theorem dX7_readInto_24 : decode cX7_readInto 24 = .ok (.aload_n 0, 1) := by decide +kernel
theorem dX7_readInto_25 : decode cX7_readInto 25 = .ok (.iload_n 2, 1) := by decide +kernel
theorem dX7_readInto_26 : decode cX7_readInto 26 = .ok (.aload_n 1, 1) := by decide +kernel
theorem dX7_readInto_27 : decode cX7_readInto 27 = .ok (.invokevirtual 55, 3) := by decide +kernel
theorem dX7_readInto_30 : decode cX7_readInto 30 = .ok (.istore 4, 2) := by decide +kernel
theorem dX7_readInto_32 : decode cX7_readInto 32 = .ok (.iload 4, 2) := by decide +kernel
theorem dX7_readInto_34 : decode cX7_readInto 34 = .ok (.aload_n 0, 1) := by decide +kernel
theorem dX7_readInto_35 : decode cX7_readInto 35 = .ok (.getfield 15, 3) := by decide +kernel
theorem dX7_readInto_38 : decode cX7_readInto 38 = .ok (.if_icmp .ne 5, 3) := by decide +kernel
theorem dX7_readInto_41 : decode cX7_readInto 41 = .ok (.iconst (-1), 1) := by decide +kernel
theorem dX7_readInto_42 : decode cX7_readInto 42 = .ok (.ireturn, 1) := by decide +kernel
theorem dX7_readInto_43 : decode cX7_readInto 43 = .ok (.iload 4, 2) := by decide +kernel
theorem dX7_readInto_45 : decode cX7_readInto 45 = .ok (.iconst (-1), 1) := by decide +kernel
theorem dX7_readInto_46 : decode cX7_readInto 46 = .ok (.if_icmp .eq 12, 3) := by decide +kernel
theorem dX7_readInto_49 : decode cX7_readInto 49 = .ok (.aload_n 0, 1) := by decide +kernel
theorem dX7_readInto_50 : decode cX7_readInto 50 = .ok (.iload 4, 2) := by decide +kernel
theorem dX7_readInto_52 : decode cX7_readInto 52 = .ok (.invokevirtual 59, 3) := by decide +kernel
theorem dX7_readInto_55 : decode cX7_readInto 55 = .ok (.ifCond .ne 5, 3) := by decide +kernel
theorem dX7_readInto_58 : decode cX7_readInto 58 = .ok (.iload_n 2, 1) := by decide +kernel
theorem dX7_readInto_59 : decode cX7_readInto 59 = .ok (.ireturn, 1) := by decide +kernel
theorem dX7_readInto_60 : decode cX7_readInto 60 = .ok (.iload 4, 2) := by decide +kernel
theorem dX7_readInto_62 : decode cX7_readInto 62 = .ok (.iconst 2, 1) := by decide +kernel
theorem dX7_readInto_63 : decode cX7_readInto 63 = .ok (.iadd, 1) := by decide +kernel
theorem dX7_readInto_64 : decode cX7_readInto 64 = .ok (.istore_n 2, 1) := by decide +kernel
theorem dX7_readInto_65 : decode cX7_readInto 65 = .ok (.iinc 3 1, 3) := by decide +kernel
theorem dX7_readInto_68 : decode cX7_readInto 68 = .ok (.goto (-50), 3) := by decide +kernel
theorem dX7_readInto_71 : decode cX7_readInto 71 = .ok (.iload_n 2, 1) := by decide +kernel
theorem dX7_readInto_72 : decode cX7_readInto 72 = .ok (.ireturn, 1) := by decide +kernel
theorem dX7_isFollowedByStep_0 : decode cX7_isFollowedByStep 0 = .ok (.iload_n 1, 1) := by decide +kernel
theorem dX7_isFollowedByStep_1 : decode cX7_isFollowedByStep 1 = .ok (.iconst 2, 1) := by decide +kernel
theorem dX7_isFollowedByStep_2 : decode cX7_isFollowedByStep 2 = .ok (.iadd, 1) := by decide +kernel
theorem dX7_isFollowedByStep_3 : decode cX7_isFollowedByStep 3 = .ok (.aload_n 0, 1) := by decide +kernel
theorem dX7_isFollowedByStep_4 : decode cX7_isFollowedByStep 4 = .ok (.getfield 15, 3) := by decide +kernel
theorem dX7_isFollowedByStep_7 : decode cX7_isFollowedByStep 7 = .ok (.if_icmp .ge 31, 3) := by decide +kernel
theorem dX7_isFollowedByStep_10 : decode cX7_isFollowedByStep 10 = .ok (.aload_n 0, 1) := by decide +kernel
theorem dX7_isFollowedByStep_11 : decode cX7_isFollowedByStep 11 = .ok (.getfield 9, 3) := by decide +kernel
theorem dX7_isFollowedByStep_14 : decode cX7_isFollowedByStep 14 = .ok (.iload_n 1, 1) := by decide +kernel
theorem dX7_isFollowedByStep_15 : decode cX7_isFollowedByStep 15 = .ok (.caload, 1) := by decide +kernel
theorem dX7_isFollowedByStep_16 : decode cX7_isFollowedByStep 16 = .ok (.bipush 44, 2) := by decide +kernel
theorem dX7_isFollowedByStep_18 : decode cX7_isFollowedByStep 18 = .ok (.if_icmp .ne 20, 3) := by decide +kernel
theorem dX7_isFollowedByStep_21 : decode cX7_isFollowedByStep 21 = .ok (.aload_n 0, 1) := by decide +kernel
theorem dX7_isFollowedByStep_22 : decode cX7_isFollowedByStep 22 = .ok (.getfield 9, 3) := by decide +kernel
theorem dX7_isFollowedByStep_25 : decode cX7_isFollowedByStep 25 = .ok (.iload_n 1, 1) := by decide +kernel
theorem dX7_isFollowedByStep_26 : decode cX7_isFollowedByStep 26 = .ok (.iconst 1, 1) := by decide +kernel
theorem dX7_isFollowedByStep_27 : decode cX7_isFollowedByStep 27 = .ok (.iadd, 1) := by decide +kernel
theorem dX7_isFollowedByStep_28 : decode cX7_isFollowedByStep 28 = .ok (.caload, 1) := by decide +kernel
theorem dX7_isFollowedByStep_29 : decode cX7_isFollowedByStep 29 = .ok (.bipush 32, 2) := by decide +kernel
theorem dX7_isFollowedByStep_31 : decode cX7_isFollowedByStep 31 = .ok (.if_icmp .ne 7, 3) := by decide +kernel
theorem dX7_isFollowedByStep_34 : decode cX7_isFollowedByStep 34 = .ok (.iconst 1, 1) := by decide +kernel
theorem dX7_isFollowedByStep_35 : decode cX7_isFollowedByStep 35 = .ok (.goto 4, 3) := by decide +kernel
theorem dX7_isFollowedByStep_38 : decode cX7_isFollowedByStep 38 = .ok (.iconst 0, 1) := by decide +kernel
theorem dX7_isFollowedByStep_39 : decode cX7_isFollowedByStep 39 = .ok (.ireturn, 1) := by decide +kernel
theorem dX7_readStep_0 : decode cX7_readStep 0 = .ok (.iconst 0, 1) := by decide +kernel
theorem dX7_readStep_1 : decode cX7_readStep 1 = .ok (.istore_n 3, 1) := by decide +kernel
theorem dX7_readStep_2 : decode cX7_readStep 2 = .ok (.iload_n 3, 1) := by decide +kernel
theorem dX7_readStep_3 : decode cX7_readStep 3 = .ok (.iconst 5, 1) := by decide +kernel
theorem dX7_readStep_4 : decode cX7_readStep 4 = .ok (.if_icmp .ge 32, 3) := by decide +kernel
theorem dX7_readStep_7 : decode cX7_readStep 7 = .ok (.aload_n 0, 1) := by decide +kernel
theorem dX7_readStep_8 : decode cX7_readStep 8 = .ok (.iload_n 3, 1) := by decide +kernel
theorem dX7_readStep_9 : decode cX7_readStep 9 = .ok (.iload_n 1, 1) := by decide +kernel
theorem dX7_readStep_10 : decode cX7_readStep 10 = .ok (.invokevirtual 63, 3) := by decide +kernel
theorem dX7_readStep_13 : decode cX7_readStep 13 = .ok (.istore 4, 2) := by decide +kernel
theorem dX7_readStep_15 : decode cX7_readStep 15 = .ok (.iload 4, 2) := by decide +kernel
theorem dX7_readStep_17 : decode cX7_readStep 17 = .ok (.iconst (-1), 1) := by decide +kernel
theorem dX7_readStep_18 : decode cX7_readStep 18 = .ok (.if_icmp .eq 12, 3) := by decide +kernel
theorem dX7_readStep_21 : decode cX7_readStep 21 = .ok (.aload_n 0, 1) := by decide +kernel
theorem dX7_readStep_22 : decode cX7_readStep 22 = .ok (.iload_n 3, 1) := by decide +kernel
theorem dX7_readStep_23 : decode cX7_readStep 23 = .ok (.iload 4, 2) := by decide +kernel
theorem dX7_readStep_25 : decode cX7_readStep 25 = .ok (.aload_n 2, 1) := by decide +kernel
theorem dX7_readStep_26 : decode cX7_readStep 26 = .ok (.invokevirtual 67, 3) := by decide +kernel
theorem dX7_readStep_29 : decode cX7_readStep 29 = .ok (.ireturn, 1) := by decide +kernel
theorem dX7_readStep_30 : decode cX7_readStep 30 = .ok (.iinc 3 1, 3) := by decide +kernel
theorem dX7_readStep_33 : decode cX7_readStep 33 = .ok (.goto (-31), 3) := by decide +kernel
theorem dX7_readStep_36 : decode cX7_readStep 36 = .ok (.iconst (-1), 1) := by decide +kernel
theorem dX7_readStep_37 : decode cX7_readStep 37 = .ok (.ireturn, 1) := by decide +kernel
theorem dX7_behindName_0 : decode cX7_behindName 0 = .ok (.iload_n 1, 1) := by decide +kernel
theorem dX7_behindName_1 : decode cX7_behindName 1 = .ok (.invokestatic 19, 3) := by decide +kernel
theorem dX7_behindName_4 : decode cX7_behindName 4 = .ok (.astore_n 3, 1) := by decide +kernel
theorem dX7_behindName_5 : decode cX7_behindName 5 = .ok (.iload_n 2, 1) := by decide +kernel
theorem dX7_behindName_6 : decode cX7_behindName 6 = .ok (.aload_n 3, 1) := by decide +kernel
theorem dX7_behindName_7 : decode cX7_behindName 7 = .ok (.invokevirtual 23, 3) := by decide +kernel
theorem dX7_behindName_10 : decode cX7_behindName 10 = .ok (.iadd, 1) := by decide +kernel
theorem dX7_behindName_11 : decode cX7_behindName 11 = .ok (.istore 4, 2) := by decide +kernel
theorem dX7_behindName_13 : decode cX7_behindName 13 = .ok (.iload 4, 2) := by decide +kernel
theorem dX7_behindName_15 : decode cX7_behindName 15 = .ok (.aload_n 0, 1) := by decide +kernel
theorem dX7_behindName_16 : decode cX7_behindName 16 = .ok (.getfield 15, 3) := by decide +kernel
theorem dX7_behindName_19 : decode cX7_behindName 19 = .ok (.if_icmp .ge 15, 3) := by decide +kernel
theorem dX7_behindName_22 : decode cX7_behindName 22 = .ok (.aload_n 0, 1) := by decide +kernel
theorem dX7_behindName_23 : decode cX7_behindName 23 = .ok (.getfield 9, 3) := by decide +kernel
theorem dX7_behindName_26 : decode cX7_behindName 26 = .ok (.iload 4, 2) := by decide +kernel
theorem dX7_behindName_28 : decode cX7_behindName 28 = .ok (.caload, 1) := by decide +kernel
theorem dX7_behindName_29 : decode cX7_behindName 29 = .ok (.bipush 32, 2) := by decide +kernel
theorem dX7_behindName_31 : decode cX7_behindName 31 = .ok (.if_icmp .eq 5, 3) := by decide +kernel
theorem dX7_behindName_34 : decode cX7_behindName 34 = .ok (.iconst (-1), 1) := by decide +kernel
theorem dX7_behindName_35 : decode cX7_behindName 35 = .ok (.ireturn, 1) := by decide +kernel
theorem dX7_behindName_36 : decode cX7_behindName 36 = .ok (.iconst 0, 1) := by decide +kernel
theorem dX7_behindName_37 : decode cX7_behindName 37 = .ok (.istore 5, 2) := by decide +kernel
theorem dX7_behindName_39 : decode cX7_behindName 39 = .ok (.iload 5, 2) := by decide +kernel
