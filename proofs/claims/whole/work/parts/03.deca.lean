theorem dX0_init_0 : decode cX0_init 0 = .ok (.aload_n 0, 1) := by decide +kernel
theorem dX0_init_1 : decode cX0_init 1 = .ok (.invokespecial 3, 3) := by decide +kernel
theorem dX0_init_4 : decode cX0_init 4 = .ok (.aload_n 0, 1) := by decide +kernel
theorem dX0_init_5 : decode cX0_init 5 = .ok (.new 9, 3) := by decide +kernel
theorem dX0_init_8 : decode cX0_init 8 = .ok (.dup, 1) := by decide +kernel
theorem dX0_init_9 : decode cX0_init 9 = .ok (.invokespecial 11, 3) := by decide +kernel
theorem dX0_init_12 : decode cX0_init 12 = .ok (.putfield 12, 3) := by decide +kernel
theorem dX0_init_15 : decode cX0_init 15 = .ok (.return_, 1) := by decide +kernel
theorem dX0_begin_0 : decode cX0_begin 0 = .ok (.aload_n 0, 1) := by decide +kernel
theorem dX0_begin_1 : decode cX0_begin 1 = .ok (.aload_n 1, 1) := by decide +kernel
theorem dX0_begin_2 : decode cX0_begin 2 = .ok (.putfield 12, 3) := by decide +kernel
theorem dX0_begin_5 : decode cX0_begin 5 = .ok (.aload_n 0, 1) := by decide +kernel
theorem dX0_begin_6 : decode cX0_begin 6 = .ok (.iload_n 2, 1) := by decide +kernel
theorem dX0_begin_7 : decode cX0_begin 7 = .ok (.putfield 18, 3) := by decide +kernel
theorem dX0_begin_10 : decode cX0_begin 10 = .ok (.aload_n 0, 1) := by decide +kernel
theorem dX0_begin_11 : decode cX0_begin 11 = .ok (.iconst 0, 1) := by decide +kernel
theorem dX0_begin_12 : decode cX0_begin 12 = .ok (.putfield 22, 3) := by decide +kernel
theorem dX0_begin_15 : decode cX0_begin 15 = .ok (.aload_n 0, 1) := by decide +kernel
theorem dX0_begin_16 : decode cX0_begin 16 = .ok (.iconst 0, 1) := by decide +kernel
theorem dX0_begin_17 : decode cX0_begin 17 = .ok (.putfield 25, 3) := by decide +kernel
theorem dX0_begin_20 : decode cX0_begin 20 = .ok (.aload_n 0, 1) := by decide +kernel
theorem dX0_begin_21 : decode cX0_begin 21 = .ok (.iconst 0, 1) := by decide +kernel
theorem dX0_begin_22 : decode cX0_begin 22 = .ok (.putfield 28, 3) := by decide +kernel
theorem dX0_begin_25 : decode cX0_begin 25 = .ok (.aload_n 0, 1) := by decide +kernel
theorem dX0_begin_26 : decode cX0_begin 26 = .ok (.bipush 40, 2) := by decide +kernel
theorem dX0_begin_28 : decode cX0_begin 28 = .ok (.putfield 31, 3) := by decide +kernel
theorem dX0_begin_31 : decode cX0_begin 31 = .ok (.aload_n 0, 1) := by decide +kernel
theorem dX0_begin_32 : decode cX0_begin 32 = .ok (.bipush 100, 2) := by decide +kernel
theorem dX0_begin_34 : decode cX0_begin 34 = .ok (.putfield 34, 3) := by decide +kernel
theorem dX0_begin_37 : decode cX0_begin 37 = .ok (.return_, 1) := by decide +kernel
theorem dX0_advance_0 : decode cX0_advance 0 = .ok (.aload_n 0, 1) := by decide +kernel
theorem dX0_advance_1 : decode cX0_advance 1 = .ok (.getfield 22, 3) := by decide +kernel
theorem dX0_advance_4 : decode cX0_advance 4 = .ok (.aload_n 0, 1) := by decide +kernel
theorem dX0_advance_5 : decode cX0_advance 5 = .ok (.getfield 12, 3) := by decide +kernel
theorem dX0_advance_8 : decode cX0_advance 8 = .ok (.getfield 37, 3) := by decide +kernel
theorem dX0_advance_11 : decode cX0_advance 11 = .ok (.if_icmp .ge 54, 3) := by decide +kernel
theorem dX0_advance_14 : decode cX0_advance 14 = .ok (.aload_n 0, 1) := by decide +kernel
theorem dX0_advance_15 : decode cX0_advance 15 = .ok (.aload_n 0, 1) := by decide +kernel
theorem dX0_advance_16 : decode cX0_advance 16 = .ok (.getfield 12, 3) := by decide +kernel
theorem dX0_advance_19 : decode cX0_advance 19 = .ok (.getfield 40, 3) := by decide +kernel
theorem dX0_advance_22 : decode cX0_advance 22 = .ok (.aload_n 0, 1) := by decide +kernel
theorem dX0_advance_23 : decode cX0_advance 23 = .ok (.getfield 22, 3) := by decide +kernel
theorem dX0_advance_26 : decode cX0_advance 26 = .ok (.iaload, 1) := by decide +kernel
theorem dX0_advance_27 : decode cX0_advance 27 = .ok (.aload_n 0, 1) := by decide +kernel
theorem dX0_advance_28 : decode cX0_advance 28 = .ok (.getfield 12, 3) := by decide +kernel
theorem dX0_advance_31 : decode cX0_advance 31 = .ok (.getfield 44, 3) := by decide +kernel
theorem dX0_advance_34 : decode cX0_advance 34 = .ok (.aload_n 0, 1) := by decide +kernel
theorem dX0_advance_35 : decode cX0_advance 35 = .ok (.getfield 22, 3) := by decide +kernel
theorem dX0_advance_38 : decode cX0_advance 38 = .ok (.iaload, 1) := by decide +kernel
theorem dX0_advance_39 : decode cX0_advance 39 = .ok (.invokevirtual 47, 3) := by decide +kernel
theorem dX0_advance_42 : decode cX0_advance 42 = .ok (.ifCond .eq 5, 3) := by decide +kernel
theorem dX0_advance_45 : decode cX0_advance 45 = .ok (.iconst 1, 1) := by decide +kernel
theorem dX0_advance_46 : decode cX0_advance 46 = .ok (.ireturn, 1) := by decide +kernel
theorem dX0_advance_47 : decode cX0_advance 47 = .ok (.aload_n 0, 1) := by decide +kernel
theorem dX0_advance_48 : decode cX0_advance 48 = .ok (.dup, 1) := by decide +kernel
theorem dX0_advance_49 : decode cX0_advance 49 = .ok (.getfield 22, 3) := by decide +kernel
theorem dX0_advance_52 : decode cX0_advance 52 = .ok (.iconst 1, 1) := by decide +kernel
theorem dX0_advance_53 : decode cX0_advance 53 = .ok (.iadd, 1) := by decide +kernel
theorem dX0_advance_54 : decode cX0_advance 54 = .ok (.putfield 22, 3) := by decide +kernel
theorem dX0_advance_57 : decode cX0_advance 57 = .ok (.aload_n 0, 1) := by decide +kernel
theorem dX0_advance_58 : decode cX0_advance 58 = .ok (.iconst 0, 1) := by decide +kernel
theorem dX0_advance_59 : decode cX0_advance 59 = .ok (.putfield 25, 3) := by decide +kernel
theorem dX0_advance_62 : decode cX0_advance 62 = .ok (.goto (-62), 3) := by decide +kernel
theorem dX0_advance_65 : decode cX0_advance 65 = .ok (.iconst 0, 1) := by decide +kernel
theorem dX0_advance_66 : decode cX0_advance 66 = .ok (.ireturn, 1) := by decide +kernel
theorem dX0_takesTurn_0 : decode cX0_takesTurn 0 = .ok (.iload_n 1, 1) := by decide +kernel
theorem dX0_takesTurn_1 : decode cX0_takesTurn 1 = .ok (.tableswitch 119 0 3 #[31, 55, 87, 112], 31) := by decide +kernel
theorem dX0_takesTurn_32 : decode cX0_takesTurn 32 = .ok (.aload_n 0, 1) := by decide +kernel
theorem dX0_takesTurn_33 : decode cX0_takesTurn 33 = .ok (.dup, 1) := by decide +kernel
theorem dX0_takesTurn_34 : decode cX0_takesTurn 34 = .ok (.getfield 25, 3) := by decide +kernel
theorem dX0_takesTurn_37 : decode cX0_takesTurn 37 = .ok (.iconst 1, 1) := by decide +kernel
theorem dX0_takesTurn_38 : decode cX0_takesTurn 38 = .ok (.iadd, 1) := by decide +kernel
theorem dX0_takesTurn_39 : decode cX0_takesTurn 39 = .ok (.putfield 25, 3) := by decide +kernel
theorem dX0_takesTurn_42 : decode cX0_takesTurn 42 = .ok (.aload_n 0, 1) := by decide +kernel
theorem dX0_takesTurn_43 : decode cX0_takesTurn 43 = .ok (.getfield 25, 3) := by decide +kernel
theorem dX0_takesTurn_46 : decode cX0_takesTurn 46 = .ok (.iload_n 2, 1) := by decide +kernel
theorem dX0_takesTurn_47 : decode cX0_takesTurn 47 = .ok (.if_icmp .gt 7, 3) := by decide +kernel
theorem dX0_takesTurn_50 : decode cX0_takesTurn 50 = .ok (.iconst 1, 1) := by decide +kernel
theorem dX0_takesTurn_51 : decode cX0_takesTurn 51 = .ok (.goto 4, 3) := by decide +kernel
theorem dX0_takesTurn_54 : decode cX0_takesTurn 54 = .ok (.iconst 0, 1) := by decide +kernel
theorem dX0_takesTurn_55 : decode cX0_takesTurn 55 = .ok (.ireturn, 1) := by decide +kernel
theorem dX0_takesTurn_56 : decode cX0_takesTurn 56 = .ok (.aload_n 0, 1) := by decide +kernel
theorem dX0_takesTurn_57 : decode cX0_takesTurn 57 = .ok (.getfield 28, 3) := by decide +kernel
theorem dX0_takesTurn_60 : decode cX0_takesTurn 60 = .ok (.aload_n 0, 1) := by decide +kernel
theorem dX0_takesTurn_61 : decode cX0_takesTurn 61 = .ok (.getfield 18, 3) := by decide +kernel
theorem dX0_takesTurn_64 : decode cX0_takesTurn 64 = .ok (.if_icmp .lt 5, 3) := by decide +kernel
theorem dX0_takesTurn_67 : decode cX0_takesTurn 67 = .ok (.iconst 0, 1) := by decide +kernel
theorem dX0_takesTurn_68 : decode cX0_takesTurn 68 = .ok (.ireturn, 1) := by decide +kernel
theorem dX0_takesTurn_69 : decode cX0_takesTurn 69 = .ok (.aload_n 0, 1) := by decide +kernel
theorem dX0_takesTurn_70 : decode cX0_takesTurn 70 = .ok (.aload_n 0, 1) := by decide +kernel
theorem dX0_takesTurn_71 : decode cX0_takesTurn 71 = .ok (.getfield 28, 3) := by decide +kernel
theorem dX0_takesTurn_74 : decode cX0_takesTurn 74 = .ok (.iload_n 2, 1) := by decide +kernel
theorem dX0_takesTurn_75 : decode cX0_takesTurn 75 = .ok (.iadd, 1) := by decide +kernel
theorem dX0_takesTurn_76 : decode cX0_takesTurn 76 = .ok (.aload_n 0, 1) := by decide +kernel
theorem dX0_takesTurn_77 : decode cX0_takesTurn 77 = .ok (.getfield 18, 3) := by decide +kernel
theorem dX0_takesTurn_80 : decode cX0_takesTurn 80 = .ok (.invokestatic 51, 3) := by decide +kernel
theorem dX0_takesTurn_83 : decode cX0_takesTurn 83 = .ok (.putfield 28, 3) := by decide +kernel
theorem dX0_takesTurn_86 : decode cX0_takesTurn 86 = .ok (.iconst 1, 1) := by decide +kernel
theorem dX0_takesTurn_87 : decode cX0_takesTurn 87 = .ok (.ireturn, 1) := by decide +kernel
theorem dX0_takesTurn_88 : decode cX0_takesTurn 88 = .ok (.aload_n 0, 1) := by decide +kernel
theorem dX0_takesTurn_89 : decode cX0_takesTurn 89 = .ok (.getfield 28, 3) := by decide +kernel
theorem dX0_takesTurn_92 : decode cX0_takesTurn 92 = .ok (.ifCond .gt 5, 3) := by decide +kernel
theorem dX0_takesTurn_95 : decode cX0_takesTurn 95 = .ok (.iconst 0, 1) := by decide +kernel
theorem dX0_takesTurn_96 : decode cX0_takesTurn 96 = .ok (.ireturn, 1) := by decide +kernel
theorem dX0_takesTurn_97 : decode cX0_takesTurn 97 = .ok (.aload_n 0, 1) := by decide +kernel
theorem dX0_takesTurn_98 : decode cX0_takesTurn 98 = .ok (.aload_n 0, 1) := by decide +kernel
theorem dX0_takesTurn_99 : decode cX0_takesTurn 99 = .ok (.getfield 28, 3) := by decide +kernel
theorem dX0_takesTurn_102 : decode cX0_takesTurn 102 = .ok (.iload_n 2, 1) := by decide +kernel
theorem dX0_takesTurn_103 : decode cX0_takesTurn 103 = .ok (.isub, 1) := by decide +kernel
theorem dX0_takesTurn_104 : decode cX0_takesTurn 104 = .ok (.iconst 0, 1) := by decide +kernel
theorem dX0_takesTurn_105 : decode cX0_takesTurn 105 = .ok (.invokestatic 57, 3) := by decide +kernel
theorem dX0_takesTurn_108 : decode cX0_takesTurn 108 = .ok (.putfield 28, 3) := by decide +kernel
theorem dX0_takesTurn_111 : decode cX0_takesTurn 111 = .ok (.iconst 1, 1) := by decide +kernel
theorem dX0_takesTurn_112 : decode cX0_takesTurn 112 = .ok (.ireturn, 1) := by decide +kernel
theorem dX0_takesTurn_113 : decode cX0_takesTurn 113 = .ok (.aload_n 0, 1) := by decide +kernel
theorem dX0_takesTurn_114 : decode cX0_takesTurn 114 = .ok (.iload_n 2, 1) := by decide +kernel
theorem dX0_takesTurn_115 : decode cX0_takesTurn 115 = .ok (.putfield 31, 3) := by decide +kernel
theorem dX0_takesTurn_118 : decode cX0_takesTurn 118 = .ok (.iconst 0, 1) := by decide +kernel
theorem dX0_takesTurn_119 : decode cX0_takesTurn 119 = .ok (.ireturn, 1) := by decide +kernel
theorem dX0_takesTurn_120 : decode cX0_takesTurn 120 = .ok (.aload_n 0, 1) := by decide +kernel
theorem dX0_takesTurn_121 : decode cX0_takesTurn 121 = .ok (.iload_n 2, 1) := by decide +kernel
theorem dX0_takesTurn_122 : decode cX0_takesTurn 122 = .ok (.putfield 34, 3) := by decide +kernel
theorem dX0_takesTurn_125 : decode cX0_takesTurn 125 = .ok (.iconst 0, 1) := by decide +kernel
theorem dX0_takesTurn_126 : decode cX0_takesTurn 126 = .ok (.ireturn, 1) := by decide +kernel
theorem dX1_init_0 : decode cX1_init 0 = .ok (.aload_n 0, 1) := by decide +kernel
theorem dX1_init_1 : decode cX1_init 1 = .ok (.invokespecial 3, 3) := by decide +kernel
theorem dX1_init_4 : decode cX1_init 4 = .ok (.return_, 1) := by decide +kernel
theorem dX1_measure_0 : decode cX1_measure 0 = .ok (.aload_n 0, 1) := by decide +kernel
theorem dX1_measure_1 : decode cX1_measure 1 = .ok (.iload_n 1, 1) := by decide +kernel
theorem dX1_measure_2 : decode cX1_measure 2 = .ok (.putfield 9, 3) := by decide +kernel
theorem dX1_measure_5 : decode cX1_measure 5 = .ok (.aload_n 0, 1) := by decide +kernel
theorem dX1_measure_6 : decode cX1_measure 6 = .ok (.iload_n 2, 1) := by decide +kernel
theorem dX1_measure_7 : decode cX1_measure 7 = .ok (.putfield 15, 3) := by decide +kernel
theorem dX1_measure_10 : decode cX1_measure 10 = .ok (.aload_n 0, 1) := by decide +kernel
theorem dX1_measure_11 : decode cX1_measure 11 = .ok (.iload_n 3, 1) := by decide +kernel
theorem dX1_measure_12 : decode cX1_measure 12 = .ok (.putfield 18, 3) := by decide +kernel
theorem dX1_measure_15 : decode cX1_measure 15 = .ok (.aload_n 0, 1) := by decide +kernel
theorem dX1_measure_16 : decode cX1_measure 16 = .ok (.iload 4, 2) := by decide +kernel
theorem dX1_measure_18 : decode cX1_measure 18 = .ok (.putfield 21, 3) := by decide +kernel
theorem dX1_measure_21 : decode cX1_measure 21 = .ok (.return_, 1) := by decide +kernel
theorem dX1_copyFrom_0 : decode cX1_copyFrom 0 = .ok (.aload_n 0, 1) := by decide +kernel
theorem dX1_copyFrom_1 : decode cX1_copyFrom 1 = .ok (.aload_n 1, 1) := by decide +kernel
theorem dX1_copyFrom_2 : decode cX1_copyFrom 2 = .ok (.getfield 24, 3) := by decide +kernel
theorem dX1_copyFrom_5 : decode cX1_copyFrom 5 = .ok (.putfield 24, 3) := by decide +kernel
theorem dX1_copyFrom_8 : decode cX1_copyFrom 8 = .ok (.aload_n 0, 1) := by decide +kernel
theorem dX1_copyFrom_9 : decode cX1_copyFrom 9 = .ok (.aload_n 1, 1) := by decide +kernel
theorem dX1_copyFrom_10 : decode cX1_copyFrom 10 = .ok (.getfield 27, 3) := by decide +kernel
theorem dX1_copyFrom_13 : decode cX1_copyFrom 13 = .ok (.putfield 27, 3) := by decide +kernel
theorem dX1_copyFrom_16 : decode cX1_copyFrom 16 = .ok (.aload_n 0, 1) := by decide +kernel
theorem dX1_copyFrom_17 : decode cX1_copyFrom 17 = .ok (.aload_n 1, 1) := by decide +kernel
theorem dX1_copyFrom_18 : decode cX1_copyFrom 18 = .ok (.getfield 9, 3) := by decide +kernel
theorem dX1_copyFrom_21 : decode cX1_copyFrom 21 = .ok (.aload_n 1, 1) := by decide +kernel
theorem dX1_copyFrom_22 : decode cX1_copyFrom 22 = .ok (.getfield 15, 3) := by decide +kernel
theorem dX1_copyFrom_25 : decode cX1_copyFrom 25 = .ok (.aload_n 1, 1) := by decide +kernel
theorem dX1_copyFrom_26 : decode cX1_copyFrom 26 = .ok (.getfield 18, 3) := by decide +kernel
theorem dX1_copyFrom_29 : decode cX1_copyFrom 29 = .ok (.aload_n 1, 1) := by decide +kernel
theorem dX1_copyFrom_30 : decode cX1_copyFrom 30 = .ok (.getfield 21, 3) := by decide +kernel
theorem dX1_copyFrom_33 : decode cX1_copyFrom 33 = .ok (.invokevirtual 30, 3) := by decide +kernel
theorem dX1_copyFrom_36 : decode cX1_copyFrom 36 = .ok (.return_, 1) := by decide +kernel
theorem dX1_property_0 : decode cX1_property 0 = .ok (.iload_n 1, 1) := by decide +kernel
theorem dX1_property_1 : decode cX1_property 1 = .ok (.tableswitch 60 0 4 #[35, 40, 45, 50, 55], 35) := by decide +kernel
theorem dX1_property_36 : decode cX1_property 36 = .ok (.aload_n 0, 1) := by decide +kernel
theorem dX1_property_37 : decode cX1_property 37 = .ok (.getfield 24, 3) := by decide +kernel
theorem dX1_property_40 : decode cX1_property 40 = .ok (.ireturn, 1) := by decide +kernel
theorem dX1_property_41 : decode cX1_property 41 = .ok (.aload_n 0, 1) := by decide +kernel
theorem dX1_property_42 : decode cX1_property 42 = .ok (.getfield 9, 3) := by decide +kernel
theorem dX1_property_45 : decode cX1_property 45 = .ok (.ireturn, 1) := by decide +kernel
theorem dX1_property_46 : decode cX1_property 46 = .ok (.aload_n 0, 1) := by decide +kernel
theorem dX1_property_47 : decode cX1_property 47 = .ok (.getfield 15, 3) := by decide +kernel
theorem dX1_property_50 : decode cX1_property 50 = .ok (.ireturn, 1) := by decide +kernel
theorem dX1_property_51 : decode cX1_property 51 = .ok (.aload_n 0, 1) := by decide +kernel
theorem dX1_property_52 : decode cX1_property 52 = .ok (.getfield 18, 3) := by decide +kernel
theorem dX1_property_55 : decode cX1_property 55 = .ok (.ireturn, 1) := by decide +kernel
theorem dX1_property_56 : decode cX1_property 56 = .ok (.aload_n 0, 1) := by decide +kernel
theorem dX1_property_57 : decode cX1_property 57 = .ok (.getfield 21, 3) := by decide +kernel
theorem dX1_property_60 : decode cX1_property 60 = .ok (.ireturn, 1) := by decide +kernel
theorem dX1_property_61 : decode cX1_property 61 = .ok (.aload_n 0, 1) := by decide +kernel
theorem dX1_property_62 : decode cX1_property 62 = .ok (.getfield 27, 3) := by decide +kernel
theorem dX1_property_65 : decode cX1_property 65 = .ok (.ireturn, 1) := by decide +kernel
theorem dX1_zones_0 : decode cX1_zones 0 = .ok (.aload_n 0, 1) := by decide +kernel
theorem dX1_zones_1 : decode cX1_zones 1 = .ok (.getfield 18, 3) := by decide +kernel
theorem dX1_zones_4 : decode cX1_zones 4 = .ok (.bipush 10, 2) := by decide +kernel
theorem dX1_zones_6 : decode cX1_zones 6 = .ok (.invokestatic 34, 3) := by decide +kernel
theorem dX1_zones_9 : decode cX1_zones 9 = .ok (.ireturn, 1) := by decide +kernel
theorem dX1_top_0 : decode cX1_top 0 = .ok (.iconst 0, 1) := by decide +kernel
theorem dX1_top_1 : decode cX1_top 1 = .ok (.aload_n 0, 1) := by decide +kernel
theorem dX1_top_2 : decode cX1_top 2 = .ok (.getfield 18, 3) := by decide +kernel
theorem dX1_top_5 : decode cX1_top 5 = .ok (.bipush 50, 2) := by decide +kernel
theorem dX1_top_7 : decode cX1_top 7 = .ok (.isub, 1) := by decide +kernel
theorem dX1_top_8 : decode cX1_top 8 = .ok (.invokestatic 38, 3) := by decide +kernel
theorem dX1_top_11 : decode cX1_top 11 = .ok (.ireturn, 1) := by decide +kernel
theorem dX1_lengthOfTurn_0 : decode cX1_lengthOfTurn 0 = .ok (.iconst 2, 1) := by decide +kernel
theorem dX1_lengthOfTurn_1 : decode cX1_lengthOfTurn 1 = .ok (.aload_n 0, 1) := by decide +kernel
theorem dX1_lengthOfTurn_2 : decode cX1_lengthOfTurn 2 = .ok (.getfield 9, 3) := by decide +kernel
theorem dX1_lengthOfTurn_5 : decode cX1_lengthOfTurn 5 = .ok (.aload_n 0, 1) := by decide +kernel
theorem dX1_lengthOfTurn_6 : decode cX1_lengthOfTurn 6 = .ok (.getfield 15, 3) := by decide +kernel
theorem dX1_lengthOfTurn_9 : decode cX1_lengthOfTurn 9 = .ok (.iadd, 1) := by decide +kernel
theorem dX1_lengthOfTurn_10 : decode cX1_lengthOfTurn 10 = .ok (.imul, 1) := by decide +kernel
theorem dX1_lengthOfTurn_11 : decode cX1_lengthOfTurn 11 = .ok (.bipush 100, 2) := by decide +kernel
theorem dX1_lengthOfTurn_13 : decode cX1_lengthOfTurn 13 = .ok (.imul, 1) := by decide +kernel
theorem dX1_lengthOfTurn_14 : decode cX1_lengthOfTurn 14 = .ok (.bipush 100, 2) := by decide +kernel
theorem dX1_lengthOfTurn_16 : decode cX1_lengthOfTurn 16 = .ok (.iload_n 1, 1) := by decide +kernel
theorem dX1_lengthOfTurn_17 : decode cX1_lengthOfTurn 17 = .ok (.iadd, 1) := by decide +kernel
theorem dX1_lengthOfTurn_18 : decode cX1_lengthOfTurn 18 = .ok (.invokestatic 34, 3) := by decide +kernel
theorem dX1_lengthOfTurn_21 : decode cX1_lengthOfTurn 21 = .ok (.ireturn, 1) := by decide +kernel
theorem dX1_timeOfTurn_0 : decode cX1_timeOfTurn 0 = .ok (.iconst 2, 1) := by decide +kernel
theorem dX1_timeOfTurn_1 : decode cX1_timeOfTurn 1 = .ok (.aload_n 0, 1) := by decide +kernel
theorem dX1_timeOfTurn_2 : decode cX1_timeOfTurn 2 = .ok (.getfield 9, 3) := by decide +kernel
theorem dX1_timeOfTurn_5 : decode cX1_timeOfTurn 5 = .ok (.aload_n 0, 1) := by decide +kernel
theorem dX1_timeOfTurn_6 : decode cX1_timeOfTurn 6 = .ok (.getfield 15, 3) := by decide +kernel
theorem dX1_timeOfTurn_9 : decode cX1_timeOfTurn 9 = .ok (.iadd, 1) := by decide +kernel
theorem dX1_timeOfTurn_10 : decode cX1_timeOfTurn 10 = .ok (.imul, 1) := by decide +kernel
theorem dX1_timeOfTurn_11 : decode cX1_timeOfTurn 11 = .ok (.bipush 40, 2) := by decide +kernel
theorem dX1_timeOfTurn_13 : decode cX1_timeOfTurn 13 = .ok (.invokestatic 34, 3) := by decide +kernel
theorem dX1_timeOfTurn_16 : decode cX1_timeOfTurn 16 = .ok (.ireturn, 1) := by decide +kernel
theorem dX2_init_0 : decode cX2_init 0 = .ok (.aload_n 0, 1) := by decide +kernel
theorem dX2_init_1 : decode cX2_init 1 = .ok (.invokespecial 3, 3) := by decide +kernel
theorem dX2_init_4 : decode cX2_init 4 = .ok (.aload_n 0, 1) := by decide +kernel
theorem dX2_init_5 : decode cX2_init 5 = .ok (.bipush 12, 2) := by decide +kernel
theorem dX2_init_7 : decode cX2_init 7 = .ok (.newarray .int, 2) := by decide +kernel
theorem dX2_init_9 : decode cX2_init 9 = .ok (.putfield 9, 3) := by decide +kernel
theorem dX2_init_12 : decode cX2_init 12 = .ok (.aload_n 0, 1) := by decide +kernel
theorem dX2_init_13 : decode cX2_init 13 = .ok (.bipush 12, 2) := by decide +kernel
theorem dX2_init_15 : decode cX2_init 15 = .ok (.newarray .int, 2) := by decide +kernel
theorem dX2_init_17 : decode cX2_init 17 = .ok (.putfield 15, 3) := by decide +kernel
theorem dX2_init_20 : decode cX2_init 20 = .ok (.return_, 1) := by decide +kernel
theorem dX2_append_0 : decode cX2_append 0 = .ok (.aload_n 0, 1) := by decide +kernel
theorem dX2_append_1 : decode cX2_append 1 = .ok (.getfield 18, 3) := by decide +kernel
theorem dX2_append_4 : decode cX2_append 4 = .ok (.bipush 12, 2) := by decide +kernel
theorem dX2_append_6 : decode cX2_append 6 = .ok (.if_icmp .ge 33, 3) := by decide +kernel
theorem dX2_append_9 : decode cX2_append 9 = .ok (.aload_n 0, 1) := by decide +kernel
theorem dX2_append_10 : decode cX2_append 10 = .ok (.getfield 9, 3) := by decide +kernel
theorem dX2_append_13 : decode cX2_append 13 = .ok (.aload_n 0, 1) := by decide +kernel
theorem dX2_append_14 : decode cX2_append 14 = .ok (.getfield 18, 3) := by decide +kernel
theorem dX2_append_17 : decode cX2_append 17 = .ok (.iload_n 1, 1) := by decide +kernel
theorem dX2_append_18 : decode cX2_append 18 = .ok (.iastore, 1) := by decide +kernel
theorem dX2_append_19 : decode cX2_append 19 = .ok (.aload_n 0, 1) := by decide +kernel
theorem dX2_append_20 : decode cX2_append 20 = .ok (.getfield 15, 3) := by decide +kernel
theorem dX2_append_23 : decode cX2_append 23 = .ok (.aload_n 0, 1) := by decide +kernel
theorem dX2_append_24 : decode cX2_append 24 = .ok (.getfield 18, 3) := by decide +kernel
theorem dX2_append_27 : decode cX2_append 27 = .ok (.iload_n 2, 1) := by decide +kernel
theorem dX2_append_28 : decode cX2_append 28 = .ok (.iastore, 1) := by decide +kernel
theorem dX2_append_29 : decode cX2_append 29 = .ok (.aload_n 0, 1) := by decide +kernel
theorem dX2_append_30 : decode cX2_append 30 = .ok (.dup, 1) := by decide +kernel
theorem dX2_append_31 : decode cX2_append 31 = .ok (.getfield 18, 3) := by decide +kernel
theorem dX2_append_34 : decode cX2_append 34 = .ok (.iconst 1, 1) := by decide +kernel
theorem dX2_append_35 : decode cX2_append 35 = .ok (.iadd, 1) := by decide +kernel
theorem dX2_append_36 : decode cX2_append 36 = .ok (.putfield 18, 3) := by decide +kernel
theorem dX2_append_39 : decode cX2_append 39 = .ok (.return_, 1) := by decide +kernel
theorem dX2_copyFrom_0 : decode cX2_copyFrom 0 = .ok (.aload_n 0, 1) := by decide +kernel
theorem dX2_copyFrom_1 : decode cX2_copyFrom 1 = .ok (.aload_n 1, 1) := by decide +kernel
theorem dX2_copyFrom_2 : decode cX2_copyFrom 2 = .ok (.getfield 18, 3) := by decide +kernel
theorem dX2_copyFrom_5 : decode cX2_copyFrom 5 = .ok (.putfield 18, 3) := by decide +kernel
theorem dX2_copyFrom_8 : decode cX2_copyFrom 8 = .ok (.iconst 0, 1) := by decide +kernel
theorem dX2_copyFrom_9 : decode cX2_copyFrom 9 = .ok (.istore_n 2, 1) := by decide +kernel
theorem dX2_copyFrom_10 : decode cX2_copyFrom 10 = .ok (.iload_n 2, 1) := by decide +kernel
theorem dX2_copyFrom_11 : decode cX2_copyFrom 11 = .ok (.aload_n 0, 1) := by decide +kernel
theorem dX2_copyFrom_12 : decode cX2_copyFrom 12 = .ok (.getfield 18, 3) := by decide +kernel
theorem dX2_copyFrom_15 : decode cX2_copyFrom 15 = .ok (.if_icmp .ge 33, 3) := by decide +kernel
theorem dX2_copyFrom_18 : decode cX2_copyFrom 18 = .ok (.aload_n 0, 1) := by decide +kernel
theorem dX2_copyFrom_19 : decode cX2_copyFrom 19 = .ok (.getfield 9, 3) := by decide +kernel
theorem dX2_copyFrom_22 : decode cX2_copyFrom 22 = .ok (.iload_n 2, 1) := by decide +kernel
theorem dX2_copyFrom_23 : decode cX2_copyFrom 23 = .ok (.aload_n 1, 1) := by decide +kernel
theorem dX2_copyFrom_24 : decode cX2_copyFrom 24 = .ok (.getfield 9, 3) := by decide +kernel
theorem dX2_copyFrom_27 : decode cX2_copyFrom 27 = .ok (.iload_n 2, 1) := by decide +kernel
theorem dX2_copyFrom_28 : decode cX2_copyFrom 28 = .ok (.iaload, 1) := by decide +kernel
theorem dX2_copyFrom_29 : decode cX2_copyFrom 29 = .ok (.iastore, 1) := by decide +kernel
theorem dX2_copyFrom_30 : decode cX2_copyFrom 30 = .ok (.aload_n 0, 1) := by decide +kernel
theorem dX2_copyFrom_31 : decode cX2_copyFrom 31 = .ok (.getfield 15, 3) := by decide +kernel
theorem dX2_copyFrom_34 : decode cX2_copyFrom 34 = .ok (.iload_n 2, 1) := by decide +kernel
theorem dX2_copyFrom_35 : decode cX2_copyFrom 35 = .ok (.aload_n 1, 1) := by decide +kernel
theorem dX2_copyFrom_36 : decode cX2_copyFrom 36 = .ok (.getfield 15, 3) := by decide +kernel
theorem dX2_copyFrom_39 : decode cX2_copyFrom 39 = .ok (.iload_n 2, 1) := by decide +kernel
theorem dX2_copyFrom_40 : decode cX2_copyFrom 40 = .ok (.iaload, 1) := by decide +kernel
theorem dX2_copyFrom_41 : decode cX2_copyFrom 41 = .ok (.iastore, 1) := by decide +kernel
theorem dX2_copyFrom_42 : decode cX2_copyFrom 42 = .ok (.iinc 2 1, 3) := by decide +kernel
theorem dX2_copyFrom_45 : decode cX2_copyFrom 45 = .ok (.goto (-35), 3) := by decide +kernel
theorem dX2_copyFrom_48 : decode cX2_copyFrom 48 = .ok (.return_, 1) := by decide +kernel
theorem dX3_init_0 : decode cX3_init 0 = .ok (.aload_n 0, 1) := by decide +kernel
theorem dX3_init_1 : decode cX3_init 1 = .ok (.invokespecial 3, 3) := by decide +kernel
theorem dX3_init_4 : decode cX3_init 4 = .ok (.aload_n 0, 1) := by decide +kernel
theorem dX3_init_5 : decode cX3_init 5 = .ok (.bipush 25, 2) := by decide +kernel
theorem dX3_init_7 : decode cX3_init 7 = .ok (.newarray .int, 2) := by decide +kernel
theorem dX3_init_9 : decode cX3_init 9 = .ok (.putfield 9, 3) := by decide +kernel
theorem dX3_init_12 : decode cX3_init 12 = .ok (.aload_n 0, 1) := by decide +kernel
theorem dX3_init_13 : decode cX3_init 13 = .ok (.bipush 25, 2) := by decide +kernel
theorem dX3_init_15 : decode cX3_init 15 = .ok (.newarray .int, 2) := by decide +kernel
theorem dX3_init_17 : decode cX3_init 17 = .ok (.putfield 15, 3) := by decide +kernel
theorem dX3_init_20 : decode cX3_init 20 = .ok (.return_, 1) := by decide +kernel
theorem dX3_begin_0 : decode cX3_begin 0 = .ok (.aload_n 0, 1) := by decide +kernel
theorem dX3_begin_1 : decode cX3_begin 1 = .ok (.aload_n 1, 1) := by decide +kernel
theorem dX3_begin_2 : decode cX3_begin 2 = .ok (.getfield 18, 3) := by decide +kernel
theorem dX3_begin_5 : decode cX3_begin 5 = .ok (.putfield 24, 3) := by decide +kernel
theorem dX3_begin_8 : decode cX3_begin 8 = .ok (.aload_n 0, 1) := by decide +kernel
theorem dX3_begin_9 : decode cX3_begin 9 = .ok (.aload_n 1, 1) := by decide +kernel
theorem dX3_begin_10 : decode cX3_begin 10 = .ok (.invokevirtual 25, 3) := by decide +kernel
theorem dX3_begin_13 : decode cX3_begin 13 = .ok (.putfield 29, 3) := by decide +kernel
theorem dX3_begin_16 : decode cX3_begin 16 = .ok (.aload_n 0, 1) := by decide +kernel
theorem dX3_begin_17 : decode cX3_begin 17 = .ok (.iconst 0, 1) := by decide +kernel
theorem dX3_begin_18 : decode cX3_begin 18 = .ok (.putfield 31, 3) := by decide +kernel
theorem dX3_begin_21 : decode cX3_begin 21 = .ok (.aload_n 0, 1) := by decide +kernel
theorem dX3_begin_22 : decode cX3_begin 22 = .ok (.iconst 0, 1) := by decide +kernel
theorem dX3_begin_23 : decode cX3_begin 23 = .ok (.putfield 34, 3) := by decide +kernel
theorem dX3_begin_26 : decode cX3_begin 26 = .ok (.aload_n 0, 1) := by decide +kernel
theorem dX3_begin_27 : decode cX3_begin 27 = .ok (.iconst 0, 1) := by decide +kernel
theorem dX3_begin_28 : decode cX3_begin 28 = .ok (.putfield 37, 3) := by decide +kernel
theorem dX3_begin_31 : decode cX3_begin 31 = .ok (.aload_n 0, 1) := by decide +kernel
theorem dX3_begin_32 : decode cX3_begin 32 = .ok (.iconst 0, 1) := by decide +kernel
theorem dX3_begin_33 : decode cX3_begin 33 = .ok (.putfield 40, 3) := by decide +kernel
theorem dX3_begin_36 : decode cX3_begin 36 = .ok (.aload_n 0, 1) := by decide +kernel
theorem dX3_begin_37 : decode cX3_begin 37 = .ok (.iconst 0, 1) := by decide +kernel
theorem dX3_begin_38 : decode cX3_begin 38 = .ok (.putfield 43, 3) := by decide +kernel
theorem dX3_begin_41 : decode cX3_begin 41 = .ok (.aload_n 0, 1) := by decide +kernel
theorem dX3_begin_42 : decode cX3_begin 42 = .ok (.iconst 0, 1) := by decide +kernel
theorem dX3_begin_43 : decode cX3_begin 43 = .ok (.putfield 46, 3) := by decide +kernel
theorem dX3_begin_46 : decode cX3_begin 46 = .ok (.aload_n 0, 1) := by decide +kernel
theorem dX3_begin_47 : decode cX3_begin 47 = .ok (.iconst 0, 1) := by decide +kernel
theorem dX3_begin_48 : decode cX3_begin 48 = .ok (.putfield 49, 3) := by decide +kernel
theorem dX3_begin_51 : decode cX3_begin 51 = .ok (.aload_n 0, 1) := by decide +kernel
theorem dX3_begin_52 : decode cX3_begin 52 = .ok (.iconst 0, 1) := by decide +kernel
theorem dX3_begin_53 : decode cX3_begin 53 = .ok (.putfield 52, 3) := by decide +kernel
theorem dX3_begin_56 : decode cX3_begin 56 = .ok (.aload_n 0, 1) := by decide +kernel
theorem dX3_begin_57 : decode cX3_begin 57 = .ok (.iconst 0, 1) := by decide +kernel
theorem dX3_begin_58 : decode cX3_begin 58 = .ok (.putfield 55, 3) := by decide +kernel
theorem dX3_begin_61 : decode cX3_begin 61 = .ok (.aload_n 0, 1) := by decide +kernel
theorem dX3_begin_62 : decode cX3_begin 62 = .ok (.iconst 0, 1) := by decide +kernel
theorem dX3_begin_63 : decode cX3_begin 63 = .ok (.putfield 58, 3) := by decide +kernel
theorem dX3_begin_66 : decode cX3_begin 66 = .ok (.aload_n 0, 1) := by decide +kernel
theorem dX3_begin_67 : decode cX3_begin 67 = .ok (.iconst 0, 1) := by decide +kernel
theorem dX3_begin_68 : decode cX3_begin 68 = .ok (.putfield 61, 3) := by decide +kernel
theorem dX3_begin_71 : decode cX3_begin 71 = .ok (.iconst 0, 1) := by decide +kernel
theorem dX3_begin_72 : decode cX3_begin 72 = .ok (.istore_n 2, 1) := by decide +kernel
theorem dX3_begin_73 : decode cX3_begin 73 = .ok (.iload_n 2, 1) := by decide +kernel
theorem dX3_begin_74 : decode cX3_begin 74 = .ok (.aload_n 0, 1) := by decide +kernel
theorem dX3_begin_75 : decode cX3_begin 75 = .ok (.getfield 29, 3) := by decide +kernel
theorem dX3_begin_78 : decode cX3_begin 78 = .ok (.if_icmp .ge 23, 3) := by decide +kernel
theorem dX3_begin_81 : decode cX3_begin 81 = .ok (.aload_n 0, 1) := by decide +kernel
theorem dX3_begin_82 : decode cX3_begin 82 = .ok (.getfield 9, 3) := by decide +kernel
theorem dX3_begin_85 : decode cX3_begin 85 = .ok (.iload_n 2, 1) := by decide +kernel
theorem dX3_begin_86 : decode cX3_begin 86 = .ok (.iconst 0, 1) := by decide +kernel
theorem dX3_begin_87 : decode cX3_begin 87 = .ok (.iastore, 1) := by decide +kernel
theorem dX3_begin_88 : decode cX3_begin 88 = .ok (.aload_n 0, 1) := by decide +kernel
theorem dX3_begin_89 : decode cX3_begin 89 = .ok (.getfield 15, 3) := by decide +kernel
theorem dX3_begin_92 : decode cX3_begin 92 = .ok (.iload_n 2, 1) := by decide +kernel
theorem dX3_begin_93 : decode cX3_begin 93 = .ok (.iconst 0, 1) := by decide +kernel
theorem dX3_begin_94 : decode cX3_begin 94 = .ok (.iastore, 1) := by decide +kernel
theorem dX3_begin_95 : decode cX3_begin 95 = .ok (.iinc 2 1, 3) := by decide +kernel
theorem dX3_begin_98 : decode cX3_begin 98 = .ok (.goto (-25), 3) := by decide +kernel
theorem dX3_begin_101 : decode cX3_begin 101 = .ok (.return_, 1) := by decide +kernel
theorem dX3_copyFrom_0 : decode cX3_copyFrom 0 = .ok (.aload_n 0, 1) := by decide +kernel
theorem dX3_copyFrom_1 : decode cX3_copyFrom 1 = .ok (.aload_n 1, 1) := by decide +kernel
theorem dX3_copyFrom_2 : decode cX3_copyFrom 2 = .ok (.getfield 24, 3) := by decide +kernel
theorem dX3_copyFrom_5 : decode cX3_copyFrom 5 = .ok (.putfield 24, 3) := by decide +kernel
theorem dX3_copyFrom_8 : decode cX3_copyFrom 8 = .ok (.aload_n 0, 1) := by decide +kernel
theorem dX3_copyFrom_9 : decode cX3_copyFrom 9 = .ok (.aload_n 1, 1) := by decide +kernel
theorem dX3_copyFrom_10 : decode cX3_copyFrom 10 = .ok (.getfield 29, 3) := by decide +kernel
theorem dX3_copyFrom_13 : decode cX3_copyFrom 13 = .ok (.putfield 29, 3) := by decide +kernel
theorem dX3_copyFrom_16 : decode cX3_copyFrom 16 = .ok (.aload_n 0, 1) := by decide +kernel
theorem dX3_copyFrom_17 : decode cX3_copyFrom 17 = .ok (.aload_n 1, 1) := by decide +kernel
theorem dX3_copyFrom_18 : decode cX3_copyFrom 18 = .ok (.getfield 31, 3) := by decide +kernel
theorem dX3_copyFrom_21 : decode cX3_copyFrom 21 = .ok (.putfield 31, 3) := by decide +kernel
theorem dX3_copyFrom_24 : decode cX3_copyFrom 24 = .ok (.aload_n 0, 1) := by decide +kernel
theorem dX3_copyFrom_25 : decode cX3_copyFrom 25 = .ok (.aload_n 1, 1) := by decide +kernel
theorem dX3_copyFrom_26 : decode cX3_copyFrom 26 = .ok (.getfield 34, 3) := by decide +kernel
theorem dX3_copyFrom_29 : decode cX3_copyFrom 29 = .ok (.putfield 34, 3) := by decide +kernel
theorem dX3_copyFrom_32 : decode cX3_copyFrom 32 = .ok (.aload_n 0, 1) := by decide +kernel
theorem dX3_copyFrom_33 : decode cX3_copyFrom 33 = .ok (.aload_n 1, 1) := by decide +kernel
theorem dX3_copyFrom_34 : decode cX3_copyFrom 34 = .ok (.getfield 37, 3) := by decide +kernel
theorem dX3_copyFrom_37 : decode cX3_copyFrom 37 = .ok (.putfield 37, 3) := by decide +kernel
theorem dX3_copyFrom_40 : decode cX3_copyFrom 40 = .ok (.aload_n 0, 1) := by decide +kernel
theorem dX3_copyFrom_41 : decode cX3_copyFrom 41 = .ok (.aload_n 1, 1) := by decide +kernel
theorem dX3_copyFrom_42 : decode cX3_copyFrom 42 = .ok (.getfield 40, 3) := by decide +kernel
theorem dX3_copyFrom_45 : decode cX3_copyFrom 45 = .ok (.putfield 40, 3) := by decide +kernel
theorem dX3_copyFrom_48 : decode cX3_copyFrom 48 = .ok (.aload_n 0, 1) := by decide +kernel
theorem dX3_copyFrom_49 : decode cX3_copyFrom 49 = .ok (.aload_n 1, 1) := by decide +kernel
theorem dX3_copyFrom_50 : decode cX3_copyFrom 50 = .ok (.getfield 43, 3) := by decide +kernel
theorem dX3_copyFrom_53 : decode cX3_copyFrom 53 = .ok (.putfield 43, 3) := by decide +kernel
theorem dX3_copyFrom_56 : decode cX3_copyFrom 56 = .ok (.aload_n 0, 1) := by decide +kernel
theorem dX3_copyFrom_57 : decode cX3_copyFrom 57 = .ok (.aload_n 1, 1) := by decide +kernel
theorem dX3_copyFrom_58 : decode cX3_copyFrom 58 = .ok (.getfield 46, 3) := by decide +kernel
theorem dX3_copyFrom_61 : decode cX3_copyFrom 61 = .ok (.putfield 46, 3) := by decide +kernel
theorem dX3_copyFrom_64 : decode cX3_copyFrom 64 = .ok (.aload_n 0, 1) := by decide +kernel
theorem dX3_copyFrom_65 : decode cX3_copyFrom 65 = .ok (.aload_n 1, 1) := by decide +kernel
theorem dX3_copyFrom_66 : decode cX3_copyFrom 66 = .ok (.getfield 49, 3) := by decide +kernel
theorem dX3_copyFrom_69 : decode cX3_copyFrom 69 = .ok (.putfield 49, 3) := by decide +kernel
theorem dX3_copyFrom_72 : decode cX3_copyFrom 72 = .ok (.aload_n 0, 1) := by decide +kernel
theorem dX3_copyFrom_73 : decode cX3_copyFrom 73 = .ok (.aload_n 1, 1) := by decide +kernel
theorem dX3_copyFrom_74 : decode cX3_copyFrom 74 = .ok (.getfield 52, 3) := by decide +kernel
theorem dX3_copyFrom_77 : decode cX3_copyFrom 77 = .ok (.putfield 52, 3) := by decide +kernel
theorem dX3_copyFrom_80 : decode cX3_copyFrom 80 = .ok (.aload_n 0, 1) := by decide +kernel
theorem dX3_copyFrom_81 : decode cX3_copyFrom 81 = .ok (.aload_n 1, 1) := by decide +kernel
theorem dX3_copyFrom_82 : decode cX3_copyFrom 82 = .ok (.getfield 55, 3) := by decide +kernel
theorem dX3_copyFrom_85 : decode cX3_copyFrom 85 = .ok (.putfield 55, 3) := by decide +kernel
theorem dX3_copyFrom_88 : decode cX3_copyFrom 88 = .ok (.aload_n 0, 1) := by decide +kernel
theorem dX3_copyFrom_89 : decode cX3_copyFrom 89 = .ok (.aload_n 1, 1) := by decide +kernel
theorem dX3_copyFrom_90 : decode cX3_copyFrom 90 = .ok (.getfield 58, 3) := by decide +kernel
theorem dX3_copyFrom_93 : decode cX3_copyFrom 93 = .ok (.putfield 58, 3) := by decide +kernel
theorem dX3_copyFrom_96 : decode cX3_copyFrom 96 = .ok (.aload_n 0, 1) := by decide +kernel
theorem dX3_copyFrom_97 : decode cX3_copyFrom 97 = .ok (.aload_n 1, 1) := by decide +kernel
theorem dX3_copyFrom_98 : decode cX3_copyFrom 98 = .ok (.getfield 61, 3) := by decide +kernel
theorem dX3_copyFrom_101 : decode cX3_copyFrom 101 = .ok (.putfield 61, 3) := by decide +kernel
theorem dX3_copyFrom_104 : decode cX3_copyFrom 104 = .ok (.iconst 0, 1) := by decide +kernel
theorem dX3_copyFrom_105 : decode cX3_copyFrom 105 = .ok (.istore_n 2, 1) := by decide +kernel
theorem dX3_copyFrom_106 : decode cX3_copyFrom 106 = .ok (.iload_n 2, 1) := by decide +kernel
theorem dX3_copyFrom_107 : decode cX3_copyFrom 107 = .ok (.aload_n 0, 1) := by decide +kernel
theorem dX3_copyFrom_108 : decode cX3_copyFrom 108 = .ok (.getfield 29, 3) := by decide +kernel
theorem dX3_copyFrom_111 : decode cX3_copyFrom 111 = .ok (.if_icmp .ge 33, 3) := by decide +kernel
theorem dX3_copyFrom_114 : decode cX3_copyFrom 114 = .ok (.aload_n 0, 1) := by decide +kernel
theorem dX3_copyFrom_115 : decode cX3_copyFrom 115 = .ok (.getfield 9, 3) := by decide +kernel
theorem dX3_copyFrom_118 : decode cX3_copyFrom 118 = .ok (.iload_n 2, 1) := by decide +kernel
theorem dX3_copyFrom_119 : decode cX3_copyFrom 119 = .ok (.aload_n 1, 1) := by decide +kernel
theorem dX3_copyFrom_120 : decode cX3_copyFrom 120 = .ok (.getfield 9, 3) := by decide +kernel
theorem dX3_copyFrom_123 : decode cX3_copyFrom 123 = .ok (.iload_n 2, 1) := by decide +kernel
theorem dX3_copyFrom_124 : decode cX3_copyFrom 124 = .ok (.iaload, 1) := by decide +kernel
theorem dX3_copyFrom_125 : decode cX3_copyFrom 125 = .ok (.iastore, 1) := by decide +kernel
theorem dX3_copyFrom_126 : decode cX3_copyFrom 126 = .ok (.aload_n 0, 1) := by decide +kernel
theorem dX3_copyFrom_127 : decode cX3_copyFrom 127 = .ok (.getfield 15, 3) := by decide +kernel
theorem dX3_copyFrom_130 : decode cX3_copyFrom 130 = .ok (.iload_n 2, 1) := by decide +kernel
theorem dX3_copyFrom_131 : decode cX3_copyFrom 131 = .ok (.aload_n 1, 1) := by decide +kernel
theorem dX3_copyFrom_132 : decode cX3_copyFrom 132 = .ok (.getfield 15, 3) := by decide +kernel
theorem dX3_copyFrom_135 : decode cX3_copyFrom 135 = .ok (.iload_n 2, 1) := by decide +kernel
theorem dX3_copyFrom_136 : decode cX3_copyFrom 136 = .ok (.iaload, 1) := by decide +kernel
theorem dX3_copyFrom_137 : decode cX3_copyFrom 137 = .ok (.iastore, 1) := by decide +kernel
theorem dX3_copyFrom_138 : decode cX3_copyFrom 138 = .ok (.iinc 2 1, 3) := by decide +kernel
theorem dX3_copyFrom_141 : decode cX3_copyFrom 141 = .ok (.goto (-35), 3) := by decide +kernel
theorem dX3_copyFrom_144 : decode cX3_copyFrom 144 = .ok (.return_, 1) := by decide +kernel
theorem dX3_greatestForce_0 : decode cX3_greatestForce 0 = .ok (.iconst 0, 1) := by decide +kernel
theorem dX3_greatestForce_1 : decode cX3_greatestForce 1 = .ok (.istore_n 3, 1) := by decide +kernel
theorem dX3_greatestForce_2 : decode cX3_greatestForce 2 = .ok (.iload_n 1, 1) := by decide +kernel
theorem dX3_greatestForce_3 : decode cX3_greatestForce 3 = .ok (.istore 4, 2) := by decide +kernel
theorem dX3_greatestForce_5 : decode cX3_greatestForce 5 = .ok (.iload 4, 2) := by decide +kernel
theorem dX3_greatestForce_7 : decode cX3_greatestForce 7 = .ok (.iload_n 2, 1) := by decide +kernel
theorem dX3_greatestForce_8 : decode cX3_greatestForce 8 = .ok (.if_icmp .ge 21, 3) := by decide +kernel
theorem dX3_greatestForce_11 : decode cX3_greatestForce 11 = .ok (.iload_n 3, 1) := by decide +kernel
theorem dX3_greatestForce_12 : decode cX3_greatestForce 12 = .ok (.aload_n 0, 1) := by decide +kernel
theorem dX3_greatestForce_13 : decode cX3_greatestForce 13 = .ok (.getfield 15, 3) := by decide +kernel
theorem dX3_greatestForce_16 : decode cX3_greatestForce 16 = .ok (.iload 4, 2) := by decide +kernel
theorem dX3_greatestForce_18 : decode cX3_greatestForce 18 = .ok (.iaload, 1) := by decide +kernel
theorem dX3_greatestForce_19 : decode cX3_greatestForce 19 = .ok (.invokestatic 64, 3) := by decide +kernel
theorem dX3_greatestForce_22 : decode cX3_greatestForce 22 = .ok (.istore_n 3, 1) := by decide +kernel
theorem dX3_greatestForce_23 : decode cX3_greatestForce 23 = .ok (.iinc 4 1, 3) := by decide +kernel
theorem dX3_greatestForce_26 : decode cX3_greatestForce 26 = .ok (.goto (-21), 3) := by decide +kernel
theorem dX3_greatestForce_29 : decode cX3_greatestForce 29 = .ok (.iload_n 3, 1) := by decide +kernel
theorem dX3_greatestForce_30 : decode cX3_greatestForce 30 = .ok (.ireturn, 1) := by decide +kernel
theorem dX3_addLayer_0 : decode cX3_addLayer 0 = .ok (.iload_n 1, 1) := by decide +kernel
theorem dX3_addLayer_1 : decode cX3_addLayer 1 = .ok (.aload_n 0, 1) := by decide +kernel
theorem dX3_addLayer_2 : decode cX3_addLayer 2 = .ok (.getfield 29, 3) := by decide +kernel
theorem dX3_addLayer_5 : decode cX3_addLayer 5 = .ok (.invokestatic 70, 3) := by decide +kernel
theorem dX3_addLayer_8 : decode cX3_addLayer 8 = .ok (.istore_n 3, 1) := by decide +kernel
theorem dX3_addLayer_9 : decode cX3_addLayer 9 = .ok (.iload_n 1, 1) := by decide +kernel
theorem dX3_addLayer_10 : decode cX3_addLayer 10 = .ok (.invokestatic 73, 3) := by decide +kernel
theorem dX3_addLayer_13 : decode cX3_addLayer 13 = .ok (.istore 4, 2) := by decide +kernel
theorem dX3_addLayer_15 : decode cX3_addLayer 15 = .ok (.iload 4, 2) := by decide +kernel
theorem dX3_addLayer_17 : decode cX3_addLayer 17 = .ok (.iload_n 3, 1) := by decide +kernel
theorem dX3_addLayer_18 : decode cX3_addLayer 18 = .ok (.if_icmp .ge 31, 3) := by decide +kernel
theorem dX3_addLayer_21 : decode cX3_addLayer 21 = .ok (.aload_n 0, 1) := by decide +kernel
theorem dX3_addLayer_22 : decode cX3_addLayer 22 = .ok (.getfield 9, 3) := by decide +kernel
theorem dX3_addLayer_25 : decode cX3_addLayer 25 = .ok (.iload 4, 2) := by decide +kernel
theorem dX3_addLayer_27 : decode cX3_addLayer 27 = .ok (.dup2, 1) := by decide +kernel
theorem dX3_addLayer_28 : decode cX3_addLayer 28 = .ok (.iaload, 1) := by decide +kernel
theorem dX3_addLayer_29 : decode cX3_addLayer 29 = .ok (.iconst 1, 1) := by decide +kernel
theorem dX3_addLayer_30 : decode cX3_addLayer 30 = .ok (.iadd, 1) := by decide +kernel
theorem dX3_addLayer_31 : decode cX3_addLayer 31 = .ok (.iastore, 1) := by decide +kernel
theorem dX3_addLayer_32 : decode cX3_addLayer 32 = .ok (.aload_n 0, 1) := by decide +kernel
theorem dX3_addLayer_33 : decode cX3_addLayer 33 = .ok (.getfield 15, 3) := by decide +kernel
theorem dX3_addLayer_36 : decode cX3_addLayer 36 = .ok (.iload 4, 2) := by decide +kernel
theorem dX3_addLayer_38 : decode cX3_addLayer 38 = .ok (.dup2, 1) := by decide +kernel
theorem dX3_addLayer_39 : decode cX3_addLayer 39 = .ok (.iaload, 1) := by decide +kernel
theorem dX3_addLayer_40 : decode cX3_addLayer 40 = .ok (.iload_n 2, 1) := by decide +kernel
theorem dX3_addLayer_41 : decode cX3_addLayer 41 = .ok (.iadd, 1) := by decide +kernel
theorem dX3_addLayer_42 : decode cX3_addLayer 42 = .ok (.iastore, 1) := by decide +kernel
theorem dX3_addLayer_43 : decode cX3_addLayer 43 = .ok (.iinc 4 1, 3) := by decide +kernel
theorem dX3_addLayer_46 : decode cX3_addLayer 46 = .ok (.goto (-31), 3) := by decide +kernel
theorem dX3_addLayer_49 : decode cX3_addLayer 49 = .ok (.return_, 1) := by decide +kernel
theorem dX3_property_0 : decode cX3_property 0 = .ok (.iload_n 1, 1) := by decide +kernel
theorem dX3_property_1 : decode cX3_property 1 = .ok (.tableswitch 145 0 11 #[63, 68, 73, 78, 83, 88, 103, 108, 113, 125, 135, 140], 63) := by decide +kernel
theorem dX3_property_64 : decode cX3_property 64 = .ok (.aload_n 0, 1) := by decide +kernel
theorem dX3_property_65 : decode cX3_property 65 = .ok (.getfield 24, 3) := by decide +kernel
theorem dX3_property_68 : decode cX3_property 68 = .ok (.ireturn, 1) := by decide +kernel
theorem dX3_property_69 : decode cX3_property 69 = .ok (.aload_n 0, 1) := by decide +kernel
theorem dX3_property_70 : decode cX3_property 70 = .ok (.getfield 31, 3) := by decide +kernel
theorem dX3_property_73 : decode cX3_property 73 = .ok (.ireturn, 1) := by decide +kernel
theorem dX3_property_74 : decode cX3_property 74 = .ok (.aload_n 0, 1) := by decide +kernel
theorem dX3_property_75 : decode cX3_property 75 = .ok (.getfield 34, 3) := by decide +kernel
theorem dX3_property_78 : decode cX3_property 78 = .ok (.ireturn, 1) := by decide +kernel
theorem dX3_property_79 : decode cX3_property 79 = .ok (.aload_n 0, 1) := by decide +kernel
theorem dX3_property_80 : decode cX3_property 80 = .ok (.getfield 37, 3) := by decide +kernel
theorem dX3_property_83 : decode cX3_property 83 = .ok (.ireturn, 1) := by decide +kernel
theorem dX3_property_84 : decode cX3_property 84 = .ok (.aload_n 0, 1) := by decide +kernel
theorem dX3_property_85 : decode cX3_property 85 = .ok (.getfield 40, 3) := by decide +kernel
theorem dX3_property_88 : decode cX3_property 88 = .ok (.ireturn, 1) := by decide +kernel
theorem dX3_property_89 : decode cX3_property 89 = .ok (.aload_n 0, 1) := by decide +kernel
theorem dX3_property_90 : decode cX3_property 90 = .ok (.getfield 43, 3) := by decide +kernel
theorem dX3_property_93 : decode cX3_property 93 = .ok (.aload_n 0, 1) := by decide +kernel
theorem dX3_property_94 : decode cX3_property 94 = .ok (.getfield 46, 3) := by decide +kernel
theorem dX3_property_97 : decode cX3_property 97 = .ok (.iadd, 1) := by decide +kernel
theorem dX3_property_98 : decode cX3_property 98 = .ok (.aload_n 0, 1) := by decide +kernel
theorem dX3_property_99 : decode cX3_property 99 = .ok (.getfield 49, 3) := by decide +kernel
theorem dX3_property_102 : decode cX3_property 102 = .ok (.iadd, 1) := by decide +kernel
theorem dX3_property_103 : decode cX3_property 103 = .ok (.ireturn, 1) := by decide +kernel
theorem dX3_property_104 : decode cX3_property 104 = .ok (.aload_n 0, 1) := by decide +kernel
theorem dX3_property_105 : decode cX3_property 105 = .ok (.getfield 52, 3) := by decide +kernel
theorem dX3_property_108 : decode cX3_property 108 = .ok (.ireturn, 1) := by decide +kernel
theorem dX3_property_109 : decode cX3_property 109 = .ok (.aload_n 0, 1) := by decide +kernel
theorem dX3_property_110 : decode cX3_property 110 = .ok (.getfield 55, 3) := by decide +kernel
theorem dX3_property_113 : decode cX3_property 113 = .ok (.ireturn, 1) := by decide +kernel
theorem dX3_property_114 : decode cX3_property 114 = .ok (.aload_n 0, 1) := by decide +kernel
theorem dX3_property_115 : decode cX3_property 115 = .ok (.getfield 9, 3) := by decide +kernel
theorem dX3_property_118 : decode cX3_property 118 = .ok (.aload_n 0, 1) := by decide +kernel
theorem dX3_property_119 : decode cX3_property 119 = .ok (.getfield 29, 3) := by decide +kernel
theorem dX3_property_122 : decode cX3_property 122 = .ok (.invokestatic 77, 3) := by decide +kernel
theorem dX3_property_125 : decode cX3_property 125 = .ok (.ireturn, 1) := by decide +kernel
theorem dX3_property_126 : decode cX3_property 126 = .ok (.aload_n 0, 1) := by decide +kernel
theorem dX3_property_127 : decode cX3_property 127 = .ok (.iconst 0, 1) := by decide +kernel
theorem dX3_property_128 : decode cX3_property 128 = .ok (.aload_n 0, 1) := by decide +kernel
theorem dX3_property_129 : decode cX3_property 129 = .ok (.getfield 29, 3) := by decide +kernel
theorem dX3_property_132 : decode cX3_property 132 = .ok (.invokevirtual 81, 3) := by decide +kernel
theorem dX3_property_135 : decode cX3_property 135 = .ok (.ireturn, 1) := by decide +kernel
theorem dX3_property_136 : decode cX3_property 136 = .ok (.aload_n 0, 1) := by decide +kernel
theorem dX3_property_137 : decode cX3_property 137 = .ok (.getfield 58, 3) := by decide +kernel
theorem dX3_property_140 : decode cX3_property 140 = .ok (.ireturn, 1) := by decide +kernel
theorem dX3_property_141 : decode cX3_property 141 = .ok (.aload_n 0, 1) := by decide +kernel
theorem dX3_property_142 : decode cX3_property 142 = .ok (.getfield 61, 3) := by decide +kernel
theorem dX3_property_145 : decode cX3_property 145 = .ok (.ireturn, 1) := by decide +kernel
theorem dX3_property_146 : decode cX3_property 146 = .ok (.aload_n 0, 1) := by decide +kernel
theorem dX3_property_147 : decode cX3_property 147 = .ok (.getfield 29, 3) := by decide +kernel
theorem dX3_property_150 : decode cX3_property 150 = .ok (.ireturn, 1) := by decide +kernel
theorem dX4_init_0 : decode cX4_init 0 = .ok (.aload_n 0, 1) := by decide +kernel
theorem dX4_init_1 : decode cX4_init 1 = .ok (.invokespecial 3, 3) := by decide +kernel
theorem dX4_init_4 : decode cX4_init 4 = .ok (.aload_n 0, 1) := by decide +kernel
theorem dX4_init_5 : decode cX4_init 5 = .ok (.bipush 8, 2) := by decide +kernel
theorem dX4_init_7 : decode cX4_init 7 = .ok (.newarray .int, 2) := by decide +kernel
theorem dX4_init_9 : decode cX4_init 9 = .ok (.putfield 9, 3) := by decide +kernel
theorem dX4_init_12 : decode cX4_init 12 = .ok (.aload_n 0, 1) := by decide +kernel
theorem dX4_init_13 : decode cX4_init 13 = .ok (.bipush 8, 2) := by decide +kernel
theorem dX4_init_15 : decode cX4_init 15 = .ok (.newarray .int, 2) := by decide +kernel
theorem dX4_init_17 : decode cX4_init 17 = .ok (.putfield 15, 3) := by decide +kernel
theorem dX4_init_20 : decode cX4_init 20 = .ok (.return_, 1) := by decide +kernel
theorem dX4_begin_0 : decode cX4_begin 0 = .ok (.aload_n 0, 1) := by decide +kernel
theorem dX4_begin_1 : decode cX4_begin 1 = .ok (.iload_n 1, 1) := by decide +kernel
theorem dX4_begin_2 : decode cX4_begin 2 = .ok (.putfield 18, 3) := by decide +kernel
theorem dX4_begin_5 : decode cX4_begin 5 = .ok (.aload_n 0, 1) := by decide +kernel
theorem dX4_begin_6 : decode cX4_begin 6 = .ok (.iload_n 2, 1) := by decide +kernel
theorem dX4_begin_7 : decode cX4_begin 7 = .ok (.putfield 22, 3) := by decide +kernel
theorem dX4_begin_10 : decode cX4_begin 10 = .ok (.aload_n 0, 1) := by decide +kernel
theorem dX4_begin_11 : decode cX4_begin 11 = .ok (.iconst 0, 1) := by decide +kernel
theorem dX4_begin_12 : decode cX4_begin 12 = .ok (.putfield 25, 3) := by decide +kernel
theorem dX4_begin_15 : decode cX4_begin 15 = .ok (.aload_n 0, 1) := by decide +kernel
theorem dX4_begin_16 : decode cX4_begin 16 = .ok (.iconst 0, 1) := by decide +kernel
theorem dX4_begin_17 : decode cX4_begin 17 = .ok (.putfield 28, 3) := by decide +kernel
theorem dX4_begin_20 : decode cX4_begin 20 = .ok (.return_, 1) := by decide +kernel
theorem dX4_copyFrom_0 : decode cX4_copyFrom 0 = .ok (.aload_n 0, 1) := by decide +kernel
theorem dX4_copyFrom_1 : decode cX4_copyFrom 1 = .ok (.aload_n 1, 1) := by decide +kernel
theorem dX4_copyFrom_2 : decode cX4_copyFrom 2 = .ok (.getfield 18, 3) := by decide +kernel
theorem dX4_copyFrom_5 : decode cX4_copyFrom 5 = .ok (.putfield 18, 3) := by decide +kernel
theorem dX4_copyFrom_8 : decode cX4_copyFrom 8 = .ok (.aload_n 0, 1) := by decide +kernel
theorem dX4_copyFrom_9 : decode cX4_copyFrom 9 = .ok (.aload_n 1, 1) := by decide +kernel
theorem dX4_copyFrom_10 : decode cX4_copyFrom 10 = .ok (.getfield 22, 3) := by decide +kernel
theorem dX4_copyFrom_13 : decode cX4_copyFrom 13 = .ok (.putfield 22, 3) := by decide +kernel
theorem dX4_copyFrom_16 : decode cX4_copyFrom 16 = .ok (.aload_n 0, 1) := by decide +kernel
theorem dX4_copyFrom_17 : decode cX4_copyFrom 17 = .ok (.aload_n 1, 1) := by decide +kernel
theorem dX4_copyFrom_18 : decode cX4_copyFrom 18 = .ok (.getfield 25, 3) := by decide +kernel
theorem dX4_copyFrom_21 : decode cX4_copyFrom 21 = .ok (.putfield 25, 3) := by decide +kernel
theorem dX4_copyFrom_24 : decode cX4_copyFrom 24 = .ok (.aload_n 0, 1) := by decide +kernel
theorem dX4_copyFrom_25 : decode cX4_copyFrom 25 = .ok (.aload_n 1, 1) := by decide +kernel
theorem dX4_copyFrom_26 : decode cX4_copyFrom 26 = .ok (.getfield 28, 3) := by decide +kernel
theorem dX4_copyFrom_29 : decode cX4_copyFrom 29 = .ok (.putfield 28, 3) := by decide +kernel
theorem dX4_copyFrom_32 : decode cX4_copyFrom 32 = .ok (.iconst 0, 1) := by decide +kernel
theorem dX4_copyFrom_33 : decode cX4_copyFrom 33 = .ok (.istore_n 2, 1) := by decide +kernel
theorem dX4_copyFrom_34 : decode cX4_copyFrom 34 = .ok (.iload_n 2, 1) := by decide +kernel
theorem dX4_copyFrom_35 : decode cX4_copyFrom 35 = .ok (.aload_n 0, 1) := by decide +kernel
theorem dX4_copyFrom_36 : decode cX4_copyFrom 36 = .ok (.getfield 28, 3) := by decide +kernel
theorem dX4_copyFrom_39 : decode cX4_copyFrom 39 = .ok (.if_icmp .ge 33, 3) := by decide +kernel
theorem dX4_copyFrom_42 : decode cX4_copyFrom 42 = .ok (.aload_n 0, 1) := by decide +kernel
theorem dX4_copyFrom_43 : decode cX4_copyFrom 43 = .ok (.getfield 9, 3) := by decide +kernel
theorem dX4_copyFrom_46 : decode cX4_copyFrom 46 = .ok (.iload_n 2, 1) := by decide +kernel
theorem dX4_copyFrom_47 : decode cX4_copyFrom 47 = .ok (.aload_n 1, 1) := by decide +kernel
theorem dX4_copyFrom_48 : decode cX4_copyFrom 48 = .ok (.getfield 9, 3) := by decide +kernel
theorem dX4_copyFrom_51 : decode cX4_copyFrom 51 = .ok (.iload_n 2, 1) := by decide +kernel
theorem dX4_copyFrom_52 : decode cX4_copyFrom 52 = .ok (.iaload, 1) := by decide +kernel
theorem dX4_copyFrom_53 : decode cX4_copyFrom 53 = .ok (.iastore, 1) := by decide +kernel
theorem dX4_copyFrom_54 : decode cX4_copyFrom 54 = .ok (.aload_n 0, 1) := by decide +kernel
theorem dX4_copyFrom_55 : decode cX4_copyFrom 55 = .ok (.getfield 15, 3) := by decide +kernel
theorem dX4_copyFrom_58 : decode cX4_copyFrom 58 = .ok (.iload_n 2, 1) := by decide +kernel
theorem dX4_copyFrom_59 : decode cX4_copyFrom 59 = .ok (.aload_n 1, 1) := by decide +kernel
theorem dX4_copyFrom_60 : decode cX4_copyFrom 60 = .ok (.getfield 15, 3) := by decide +kernel
theorem dX4_copyFrom_63 : decode cX4_copyFrom 63 = .ok (.iload_n 2, 1) := by decide +kernel
theorem dX4_copyFrom_64 : decode cX4_copyFrom 64 = .ok (.iaload, 1) := by decide +kernel
theorem dX4_copyFrom_65 : decode cX4_copyFrom 65 = .ok (.iastore, 1) := by decide +kernel
theorem dX4_copyFrom_66 : decode cX4_copyFrom 66 = .ok (.iinc 2 1, 3) := by decide +kernel
theorem dX4_copyFrom_69 : decode cX4_copyFrom 69 = .ok (.goto (-35), 3) := by decide +kernel
theorem dX4_copyFrom_72 : decode cX4_copyFrom 72 = .ok (.return_, 1) := by decide +kernel
theorem dX4_rest_0 : decode cX4_rest 0 = .ok (.aload_n 0, 1) := by decide +kernel
theorem dX4_rest_1 : decode cX4_rest 1 = .ok (.getfield 18, 3) := by decide +kernel
theorem dX4_rest_4 : decode cX4_rest 4 = .ok (.aload_n 0, 1) := by decide +kernel
theorem dX4_rest_5 : decode cX4_rest 5 = .ok (.getfield 25, 3) := by decide +kernel
theorem dX4_rest_8 : decode cX4_rest 8 = .ok (.isub, 1) := by decide +kernel
theorem dX4_rest_9 : decode cX4_rest 9 = .ok (.ireturn, 1) := by decide +kernel
theorem dX4_isWeakAt_0 : decode cX4_isWeakAt 0 = .ok (.iconst 0, 1) := by decide +kernel
theorem dX4_isWeakAt_1 : decode cX4_isWeakAt 1 = .ok (.istore_n 2, 1) := by decide +kernel
theorem dX4_isWeakAt_2 : decode cX4_isWeakAt 2 = .ok (.iload_n 2, 1) := by decide +kernel
theorem dX4_isWeakAt_3 : decode cX4_isWeakAt 3 = .ok (.aload_n 0, 1) := by decide +kernel
theorem dX4_isWeakAt_4 : decode cX4_isWeakAt 4 = .ok (.getfield 28, 3) := by decide +kernel
theorem dX4_isWeakAt_7 : decode cX4_isWeakAt 7 = .ok (.if_icmp .ge 21, 3) := by decide +kernel
theorem dX4_isWeakAt_10 : decode cX4_isWeakAt 10 = .ok (.aload_n 0, 1) := by decide +kernel
theorem dX4_isWeakAt_11 : decode cX4_isWeakAt 11 = .ok (.getfield 9, 3) := by decide +kernel
theorem dX4_isWeakAt_14 : decode cX4_isWeakAt 14 = .ok (.iload_n 2, 1) := by decide +kernel
theorem dX4_isWeakAt_15 : decode cX4_isWeakAt 15 = .ok (.iaload, 1) := by decide +kernel
theorem dX4_isWeakAt_16 : decode cX4_isWeakAt 16 = .ok (.iload_n 1, 1) := by decide +kernel
theorem dX4_isWeakAt_17 : decode cX4_isWeakAt 17 = .ok (.if_icmp .ne 5, 3) := by decide +kernel
theorem dX4_isWeakAt_20 : decode cX4_isWeakAt 20 = .ok (.iconst 1, 1) := by decide +kernel
theorem dX4_isWeakAt_21 : decode cX4_isWeakAt 21 = .ok (.ireturn, 1) := by decide +kernel
theorem dX4_isWeakAt_22 : decode cX4_isWeakAt 22 = .ok (.iinc 2 1, 3) := by decide +kernel
theorem dX4_isWeakAt_25 : decode cX4_isWeakAt 25 = .ok (.goto (-23), 3) := by decide +kernel
theorem dX4_isWeakAt_28 : decode cX4_isWeakAt 28 = .ok (.iconst 0, 1) := by decide +kernel
theorem dX4_isWeakAt_29 : decode cX4_isWeakAt 29 = .ok (.ireturn, 1) := by decide +kernel
theorem dX4_insertWeakPlace_0 : decode cX4_insertWeakPlace 0 = .ok (.aload_n 0, 1) := by decide +kernel
theorem dX4_insertWeakPlace_1 : decode cX4_insertWeakPlace 1 = .ok (.getfield 28, 3) := by decide +kernel
theorem dX4_insertWeakPlace_4 : decode cX4_insertWeakPlace 4 = .ok (.bipush 8, 2) := by decide +kernel
theorem dX4_insertWeakPlace_6 : decode cX4_insertWeakPlace 6 = .ok (.if_icmp .lt 4, 3) := by decide +kernel
theorem dX4_insertWeakPlace_9 : decode cX4_insertWeakPlace 9 = .ok (.return_, 1) := by decide +kernel
theorem dX4_insertWeakPlace_10 : decode cX4_insertWeakPlace 10 = .ok (.aload_n 0, 1) := by decide +kernel
theorem dX4_insertWeakPlace_11 : decode cX4_insertWeakPlace 11 = .ok (.getfield 28, 3) := by decide +kernel
theorem dX4_insertWeakPlace_14 : decode cX4_insertWeakPlace 14 = .ok (.istore_n 3, 1) := by decide +kernel
theorem dX4_insertWeakPlace_15 : decode cX4_insertWeakPlace 15 = .ok (.iload_n 3, 1) := by decide +kernel
theorem dX4_insertWeakPlace_16 : decode cX4_insertWeakPlace 16 = .ok (.ifCond .le 49, 3) := by decide +kernel
theorem dX4_insertWeakPlace_19 : decode cX4_insertWeakPlace 19 = .ok (.aload_n 0, 1) := by decide +kernel
theorem dX4_insertWeakPlace_20 : decode cX4_insertWeakPlace 20 = .ok (.getfield 9, 3) := by decide +kernel
theorem dX4_insertWeakPlace_23 : decode cX4_insertWeakPlace 23 = .ok (.iload_n 3, 1) := by decide +kernel
theorem dX4_insertWeakPlace_24 : decode cX4_insertWeakPlace 24 = .ok (.iconst 1, 1) := by decide +kernel
theorem dX4_insertWeakPlace_25 : decode cX4_insertWeakPlace 25 = .ok (.isub, 1) := by decide +kernel
theorem dX4_insertWeakPlace_26 : decode cX4_insertWeakPlace 26 = .ok (.iaload, 1) := by decide +kernel
theorem dX4_insertWeakPlace_27 : decode cX4_insertWeakPlace 27 = .ok (.iload_n 1, 1) := by decide +kernel
theorem dX4_insertWeakPlace_28 : decode cX4_insertWeakPlace 28 = .ok (.if_icmp .le 37, 3) := by decide +kernel
theorem dX4_insertWeakPlace_31 : decode cX4_insertWeakPlace 31 = .ok (.aload_n 0, 1) := by decide +kernel
theorem dX4_insertWeakPlace_32 : decode cX4_insertWeakPlace 32 = .ok (.getfield 9, 3) := by decide +kernel
theorem dX4_insertWeakPlace_35 : decode cX4_insertWeakPlace 35 = .ok (.iload_n 3, 1) := by decide +kernel
theorem dX4_insertWeakPlace_36 : decode cX4_insertWeakPlace 36 = .ok (.aload_n 0, 1) := by decide +kernel
theorem dX4_insertWeakPlace_37 : decode cX4_insertWeakPlace 37 = .ok (.getfield 9, 3) := by decide +kernel
theorem dX4_insertWeakPlace_40 : decode cX4_insertWeakPlace 40 = .ok (.iload_n 3, 1) := by decide +kernel
theorem dX4_insertWeakPlace_41 : decode cX4_insertWeakPlace 41 = .ok (.iconst 1, 1) := by decide +kernel
theorem dX4_insertWeakPlace_42 : decode cX4_insertWeakPlace 42 = .ok (.isub, 1) := by decide +kernel
theorem dX4_insertWeakPlace_43 : decode cX4_insertWeakPlace 43 = .ok (.iaload, 1) := by decide +kernel
theorem dX4_insertWeakPlace_44 : decode cX4_insertWeakPlace 44 = .ok (.iastore, 1) := by decide +kernel
theorem dX4_insertWeakPlace_45 : decode cX4_insertWeakPlace 45 = .ok (.aload_n 0, 1) := by decide +kernel
theorem dX4_insertWeakPlace_46 : decode cX4_insertWeakPlace 46 = .ok (.getfield 15, 3) := by decide +kernel
theorem dX4_insertWeakPlace_49 : decode cX4_insertWeakPlace 49 = .ok (.iload_n 3, 1) := by decide +kernel
theorem dX4_insertWeakPlace_50 : decode cX4_insertWeakPlace 50 = .ok (.aload_n 0, 1) := by decide +kernel
theorem dX4_insertWeakPlace_51 : decode cX4_insertWeakPlace 51 = .ok (.getfield 15, 3) := by decide +kernel
theorem dX4_insertWeakPlace_54 : decode cX4_insertWeakPlace 54 = .ok (.iload_n 3, 1) := by decide +kernel
theorem dX4_insertWeakPlace_55 : decode cX4_insertWeakPlace 55 = .ok (.iconst 1, 1) := by decide +kernel
theorem dX4_insertWeakPlace_56 : decode cX4_insertWeakPlace 56 = .ok (.isub, 1) := by decide +kernel
theorem dX4_insertWeakPlace_57 : decode cX4_insertWeakPlace 57 = .ok (.iaload, 1) := by decide +kernel
theorem dX4_insertWeakPlace_58 : decode cX4_insertWeakPlace 58 = .ok (.iastore, 1) := by decide +kernel
theorem dX4_insertWeakPlace_59 : decode cX4_insertWeakPlace 59 = .ok (.iinc 3 (-1), 3) := by decide +kernel
theorem dX4_insertWeakPlace_62 : decode cX4_insertWeakPlace 62 = .ok (.goto (-47), 3) := by decide +kernel
theorem dX4_insertWeakPlace_65 : decode cX4_insertWeakPlace 65 = .ok (.aload_n 0, 1) := by decide +kernel
theorem dX4_insertWeakPlace_66 : decode cX4_insertWeakPlace 66 = .ok (.getfield 9, 3) := by decide +kernel
theorem dX4_insertWeakPlace_69 : decode cX4_insertWeakPlace 69 = .ok (.iload_n 3, 1) := by decide +kernel
theorem dX4_insertWeakPlace_70 : decode cX4_insertWeakPlace 70 = .ok (.iload_n 1, 1) := by decide +kernel
theorem dX4_insertWeakPlace_71 : decode cX4_insertWeakPlace 71 = .ok (.iastore, 1) := by decide +kernel
theorem dX4_insertWeakPlace_72 : decode cX4_insertWeakPlace 72 = .ok (.aload_n 0, 1) := by decide +kernel
theorem dX4_insertWeakPlace_73 : decode cX4_insertWeakPlace 73 = .ok (.getfield 15, 3) := by decide +kernel
theorem dX4_insertWeakPlace_76 : decode cX4_insertWeakPlace 76 = .ok (.iload_n 3, 1) := by decide +kernel
theorem dX4_insertWeakPlace_77 : decode cX4_insertWeakPlace 77 = .ok (.iload_n 2, 1) := by decide +kernel
theorem dX4_insertWeakPlace_78 : decode cX4_insertWeakPlace 78 = .ok (.iastore, 1) := by decide +kernel
theorem dX4_insertWeakPlace_79 : decode cX4_insertWeakPlace 79 = .ok (.aload_n 0, 1) := by decide +kernel
theorem dX4_insertWeakPlace_80 : decode cX4_insertWeakPlace 80 = .ok (.dup, 1) := by decide +kernel
theorem dX4_insertWeakPlace_81 : decode cX4_insertWeakPlace 81 = .ok (.getfield 28, 3) := by decide +kernel
theorem dX4_insertWeakPlace_84 : decode cX4_insertWeakPlace 84 = .ok (.iconst 1, 1) := by decide +kernel
theorem dX4_insertWeakPlace_85 : decode cX4_insertWeakPlace 85 = .ok (.iadd, 1) := by decide +kernel
theorem dX4_insertWeakPlace_86 : decode cX4_insertWeakPlace 86 = .ok (.putfield 28, 3) := by decide +kernel
theorem dX4_insertWeakPlace_89 : decode cX4_insertWeakPlace 89 = .ok (.return_, 1) := by decide +kernel
theorem dX4_nextWeak_0 : decode cX4_nextWeak 0 = .ok (.iconst 0, 1) := by decide +kernel
theorem dX4_nextWeak_1 : decode cX4_nextWeak 1 = .ok (.istore_n 1, 1) := by decide +kernel
theorem dX4_nextWeak_2 : decode cX4_nextWeak 2 = .ok (.iload_n 1, 1) := by decide +kernel
theorem dX4_nextWeak_3 : decode cX4_nextWeak 3 = .ok (.aload_n 0, 1) := by decide +kernel
theorem dX4_nextWeak_4 : decode cX4_nextWeak 4 = .ok (.getfield 28, 3) := by decide +kernel
theorem dX4_nextWeak_7 : decode cX4_nextWeak 7 = .ok (.if_icmp .ge 22, 3) := by decide +kernel
theorem dX4_nextWeak_10 : decode cX4_nextWeak 10 = .ok (.aload_n 0, 1) := by decide +kernel
theorem dX4_nextWeak_11 : decode cX4_nextWeak 11 = .ok (.getfield 9, 3) := by decide +kernel
theorem dX4_nextWeak_14 : decode cX4_nextWeak 14 = .ok (.iload_n 1, 1) := by decide +kernel
theorem dX4_nextWeak_15 : decode cX4_nextWeak 15 = .ok (.iaload, 1) := by decide +kernel
theorem dX4_nextWeak_16 : decode cX4_nextWeak 16 = .ok (.aload_n 0, 1) := by decide +kernel
theorem dX4_nextWeak_17 : decode cX4_nextWeak 17 = .ok (.getfield 25, 3) := by decide +kernel
theorem dX4_nextWeak_20 : decode cX4_nextWeak 20 = .ok (.if_icmp .gt 9, 3) := by decide +kernel
theorem dX4_nextWeak_23 : decode cX4_nextWeak 23 = .ok (.iinc 1 1, 3) := by decide +kernel
theorem dX4_nextWeak_26 : decode cX4_nextWeak 26 = .ok (.goto (-24), 3) := by decide +kernel
theorem dX4_nextWeak_29 : decode cX4_nextWeak 29 = .ok (.iload_n 1, 1) := by decide +kernel
theorem dX4_nextWeak_30 : decode cX4_nextWeak 30 = .ok (.ireturn, 1) := by decide +kernel
theorem dX4_property_0 : decode cX4_property 0 = .ok (.aload_n 0, 1) := by decide +kernel
theorem dX4_property_1 : decode cX4_property 1 = .ok (.invokevirtual 31, 3) := by decide +kernel
theorem dX4_property_4 : decode cX4_property 4 = .ok (.istore_n 2, 1) := by decide +kernel
theorem dX4_property_5 : decode cX4_property 5 = .ok (.iload_n 1, 1) := by decide +kernel
theorem dX4_property_6 : decode cX4_property 6 = .ok (.tableswitch 76 0 4 #[34, 39, 44, 49, 56], 34) := by decide +kernel
theorem dX4_property_40 : decode cX4_property 40 = .ok (.aload_n 0, 1) := by decide +kernel
theorem dX4_property_41 : decode cX4_property 41 = .ok (.getfield 18, 3) := by decide +kernel
theorem dX4_property_44 : decode cX4_property 44 = .ok (.ireturn, 1) := by decide +kernel
theorem dX4_property_45 : decode cX4_property 45 = .ok (.aload_n 0, 1) := by decide +kernel
theorem dX4_property_46 : decode cX4_property 46 = .ok (.getfield 22, 3) := by decide +kernel
theorem dX4_property_49 : decode cX4_property 49 = .ok (.ireturn, 1) := by decide +kernel
theorem dX4_property_50 : decode cX4_property 50 = .ok (.aload_n 0, 1) := by decide +kernel
theorem dX4_property_51 : decode cX4_property 51 = .ok (.getfield 25, 3) := by decide +kernel
theorem dX4_property_54 : decode cX4_property 54 = .ok (.ireturn, 1) := by decide +kernel
theorem dX4_property_55 : decode cX4_property 55 = .ok (.aload_n 0, 1) := by decide +kernel
theorem dX4_property_56 : decode cX4_property 56 = .ok (.getfield 28, 3) := by decide +kernel
theorem dX4_property_59 : decode cX4_property 59 = .ok (.iload_n 2, 1) := by decide +kernel
theorem dX4_property_60 : decode cX4_property 60 = .ok (.isub, 1) := by decide +kernel
theorem dX4_property_61 : decode cX4_property 61 = .ok (.ireturn, 1) := by decide +kernel
theorem dX4_property_62 : decode cX4_property 62 = .ok (.iload_n 2, 1) := by decide +kernel
theorem dX4_property_63 : decode cX4_property 63 = .ok (.aload_n 0, 1) := by decide +kernel
theorem dX4_property_64 : decode cX4_property 64 = .ok (.getfield 28, 3) := by decide +kernel
theorem dX4_property_67 : decode cX4_property 67 = .ok (.if_icmp .ge 12, 3) := by decide +kernel
theorem dX4_property_70 : decode cX4_property 70 = .ok (.aload_n 0, 1) := by decide +kernel
theorem dX4_property_71 : decode cX4_property 71 = .ok (.getfield 9, 3) := by decide +kernel
theorem dX4_property_74 : decode cX4_property 74 = .ok (.iload_n 2, 1) := by decide +kernel
theorem dX4_property_75 : decode cX4_property 75 = .ok (.iaload, 1) := by decide +kernel
theorem dX4_property_76 : decode cX4_property 76 = .ok (.goto 5, 3) := by decide +kernel
theorem dX4_property_79 : decode cX4_property 79 = .ok (.bipush (-4), 2) := by decide +kernel
theorem dX4_property_81 : decode cX4_property 81 = .ok (.ireturn, 1) := by decide +kernel
theorem dX4_property_82 : decode cX4_property 82 = .ok (.iload_n 2, 1) := by decide +kernel
theorem dX4_property_83 : decode cX4_property 83 = .ok (.aload_n 0, 1) := by decide +kernel
theorem dX4_property_84 : decode cX4_property 84 = .ok (.getfield 28, 3) := by decide +kernel
theorem dX4_property_87 : decode cX4_property 87 = .ok (.if_icmp .ge 12, 3) := by decide +kernel
theorem dX4_property_90 : decode cX4_property 90 = .ok (.aload_n 0, 1) := by decide +kernel
theorem dX4_property_91 : decode cX4_property 91 = .ok (.getfield 15, 3) := by decide +kernel
theorem dX4_property_94 : decode cX4_property 94 = .ok (.iload_n 2, 1) := by decide +kernel
theorem dX4_property_95 : decode cX4_property 95 = .ok (.iaload, 1) := by decide +kernel
theorem dX4_property_96 : decode cX4_property 96 = .ok (.goto 5, 3) := by decide +kernel
theorem dX4_property_99 : decode cX4_property 99 = .ok (.bipush (-4), 2) := by decide +kernel
theorem dX4_property_101 : decode cX4_property 101 = .ok (.ireturn, 1) := by decide +kernel
theorem dX4_breakingPlace_0 : decode cX4_breakingPlace 0 = .ok (.aload_n 0, 1) := by decide +kernel
theorem dX4_breakingPlace_1 : decode cX4_breakingPlace 1 = .ok (.invokevirtual 31, 3) := by decide +kernel
theorem dX4_breakingPlace_4 : decode cX4_breakingPlace 4 = .ok (.istore_n 3, 1) := by decide +kernel
theorem dX4_breakingPlace_5 : decode cX4_breakingPlace 5 = .ok (.iload_n 3, 1) := by decide +kernel
theorem dX4_breakingPlace_6 : decode cX4_breakingPlace 6 = .ok (.aload_n 0, 1) := by decide +kernel
theorem dX4_breakingPlace_7 : decode cX4_breakingPlace 7 = .ok (.getfield 28, 3) := by decide +kernel
theorem dX4_breakingPlace_10 : decode cX4_breakingPlace 10 = .ok (.if_icmp .ge 41, 3) := by decide +kernel
theorem dX4_breakingPlace_13 : decode cX4_breakingPlace 13 = .ok (.aload_n 0, 1) := by decide +kernel
theorem dX4_breakingPlace_14 : decode cX4_breakingPlace 14 = .ok (.getfield 9, 3) := by decide +kernel
theorem dX4_breakingPlace_17 : decode cX4_breakingPlace 17 = .ok (.iload_n 3, 1) := by decide +kernel
theorem dX4_breakingPlace_18 : decode cX4_breakingPlace 18 = .ok (.iaload, 1) := by decide +kernel
theorem dX4_breakingPlace_19 : decode cX4_breakingPlace 19 = .ok (.aload_n 0, 1) := by decide +kernel
theorem dX4_breakingPlace_20 : decode cX4_breakingPlace 20 = .ok (.getfield 25, 3) := by decide +kernel
theorem dX4_breakingPlace_23 : decode cX4_breakingPlace 23 = .ok (.iload_n 1, 1) := by decide +kernel
theorem dX4_breakingPlace_24 : decode cX4_breakingPlace 24 = .ok (.iadd, 1) := by decide +kernel
theorem dX4_breakingPlace_25 : decode cX4_breakingPlace 25 = .ok (.if_icmp .gt 26, 3) := by decide +kernel
theorem dX4_breakingPlace_28 : decode cX4_breakingPlace 28 = .ok (.aload_n 0, 1) := by decide +kernel
theorem dX4_breakingPlace_29 : decode cX4_breakingPlace 29 = .ok (.getfield 15, 3) := by decide +kernel
theorem dX4_breakingPlace_32 : decode cX4_breakingPlace 32 = .ok (.iload_n 3, 1) := by decide +kernel
theorem dX4_breakingPlace_33 : decode cX4_breakingPlace 33 = .ok (.iaload, 1) := by decide +kernel
theorem dX4_breakingPlace_34 : decode cX4_breakingPlace 34 = .ok (.iload_n 2, 1) := by decide +kernel
theorem dX4_breakingPlace_35 : decode cX4_breakingPlace 35 = .ok (.if_icmp .ge 10, 3) := by decide +kernel
theorem dX4_breakingPlace_38 : decode cX4_breakingPlace 38 = .ok (.aload_n 0, 1) := by decide +kernel
theorem dX4_breakingPlace_39 : decode cX4_breakingPlace 39 = .ok (.getfield 9, 3) := by decide +kernel
theorem dX4_breakingPlace_42 : decode cX4_breakingPlace 42 = .ok (.iload_n 3, 1) := by decide +kernel
theorem dX4_breakingPlace_43 : decode cX4_breakingPlace 43 = .ok (.iaload, 1) := by decide +kernel
theorem dX4_breakingPlace_44 : decode cX4_breakingPlace 44 = .ok (.ireturn, 1) := by decide +kernel
theorem dX4_breakingPlace_45 : decode cX4_breakingPlace 45 = .ok (.iinc 3 1, 3) := by decide +kernel
theorem dX4_breakingPlace_48 : decode cX4_breakingPlace 48 = .ok (.goto (-43), 3) := by decide +kernel
theorem dX4_breakingPlace_51 : decode cX4_breakingPlace 51 = .ok (.iconst (-1), 1) := by decide +kernel
theorem dX4_breakingPlace_52 : decode cX4_breakingPlace 52 = .ok (.ireturn, 1) := by decide +kernel
theorem dX5_init_0 : decode cX5_init 0 = .ok (.aload_n 0, 1) := by decide +kernel
theorem dX5_init_1 : decode cX5_init 1 = .ok (.invokespecial 3, 3) := by decide +kernel
theorem dX5_init_4 : decode cX5_init 4 = .ok (.aload_n 0, 1) := by decide +kernel
theorem dX5_init_5 : decode cX5_init 5 = .ok (.bipush 6, 2) := by decide +kernel
theorem dX5_init_7 : decode cX5_init 7 = .ok (.anewarray 9, 3) := by decide +kernel
theorem dX5_init_10 : decode cX5_init 10 = .ok (.putfield 11, 3) := by decide +kernel
theorem dX5_init_13 : decode cX5_init 13 = .ok (.iconst 0, 1) := by decide +kernel
theorem dX5_init_14 : decode cX5_init 14 = .ok (.istore_n 1, 1) := by decide +kernel
theorem dX5_init_15 : decode cX5_init 15 = .ok (.iload_n 1, 1) := by decide +kernel
theorem dX5_init_16 : decode cX5_init 16 = .ok (.bipush 6, 2) := by decide +kernel
theorem dX5_init_18 : decode cX5_init 18 = .ok (.if_icmp .ge 22, 3) := by decide +kernel
theorem dX5_init_21 : decode cX5_init 21 = .ok (.aload_n 0, 1) := by decide +kernel
theorem dX5_init_22 : decode cX5_init 22 = .ok (.getfield 11, 3) := by decide +kernel
theorem dX5_init_25 : decode cX5_init 25 = .ok (.iload_n 1, 1) := by decide +kernel
theorem dX5_init_26 : decode cX5_init 26 = .ok (.new 9, 3) := by decide +kernel
theorem dX5_init_29 : decode cX5_init 29 = .ok (.dup, 1) := by decide +kernel
theorem dX5_init_30 : decode cX5_init 30 = .ok (.invokespecial 17, 3) := by decide +kernel
theorem dX5_init_33 : decode cX5_init 33 = .ok (.aastore, 1) := by decide +kernel
theorem dX5_init_34 : decode cX5_init 34 = .ok (.iinc 1 1, 3) := by decide +kernel
theorem dX5_init_37 : decode cX5_init 37 = .ok (.goto (-22), 3) := by decide +kernel
theorem dX5_init_40 : decode cX5_init 40 = .ok (.aload_n 0, 1) := by decide +kernel
theorem dX5_init_41 : decode cX5_init 41 = .ok (.bipush 8, 2) := by decide +kernel
theorem dX5_init_43 : decode cX5_init 43 = .ok (.anewarray 18, 3) := by decide +kernel
theorem dX5_init_46 : decode cX5_init 46 = .ok (.putfield 20, 3) := by decide +kernel
theorem dX5_init_49 : decode cX5_init 49 = .ok (.iconst 0, 1) := by decide +kernel
theorem dX5_init_50 : decode cX5_init 50 = .ok (.istore_n 1, 1) := by decide +kernel
theorem dX5_init_51 : decode cX5_init 51 = .ok (.iload_n 1, 1) := by decide +kernel
theorem dX5_init_52 : decode cX5_init 52 = .ok (.bipush 8, 2) := by decide +kernel
theorem dX5_init_54 : decode cX5_init 54 = .ok (.if_icmp .ge 22, 3) := by decide +kernel
theorem dX5_init_57 : decode cX5_init 57 = .ok (.aload_n 0, 1) := by decide +kernel
theorem dX5_init_58 : decode cX5_init 58 = .ok (.getfield 20, 3) := by decide +kernel
theorem dX5_init_61 : decode cX5_init 61 = .ok (.iload_n 1, 1) := by decide +kernel
theorem dX5_init_62 : decode cX5_init 62 = .ok (.new 18, 3) := by decide +kernel
theorem dX5_init_65 : decode cX5_init 65 = .ok (.dup, 1) := by decide +kernel
theorem dX5_init_66 : decode cX5_init 66 = .ok (.invokespecial 24, 3) := by decide +kernel
theorem dX5_init_69 : decode cX5_init 69 = .ok (.aastore, 1) := by decide +kernel
theorem dX5_init_70 : decode cX5_init 70 = .ok (.iinc 1 1, 3) := by decide +kernel
theorem dX5_init_73 : decode cX5_init 73 = .ok (.goto (-22), 3) := by decide +kernel
theorem dX5_init_76 : decode cX5_init 76 = .ok (.aload_n 0, 1) := by decide +kernel
theorem dX5_init_77 : decode cX5_init 77 = .ok (.bipush 6, 2) := by decide +kernel
theorem dX5_init_79 : decode cX5_init 79 = .ok (.anewarray 25, 3) := by decide +kernel
theorem dX5_init_82 : decode cX5_init 82 = .ok (.putfield 27, 3) := by decide +kernel
theorem dX5_init_85 : decode cX5_init 85 = .ok (.iconst 0, 1) := by decide +kernel
theorem dX5_init_86 : decode cX5_init 86 = .ok (.istore_n 1, 1) := by decide +kernel
theorem dX5_init_87 : decode cX5_init 87 = .ok (.iload_n 1, 1) := by decide +kernel
theorem dX5_init_88 : decode cX5_init 88 = .ok (.bipush 6, 2) := by decide +kernel
theorem dX5_init_90 : decode cX5_init 90 = .ok (.if_icmp .ge 22, 3) := by decide +kernel
theorem dX5_init_93 : decode cX5_init 93 = .ok (.aload_n 0, 1) := by decide +kernel
theorem dX5_init_94 : decode cX5_init 94 = .ok (.getfield 27, 3) := by decide +kernel
theorem dX5_init_97 : decode cX5_init 97 = .ok (.iload_n 1, 1) := by decide +kernel
theorem dX5_init_98 : decode cX5_init 98 = .ok (.new 25, 3) := by decide +kernel
theorem dX5_init_101 : decode cX5_init 101 = .ok (.dup, 1) := by decide +kernel
theorem dX5_init_102 : decode cX5_init 102 = .ok (.invokespecial 31, 3) := by decide +kernel
theorem dX5_init_105 : decode cX5_init 105 = .ok (.aastore, 1) := by decide +kernel
theorem dX5_init_106 : decode cX5_init 106 = .ok (.iinc 1 1, 3) := by decide +kernel
theorem dX5_init_109 : decode cX5_init 109 = .ok (.goto (-22), 3) := by decide +kernel
theorem dX5_init_112 : decode cX5_init 112 = .ok (.aload_n 0, 1) := by decide +kernel
theorem dX5_init_113 : decode cX5_init 113 = .ok (.new 32, 3) := by decide +kernel
theorem dX5_init_116 : decode cX5_init 116 = .ok (.dup, 1) := by decide +kernel
theorem dX5_init_117 : decode cX5_init 117 = .ok (.invokespecial 34, 3) := by decide +kernel
theorem dX5_init_120 : decode cX5_init 120 = .ok (.putfield 35, 3) := by decide +kernel
theorem dX5_init_123 : decode cX5_init 123 = .ok (.aload_n 0, 1) := by decide +kernel
theorem dX5_init_124 : decode cX5_init 124 = .ok (.new 39, 3) := by decide +kernel
theorem dX5_init_127 : decode cX5_init 127 = .ok (.dup, 1) := by decide +kernel
theorem dX5_init_128 : decode cX5_init 128 = .ok (.invokespecial 41, 3) := by decide +kernel
theorem dX5_init_131 : decode cX5_init 131 = .ok (.putfield 42, 3) := by decide +kernel
theorem dX5_init_134 : decode cX5_init 134 = .ok (.aload_n 0, 1) := by decide +kernel
theorem dX5_init_135 : decode cX5_init 135 = .ok (.bipush 30, 2) := by decide +kernel
theorem dX5_init_137 : decode cX5_init 137 = .ok (.putfield 46, 3) := by decide +kernel
theorem dX5_init_140 : decode cX5_init 140 = .ok (.aload_n 0, 1) := by decide +kernel
theorem dX5_init_141 : decode cX5_init 141 = .ok (.iconst 3, 1) := by decide +kernel
theorem dX5_init_142 : decode cX5_init 142 = .ok (.putfield 50, 3) := by decide +kernel
theorem dX5_init_145 : decode cX5_init 145 = .ok (.return_, 1) := by decide +kernel
theorem dX5_copyFrom_0 : decode cX5_copyFrom 0 = .ok (.aload_n 0, 1) := by decide +kernel
theorem dX5_copyFrom_1 : decode cX5_copyFrom 1 = .ok (.aload_n 1, 1) := by decide +kernel
theorem dX5_copyFrom_2 : decode cX5_copyFrom 2 = .ok (.getfield 53, 3) := by decide +kernel
theorem dX5_copyFrom_5 : decode cX5_copyFrom 5 = .ok (.putfield 53, 3) := by decide +kernel
theorem dX5_copyFrom_8 : decode cX5_copyFrom 8 = .ok (.iconst 0, 1) := by decide +kernel
theorem dX5_copyFrom_9 : decode cX5_copyFrom 9 = .ok (.istore_n 2, 1) := by decide +kernel
theorem dX5_copyFrom_10 : decode cX5_copyFrom 10 = .ok (.iload_n 2, 1) := by decide +kernel
theorem dX5_copyFrom_11 : decode cX5_copyFrom 11 = .ok (.aload_n 0, 1) := by decide +kernel
theorem dX5_copyFrom_12 : decode cX5_copyFrom 12 = .ok (.getfield 53, 3) := by decide +kernel
theorem dX5_copyFrom_15 : decode cX5_copyFrom 15 = .ok (.if_icmp .ge 24, 3) := by decide +kernel
theorem dX5_copyFrom_18 : decode cX5_copyFrom 18 = .ok (.aload_n 0, 1) := by decide +kernel
theorem dX5_copyFrom_19 : decode cX5_copyFrom 19 = .ok (.getfield 11, 3) := by decide +kernel
theorem dX5_copyFrom_22 : decode cX5_copyFrom 22 = .ok (.iload_n 2, 1) := by decide +kernel
theorem dX5_copyFrom_23 : decode cX5_copyFrom 23 = .ok (.aaload, 1) := by decide +kernel
theorem dX5_copyFrom_24 : decode cX5_copyFrom 24 = .ok (.aload_n 1, 1) := by decide +kernel
theorem dX5_copyFrom_25 : decode cX5_copyFrom 25 = .ok (.getfield 11, 3) := by decide +kernel
theorem dX5_copyFrom_28 : decode cX5_copyFrom 28 = .ok (.iload_n 2, 1) := by decide +kernel
theorem dX5_copyFrom_29 : decode cX5_copyFrom 29 = .ok (.aaload, 1) := by decide +kernel
theorem dX5_copyFrom_30 : decode cX5_copyFrom 30 = .ok (.invokevirtual 56, 3) := by decide +kernel
theorem dX5_copyFrom_33 : decode cX5_copyFrom 33 = .ok (.iinc 2 1, 3) := by decide +kernel
theorem dX5_copyFrom_36 : decode cX5_copyFrom 36 = .ok (.goto (-26), 3) := by decide +kernel
theorem dX5_copyFrom_39 : decode cX5_copyFrom 39 = .ok (.aload_n 0, 1) := by decide +kernel
theorem dX5_copyFrom_40 : decode cX5_copyFrom 40 = .ok (.aload_n 1, 1) := by decide +kernel
theorem dX5_copyFrom_41 : decode cX5_copyFrom 41 = .ok (.getfield 60, 3) := by decide +kernel
theorem dX5_copyFrom_44 : decode cX5_copyFrom 44 = .ok (.putfield 60, 3) := by decide +kernel
theorem dX5_copyFrom_47 : decode cX5_copyFrom 47 = .ok (.iconst 0, 1) := by decide +kernel
theorem dX5_copyFrom_48 : decode cX5_copyFrom 48 = .ok (.istore_n 2, 1) := by decide +kernel
theorem dX5_copyFrom_49 : decode cX5_copyFrom 49 = .ok (.iload_n 2, 1) := by decide +kernel
theorem dX5_copyFrom_50 : decode cX5_copyFrom 50 = .ok (.aload_n 0, 1) := by decide +kernel
theorem dX5_copyFrom_51 : decode cX5_copyFrom 51 = .ok (.getfield 60, 3) := by decide +kernel
theorem dX5_copyFrom_54 : decode cX5_copyFrom 54 = .ok (.if_icmp .ge 24, 3) := by decide +kernel
theorem dX5_copyFrom_57 : decode cX5_copyFrom 57 = .ok (.aload_n 0, 1) := by decide +kernel
theorem dX5_copyFrom_58 : decode cX5_copyFrom 58 = .ok (.getfield 20, 3) := by decide +kernel
theorem dX5_copyFrom_61 : decode cX5_copyFrom 61 = .ok (.iload_n 2, 1) := by decide +kernel
theorem dX5_copyFrom_62 : decode cX5_copyFrom 62 = .ok (.aaload, 1) := by decide +kernel
theorem dX5_copyFrom_63 : decode cX5_copyFrom 63 = .ok (.aload_n 1, 1) := by decide +kernel
theorem dX5_copyFrom_64 : decode cX5_copyFrom 64 = .ok (.getfield 20, 3) := by decide +kernel
theorem dX5_copyFrom_67 : decode cX5_copyFrom 67 = .ok (.iload_n 2, 1) := by decide +kernel
theorem dX5_copyFrom_68 : decode cX5_copyFrom 68 = .ok (.aaload, 1) := by decide +kernel
theorem dX5_copyFrom_69 : decode cX5_copyFrom 69 = .ok (.invokevirtual 63, 3) := by decide +kernel
theorem dX5_copyFrom_72 : decode cX5_copyFrom 72 = .ok (.iinc 2 1, 3) := by decide +kernel
theorem dX5_copyFrom_75 : decode cX5_copyFrom 75 = .ok (.goto (-26), 3) := by decide +kernel
theorem dX5_copyFrom_78 : decode cX5_copyFrom 78 = .ok (.aload_n 0, 1) := by decide +kernel
theorem dX5_copyFrom_79 : decode cX5_copyFrom 79 = .ok (.aload_n 1, 1) := by decide +kernel
theorem dX5_copyFrom_80 : decode cX5_copyFrom 80 = .ok (.getfield 66, 3) := by decide +kernel
theorem dX5_copyFrom_83 : decode cX5_copyFrom 83 = .ok (.putfield 66, 3) := by decide +kernel
theorem dX5_copyFrom_86 : decode cX5_copyFrom 86 = .ok (.aload_n 0, 1) := by decide +kernel
theorem dX5_copyFrom_87 : decode cX5_copyFrom 87 = .ok (.aload_n 1, 1) := by decide +kernel
theorem dX5_copyFrom_88 : decode cX5_copyFrom 88 = .ok (.getfield 69, 3) := by decide +kernel
theorem dX5_copyFrom_91 : decode cX5_copyFrom 91 = .ok (.putfield 69, 3) := by decide +kernel
theorem dX5_copyFrom_94 : decode cX5_copyFrom 94 = .ok (.iconst 0, 1) := by decide +kernel
theorem dX5_copyFrom_95 : decode cX5_copyFrom 95 = .ok (.istore_n 2, 1) := by decide +kernel
theorem dX5_copyFrom_96 : decode cX5_copyFrom 96 = .ok (.iload_n 2, 1) := by decide +kernel
theorem dX5_copyFrom_97 : decode cX5_copyFrom 97 = .ok (.aload_n 0, 1) := by decide +kernel
theorem dX5_copyFrom_98 : decode cX5_copyFrom 98 = .ok (.getfield 69, 3) := by decide +kernel
theorem dX5_copyFrom_101 : decode cX5_copyFrom 101 = .ok (.if_icmp .ge 24, 3) := by decide +kernel
theorem dX5_copyFrom_104 : decode cX5_copyFrom 104 = .ok (.aload_n 0, 1) := by decide +kernel
theorem dX5_copyFrom_105 : decode cX5_copyFrom 105 = .ok (.getfield 27, 3) := by decide +kernel
theorem dX5_copyFrom_108 : decode cX5_copyFrom 108 = .ok (.iload_n 2, 1) := by decide +kernel
theorem dX5_copyFrom_109 : decode cX5_copyFrom 109 = .ok (.aaload, 1) := by decide +kernel
theorem dX5_copyFrom_110 : decode cX5_copyFrom 110 = .ok (.aload_n 1, 1) := by decide +kernel
theorem dX5_copyFrom_111 : decode cX5_copyFrom 111 = .ok (.getfield 27, 3) := by decide +kernel
theorem dX5_copyFrom_114 : decode cX5_copyFrom 114 = .ok (.iload_n 2, 1) := by decide +kernel
theorem dX5_copyFrom_115 : decode cX5_copyFrom 115 = .ok (.aaload, 1) := by decide +kernel
theorem dX5_copyFrom_116 : decode cX5_copyFrom 116 = .ok (.invokevirtual 72, 3) := by decide +kernel
theorem dX5_copyFrom_119 : decode cX5_copyFrom 119 = .ok (.iinc 2 1, 3) := by decide +kernel
theorem dX5_copyFrom_122 : decode cX5_copyFrom 122 = .ok (.goto (-26), 3) := by decide +kernel
theorem dX5_copyFrom_125 : decode cX5_copyFrom 125 = .ok (.aload_n 0, 1) := by decide +kernel
theorem dX5_copyFrom_126 : decode cX5_copyFrom 126 = .ok (.getfield 35, 3) := by decide +kernel
theorem dX5_copyFrom_129 : decode cX5_copyFrom 129 = .ok (.aload_n 1, 1) := by decide +kernel
theorem dX5_copyFrom_130 : decode cX5_copyFrom 130 = .ok (.getfield 35, 3) := by decide +kernel
theorem dX5_copyFrom_133 : decode cX5_copyFrom 133 = .ok (.invokevirtual 75, 3) := by decide +kernel
theorem dX5_copyFrom_136 : decode cX5_copyFrom 136 = .ok (.aload_n 0, 1) := by decide +kernel
theorem dX5_copyFrom_137 : decode cX5_copyFrom 137 = .ok (.getfield 42, 3) := by decide +kernel
theorem dX5_copyFrom_140 : decode cX5_copyFrom 140 = .ok (.aload_n 1, 1) := by decide +kernel
theorem dX5_copyFrom_141 : decode cX5_copyFrom 141 = .ok (.getfield 42, 3) := by decide +kernel
theorem dX5_copyFrom_144 : decode cX5_copyFrom 144 = .ok (.invokevirtual 78, 3) := by decide +kernel
theorem dX5_copyFrom_147 : decode cX5_copyFrom 147 = .ok (.aload_n 0, 1) := by decide +kernel
theorem dX5_copyFrom_148 : decode cX5_copyFrom 148 = .ok (.aload_n 1, 1) := by decide +kernel
theorem dX5_copyFrom_149 : decode cX5_copyFrom 149 = .ok (.getfield 46, 3) := by decide +kernel
theorem dX5_copyFrom_152 : decode cX5_copyFrom 152 = .ok (.putfield 46, 3) := by decide +kernel
theorem dX5_copyFrom_155 : decode cX5_copyFrom 155 = .ok (.aload_n 0, 1) := by decide +kernel
theorem dX5_copyFrom_156 : decode cX5_copyFrom 156 = .ok (.aload_n 1, 1) := by decide +kernel
theorem dX5_copyFrom_157 : decode cX5_copyFrom 157 = .ok (.getfield 50, 3) := by decide +kernel
theorem dX5_copyFrom_160 : decode cX5_copyFrom 160 = .ok (.putfield 50, 3) := by decide +kernel
theorem dX5_copyFrom_163 : decode cX5_copyFrom 163 = .ok (.return_, 1) := by decide +kernel
theorem dX5_appendRoll_0 : decode cX5_appendRoll 0 = .ok (.aload_n 0, 1) := by decide +kernel
theorem dX5_appendRoll_1 : decode cX5_appendRoll 1 = .ok (.getfield 53, 3) := by decide +kernel
theorem dX5_appendRoll_4 : decode cX5_appendRoll 4 = .ok (.bipush 6, 2) := by decide +kernel
theorem dX5_appendRoll_6 : decode cX5_appendRoll 6 = .ok (.if_icmp .ge 27, 3) := by decide +kernel
theorem dX5_appendRoll_9 : decode cX5_appendRoll 9 = .ok (.aload_n 0, 1) := by decide +kernel
theorem dX5_appendRoll_10 : decode cX5_appendRoll 10 = .ok (.getfield 11, 3) := by decide +kernel
theorem dX5_appendRoll_13 : decode cX5_appendRoll 13 = .ok (.aload_n 0, 1) := by decide +kernel
theorem dX5_appendRoll_14 : decode cX5_appendRoll 14 = .ok (.getfield 53, 3) := by decide +kernel
theorem dX5_appendRoll_17 : decode cX5_appendRoll 17 = .ok (.aaload, 1) := by decide +kernel
theorem dX5_appendRoll_18 : decode cX5_appendRoll 18 = .ok (.iload_n 1, 1) := by decide +kernel
theorem dX5_appendRoll_19 : decode cX5_appendRoll 19 = .ok (.iload_n 2, 1) := by decide +kernel
theorem dX5_appendRoll_20 : decode cX5_appendRoll 20 = .ok (.invokevirtual 81, 3) := by decide +kernel
theorem dX5_appendRoll_23 : decode cX5_appendRoll 23 = .ok (.aload_n 0, 1) := by decide +kernel
theorem dX5_appendRoll_24 : decode cX5_appendRoll 24 = .ok (.dup, 1) := by decide +kernel
theorem dX5_appendRoll_25 : decode cX5_appendRoll 25 = .ok (.getfield 53, 3) := by decide +kernel
theorem dX5_appendRoll_28 : decode cX5_appendRoll 28 = .ok (.iconst 1, 1) := by decide +kernel
theorem dX5_appendRoll_29 : decode cX5_appendRoll 29 = .ok (.iadd, 1) := by decide +kernel
theorem dX5_appendRoll_30 : decode cX5_appendRoll 30 = .ok (.putfield 53, 3) := by decide +kernel
theorem dX5_appendRoll_33 : decode cX5_appendRoll 33 = .ok (.return_, 1) := by decide +kernel
theorem dX5_removePresentRoll_0 : decode cX5_removePresentRoll 0 = .ok (.aload_n 0, 1) := by decide +kernel
theorem dX5_removePresentRoll_1 : decode cX5_removePresentRoll 1 = .ok (.getfield 11, 3) := by decide +kernel
theorem dX5_removePresentRoll_4 : decode cX5_removePresentRoll 4 = .ok (.iconst 0, 1) := by decide +kernel
theorem dX5_removePresentRoll_5 : decode cX5_removePresentRoll 5 = .ok (.aaload, 1) := by decide +kernel
theorem dX5_removePresentRoll_6 : decode cX5_removePresentRoll 6 = .ok (.astore_n 1, 1) := by decide +kernel
theorem dX5_removePresentRoll_7 : decode cX5_removePresentRoll 7 = .ok (.iconst 1, 1) := by decide +kernel
theorem dX5_removePresentRoll_8 : decode cX5_removePresentRoll 8 = .ok (.istore_n 2, 1) := by decide +kernel
theorem dX5_removePresentRoll_9 : decode cX5_removePresentRoll 9 = .ok (.iload_n 2, 1) := by decide +kernel
theorem dX5_removePresentRoll_10 : decode cX5_removePresentRoll 10 = .ok (.aload_n 0, 1) := by decide +kernel
theorem dX5_removePresentRoll_11 : decode cX5_removePresentRoll 11 = .ok (.getfield 53, 3) := by decide +kernel
theorem dX5_removePresentRoll_14 : decode cX5_removePresentRoll 14 = .ok (.if_icmp .ge 23, 3) := by decide +kernel
theorem dX5_removePresentRoll_17 : decode cX5_removePresentRoll 17 = .ok (.aload_n 0, 1) := by decide +kernel
theorem dX5_removePresentRoll_18 : decode cX5_removePresentRoll 18 = .ok (.getfield 11, 3) := by decide +kernel
theorem dX5_removePresentRoll_21 : decode cX5_removePresentRoll 21 = .ok (.iload_n 2, 1) := by decide +kernel
theorem dX5_removePresentRoll_22 : decode cX5_removePresentRoll 22 = .ok (.iconst 1, 1) := by decide +kernel
theorem dX5_removePresentRoll_23 : decode cX5_removePresentRoll 23 = .ok (.isub, 1) := by decide +kernel
theorem dX5_removePresentRoll_24 : decode cX5_removePresentRoll 24 = .ok (.aload_n 0, 1) := by decide +kernel
theorem dX5_removePresentRoll_25 : decode cX5_removePresentRoll 25 = .ok (.getfield 11, 3) := by decide +kernel
theorem dX5_removePresentRoll_28 : decode cX5_removePresentRoll 28 = .ok (.iload_n 2, 1) := by decide +kernel
theorem dX5_removePresentRoll_29 : decode cX5_removePresentRoll 29 = .ok (.aaload, 1) := by decide +kernel
theorem dX5_removePresentRoll_30 : decode cX5_removePresentRoll 30 = .ok (.aastore, 1) := by decide +kernel
theorem dX5_removePresentRoll_31 : decode cX5_removePresentRoll 31 = .ok (.iinc 2 1, 3) := by decide +kernel
theorem dX5_removePresentRoll_34 : decode cX5_removePresentRoll 34 = .ok (.goto (-25), 3) := by decide +kernel
theorem dX5_removePresentRoll_37 : decode cX5_removePresentRoll 37 = .ok (.aload_n 0, 1) := by decide +kernel
theorem dX5_removePresentRoll_38 : decode cX5_removePresentRoll 38 = .ok (.dup, 1) := by decide +kernel
theorem dX5_removePresentRoll_39 : decode cX5_removePresentRoll 39 = .ok (.getfield 53, 3) := by decide +kernel
theorem dX5_removePresentRoll_42 : decode cX5_removePresentRoll 42 = .ok (.iconst 1, 1) := by decide +kernel
theorem dX5_removePresentRoll_43 : decode cX5_removePresentRoll 43 = .ok (.isub, 1) := by decide +kernel
theorem dX5_removePresentRoll_44 : decode cX5_removePresentRoll 44 = .ok (.putfield 53, 3) := by decide +kernel
theorem dX5_removePresentRoll_47 : decode cX5_removePresentRoll 47 = .ok (.aload_n 0, 1) := by decide +kernel
theorem dX5_removePresentRoll_48 : decode cX5_removePresentRoll 48 = .ok (.getfield 11, 3) := by decide +kernel
theorem dX5_removePresentRoll_51 : decode cX5_removePresentRoll 51 = .ok (.aload_n 0, 1) := by decide +kernel
theorem dX5_removePresentRoll_52 : decode cX5_removePresentRoll 52 = .ok (.getfield 53, 3) := by decide +kernel
theorem dX5_removePresentRoll_55 : decode cX5_removePresentRoll 55 = .ok (.aload_n 1, 1) := by decide +kernel
theorem dX5_removePresentRoll_56 : decode cX5_removePresentRoll 56 = .ok (.aastore, 1) := by decide +kernel
theorem dX5_removePresentRoll_57 : decode cX5_removePresentRoll 57 = .ok (.return_, 1) := by decide +kernel
theorem dX5_insertPallet_0 : decode cX5_insertPallet 0 = .ok (.aload_n 0, 1) := by decide +kernel
theorem dX5_insertPallet_1 : decode cX5_insertPallet 1 = .ok (.getfield 60, 3) := by decide +kernel
theorem dX5_insertPallet_4 : decode cX5_insertPallet 4 = .ok (.bipush 7, 2) := by decide +kernel
theorem dX5_insertPallet_6 : decode cX5_insertPallet 6 = .ok (.invokestatic 85, 3) := by decide +kernel
theorem dX5_insertPallet_9 : decode cX5_insertPallet 9 = .ok (.istore_n 2, 1) := by decide +kernel
theorem dX5_insertPallet_10 : decode cX5_insertPallet 10 = .ok (.aload_n 0, 1) := by decide +kernel
theorem dX5_insertPallet_11 : decode cX5_insertPallet 11 = .ok (.getfield 20, 3) := by decide +kernel
theorem dX5_insertPallet_14 : decode cX5_insertPallet 14 = .ok (.iload_n 2, 1) := by decide +kernel
theorem dX5_insertPallet_15 : decode cX5_insertPallet 15 = .ok (.aaload, 1) := by decide +kernel
theorem dX5_insertPallet_16 : decode cX5_insertPallet 16 = .ok (.astore_n 3, 1) := by decide +kernel
theorem dX5_insertPallet_17 : decode cX5_insertPallet 17 = .ok (.iload_n 2, 1) := by decide +kernel
theorem dX5_insertPallet_18 : decode cX5_insertPallet 18 = .ok (.ifCond .le 38, 3) := by decide +kernel
theorem dX5_insertPallet_21 : decode cX5_insertPallet 21 = .ok (.aload_n 0, 1) := by decide +kernel
theorem dX5_insertPallet_22 : decode cX5_insertPallet 22 = .ok (.getfield 20, 3) := by decide +kernel
theorem dX5_insertPallet_25 : decode cX5_insertPallet 25 = .ok (.iload_n 2, 1) := by decide +kernel
theorem dX5_insertPallet_26 : decode cX5_insertPallet 26 = .ok (.iconst 1, 1) := by decide +kernel
theorem dX5_insertPallet_27 : decode cX5_insertPallet 27 = .ok (.isub, 1) := by decide +kernel
theorem dX5_insertPallet_28 : decode cX5_insertPallet 28 = .ok (.aaload, 1) := by decide +kernel
theorem dX5_insertPallet_29 : decode cX5_insertPallet 29 = .ok (.getfield 91, 3) := by decide +kernel
theorem dX5_insertPallet_32 : decode cX5_insertPallet 32 = .ok (.iload_n 1, 1) := by decide +kernel
theorem dX5_insertPallet_33 : decode cX5_insertPallet 33 = .ok (.if_icmp .le 23, 3) := by decide +kernel
theorem dX5_insertPallet_36 : decode cX5_insertPallet 36 = .ok (.aload_n 0, 1) := by decide +kernel
theorem dX5_insertPallet_37 : decode cX5_insertPallet 37 = .ok (.getfield 20, 3) := by decide +kernel
theorem dX5_insertPallet_40 : decode cX5_insertPallet 40 = .ok (.iload_n 2, 1) := by decide +kernel
theorem dX5_insertPallet_41 : decode cX5_insertPallet 41 = .ok (.aload_n 0, 1) := by decide +kernel
theorem dX5_insertPallet_42 : decode cX5_insertPallet 42 = .ok (.getfield 20, 3) := by decide +kernel
theorem dX5_insertPallet_45 : decode cX5_insertPallet 45 = .ok (.iload_n 2, 1) := by decide +kernel
theorem dX5_insertPallet_46 : decode cX5_insertPallet 46 = .ok (.iconst 1, 1) := by decide +kernel
theorem dX5_insertPallet_47 : decode cX5_insertPallet 47 = .ok (.isub, 1) := by decide +kernel
theorem dX5_insertPallet_48 : decode cX5_insertPallet 48 = .ok (.aaload, 1) := by decide +kernel
theorem dX5_insertPallet_49 : decode cX5_insertPallet 49 = .ok (.aastore, 1) := by decide +kernel
theorem dX5_insertPallet_50 : decode cX5_insertPallet 50 = .ok (.iinc 2 (-1), 3) := by decide +kernel
theorem dX5_insertPallet_53 : decode cX5_insertPallet 53 = .ok (.goto (-36), 3) := by decide +kernel
theorem dX5_insertPallet_56 : decode cX5_insertPallet 56 = .ok (.aload_n 0, 1) := by decide +kernel
theorem dX5_insertPallet_57 : decode cX5_insertPallet 57 = .ok (.getfield 20, 3) := by decide +kernel
theorem dX5_insertPallet_60 : decode cX5_insertPallet 60 = .ok (.iload_n 2, 1) := by decide +kernel
theorem dX5_insertPallet_61 : decode cX5_insertPallet 61 = .ok (.aload_n 3, 1) := by decide +kernel
theorem dX5_insertPallet_62 : decode cX5_insertPallet 62 = .ok (.aastore, 1) := by decide +kernel
theorem dX5_insertPallet_63 : decode cX5_insertPallet 63 = .ok (.aload_n 0, 1) := by decide +kernel
theorem dX5_insertPallet_64 : decode cX5_insertPallet 64 = .ok (.aload_n 0, 1) := by decide +kernel
theorem dX5_insertPallet_65 : decode cX5_insertPallet 65 = .ok (.getfield 60, 3) := by decide +kernel
theorem dX5_insertPallet_68 : decode cX5_insertPallet 68 = .ok (.iconst 1, 1) := by decide +kernel
theorem dX5_insertPallet_69 : decode cX5_insertPallet 69 = .ok (.iadd, 1) := by decide +kernel
theorem dX5_insertPallet_70 : decode cX5_insertPallet 70 = .ok (.bipush 8, 2) := by decide +kernel
theorem dX5_insertPallet_72 : decode cX5_insertPallet 72 = .ok (.invokestatic 85, 3) := by decide +kernel
theorem dX5_insertPallet_75 : decode cX5_insertPallet 75 = .ok (.putfield 60, 3) := by decide +kernel
theorem dX5_insertPallet_78 : decode cX5_insertPallet 78 = .ok (.aload_n 3, 1) := by decide +kernel
theorem dX5_insertPallet_79 : decode cX5_insertPallet 79 = .ok (.aload_n 0, 1) := by decide +kernel
theorem dX5_insertPallet_80 : decode cX5_insertPallet 80 = .ok (.getfield 66, 3) := by decide +kernel
theorem dX5_insertPallet_83 : decode cX5_insertPallet 83 = .ok (.putfield 94, 3) := by decide +kernel
theorem dX5_insertPallet_86 : decode cX5_insertPallet 86 = .ok (.aload_n 3, 1) := by decide +kernel
theorem dX5_insertPallet_87 : decode cX5_insertPallet 87 = .ok (.iload_n 1, 1) := by decide +kernel
theorem dX5_insertPallet_88 : decode cX5_insertPallet 88 = .ok (.putfield 91, 3) := by decide +kernel
theorem dX5_insertPallet_91 : decode cX5_insertPallet 91 = .ok (.aload_n 0, 1) := by decide +kernel
theorem dX5_insertPallet_92 : decode cX5_insertPallet 92 = .ok (.dup, 1) := by decide +kernel
theorem dX5_insertPallet_93 : decode cX5_insertPallet 93 = .ok (.getfield 66, 3) := by decide +kernel
theorem dX5_insertPallet_96 : decode cX5_insertPallet 96 = .ok (.iconst 1, 1) := by decide +kernel
theorem dX5_insertPallet_97 : decode cX5_insertPallet 97 = .ok (.iadd, 1) := by decide +kernel
theorem dX5_insertPallet_98 : decode cX5_insertPallet 98 = .ok (.putfield 66, 3) := by decide +kernel
theorem dX5_insertPallet_101 : decode cX5_insertPallet 101 = .ok (.aload_n 3, 1) := by decide +kernel
theorem dX5_insertPallet_102 : decode cX5_insertPallet 102 = .ok (.areturn, 1) := by decide +kernel
theorem dX5_indexOfPallet_0 : decode cX5_indexOfPallet 0 = .ok (.iconst 0, 1) := by decide +kernel
theorem dX5_indexOfPallet_1 : decode cX5_indexOfPallet 1 = .ok (.istore_n 2, 1) := by decide +kernel
theorem dX5_indexOfPallet_2 : decode cX5_indexOfPallet 2 = .ok (.iload_n 2, 1) := by decide +kernel
theorem dX5_indexOfPallet_3 : decode cX5_indexOfPallet 3 = .ok (.aload_n 0, 1) := by decide +kernel
theorem dX5_indexOfPallet_4 : decode cX5_indexOfPallet 4 = .ok (.getfield 60, 3) := by decide +kernel
theorem dX5_indexOfPallet_7 : decode cX5_indexOfPallet 7 = .ok (.if_icmp .ge 24, 3) := by decide +kernel
theorem dX5_indexOfPallet_10 : decode cX5_indexOfPallet 10 = .ok (.aload_n 0, 1) := by decide +kernel
theorem dX5_indexOfPallet_11 : decode cX5_indexOfPallet 11 = .ok (.getfield 20, 3) := by decide +kernel
theorem dX5_indexOfPallet_14 : decode cX5_indexOfPallet 14 = .ok (.iload_n 2, 1) := by decide +kernel
theorem dX5_indexOfPallet_15 : decode cX5_indexOfPallet 15 = .ok (.aaload, 1) := by decide +kernel
theorem dX5_indexOfPallet_16 : decode cX5_indexOfPallet 16 = .ok (.getfield 94, 3) := by decide +kernel
theorem dX5_indexOfPallet_19 : decode cX5_indexOfPallet 19 = .ok (.iload_n 1, 1) := by decide +kernel
theorem dX5_indexOfPallet_20 : decode cX5_indexOfPallet 20 = .ok (.if_icmp .ne 5, 3) := by decide +kernel
theorem dX5_indexOfPallet_23 : decode cX5_indexOfPallet 23 = .ok (.iload_n 2, 1) := by decide +kernel
theorem dX5_indexOfPallet_24 : decode cX5_indexOfPallet 24 = .ok (.ireturn, 1) := by decide +kernel
theorem dX5_indexOfPallet_25 : decode cX5_indexOfPallet 25 = .ok (.iinc 2 1, 3) := by decide +kernel
theorem dX5_indexOfPallet_28 : decode cX5_indexOfPallet 28 = .ok (.goto (-26), 3) := by decide +kernel
theorem dX5_indexOfPallet_31 : decode cX5_indexOfPallet 31 = .ok (.iconst (-1), 1) := by decide +kernel
theorem dX5_indexOfPallet_32 : decode cX5_indexOfPallet 32 = .ok (.ireturn, 1) := by decide +kernel
theorem dX5_removePallet_0 : decode cX5_removePallet 0 = .ok (.aload_n 0, 1) := by decide +kernel
theorem dX5_removePallet_1 : decode cX5_removePallet 1 = .ok (.getfield 20, 3) := by decide +kernel
theorem dX5_removePallet_4 : decode cX5_removePallet 4 = .ok (.iload_n 1, 1) := by decide +kernel
theorem dX5_removePallet_5 : decode cX5_removePallet 5 = .ok (.aaload, 1) := by decide +kernel
theorem dX5_removePallet_6 : decode cX5_removePallet 6 = .ok (.astore_n 2, 1) := by decide +kernel
theorem dX5_removePallet_7 : decode cX5_removePallet 7 = .ok (.iload_n 1, 1) := by decide +kernel
theorem dX5_removePallet_8 : decode cX5_removePallet 8 = .ok (.iconst 1, 1) := by decide +kernel
theorem dX5_removePallet_9 : decode cX5_removePallet 9 = .ok (.iadd, 1) := by decide +kernel
theorem dX5_removePallet_10 : decode cX5_removePallet 10 = .ok (.istore_n 3, 1) := by decide +kernel
theorem dX5_removePallet_11 : decode cX5_removePallet 11 = .ok (.iload_n 3, 1) := by decide +kernel
theorem dX5_removePallet_12 : decode cX5_removePallet 12 = .ok (.aload_n 0, 1) := by decide +kernel
theorem dX5_removePallet_13 : decode cX5_removePallet 13 = .ok (.getfield 60, 3) := by decide +kernel
theorem dX5_removePallet_16 : decode cX5_removePallet 16 = .ok (.if_icmp .ge 23, 3) := by decide +kernel
theorem dX5_removePallet_19 : decode cX5_removePallet 19 = .ok (.aload_n 0, 1) := by decide +kernel
theorem dX5_removePallet_20 : decode cX5_removePallet 20 = .ok (.getfield 20, 3) := by decide +kernel
theorem dX5_removePallet_23 : decode cX5_removePallet 23 = .ok (.iload_n 3, 1) := by decide +kernel
theorem dX5_removePallet_24 : decode cX5_removePallet 24 = .ok (.iconst 1, 1) := by decide +kernel
theorem dX5_removePallet_25 : decode cX5_removePallet 25 = .ok (.isub, 1) := by decide +kernel
theorem dX5_removePallet_26 : decode cX5_removePallet 26 = .ok (.aload_n 0, 1) := by decide +kernel
theorem dX5_removePallet_27 : decode cX5_removePallet 27 = .ok (.getfield 20, 3) := by decide +kernel
theorem dX5_removePallet_30 : decode cX5_removePallet 30 = .ok (.iload_n 3, 1) := by decide +kernel
theorem dX5_removePallet_31 : decode cX5_removePallet 31 = .ok (.aaload, 1) := by decide +kernel
theorem dX5_removePallet_32 : decode cX5_removePallet 32 = .ok (.aastore, 1) := by decide +kernel
theorem dX5_removePallet_33 : decode cX5_removePallet 33 = .ok (.iinc 3 1, 3) := by decide +kernel
theorem dX5_removePallet_36 : decode cX5_removePallet 36 = .ok (.goto (-25), 3) := by decide +kernel
theorem dX5_removePallet_39 : decode cX5_removePallet 39 = .ok (.aload_n 0, 1) := by decide +kernel
theorem dX5_removePallet_40 : decode cX5_removePallet 40 = .ok (.dup, 1) := by decide +kernel
theorem dX5_removePallet_41 : decode cX5_removePallet 41 = .ok (.getfield 60, 3) := by decide +kernel
theorem dX5_removePallet_44 : decode cX5_removePallet 44 = .ok (.iconst 1, 1) := by decide +kernel
theorem dX5_removePallet_45 : decode cX5_removePallet 45 = .ok (.isub, 1) := by decide +kernel
theorem dX5_removePallet_46 : decode cX5_removePallet 46 = .ok (.putfield 60, 3) := by decide +kernel
theorem dX5_removePallet_49 : decode cX5_removePallet 49 = .ok (.aload_n 0, 1) := by decide +kernel
theorem dX5_removePallet_50 : decode cX5_removePallet 50 = .ok (.getfield 20, 3) := by decide +kernel
theorem dX5_removePallet_53 : decode cX5_removePallet 53 = .ok (.aload_n 0, 1) := by decide +kernel
theorem dX5_removePallet_54 : decode cX5_removePallet 54 = .ok (.getfield 60, 3) := by decide +kernel
theorem dX5_removePallet_57 : decode cX5_removePallet 57 = .ok (.aload_n 2, 1) := by decide +kernel
theorem dX5_removePallet_58 : decode cX5_removePallet 58 = .ok (.aastore, 1) := by decide +kernel
theorem dX5_removePallet_59 : decode cX5_removePallet 59 = .ok (.return_, 1) := by decide +kernel
theorem dX5_keepNewResult_0 : decode cX5_keepNewResult 0 = .ok (.aload_n 0, 1) := by decide +kernel
theorem dX5_keepNewResult_1 : decode cX5_keepNewResult 1 = .ok (.getfield 27, 3) := by decide +kernel
theorem dX5_keepNewResult_4 : decode cX5_keepNewResult 4 = .ok (.iconst 5, 1) := by decide +kernel
theorem dX5_keepNewResult_5 : decode cX5_keepNewResult 5 = .ok (.aaload, 1) := by decide +kernel
theorem dX5_keepNewResult_6 : decode cX5_keepNewResult 6 = .ok (.astore_n 1, 1) := by decide +kernel
theorem dX5_keepNewResult_7 : decode cX5_keepNewResult 7 = .ok (.iconst 5, 1) := by decide +kernel
theorem dX5_keepNewResult_8 : decode cX5_keepNewResult 8 = .ok (.istore_n 2, 1) := by decide +kernel
theorem dX5_keepNewResult_9 : decode cX5_keepNewResult 9 = .ok (.iload_n 2, 1) := by decide +kernel
theorem dX5_keepNewResult_10 : decode cX5_keepNewResult 10 = .ok (.ifCond .le 23, 3) := by decide +kernel
theorem dX5_keepNewResult_13 : decode cX5_keepNewResult 13 = .ok (.aload_n 0, 1) := by decide +kernel
theorem dX5_keepNewResult_14 : decode cX5_keepNewResult 14 = .ok (.getfield 27, 3) := by decide +kernel
theorem dX5_keepNewResult_17 : decode cX5_keepNewResult 17 = .ok (.iload_n 2, 1) := by decide +kernel
theorem dX5_keepNewResult_18 : decode cX5_keepNewResult 18 = .ok (.aload_n 0, 1) := by decide +kernel
theorem dX5_keepNewResult_19 : decode cX5_keepNewResult 19 = .ok (.getfield 27, 3) := by decide +kernel
theorem dX5_keepNewResult_22 : decode cX5_keepNewResult 22 = .ok (.iload_n 2, 1) := by decide +kernel
theorem dX5_keepNewResult_23 : decode cX5_keepNewResult 23 = .ok (.iconst 1, 1) := by decide +kernel
theorem dX5_keepNewResult_24 : decode cX5_keepNewResult 24 = .ok (.isub, 1) := by decide +kernel
theorem dX5_keepNewResult_25 : decode cX5_keepNewResult 25 = .ok (.aaload, 1) := by decide +kernel
theorem dX5_keepNewResult_26 : decode cX5_keepNewResult 26 = .ok (.aastore, 1) := by decide +kernel
theorem dX5_keepNewResult_27 : decode cX5_keepNewResult 27 = .ok (.iinc 2 (-1), 3) := by decide +kernel
theorem dX5_keepNewResult_30 : decode cX5_keepNewResult 30 = .ok (.goto (-21), 3) := by decide +kernel
theorem dX5_keepNewResult_33 : decode cX5_keepNewResult 33 = .ok (.aload_n 0, 1) := by decide +kernel
theorem dX5_keepNewResult_34 : decode cX5_keepNewResult 34 = .ok (.getfield 27, 3) := by decide +kernel
theorem dX5_keepNewResult_37 : decode cX5_keepNewResult 37 = .ok (.iconst 0, 1) := by decide +kernel
theorem dX5_keepNewResult_38 : decode cX5_keepNewResult 38 = .ok (.aload_n 1, 1) := by decide +kernel
theorem dX5_keepNewResult_39 : decode cX5_keepNewResult 39 = .ok (.aastore, 1) := by decide +kernel
theorem dX5_keepNewResult_40 : decode cX5_keepNewResult 40 = .ok (.aload_n 0, 1) := by decide +kernel
theorem dX5_keepNewResult_41 : decode cX5_keepNewResult 41 = .ok (.aload_n 0, 1) := by decide +kernel
theorem dX5_keepNewResult_42 : decode cX5_keepNewResult 42 = .ok (.getfield 69, 3) := by decide +kernel
theorem dX5_keepNewResult_45 : decode cX5_keepNewResult 45 = .ok (.iconst 1, 1) := by decide +kernel
theorem dX5_keepNewResult_46 : decode cX5_keepNewResult 46 = .ok (.iadd, 1) := by decide +kernel
theorem dX5_keepNewResult_47 : decode cX5_keepNewResult 47 = .ok (.bipush 6, 2) := by decide +kernel
theorem dX5_keepNewResult_49 : decode cX5_keepNewResult 49 = .ok (.invokestatic 85, 3) := by decide +kernel
theorem dX5_keepNewResult_52 : decode cX5_keepNewResult 52 = .ok (.putfield 69, 3) := by decide +kernel
theorem dX5_keepNewResult_55 : decode cX5_keepNewResult 55 = .ok (.aload_n 1, 1) := by decide +kernel
theorem dX5_keepNewResult_56 : decode cX5_keepNewResult 56 = .ok (.areturn, 1) := by decide +kernel
theorem dX5_wrapNext_0 : decode cX5_wrapNext 0 = .ok (.aload_n 0, 1) := by decide +kernel
theorem dX5_wrapNext_1 : decode cX5_wrapNext 1 = .ok (.getfield 20, 3) := by decide +kernel
theorem dX5_wrapNext_4 : decode cX5_wrapNext 4 = .ok (.iconst 0, 1) := by decide +kernel
theorem dX5_wrapNext_5 : decode cX5_wrapNext 5 = .ok (.aaload, 1) := by decide +kernel
theorem dX5_wrapNext_6 : decode cX5_wrapNext 6 = .ok (.astore_n 2, 1) := by decide +kernel
theorem dX5_wrapNext_7 : decode cX5_wrapNext 7 = .ok (.aload_n 0, 1) := by decide +kernel
theorem dX5_wrapNext_8 : decode cX5_wrapNext 8 = .ok (.invokevirtual 97, 3) := by decide +kernel
theorem dX5_wrapNext_11 : decode cX5_wrapNext 11 = .ok (.astore_n 3, 1) := by decide +kernel
theorem dX5_wrapNext_12 : decode cX5_wrapNext 12 = .ok (.aload_n 3, 1) := by decide +kernel
theorem dX5_wrapNext_13 : decode cX5_wrapNext 13 = .ok (.aload_n 2, 1) := by decide +kernel
theorem dX5_wrapNext_14 : decode cX5_wrapNext 14 = .ok (.invokevirtual 101, 3) := by decide +kernel
theorem dX5_wrapNext_17 : decode cX5_wrapNext 17 = .ok (.aload_n 1, 1) := by decide +kernel
theorem dX5_wrapNext_18 : decode cX5_wrapNext 18 = .ok (.aload_n 0, 1) := by decide +kernel
theorem dX5_wrapNext_19 : decode cX5_wrapNext 19 = .ok (.getfield 35, 3) := by decide +kernel
theorem dX5_wrapNext_22 : decode cX5_wrapNext 22 = .ok (.aload_n 2, 1) := by decide +kernel
theorem dX5_wrapNext_23 : decode cX5_wrapNext 23 = .ok (.invokevirtual 103, 3) := by decide +kernel
theorem dX5_wrapNext_26 : decode cX5_wrapNext 26 = .ok (.invokevirtual 107, 3) := by decide +kernel
theorem dX5_wrapNext_29 : decode cX5_wrapNext 29 = .ok (.iconst 0, 1) := by decide +kernel
theorem dX5_wrapNext_30 : decode cX5_wrapNext 30 = .ok (.istore 4, 2) := by decide +kernel
theorem dX5_wrapNext_32 : decode cX5_wrapNext 32 = .ok (.iload 4, 2) := by decide +kernel
theorem dX5_wrapNext_34 : decode cX5_wrapNext 34 = .ok (.ldc 112, 2) := by decide +kernel
theorem dX5_wrapNext_36 : decode cX5_wrapNext 36 = .ok (.if_icmp .ge 30, 3) := by decide +kernel
theorem dX5_wrapNext_39 : decode cX5_wrapNext 39 = .ok (.aload_n 3, 1) := by decide +kernel
theorem dX5_wrapNext_40 : decode cX5_wrapNext 40 = .ok (.getfield 113, 3) := by decide +kernel
theorem dX5_wrapNext_43 : decode cX5_wrapNext 43 = .ok (.ifCond .ne 23, 3) := by decide +kernel
theorem dX5_wrapNext_46 : decode cX5_wrapNext 46 = .ok (.aload_n 1, 1) := by decide +kernel
theorem dX5_wrapNext_47 : decode cX5_wrapNext 47 = .ok (.invokevirtual 116, 3) := by decide +kernel
theorem dX5_wrapNext_50 : decode cX5_wrapNext 50 = .ok (.ifCond .eq 16, 3) := by decide +kernel
theorem dX5_wrapNext_53 : decode cX5_wrapNext 53 = .ok (.aload_n 0, 1) := by decide +kernel
theorem dX5_wrapNext_54 : decode cX5_wrapNext 54 = .ok (.aload_n 2, 1) := by decide +kernel
theorem dX5_wrapNext_55 : decode cX5_wrapNext 55 = .ok (.aload_n 1, 1) := by decide +kernel
theorem dX5_wrapNext_56 : decode cX5_wrapNext 56 = .ok (.aload_n 3, 1) := by decide +kernel
theorem dX5_wrapNext_57 : decode cX5_wrapNext 57 = .ok (.invokevirtual 120, 3) := by decide +kernel
theorem dX5_wrapNext_60 : decode cX5_wrapNext 60 = .ok (.iinc 4 1, 3) := by decide +kernel
theorem dX5_wrapNext_63 : decode cX5_wrapNext 63 = .ok (.goto (-31), 3) := by decide +kernel
theorem dX5_wrapNext_66 : decode cX5_wrapNext 66 = .ok (.aload_n 0, 1) := by decide +kernel
theorem dX5_wrapNext_67 : decode cX5_wrapNext 67 = .ok (.iconst 0, 1) := by decide +kernel
theorem dX5_wrapNext_68 : decode cX5_wrapNext 68 = .ok (.invokevirtual 124, 3) := by decide +kernel
theorem dX5_wrapNext_71 : decode cX5_wrapNext 71 = .ok (.aload_n 0, 1) := by decide +kernel
theorem dX5_wrapNext_72 : decode cX5_wrapNext 72 = .ok (.getfield 42, 3) := by decide +kernel
theorem dX5_wrapNext_75 : decode cX5_wrapNext 75 = .ok (.aload_n 3, 1) := by decide +kernel
theorem dX5_wrapNext_76 : decode cX5_wrapNext 76 = .ok (.invokevirtual 128, 3) := by decide +kernel
theorem dX5_wrapNext_79 : decode cX5_wrapNext 79 = .ok (.aload_n 3, 1) := by decide +kernel
theorem dX5_wrapNext_80 : decode cX5_wrapNext 80 = .ok (.getfield 113, 3) := by decide +kernel
theorem dX5_wrapNext_83 : decode cX5_wrapNext 83 = .ok (.ireturn, 1) := by decide +kernel
theorem dX5_turnOnce_0 : decode cX5_turnOnce 0 = .ok (.aload_n 2, 1) := by decide +kernel
theorem dX5_turnOnce_1 : decode cX5_turnOnce 1 = .ok (.getfield 131, 3) := by decide +kernel
theorem dX5_turnOnce_4 : decode cX5_turnOnce 4 = .ok (.aload_n 3, 1) := by decide +kernel
theorem dX5_turnOnce_5 : decode cX5_turnOnce 5 = .ok (.getfield 134, 3) := by decide +kernel
theorem dX5_turnOnce_8 : decode cX5_turnOnce 8 = .ok (.invokestatic 137, 3) := by decide +kernel
theorem dX5_turnOnce_11 : decode cX5_turnOnce 11 = .ok (.istore 4, 2) := by decide +kernel
theorem dX5_turnOnce_13 : decode cX5_turnOnce 13 = .ok (.aload_n 1, 1) := by decide +kernel
theorem dX5_turnOnce_14 : decode cX5_turnOnce 14 = .ok (.getfield 140, 3) := by decide +kernel
theorem dX5_turnOnce_17 : decode cX5_turnOnce 17 = .ok (.aload_n 3, 1) := by decide +kernel
theorem dX5_turnOnce_18 : decode cX5_turnOnce 18 = .ok (.aload_n 2, 1) := by decide +kernel
theorem dX5_turnOnce_19 : decode cX5_turnOnce 19 = .ok (.getfield 131, 3) := by decide +kernel
theorem dX5_turnOnce_22 : decode cX5_turnOnce 22 = .ok (.invokestatic 143, 3) := by decide +kernel
theorem dX5_turnOnce_25 : decode cX5_turnOnce 25 = .ok (.iload 4, 2) := by decide +kernel
theorem dX5_turnOnce_27 : decode cX5_turnOnce 27 = .ok (.invokevirtual 147, 3) := by decide +kernel
theorem dX5_turnOnce_30 : decode cX5_turnOnce 30 = .ok (.isub, 1) := by decide +kernel
theorem dX5_turnOnce_31 : decode cX5_turnOnce 31 = .ok (.istore 5, 2) := by decide +kernel
theorem dX5_turnOnce_33 : decode cX5_turnOnce 33 = .ok (.aload_n 2, 1) := by decide +kernel
theorem dX5_turnOnce_34 : decode cX5_turnOnce 34 = .ok (.getfield 150, 3) := by decide +kernel
theorem dX5_turnOnce_37 : decode cX5_turnOnce 37 = .ok (.iload 5, 2) := by decide +kernel
theorem dX5_turnOnce_39 : decode cX5_turnOnce 39 = .ok (.invokestatic 153, 3) := by decide +kernel
theorem dX5_turnOnce_42 : decode cX5_turnOnce 42 = .ok (.istore 6, 2) := by decide +kernel
theorem dX5_turnOnce_44 : decode cX5_turnOnce 44 = .ok (.iload 6, 2) := by decide +kernel
theorem dX5_turnOnce_46 : decode cX5_turnOnce 46 = .ok (.ifCond .ne 21, 3) := by decide +kernel
theorem dX5_turnOnce_49 : decode cX5_turnOnce 49 = .ok (.aload_n 2, 1) := by decide +kernel
theorem dX5_turnOnce_50 : decode cX5_turnOnce 50 = .ok (.getfield 150, 3) := by decide +kernel
theorem dX5_turnOnce_53 : decode cX5_turnOnce 53 = .ok (.ifCond .eq 14, 3) := by decide +kernel
theorem dX5_turnOnce_56 : decode cX5_turnOnce 56 = .ok (.aload_n 3, 1) := by decide +kernel
theorem dX5_turnOnce_57 : decode cX5_turnOnce 57 = .ok (.dup, 1) := by decide +kernel
theorem dX5_turnOnce_58 : decode cX5_turnOnce 58 = .ok (.getfield 156, 3) := by decide +kernel
theorem dX5_turnOnce_61 : decode cX5_turnOnce 61 = .ok (.iconst 1, 1) := by decide +kernel
theorem dX5_turnOnce_62 : decode cX5_turnOnce 62 = .ok (.iadd, 1) := by decide +kernel
theorem dX5_turnOnce_63 : decode cX5_turnOnce 63 = .ok (.putfield 156, 3) := by decide +kernel
theorem dX5_turnOnce_66 : decode cX5_turnOnce 66 = .ok (.return_, 1) := by decide +kernel
theorem dX5_turnOnce_67 : decode cX5_turnOnce 67 = .ok (.aload_n 3, 1) := by decide +kernel
theorem dX5_turnOnce_68 : decode cX5_turnOnce 68 = .ok (.aload_n 0, 1) := by decide +kernel
theorem dX5_turnOnce_69 : decode cX5_turnOnce 69 = .ok (.aload_n 1, 1) := by decide +kernel
theorem dX5_turnOnce_70 : decode cX5_turnOnce 70 = .ok (.aload_n 2, 1) := by decide +kernel
theorem dX5_turnOnce_71 : decode cX5_turnOnce 71 = .ok (.getfield 159, 3) := by decide +kernel
theorem dX5_turnOnce_74 : decode cX5_turnOnce 74 = .ok (.invokevirtual 162, 3) := by decide +kernel
theorem dX5_turnOnce_77 : decode cX5_turnOnce 77 = .ok (.iload 6, 2) := by decide +kernel
theorem dX5_turnOnce_79 : decode cX5_turnOnce 79 = .ok (.aload_n 3, 1) := by decide +kernel
theorem dX5_turnOnce_80 : decode cX5_turnOnce 80 = .ok (.invokevirtual 165, 3) := by decide +kernel
theorem dX5_turnOnce_83 : decode cX5_turnOnce 83 = .ok (.putfield 113, 3) := by decide +kernel
theorem dX5_turnOnce_86 : decode cX5_turnOnce 86 = .ok (.aload_n 3, 1) := by decide +kernel
theorem dX5_turnOnce_87 : decode cX5_turnOnce 87 = .ok (.getfield 113, 3) := by decide +kernel
theorem dX5_turnOnce_90 : decode cX5_turnOnce 90 = .ok (.ifCond .ne 39, 3) := by decide +kernel
theorem dX5_turnOnce_93 : decode cX5_turnOnce 93 = .ok (.aload_n 3, 1) := by decide +kernel
theorem dX5_turnOnce_94 : decode cX5_turnOnce 94 = .ok (.dup, 1) := by decide +kernel
theorem dX5_turnOnce_95 : decode cX5_turnOnce 95 = .ok (.getfield 169, 3) := by decide +kernel
theorem dX5_turnOnce_98 : decode cX5_turnOnce 98 = .ok (.iconst 1, 1) := by decide +kernel
theorem dX5_turnOnce_99 : decode cX5_turnOnce 99 = .ok (.iadd, 1) := by decide +kernel
theorem dX5_turnOnce_100 : decode cX5_turnOnce 100 = .ok (.putfield 169, 3) := by decide +kernel
theorem dX5_turnOnce_103 : decode cX5_turnOnce 103 = .ok (.aload_n 3, 1) := by decide +kernel
theorem dX5_turnOnce_104 : decode cX5_turnOnce 104 = .ok (.dup, 1) := by decide +kernel
theorem dX5_turnOnce_105 : decode cX5_turnOnce 105 = .ok (.getfield 172, 3) := by decide +kernel
theorem dX5_turnOnce_108 : decode cX5_turnOnce 108 = .ok (.aload_n 1, 1) := by decide +kernel
theorem dX5_turnOnce_109 : decode cX5_turnOnce 109 = .ok (.invokevirtual 175, 3) := by decide +kernel
theorem dX5_turnOnce_112 : decode cX5_turnOnce 112 = .ok (.iadd, 1) := by decide +kernel
theorem dX5_turnOnce_113 : decode cX5_turnOnce 113 = .ok (.putfield 172, 3) := by decide +kernel
theorem dX5_turnOnce_116 : decode cX5_turnOnce 116 = .ok (.aload_n 3, 1) := by decide +kernel
theorem dX5_turnOnce_117 : decode cX5_turnOnce 117 = .ok (.aload_n 2, 1) := by decide +kernel
theorem dX5_turnOnce_118 : decode cX5_turnOnce 118 = .ok (.getfield 131, 3) := by decide +kernel
theorem dX5_turnOnce_121 : decode cX5_turnOnce 121 = .ok (.iload 6, 2) := by decide +kernel
theorem dX5_turnOnce_123 : decode cX5_turnOnce 123 = .ok (.invokestatic 178, 3) := by decide +kernel
theorem dX5_turnOnce_126 : decode cX5_turnOnce 126 = .ok (.invokevirtual 181, 3) := by decide +kernel
theorem dX5_turnOnce_129 : decode cX5_turnOnce 129 = .ok (.return_, 1) := by decide +kernel
theorem dX5_fetchFilm_0 : decode cX5_fetchFilm 0 = .ok (.iconst 0, 1) := by decide +kernel
theorem dX5_fetchFilm_1 : decode cX5_fetchFilm 1 = .ok (.istore 4, 2) := by decide +kernel
theorem dX5_fetchFilm_3 : decode cX5_fetchFilm 3 = .ok (.iload 4, 2) := by decide +kernel
theorem dX5_fetchFilm_5 : decode cX5_fetchFilm 5 = .ok (.ldc 112, 2) := by decide +kernel
theorem dX5_fetchFilm_7 : decode cX5_fetchFilm 7 = .ok (.if_icmp .ge 123, 3) := by decide +kernel
theorem dX5_fetchFilm_10 : decode cX5_fetchFilm 10 = .ok (.aload_n 0, 1) := by decide +kernel
theorem dX5_fetchFilm_11 : decode cX5_fetchFilm 11 = .ok (.getfield 53, 3) := by decide +kernel
theorem dX5_fetchFilm_14 : decode cX5_fetchFilm 14 = .ok (.ifCond .le 116, 3) := by decide +kernel
theorem dX5_fetchFilm_17 : decode cX5_fetchFilm 17 = .ok (.aload_n 0, 1) := by decide +kernel
theorem dX5_fetchFilm_18 : decode cX5_fetchFilm 18 = .ok (.getfield 11, 3) := by decide +kernel
theorem dX5_fetchFilm_21 : decode cX5_fetchFilm 21 = .ok (.iconst 0, 1) := by decide +kernel
theorem dX5_fetchFilm_22 : decode cX5_fetchFilm 22 = .ok (.aaload, 1) := by decide +kernel
theorem dX5_fetchFilm_23 : decode cX5_fetchFilm 23 = .ok (.invokevirtual 184, 3) := by decide +kernel
theorem dX5_fetchFilm_26 : decode cX5_fetchFilm 26 = .ok (.iload_n 1, 1) := by decide +kernel
theorem dX5_fetchFilm_27 : decode cX5_fetchFilm 27 = .ok (.if_icmp .ge 11, 3) := by decide +kernel
theorem dX5_fetchFilm_30 : decode cX5_fetchFilm 30 = .ok (.aload_n 0, 1) := by decide +kernel
theorem dX5_fetchFilm_31 : decode cX5_fetchFilm 31 = .ok (.aload_n 3, 1) := by decide +kernel
theorem dX5_fetchFilm_32 : decode cX5_fetchFilm 32 = .ok (.invokevirtual 187, 3) := by decide +kernel
theorem dX5_fetchFilm_35 : decode cX5_fetchFilm 35 = .ok (.goto 89, 3) := by decide +kernel
theorem dX5_fetchFilm_38 : decode cX5_fetchFilm 38 = .ok (.aload_n 0, 1) := by decide +kernel
theorem dX5_fetchFilm_39 : decode cX5_fetchFilm 39 = .ok (.getfield 11, 3) := by decide +kernel
theorem dX5_fetchFilm_42 : decode cX5_fetchFilm 42 = .ok (.iconst 0, 1) := by decide +kernel
theorem dX5_fetchFilm_43 : decode cX5_fetchFilm 43 = .ok (.aaload, 1) := by decide +kernel
theorem dX5_fetchFilm_44 : decode cX5_fetchFilm 44 = .ok (.iload_n 1, 1) := by decide +kernel
theorem dX5_fetchFilm_45 : decode cX5_fetchFilm 45 = .ok (.iload_n 2, 1) := by decide +kernel
theorem dX5_fetchFilm_46 : decode cX5_fetchFilm 46 = .ok (.invokevirtual 190, 3) := by decide +kernel
theorem dX5_fetchFilm_49 : decode cX5_fetchFilm 49 = .ok (.istore 5, 2) := by decide +kernel
theorem dX5_fetchFilm_51 : decode cX5_fetchFilm 51 = .ok (.iload 5, 2) := by decide +kernel
theorem dX5_fetchFilm_53 : decode cX5_fetchFilm 53 = .ok (.iconst (-1), 1) := by decide +kernel
theorem dX5_fetchFilm_54 : decode cX5_fetchFilm 54 = .ok (.if_icmp .ne 50, 3) := by decide +kernel
theorem dX5_fetchFilm_57 : decode cX5_fetchFilm 57 = .ok (.aload_n 0, 1) := by decide +kernel
theorem dX5_fetchFilm_58 : decode cX5_fetchFilm 58 = .ok (.getfield 11, 3) := by decide +kernel
theorem dX5_fetchFilm_61 : decode cX5_fetchFilm 61 = .ok (.iconst 0, 1) := by decide +kernel
theorem dX5_fetchFilm_62 : decode cX5_fetchFilm 62 = .ok (.aaload, 1) := by decide +kernel
theorem dX5_fetchFilm_63 : decode cX5_fetchFilm 63 = .ok (.dup, 1) := by decide +kernel
theorem dX5_fetchFilm_64 : decode cX5_fetchFilm 64 = .ok (.getfield 193, 3) := by decide +kernel
theorem dX5_fetchFilm_67 : decode cX5_fetchFilm 67 = .ok (.iload_n 1, 1) := by decide +kernel
theorem dX5_fetchFilm_68 : decode cX5_fetchFilm 68 = .ok (.iadd, 1) := by decide +kernel
theorem dX5_fetchFilm_69 : decode cX5_fetchFilm 69 = .ok (.putfield 193, 3) := by decide +kernel
theorem dX5_fetchFilm_72 : decode cX5_fetchFilm 72 = .ok (.aload_n 3, 1) := by decide +kernel
theorem dX5_fetchFilm_73 : decode cX5_fetchFilm 73 = .ok (.dup, 1) := by decide +kernel
theorem dX5_fetchFilm_74 : decode cX5_fetchFilm 74 = .ok (.getfield 196, 3) := by decide +kernel
theorem dX5_fetchFilm_77 : decode cX5_fetchFilm 77 = .ok (.iload_n 1, 1) := by decide +kernel
theorem dX5_fetchFilm_78 : decode cX5_fetchFilm 78 = .ok (.iadd, 1) := by decide +kernel
theorem dX5_fetchFilm_79 : decode cX5_fetchFilm 79 = .ok (.putfield 196, 3) := by decide +kernel
theorem dX5_fetchFilm_82 : decode cX5_fetchFilm 82 = .ok (.aload_n 3, 1) := by decide +kernel
theorem dX5_fetchFilm_83 : decode cX5_fetchFilm 83 = .ok (.dup, 1) := by decide +kernel
theorem dX5_fetchFilm_84 : decode cX5_fetchFilm 84 = .ok (.getfield 199, 3) := by decide +kernel
theorem dX5_fetchFilm_87 : decode cX5_fetchFilm 87 = .ok (.iload_n 1, 1) := by decide +kernel
theorem dX5_fetchFilm_88 : decode cX5_fetchFilm 88 = .ok (.aload_n 0, 1) := by decide +kernel
theorem dX5_fetchFilm_89 : decode cX5_fetchFilm 89 = .ok (.getfield 11, 3) := by decide +kernel
theorem dX5_fetchFilm_92 : decode cX5_fetchFilm 92 = .ok (.iconst 0, 1) := by decide +kernel
theorem dX5_fetchFilm_93 : decode cX5_fetchFilm 93 = .ok (.aaload, 1) := by decide +kernel
theorem dX5_fetchFilm_94 : decode cX5_fetchFilm 94 = .ok (.getfield 202, 3) := by decide +kernel
theorem dX5_fetchFilm_97 : decode cX5_fetchFilm 97 = .ok (.imul, 1) := by decide +kernel
theorem dX5_fetchFilm_98 : decode cX5_fetchFilm 98 = .ok (.iadd, 1) := by decide +kernel
theorem dX5_fetchFilm_99 : decode cX5_fetchFilm 99 = .ok (.putfield 199, 3) := by decide +kernel
theorem dX5_fetchFilm_102 : decode cX5_fetchFilm 102 = .ok (.iconst 0, 1) := by decide +kernel
theorem dX5_fetchFilm_103 : decode cX5_fetchFilm 103 = .ok (.ireturn, 1) := by decide +kernel
theorem dX5_fetchFilm_104 : decode cX5_fetchFilm 104 = .ok (.aload_n 0, 1) := by decide +kernel
theorem dX5_fetchFilm_105 : decode cX5_fetchFilm 105 = .ok (.iload 5, 2) := by decide +kernel
theorem dX5_fetchFilm_107 : decode cX5_fetchFilm 107 = .ok (.aload_n 3, 1) := by decide +kernel
theorem dX5_fetchFilm_108 : decode cX5_fetchFilm 108 = .ok (.invokevirtual 203, 3) := by decide +kernel
theorem dX5_fetchFilm_111 : decode cX5_fetchFilm 111 = .ok (.aload_n 3, 1) := by decide +kernel
theorem dX5_fetchFilm_112 : decode cX5_fetchFilm 112 = .ok (.getfield 207, 3) := by decide +kernel
theorem dX5_fetchFilm_115 : decode cX5_fetchFilm 115 = .ok (.aload_n 0, 1) := by decide +kernel
theorem dX5_fetchFilm_116 : decode cX5_fetchFilm 116 = .ok (.getfield 50, 3) := by decide +kernel
theorem dX5_fetchFilm_119 : decode cX5_fetchFilm 119 = .ok (.if_icmp .le 5, 3) := by decide +kernel
theorem dX5_fetchFilm_122 : decode cX5_fetchFilm 122 = .ok (.iconst 2, 1) := by decide +kernel
theorem dX5_fetchFilm_123 : decode cX5_fetchFilm 123 = .ok (.ireturn, 1) := by decide +kernel
theorem dX5_fetchFilm_124 : decode cX5_fetchFilm 124 = .ok (.iinc 4 1, 3) := by decide +kernel
theorem dX5_fetchFilm_127 : decode cX5_fetchFilm 127 = .ok (.goto (-124), 3) := by decide +kernel
theorem dX5_fetchFilm_130 : decode cX5_fetchFilm 130 = .ok (.iconst 1, 1) := by decide +kernel
theorem dX5_fetchFilm_131 : decode cX5_fetchFilm 131 = .ok (.ireturn, 1) := by decide +kernel
theorem dX5_changeRoll_0 : decode cX5_changeRoll 0 = .ok (.aload_n 1, 1) := by decide +kernel
theorem dX5_changeRoll_1 : decode cX5_changeRoll 1 = .ok (.dup, 1) := by decide +kernel
theorem dX5_changeRoll_2 : decode cX5_changeRoll 2 = .ok (.getfield 210, 3) := by decide +kernel
theorem dX5_changeRoll_5 : decode cX5_changeRoll 5 = .ok (.aload_n 0, 1) := by decide +kernel
theorem dX5_changeRoll_6 : decode cX5_changeRoll 6 = .ok (.getfield 11, 3) := by decide +kernel
theorem dX5_changeRoll_9 : decode cX5_changeRoll 9 = .ok (.iconst 0, 1) := by decide +kernel
theorem dX5_changeRoll_10 : decode cX5_changeRoll 10 = .ok (.aaload, 1) := by decide +kernel
theorem dX5_changeRoll_11 : decode cX5_changeRoll 11 = .ok (.invokevirtual 184, 3) := by decide +kernel
theorem dX5_changeRoll_14 : decode cX5_changeRoll 14 = .ok (.iadd, 1) := by decide +kernel
theorem dX5_changeRoll_15 : decode cX5_changeRoll 15 = .ok (.putfield 210, 3) := by decide +kernel
theorem dX5_changeRoll_18 : decode cX5_changeRoll 18 = .ok (.aload_n 1, 1) := by decide +kernel
theorem dX5_changeRoll_19 : decode cX5_changeRoll 19 = .ok (.dup, 1) := by decide +kernel
theorem dX5_changeRoll_20 : decode cX5_changeRoll 20 = .ok (.getfield 213, 3) := by decide +kernel
theorem dX5_changeRoll_23 : decode cX5_changeRoll 23 = .ok (.iconst 1, 1) := by decide +kernel
theorem dX5_changeRoll_24 : decode cX5_changeRoll 24 = .ok (.iadd, 1) := by decide +kernel
theorem dX5_changeRoll_25 : decode cX5_changeRoll 25 = .ok (.putfield 213, 3) := by decide +kernel
theorem dX5_changeRoll_28 : decode cX5_changeRoll 28 = .ok (.aload_n 1, 1) := by decide +kernel
theorem dX5_changeRoll_29 : decode cX5_changeRoll 29 = .ok (.dup, 1) := by decide +kernel
theorem dX5_changeRoll_30 : decode cX5_changeRoll 30 = .ok (.getfield 172, 3) := by decide +kernel
theorem dX5_changeRoll_33 : decode cX5_changeRoll 33 = .ok (.bipush 60, 2) := by decide +kernel
theorem dX5_changeRoll_35 : decode cX5_changeRoll 35 = .ok (.iadd, 1) := by decide +kernel
theorem dX5_changeRoll_36 : decode cX5_changeRoll 36 = .ok (.putfield 172, 3) := by decide +kernel
theorem dX5_changeRoll_39 : decode cX5_changeRoll 39 = .ok (.aload_n 0, 1) := by decide +kernel
theorem dX5_changeRoll_40 : decode cX5_changeRoll 40 = .ok (.invokevirtual 216, 3) := by decide +kernel
theorem dX5_changeRoll_43 : decode cX5_changeRoll 43 = .ok (.return_, 1) := by decide +kernel
theorem dX5_breakFilm_0 : decode cX5_breakFilm 0 = .ok (.aload_n 0, 1) := by decide +kernel
theorem dX5_breakFilm_1 : decode cX5_breakFilm 1 = .ok (.getfield 11, 3) := by decide +kernel
theorem dX5_breakFilm_4 : decode cX5_breakFilm 4 = .ok (.iconst 0, 1) := by decide +kernel
theorem dX5_breakFilm_5 : decode cX5_breakFilm 5 = .ok (.aaload, 1) := by decide +kernel
theorem dX5_breakFilm_6 : decode cX5_breakFilm 6 = .ok (.astore_n 3, 1) := by decide +kernel
theorem dX5_breakFilm_7 : decode cX5_breakFilm 7 = .ok (.aload_n 2, 1) := by decide +kernel
theorem dX5_breakFilm_8 : decode cX5_breakFilm 8 = .ok (.dup, 1) := by decide +kernel
theorem dX5_breakFilm_9 : decode cX5_breakFilm 9 = .ok (.getfield 219, 3) := by decide +kernel
theorem dX5_breakFilm_12 : decode cX5_breakFilm 12 = .ok (.iload_n 1, 1) := by decide +kernel
theorem dX5_breakFilm_13 : decode cX5_breakFilm 13 = .ok (.aload_n 3, 1) := by decide +kernel
theorem dX5_breakFilm_14 : decode cX5_breakFilm 14 = .ok (.getfield 193, 3) := by decide +kernel
theorem dX5_breakFilm_17 : decode cX5_breakFilm 17 = .ok (.isub, 1) := by decide +kernel
theorem dX5_breakFilm_18 : decode cX5_breakFilm 18 = .ok (.iadd, 1) := by decide +kernel
theorem dX5_breakFilm_19 : decode cX5_breakFilm 19 = .ok (.putfield 219, 3) := by decide +kernel
theorem dX5_breakFilm_22 : decode cX5_breakFilm 22 = .ok (.aload_n 3, 1) := by decide +kernel
theorem dX5_breakFilm_23 : decode cX5_breakFilm 23 = .ok (.iload_n 1, 1) := by decide +kernel
theorem dX5_breakFilm_24 : decode cX5_breakFilm 24 = .ok (.putfield 193, 3) := by decide +kernel
theorem dX5_breakFilm_27 : decode cX5_breakFilm 27 = .ok (.aload_n 0, 1) := by decide +kernel
theorem dX5_breakFilm_28 : decode cX5_breakFilm 28 = .ok (.getfield 46, 3) := by decide +kernel
theorem dX5_breakFilm_31 : decode cX5_breakFilm 31 = .ok (.aload_n 3, 1) := by decide +kernel
theorem dX5_breakFilm_32 : decode cX5_breakFilm 32 = .ok (.invokevirtual 184, 3) := by decide +kernel
theorem dX5_breakFilm_35 : decode cX5_breakFilm 35 = .ok (.invokestatic 85, 3) := by decide +kernel
theorem dX5_breakFilm_38 : decode cX5_breakFilm 38 = .ok (.istore 4, 2) := by decide +kernel
theorem dX5_breakFilm_40 : decode cX5_breakFilm 40 = .ok (.aload_n 2, 1) := by decide +kernel
theorem dX5_breakFilm_41 : decode cX5_breakFilm 41 = .ok (.dup, 1) := by decide +kernel
theorem dX5_breakFilm_42 : decode cX5_breakFilm 42 = .ok (.getfield 222, 3) := by decide +kernel
theorem dX5_breakFilm_45 : decode cX5_breakFilm 45 = .ok (.iload 4, 2) := by decide +kernel
theorem dX5_breakFilm_47 : decode cX5_breakFilm 47 = .ok (.iadd, 1) := by decide +kernel
theorem dX5_breakFilm_48 : decode cX5_breakFilm 48 = .ok (.putfield 222, 3) := by decide +kernel
theorem dX5_breakFilm_51 : decode cX5_breakFilm 51 = .ok (.aload_n 3, 1) := by decide +kernel
theorem dX5_breakFilm_52 : decode cX5_breakFilm 52 = .ok (.dup, 1) := by decide +kernel
theorem dX5_breakFilm_53 : decode cX5_breakFilm 53 = .ok (.getfield 193, 3) := by decide +kernel
theorem dX5_breakFilm_56 : decode cX5_breakFilm 56 = .ok (.iload 4, 2) := by decide +kernel
theorem dX5_breakFilm_58 : decode cX5_breakFilm 58 = .ok (.iadd, 1) := by decide +kernel
theorem dX5_breakFilm_59 : decode cX5_breakFilm 59 = .ok (.putfield 193, 3) := by decide +kernel
theorem dX5_breakFilm_62 : decode cX5_breakFilm 62 = .ok (.aload_n 2, 1) := by decide +kernel
theorem dX5_breakFilm_63 : decode cX5_breakFilm 63 = .ok (.dup, 1) := by decide +kernel
theorem dX5_breakFilm_64 : decode cX5_breakFilm 64 = .ok (.getfield 207, 3) := by decide +kernel
theorem dX5_breakFilm_67 : decode cX5_breakFilm 67 = .ok (.iconst 1, 1) := by decide +kernel
theorem dX5_breakFilm_68 : decode cX5_breakFilm 68 = .ok (.iadd, 1) := by decide +kernel
theorem dX5_breakFilm_69 : decode cX5_breakFilm 69 = .ok (.putfield 207, 3) := by decide +kernel
theorem dX5_breakFilm_72 : decode cX5_breakFilm 72 = .ok (.aload_n 2, 1) := by decide +kernel
theorem dX5_breakFilm_73 : decode cX5_breakFilm 73 = .ok (.dup, 1) := by decide +kernel
theorem dX5_breakFilm_74 : decode cX5_breakFilm 74 = .ok (.getfield 172, 3) := by decide +kernel
theorem dX5_breakFilm_77 : decode cX5_breakFilm 77 = .ok (.bipush 40, 2) := by decide +kernel
theorem dX5_breakFilm_79 : decode cX5_breakFilm 79 = .ok (.iadd, 1) := by decide +kernel
theorem dX5_breakFilm_80 : decode cX5_breakFilm 80 = .ok (.putfield 172, 3) := by decide +kernel
theorem dX5_breakFilm_83 : decode cX5_breakFilm 83 = .ok (.return_, 1) := by decide +kernel
theorem dX6_init_0 : decode cX6_init 0 = .ok (.aload_n 0, 1) := by decide +kernel
theorem dX6_init_1 : decode cX6_init 1 = .ok (.invokespecial 3, 3) := by decide +kernel
theorem dX6_init_4 : decode cX6_init 4 = .ok (.return_, 1) := by decide +kernel
theorem dX6_add_0 : decode cX6_add 0 = .ok (.aload_n 0, 1) := by decide +kernel
theorem dX6_add_1 : decode cX6_add 1 = .ok (.dup, 1) := by decide +kernel
theorem dX6_add_2 : decode cX6_add 2 = .ok (.getfield 9, 3) := by decide +kernel
theorem dX6_add_5 : decode cX6_add 5 = .ok (.iconst 1, 1) := by decide +kernel
theorem dX6_add_6 : decode cX6_add 6 = .ok (.iadd, 1) := by decide +kernel
theorem dX6_add_7 : decode cX6_add 7 = .ok (.putfield 9, 3) := by decide +kernel
theorem dX6_add_10 : decode cX6_add 10 = .ok (.aload_n 0, 1) := by decide +kernel
theorem dX6_add_11 : decode cX6_add 11 = .ok (.dup, 1) := by decide +kernel
theorem dX6_add_12 : decode cX6_add 12 = .ok (.getfield 15, 3) := by decide +kernel
theorem dX6_add_15 : decode cX6_add 15 = .ok (.aload_n 1, 1) := by decide +kernel
theorem dX6_add_16 : decode cX6_add 16 = .ok (.getfield 18, 3) := by decide +kernel
theorem dX6_add_19 : decode cX6_add 19 = .ok (.ifCond .ne 7, 3) := by decide +kernel
theorem dX6_add_22 : decode cX6_add 22 = .ok (.iconst 0, 1) := by decide +kernel
theorem dX6_add_23 : decode cX6_add 23 = .ok (.goto 4, 3) := by decide +kernel
theorem dX6_add_26 : decode cX6_add 26 = .ok (.iconst 1, 1) := by decide +kernel
theorem dX6_add_27 : decode cX6_add 27 = .ok (.iadd, 1) := by decide +kernel
theorem dX6_add_28 : decode cX6_add 28 = .ok (.putfield 15, 3) := by decide +kernel
theorem dX6_add_31 : decode cX6_add 31 = .ok (.aload_n 0, 1) := by decide +kernel
theorem dX6_add_32 : decode cX6_add 32 = .ok (.dup, 1) := by decide +kernel
theorem dX6_add_33 : decode cX6_add 33 = .ok (.getfield 23, 3) := by decide +kernel
theorem dX6_add_36 : decode cX6_add 36 = .ok (.aload_n 1, 1) := by decide +kernel
theorem dX6_add_37 : decode cX6_add 37 = .ok (.getfield 26, 3) := by decide +kernel
theorem dX6_add_40 : decode cX6_add 40 = .ok (.iadd, 1) := by decide +kernel
theorem dX6_add_41 : decode cX6_add 41 = .ok (.putfield 23, 3) := by decide +kernel
theorem dX6_add_44 : decode cX6_add 44 = .ok (.aload_n 0, 1) := by decide +kernel
theorem dX6_add_45 : decode cX6_add 45 = .ok (.dup, 1) := by decide +kernel
theorem dX6_add_46 : decode cX6_add 46 = .ok (.getfield 27, 3) := by decide +kernel
theorem dX6_add_49 : decode cX6_add 49 = .ok (.aload_n 1, 1) := by decide +kernel
theorem dX6_add_50 : decode cX6_add 50 = .ok (.getfield 30, 3) := by decide +kernel
theorem dX6_add_53 : decode cX6_add 53 = .ok (.iadd, 1) := by decide +kernel
theorem dX6_add_54 : decode cX6_add 54 = .ok (.putfield 27, 3) := by decide +kernel
theorem dX6_add_57 : decode cX6_add 57 = .ok (.aload_n 0, 1) := by decide +kernel
theorem dX6_add_58 : decode cX6_add 58 = .ok (.dup, 1) := by decide +kernel
theorem dX6_add_59 : decode cX6_add 59 = .ok (.getfield 31, 3) := by decide +kernel
theorem dX6_add_62 : decode cX6_add 62 = .ok (.aload_n 1, 1) := by decide +kernel
theorem dX6_add_63 : decode cX6_add 63 = .ok (.getfield 34, 3) := by decide +kernel
theorem dX6_add_66 : decode cX6_add 66 = .ok (.iadd, 1) := by decide +kernel
theorem dX6_add_67 : decode cX6_add 67 = .ok (.putfield 31, 3) := by decide +kernel
theorem dX6_add_70 : decode cX6_add 70 = .ok (.aload_n 0, 1) := by decide +kernel
theorem dX6_add_71 : decode cX6_add 71 = .ok (.dup, 1) := by decide +kernel
theorem dX6_add_72 : decode cX6_add 72 = .ok (.getfield 37, 3) := by decide +kernel
theorem dX6_add_75 : decode cX6_add 75 = .ok (.aload_n 1, 1) := by decide +kernel
theorem dX6_add_76 : decode cX6_add 76 = .ok (.getfield 40, 3) := by decide +kernel
theorem dX6_add_79 : decode cX6_add 79 = .ok (.iadd, 1) := by decide +kernel
theorem dX6_add_80 : decode cX6_add 80 = .ok (.putfield 37, 3) := by decide +kernel
theorem dX6_add_83 : decode cX6_add 83 = .ok (.aload_n 0, 1) := by decide +kernel
theorem dX6_add_84 : decode cX6_add 84 = .ok (.dup, 1) := by decide +kernel
theorem dX6_add_85 : decode cX6_add 85 = .ok (.getfield 41, 3) := by decide +kernel
theorem dX6_add_88 : decode cX6_add 88 = .ok (.aload_n 1, 1) := by decide +kernel
theorem dX6_add_89 : decode cX6_add 89 = .ok (.getfield 44, 3) := by decide +kernel
theorem dX6_add_92 : decode cX6_add 92 = .ok (.iadd, 1) := by decide +kernel
theorem dX6_add_93 : decode cX6_add 93 = .ok (.putfield 41, 3) := by decide +kernel
theorem dX6_add_96 : decode cX6_add 96 = .ok (.aload_n 0, 1) := by decide +kernel
theorem dX6_add_97 : decode cX6_add 97 = .ok (.dup, 1) := by decide +kernel
theorem dX6_add_98 : decode cX6_add 98 = .ok (.getfield 45, 3) := by decide +kernel
theorem dX6_add_101 : decode cX6_add 101 = .ok (.aload_n 1, 1) := by decide +kernel
theorem dX6_add_102 : decode cX6_add 102 = .ok (.getfield 48, 3) := by decide +kernel
theorem dX6_add_105 : decode cX6_add 105 = .ok (.iadd, 1) := by decide +kernel
theorem dX6_add_106 : decode cX6_add 106 = .ok (.putfield 45, 3) := by decide +kernel
theorem dX6_add_109 : decode cX6_add 109 = .ok (.aload_n 0, 1) := by decide +kernel
theorem dX6_add_110 : decode cX6_add 110 = .ok (.dup, 1) := by decide +kernel
theorem dX6_add_111 : decode cX6_add 111 = .ok (.getfield 49, 3) := by decide +kernel
theorem dX6_add_114 : decode cX6_add 114 = .ok (.aload_n 1, 1) := by decide +kernel
theorem dX6_add_115 : decode cX6_add 115 = .ok (.getfield 52, 3) := by decide +kernel
theorem dX6_add_118 : decode cX6_add 118 = .ok (.iadd, 1) := by decide +kernel
theorem dX6_add_119 : decode cX6_add 119 = .ok (.putfield 49, 3) := by decide +kernel
theorem dX6_add_122 : decode cX6_add 122 = .ok (.aload_n 0, 1) := by decide +kernel
theorem dX6_add_123 : decode cX6_add 123 = .ok (.dup, 1) := by decide +kernel
theorem dX6_add_124 : decode cX6_add 124 = .ok (.getfield 53, 3) := by decide +kernel
theorem dX6_add_127 : decode cX6_add 127 = .ok (.aload_n 1, 1) := by decide +kernel
theorem dX6_add_128 : decode cX6_add 128 = .ok (.getfield 56, 3) := by decide +kernel
theorem dX6_add_131 : decode cX6_add 131 = .ok (.iadd, 1) := by decide +kernel
theorem dX6_add_132 : decode cX6_add 132 = .ok (.putfield 53, 3) := by decide +kernel
theorem dX6_add_135 : decode cX6_add 135 = .ok (.aload_n 0, 1) := by decide +kernel
theorem dX6_add_136 : decode cX6_add 136 = .ok (.dup, 1) := by decide +kernel
theorem dX6_add_137 : decode cX6_add 137 = .ok (.getfield 57, 3) := by decide +kernel
theorem dX6_add_140 : decode cX6_add 140 = .ok (.aload_n 1, 1) := by decide +kernel
theorem dX6_add_141 : decode cX6_add 141 = .ok (.getfield 60, 3) := by decide +kernel
theorem dX6_add_144 : decode cX6_add 144 = .ok (.iadd, 1) := by decide +kernel
theorem dX6_add_145 : decode cX6_add 145 = .ok (.putfield 57, 3) := by decide +kernel
theorem dX6_add_148 : decode cX6_add 148 = .ok (.aload_n 0, 1) := by decide +kernel
theorem dX6_add_149 : decode cX6_add 149 = .ok (.dup, 1) := by decide +kernel
theorem dX6_add_150 : decode cX6_add 150 = .ok (.getfield 61, 3) := by decide +kernel
theorem dX6_add_153 : decode cX6_add 153 = .ok (.aload_n 1, 1) := by decide +kernel
theorem dX6_add_154 : decode cX6_add 154 = .ok (.getfield 65, 3) := by decide +kernel
theorem dX6_add_157 : decode cX6_add 157 = .ok (.i2l, 1) := by decide +kernel
theorem dX6_add_158 : decode cX6_add 158 = .ok (.ladd, 1) := by decide +kernel
theorem dX6_add_159 : decode cX6_add 159 = .ok (.putfield 61, 3) := by decide +kernel
theorem dX6_add_162 : decode cX6_add 162 = .ok (.return_, 1) := by decide +kernel
theorem dX6_copyFrom_0 : decode cX6_copyFrom 0 = .ok (.aload_n 0, 1) := by decide +kernel
theorem dX6_copyFrom_1 : decode cX6_copyFrom 1 = .ok (.aload_n 1, 1) := by decide +kernel
theorem dX6_copyFrom_2 : decode cX6_copyFrom 2 = .ok (.getfield 9, 3) := by decide +kernel
theorem dX6_copyFrom_5 : decode cX6_copyFrom 5 = .ok (.putfield 9, 3) := by decide +kernel
theorem dX6_copyFrom_8 : decode cX6_copyFrom 8 = .ok (.aload_n 0, 1) := by decide +kernel
theorem dX6_copyFrom_9 : decode cX6_copyFrom 9 = .ok (.aload_n 1, 1) := by decide +kernel
theorem dX6_copyFrom_10 : decode cX6_copyFrom 10 = .ok (.getfield 15, 3) := by decide +kernel
theorem dX6_copyFrom_13 : decode cX6_copyFrom 13 = .ok (.putfield 15, 3) := by decide +kernel
theorem dX6_copyFrom_16 : decode cX6_copyFrom 16 = .ok (.aload_n 0, 1) := by decide +kernel
theorem dX6_copyFrom_17 : decode cX6_copyFrom 17 = .ok (.aload_n 1, 1) := by decide +kernel
theorem dX6_copyFrom_18 : decode cX6_copyFrom 18 = .ok (.getfield 23, 3) := by decide +kernel
theorem dX6_copyFrom_21 : decode cX6_copyFrom 21 = .ok (.putfield 23, 3) := by decide +kernel
theorem dX6_copyFrom_24 : decode cX6_copyFrom 24 = .ok (.aload_n 0, 1) := by decide +kernel
theorem dX6_copyFrom_25 : decode cX6_copyFrom 25 = .ok (.aload_n 1, 1) := by decide +kernel
theorem dX6_copyFrom_26 : decode cX6_copyFrom 26 = .ok (.getfield 27, 3) := by decide +kernel
theorem dX6_copyFrom_29 : decode cX6_copyFrom 29 = .ok (.putfield 27, 3) := by decide +kernel
theorem dX6_copyFrom_32 : decode cX6_copyFrom 32 = .ok (.aload_n 0, 1) := by decide +kernel
theorem dX6_copyFrom_33 : decode cX6_copyFrom 33 = .ok (.aload_n 1, 1) := by decide +kernel
theorem dX6_copyFrom_34 : decode cX6_copyFrom 34 = .ok (.getfield 31, 3) := by decide +kernel
theorem dX6_copyFrom_37 : decode cX6_copyFrom 37 = .ok (.putfield 31, 3) := by decide +kernel
theorem dX6_copyFrom_40 : decode cX6_copyFrom 40 = .ok (.aload_n 0, 1) := by decide +kernel
theorem dX6_copyFrom_41 : decode cX6_copyFrom 41 = .ok (.aload_n 1, 1) := by decide +kernel
theorem dX6_copyFrom_42 : decode cX6_copyFrom 42 = .ok (.getfield 37, 3) := by decide +kernel
theorem dX6_copyFrom_45 : decode cX6_copyFrom 45 = .ok (.putfield 37, 3) := by decide +kernel
theorem dX6_copyFrom_48 : decode cX6_copyFrom 48 = .ok (.aload_n 0, 1) := by decide +kernel
theorem dX6_copyFrom_49 : decode cX6_copyFrom 49 = .ok (.aload_n 1, 1) := by decide +kernel
theorem dX6_copyFrom_50 : decode cX6_copyFrom 50 = .ok (.getfield 41, 3) := by decide +kernel
theorem dX6_copyFrom_53 : decode cX6_copyFrom 53 = .ok (.putfield 41, 3) := by decide +kernel
theorem dX6_copyFrom_56 : decode cX6_copyFrom 56 = .ok (.aload_n 0, 1) := by decide +kernel
theorem dX6_copyFrom_57 : decode cX6_copyFrom 57 = .ok (.aload_n 1, 1) := by decide +kernel
theorem dX6_copyFrom_58 : decode cX6_copyFrom 58 = .ok (.getfield 45, 3) := by decide +kernel
theorem dX6_copyFrom_61 : decode cX6_copyFrom 61 = .ok (.putfield 45, 3) := by decide +kernel
theorem dX6_copyFrom_64 : decode cX6_copyFrom 64 = .ok (.aload_n 0, 1) := by decide +kernel
theorem dX6_copyFrom_65 : decode cX6_copyFrom 65 = .ok (.aload_n 1, 1) := by decide +kernel
theorem dX6_copyFrom_66 : decode cX6_copyFrom 66 = .ok (.getfield 49, 3) := by decide +kernel
theorem dX6_copyFrom_69 : decode cX6_copyFrom 69 = .ok (.putfield 49, 3) := by decide +kernel
theorem dX6_copyFrom_72 : decode cX6_copyFrom 72 = .ok (.aload_n 0, 1) := by decide +kernel
theorem dX6_copyFrom_73 : decode cX6_copyFrom 73 = .ok (.aload_n 1, 1) := by decide +kernel
theorem dX6_copyFrom_74 : decode cX6_copyFrom 74 = .ok (.getfield 53, 3) := by decide +kernel
theorem dX6_copyFrom_77 : decode cX6_copyFrom 77 = .ok (.putfield 53, 3) := by decide +kernel
theorem dX6_copyFrom_80 : decode cX6_copyFrom 80 = .ok (.aload_n 0, 1) := by decide +kernel
theorem dX6_copyFrom_81 : decode cX6_copyFrom 81 = .ok (.aload_n 1, 1) := by decide +kernel
theorem dX6_copyFrom_82 : decode cX6_copyFrom 82 = .ok (.getfield 57, 3) := by decide +kernel
theorem dX6_copyFrom_85 : decode cX6_copyFrom 85 = .ok (.putfield 57, 3) := by decide +kernel
theorem dX6_copyFrom_88 : decode cX6_copyFrom 88 = .ok (.aload_n 0, 1) := by decide +kernel
theorem dX6_copyFrom_89 : decode cX6_copyFrom 89 = .ok (.aload_n 1, 1) := by decide +kernel
theorem dX6_copyFrom_90 : decode cX6_copyFrom 90 = .ok (.getfield 61, 3) := by decide +kernel
theorem dX6_copyFrom_93 : decode cX6_copyFrom 93 = .ok (.putfield 61, 3) := by decide +kernel
theorem dX6_copyFrom_96 : decode cX6_copyFrom 96 = .ok (.return_, 1) := by decide +kernel
theorem dX6_property_0 : decode cX6_property 0 = .ok (.iload_n 1, 1) := by decide +kernel
theorem dX6_property_1 : decode cX6_property 1 = .ok (.tableswitch 111 0 8 #[51, 71, 76, 81, 86, 91, 96, 101, 106], 51) := by decide +kernel
theorem dX6_property_52 : decode cX6_property 52 = .ok (.aload_n 0, 1) := by decide +kernel
theorem dX6_property_53 : decode cX6_property 53 = .ok (.getfield 31, 3) := by decide +kernel
theorem dX6_property_56 : decode cX6_property 56 = .ok (.aload_n 0, 1) := by decide +kernel
theorem dX6_property_57 : decode cX6_property 57 = .ok (.getfield 37, 3) := by decide +kernel
theorem dX6_property_60 : decode cX6_property 60 = .ok (.iadd, 1) := by decide +kernel
theorem dX6_property_61 : decode cX6_property 61 = .ok (.aload_n 0, 1) := by decide +kernel
theorem dX6_property_62 : decode cX6_property 62 = .ok (.getfield 41, 3) := by decide +kernel
theorem dX6_property_65 : decode cX6_property 65 = .ok (.iadd, 1) := by decide +kernel
theorem dX6_property_66 : decode cX6_property 66 = .ok (.aload_n 0, 1) := by decide +kernel
theorem dX6_property_67 : decode cX6_property 67 = .ok (.getfield 45, 3) := by decide +kernel
theorem dX6_property_70 : decode cX6_property 70 = .ok (.iadd, 1) := by decide +kernel
theorem dX6_property_71 : decode cX6_property 71 = .ok (.ireturn, 1) := by decide +kernel
theorem dX6_property_72 : decode cX6_property 72 = .ok (.aload_n 0, 1) := by decide +kernel
theorem dX6_property_73 : decode cX6_property 73 = .ok (.getfield 31, 3) := by decide +kernel
theorem dX6_property_76 : decode cX6_property 76 = .ok (.ireturn, 1) := by decide +kernel
theorem dX6_property_77 : decode cX6_property 77 = .ok (.aload_n 0, 1) := by decide +kernel
theorem dX6_property_78 : decode cX6_property 78 = .ok (.getfield 37, 3) := by decide +kernel
theorem dX6_property_81 : decode cX6_property 81 = .ok (.ireturn, 1) := by decide +kernel
theorem dX6_property_82 : decode cX6_property 82 = .ok (.aload_n 0, 1) := by decide +kernel
theorem dX6_property_83 : decode cX6_property 83 = .ok (.getfield 41, 3) := by decide +kernel
theorem dX6_property_86 : decode cX6_property 86 = .ok (.ireturn, 1) := by decide +kernel
theorem dX6_property_87 : decode cX6_property 87 = .ok (.aload_n 0, 1) := by decide +kernel
theorem dX6_property_88 : decode cX6_property 88 = .ok (.getfield 45, 3) := by decide +kernel
theorem dX6_property_91 : decode cX6_property 91 = .ok (.ireturn, 1) := by decide +kernel
theorem dX6_property_92 : decode cX6_property 92 = .ok (.aload_n 0, 1) := by decide +kernel
theorem dX6_property_93 : decode cX6_property 93 = .ok (.getfield 49, 3) := by decide +kernel
theorem dX6_property_96 : decode cX6_property 96 = .ok (.ireturn, 1) := by decide +kernel
theorem dX6_property_97 : decode cX6_property 97 = .ok (.aload_n 0, 1) := by decide +kernel
theorem dX6_property_98 : decode cX6_property 98 = .ok (.getfield 53, 3) := by decide +kernel
theorem dX6_property_101 : decode cX6_property 101 = .ok (.ireturn, 1) := by decide +kernel
theorem dX6_property_102 : decode cX6_property 102 = .ok (.aload_n 0, 1) := by decide +kernel
theorem dX6_property_103 : decode cX6_property 103 = .ok (.getfield 23, 3) := by decide +kernel
theorem dX6_property_106 : decode cX6_property 106 = .ok (.ireturn, 1) := by decide +kernel
theorem dX6_property_107 : decode cX6_property 107 = .ok (.aload_n 0, 1) := by decide +kernel
theorem dX6_property_108 : decode cX6_property 108 = .ok (.getfield 27, 3) := by decide +kernel
theorem dX6_property_111 : decode cX6_property 111 = .ok (.ireturn, 1) := by decide +kernel
theorem dX6_property_112 : decode cX6_property 112 = .ok (.aload_n 0, 1) := by decide +kernel
theorem dX6_property_113 : decode cX6_property 113 = .ok (.getfield 15, 3) := by decide +kernel
theorem dX6_property_116 : decode cX6_property 116 = .ok (.ireturn, 1) := by decide +kernel
theorem dX7_init_0 : decode cX7_init 0 = .ok (.aload_n 0, 1) := by decide +kernel
theorem dX7_init_1 : decode cX7_init 1 = .ok (.invokespecial 3, 3) := by decide +kernel
theorem dX7_init_4 : decode cX7_init 4 = .ok (.aload_n 0, 1) := by decide +kernel
theorem dX7_init_5 : decode cX7_init 5 = .ok (.bipush 100, 2) := by decide +kernel
theorem dX7_init_7 : decode cX7_init 7 = .ok (.newarray .char, 2) := by decide +kernel
theorem dX7_init_9 : decode cX7_init 9 = .ok (.putfield 9, 3) := by decide +kernel
theorem dX7_init_12 : decode cX7_init 12 = .ok (.return_, 1) := by decide +kernel
theorem dX7_append_0 : decode cX7_append 0 = .ok (.aload_n 0, 1) := by decide +kernel
theorem dX7_append_1 : decode cX7_append 1 = .ok (.getfield 15, 3) := by decide +kernel
theorem dX7_append_4 : decode cX7_append 4 = .ok (.bipush 100, 2) := by decide +kernel
theorem dX7_append_6 : decode cX7_append 6 = .ok (.if_icmp .ge 23, 3) := by decide +kernel
theorem dX7_append_9 : decode cX7_append 9 = .ok (.aload_n 0, 1) := by decide +kernel
theorem dX7_append_10 : decode cX7_append 10 = .ok (.getfield 9, 3) := by decide +kernel
theorem dX7_append_13 : decode cX7_append 13 = .ok (.aload_n 0, 1) := by decide +kernel
theorem dX7_append_14 : decode cX7_append 14 = .ok (.getfield 15, 3) := by decide +kernel
theorem dX7_append_17 : decode cX7_append 17 = .ok (.iload_n 1, 1) := by decide +kernel
theorem dX7_append_18 : decode cX7_append 18 = .ok (.castore, 1) := by decide +kernel
theorem dX7_append_19 : decode cX7_append 19 = .ok (.aload_n 0, 1) := by decide +kernel
theorem dX7_append_20 : decode cX7_append 20 = .ok (.dup, 1) := by decide +kernel
theorem dX7_append_21 : decode cX7_append 21 = .ok (.getfield 15, 3) := by decide +kernel
theorem dX7_append_24 : decode cX7_append 24 = .ok (.iconst 1, 1) := by decide +kernel
theorem dX7_append_25 : decode cX7_append 25 = .ok (.iadd, 1) := by decide +kernel
theorem dX7_append_26 : decode cX7_append 26 = .ok (.putfield 15, 3) := by decide +kernel
theorem dX7_append_29 : decode cX7_append 29 = .ok (.return_, 1) := by decide +kernel
theorem dX7_appendName_0 : decode cX7_appendName 0 = .ok (.iload_n 1, 1) := by decide +kernel
theorem dX7_appendName_1 : decode cX7_appendName 1 = .ok (.invokestatic 19, 3) := by decide +kernel
theorem dX7_appendName_4 : decode cX7_appendName 4 = .ok (.astore_n 2, 1) := by decide +kernel
theorem dX7_appendName_5 : decode cX7_appendName 5 = .ok (.iconst 0, 1) := by decide +kernel
theorem dX7_appendName_6 : decode cX7_appendName 6 = .ok (.istore_n 3, 1) := by decide +kernel
theorem dX7_appendName_7 : decode cX7_appendName 7 = .ok (.iload_n 3, 1) := by decide +kernel
theorem dX7_appendName_8 : decode cX7_appendName 8 = .ok (.aload_n 2, 1) := by decide +kernel
theorem dX7_appendName_9 : decode cX7_appendName 9 = .ok (.invokevirtual 23, 3) := by decide +kernel
theorem dX7_appendName_12 : decode cX7_appendName 12 = .ok (.if_icmp .ge 18, 3) := by decide +kernel
theorem dX7_appendName_15 : decode cX7_appendName 15 = .ok (.aload_n 0, 1) := by decide +kernel
theorem dX7_appendName_16 : decode cX7_appendName 16 = .ok (.aload_n 2, 1) := by decide +kernel
theorem dX7_appendName_17 : decode cX7_appendName 17 = .ok (.iload_n 3, 1) := by decide +kernel
theorem dX7_appendName_18 : decode cX7_appendName 18 = .ok (.invokevirtual 28, 3) := by decide +kernel
theorem dX7_appendName_21 : decode cX7_appendName 21 = .ok (.invokevirtual 32, 3) := by decide +kernel
theorem dX7_appendName_24 : decode cX7_appendName 24 = .ok (.iinc 3 1, 3) := by decide +kernel
theorem dX7_appendName_27 : decode cX7_appendName 27 = .ok (.goto (-20), 3) := by decide +kernel
theorem dX7_appendName_30 : decode cX7_appendName 30 = .ok (.return_, 1) := by decide +kernel
theorem dX7_appendAmount_0 : decode cX7_appendAmount 0 = .ok (.iload_n 1, 1) := by decide +kernel
theorem dX7_appendAmount_1 : decode cX7_appendAmount 1 = .ok (.bipush 100, 2) := by decide +kernel
theorem dX7_appendAmount_3 : decode cX7_appendAmount 3 = .ok (.if_icmp .lt 18, 3) := by decide +kernel
theorem dX7_appendAmount_6 : decode cX7_appendAmount 6 = .ok (.aload_n 0, 1) := by decide +kernel
theorem dX7_appendAmount_7 : decode cX7_appendAmount 7 = .ok (.bipush 48, 2) := by decide +kernel
theorem dX7_appendAmount_9 : decode cX7_appendAmount 9 = .ok (.iload_n 1, 1) := by decide +kernel
theorem dX7_appendAmount_10 : decode cX7_appendAmount 10 = .ok (.bipush 100, 2) := by decide +kernel
theorem dX7_appendAmount_12 : decode cX7_appendAmount 12 = .ok (.idiv, 1) := by decide +kernel
theorem dX7_appendAmount_13 : decode cX7_appendAmount 13 = .ok (.bipush 10, 2) := by decide +kernel
theorem dX7_appendAmount_15 : decode cX7_appendAmount 15 = .ok (.irem, 1) := by decide +kernel
theorem dX7_appendAmount_16 : decode cX7_appendAmount 16 = .ok (.iadd, 1) := by decide +kernel
theorem dX7_appendAmount_17 : decode cX7_appendAmount 17 = .ok (.i2c, 1) := by decide +kernel
theorem dX7_appendAmount_18 : decode cX7_appendAmount 18 = .ok (.invokevirtual 32, 3) := by decide +kernel
theorem dX7_appendAmount_21 : decode cX7_appendAmount 21 = .ok (.iload_n 1, 1) := by decide +kernel
theorem dX7_appendAmount_22 : decode cX7_appendAmount 22 = .ok (.bipush 10, 2) := by decide +kernel
theorem dX7_appendAmount_24 : decode cX7_appendAmount 24 = .ok (.if_icmp .lt 18, 3) := by decide +kernel
theorem dX7_appendAmount_27 : decode cX7_appendAmount 27 = .ok (.aload_n 0, 1) := by decide +kernel
theorem dX7_appendAmount_28 : decode cX7_appendAmount 28 = .ok (.bipush 48, 2) := by decide +kernel
theorem dX7_appendAmount_30 : decode cX7_appendAmount 30 = .ok (.iload_n 1, 1) := by decide +kernel
theorem dX7_appendAmount_31 : decode cX7_appendAmount 31 = .ok (.bipush 10, 2) := by decide +kernel
theorem dX7_appendAmount_33 : decode cX7_appendAmount 33 = .ok (.idiv, 1) := by decide +kernel
theorem dX7_appendAmount_34 : decode cX7_appendAmount 34 = .ok (.bipush 10, 2) := by decide +kernel
theorem dX7_appendAmount_36 : decode cX7_appendAmount 36 = .ok (.irem, 1) := by decide +kernel
theorem dX7_appendAmount_37 : decode cX7_appendAmount 37 = .ok (.iadd, 1) := by decide +kernel
theorem dX7_appendAmount_38 : decode cX7_appendAmount 38 = .ok (.i2c, 1) := by decide +kernel
theorem dX7_appendAmount_39 : decode cX7_appendAmount 39 = .ok (.invokevirtual 32, 3) := by decide +kernel
theorem dX7_appendAmount_42 : decode cX7_appendAmount 42 = .ok (.aload_n 0, 1) := by decide +kernel
theorem dX7_appendAmount_43 : decode cX7_appendAmount 43 = .ok (.bipush 48, 2) := by decide +kernel
theorem dX7_appendAmount_45 : decode cX7_appendAmount 45 = .ok (.iload_n 1, 1) := by decide +kernel
theorem dX7_appendAmount_46 : decode cX7_appendAmount 46 = .ok (.bipush 10, 2) := by decide +kernel
theorem dX7_appendAmount_48 : decode cX7_appendAmount 48 = .ok (.irem, 1) := by decide +kernel
theorem dX7_appendAmount_49 : decode cX7_appendAmount 49 = .ok (.iadd, 1) := by decide +kernel
theorem dX7_appendAmount_50 : decode cX7_appendAmount 50 = .ok (.i2c, 1) := by decide +kernel
theorem dX7_appendAmount_51 : decode cX7_appendAmount 51 = .ok (.invokevirtual 32, 3) := by decide +kernel
theorem dX7_appendAmount_54 : decode cX7_appendAmount 54 = .ok (.return_, 1) := by decide +kernel
theorem dX7_showProgram_0 : decode cX7_showProgram 0 = .ok (.aload_n 0, 1) := by decide +kernel
theorem dX7_showProgram_1 : decode cX7_showProgram 1 = .ok (.iconst 0, 1) := by decide +kernel
theorem dX7_showProgram_2 : decode cX7_showProgram 2 = .ok (.putfield 15, 3) := by decide +kernel
theorem dX7_showProgram_5 : decode cX7_showProgram 5 = .ok (.iconst 0, 1) := by decide +kernel
theorem dX7_showProgram_6 : decode cX7_showProgram 6 = .ok (.istore_n 2, 1) := by decide +kernel
theorem dX7_showProgram_7 : decode cX7_showProgram 7 = .ok (.iload_n 2, 1) := by decide +kernel
theorem dX7_showProgram_8 : decode cX7_showProgram 8 = .ok (.aload_n 1, 1) := by decide +kernel
theorem dX7_showProgram_9 : decode cX7_showProgram 9 = .ok (.getfield 36, 3) := by decide +kernel
theorem dX7_showProgram_12 : decode cX7_showProgram 12 = .ok (.if_icmp .ge 51, 3) := by decide +kernel
theorem dX7_showProgram_15 : decode cX7_showProgram 15 = .ok (.iload_n 2, 1) := by decide +kernel
theorem dX7_showProgram_16 : decode cX7_showProgram 16 = .ok (.ifCond .le 15, 3) := by decide +kernel
theorem dX7_showProgram_19 : decode cX7_showProgram 19 = .ok (.aload_n 0, 1) := by decide +kernel
theorem dX7_showProgram_20 : decode cX7_showProgram 20 = .ok (.bipush 44, 2) := by decide +kernel
theorem dX7_showProgram_22 : decode cX7_showProgram 22 = .ok (.invokevirtual 32, 3) := by decide +kernel
theorem dX7_showProgram_25 : decode cX7_showProgram 25 = .ok (.aload_n 0, 1) := by decide +kernel
theorem dX7_showProgram_26 : decode cX7_showProgram 26 = .ok (.bipush 32, 2) := by decide +kernel
theorem dX7_showProgram_28 : decode cX7_showProgram 28 = .ok (.invokevirtual 32, 3) := by decide +kernel
theorem dX7_showProgram_31 : decode cX7_showProgram 31 = .ok (.aload_n 0, 1) := by decide +kernel
theorem dX7_showProgram_32 : decode cX7_showProgram 32 = .ok (.aload_n 1, 1) := by decide +kernel
theorem dX7_showProgram_33 : decode cX7_showProgram 33 = .ok (.getfield 41, 3) := by decide +kernel
theorem dX7_showProgram_36 : decode cX7_showProgram 36 = .ok (.iload_n 2, 1) := by decide +kernel
theorem dX7_showProgram_37 : decode cX7_showProgram 37 = .ok (.iaload, 1) := by decide +kernel
theorem dX7_showProgram_38 : decode cX7_showProgram 38 = .ok (.invokevirtual 45, 3) := by decide +kernel
theorem dX7_showProgram_41 : decode cX7_showProgram 41 = .ok (.aload_n 0, 1) := by decide +kernel
theorem dX7_showProgram_42 : decode cX7_showProgram 42 = .ok (.bipush 32, 2) := by decide +kernel
theorem dX7_showProgram_44 : decode cX7_showProgram 44 = .ok (.invokevirtual 32, 3) := by decide +kernel
theorem dX7_showProgram_47 : decode cX7_showProgram 47 = .ok (.aload_n 0, 1) := by decide +kernel
theorem dX7_showProgram_48 : decode cX7_showProgram 48 = .ok (.aload_n 1, 1) := by decide +kernel
theorem dX7_showProgram_49 : decode cX7_showProgram 49 = .ok (.getfield 49, 3) := by decide +kernel
theorem dX7_showProgram_52 : decode cX7_showProgram 52 = .ok (.iload_n 2, 1) := by decide +kernel
theorem dX7_showProgram_53 : decode cX7_showProgram 53 = .ok (.iaload, 1) := by decide +kernel
theorem dX7_showProgram_54 : decode cX7_showProgram 54 = .ok (.invokevirtual 52, 3) := by decide +kernel
theorem dX7_showProgram_57 : decode cX7_showProgram 57 = .ok (.iinc 2 1, 3) := by decide +kernel
theorem dX7_showProgram_60 : decode cX7_showProgram 60 = .ok (.goto (-53), 3) := by decide +kernel
theorem dX7_showProgram_63 : decode cX7_showProgram 63 = .ok (.return_, 1) := by decide +kernel
theorem dX7_readInto_0 : decode cX7_readInto 0 = .ok (.aload_n 1, 1) := by decide +kernel
theorem dX7_readInto_1 : decode cX7_readInto 1 = .ok (.iconst 0, 1) := by decide +kernel
theorem dX7_readInto_2 : decode cX7_readInto 2 = .ok (.putfield 36, 3) := by decide +kernel
theorem dX7_readInto_5 : decode cX7_readInto 5 = .ok (.aload_n 0, 1) := by decide +kernel
theorem dX7_readInto_6 : decode cX7_readInto 6 = .ok (.getfield 15, 3) := by decide +kernel
theorem dX7_readInto_9 : decode cX7_readInto 9 = .ok (.ifCond .ne 5, 3) := by decide +kernel
theorem dX7_readInto_12 : decode cX7_readInto 12 = .ok (.iconst (-1), 1) := by decide +kernel
theorem dX7_readInto_13 : decode cX7_readInto 13 = .ok (.ireturn, 1) := by decide +kernel
theorem dX7_readInto_14 : decode cX7_readInto 14 = .ok (.iconst 0, 1) := by decide +kernel
theorem dX7_readInto_15 : decode cX7_readInto 15 = .ok (.istore_n 2, 1) := by decide +kernel
theorem dX7_readInto_16 : decode cX7_readInto 16 = .ok (.iconst 0, 1) := by decide +kernel
theorem dX7_readInto_17 : decode cX7_readInto 17 = .ok (.istore_n 3, 1) := by decide +kernel
theorem dX7_readInto_18 : decode cX7_readInto 18 = .ok (.iload_n 3, 1) := by decide +kernel
theorem dX7_readInto_19 : decode cX7_readInto 19 = .ok (.bipush 12, 2) := by decide +kernel
theorem dX7_readInto_21 : decode cX7_readInto 21 = .ok (.if_icmp .ge 50, 3) := by decide +kernel
theorem dX7_readInto_24 : decode cX7_readInto 24 = .ok (.aload_n 0, 1) := by decide +kernel
theorem dX7_readInto_25 : decode cX7_readInto 25 = .ok (.iload_n 2, 1) := by decide +kernel
theorem dX7_readInto_26 : decode cX7_readInto 26 = .ok (.aload_n 1, 1) := by decide +kernel
theorem dX7_readInto_27 : decode cX7_readInto 27 = .ok (.invokevirtual 55, 3) := by decide +kernel
theorem dX7_readInto_30 : decode cX7_readInto 30 = .ok (.istore 4, 2) := by decide +kernel
theorem dX7_readInto_32 : decode cX7_readInto 32 = .ok (.iload 4, 2) := by decide +kernel
theorem dX7_readInto_34 : decode cX7_readInto 34 = .ok (.aload_n 0, 1) := by decide +kernel
theorem dX7_readInto_35 : decode cX7_readInto 35 = .ok (.getfield 15, 3) := by decide +kernel
theorem dX7_readInto_38 : decode cX7_readInto 38 = .ok (.if_icmp .ne 5, 3) := by decide +kernel
theorem dX7_readInto_41 : decode cX7_readInto 41 = .ok (.iconst (-1), 1) := by decide +kernel
theorem dX7_readInto_42 : decode cX7_readInto 42 = .ok (.ireturn, 1) := by decide +kernel
theorem dX7_readInto_43 : decode cX7_readInto 43 = .ok (.iload 4, 2) := by decide +kernel
theorem dX7_readInto_45 : decode cX7_readInto 45 = .ok (.iconst (-1), 1) := by decide +kernel
theorem dX7_readInto_46 : decode cX7_readInto 46 = .ok (.if_icmp .eq 12, 3) := by decide +kernel
theorem dX7_readInto_49 : decode cX7_readInto 49 = .ok (.aload_n 0, 1) := by decide +kernel
theorem dX7_readInto_50 : decode cX7_readInto 50 = .ok (.iload 4, 2) := by decide +kernel
theorem dX7_readInto_52 : decode cX7_readInto 52 = .ok (.invokevirtual 59, 3) := by decide +kernel
theorem dX7_readInto_55 : decode cX7_readInto 55 = .ok (.ifCond .ne 5, 3) := by decide +kernel
theorem dX7_readInto_58 : decode cX7_readInto 58 = .ok (.iload_n 2, 1) := by decide +kernel
theorem dX7_readInto_59 : decode cX7_readInto 59 = .ok (.ireturn, 1) := by decide +kernel
theorem dX7_readInto_60 : decode cX7_readInto 60 = .ok (.iload 4, 2) := by decide +kernel
theorem dX7_readInto_62 : decode cX7_readInto 62 = .ok (.iconst 2, 1) := by decide +kernel
theorem dX7_readInto_63 : decode cX7_readInto 63 = .ok (.iadd, 1) := by decide +kernel
theorem dX7_readInto_64 : decode cX7_readInto 64 = .ok (.istore_n 2, 1) := by decide +kernel
theorem dX7_readInto_65 : decode cX7_readInto 65 = .ok (.iinc 3 1, 3) := by decide +kernel
theorem dX7_readInto_68 : decode cX7_readInto 68 = .ok (.goto (-50), 3) := by decide +kernel
theorem dX7_readInto_71 : decode cX7_readInto 71 = .ok (.iload_n 2, 1) := by decide +kernel
theorem dX7_readInto_72 : decode cX7_readInto 72 = .ok (.ireturn, 1) := by decide +kernel
theorem dX7_isFollowedByStep_0 : decode cX7_isFollowedByStep 0 = .ok (.iload_n 1, 1) := by decide +kernel
theorem dX7_isFollowedByStep_1 : decode cX7_isFollowedByStep 1 = .ok (.iconst 2, 1) := by decide +kernel
theorem dX7_isFollowedByStep_2 : decode cX7_isFollowedByStep 2 = .ok (.iadd, 1) := by decide +kernel
theorem dX7_isFollowedByStep_3 : decode cX7_isFollowedByStep 3 = .ok (.aload_n 0, 1) := by decide +kernel
theorem dX7_isFollowedByStep_4 : decode cX7_isFollowedByStep 4 = .ok (.getfield 15, 3) := by decide +kernel
theorem dX7_isFollowedByStep_7 : decode cX7_isFollowedByStep 7 = .ok (.if_icmp .ge 31, 3) := by decide +kernel
theorem dX7_isFollowedByStep_10 : decode cX7_isFollowedByStep 10 = .ok (.aload_n 0, 1) := by decide +kernel
theorem dX7_isFollowedByStep_11 : decode cX7_isFollowedByStep 11 = .ok (.getfield 9, 3) := by decide +kernel
theorem dX7_isFollowedByStep_14 : decode cX7_isFollowedByStep 14 = .ok (.iload_n 1, 1) := by decide +kernel
theorem dX7_isFollowedByStep_15 : decode cX7_isFollowedByStep 15 = .ok (.caload, 1) := by decide +kernel
theorem dX7_isFollowedByStep_16 : decode cX7_isFollowedByStep 16 = .ok (.bipush 44, 2) := by decide +kernel
theorem dX7_isFollowedByStep_18 : decode cX7_isFollowedByStep 18 = .ok (.if_icmp .ne 20, 3) := by decide +kernel
theorem dX7_isFollowedByStep_21 : decode cX7_isFollowedByStep 21 = .ok (.aload_n 0, 1) := by decide +kernel
theorem dX7_isFollowedByStep_22 : decode cX7_isFollowedByStep 22 = .ok (.getfield 9, 3) := by decide +kernel
theorem dX7_isFollowedByStep_25 : decode cX7_isFollowedByStep 25 = .ok (.iload_n 1, 1) := by decide +kernel
theorem dX7_isFollowedByStep_26 : decode cX7_isFollowedByStep 26 = .ok (.iconst 1, 1) := by decide +kernel
theorem dX7_isFollowedByStep_27 : decode cX7_isFollowedByStep 27 = .ok (.iadd, 1) := by decide +kernel
theorem dX7_isFollowedByStep_28 : decode cX7_isFollowedByStep 28 = .ok (.caload, 1) := by decide +kernel
theorem dX7_isFollowedByStep_29 : decode cX7_isFollowedByStep 29 = .ok (.bipush 32, 2) := by decide +kernel
theorem dX7_isFollowedByStep_31 : decode cX7_isFollowedByStep 31 = .ok (.if_icmp .ne 7, 3) := by decide +kernel
theorem dX7_isFollowedByStep_34 : decode cX7_isFollowedByStep 34 = .ok (.iconst 1, 1) := by decide +kernel
theorem dX7_isFollowedByStep_35 : decode cX7_isFollowedByStep 35 = .ok (.goto 4, 3) := by decide +kernel
theorem dX7_isFollowedByStep_38 : decode cX7_isFollowedByStep 38 = .ok (.iconst 0, 1) := by decide +kernel
theorem dX7_isFollowedByStep_39 : decode cX7_isFollowedByStep 39 = .ok (.ireturn, 1) := by decide +kernel
theorem dX7_readStep_0 : decode cX7_readStep 0 = .ok (.iconst 0, 1) := by decide +kernel
theorem dX7_readStep_1 : decode cX7_readStep 1 = .ok (.istore_n 3, 1) := by decide +kernel
theorem dX7_readStep_2 : decode cX7_readStep 2 = .ok (.iload_n 3, 1) := by decide +kernel
theorem dX7_readStep_3 : decode cX7_readStep 3 = .ok (.iconst 5, 1) := by decide +kernel
theorem dX7_readStep_4 : decode cX7_readStep 4 = .ok (.if_icmp .ge 32, 3) := by decide +kernel
theorem dX7_readStep_7 : decode cX7_readStep 7 = .ok (.aload_n 0, 1) := by decide +kernel
theorem dX7_readStep_8 : decode cX7_readStep 8 = .ok (.iload_n 3, 1) := by decide +kernel
theorem dX7_readStep_9 : decode cX7_readStep 9 = .ok (.iload_n 1, 1) := by decide +kernel
theorem dX7_readStep_10 : decode cX7_readStep 10 = .ok (.invokevirtual 63, 3) := by decide +kernel
theorem dX7_readStep_13 : decode cX7_readStep 13 = .ok (.istore 4, 2) := by decide +kernel
theorem dX7_readStep_15 : decode cX7_readStep 15 = .ok (.iload 4, 2) := by decide +kernel
theorem dX7_readStep_17 : decode cX7_readStep 17 = .ok (.iconst (-1), 1) := by decide +kernel
theorem dX7_readStep_18 : decode cX7_readStep 18 = .ok (.if_icmp .eq 12, 3) := by decide +kernel
theorem dX7_readStep_21 : decode cX7_readStep 21 = .ok (.aload_n 0, 1) := by decide +kernel
theorem dX7_readStep_22 : decode cX7_readStep 22 = .ok (.iload_n 3, 1) := by decide +kernel
theorem dX7_readStep_23 : decode cX7_readStep 23 = .ok (.iload 4, 2) := by decide +kernel
theorem dX7_readStep_25 : decode cX7_readStep 25 = .ok (.aload_n 2, 1) := by decide +kernel
theorem dX7_readStep_26 : decode cX7_readStep 26 = .ok (.invokevirtual 67, 3) := by decide +kernel
theorem dX7_readStep_29 : decode cX7_readStep 29 = .ok (.ireturn, 1) := by decide +kernel
theorem dX7_readStep_30 : decode cX7_readStep 30 = .ok (.iinc 3 1, 3) := by decide +kernel
theorem dX7_readStep_33 : decode cX7_readStep 33 = .ok (.goto (-31), 3) := by decide +kernel
theorem dX7_readStep_36 : decode cX7_readStep 36 = .ok (.iconst (-1), 1) := by decide +kernel
theorem dX7_readStep_37 : decode cX7_readStep 37 = .ok (.ireturn, 1) := by decide +kernel
theorem dX7_behindName_0 : decode cX7_behindName 0 = .ok (.iload_n 1, 1) := by decide +kernel
theorem dX7_behindName_1 : decode cX7_behindName 1 = .ok (.invokestatic 19, 3) := by decide +kernel
theorem dX7_behindName_4 : decode cX7_behindName 4 = .ok (.astore_n 3, 1) := by decide +kernel
theorem dX7_behindName_5 : decode cX7_behindName 5 = .ok (.iload_n 2, 1) := by decide +kernel
theorem dX7_behindName_6 : decode cX7_behindName 6 = .ok (.aload_n 3, 1) := by decide +kernel
theorem dX7_behindName_7 : decode cX7_behindName 7 = .ok (.invokevirtual 23, 3) := by decide +kernel
theorem dX7_behindName_10 : decode cX7_behindName 10 = .ok (.iadd, 1) := by decide +kernel
theorem dX7_behindName_11 : decode cX7_behindName 11 = .ok (.istore 4, 2) := by decide +kernel
theorem dX7_behindName_13 : decode cX7_behindName 13 = .ok (.iload 4, 2) := by decide +kernel
theorem dX7_behindName_15 : decode cX7_behindName 15 = .ok (.aload_n 0, 1) := by decide +kernel
theorem dX7_behindName_16 : decode cX7_behindName 16 = .ok (.getfield 15, 3) := by decide +kernel
theorem dX7_behindName_19 : decode cX7_behindName 19 = .ok (.if_icmp .ge 15, 3) := by decide +kernel
theorem dX7_behindName_22 : decode cX7_behindName 22 = .ok (.aload_n 0, 1) := by decide +kernel
theorem dX7_behindName_23 : decode cX7_behindName 23 = .ok (.getfield 9, 3) := by decide +kernel
theorem dX7_behindName_26 : decode cX7_behindName 26 = .ok (.iload 4, 2) := by decide +kernel
theorem dX7_behindName_28 : decode cX7_behindName 28 = .ok (.caload, 1) := by decide +kernel
theorem dX7_behindName_29 : decode cX7_behindName 29 = .ok (.bipush 32, 2) := by decide +kernel
theorem dX7_behindName_31 : decode cX7_behindName 31 = .ok (.if_icmp .eq 5, 3) := by decide +kernel
theorem dX7_behindName_34 : decode cX7_behindName 34 = .ok (.iconst (-1), 1) := by decide +kernel
theorem dX7_behindName_35 : decode cX7_behindName 35 = .ok (.ireturn, 1) := by decide +kernel
theorem dX7_behindName_36 : decode cX7_behindName 36 = .ok (.iconst 0, 1) := by decide +kernel
theorem dX7_behindName_37 : decode cX7_behindName 37 = .ok (.istore 5, 2) := by decide +kernel
theorem dX7_behindName_39 : decode cX7_behindName 39 = .ok (.iload 5, 2) := by decide +kernel
theorem dX7_behindName_41 : decode cX7_behindName 41 = .ok (.aload_n 3, 1) := by decide +kernel
theorem dX7_behindName_42 : decode cX7_behindName 42 = .ok (.invokevirtual 23, 3) := by decide +kernel
theorem dX7_behindName_45 : decode cX7_behindName 45 = .ok (.if_icmp .ge 29, 3) := by decide +kernel
theorem dX7_behindName_48 : decode cX7_behindName 48 = .ok (.aload_n 0, 1) := by decide +kernel
theorem dX7_behindName_49 : decode cX7_behindName 49 = .ok (.getfield 9, 3) := by decide +kernel
theorem dX7_behindName_52 : decode cX7_behindName 52 = .ok (.iload_n 2, 1) := by decide +kernel
theorem dX7_behindName_53 : decode cX7_behindName 53 = .ok (.iload 5, 2) := by decide +kernel
theorem dX7_behindName_55 : decode cX7_behindName 55 = .ok (.iadd, 1) := by decide +kernel
theorem dX7_behindName_56 : decode cX7_behindName 56 = .ok (.caload, 1) := by decide +kernel
theorem dX7_behindName_57 : decode cX7_behindName 57 = .ok (.aload_n 3, 1) := by decide +kernel
theorem dX7_behindName_58 : decode cX7_behindName 58 = .ok (.iload 5, 2) := by decide +kernel
theorem dX7_behindName_60 : decode cX7_behindName 60 = .ok (.invokevirtual 28, 3) := by decide +kernel
theorem dX7_behindName_63 : decode cX7_behindName 63 = .ok (.if_icmp .eq 5, 3) := by decide +kernel
theorem dX7_behindName_66 : decode cX7_behindName 66 = .ok (.iconst (-1), 1) := by decide +kernel
theorem dX7_behindName_67 : decode cX7_behindName 67 = .ok (.ireturn, 1) := by decide +kernel
theorem dX7_behindName_68 : decode cX7_behindName 68 = .ok (.iinc 5 1, 3) := by decide +kernel
theorem dX7_behindName_71 : decode cX7_behindName 71 = .ok (.goto (-32), 3) := by decide +kernel
theorem dX7_behindName_74 : decode cX7_behindName 74 = .ok (.iload 4, 2) := by decide +kernel
theorem dX7_behindName_76 : decode cX7_behindName 76 = .ok (.iconst 1, 1) := by decide +kernel
theorem dX7_behindName_77 : decode cX7_behindName 77 = .ok (.iadd, 1) := by decide +kernel
theorem dX7_behindName_78 : decode cX7_behindName 78 = .ok (.ireturn, 1) := by decide +kernel
theorem dX7_readAmount_0 : decode cX7_readAmount 0 = .ok (.iconst 0, 1) := by decide +kernel
theorem dX7_readAmount_1 : decode cX7_readAmount 1 = .ok (.istore 4, 2) := by decide +kernel
theorem dX7_readAmount_3 : decode cX7_readAmount 3 = .ok (.iload_n 2, 1) := by decide +kernel
theorem dX7_readAmount_4 : decode cX7_readAmount 4 = .ok (.istore 5, 2) := by decide +kernel
theorem dX7_readAmount_6 : decode cX7_readAmount 6 = .ok (.iload 5, 2) := by decide +kernel
theorem dX7_readAmount_8 : decode cX7_readAmount 8 = .ok (.aload_n 0, 1) := by decide +kernel
theorem dX7_readAmount_9 : decode cX7_readAmount 9 = .ok (.getfield 15, 3) := by decide +kernel
theorem dX7_readAmount_12 : decode cX7_readAmount 12 = .ok (.if_icmp .ge 48, 3) := by decide +kernel
theorem dX7_readAmount_15 : decode cX7_readAmount 15 = .ok (.iload 5, 2) := by decide +kernel
theorem dX7_readAmount_17 : decode cX7_readAmount 17 = .ok (.iload_n 2, 1) := by decide +kernel
theorem dX7_readAmount_18 : decode cX7_readAmount 18 = .ok (.iconst 3, 1) := by decide +kernel
theorem dX7_readAmount_19 : decode cX7_readAmount 19 = .ok (.iadd, 1) := by decide +kernel
theorem dX7_readAmount_20 : decode cX7_readAmount 20 = .ok (.if_icmp .ge 40, 3) := by decide +kernel
theorem dX7_readAmount_23 : decode cX7_readAmount 23 = .ok (.aload_n 0, 1) := by decide +kernel
theorem dX7_readAmount_24 : decode cX7_readAmount 24 = .ok (.getfield 9, 3) := by decide +kernel
theorem dX7_readAmount_27 : decode cX7_readAmount 27 = .ok (.iload 5, 2) := by decide +kernel
theorem dX7_readAmount_29 : decode cX7_readAmount 29 = .ok (.caload, 1) := by decide +kernel
theorem dX7_readAmount_30 : decode cX7_readAmount 30 = .ok (.invokestatic 71, 3) := by decide +kernel
theorem dX7_readAmount_33 : decode cX7_readAmount 33 = .ok (.ifCond .eq 27, 3) := by decide +kernel
theorem dX7_readAmount_36 : decode cX7_readAmount 36 = .ok (.iload 4, 2) := by decide +kernel
theorem dX7_readAmount_38 : decode cX7_readAmount 38 = .ok (.bipush 10, 2) := by decide +kernel
theorem dX7_readAmount_40 : decode cX7_readAmount 40 = .ok (.imul, 1) := by decide +kernel
theorem dX7_readAmount_41 : decode cX7_readAmount 41 = .ok (.aload_n 0, 1) := by decide +kernel
theorem dX7_readAmount_42 : decode cX7_readAmount 42 = .ok (.getfield 9, 3) := by decide +kernel
theorem dX7_readAmount_45 : decode cX7_readAmount 45 = .ok (.iload 5, 2) := by decide +kernel
theorem dX7_readAmount_47 : decode cX7_readAmount 47 = .ok (.caload, 1) := by decide +kernel
theorem dX7_readAmount_48 : decode cX7_readAmount 48 = .ok (.bipush 48, 2) := by decide +kernel
theorem dX7_readAmount_50 : decode cX7_readAmount 50 = .ok (.isub, 1) := by decide +kernel
theorem dX7_readAmount_51 : decode cX7_readAmount 51 = .ok (.iadd, 1) := by decide +kernel
theorem dX7_readAmount_52 : decode cX7_readAmount 52 = .ok (.istore 4, 2) := by decide +kernel
theorem dX7_readAmount_54 : decode cX7_readAmount 54 = .ok (.iinc 5 1, 3) := by decide +kernel
theorem dX7_readAmount_57 : decode cX7_readAmount 57 = .ok (.goto (-51), 3) := by decide +kernel
theorem dX7_readAmount_60 : decode cX7_readAmount 60 = .ok (.iload 5, 2) := by decide +kernel
theorem dX7_readAmount_62 : decode cX7_readAmount 62 = .ok (.iload_n 2, 1) := by decide +kernel
theorem dX7_readAmount_63 : decode cX7_readAmount 63 = .ok (.if_icmp .eq 21, 3) := by decide +kernel
theorem dX7_readAmount_66 : decode cX7_readAmount 66 = .ok (.iload 4, 2) := by decide +kernel
theorem dX7_readAmount_68 : decode cX7_readAmount 68 = .ok (.getstatic 75, 3) := by decide +kernel
theorem dX7_readAmount_71 : decode cX7_readAmount 71 = .ok (.iload_n 1, 1) := by decide +kernel
theorem dX7_readAmount_72 : decode cX7_readAmount 72 = .ok (.iaload, 1) := by decide +kernel
theorem dX7_readAmount_73 : decode cX7_readAmount 73 = .ok (.getstatic 78, 3) := by decide +kernel
theorem dX7_readAmount_76 : decode cX7_readAmount 76 = .ok (.iload_n 1, 1) := by decide +kernel
theorem dX7_readAmount_77 : decode cX7_readAmount 77 = .ok (.iaload, 1) := by decide +kernel
theorem dX7_readAmount_78 : decode cX7_readAmount 78 = .ok (.invokestatic 81, 3) := by decide +kernel
theorem dX7_readAmount_81 : decode cX7_readAmount 81 = .ok (.ifCond .eq 5, 3) := by decide +kernel
theorem dX7_readAmount_84 : decode cX7_readAmount 84 = .ok (.iconst (-1), 1) := by decide +kernel
theorem dX7_readAmount_85 : decode cX7_readAmount 85 = .ok (.ireturn, 1) := by decide +kernel
theorem dX7_readAmount_86 : decode cX7_readAmount 86 = .ok (.aload_n 3, 1) := by decide +kernel
theorem dX7_readAmount_87 : decode cX7_readAmount 87 = .ok (.iload_n 1, 1) := by decide +kernel
theorem dX7_readAmount_88 : decode cX7_readAmount 88 = .ok (.iload 4, 2) := by decide +kernel
theorem dX7_readAmount_90 : decode cX7_readAmount 90 = .ok (.invokevirtual 85, 3) := by decide +kernel
theorem dX7_readAmount_93 : decode cX7_readAmount 93 = .ok (.iload 5, 2) := by decide +kernel
theorem dX7_readAmount_95 : decode cX7_readAmount 95 = .ok (.ireturn, 1) := by decide +kernel
theorem dX7_isDigit_0 : decode cX7_isDigit 0 = .ok (.iload_n 0, 1) := by decide +kernel
theorem dX7_isDigit_1 : decode cX7_isDigit 1 = .ok (.bipush 48, 2) := by decide +kernel
theorem dX7_isDigit_3 : decode cX7_isDigit 3 = .ok (.if_icmp .lt 13, 3) := by decide +kernel
theorem dX7_isDigit_6 : decode cX7_isDigit 6 = .ok (.iload_n 0, 1) := by decide +kernel
theorem dX7_isDigit_7 : decode cX7_isDigit 7 = .ok (.bipush 57, 2) := by decide +kernel
theorem dX7_isDigit_9 : decode cX7_isDigit 9 = .ok (.if_icmp .gt 7, 3) := by decide +kernel
theorem dX7_isDigit_12 : decode cX7_isDigit 12 = .ok (.iconst 1, 1) := by decide +kernel
theorem dX7_isDigit_13 : decode cX7_isDigit 13 = .ok (.goto 4, 3) := by decide +kernel
theorem dX7_isDigit_16 : decode cX7_isDigit 16 = .ok (.iconst 0, 1) := by decide +kernel
theorem dX7_isDigit_17 : decode cX7_isDigit 17 = .ok (.ireturn, 1) := by decide +kernel
theorem dX8_init_0 : decode cX8_init 0 = .ok (.aload_n 0, 1) := by decide +kernel
theorem dX8_init_1 : decode cX8_init 1 = .ok (.invokespecial 1, 3) := by decide +kernel
theorem dX8_init_4 : decode cX8_init 4 = .ok (.aload_n 0, 1) := by decide +kernel
theorem dX8_init_5 : decode cX8_init 5 = .ok (.new 7, 3) := by decide +kernel
theorem dX8_init_8 : decode cX8_init 8 = .ok (.dup, 1) := by decide +kernel
theorem dX8_init_9 : decode cX8_init 9 = .ok (.invokespecial 9, 3) := by decide +kernel
theorem dX8_init_12 : decode cX8_init 12 = .ok (.putfield 10, 3) := by decide +kernel
theorem dX8_init_15 : decode cX8_init 15 = .ok (.aload_n 0, 1) := by decide +kernel
theorem dX8_init_16 : decode cX8_init 16 = .ok (.new 7, 3) := by decide +kernel
theorem dX8_init_19 : decode cX8_init 19 = .ok (.dup, 1) := by decide +kernel
theorem dX8_init_20 : decode cX8_init 20 = .ok (.invokespecial 9, 3) := by decide +kernel
theorem dX8_init_23 : decode cX8_init 23 = .ok (.putfield 16, 3) := by decide +kernel
theorem dX8_init_26 : decode cX8_init 26 = .ok (.aload_n 0, 1) := by decide +kernel
theorem dX8_init_27 : decode cX8_init 27 = .ok (.iconst 4, 1) := by decide +kernel
theorem dX8_init_28 : decode cX8_init 28 = .ok (.anewarray 7, 3) := by decide +kernel
theorem dX8_init_31 : decode cX8_init 31 = .ok (.putfield 19, 3) := by decide +kernel
theorem dX8_init_34 : decode cX8_init 34 = .ok (.iconst 0, 1) := by decide +kernel
theorem dX8_init_35 : decode cX8_init 35 = .ok (.istore_n 1, 1) := by decide +kernel
theorem dX8_init_36 : decode cX8_init 36 = .ok (.iload_n 1, 1) := by decide +kernel
theorem dX8_init_37 : decode cX8_init 37 = .ok (.iconst 4, 1) := by decide +kernel
theorem dX8_init_38 : decode cX8_init 38 = .ok (.if_icmp .ge 22, 3) := by decide +kernel
theorem dX8_init_41 : decode cX8_init 41 = .ok (.aload_n 0, 1) := by decide +kernel
theorem dX8_init_42 : decode cX8_init 42 = .ok (.getfield 19, 3) := by decide +kernel
theorem dX8_init_45 : decode cX8_init 45 = .ok (.iload_n 1, 1) := by decide +kernel
theorem dX8_init_46 : decode cX8_init 46 = .ok (.new 7, 3) := by decide +kernel
theorem dX8_init_49 : decode cX8_init 49 = .ok (.dup, 1) := by decide +kernel
theorem dX8_init_50 : decode cX8_init 50 = .ok (.invokespecial 9, 3) := by decide +kernel
theorem dX8_init_53 : decode cX8_init 53 = .ok (.aastore, 1) := by decide +kernel
theorem dX8_init_54 : decode cX8_init 54 = .ok (.iinc 1 1, 3) := by decide +kernel
theorem dX8_init_57 : decode cX8_init 57 = .ok (.goto (-21), 3) := by decide +kernel
theorem dX8_init_60 : decode cX8_init 60 = .ok (.aload_n 0, 1) := by decide +kernel
theorem dX8_init_61 : decode cX8_init 61 = .ok (.iconst 0, 1) := by decide +kernel
theorem dX8_init_62 : decode cX8_init 62 = .ok (.putfield 23, 3) := by decide +kernel
theorem dX8_init_65 : decode cX8_init 65 = .ok (.aload_n 0, 1) := by decide +kernel
theorem dX8_init_66 : decode cX8_init 66 = .ok (.new 27, 3) := by decide +kernel
theorem dX8_init_69 : decode cX8_init 69 = .ok (.dup, 1) := by decide +kernel
theorem dX8_init_70 : decode cX8_init 70 = .ok (.invokespecial 29, 3) := by decide +kernel
theorem dX8_init_73 : decode cX8_init 73 = .ok (.putfield 30, 3) := by decide +kernel
theorem dX8_init_76 : decode cX8_init 76 = .ok (.aload_n 0, 1) := by decide +kernel
theorem dX8_init_77 : decode cX8_init 77 = .ok (.new 34, 3) := by decide +kernel
theorem dX8_init_80 : decode cX8_init 80 = .ok (.dup, 1) := by decide +kernel
theorem dX8_init_81 : decode cX8_init 81 = .ok (.invokespecial 36, 3) := by decide +kernel
theorem dX8_init_84 : decode cX8_init 84 = .ok (.putfield 37, 3) := by decide +kernel
theorem dX8_init_87 : decode cX8_init 87 = .ok (.aload_n 0, 1) := by decide +kernel
theorem dX8_init_88 : decode cX8_init 88 = .ok (.new 41, 3) := by decide +kernel
theorem dX8_init_91 : decode cX8_init 91 = .ok (.dup, 1) := by decide +kernel
theorem dX8_init_92 : decode cX8_init 92 = .ok (.invokespecial 43, 3) := by decide +kernel
theorem dX8_init_95 : decode cX8_init 95 = .ok (.putfield 44, 3) := by decide +kernel
theorem dX8_init_98 : decode cX8_init 98 = .ok (.aload_n 0, 1) := by decide +kernel
theorem dX8_init_99 : decode cX8_init 99 = .ok (.bipush 25, 2) := by decide +kernel
theorem dX8_init_101 : decode cX8_init 101 = .ok (.newarray .int, 2) := by decide +kernel
theorem dX8_init_103 : decode cX8_init 103 = .ok (.putfield 48, 3) := by decide +kernel
theorem dX8_init_106 : decode cX8_init 106 = .ok (.return_, 1) := by decide +kernel
theorem dX8_addRoll_0 : decode cX8_addRoll 0 = .ok (.iload_n 1, 1) := by decide +kernel
theorem dX8_addRoll_1 : decode cX8_addRoll 1 = .ok (.bipush 100, 2) := by decide +kernel
theorem dX8_addRoll_3 : decode cX8_addRoll 3 = .ok (.ldc 52, 2) := by decide +kernel
theorem dX8_addRoll_5 : decode cX8_addRoll 5 = .ok (.invokestatic 53, 3) := by decide +kernel
theorem dX8_addRoll_8 : decode cX8_addRoll 8 = .ok (.ifCond .ne 13, 3) := by decide +kernel
theorem dX8_addRoll_11 : decode cX8_addRoll 11 = .ok (.iload_n 2, 1) := by decide +kernel
theorem dX8_addRoll_12 : decode cX8_addRoll 12 = .ok (.iconst 1, 1) := by decide +kernel
theorem dX8_addRoll_13 : decode cX8_addRoll 13 = .ok (.bipush 50, 2) := by decide +kernel
theorem dX8_addRoll_15 : decode cX8_addRoll 15 = .ok (.invokestatic 53, 3) := by decide +kernel
theorem dX8_addRoll_18 : decode cX8_addRoll 18 = .ok (.ifCond .eq 5, 3) := by decide +kernel
theorem dX8_addRoll_21 : decode cX8_addRoll 21 = .ok (.iconst (-1), 1) := by decide +kernel
theorem dX8_addRoll_22 : decode cX8_addRoll 22 = .ok (.ireturn, 1) := by decide +kernel
theorem dX8_addRoll_23 : decode cX8_addRoll 23 = .ok (.aload_n 0, 1) := by decide +kernel
theorem dX8_addRoll_24 : decode cX8_addRoll 24 = .ok (.getfield 10, 3) := by decide +kernel
theorem dX8_addRoll_27 : decode cX8_addRoll 27 = .ok (.getfield 57, 3) := by decide +kernel
theorem dX8_addRoll_30 : decode cX8_addRoll 30 = .ok (.bipush 6, 2) := by decide +kernel
theorem dX8_addRoll_32 : decode cX8_addRoll 32 = .ok (.if_icmp .lt 6, 3) := by decide +kernel
theorem dX8_addRoll_35 : decode cX8_addRoll 35 = .ok (.bipush (-3), 2) := by decide +kernel
theorem dX8_addRoll_37 : decode cX8_addRoll 37 = .ok (.ireturn, 1) := by decide +kernel
theorem dX8_addRoll_38 : decode cX8_addRoll 38 = .ok (.aload_n 0, 1) := by decide +kernel
theorem dX8_addRoll_39 : decode cX8_addRoll 39 = .ok (.invokevirtual 60, 3) := by decide +kernel
theorem dX8_addRoll_42 : decode cX8_addRoll 42 = .ok (.aload_n 0, 1) := by decide +kernel
theorem dX8_addRoll_43 : decode cX8_addRoll 43 = .ok (.getfield 10, 3) := by decide +kernel
theorem dX8_addRoll_46 : decode cX8_addRoll 46 = .ok (.iload_n 1, 1) := by decide +kernel
theorem dX8_addRoll_47 : decode cX8_addRoll 47 = .ok (.iload_n 2, 1) := by decide +kernel
theorem dX8_addRoll_48 : decode cX8_addRoll 48 = .ok (.invokevirtual 63, 3) := by decide +kernel
theorem dX8_addRoll_51 : decode cX8_addRoll 51 = .ok (.aload_n 0, 1) := by decide +kernel
theorem dX8_addRoll_52 : decode cX8_addRoll 52 = .ok (.getfield 10, 3) := by decide +kernel
theorem dX8_addRoll_55 : decode cX8_addRoll 55 = .ok (.getfield 57, 3) := by decide +kernel
theorem dX8_addRoll_58 : decode cX8_addRoll 58 = .ok (.ireturn, 1) := by decide +kernel
theorem dX8_weaken_0 : decode cX8_weaken 0 = .ok (.iload_n 1, 1) := by decide +kernel
theorem dX8_weaken_1 : decode cX8_weaken 1 = .ok (.iconst 0, 1) := by decide +kernel
theorem dX8_weaken_2 : decode cX8_weaken 2 = .ok (.aload_n 0, 1) := by decide +kernel
theorem dX8_weaken_3 : decode cX8_weaken 3 = .ok (.getfield 10, 3) := by decide +kernel
theorem dX8_weaken_6 : decode cX8_weaken 6 = .ok (.getfield 57, 3) := by decide +kernel
theorem dX8_weaken_9 : decode cX8_weaken 9 = .ok (.iconst 1, 1) := by decide +kernel
theorem dX8_weaken_10 : decode cX8_weaken 10 = .ok (.isub, 1) := by decide +kernel
theorem dX8_weaken_11 : decode cX8_weaken 11 = .ok (.invokestatic 53, 3) := by decide +kernel
theorem dX8_weaken_14 : decode cX8_weaken 14 = .ok (.ifCond .ne 14, 3) := by decide +kernel
theorem dX8_weaken_17 : decode cX8_weaken 17 = .ok (.iload_n 3, 1) := by decide +kernel
theorem dX8_weaken_18 : decode cX8_weaken 18 = .ok (.iconst 0, 1) := by decide +kernel
theorem dX8_weaken_19 : decode cX8_weaken 19 = .ok (.sipush 199, 3) := by decide +kernel
theorem dX8_weaken_22 : decode cX8_weaken 22 = .ok (.invokestatic 53, 3) := by decide +kernel
theorem dX8_weaken_25 : decode cX8_weaken 25 = .ok (.ifCond .eq 5, 3) := by decide +kernel
theorem dX8_weaken_28 : decode cX8_weaken 28 = .ok (.iconst (-1), 1) := by decide +kernel
theorem dX8_weaken_29 : decode cX8_weaken 29 = .ok (.ireturn, 1) := by decide +kernel
theorem dX8_weaken_30 : decode cX8_weaken 30 = .ok (.iload_n 2, 1) := by decide +kernel
theorem dX8_weaken_31 : decode cX8_weaken 31 = .ok (.iconst 1, 1) := by decide +kernel
theorem dX8_weaken_32 : decode cX8_weaken 32 = .ok (.aload_n 0, 1) := by decide +kernel
theorem dX8_weaken_33 : decode cX8_weaken 33 = .ok (.getfield 10, 3) := by decide +kernel
theorem dX8_weaken_36 : decode cX8_weaken 36 = .ok (.getfield 67, 3) := by decide +kernel
theorem dX8_weaken_39 : decode cX8_weaken 39 = .ok (.iload_n 1, 1) := by decide +kernel
theorem dX8_weaken_40 : decode cX8_weaken 40 = .ok (.aaload, 1) := by decide +kernel
theorem dX8_weaken_41 : decode cX8_weaken 41 = .ok (.getfield 71, 3) := by decide +kernel
theorem dX8_weaken_44 : decode cX8_weaken 44 = .ok (.iconst 1, 1) := by decide +kernel
theorem dX8_weaken_45 : decode cX8_weaken 45 = .ok (.isub, 1) := by decide +kernel
theorem dX8_weaken_46 : decode cX8_weaken 46 = .ok (.invokestatic 53, 3) := by decide +kernel
theorem dX8_weaken_49 : decode cX8_weaken 49 = .ok (.ifCond .eq 5, 3) := by decide +kernel
theorem dX8_weaken_52 : decode cX8_weaken 52 = .ok (.iconst (-1), 1) := by decide +kernel
theorem dX8_weaken_53 : decode cX8_weaken 53 = .ok (.ireturn, 1) := by decide +kernel
theorem dX8_weaken_54 : decode cX8_weaken 54 = .ok (.aload_n 0, 1) := by decide +kernel
theorem dX8_weaken_55 : decode cX8_weaken 55 = .ok (.getfield 10, 3) := by decide +kernel
theorem dX8_weaken_58 : decode cX8_weaken 58 = .ok (.getfield 67, 3) := by decide +kernel
theorem dX8_weaken_61 : decode cX8_weaken 61 = .ok (.iload_n 1, 1) := by decide +kernel
theorem dX8_weaken_62 : decode cX8_weaken 62 = .ok (.aaload, 1) := by decide +kernel
theorem dX8_weaken_63 : decode cX8_weaken 63 = .ok (.iload_n 2, 1) := by decide +kernel
theorem dX8_weaken_64 : decode cX8_weaken 64 = .ok (.invokevirtual 76, 3) := by decide +kernel
theorem dX8_weaken_67 : decode cX8_weaken 67 = .ok (.ifCond .ne 19, 3) := by decide +kernel
theorem dX8_weaken_70 : decode cX8_weaken 70 = .ok (.iload_n 2, 1) := by decide +kernel
theorem dX8_weaken_71 : decode cX8_weaken 71 = .ok (.aload_n 0, 1) := by decide +kernel
theorem dX8_weaken_72 : decode cX8_weaken 72 = .ok (.getfield 10, 3) := by decide +kernel
theorem dX8_weaken_75 : decode cX8_weaken 75 = .ok (.getfield 67, 3) := by decide +kernel
theorem dX8_weaken_78 : decode cX8_weaken 78 = .ok (.iload_n 1, 1) := by decide +kernel
theorem dX8_weaken_79 : decode cX8_weaken 79 = .ok (.aaload, 1) := by decide +kernel
theorem dX8_weaken_80 : decode cX8_weaken 80 = .ok (.getfield 80, 3) := by decide +kernel
theorem dX8_weaken_83 : decode cX8_weaken 83 = .ok (.if_icmp .gt 6, 3) := by decide +kernel
theorem dX8_weaken_86 : decode cX8_weaken 86 = .ok (.bipush (-2), 2) := by decide +kernel
theorem dX8_weaken_88 : decode cX8_weaken 88 = .ok (.ireturn, 1) := by decide +kernel
theorem dX8_weaken_89 : decode cX8_weaken 89 = .ok (.aload_n 0, 1) := by decide +kernel
theorem dX8_weaken_90 : decode cX8_weaken 90 = .ok (.getfield 10, 3) := by decide +kernel
theorem dX8_weaken_93 : decode cX8_weaken 93 = .ok (.getfield 67, 3) := by decide +kernel
theorem dX8_weaken_96 : decode cX8_weaken 96 = .ok (.iload_n 1, 1) := by decide +kernel
theorem dX8_weaken_97 : decode cX8_weaken 97 = .ok (.aaload, 1) := by decide +kernel
theorem dX8_weaken_98 : decode cX8_weaken 98 = .ok (.getfield 83, 3) := by decide +kernel
theorem dX8_weaken_101 : decode cX8_weaken 101 = .ok (.bipush 8, 2) := by decide +kernel
theorem dX8_weaken_103 : decode cX8_weaken 103 = .ok (.if_icmp .lt 6, 3) := by decide +kernel
theorem dX8_weaken_106 : decode cX8_weaken 106 = .ok (.bipush (-3), 2) := by decide +kernel
theorem dX8_weaken_108 : decode cX8_weaken 108 = .ok (.ireturn, 1) := by decide +kernel
theorem dX8_weaken_109 : decode cX8_weaken 109 = .ok (.aload_n 0, 1) := by decide +kernel
theorem dX8_weaken_110 : decode cX8_weaken 110 = .ok (.invokevirtual 60, 3) := by decide +kernel
theorem dX8_weaken_113 : decode cX8_weaken 113 = .ok (.aload_n 0, 1) := by decide +kernel
theorem dX8_weaken_114 : decode cX8_weaken 114 = .ok (.getfield 10, 3) := by decide +kernel
theorem dX8_weaken_117 : decode cX8_weaken 117 = .ok (.getfield 67, 3) := by decide +kernel
theorem dX8_weaken_120 : decode cX8_weaken 120 = .ok (.iload_n 1, 1) := by decide +kernel
theorem dX8_weaken_121 : decode cX8_weaken 121 = .ok (.aaload, 1) := by decide +kernel
theorem dX8_weaken_122 : decode cX8_weaken 122 = .ok (.iload_n 2, 1) := by decide +kernel
theorem dX8_weaken_123 : decode cX8_weaken 123 = .ok (.iload_n 3, 1) := by decide +kernel
theorem dX8_weaken_124 : decode cX8_weaken 124 = .ok (.invokevirtual 86, 3) := by decide +kernel
theorem dX8_weaken_127 : decode cX8_weaken 127 = .ok (.aload_n 0, 1) := by decide +kernel
theorem dX8_weaken_128 : decode cX8_weaken 128 = .ok (.getfield 10, 3) := by decide +kernel
theorem dX8_weaken_131 : decode cX8_weaken 131 = .ok (.getfield 67, 3) := by decide +kernel
theorem dX8_weaken_134 : decode cX8_weaken 134 = .ok (.iload_n 1, 1) := by decide +kernel
theorem dX8_weaken_135 : decode cX8_weaken 135 = .ok (.aaload, 1) := by decide +kernel
theorem dX8_weaken_136 : decode cX8_weaken 136 = .ok (.getfield 83, 3) := by decide +kernel
theorem dX8_weaken_139 : decode cX8_weaken 139 = .ok (.ireturn, 1) := by decide +kernel
theorem dX8_roll_0 : decode cX8_roll 0 = .ok (.iload_n 1, 1) := by decide +kernel
theorem dX8_roll_1 : decode cX8_roll 1 = .ok (.iconst 0, 1) := by decide +kernel
theorem dX8_roll_2 : decode cX8_roll 2 = .ok (.aload_n 0, 1) := by decide +kernel
theorem dX8_roll_3 : decode cX8_roll 3 = .ok (.getfield 10, 3) := by decide +kernel
theorem dX8_roll_6 : decode cX8_roll 6 = .ok (.getfield 57, 3) := by decide +kernel
theorem dX8_roll_9 : decode cX8_roll 9 = .ok (.iconst 1, 1) := by decide +kernel
theorem dX8_roll_10 : decode cX8_roll 10 = .ok (.isub, 1) := by decide +kernel
theorem dX8_roll_11 : decode cX8_roll 11 = .ok (.invokestatic 53, 3) := by decide +kernel
theorem dX8_roll_14 : decode cX8_roll 14 = .ok (.ifCond .ne 12, 3) := by decide +kernel
theorem dX8_roll_17 : decode cX8_roll 17 = .ok (.iload_n 2, 1) := by decide +kernel
theorem dX8_roll_18 : decode cX8_roll 18 = .ok (.iconst 0, 1) := by decide +kernel
theorem dX8_roll_19 : decode cX8_roll 19 = .ok (.iconst 5, 1) := by decide +kernel
theorem dX8_roll_20 : decode cX8_roll 20 = .ok (.invokestatic 53, 3) := by decide +kernel
theorem dX8_roll_23 : decode cX8_roll 23 = .ok (.ifCond .eq 5, 3) := by decide +kernel
theorem dX8_roll_26 : decode cX8_roll 26 = .ok (.iconst (-1), 1) := by decide +kernel
theorem dX8_roll_27 : decode cX8_roll 27 = .ok (.ireturn, 1) := by decide +kernel
theorem dX8_roll_28 : decode cX8_roll 28 = .ok (.aload_n 0, 1) := by decide +kernel
theorem dX8_roll_29 : decode cX8_roll 29 = .ok (.getfield 10, 3) := by decide +kernel
theorem dX8_roll_32 : decode cX8_roll 32 = .ok (.getfield 67, 3) := by decide +kernel
theorem dX8_roll_35 : decode cX8_roll 35 = .ok (.iload_n 1, 1) := by decide +kernel
theorem dX8_roll_36 : decode cX8_roll 36 = .ok (.aaload, 1) := by decide +kernel
theorem dX8_roll_37 : decode cX8_roll 37 = .ok (.iload_n 2, 1) := by decide +kernel
theorem dX8_roll_38 : decode cX8_roll 38 = .ok (.invokevirtual 89, 3) := by decide +kernel
theorem dX8_roll_41 : decode cX8_roll 41 = .ok (.ireturn, 1) := by decide +kernel
theorem dX8_addPallet_0 : decode cX8_addPallet 0 = .ok (.iload_n 1, 1) := by decide +kernel
theorem dX8_addPallet_1 : decode cX8_addPallet 1 = .ok (.bipush 20, 2) := by decide +kernel
theorem dX8_addPallet_3 : decode cX8_addPallet 3 = .ok (.sipush 200, 3) := by decide +kernel
theorem dX8_addPallet_6 : decode cX8_addPallet 6 = .ok (.invokestatic 53, 3) := by decide +kernel
theorem dX8_addPallet_9 : decode cX8_addPallet 9 = .ok (.ifCond .ne 27, 3) := by decide +kernel
theorem dX8_addPallet_12 : decode cX8_addPallet 12 = .ok (.iload_n 2, 1) := by decide +kernel
theorem dX8_addPallet_13 : decode cX8_addPallet 13 = .ok (.bipush 20, 2) := by decide +kernel
theorem dX8_addPallet_15 : decode cX8_addPallet 15 = .ok (.sipush 200, 3) := by decide +kernel
theorem dX8_addPallet_18 : decode cX8_addPallet 18 = .ok (.invokestatic 53, 3) := by decide +kernel
theorem dX8_addPallet_21 : decode cX8_addPallet 21 = .ok (.ifCond .ne 15, 3) := by decide +kernel
theorem dX8_addPallet_24 : decode cX8_addPallet 24 = .ok (.iload_n 3, 1) := by decide +kernel
theorem dX8_addPallet_25 : decode cX8_addPallet 25 = .ok (.bipush 10, 2) := by decide +kernel
theorem dX8_addPallet_27 : decode cX8_addPallet 27 = .ok (.sipush 250, 3) := by decide +kernel
theorem dX8_addPallet_30 : decode cX8_addPallet 30 = .ok (.invokestatic 53, 3) := by decide +kernel
theorem dX8_addPallet_33 : decode cX8_addPallet 33 = .ok (.ifCond .eq 5, 3) := by decide +kernel
theorem dX8_addPallet_36 : decode cX8_addPallet 36 = .ok (.iconst (-1), 1) := by decide +kernel
theorem dX8_addPallet_37 : decode cX8_addPallet 37 = .ok (.ireturn, 1) := by decide +kernel
theorem dX8_addPallet_38 : decode cX8_addPallet 38 = .ok (.iload 4, 2) := by decide +kernel
theorem dX8_addPallet_40 : decode cX8_addPallet 40 = .ok (.iconst 0, 1) := by decide +kernel
theorem dX8_addPallet_41 : decode cX8_addPallet 41 = .ok (.sipush 5000, 3) := by decide +kernel
theorem dX8_addPallet_44 : decode cX8_addPallet 44 = .ok (.invokestatic 53, 3) := by decide +kernel
theorem dX8_addPallet_47 : decode cX8_addPallet 47 = .ok (.ifCond .ne 15, 3) := by decide +kernel
theorem dX8_addPallet_50 : decode cX8_addPallet 50 = .ok (.iload 5, 2) := by decide +kernel
theorem dX8_addPallet_52 : decode cX8_addPallet 52 = .ok (.iconst 0, 1) := by decide +kernel
theorem dX8_addPallet_53 : decode cX8_addPallet 53 = .ok (.sipush 9999, 3) := by decide +kernel
theorem dX8_addPallet_56 : decode cX8_addPallet 56 = .ok (.invokestatic 53, 3) := by decide +kernel
theorem dX8_addPallet_59 : decode cX8_addPallet 59 = .ok (.ifCond .eq 5, 3) := by decide +kernel
theorem dX8_addPallet_62 : decode cX8_addPallet 62 = .ok (.iconst (-1), 1) := by decide +kernel
theorem dX8_addPallet_63 : decode cX8_addPallet 63 = .ok (.ireturn, 1) := by decide +kernel
theorem dX8_addPallet_64 : decode cX8_addPallet 64 = .ok (.aload_n 0, 1) := by decide +kernel
theorem dX8_addPallet_65 : decode cX8_addPallet 65 = .ok (.getfield 10, 3) := by decide +kernel
theorem dX8_addPallet_68 : decode cX8_addPallet 68 = .ok (.getfield 93, 3) := by decide +kernel
theorem dX8_addPallet_71 : decode cX8_addPallet 71 = .ok (.bipush 8, 2) := by decide +kernel
theorem dX8_addPallet_73 : decode cX8_addPallet 73 = .ok (.if_icmp .lt 6, 3) := by decide +kernel
theorem dX8_addPallet_76 : decode cX8_addPallet 76 = .ok (.bipush (-3), 2) := by decide +kernel
theorem dX8_addPallet_78 : decode cX8_addPallet 78 = .ok (.ireturn, 1) := by decide +kernel
theorem dX8_addPallet_79 : decode cX8_addPallet 79 = .ok (.aload_n 0, 1) := by decide +kernel
theorem dX8_addPallet_80 : decode cX8_addPallet 80 = .ok (.invokevirtual 60, 3) := by decide +kernel
theorem dX8_addPallet_83 : decode cX8_addPallet 83 = .ok (.aload_n 0, 1) := by decide +kernel
theorem dX8_addPallet_84 : decode cX8_addPallet 84 = .ok (.getfield 10, 3) := by decide +kernel
theorem dX8_addPallet_87 : decode cX8_addPallet 87 = .ok (.iload 5, 2) := by decide +kernel
theorem dX8_addPallet_89 : decode cX8_addPallet 89 = .ok (.invokevirtual 96, 3) := by decide +kernel
theorem dX8_addPallet_92 : decode cX8_addPallet 92 = .ok (.astore 6, 2) := by decide +kernel
theorem dX8_addPallet_94 : decode cX8_addPallet 94 = .ok (.aload 6, 2) := by decide +kernel
theorem dX8_addPallet_96 : decode cX8_addPallet 96 = .ok (.iload_n 1, 1) := by decide +kernel
theorem dX8_addPallet_97 : decode cX8_addPallet 97 = .ok (.iload_n 2, 1) := by decide +kernel
theorem dX8_addPallet_98 : decode cX8_addPallet 98 = .ok (.iload_n 3, 1) := by decide +kernel
theorem dX8_addPallet_99 : decode cX8_addPallet 99 = .ok (.iload 4, 2) := by decide +kernel
theorem dX8_addPallet_101 : decode cX8_addPallet 101 = .ok (.invokevirtual 100, 3) := by decide +kernel
theorem dX8_addPallet_104 : decode cX8_addPallet 104 = .ok (.aload 6, 2) := by decide +kernel
theorem dX8_addPallet_106 : decode cX8_addPallet 106 = .ok (.getfield 106, 3) := by decide +kernel
theorem dX8_addPallet_109 : decode cX8_addPallet 109 = .ok (.ireturn, 1) := by decide +kernel
theorem dX8_drop_0 : decode cX8_drop 0 = .ok (.iload_n 1, 1) := by decide +kernel
theorem dX8_drop_1 : decode cX8_drop 1 = .ok (.ifCond .ge 5, 3) := by decide +kernel
theorem dX8_drop_4 : decode cX8_drop 4 = .ok (.iconst (-1), 1) := by decide +kernel
theorem dX8_drop_5 : decode cX8_drop 5 = .ok (.ireturn, 1) := by decide +kernel
theorem dX8_drop_6 : decode cX8_drop 6 = .ok (.aload_n 0, 1) := by decide +kernel
theorem dX8_drop_7 : decode cX8_drop 7 = .ok (.getfield 10, 3) := by decide +kernel
theorem dX8_drop_10 : decode cX8_drop 10 = .ok (.iload_n 1, 1) := by decide +kernel
theorem dX8_drop_11 : decode cX8_drop 11 = .ok (.invokevirtual 109, 3) := by decide +kernel
theorem dX8_drop_14 : decode cX8_drop 14 = .ok (.istore_n 2, 1) := by decide +kernel
theorem dX8_drop_15 : decode cX8_drop 15 = .ok (.iload_n 2, 1) := by decide +kernel
theorem dX8_drop_16 : decode cX8_drop 16 = .ok (.iconst (-1), 1) := by decide +kernel
theorem dX8_drop_17 : decode cX8_drop 17 = .ok (.if_icmp .ne 6, 3) := by decide +kernel
theorem dX8_drop_20 : decode cX8_drop 20 = .ok (.bipush (-4), 2) := by decide +kernel
theorem dX8_drop_22 : decode cX8_drop 22 = .ok (.ireturn, 1) := by decide +kernel
theorem dX8_drop_23 : decode cX8_drop 23 = .ok (.aload_n 0, 1) := by decide +kernel
theorem dX8_drop_24 : decode cX8_drop 24 = .ok (.invokevirtual 60, 3) := by decide +kernel
theorem dX8_drop_27 : decode cX8_drop 27 = .ok (.aload_n 0, 1) := by decide +kernel
theorem dX8_drop_28 : decode cX8_drop 28 = .ok (.getfield 10, 3) := by decide +kernel
theorem dX8_drop_31 : decode cX8_drop 31 = .ok (.iload_n 2, 1) := by decide +kernel
theorem dX8_drop_32 : decode cX8_drop 32 = .ok (.invokevirtual 112, 3) := by decide +kernel
theorem dX8_drop_35 : decode cX8_drop 35 = .ok (.aload_n 0, 1) := by decide +kernel
theorem dX8_drop_36 : decode cX8_drop 36 = .ok (.getfield 10, 3) := by decide +kernel
theorem dX8_drop_39 : decode cX8_drop 39 = .ok (.getfield 93, 3) := by decide +kernel
theorem dX8_drop_42 : decode cX8_drop 42 = .ok (.ireturn, 1) := by decide +kernel
theorem dX8_waiting_0 : decode cX8_waiting 0 = .ok (.iload_n 1, 1) := by decide +kernel
theorem dX8_waiting_1 : decode cX8_waiting 1 = .ok (.ifCond .lt 12, 3) := by decide +kernel
theorem dX8_waiting_4 : decode cX8_waiting 4 = .ok (.iload_n 2, 1) := by decide +kernel
theorem dX8_waiting_5 : decode cX8_waiting 5 = .ok (.iconst 0, 1) := by decide +kernel
theorem dX8_waiting_6 : decode cX8_waiting 6 = .ok (.iconst 5, 1) := by decide +kernel
theorem dX8_waiting_7 : decode cX8_waiting 7 = .ok (.invokestatic 53, 3) := by decide +kernel
theorem dX8_waiting_10 : decode cX8_waiting 10 = .ok (.ifCond .eq 5, 3) := by decide +kernel
theorem dX8_waiting_13 : decode cX8_waiting 13 = .ok (.iconst (-1), 1) := by decide +kernel
theorem dX8_waiting_14 : decode cX8_waiting 14 = .ok (.ireturn, 1) := by decide +kernel
theorem dX8_waiting_15 : decode cX8_waiting 15 = .ok (.iload_n 1, 1) := by decide +kernel
theorem dX8_waiting_16 : decode cX8_waiting 16 = .ok (.aload_n 0, 1) := by decide +kernel
theorem dX8_waiting_17 : decode cX8_waiting 17 = .ok (.getfield 10, 3) := by decide +kernel
theorem dX8_waiting_20 : decode cX8_waiting 20 = .ok (.getfield 93, 3) := by decide +kernel
theorem dX8_waiting_23 : decode cX8_waiting 23 = .ok (.if_icmp .lt 6, 3) := by decide +kernel
theorem dX8_waiting_26 : decode cX8_waiting 26 = .ok (.bipush (-4), 2) := by decide +kernel
theorem dX8_waiting_28 : decode cX8_waiting 28 = .ok (.ireturn, 1) := by decide +kernel
theorem dX8_waiting_29 : decode cX8_waiting 29 = .ok (.aload_n 0, 1) := by decide +kernel
theorem dX8_waiting_30 : decode cX8_waiting 30 = .ok (.getfield 10, 3) := by decide +kernel
theorem dX8_waiting_33 : decode cX8_waiting 33 = .ok (.getfield 116, 3) := by decide +kernel
theorem dX8_waiting_36 : decode cX8_waiting 36 = .ok (.iload_n 1, 1) := by decide +kernel
theorem dX8_waiting_37 : decode cX8_waiting 37 = .ok (.aaload, 1) := by decide +kernel
theorem dX8_waiting_38 : decode cX8_waiting 38 = .ok (.iload_n 2, 1) := by decide +kernel
theorem dX8_waiting_39 : decode cX8_waiting 39 = .ok (.invokevirtual 120, 3) := by decide +kernel
theorem dX8_waiting_42 : decode cX8_waiting 42 = .ok (.ireturn, 1) := by decide +kernel
theorem dX8_set_0 : decode cX8_set 0 = .ok (.iload_n 1, 1) := by decide +kernel
theorem dX8_set_1 : decode cX8_set 1 = .ok (.iconst 0, 1) := by decide +kernel
theorem dX8_set_2 : decode cX8_set 2 = .ok (.iconst 1, 1) := by decide +kernel
theorem dX8_set_3 : decode cX8_set 3 = .ok (.invokestatic 53, 3) := by decide +kernel
theorem dX8_set_6 : decode cX8_set 6 = .ok (.ifCond .ne 23, 3) := by decide +kernel
theorem dX8_set_9 : decode cX8_set 9 = .ok (.iload_n 2, 1) := by decide +kernel
theorem dX8_set_10 : decode cX8_set 10 = .ok (.iconst 0, 1) := by decide +kernel
theorem dX8_set_11 : decode cX8_set 11 = .ok (.iload_n 1, 1) := by decide +kernel
theorem dX8_set_12 : decode cX8_set 12 = .ok (.ifCond .ne 9, 3) := by decide +kernel
theorem dX8_set_15 : decode cX8_set 15 = .ok (.sipush 500, 3) := by decide +kernel
theorem dX8_set_18 : decode cX8_set 18 = .ok (.goto 5, 3) := by decide +kernel
theorem dX8_set_21 : decode cX8_set 21 = .ok (.bipush 20, 2) := by decide +kernel
theorem dX8_set_23 : decode cX8_set 23 = .ok (.invokestatic 53, 3) := by decide +kernel
theorem dX8_set_26 : decode cX8_set 26 = .ok (.ifCond .eq 5, 3) := by decide +kernel
theorem dX8_set_29 : decode cX8_set 29 = .ok (.iconst (-1), 1) := by decide +kernel
theorem dX8_set_30 : decode cX8_set 30 = .ok (.ireturn, 1) := by decide +kernel
theorem dX8_set_31 : decode cX8_set 31 = .ok (.aload_n 0, 1) := by decide +kernel
theorem dX8_set_32 : decode cX8_set 32 = .ok (.invokevirtual 60, 3) := by decide +kernel
theorem dX8_set_35 : decode cX8_set 35 = .ok (.iload_n 1, 1) := by decide +kernel
theorem dX8_set_36 : decode cX8_set 36 = .ok (.ifCond .ne 13, 3) := by decide +kernel
theorem dX8_set_39 : decode cX8_set 39 = .ok (.aload_n 0, 1) := by decide +kernel
theorem dX8_set_40 : decode cX8_set 40 = .ok (.getfield 10, 3) := by decide +kernel
theorem dX8_set_43 : decode cX8_set 43 = .ok (.getfield 121, 3) := by decide +kernel
theorem dX8_set_46 : decode cX8_set 46 = .ok (.goto 10, 3) := by decide +kernel
theorem dX8_set_49 : decode cX8_set 49 = .ok (.aload_n 0, 1) := by decide +kernel
theorem dX8_set_50 : decode cX8_set 50 = .ok (.getfield 10, 3) := by decide +kernel
theorem dX8_set_53 : decode cX8_set 53 = .ok (.getfield 124, 3) := by decide +kernel
theorem dX8_set_56 : decode cX8_set 56 = .ok (.istore_n 3, 1) := by decide +kernel
theorem dX8_set_57 : decode cX8_set 57 = .ok (.iload_n 1, 1) := by decide +kernel
theorem dX8_set_58 : decode cX8_set 58 = .ok (.ifCond .ne 14, 3) := by decide +kernel
theorem dX8_set_61 : decode cX8_set 61 = .ok (.aload_n 0, 1) := by decide +kernel
theorem dX8_set_62 : decode cX8_set 62 = .ok (.getfield 10, 3) := by decide +kernel
theorem dX8_set_65 : decode cX8_set 65 = .ok (.iload_n 2, 1) := by decide +kernel
theorem dX8_set_66 : decode cX8_set 66 = .ok (.putfield 121, 3) := by decide +kernel
theorem dX8_set_69 : decode cX8_set 69 = .ok (.goto 11, 3) := by decide +kernel
theorem dX8_set_72 : decode cX8_set 72 = .ok (.aload_n 0, 1) := by decide +kernel
theorem dX8_set_73 : decode cX8_set 73 = .ok (.getfield 10, 3) := by decide +kernel
theorem dX8_set_76 : decode cX8_set 76 = .ok (.iload_n 2, 1) := by decide +kernel
theorem dX8_set_77 : decode cX8_set 77 = .ok (.putfield 124, 3) := by decide +kernel
theorem dX8_set_80 : decode cX8_set 80 = .ok (.iload_n 3, 1) := by decide +kernel
theorem dX8_set_81 : decode cX8_set 81 = .ok (.ireturn, 1) := by decide +kernel
theorem dX8_undo_0 : decode cX8_undo 0 = .ok (.aload_n 0, 1) := by decide +kernel
theorem dX8_undo_1 : decode cX8_undo 1 = .ok (.getfield 23, 3) := by decide +kernel
theorem dX8_undo_4 : decode cX8_undo 4 = .ok (.ifCond .ne 6, 3) := by decide +kernel
theorem dX8_undo_7 : decode cX8_undo 7 = .ok (.bipush (-2), 2) := by decide +kernel
theorem dX8_undo_9 : decode cX8_undo 9 = .ok (.ireturn, 1) := by decide +kernel
theorem dX8_undo_10 : decode cX8_undo 10 = .ok (.aload_n 0, 1) := by decide +kernel
theorem dX8_undo_11 : decode cX8_undo 11 = .ok (.dup, 1) := by decide +kernel
theorem dX8_undo_12 : decode cX8_undo 12 = .ok (.getfield 23, 3) := by decide +kernel
theorem dX8_undo_15 : decode cX8_undo 15 = .ok (.iconst 1, 1) := by decide +kernel
theorem dX8_undo_16 : decode cX8_undo 16 = .ok (.isub, 1) := by decide +kernel
theorem dX8_undo_17 : decode cX8_undo 17 = .ok (.putfield 23, 3) := by decide +kernel
theorem dX8_undo_20 : decode cX8_undo 20 = .ok (.aload_n 0, 1) := by decide +kernel
theorem dX8_undo_21 : decode cX8_undo 21 = .ok (.getfield 10, 3) := by decide +kernel
theorem dX8_undo_24 : decode cX8_undo 24 = .ok (.aload_n 0, 1) := by decide +kernel
theorem dX8_undo_25 : decode cX8_undo 25 = .ok (.getfield 19, 3) := by decide +kernel
theorem dX8_undo_28 : decode cX8_undo 28 = .ok (.aload_n 0, 1) := by decide +kernel
theorem dX8_undo_29 : decode cX8_undo 29 = .ok (.getfield 23, 3) := by decide +kernel
theorem dX8_undo_32 : decode cX8_undo 32 = .ok (.aaload, 1) := by decide +kernel
theorem dX8_undo_33 : decode cX8_undo 33 = .ok (.invokevirtual 127, 3) := by decide +kernel
theorem dX8_undo_36 : decode cX8_undo 36 = .ok (.aload_n 0, 1) := by decide +kernel
theorem dX8_undo_37 : decode cX8_undo 37 = .ok (.getfield 23, 3) := by decide +kernel
theorem dX8_undo_40 : decode cX8_undo 40 = .ok (.ireturn, 1) := by decide +kernel
theorem dX8_count_0 : decode cX8_count 0 = .ok (.iload_n 1, 1) := by decide +kernel
theorem dX8_count_1 : decode cX8_count 1 = .ok (.tableswitch 129 0 8 #[51, 59, 67, 78, 89, 97, 105, 110, 118], 51) := by decide +kernel
theorem dX8_count_52 : decode cX8_count 52 = .ok (.aload_n 0, 1) := by decide +kernel
theorem dX8_count_53 : decode cX8_count 53 = .ok (.getfield 10, 3) := by decide +kernel
theorem dX8_count_56 : decode cX8_count 56 = .ok (.getfield 57, 3) := by decide +kernel
theorem dX8_count_59 : decode cX8_count 59 = .ok (.ireturn, 1) := by decide +kernel
theorem dX8_count_60 : decode cX8_count 60 = .ok (.aload_n 0, 1) := by decide +kernel
theorem dX8_count_61 : decode cX8_count 61 = .ok (.getfield 10, 3) := by decide +kernel
theorem dX8_count_64 : decode cX8_count 64 = .ok (.getfield 93, 3) := by decide +kernel
theorem dX8_count_67 : decode cX8_count 67 = .ok (.ireturn, 1) := by decide +kernel
theorem dX8_count_68 : decode cX8_count 68 = .ok (.aload_n 0, 1) := by decide +kernel
theorem dX8_count_69 : decode cX8_count 69 = .ok (.getfield 10, 3) := by decide +kernel
theorem dX8_count_72 : decode cX8_count 72 = .ok (.getfield 131, 3) := by decide +kernel
theorem dX8_count_75 : decode cX8_count 75 = .ok (.getfield 135, 3) := by decide +kernel
theorem dX8_count_78 : decode cX8_count 78 = .ok (.ireturn, 1) := by decide +kernel
theorem dX8_count_79 : decode cX8_count 79 = .ok (.aload_n 0, 1) := by decide +kernel
theorem dX8_count_80 : decode cX8_count 80 = .ok (.getfield 10, 3) := by decide +kernel
theorem dX8_count_83 : decode cX8_count 83 = .ok (.getfield 139, 3) := by decide +kernel
theorem dX8_count_86 : decode cX8_count 86 = .ok (.getfield 142, 3) := by decide +kernel
theorem dX8_count_89 : decode cX8_count 89 = .ok (.ireturn, 1) := by decide +kernel
theorem dX8_count_90 : decode cX8_count 90 = .ok (.aload_n 0, 1) := by decide +kernel
theorem dX8_count_91 : decode cX8_count 91 = .ok (.getfield 10, 3) := by decide +kernel
theorem dX8_count_94 : decode cX8_count 94 = .ok (.getfield 121, 3) := by decide +kernel
theorem dX8_count_97 : decode cX8_count 97 = .ok (.ireturn, 1) := by decide +kernel
theorem dX8_count_98 : decode cX8_count 98 = .ok (.aload_n 0, 1) := by decide +kernel
theorem dX8_count_99 : decode cX8_count 99 = .ok (.getfield 10, 3) := by decide +kernel
theorem dX8_count_102 : decode cX8_count 102 = .ok (.getfield 124, 3) := by decide +kernel
theorem dX8_count_105 : decode cX8_count 105 = .ok (.ireturn, 1) := by decide +kernel
theorem dX8_count_106 : decode cX8_count 106 = .ok (.aload_n 0, 1) := by decide +kernel
theorem dX8_count_107 : decode cX8_count 107 = .ok (.getfield 23, 3) := by decide +kernel
theorem dX8_count_110 : decode cX8_count 110 = .ok (.ireturn, 1) := by decide +kernel
theorem dX8_count_111 : decode cX8_count 111 = .ok (.aload_n 0, 1) := by decide +kernel
theorem dX8_count_112 : decode cX8_count 112 = .ok (.getfield 30, 3) := by decide +kernel
theorem dX8_count_115 : decode cX8_count 115 = .ok (.getfield 145, 3) := by decide +kernel
theorem dX8_count_118 : decode cX8_count 118 = .ok (.ireturn, 1) := by decide +kernel
theorem dX8_count_119 : decode cX8_count 119 = .ok (.aload_n 0, 1) := by decide +kernel
theorem dX8_count_120 : decode cX8_count 120 = .ok (.getfield 10, 3) := by decide +kernel
theorem dX8_count_123 : decode cX8_count 123 = .ok (.getfield 131, 3) := by decide +kernel
theorem dX8_count_126 : decode cX8_count 126 = .ok (.getfield 146, 3) := by decide +kernel
theorem dX8_count_129 : decode cX8_count 129 = .ok (.ireturn, 1) := by decide +kernel
theorem dX8_count_130 : decode cX8_count 130 = .ok (.iconst (-1), 1) := by decide +kernel
theorem dX8_count_131 : decode cX8_count 131 = .ok (.ireturn, 1) := by decide +kernel
theorem dX8_type_0 : decode cX8_type 0 = .ok (.iload_n 1, 1) := by decide +kernel
theorem dX8_type_1 : decode cX8_type 1 = .ok (.bipush 32, 2) := by decide +kernel
theorem dX8_type_3 : decode cX8_type 3 = .ok (.bipush 126, 2) := by decide +kernel
theorem dX8_type_5 : decode cX8_type 5 = .ok (.invokestatic 53, 3) := by decide +kernel
theorem dX8_type_8 : decode cX8_type 8 = .ok (.ifCond .eq 5, 3) := by decide +kernel
theorem dX8_type_11 : decode cX8_type 11 = .ok (.iconst (-1), 1) := by decide +kernel
theorem dX8_type_12 : decode cX8_type 12 = .ok (.ireturn, 1) := by decide +kernel
theorem dX8_type_13 : decode cX8_type 13 = .ok (.aload_n 0, 1) := by decide +kernel
theorem dX8_type_14 : decode cX8_type 14 = .ok (.getfield 30, 3) := by decide +kernel
theorem dX8_type_17 : decode cX8_type 17 = .ok (.getfield 145, 3) := by decide +kernel
theorem dX8_type_20 : decode cX8_type 20 = .ok (.bipush 100, 2) := by decide +kernel
theorem dX8_type_22 : decode cX8_type 22 = .ok (.if_icmp .lt 6, 3) := by decide +kernel
theorem dX8_type_25 : decode cX8_type 25 = .ok (.bipush (-3), 2) := by decide +kernel
theorem dX8_type_27 : decode cX8_type 27 = .ok (.ireturn, 1) := by decide +kernel
theorem dX8_type_28 : decode cX8_type 28 = .ok (.aload_n 0, 1) := by decide +kernel
theorem dX8_type_29 : decode cX8_type 29 = .ok (.getfield 30, 3) := by decide +kernel
theorem dX8_type_32 : decode cX8_type 32 = .ok (.iload_n 1, 1) := by decide +kernel
theorem dX8_type_33 : decode cX8_type 33 = .ok (.i2c, 1) := by decide +kernel
theorem dX8_type_34 : decode cX8_type 34 = .ok (.invokevirtual 149, 3) := by decide +kernel
theorem dX8_type_37 : decode cX8_type 37 = .ok (.aload_n 0, 1) := by decide +kernel
theorem dX8_type_38 : decode cX8_type 38 = .ok (.getfield 30, 3) := by decide +kernel
theorem dX8_type_41 : decode cX8_type 41 = .ok (.getfield 145, 3) := by decide +kernel
theorem dX8_type_44 : decode cX8_type 44 = .ok (.ireturn, 1) := by decide +kernel
theorem dX8_clearText_0 : decode cX8_clearText 0 = .ok (.aload_n 0, 1) := by decide +kernel
theorem dX8_clearText_1 : decode cX8_clearText 1 = .ok (.getfield 30, 3) := by decide +kernel
theorem dX8_clearText_4 : decode cX8_clearText 4 = .ok (.getfield 145, 3) := by decide +kernel
theorem dX8_clearText_7 : decode cX8_clearText 7 = .ok (.istore_n 1, 1) := by decide +kernel
theorem dX8_clearText_8 : decode cX8_clearText 8 = .ok (.aload_n 0, 1) := by decide +kernel
theorem dX8_clearText_9 : decode cX8_clearText 9 = .ok (.getfield 30, 3) := by decide +kernel
theorem dX8_clearText_12 : decode cX8_clearText 12 = .ok (.iconst 0, 1) := by decide +kernel
theorem dX8_clearText_13 : decode cX8_clearText 13 = .ok (.putfield 145, 3) := by decide +kernel
theorem dX8_clearText_16 : decode cX8_clearText 16 = .ok (.iload_n 1, 1) := by decide +kernel
theorem dX8_clearText_17 : decode cX8_clearText 17 = .ok (.ireturn, 1) := by decide +kernel
theorem dX8_fault_0 : decode cX8_fault 0 = .ok (.aload_n 0, 1) := by decide +kernel
theorem dX8_fault_1 : decode cX8_fault 1 = .ok (.getfield 30, 3) := by decide +kernel
theorem dX8_fault_4 : decode cX8_fault 4 = .ok (.aload_n 0, 1) := by decide +kernel
theorem dX8_fault_5 : decode cX8_fault 5 = .ok (.getfield 37, 3) := by decide +kernel
theorem dX8_fault_8 : decode cX8_fault 8 = .ok (.invokevirtual 153, 3) := by decide +kernel
theorem dX8_fault_11 : decode cX8_fault 11 = .ok (.istore_n 1, 1) := by decide +kernel
theorem dX8_fault_12 : decode cX8_fault 12 = .ok (.iload_n 1, 1) := by decide +kernel
theorem dX8_fault_13 : decode cX8_fault 13 = .ok (.iconst (-1), 1) := by decide +kernel
theorem dX8_fault_14 : decode cX8_fault 14 = .ok (.if_icmp .ne 8, 3) := by decide +kernel
theorem dX8_fault_17 : decode cX8_fault 17 = .ok (.bipush (-4), 2) := by decide +kernel
theorem dX8_fault_19 : decode cX8_fault 19 = .ok (.goto 4, 3) := by decide +kernel
theorem dX8_fault_22 : decode cX8_fault 22 = .ok (.iload_n 1, 1) := by decide +kernel
theorem dX8_fault_23 : decode cX8_fault 23 = .ok (.ireturn, 1) := by decide +kernel
theorem dX8_load_0 : decode cX8_load 0 = .ok (.aload_n 0, 1) := by decide +kernel
theorem dX8_load_1 : decode cX8_load 1 = .ok (.getfield 30, 3) := by decide +kernel
theorem dX8_load_4 : decode cX8_load 4 = .ok (.aload_n 0, 1) := by decide +kernel
theorem dX8_load_5 : decode cX8_load 5 = .ok (.getfield 37, 3) := by decide +kernel
theorem dX8_load_8 : decode cX8_load 8 = .ok (.invokevirtual 153, 3) := by decide +kernel
theorem dX8_load_11 : decode cX8_load 11 = .ok (.iconst (-1), 1) := by decide +kernel
theorem dX8_load_12 : decode cX8_load 12 = .ok (.if_icmp .eq 6, 3) := by decide +kernel
theorem dX8_load_15 : decode cX8_load 15 = .ok (.bipush (-2), 2) := by decide +kernel
theorem dX8_load_17 : decode cX8_load 17 = .ok (.ireturn, 1) := by decide +kernel
theorem dX8_load_18 : decode cX8_load 18 = .ok (.aload_n 0, 1) := by decide +kernel
theorem dX8_load_19 : decode cX8_load 19 = .ok (.invokevirtual 60, 3) := by decide +kernel
theorem dX8_load_22 : decode cX8_load 22 = .ok (.aload_n 0, 1) := by decide +kernel
theorem dX8_load_23 : decode cX8_load 23 = .ok (.getfield 10, 3) := by decide +kernel
theorem dX8_load_26 : decode cX8_load 26 = .ok (.getfield 139, 3) := by decide +kernel
theorem dX8_load_29 : decode cX8_load 29 = .ok (.aload_n 0, 1) := by decide +kernel
theorem dX8_load_30 : decode cX8_load 30 = .ok (.getfield 37, 3) := by decide +kernel
theorem dX8_load_33 : decode cX8_load 33 = .ok (.invokevirtual 157, 3) := by decide +kernel
theorem dX8_load_36 : decode cX8_load 36 = .ok (.aload_n 0, 1) := by decide +kernel
theorem dX8_load_37 : decode cX8_load 37 = .ok (.getfield 10, 3) := by decide +kernel
theorem dX8_load_40 : decode cX8_load 40 = .ok (.getfield 139, 3) := by decide +kernel
theorem dX8_load_43 : decode cX8_load 43 = .ok (.getfield 142, 3) := by decide +kernel
theorem dX8_load_46 : decode cX8_load 46 = .ok (.ireturn, 1) := by decide +kernel
theorem dX8_step_0 : decode cX8_step 0 = .ok (.iload_n 1, 1) := by decide +kernel
theorem dX8_step_1 : decode cX8_step 1 = .ok (.ifCond .lt 12, 3) := by decide +kernel
theorem dX8_step_4 : decode cX8_step 4 = .ok (.iload_n 2, 1) := by decide +kernel
theorem dX8_step_5 : decode cX8_step 5 = .ok (.iconst 0, 1) := by decide +kernel
theorem dX8_step_6 : decode cX8_step 6 = .ok (.iconst 1, 1) := by decide +kernel
theorem dX8_step_7 : decode cX8_step 7 = .ok (.invokestatic 53, 3) := by decide +kernel
theorem dX8_step_10 : decode cX8_step 10 = .ok (.ifCond .eq 5, 3) := by decide +kernel
theorem dX8_step_13 : decode cX8_step 13 = .ok (.iconst (-1), 1) := by decide +kernel
theorem dX8_step_14 : decode cX8_step 14 = .ok (.ireturn, 1) := by decide +kernel
theorem dX8_step_15 : decode cX8_step 15 = .ok (.iload_n 1, 1) := by decide +kernel
theorem dX8_step_16 : decode cX8_step 16 = .ok (.aload_n 0, 1) := by decide +kernel
theorem dX8_step_17 : decode cX8_step 17 = .ok (.getfield 10, 3) := by decide +kernel
theorem dX8_step_20 : decode cX8_step 20 = .ok (.getfield 139, 3) := by decide +kernel
theorem dX8_step_23 : decode cX8_step 23 = .ok (.getfield 142, 3) := by decide +kernel
theorem dX8_step_26 : decode cX8_step 26 = .ok (.if_icmp .lt 6, 3) := by decide +kernel
theorem dX8_step_29 : decode cX8_step 29 = .ok (.bipush (-4), 2) := by decide +kernel
theorem dX8_step_31 : decode cX8_step 31 = .ok (.ireturn, 1) := by decide +kernel
theorem dX8_step_32 : decode cX8_step 32 = .ok (.iload_n 2, 1) := by decide +kernel
theorem dX8_step_33 : decode cX8_step 33 = .ok (.ifCond .ne 18, 3) := by decide +kernel
theorem dX8_step_36 : decode cX8_step 36 = .ok (.aload_n 0, 1) := by decide +kernel
theorem dX8_step_37 : decode cX8_step 37 = .ok (.getfield 10, 3) := by decide +kernel
theorem dX8_step_40 : decode cX8_step 40 = .ok (.getfield 139, 3) := by decide +kernel
theorem dX8_step_43 : decode cX8_step 43 = .ok (.getfield 160, 3) := by decide +kernel
theorem dX8_step_46 : decode cX8_step 46 = .ok (.iload_n 1, 1) := by decide +kernel
theorem dX8_step_47 : decode cX8_step 47 = .ok (.iaload, 1) := by decide +kernel
theorem dX8_step_48 : decode cX8_step 48 = .ok (.goto 15, 3) := by decide +kernel
theorem dX8_step_51 : decode cX8_step 51 = .ok (.aload_n 0, 1) := by decide +kernel
theorem dX8_step_52 : decode cX8_step 52 = .ok (.getfield 10, 3) := by decide +kernel
theorem dX8_step_55 : decode cX8_step 55 = .ok (.getfield 139, 3) := by decide +kernel
theorem dX8_step_58 : decode cX8_step 58 = .ok (.getfield 163, 3) := by decide +kernel
theorem dX8_step_61 : decode cX8_step 61 = .ok (.iload_n 1, 1) := by decide +kernel
theorem dX8_step_62 : decode cX8_step 62 = .ok (.iaload, 1) := by decide +kernel
theorem dX8_step_63 : decode cX8_step 63 = .ok (.ireturn, 1) := by decide +kernel
theorem dX8_write_0 : decode cX8_write 0 = .ok (.aload_n 0, 1) := by decide +kernel
theorem dX8_write_1 : decode cX8_write 1 = .ok (.getfield 30, 3) := by decide +kernel
theorem dX8_write_4 : decode cX8_write 4 = .ok (.aload_n 0, 1) := by decide +kernel
theorem dX8_write_5 : decode cX8_write 5 = .ok (.getfield 10, 3) := by decide +kernel
theorem dX8_write_8 : decode cX8_write 8 = .ok (.getfield 139, 3) := by decide +kernel
theorem dX8_write_11 : decode cX8_write 11 = .ok (.invokevirtual 166, 3) := by decide +kernel
theorem dX8_write_14 : decode cX8_write 14 = .ok (.aload_n 0, 1) := by decide +kernel
theorem dX8_write_15 : decode cX8_write 15 = .ok (.getfield 30, 3) := by decide +kernel
theorem dX8_write_18 : decode cX8_write 18 = .ok (.getfield 145, 3) := by decide +kernel
theorem dX8_write_21 : decode cX8_write 21 = .ok (.ireturn, 1) := by decide +kernel
theorem dX8_textAt_0 : decode cX8_textAt 0 = .ok (.iload_n 1, 1) := by decide +kernel
theorem dX8_textAt_1 : decode cX8_textAt 1 = .ok (.ifCond .ge 5, 3) := by decide +kernel
theorem dX8_textAt_4 : decode cX8_textAt 4 = .ok (.iconst (-1), 1) := by decide +kernel
theorem dX8_textAt_5 : decode cX8_textAt 5 = .ok (.ireturn, 1) := by decide +kernel
theorem dX8_textAt_6 : decode cX8_textAt 6 = .ok (.iload_n 1, 1) := by decide +kernel
theorem dX8_textAt_7 : decode cX8_textAt 7 = .ok (.aload_n 0, 1) := by decide +kernel
theorem dX8_textAt_8 : decode cX8_textAt 8 = .ok (.getfield 30, 3) := by decide +kernel
theorem dX8_textAt_11 : decode cX8_textAt 11 = .ok (.getfield 145, 3) := by decide +kernel
theorem dX8_textAt_14 : decode cX8_textAt 14 = .ok (.if_icmp .lt 6, 3) := by decide +kernel
theorem dX8_textAt_17 : decode cX8_textAt 17 = .ok (.bipush (-4), 2) := by decide +kernel
theorem dX8_textAt_19 : decode cX8_textAt 19 = .ok (.ireturn, 1) := by decide +kernel
theorem dX8_textAt_20 : decode cX8_textAt 20 = .ok (.aload_n 0, 1) := by decide +kernel
theorem dX8_textAt_21 : decode cX8_textAt 21 = .ok (.getfield 30, 3) := by decide +kernel
theorem dX8_textAt_24 : decode cX8_textAt 24 = .ok (.getfield 169, 3) := by decide +kernel
theorem dX8_textAt_27 : decode cX8_textAt 27 = .ok (.iload_n 1, 1) := by decide +kernel
theorem dX8_textAt_28 : decode cX8_textAt 28 = .ok (.caload, 1) := by decide +kernel
theorem dX8_textAt_29 : decode cX8_textAt 29 = .ok (.ireturn, 1) := by decide +kernel
theorem dX8_wrap_0 : decode cX8_wrap 0 = .ok (.aload_n 0, 1) := by decide +kernel
theorem dX8_wrap_1 : decode cX8_wrap 1 = .ok (.getfield 10, 3) := by decide +kernel
theorem dX8_wrap_4 : decode cX8_wrap 4 = .ok (.getfield 93, 3) := by decide +kernel
theorem dX8_wrap_7 : decode cX8_wrap 7 = .ok (.ifCond .ne 6, 3) := by decide +kernel
theorem dX8_wrap_10 : decode cX8_wrap 10 = .ok (.bipush (-2), 2) := by decide +kernel
theorem dX8_wrap_12 : decode cX8_wrap 12 = .ok (.ireturn, 1) := by decide +kernel
theorem dX8_wrap_13 : decode cX8_wrap 13 = .ok (.aload_n 0, 1) := by decide +kernel
theorem dX8_wrap_14 : decode cX8_wrap 14 = .ok (.invokevirtual 60, 3) := by decide +kernel
theorem dX8_wrap_17 : decode cX8_wrap 17 = .ok (.aload_n 0, 1) := by decide +kernel
theorem dX8_wrap_18 : decode cX8_wrap 18 = .ok (.getfield 10, 3) := by decide +kernel
theorem dX8_wrap_21 : decode cX8_wrap 21 = .ok (.aload_n 0, 1) := by decide +kernel
theorem dX8_wrap_22 : decode cX8_wrap 22 = .ok (.getfield 44, 3) := by decide +kernel
theorem dX8_wrap_25 : decode cX8_wrap 25 = .ok (.invokevirtual 173, 3) := by decide +kernel
theorem dX8_wrap_28 : decode cX8_wrap 28 = .ok (.ireturn, 1) := by decide +kernel
theorem dX8_ifWrap_0 : decode cX8_ifWrap 0 = .ok (.iload_n 1, 1) := by decide +kernel
theorem dX8_ifWrap_1 : decode cX8_ifWrap 1 = .ok (.iconst 0, 1) := by decide +kernel
theorem dX8_ifWrap_2 : decode cX8_ifWrap 2 = .ok (.bipush 9, 2) := by decide +kernel
theorem dX8_ifWrap_4 : decode cX8_ifWrap 4 = .ok (.invokestatic 53, 3) := by decide +kernel
theorem dX8_ifWrap_7 : decode cX8_ifWrap 7 = .ok (.ifCond .eq 5, 3) := by decide +kernel
theorem dX8_ifWrap_10 : decode cX8_ifWrap 10 = .ok (.iconst (-1), 1) := by decide +kernel
theorem dX8_ifWrap_11 : decode cX8_ifWrap 11 = .ok (.ireturn, 1) := by decide +kernel
theorem dX8_ifWrap_12 : decode cX8_ifWrap 12 = .ok (.aload_n 0, 1) := by decide +kernel
theorem dX8_ifWrap_13 : decode cX8_ifWrap 13 = .ok (.getfield 10, 3) := by decide +kernel
theorem dX8_ifWrap_16 : decode cX8_ifWrap 16 = .ok (.getfield 93, 3) := by decide +kernel
theorem dX8_ifWrap_19 : decode cX8_ifWrap 19 = .ok (.ifCond .ne 6, 3) := by decide +kernel
theorem dX8_ifWrap_22 : decode cX8_ifWrap 22 = .ok (.bipush (-2), 2) := by decide +kernel
theorem dX8_ifWrap_24 : decode cX8_ifWrap 24 = .ok (.ireturn, 1) := by decide +kernel
theorem dX8_ifWrap_25 : decode cX8_ifWrap 25 = .ok (.aload_n 0, 1) := by decide +kernel
theorem dX8_ifWrap_26 : decode cX8_ifWrap 26 = .ok (.getfield 16, 3) := by decide +kernel
theorem dX8_ifWrap_29 : decode cX8_ifWrap 29 = .ok (.aload_n 0, 1) := by decide +kernel
theorem dX8_ifWrap_30 : decode cX8_ifWrap 30 = .ok (.getfield 10, 3) := by decide +kernel
theorem dX8_ifWrap_33 : decode cX8_ifWrap 33 = .ok (.invokevirtual 127, 3) := by decide +kernel
theorem dX8_ifWrap_36 : decode cX8_ifWrap 36 = .ok (.aload_n 0, 1) := by decide +kernel
theorem dX8_ifWrap_37 : decode cX8_ifWrap 37 = .ok (.getfield 16, 3) := by decide +kernel
theorem dX8_ifWrap_40 : decode cX8_ifWrap 40 = .ok (.aload_n 0, 1) := by decide +kernel
theorem dX8_ifWrap_41 : decode cX8_ifWrap 41 = .ok (.getfield 44, 3) := by decide +kernel
theorem dX8_ifWrap_44 : decode cX8_ifWrap 44 = .ok (.invokevirtual 173, 3) := by decide +kernel
theorem dX8_ifWrap_47 : decode cX8_ifWrap 47 = .ok (.pop, 1) := by decide +kernel
theorem dX8_ifWrap_48 : decode cX8_ifWrap 48 = .ok (.aload_n 0, 1) := by decide +kernel
theorem dX8_ifWrap_49 : decode cX8_ifWrap 49 = .ok (.getfield 16, 3) := by decide +kernel
theorem dX8_ifWrap_52 : decode cX8_ifWrap 52 = .ok (.getfield 177, 3) := by decide +kernel
theorem dX8_ifWrap_55 : decode cX8_ifWrap 55 = .ok (.iconst 0, 1) := by decide +kernel
theorem dX8_ifWrap_56 : decode cX8_ifWrap 56 = .ok (.aaload, 1) := by decide +kernel
theorem dX8_ifWrap_57 : decode cX8_ifWrap 57 = .ok (.iload_n 1, 1) := by decide +kernel
theorem dX8_ifWrap_58 : decode cX8_ifWrap 58 = .ok (.iconst 1, 1) := by decide +kernel
theorem dX8_ifWrap_59 : decode cX8_ifWrap 59 = .ok (.iadd, 1) := by decide +kernel
theorem dX8_ifWrap_60 : decode cX8_ifWrap 60 = .ok (.invokevirtual 181, 3) := by decide +kernel
theorem dX8_ifWrap_63 : decode cX8_ifWrap 63 = .ok (.ireturn, 1) := by decide +kernel
theorem dX8_done_0 : decode cX8_done 0 = .ok (.iload_n 1, 1) := by decide +kernel
theorem dX8_done_1 : decode cX8_done 1 = .ok (.ifCond .lt 13, 3) := by decide +kernel
theorem dX8_done_4 : decode cX8_done 4 = .ok (.iload_n 2, 1) := by decide +kernel
theorem dX8_done_5 : decode cX8_done 5 = .ok (.iconst 0, 1) := by decide +kernel
theorem dX8_done_6 : decode cX8_done 6 = .ok (.bipush 12, 2) := by decide +kernel
theorem dX8_done_8 : decode cX8_done 8 = .ok (.invokestatic 53, 3) := by decide +kernel
theorem dX8_done_11 : decode cX8_done 11 = .ok (.ifCond .eq 5, 3) := by decide +kernel
theorem dX8_done_14 : decode cX8_done 14 = .ok (.iconst (-1), 1) := by decide +kernel
theorem dX8_done_15 : decode cX8_done 15 = .ok (.ireturn, 1) := by decide +kernel
theorem dX8_done_16 : decode cX8_done 16 = .ok (.iload_n 1, 1) := by decide +kernel
theorem dX8_done_17 : decode cX8_done 17 = .ok (.aload_n 0, 1) := by decide +kernel
theorem dX8_done_18 : decode cX8_done 18 = .ok (.getfield 10, 3) := by decide +kernel
theorem dX8_done_21 : decode cX8_done 21 = .ok (.getfield 184, 3) := by decide +kernel
theorem dX8_done_24 : decode cX8_done 24 = .ok (.if_icmp .lt 6, 3) := by decide +kernel
theorem dX8_done_27 : decode cX8_done 27 = .ok (.bipush (-4), 2) := by decide +kernel
theorem dX8_done_29 : decode cX8_done 29 = .ok (.ireturn, 1) := by decide +kernel
theorem dX8_done_30 : decode cX8_done 30 = .ok (.aload_n 0, 1) := by decide +kernel
theorem dX8_done_31 : decode cX8_done 31 = .ok (.getfield 10, 3) := by decide +kernel
theorem dX8_done_34 : decode cX8_done 34 = .ok (.getfield 177, 3) := by decide +kernel
theorem dX8_done_37 : decode cX8_done 37 = .ok (.iload_n 1, 1) := by decide +kernel
theorem dX8_done_38 : decode cX8_done 38 = .ok (.aaload, 1) := by decide +kernel
theorem dX8_done_39 : decode cX8_done 39 = .ok (.iload_n 2, 1) := by decide +kernel
theorem dX8_done_40 : decode cX8_done 40 = .ok (.invokevirtual 181, 3) := by decide +kernel
theorem dX8_done_43 : decode cX8_done 43 = .ok (.ireturn, 1) := by decide +kernel
theorem dX8_zone_0 : decode cX8_zone 0 = .ok (.iload_n 1, 1) := by decide +kernel
theorem dX8_zone_1 : decode cX8_zone 1 = .ok (.ifCond .lt 16, 3) := by decide +kernel
theorem dX8_zone_4 : decode cX8_zone 4 = .ok (.iload_n 2, 1) := by decide +kernel
theorem dX8_zone_5 : decode cX8_zone 5 = .ok (.ifCond .lt 12, 3) := by decide +kernel
theorem dX8_zone_8 : decode cX8_zone 8 = .ok (.iload_n 3, 1) := by decide +kernel
theorem dX8_zone_9 : decode cX8_zone 9 = .ok (.iconst 0, 1) := by decide +kernel
theorem dX8_zone_10 : decode cX8_zone 10 = .ok (.iconst 1, 1) := by decide +kernel
theorem dX8_zone_11 : decode cX8_zone 11 = .ok (.invokestatic 53, 3) := by decide +kernel
theorem dX8_zone_14 : decode cX8_zone 14 = .ok (.ifCond .eq 5, 3) := by decide +kernel
theorem dX8_zone_17 : decode cX8_zone 17 = .ok (.iconst (-1), 1) := by decide +kernel
theorem dX8_zone_18 : decode cX8_zone 18 = .ok (.ireturn, 1) := by decide +kernel
theorem dX8_zone_19 : decode cX8_zone 19 = .ok (.iload_n 1, 1) := by decide +kernel
theorem dX8_zone_20 : decode cX8_zone 20 = .ok (.aload_n 0, 1) := by decide +kernel
theorem dX8_zone_21 : decode cX8_zone 21 = .ok (.getfield 10, 3) := by decide +kernel
theorem dX8_zone_24 : decode cX8_zone 24 = .ok (.getfield 184, 3) := by decide +kernel
theorem dX8_zone_27 : decode cX8_zone 27 = .ok (.if_icmp .ge 19, 3) := by decide +kernel
theorem dX8_zone_30 : decode cX8_zone 30 = .ok (.iload_n 2, 1) := by decide +kernel
theorem dX8_zone_31 : decode cX8_zone 31 = .ok (.aload_n 0, 1) := by decide +kernel
theorem dX8_zone_32 : decode cX8_zone 32 = .ok (.getfield 10, 3) := by decide +kernel
theorem dX8_zone_35 : decode cX8_zone 35 = .ok (.getfield 177, 3) := by decide +kernel
theorem dX8_zone_38 : decode cX8_zone 38 = .ok (.iload_n 1, 1) := by decide +kernel
theorem dX8_zone_39 : decode cX8_zone 39 = .ok (.aaload, 1) := by decide +kernel
theorem dX8_zone_40 : decode cX8_zone 40 = .ok (.getfield 187, 3) := by decide +kernel
theorem dX8_zone_43 : decode cX8_zone 43 = .ok (.if_icmp .lt 6, 3) := by decide +kernel
theorem dX8_zone_46 : decode cX8_zone 46 = .ok (.bipush (-4), 2) := by decide +kernel
theorem dX8_zone_48 : decode cX8_zone 48 = .ok (.ireturn, 1) := by decide +kernel
theorem dX8_zone_49 : decode cX8_zone 49 = .ok (.iload_n 3, 1) := by decide +kernel
theorem dX8_zone_50 : decode cX8_zone 50 = .ok (.ifCond .ne 20, 3) := by decide +kernel
theorem dX8_zone_53 : decode cX8_zone 53 = .ok (.aload_n 0, 1) := by decide +kernel
theorem dX8_zone_54 : decode cX8_zone 54 = .ok (.getfield 10, 3) := by decide +kernel
theorem dX8_zone_57 : decode cX8_zone 57 = .ok (.getfield 177, 3) := by decide +kernel
theorem dX8_zone_60 : decode cX8_zone 60 = .ok (.iload_n 1, 1) := by decide +kernel
theorem dX8_zone_61 : decode cX8_zone 61 = .ok (.aaload, 1) := by decide +kernel
theorem dX8_zone_62 : decode cX8_zone 62 = .ok (.getfield 190, 3) := by decide +kernel
theorem dX8_zone_65 : decode cX8_zone 65 = .ok (.iload_n 2, 1) := by decide +kernel
theorem dX8_zone_66 : decode cX8_zone 66 = .ok (.iaload, 1) := by decide +kernel
theorem dX8_zone_67 : decode cX8_zone 67 = .ok (.goto 17, 3) := by decide +kernel
theorem dX8_zone_70 : decode cX8_zone 70 = .ok (.aload_n 0, 1) := by decide +kernel
theorem dX8_zone_71 : decode cX8_zone 71 = .ok (.getfield 10, 3) := by decide +kernel
theorem dX8_zone_74 : decode cX8_zone 74 = .ok (.getfield 177, 3) := by decide +kernel
theorem dX8_zone_77 : decode cX8_zone 77 = .ok (.iload_n 1, 1) := by decide +kernel
theorem dX8_zone_78 : decode cX8_zone 78 = .ok (.aaload, 1) := by decide +kernel
theorem dX8_zone_79 : decode cX8_zone 79 = .ok (.getfield 193, 3) := by decide +kernel
theorem dX8_zone_82 : decode cX8_zone 82 = .ok (.iload_n 2, 1) := by decide +kernel
theorem dX8_zone_83 : decode cX8_zone 83 = .ok (.iaload, 1) := by decide +kernel
theorem dX8_zone_84 : decode cX8_zone 84 = .ok (.ireturn, 1) := by decide +kernel
theorem dX8_total_0 : decode cX8_total 0 = .ok (.iload_n 1, 1) := by decide +kernel
theorem dX8_total_1 : decode cX8_total 1 = .ok (.iconst 0, 1) := by decide +kernel
theorem dX8_total_2 : decode cX8_total 2 = .ok (.bipush 9, 2) := by decide +kernel
theorem dX8_total_4 : decode cX8_total 4 = .ok (.invokestatic 53, 3) := by decide +kernel
theorem dX8_total_7 : decode cX8_total 7 = .ok (.ifCond .eq 5, 3) := by decide +kernel
theorem dX8_total_10 : decode cX8_total 10 = .ok (.iconst (-1), 1) := by decide +kernel
theorem dX8_total_11 : decode cX8_total 11 = .ok (.ireturn, 1) := by decide +kernel
theorem dX8_total_12 : decode cX8_total 12 = .ok (.aload_n 0, 1) := by decide +kernel
theorem dX8_total_13 : decode cX8_total 13 = .ok (.getfield 10, 3) := by decide +kernel
theorem dX8_total_16 : decode cX8_total 16 = .ok (.getfield 131, 3) := by decide +kernel
theorem dX8_total_19 : decode cX8_total 19 = .ok (.iload_n 1, 1) := by decide +kernel
theorem dX8_total_20 : decode cX8_total 20 = .ok (.invokevirtual 196, 3) := by decide +kernel
theorem dX8_total_23 : decode cX8_total 23 = .ok (.ireturn, 1) := by decide +kernel
theorem dX8_weight_0 : decode cX8_weight 0 = .ok (.aload_n 0, 1) := by decide +kernel
theorem dX8_weight_1 : decode cX8_weight 1 = .ok (.getfield 10, 3) := by decide +kernel
theorem dX8_weight_4 : decode cX8_weight 4 = .ok (.getfield 131, 3) := by decide +kernel
theorem dX8_weight_7 : decode cX8_weight 7 = .ok (.getfield 197, 3) := by decide +kernel
theorem dX8_weight_10 : decode cX8_weight 10 = .ok (.lreturn, 1) := by decide +kernel
theorem dX8_planned_0 : decode cX8_planned 0 = .ok (.iload_n 1, 1) := by decide +kernel
theorem dX8_planned_1 : decode cX8_planned 1 = .ok (.ifCond .ge 5, 3) := by decide +kernel
theorem dX8_planned_4 : decode cX8_planned 4 = .ok (.iconst (-1), 1) := by decide +kernel
theorem dX8_planned_5 : decode cX8_planned 5 = .ok (.ireturn, 1) := by decide +kernel
theorem dX8_planned_6 : decode cX8_planned 6 = .ok (.aload_n 0, 1) := by decide +kernel
theorem dX8_planned_7 : decode cX8_planned 7 = .ok (.getfield 10, 3) := by decide +kernel
theorem dX8_planned_10 : decode cX8_planned 10 = .ok (.getfield 93, 3) := by decide +kernel
theorem dX8_planned_13 : decode cX8_planned 13 = .ok (.ifCond .ne 6, 3) := by decide +kernel
theorem dX8_planned_16 : decode cX8_planned 16 = .ok (.bipush (-2), 2) := by decide +kernel
theorem dX8_planned_18 : decode cX8_planned 18 = .ok (.ireturn, 1) := by decide +kernel
theorem dX8_planned_19 : decode cX8_planned 19 = .ok (.iload_n 1, 1) := by decide +kernel
theorem dX8_planned_20 : decode cX8_planned 20 = .ok (.aload_n 0, 1) := by decide +kernel
theorem dX8_planned_21 : decode cX8_planned 21 = .ok (.getfield 10, 3) := by decide +kernel
theorem dX8_planned_24 : decode cX8_planned 24 = .ok (.getfield 116, 3) := by decide +kernel
theorem dX8_planned_27 : decode cX8_planned 27 = .ok (.iconst 0, 1) := by decide +kernel
theorem dX8_planned_28 : decode cX8_planned 28 = .ok (.aaload, 1) := by decide +kernel
theorem dX8_planned_29 : decode cX8_planned 29 = .ok (.invokevirtual 201, 3) := by decide +kernel
theorem dX8_planned_32 : decode cX8_planned 32 = .ok (.if_icmp .lt 6, 3) := by decide +kernel
theorem dX8_planned_35 : decode cX8_planned 35 = .ok (.bipush (-4), 2) := by decide +kernel
theorem dX8_planned_37 : decode cX8_planned 37 = .ok (.ireturn, 1) := by decide +kernel
theorem dX8_planned_38 : decode cX8_planned 38 = .ok (.aload_n 0, 1) := by decide +kernel
theorem dX8_planned_39 : decode cX8_planned 39 = .ok (.aload_n 0, 1) := by decide +kernel
theorem dX8_planned_40 : decode cX8_planned 40 = .ok (.getfield 10, 3) := by decide +kernel
theorem dX8_planned_43 : decode cX8_planned 43 = .ok (.getfield 139, 3) := by decide +kernel
theorem dX8_planned_46 : decode cX8_planned 46 = .ok (.aload_n 0, 1) := by decide +kernel
theorem dX8_planned_47 : decode cX8_planned 47 = .ok (.getfield 10, 3) := by decide +kernel
theorem dX8_planned_50 : decode cX8_planned 50 = .ok (.getfield 116, 3) := by decide +kernel
theorem dX8_planned_53 : decode cX8_planned 53 = .ok (.iconst 0, 1) := by decide +kernel
theorem dX8_planned_54 : decode cX8_planned 54 = .ok (.aaload, 1) := by decide +kernel
theorem dX8_planned_55 : decode cX8_planned 55 = .ok (.invokevirtual 204, 3) := by decide +kernel
theorem dX8_planned_58 : decode cX8_planned 58 = .ok (.aload_n 0, 1) := by decide +kernel
theorem dX8_planned_59 : decode cX8_planned 59 = .ok (.getfield 48, 3) := by decide +kernel
theorem dX8_planned_62 : decode cX8_planned 62 = .ok (.iload_n 1, 1) := by decide +kernel
theorem dX8_planned_63 : decode cX8_planned 63 = .ok (.iaload, 1) := by decide +kernel
theorem dX8_planned_64 : decode cX8_planned 64 = .ok (.ireturn, 1) := by decide +kernel
theorem dX8_riseFor_0 : decode cX8_riseFor 0 = .ok (.iload_n 1, 1) := by decide +kernel
theorem dX8_riseFor_1 : decode cX8_riseFor 1 = .ok (.iconst 1, 1) := by decide +kernel
theorem dX8_riseFor_2 : decode cX8_riseFor 2 = .ok (.bipush 50, 2) := by decide +kernel
theorem dX8_riseFor_4 : decode cX8_riseFor 4 = .ok (.invokestatic 53, 3) := by decide +kernel
theorem dX8_riseFor_7 : decode cX8_riseFor 7 = .ok (.ifCond .eq 5, 3) := by decide +kernel
theorem dX8_riseFor_10 : decode cX8_riseFor 10 = .ok (.iconst (-1), 1) := by decide +kernel
theorem dX8_riseFor_11 : decode cX8_riseFor 11 = .ok (.ireturn, 1) := by decide +kernel
theorem dX8_riseFor_12 : decode cX8_riseFor 12 = .ok (.aload_n 0, 1) := by decide +kernel
theorem dX8_riseFor_13 : decode cX8_riseFor 13 = .ok (.getfield 10, 3) := by decide +kernel
theorem dX8_riseFor_16 : decode cX8_riseFor 16 = .ok (.getfield 93, 3) := by decide +kernel
theorem dX8_riseFor_19 : decode cX8_riseFor 19 = .ok (.ifCond .ne 6, 3) := by decide +kernel
theorem dX8_riseFor_22 : decode cX8_riseFor 22 = .ok (.bipush (-2), 2) := by decide +kernel
theorem dX8_riseFor_24 : decode cX8_riseFor 24 = .ok (.ireturn, 1) := by decide +kernel
theorem dX8_riseFor_25 : decode cX8_riseFor 25 = .ok (.bipush 100, 2) := by decide +kernel
theorem dX8_riseFor_27 : decode cX8_riseFor 27 = .ok (.istore_n 2, 1) := by decide +kernel
theorem dX8_riseFor_28 : decode cX8_riseFor 28 = .ok (.iload_n 2, 1) := by decide +kernel
theorem dX8_riseFor_29 : decode cX8_riseFor 29 = .ok (.iconst 1, 1) := by decide +kernel
theorem dX8_riseFor_30 : decode cX8_riseFor 30 = .ok (.if_icmp .lt 77, 3) := by decide +kernel
theorem dX8_riseFor_33 : decode cX8_riseFor 33 = .ok (.aload_n 0, 1) := by decide +kernel
theorem dX8_riseFor_34 : decode cX8_riseFor 34 = .ok (.getfield 37, 3) := by decide +kernel
theorem dX8_riseFor_37 : decode cX8_riseFor 37 = .ok (.iconst 0, 1) := by decide +kernel
theorem dX8_riseFor_38 : decode cX8_riseFor 38 = .ok (.putfield 142, 3) := by decide +kernel
theorem dX8_riseFor_41 : decode cX8_riseFor 41 = .ok (.aload_n 0, 1) := by decide +kernel
theorem dX8_riseFor_42 : decode cX8_riseFor 42 = .ok (.getfield 37, 3) := by decide +kernel
theorem dX8_riseFor_45 : decode cX8_riseFor 45 = .ok (.iconst 0, 1) := by decide +kernel
theorem dX8_riseFor_46 : decode cX8_riseFor 46 = .ok (.iconst 1, 1) := by decide +kernel
theorem dX8_riseFor_47 : decode cX8_riseFor 47 = .ok (.invokevirtual 208, 3) := by decide +kernel
theorem dX8_riseFor_50 : decode cX8_riseFor 50 = .ok (.aload_n 0, 1) := by decide +kernel
theorem dX8_riseFor_51 : decode cX8_riseFor 51 = .ok (.getfield 37, 3) := by decide +kernel
theorem dX8_riseFor_54 : decode cX8_riseFor 54 = .ok (.iconst 1, 1) := by decide +kernel
theorem dX8_riseFor_55 : decode cX8_riseFor 55 = .ok (.iload_n 2, 1) := by decide +kernel
theorem dX8_riseFor_56 : decode cX8_riseFor 56 = .ok (.invokevirtual 208, 3) := by decide +kernel
theorem dX8_riseFor_59 : decode cX8_riseFor 59 = .ok (.aload_n 0, 1) := by decide +kernel
theorem dX8_riseFor_60 : decode cX8_riseFor 60 = .ok (.aload_n 0, 1) := by decide +kernel
theorem dX8_riseFor_61 : decode cX8_riseFor 61 = .ok (.getfield 37, 3) := by decide +kernel
theorem dX8_riseFor_64 : decode cX8_riseFor 64 = .ok (.aload_n 0, 1) := by decide +kernel
theorem dX8_riseFor_65 : decode cX8_riseFor 65 = .ok (.getfield 10, 3) := by decide +kernel
theorem dX8_riseFor_68 : decode cX8_riseFor 68 = .ok (.getfield 116, 3) := by decide +kernel
theorem dX8_riseFor_71 : decode cX8_riseFor 71 = .ok (.iconst 0, 1) := by decide +kernel
theorem dX8_riseFor_72 : decode cX8_riseFor 72 = .ok (.aaload, 1) := by decide +kernel
theorem dX8_riseFor_73 : decode cX8_riseFor 73 = .ok (.invokevirtual 204, 3) := by decide +kernel
theorem dX8_riseFor_76 : decode cX8_riseFor 76 = .ok (.aload_n 0, 1) := by decide +kernel
theorem dX8_riseFor_77 : decode cX8_riseFor 77 = .ok (.getfield 48, 3) := by decide +kernel
theorem dX8_riseFor_80 : decode cX8_riseFor 80 = .ok (.aload_n 0, 1) := by decide +kernel
theorem dX8_riseFor_81 : decode cX8_riseFor 81 = .ok (.getfield 10, 3) := by decide +kernel
theorem dX8_riseFor_84 : decode cX8_riseFor 84 = .ok (.getfield 116, 3) := by decide +kernel
theorem dX8_riseFor_87 : decode cX8_riseFor 87 = .ok (.iconst 0, 1) := by decide +kernel
theorem dX8_riseFor_88 : decode cX8_riseFor 88 = .ok (.aaload, 1) := by decide +kernel
theorem dX8_riseFor_89 : decode cX8_riseFor 89 = .ok (.invokevirtual 201, 3) := by decide +kernel
theorem dX8_riseFor_92 : decode cX8_riseFor 92 = .ok (.invokestatic 210, 3) := by decide +kernel
theorem dX8_riseFor_95 : decode cX8_riseFor 95 = .ok (.iload_n 1, 1) := by decide +kernel
theorem dX8_riseFor_96 : decode cX8_riseFor 96 = .ok (.if_icmp .lt 5, 3) := by decide +kernel
theorem dX8_riseFor_99 : decode cX8_riseFor 99 = .ok (.iload_n 2, 1) := by decide +kernel
theorem dX8_riseFor_100 : decode cX8_riseFor 100 = .ok (.ireturn, 1) := by decide +kernel
theorem dX8_riseFor_101 : decode cX8_riseFor 101 = .ok (.iinc 2 (-1), 3) := by decide +kernel
theorem dX8_riseFor_104 : decode cX8_riseFor 104 = .ok (.goto (-76), 3) := by decide +kernel
theorem dX8_riseFor_107 : decode cX8_riseFor 107 = .ok (.bipush (-4), 2) := by decide +kernel
theorem dX8_riseFor_109 : decode cX8_riseFor 109 = .ok (.ireturn, 1) := by decide +kernel
theorem dX8_tensionFor_0 : decode cX8_tensionFor 0 = .ok (.iload_n 1, 1) := by decide +kernel
theorem dX8_tensionFor_1 : decode cX8_tensionFor 1 = .ok (.iconst 1, 1) := by decide +kernel
theorem dX8_tensionFor_2 : decode cX8_tensionFor 2 = .ok (.sipush 500, 3) := by decide +kernel
theorem dX8_tensionFor_5 : decode cX8_tensionFor 5 = .ok (.invokestatic 53, 3) := by decide +kernel
theorem dX8_tensionFor_8 : decode cX8_tensionFor 8 = .ok (.ifCond .eq 5, 3) := by decide +kernel
theorem dX8_tensionFor_11 : decode cX8_tensionFor 11 = .ok (.iconst (-1), 1) := by decide +kernel
theorem dX8_tensionFor_12 : decode cX8_tensionFor 12 = .ok (.ireturn, 1) := by decide +kernel
theorem dX8_tensionFor_13 : decode cX8_tensionFor 13 = .ok (.aload_n 0, 1) := by decide +kernel
theorem dX8_tensionFor_14 : decode cX8_tensionFor 14 = .ok (.getfield 10, 3) := by decide +kernel
theorem dX8_tensionFor_17 : decode cX8_tensionFor 17 = .ok (.getfield 93, 3) := by decide +kernel
theorem dX8_tensionFor_20 : decode cX8_tensionFor 20 = .ok (.ifCond .ne 6, 3) := by decide +kernel
theorem dX8_tensionFor_23 : decode cX8_tensionFor 23 = .ok (.bipush (-2), 2) := by decide +kernel
theorem dX8_tensionFor_25 : decode cX8_tensionFor 25 = .ok (.ireturn, 1) := by decide +kernel
theorem dX8_tensionFor_26 : decode cX8_tensionFor 26 = .ok (.sipush 199, 3) := by decide +kernel
theorem dX8_tensionFor_29 : decode cX8_tensionFor 29 = .ok (.aload_n 0, 1) := by decide +kernel
theorem dX8_tensionFor_30 : decode cX8_tensionFor 30 = .ok (.getfield 10, 3) := by decide +kernel
theorem dX8_tensionFor_33 : decode cX8_tensionFor 33 = .ok (.getfield 116, 3) := by decide +kernel
theorem dX8_tensionFor_36 : decode cX8_tensionFor 36 = .ok (.iconst 0, 1) := by decide +kernel
theorem dX8_tensionFor_37 : decode cX8_tensionFor 37 = .ok (.aaload, 1) := by decide +kernel
theorem dX8_tensionFor_38 : decode cX8_tensionFor 38 = .ok (.getfield 214, 3) := by decide +kernel
theorem dX8_tensionFor_41 : decode cX8_tensionFor 41 = .ok (.iload_n 1, 1) := by decide +kernel
theorem dX8_tensionFor_42 : decode cX8_tensionFor 42 = .ok (.idiv, 1) := by decide +kernel
theorem dX8_tensionFor_43 : decode cX8_tensionFor 43 = .ok (.invokestatic 217, 3) := by decide +kernel
theorem dX8_tensionFor_46 : decode cX8_tensionFor 46 = .ok (.ireturn, 1) := by decide +kernel
theorem dX8_supply_0 : decode cX8_supply 0 = .ok (.aload_n 0, 1) := by decide +kernel
theorem dX8_supply_1 : decode cX8_supply 1 = .ok (.getfield 16, 3) := by decide +kernel
theorem dX8_supply_4 : decode cX8_supply 4 = .ok (.aload_n 0, 1) := by decide +kernel
theorem dX8_supply_5 : decode cX8_supply 5 = .ok (.getfield 10, 3) := by decide +kernel
theorem dX8_supply_8 : decode cX8_supply 8 = .ok (.invokevirtual 127, 3) := by decide +kernel
theorem dX8_supply_11 : decode cX8_supply 11 = .ok (.iconst 0, 1) := by decide +kernel
theorem dX8_supply_12 : decode cX8_supply 12 = .ok (.istore_n 1, 1) := by decide +kernel
theorem dX8_supply_13 : decode cX8_supply 13 = .ok (.iconst 0, 1) := by decide +kernel
theorem dX8_supply_14 : decode cX8_supply 14 = .ok (.istore_n 2, 1) := by decide +kernel
theorem dX8_supply_15 : decode cX8_supply 15 = .ok (.iload_n 2, 1) := by decide +kernel
theorem dX8_supply_16 : decode cX8_supply 16 = .ok (.bipush 8, 2) := by decide +kernel
theorem dX8_supply_18 : decode cX8_supply 18 = .ok (.if_icmp .ge 38, 3) := by decide +kernel
theorem dX8_supply_21 : decode cX8_supply 21 = .ok (.aload_n 0, 1) := by decide +kernel
theorem dX8_supply_22 : decode cX8_supply 22 = .ok (.getfield 16, 3) := by decide +kernel
theorem dX8_supply_25 : decode cX8_supply 25 = .ok (.getfield 93, 3) := by decide +kernel
theorem dX8_supply_28 : decode cX8_supply 28 = .ok (.ifCond .le 28, 3) := by decide +kernel
theorem dX8_supply_31 : decode cX8_supply 31 = .ok (.aload_n 0, 1) := by decide +kernel
theorem dX8_supply_32 : decode cX8_supply 32 = .ok (.getfield 16, 3) := by decide +kernel
theorem dX8_supply_35 : decode cX8_supply 35 = .ok (.aload_n 0, 1) := by decide +kernel
theorem dX8_supply_36 : decode cX8_supply 36 = .ok (.getfield 44, 3) := by decide +kernel
theorem dX8_supply_39 : decode cX8_supply 39 = .ok (.invokevirtual 173, 3) := by decide +kernel
theorem dX8_supply_42 : decode cX8_supply 42 = .ok (.ifCond .eq 5, 3) := by decide +kernel
theorem dX8_supply_45 : decode cX8_supply 45 = .ok (.iload_n 1, 1) := by decide +kernel
theorem dX8_supply_46 : decode cX8_supply 46 = .ok (.ireturn, 1) := by decide +kernel
theorem dX8_supply_47 : decode cX8_supply 47 = .ok (.iinc 1 1, 3) := by decide +kernel
theorem dX8_supply_50 : decode cX8_supply 50 = .ok (.iinc 2 1, 3) := by decide +kernel
theorem dX8_supply_53 : decode cX8_supply 53 = .ok (.goto (-38), 3) := by decide +kernel
theorem dX8_supply_56 : decode cX8_supply 56 = .ok (.iload_n 1, 1) := by decide +kernel
theorem dX8_supply_57 : decode cX8_supply 57 = .ok (.ireturn, 1) := by decide +kernel
theorem dX8_outside_0 : decode cX8_outside 0 = .ok (.iload_n 0, 1) := by decide +kernel
theorem dX8_outside_1 : decode cX8_outside 1 = .ok (.iload_n 1, 1) := by decide +kernel
theorem dX8_outside_2 : decode cX8_outside 2 = .ok (.if_icmp .lt 8, 3) := by decide +kernel
theorem dX8_outside_5 : decode cX8_outside 5 = .ok (.iload_n 0, 1) := by decide +kernel
theorem dX8_outside_6 : decode cX8_outside 6 = .ok (.iload_n 2, 1) := by decide +kernel
theorem dX8_outside_7 : decode cX8_outside 7 = .ok (.if_icmp .le 7, 3) := by decide +kernel
theorem dX8_outside_10 : decode cX8_outside 10 = .ok (.iconst 1, 1) := by decide +kernel
theorem dX8_outside_11 : decode cX8_outside 11 = .ok (.goto 4, 3) := by decide +kernel
theorem dX8_outside_14 : decode cX8_outside 14 = .ok (.iconst 0, 1) := by decide +kernel
theorem dX8_outside_15 : decode cX8_outside 15 = .ok (.ireturn, 1) := by decide +kernel
theorem dX8_roundedUp_0 : decode cX8_roundedUp 0 = .ok (.iload_n 1, 1) := by decide +kernel
theorem dX8_roundedUp_1 : decode cX8_roundedUp 1 = .ok (.ifCond .le 13, 3) := by decide +kernel
theorem dX8_roundedUp_4 : decode cX8_roundedUp 4 = .ok (.iload_n 0, 1) := by decide +kernel
theorem dX8_roundedUp_5 : decode cX8_roundedUp 5 = .ok (.iload_n 1, 1) := by decide +kernel
theorem dX8_roundedUp_6 : decode cX8_roundedUp 6 = .ok (.iadd, 1) := by decide +kernel
theorem dX8_roundedUp_7 : decode cX8_roundedUp 7 = .ok (.iconst 1, 1) := by decide +kernel
theorem dX8_roundedUp_8 : decode cX8_roundedUp 8 = .ok (.isub, 1) := by decide +kernel
theorem dX8_roundedUp_9 : decode cX8_roundedUp 9 = .ok (.iload_n 1, 1) := by decide +kernel
theorem dX8_roundedUp_10 : decode cX8_roundedUp 10 = .ok (.idiv, 1) := by decide +kernel
theorem dX8_roundedUp_11 : decode cX8_roundedUp 11 = .ok (.goto 4, 3) := by decide +kernel
theorem dX8_roundedUp_14 : decode cX8_roundedUp 14 = .ok (.iconst 0, 1) := by decide +kernel
theorem dX8_roundedUp_15 : decode cX8_roundedUp 15 = .ok (.ireturn, 1) := by decide +kernel
theorem dX8_least_0 : decode cX8_least 0 = .ok (.aload_n 0, 1) := by decide +kernel
theorem dX8_least_1 : decode cX8_least 1 = .ok (.arraylength, 1) := by decide +kernel
theorem dX8_least_2 : decode cX8_least 2 = .ok (.ifCond .le 9, 3) := by decide +kernel
theorem dX8_least_5 : decode cX8_least 5 = .ok (.aload_n 0, 1) := by decide +kernel
theorem dX8_least_6 : decode cX8_least 6 = .ok (.iconst 0, 1) := by decide +kernel
theorem dX8_least_7 : decode cX8_least 7 = .ok (.iaload, 1) := by decide +kernel
theorem dX8_least_8 : decode cX8_least 8 = .ok (.goto 4, 3) := by decide +kernel
theorem dX8_least_11 : decode cX8_least 11 = .ok (.iconst 0, 1) := by decide +kernel
theorem dX8_least_12 : decode cX8_least 12 = .ok (.istore_n 2, 1) := by decide +kernel
theorem dX8_least_13 : decode cX8_least 13 = .ok (.iconst 1, 1) := by decide +kernel
theorem dX8_least_14 : decode cX8_least 14 = .ok (.istore_n 3, 1) := by decide +kernel
theorem dX8_least_15 : decode cX8_least 15 = .ok (.iload_n 3, 1) := by decide +kernel
theorem dX8_least_16 : decode cX8_least 16 = .ok (.iload_n 1, 1) := by decide +kernel
theorem dX8_least_17 : decode cX8_least 17 = .ok (.if_icmp .ge 23, 3) := by decide +kernel
theorem dX8_least_20 : decode cX8_least 20 = .ok (.iload_n 3, 1) := by decide +kernel
theorem dX8_least_21 : decode cX8_least 21 = .ok (.aload_n 0, 1) := by decide +kernel
theorem dX8_least_22 : decode cX8_least 22 = .ok (.arraylength, 1) := by decide +kernel
theorem dX8_least_23 : decode cX8_least 23 = .ok (.if_icmp .ge 17, 3) := by decide +kernel
theorem dX8_least_26 : decode cX8_least 26 = .ok (.iload_n 2, 1) := by decide +kernel
theorem dX8_least_27 : decode cX8_least 27 = .ok (.aload_n 0, 1) := by decide +kernel
theorem dX8_least_28 : decode cX8_least 28 = .ok (.iload_n 3, 1) := by decide +kernel
theorem dX8_least_29 : decode cX8_least 29 = .ok (.iaload, 1) := by decide +kernel
theorem dX8_least_30 : decode cX8_least 30 = .ok (.invokestatic 221, 3) := by decide +kernel
theorem dX8_least_33 : decode cX8_least 33 = .ok (.istore_n 2, 1) := by decide +kernel
theorem dX8_least_34 : decode cX8_least 34 = .ok (.iinc 3 1, 3) := by decide +kernel
theorem dX8_least_37 : decode cX8_least 37 = .ok (.goto (-22), 3) := by decide +kernel
theorem dX8_least_40 : decode cX8_least 40 = .ok (.iload_n 2, 1) := by decide +kernel
theorem dX8_least_41 : decode cX8_least 41 = .ok (.ireturn, 1) := by decide +kernel
theorem dX8_forceOf_0 : decode cX8_forceOf 0 = .ok (.iload_n 0, 1) := by decide +kernel
theorem dX8_forceOf_1 : decode cX8_forceOf 1 = .ok (.sipush 141, 3) := by decide +kernel
theorem dX8_forceOf_4 : decode cX8_forceOf 4 = .ok (.imul, 1) := by decide +kernel
theorem dX8_forceOf_5 : decode cX8_forceOf 5 = .ok (.bipush 100, 2) := by decide +kernel
theorem dX8_forceOf_7 : decode cX8_forceOf 7 = .ok (.idiv, 1) := by decide +kernel
theorem dX8_forceOf_8 : decode cX8_forceOf 8 = .ok (.ireturn, 1) := by decide +kernel
theorem dX8_greatestTension_0 : decode cX8_greatestTension 0 = .ok (.iload_n 0, 1) := by decide +kernel
theorem dX8_greatestTension_1 : decode cX8_greatestTension 1 = .ok (.bipush 100, 2) := by decide +kernel
theorem dX8_greatestTension_3 : decode cX8_greatestTension 3 = .ok (.iload_n 1, 1) := by decide +kernel
theorem dX8_greatestTension_4 : decode cX8_greatestTension 4 = .ok (.imul, 1) := by decide +kernel
theorem dX8_greatestTension_5 : decode cX8_greatestTension 5 = .ok (.bipush 99, 2) := by decide +kernel
theorem dX8_greatestTension_7 : decode cX8_greatestTension 7 = .ok (.iadd, 1) := by decide +kernel
theorem dX8_greatestTension_8 : decode cX8_greatestTension 8 = .ok (.sipush 141, 3) := by decide +kernel
theorem dX8_greatestTension_11 : decode cX8_greatestTension 11 = .ok (.idiv, 1) := by decide +kernel
theorem dX8_greatestTension_12 : decode cX8_greatestTension 12 = .ok (.invokestatic 221, 3) := by decide +kernel
theorem dX8_greatestTension_15 : decode cX8_greatestTension 15 = .ok (.ireturn, 1) := by decide +kernel
theorem dX8_firstZone_0 : decode cX8_firstZone 0 = .ok (.iload_n 0, 1) := by decide +kernel
theorem dX8_firstZone_1 : decode cX8_firstZone 1 = .ok (.bipush 10, 2) := by decide +kernel
theorem dX8_firstZone_3 : decode cX8_firstZone 3 = .ok (.idiv, 1) := by decide +kernel
theorem dX8_firstZone_4 : decode cX8_firstZone 4 = .ok (.ireturn, 1) := by decide +kernel
theorem dX8_zonesEnd_0 : decode cX8_zonesEnd 0 = .ok (.iload_n 1, 1) := by decide +kernel
theorem dX8_zonesEnd_1 : decode cX8_zonesEnd 1 = .ok (.iload_n 0, 1) := by decide +kernel
theorem dX8_zonesEnd_2 : decode cX8_zonesEnd 2 = .ok (.bipush 50, 2) := by decide +kernel
theorem dX8_zonesEnd_4 : decode cX8_zonesEnd 4 = .ok (.iadd, 1) := by decide +kernel
theorem dX8_zonesEnd_5 : decode cX8_zonesEnd 5 = .ok (.bipush 10, 2) := by decide +kernel
theorem dX8_zonesEnd_7 : decode cX8_zonesEnd 7 = .ok (.invokestatic 226, 3) := by decide +kernel
theorem dX8_zonesEnd_10 : decode cX8_zonesEnd 10 = .ok (.invokestatic 221, 3) := by decide +kernel
theorem dX8_zonesEnd_13 : decode cX8_zonesEnd 13 = .ok (.ireturn, 1) := by decide +kernel
theorem dX8_nameOf_0 : decode cX8_nameOf 0 = .ok (.iload_n 0, 1) := by decide +kernel
theorem dX8_nameOf_1 : decode cX8_nameOf 1 = .ok (.tableswitch 43 0 3 #[31, 34, 37, 40], 31) := by decide +kernel
theorem dX8_nameOf_32 : decode cX8_nameOf 32 = .ok (.ldc 229, 2) := by decide +kernel
theorem dX8_nameOf_34 : decode cX8_nameOf 34 = .ok (.areturn, 1) := by decide +kernel
theorem dX8_nameOf_35 : decode cX8_nameOf 35 = .ok (.ldc 231, 2) := by decide +kernel
theorem dX8_nameOf_37 : decode cX8_nameOf 37 = .ok (.areturn, 1) := by decide +kernel
theorem dX8_nameOf_38 : decode cX8_nameOf 38 = .ok (.ldc 233, 2) := by decide +kernel
theorem dX8_nameOf_40 : decode cX8_nameOf 40 = .ok (.areturn, 1) := by decide +kernel
theorem dX8_nameOf_41 : decode cX8_nameOf 41 = .ok (.ldc 235, 2) := by decide +kernel
theorem dX8_nameOf_43 : decode cX8_nameOf 43 = .ok (.areturn, 1) := by decide +kernel
theorem dX8_nameOf_44 : decode cX8_nameOf 44 = .ok (.ldc 237, 2) := by decide +kernel
theorem dX8_nameOf_46 : decode cX8_nameOf 46 = .ok (.areturn, 1) := by decide +kernel
theorem dX8_record_0 : decode cX8_record 0 = .ok (.aload_n 0, 1) := by decide +kernel
theorem dX8_record_1 : decode cX8_record 1 = .ok (.getfield 23, 3) := by decide +kernel
theorem dX8_record_4 : decode cX8_record 4 = .ok (.iconst 4, 1) := by decide +kernel
theorem dX8_record_5 : decode cX8_record 5 = .ok (.if_icmp .ne 54, 3) := by decide +kernel
theorem dX8_record_8 : decode cX8_record 8 = .ok (.aload_n 0, 1) := by decide +kernel
theorem dX8_record_9 : decode cX8_record 9 = .ok (.getfield 19, 3) := by decide +kernel
theorem dX8_record_12 : decode cX8_record 12 = .ok (.iconst 0, 1) := by decide +kernel
theorem dX8_record_13 : decode cX8_record 13 = .ok (.aaload, 1) := by decide +kernel
theorem dX8_record_14 : decode cX8_record 14 = .ok (.astore_n 1, 1) := by decide +kernel
theorem dX8_record_15 : decode cX8_record 15 = .ok (.iconst 1, 1) := by decide +kernel
theorem dX8_record_16 : decode cX8_record 16 = .ok (.istore_n 2, 1) := by decide +kernel
theorem dX8_record_17 : decode cX8_record 17 = .ok (.iload_n 2, 1) := by decide +kernel
theorem dX8_record_18 : decode cX8_record 18 = .ok (.iconst 4, 1) := by decide +kernel
theorem dX8_record_19 : decode cX8_record 19 = .ok (.if_icmp .ge 23, 3) := by decide +kernel
theorem dX8_record_22 : decode cX8_record 22 = .ok (.aload_n 0, 1) := by decide +kernel
theorem dX8_record_23 : decode cX8_record 23 = .ok (.getfield 19, 3) := by decide +kernel
theorem dX8_record_26 : decode cX8_record 26 = .ok (.iload_n 2, 1) := by decide +kernel
theorem dX8_record_27 : decode cX8_record 27 = .ok (.iconst 1, 1) := by decide +kernel
theorem dX8_record_28 : decode cX8_record 28 = .ok (.isub, 1) := by decide +kernel
theorem dX8_record_29 : decode cX8_record 29 = .ok (.aload_n 0, 1) := by decide +kernel
theorem dX8_record_30 : decode cX8_record 30 = .ok (.getfield 19, 3) := by decide +kernel
theorem dX8_record_33 : decode cX8_record 33 = .ok (.iload_n 2, 1) := by decide +kernel
theorem dX8_record_34 : decode cX8_record 34 = .ok (.aaload, 1) := by decide +kernel
theorem dX8_record_35 : decode cX8_record 35 = .ok (.aastore, 1) := by decide +kernel
theorem dX8_record_36 : decode cX8_record 36 = .ok (.iinc 2 1, 3) := by decide +kernel
theorem dX8_record_39 : decode cX8_record 39 = .ok (.goto (-22), 3) := by decide +kernel
theorem dX8_record_42 : decode cX8_record 42 = .ok (.aload_n 0, 1) := by decide +kernel
theorem dX8_record_43 : decode cX8_record 43 = .ok (.getfield 19, 3) := by decide +kernel
theorem dX8_record_46 : decode cX8_record 46 = .ok (.iconst 3, 1) := by decide +kernel
theorem dX8_record_47 : decode cX8_record 47 = .ok (.aload_n 1, 1) := by decide +kernel
theorem dX8_record_48 : decode cX8_record 48 = .ok (.aastore, 1) := by decide +kernel
theorem dX8_record_49 : decode cX8_record 49 = .ok (.aload_n 0, 1) := by decide +kernel
theorem dX8_record_50 : decode cX8_record 50 = .ok (.dup, 1) := by decide +kernel
theorem dX8_record_51 : decode cX8_record 51 = .ok (.getfield 23, 3) := by decide +kernel
theorem dX8_record_54 : decode cX8_record 54 = .ok (.iconst 1, 1) := by decide +kernel
theorem dX8_record_55 : decode cX8_record 55 = .ok (.isub, 1) := by decide +kernel
theorem dX8_record_56 : decode cX8_record 56 = .ok (.putfield 23, 3) := by decide +kernel
theorem dX8_record_59 : decode cX8_record 59 = .ok (.aload_n 0, 1) := by decide +kernel
theorem dX8_record_60 : decode cX8_record 60 = .ok (.getfield 19, 3) := by decide +kernel
theorem dX8_record_63 : decode cX8_record 63 = .ok (.aload_n 0, 1) := by decide +kernel
theorem dX8_record_64 : decode cX8_record 64 = .ok (.getfield 23, 3) := by decide +kernel
theorem dX8_record_67 : decode cX8_record 67 = .ok (.aaload, 1) := by decide +kernel
theorem dX8_record_68 : decode cX8_record 68 = .ok (.aload_n 0, 1) := by decide +kernel
theorem dX8_record_69 : decode cX8_record 69 = .ok (.getfield 10, 3) := by decide +kernel
theorem dX8_record_72 : decode cX8_record 72 = .ok (.invokevirtual 127, 3) := by decide +kernel
theorem dX8_record_75 : decode cX8_record 75 = .ok (.aload_n 0, 1) := by decide +kernel
theorem dX8_record_76 : decode cX8_record 76 = .ok (.dup, 1) := by decide +kernel
theorem dX8_record_77 : decode cX8_record 77 = .ok (.getfield 23, 3) := by decide +kernel
theorem dX8_record_80 : decode cX8_record 80 = .ok (.iconst 1, 1) := by decide +kernel
theorem dX8_record_81 : decode cX8_record 81 = .ok (.iadd, 1) := by decide +kernel
theorem dX8_record_82 : decode cX8_record 82 = .ok (.putfield 23, 3) := by decide +kernel
theorem dX8_record_85 : decode cX8_record 85 = .ok (.return_, 1) := by decide +kernel
theorem dX8_planLayers_0 : decode cX8_planLayers 0 = .ok (.aload_n 2, 1) := by decide +kernel
theorem dX8_planLayers_1 : decode cX8_planLayers 1 = .ok (.invokevirtual 201, 3) := by decide +kernel
theorem dX8_planLayers_4 : decode cX8_planLayers 4 = .ok (.istore_n 3, 1) := by decide +kernel
theorem dX8_planLayers_5 : decode cX8_planLayers 5 = .ok (.iconst 0, 1) := by decide +kernel
theorem dX8_planLayers_6 : decode cX8_planLayers 6 = .ok (.istore 4, 2) := by decide +kernel
theorem dX8_planLayers_8 : decode cX8_planLayers 8 = .ok (.iload 4, 2) := by decide +kernel
theorem dX8_planLayers_10 : decode cX8_planLayers 10 = .ok (.bipush 25, 2) := by decide +kernel
theorem dX8_planLayers_12 : decode cX8_planLayers 12 = .ok (.if_icmp .ge 17, 3) := by decide +kernel
theorem dX8_planLayers_15 : decode cX8_planLayers 15 = .ok (.aload_n 0, 1) := by decide +kernel
theorem dX8_planLayers_16 : decode cX8_planLayers 16 = .ok (.getfield 48, 3) := by decide +kernel
theorem dX8_planLayers_19 : decode cX8_planLayers 19 = .ok (.iload 4, 2) := by decide +kernel
theorem dX8_planLayers_21 : decode cX8_planLayers 21 = .ok (.iconst 0, 1) := by decide +kernel
theorem dX8_planLayers_22 : decode cX8_planLayers 22 = .ok (.iastore, 1) := by decide +kernel
theorem dX8_planLayers_23 : decode cX8_planLayers 23 = .ok (.iinc 4 1, 3) := by decide +kernel
theorem dX8_planLayers_26 : decode cX8_planLayers 26 = .ok (.goto (-18), 3) := by decide +kernel
theorem dX8_planLayers_29 : decode cX8_planLayers 29 = .ok (.aload_n 0, 1) := by decide +kernel
theorem dX8_planLayers_30 : decode cX8_planLayers 30 = .ok (.getfield 44, 3) := by decide +kernel
theorem dX8_planLayers_33 : decode cX8_planLayers 33 = .ok (.aload_n 1, 1) := by decide +kernel
theorem dX8_planLayers_34 : decode cX8_planLayers 34 = .ok (.aload_n 2, 1) := by decide +kernel
theorem dX8_planLayers_35 : decode cX8_planLayers 35 = .ok (.invokevirtual 239, 3) := by decide +kernel
theorem dX8_planLayers_38 : decode cX8_planLayers 38 = .ok (.invokevirtual 242, 3) := by decide +kernel
theorem dX8_planLayers_41 : decode cX8_planLayers 41 = .ok (.iconst 0, 1) := by decide +kernel
theorem dX8_planLayers_42 : decode cX8_planLayers 42 = .ok (.istore 4, 2) := by decide +kernel
theorem dX8_planLayers_44 : decode cX8_planLayers 44 = .ok (.iload 4, 2) := by decide +kernel
theorem dX8_planLayers_46 : decode cX8_planLayers 46 = .ok (.ldc 246, 2) := by decide +kernel
theorem dX8_planLayers_48 : decode cX8_planLayers 48 = .ok (.if_icmp .ge 68, 3) := by decide +kernel
theorem dX8_planLayers_51 : decode cX8_planLayers 51 = .ok (.aload_n 0, 1) := by decide +kernel
theorem dX8_planLayers_52 : decode cX8_planLayers 52 = .ok (.getfield 44, 3) := by decide +kernel
theorem dX8_planLayers_55 : decode cX8_planLayers 55 = .ok (.invokevirtual 247, 3) := by decide +kernel
theorem dX8_planLayers_58 : decode cX8_planLayers 58 = .ok (.ifCond .eq 58, 3) := by decide +kernel
theorem dX8_planLayers_61 : decode cX8_planLayers 61 = .ok (.aload_n 0, 1) := by decide +kernel
theorem dX8_planLayers_62 : decode cX8_planLayers 62 = .ok (.getfield 44, 3) := by decide +kernel
theorem dX8_planLayers_65 : decode cX8_planLayers 65 = .ok (.getfield 251, 3) := by decide +kernel
theorem dX8_planLayers_68 : decode cX8_planLayers 68 = .ok (.iload_n 3, 1) := by decide +kernel
theorem dX8_planLayers_69 : decode cX8_planLayers 69 = .ok (.invokestatic 254, 3) := by decide +kernel
theorem dX8_planLayers_72 : decode cX8_planLayers 72 = .ok (.istore 5, 2) := by decide +kernel
theorem dX8_planLayers_74 : decode cX8_planLayers 74 = .ok (.aload_n 0, 1) := by decide +kernel
theorem dX8_planLayers_75 : decode cX8_planLayers 75 = .ok (.getfield 44, 3) := by decide +kernel
theorem dX8_planLayers_78 : decode cX8_planLayers 78 = .ok (.getfield 251, 3) := by decide +kernel
theorem dX8_planLayers_81 : decode cX8_planLayers 81 = .ok (.invokestatic 257, 3) := by decide +kernel
theorem dX8_planLayers_84 : decode cX8_planLayers 84 = .ok (.istore 6, 2) := by decide +kernel
theorem dX8_planLayers_86 : decode cX8_planLayers 86 = .ok (.iload 6, 2) := by decide +kernel
theorem dX8_planLayers_88 : decode cX8_planLayers 88 = .ok (.iload 5, 2) := by decide +kernel
theorem dX8_planLayers_90 : decode cX8_planLayers 90 = .ok (.if_icmp .ge 20, 3) := by decide +kernel
theorem dX8_planLayers_93 : decode cX8_planLayers 93 = .ok (.aload_n 0, 1) := by decide +kernel
theorem dX8_planLayers_94 : decode cX8_planLayers 94 = .ok (.getfield 48, 3) := by decide +kernel
theorem dX8_planLayers_97 : decode cX8_planLayers 97 = .ok (.iload 6, 2) := by decide +kernel
theorem dX8_planLayers_99 : decode cX8_planLayers 99 = .ok (.dup2, 1) := by decide +kernel
theorem dX8_planLayers_100 : decode cX8_planLayers 100 = .ok (.iaload, 1) := by decide +kernel
theorem dX8_planLayers_101 : decode cX8_planLayers 101 = .ok (.iconst 1, 1) := by decide +kernel
theorem dX8_planLayers_102 : decode cX8_planLayers 102 = .ok (.iadd, 1) := by decide +kernel
theorem dX8_planLayers_103 : decode cX8_planLayers 103 = .ok (.iastore, 1) := by decide +kernel
theorem dX8_planLayers_104 : decode cX8_planLayers 104 = .ok (.iinc 6 1, 3) := by decide +kernel
theorem dX8_planLayers_107 : decode cX8_planLayers 107 = .ok (.goto (-21), 3) := by decide +kernel
theorem dX8_planLayers_110 : decode cX8_planLayers 110 = .ok (.iinc 4 1, 3) := by decide +kernel
theorem dX8_planLayers_113 : decode cX8_planLayers 113 = .ok (.goto (-69), 3) := by decide +kernel
theorem dX8_planLayers_116 : decode cX8_planLayers 116 = .ok (.return_, 1) := by decide +kernel
theorem dX9_init_0 : decode cX9_init 0 = .ok (.aload_n 0, 1) := by decide +kernel
theorem dX9_init_1 : decode cX9_init 1 = .ok (.invokespecial 1, 3) := by decide +kernel
theorem dX9_init_4 : decode cX9_init 4 = .ok (.aload_n 0, 1) := by decide +kernel
theorem dX9_init_5 : decode cX9_init 5 = .ok (.sipush 596, 3) := by decide +kernel
theorem dX9_init_8 : decode cX9_init 8 = .ok (.newarray .int, 2) := by decide +kernel
theorem dX9_init_10 : decode cX9_init 10 = .ok (.putfield 7, 3) := by decide +kernel
theorem dX9_init_13 : decode cX9_init 13 = .ok (.aload_n 0, 1) := by decide +kernel
theorem dX9_init_14 : decode cX9_init 14 = .ok (.sipush 2384, 3) := by decide +kernel
theorem dX9_init_17 : decode cX9_init 17 = .ok (.newarray .int, 2) := by decide +kernel
theorem dX9_init_19 : decode cX9_init 19 = .ok (.putfield 13, 3) := by decide +kernel
theorem dX9_init_22 : decode cX9_init 22 = .ok (.aload_n 0, 1) := by decide +kernel
theorem dX9_init_23 : decode cX9_init 23 = .ok (.sipush 596, 3) := by decide +kernel
theorem dX9_init_26 : decode cX9_init 26 = .ok (.newarray .int, 2) := by decide +kernel
theorem dX9_init_28 : decode cX9_init 28 = .ok (.putfield 16, 3) := by decide +kernel
theorem dX9_init_31 : decode cX9_init 31 = .ok (.aload_n 0, 1) := by decide +kernel
theorem dX9_init_32 : decode cX9_init 32 = .ok (.bipush 100, 2) := by decide +kernel
theorem dX9_init_34 : decode cX9_init 34 = .ok (.newarray .int, 2) := by decide +kernel
theorem dX9_init_36 : decode cX9_init 36 = .ok (.putfield 19, 3) := by decide +kernel
theorem dX9_init_39 : decode cX9_init 39 = .ok (.aload_n 0, 1) := by decide +kernel
theorem dX9_init_40 : decode cX9_init 40 = .ok (.bipush 24, 2) := by decide +kernel
theorem dX9_init_42 : decode cX9_init 42 = .ok (.newarray .int, 2) := by decide +kernel
theorem dX9_init_44 : decode cX9_init 44 = .ok (.putfield 22, 3) := by decide +kernel
theorem dX9_init_47 : decode cX9_init 47 = .ok (.aload_n 0, 1) := by decide +kernel
theorem dX9_init_48 : decode cX9_init 48 = .ok (.getfield 7, 3) := by decide +kernel
theorem dX9_init_51 : decode cX9_init 51 = .ok (.iconst 4, 1) := by decide +kernel
theorem dX9_init_52 : decode cX9_init 52 = .ok (.bipush 30, 2) := by decide +kernel
theorem dX9_init_54 : decode cX9_init 54 = .ok (.iastore, 1) := by decide +kernel
theorem dX9_init_55 : decode cX9_init 55 = .ok (.aload_n 0, 1) := by decide +kernel
theorem dX9_init_56 : decode cX9_init 56 = .ok (.getfield 7, 3) := by decide +kernel
theorem dX9_init_59 : decode cX9_init 59 = .ok (.iconst 5, 1) := by decide +kernel
theorem dX9_init_60 : decode cX9_init 60 = .ok (.iconst 3, 1) := by decide +kernel
theorem dX9_init_61 : decode cX9_init 61 = .ok (.iastore, 1) := by decide +kernel
theorem dX9_init_62 : decode cX9_init 62 = .ok (.return_, 1) := by decide +kernel
theorem dX9_in_0 : decode cX9_in 0 = .ok (.lload_n 0, 1) := by decide +kernel
theorem dX9_in_1 : decode cX9_in 1 = .ok (.lload_n 2, 1) := by decide +kernel
theorem dX9_in_2 : decode cX9_in 2 = .ok (.lcmp, 1) := by decide +kernel
theorem dX9_in_3 : decode cX9_in 3 = .ok (.ifCond .lt 14, 3) := by decide +kernel
theorem dX9_in_6 : decode cX9_in 6 = .ok (.lload_n 0, 1) := by decide +kernel
theorem dX9_in_7 : decode cX9_in 7 = .ok (.lload 4, 2) := by decide +kernel
theorem dX9_in_9 : decode cX9_in 9 = .ok (.lcmp, 1) := by decide +kernel
theorem dX9_in_10 : decode cX9_in 10 = .ok (.ifCond .gt 7, 3) := by decide +kernel
theorem dX9_in_13 : decode cX9_in 13 = .ok (.iconst 1, 1) := by decide +kernel
theorem dX9_in_14 : decode cX9_in 14 = .ok (.goto 4, 3) := by decide +kernel
theorem dX9_in_17 : decode cX9_in 17 = .ok (.iconst 0, 1) := by decide +kernel
theorem dX9_in_18 : decode cX9_in 18 = .ok (.ireturn, 1) := by decide +kernel
theorem dX9_up_0 : decode cX9_up 0 = .ok (.iload_n 0, 1) := by decide +kernel
theorem dX9_up_1 : decode cX9_up 1 = .ok (.iload_n 1, 1) := by decide +kernel
theorem dX9_up_2 : decode cX9_up 2 = .ok (.iadd, 1) := by decide +kernel
theorem dX9_up_3 : decode cX9_up 3 = .ok (.iconst 1, 1) := by decide +kernel
theorem dX9_up_4 : decode cX9_up 4 = .ok (.isub, 1) := by decide +kernel
theorem dX9_up_5 : decode cX9_up 5 = .ok (.iload_n 1, 1) := by decide +kernel
theorem dX9_up_6 : decode cX9_up 6 = .ok (.idiv, 1) := by decide +kernel
theorem dX9_up_7 : decode cX9_up 7 = .ok (.ireturn, 1) := by decide +kernel
theorem dX9_lesser_0 : decode cX9_lesser 0 = .ok (.iload_n 0, 1) := by decide +kernel
theorem dX9_lesser_1 : decode cX9_lesser 1 = .ok (.iload_n 1, 1) := by decide +kernel
theorem dX9_lesser_2 : decode cX9_lesser 2 = .ok (.if_icmp .ge 7, 3) := by decide +kernel
theorem dX9_lesser_5 : decode cX9_lesser 5 = .ok (.iload_n 0, 1) := by decide +kernel
theorem dX9_lesser_6 : decode cX9_lesser 6 = .ok (.goto 4, 3) := by decide +kernel
theorem dX9_lesser_9 : decode cX9_lesser 9 = .ok (.iload_n 1, 1) := by decide +kernel
theorem dX9_lesser_10 : decode cX9_lesser 10 = .ok (.ireturn, 1) := by decide +kernel
theorem dX9_forceOf_0 : decode cX9_forceOf 0 = .ok (.iload_n 0, 1) := by decide +kernel
theorem dX9_forceOf_1 : decode cX9_forceOf 1 = .ok (.sipush 141, 3) := by decide +kernel
theorem dX9_forceOf_4 : decode cX9_forceOf 4 = .ok (.imul, 1) := by decide +kernel
theorem dX9_forceOf_5 : decode cX9_forceOf 5 = .ok (.bipush 100, 2) := by decide +kernel
theorem dX9_forceOf_7 : decode cX9_forceOf 7 = .ok (.idiv, 1) := by decide +kernel
theorem dX9_forceOf_8 : decode cX9_forceOf 8 = .ok (.ireturn, 1) := by decide +kernel
theorem dX9_change_0 : decode cX9_change 0 = .ok (.aload_n 0, 1) := by decide +kernel
theorem dX9_change_1 : decode cX9_change 1 = .ok (.getfield 25, 3) := by decide +kernel
theorem dX9_change_4 : decode cX9_change 4 = .ok (.iconst 4, 1) := by decide +kernel
theorem dX9_change_5 : decode cX9_change 5 = .ok (.if_icmp .ne 44, 3) := by decide +kernel
theorem dX9_change_8 : decode cX9_change 8 = .ok (.iconst 0, 1) := by decide +kernel
theorem dX9_change_9 : decode cX9_change 9 = .ok (.istore_n 1, 1) := by decide +kernel
theorem dX9_change_10 : decode cX9_change 10 = .ok (.iload_n 1, 1) := by decide +kernel
theorem dX9_change_11 : decode cX9_change 11 = .ok (.sipush 1788, 3) := by decide +kernel
theorem dX9_change_14 : decode cX9_change 14 = .ok (.if_icmp .ge 25, 3) := by decide +kernel
theorem dX9_change_17 : decode cX9_change 17 = .ok (.aload_n 0, 1) := by decide +kernel
theorem dX9_change_18 : decode cX9_change 18 = .ok (.getfield 13, 3) := by decide +kernel
theorem dX9_change_21 : decode cX9_change 21 = .ok (.iload_n 1, 1) := by decide +kernel
theorem dX9_change_22 : decode cX9_change 22 = .ok (.aload_n 0, 1) := by decide +kernel
theorem dX9_change_23 : decode cX9_change 23 = .ok (.getfield 13, 3) := by decide +kernel
theorem dX9_change_26 : decode cX9_change 26 = .ok (.iload_n 1, 1) := by decide +kernel
theorem dX9_change_27 : decode cX9_change 27 = .ok (.sipush 596, 3) := by decide +kernel
theorem dX9_change_30 : decode cX9_change 30 = .ok (.iadd, 1) := by decide +kernel
theorem dX9_change_31 : decode cX9_change 31 = .ok (.iaload, 1) := by decide +kernel
theorem dX9_change_32 : decode cX9_change 32 = .ok (.iastore, 1) := by decide +kernel
theorem dX9_change_33 : decode cX9_change 33 = .ok (.iinc 1 1, 3) := by decide +kernel
theorem dX9_change_36 : decode cX9_change 36 = .ok (.goto (-26), 3) := by decide +kernel
theorem dX9_change_39 : decode cX9_change 39 = .ok (.aload_n 0, 1) := by decide +kernel
theorem dX9_change_40 : decode cX9_change 40 = .ok (.dup, 1) := by decide +kernel
theorem dX9_change_41 : decode cX9_change 41 = .ok (.getfield 25, 3) := by decide +kernel
theorem dX9_change_44 : decode cX9_change 44 = .ok (.iconst 1, 1) := by decide +kernel
theorem dX9_change_45 : decode cX9_change 45 = .ok (.isub, 1) := by decide +kernel
theorem dX9_change_46 : decode cX9_change 46 = .ok (.putfield 25, 3) := by decide +kernel
theorem dX9_change_49 : decode cX9_change 49 = .ok (.iconst 0, 1) := by decide +kernel
theorem dX9_change_50 : decode cX9_change 50 = .ok (.istore_n 1, 1) := by decide +kernel
theorem dX9_change_51 : decode cX9_change 51 = .ok (.iload_n 1, 1) := by decide +kernel
theorem dX9_change_52 : decode cX9_change 52 = .ok (.sipush 596, 3) := by decide +kernel
theorem dX9_change_55 : decode cX9_change 55 = .ok (.if_icmp .ge 30, 3) := by decide +kernel
theorem dX9_change_58 : decode cX9_change 58 = .ok (.aload_n 0, 1) := by decide +kernel
theorem dX9_change_59 : decode cX9_change 59 = .ok (.getfield 13, 3) := by decide +kernel
theorem dX9_change_62 : decode cX9_change 62 = .ok (.aload_n 0, 1) := by decide +kernel
theorem dX9_change_63 : decode cX9_change 63 = .ok (.getfield 25, 3) := by decide +kernel
theorem dX9_change_66 : decode cX9_change 66 = .ok (.sipush 596, 3) := by decide +kernel
theorem dX9_change_69 : decode cX9_change 69 = .ok (.imul, 1) := by decide +kernel
theorem dX9_change_70 : decode cX9_change 70 = .ok (.iload_n 1, 1) := by decide +kernel
theorem dX9_change_71 : decode cX9_change 71 = .ok (.iadd, 1) := by decide +kernel
theorem dX9_change_72 : decode cX9_change 72 = .ok (.aload_n 0, 1) := by decide +kernel
theorem dX9_change_73 : decode cX9_change 73 = .ok (.getfield 7, 3) := by decide +kernel
theorem dX9_change_76 : decode cX9_change 76 = .ok (.iload_n 1, 1) := by decide +kernel
theorem dX9_change_77 : decode cX9_change 77 = .ok (.iaload, 1) := by decide +kernel
theorem dX9_change_78 : decode cX9_change 78 = .ok (.iastore, 1) := by decide +kernel
theorem dX9_change_79 : decode cX9_change 79 = .ok (.iinc 1 1, 3) := by decide +kernel
theorem dX9_change_82 : decode cX9_change 82 = .ok (.goto (-31), 3) := by decide +kernel
theorem dX9_change_85 : decode cX9_change 85 = .ok (.aload_n 0, 1) := by decide +kernel
theorem dX9_change_86 : decode cX9_change 86 = .ok (.dup, 1) := by decide +kernel
theorem dX9_change_87 : decode cX9_change 87 = .ok (.getfield 25, 3) := by decide +kernel
theorem dX9_change_90 : decode cX9_change 90 = .ok (.iconst 1, 1) := by decide +kernel
theorem dX9_change_91 : decode cX9_change 91 = .ok (.iadd, 1) := by decide +kernel
theorem dX9_change_92 : decode cX9_change 92 = .ok (.putfield 25, 3) := by decide +kernel
theorem dX9_change_95 : decode cX9_change 95 = .ok (.return_, 1) := by decide +kernel
theorem dX9_laysAside_0 : decode cX9_laysAside 0 = .ok (.iconst 0, 1) := by decide +kernel
theorem dX9_laysAside_1 : decode cX9_laysAside 1 = .ok (.istore_n 1, 1) := by decide +kernel
theorem dX9_laysAside_2 : decode cX9_laysAside 2 = .ok (.iload_n 1, 1) := by decide +kernel
theorem dX9_laysAside_3 : decode cX9_laysAside 3 = .ok (.sipush 596, 3) := by decide +kernel
theorem dX9_laysAside_6 : decode cX9_laysAside 6 = .ok (.if_icmp .ge 21, 3) := by decide +kernel
theorem dX9_laysAside_9 : decode cX9_laysAside 9 = .ok (.aload_n 0, 1) := by decide +kernel
theorem dX9_laysAside_10 : decode cX9_laysAside 10 = .ok (.getfield 16, 3) := by decide +kernel
theorem dX9_laysAside_13 : decode cX9_laysAside 13 = .ok (.iload_n 1, 1) := by decide +kernel
theorem dX9_laysAside_14 : decode cX9_laysAside 14 = .ok (.aload_n 0, 1) := by decide +kernel
theorem dX9_laysAside_15 : decode cX9_laysAside 15 = .ok (.getfield 7, 3) := by decide +kernel
theorem dX9_laysAside_18 : decode cX9_laysAside 18 = .ok (.iload_n 1, 1) := by decide +kernel
theorem dX9_laysAside_19 : decode cX9_laysAside 19 = .ok (.iaload, 1) := by decide +kernel
theorem dX9_laysAside_20 : decode cX9_laysAside 20 = .ok (.iastore, 1) := by decide +kernel
theorem dX9_laysAside_21 : decode cX9_laysAside 21 = .ok (.iinc 1 1, 3) := by decide +kernel
theorem dX9_laysAside_24 : decode cX9_laysAside 24 = .ok (.goto (-22), 3) := by decide +kernel
theorem dX9_laysAside_27 : decode cX9_laysAside 27 = .ok (.return_, 1) := by decide +kernel
theorem dX9_takesBack_0 : decode cX9_takesBack 0 = .ok (.iconst 0, 1) := by decide +kernel
theorem dX9_takesBack_1 : decode cX9_takesBack 1 = .ok (.istore_n 1, 1) := by decide +kernel
theorem dX9_takesBack_2 : decode cX9_takesBack 2 = .ok (.iload_n 1, 1) := by decide +kernel
theorem dX9_takesBack_3 : decode cX9_takesBack 3 = .ok (.sipush 596, 3) := by decide +kernel
theorem dX9_takesBack_6 : decode cX9_takesBack 6 = .ok (.if_icmp .ge 21, 3) := by decide +kernel
theorem dX9_takesBack_9 : decode cX9_takesBack 9 = .ok (.aload_n 0, 1) := by decide +kernel
theorem dX9_takesBack_10 : decode cX9_takesBack 10 = .ok (.getfield 7, 3) := by decide +kernel
theorem dX9_takesBack_13 : decode cX9_takesBack 13 = .ok (.iload_n 1, 1) := by decide +kernel
theorem dX9_takesBack_14 : decode cX9_takesBack 14 = .ok (.aload_n 0, 1) := by decide +kernel
theorem dX9_takesBack_15 : decode cX9_takesBack 15 = .ok (.getfield 16, 3) := by decide +kernel
theorem dX9_takesBack_18 : decode cX9_takesBack 18 = .ok (.iload_n 1, 1) := by decide +kernel
theorem dX9_takesBack_19 : decode cX9_takesBack 19 = .ok (.iaload, 1) := by decide +kernel
theorem dX9_takesBack_20 : decode cX9_takesBack 20 = .ok (.iastore, 1) := by decide +kernel
theorem dX9_takesBack_21 : decode cX9_takesBack 21 = .ok (.iinc 1 1, 3) := by decide +kernel
theorem dX9_takesBack_24 : decode cX9_takesBack 24 = .ok (.goto (-22), 3) := by decide +kernel
theorem dX9_takesBack_27 : decode cX9_takesBack 27 = .ok (.return_, 1) := by decide +kernel
theorem dX9_undo_0 : decode cX9_undo 0 = .ok (.aload_n 0, 1) := by decide +kernel
theorem dX9_undo_1 : decode cX9_undo 1 = .ok (.getfield 25, 3) := by decide +kernel
theorem dX9_undo_4 : decode cX9_undo 4 = .ok (.ifCond .ne 6, 3) := by decide +kernel
theorem dX9_undo_7 : decode cX9_undo 7 = .ok (.bipush (-2), 2) := by decide +kernel
theorem dX9_undo_9 : decode cX9_undo 9 = .ok (.ireturn, 1) := by decide +kernel
theorem dX9_undo_10 : decode cX9_undo 10 = .ok (.aload_n 0, 1) := by decide +kernel
theorem dX9_undo_11 : decode cX9_undo 11 = .ok (.dup, 1) := by decide +kernel
theorem dX9_undo_12 : decode cX9_undo 12 = .ok (.getfield 25, 3) := by decide +kernel
theorem dX9_undo_15 : decode cX9_undo 15 = .ok (.iconst 1, 1) := by decide +kernel
theorem dX9_undo_16 : decode cX9_undo 16 = .ok (.isub, 1) := by decide +kernel
theorem dX9_undo_17 : decode cX9_undo 17 = .ok (.putfield 25, 3) := by decide +kernel
theorem dX9_undo_20 : decode cX9_undo 20 = .ok (.iconst 0, 1) := by decide +kernel
theorem dX9_undo_21 : decode cX9_undo 21 = .ok (.istore_n 1, 1) := by decide +kernel
theorem dX9_undo_22 : decode cX9_undo 22 = .ok (.iload_n 1, 1) := by decide +kernel
theorem dX9_undo_23 : decode cX9_undo 23 = .ok (.sipush 596, 3) := by decide +kernel
theorem dX9_undo_26 : decode cX9_undo 26 = .ok (.if_icmp .ge 30, 3) := by decide +kernel
theorem dX9_undo_29 : decode cX9_undo 29 = .ok (.aload_n 0, 1) := by decide +kernel
theorem dX9_undo_30 : decode cX9_undo 30 = .ok (.getfield 7, 3) := by decide +kernel
theorem dX9_undo_33 : decode cX9_undo 33 = .ok (.iload_n 1, 1) := by decide +kernel
theorem dX9_undo_34 : decode cX9_undo 34 = .ok (.aload_n 0, 1) := by decide +kernel
theorem dX9_undo_35 : decode cX9_undo 35 = .ok (.getfield 13, 3) := by decide +kernel
theorem dX9_undo_38 : decode cX9_undo 38 = .ok (.aload_n 0, 1) := by decide +kernel
theorem dX9_undo_39 : decode cX9_undo 39 = .ok (.getfield 25, 3) := by decide +kernel
theorem dX9_undo_42 : decode cX9_undo 42 = .ok (.sipush 596, 3) := by decide +kernel
theorem dX9_undo_45 : decode cX9_undo 45 = .ok (.imul, 1) := by decide +kernel
theorem dX9_undo_46 : decode cX9_undo 46 = .ok (.iload_n 1, 1) := by decide +kernel
theorem dX9_undo_47 : decode cX9_undo 47 = .ok (.iadd, 1) := by decide +kernel
theorem dX9_undo_48 : decode cX9_undo 48 = .ok (.iaload, 1) := by decide +kernel
theorem dX9_undo_49 : decode cX9_undo 49 = .ok (.iastore, 1) := by decide +kernel
theorem dX9_undo_50 : decode cX9_undo 50 = .ok (.iinc 1 1, 3) := by decide +kernel
theorem dX9_undo_53 : decode cX9_undo 53 = .ok (.goto (-31), 3) := by decide +kernel
theorem dX9_undo_56 : decode cX9_undo 56 = .ok (.aload_n 0, 1) := by decide +kernel
theorem dX9_undo_57 : decode cX9_undo 57 = .ok (.getfield 25, 3) := by decide +kernel
theorem dX9_undo_60 : decode cX9_undo 60 = .ok (.ireturn, 1) := by decide +kernel
theorem dX9_rollAt_0 : decode cX9_rollAt 0 = .ok (.aload_n 0, 1) := by decide +kernel
theorem dX9_rollAt_1 : decode cX9_rollAt 1 = .ok (.getfield 7, 3) := by decide +kernel
theorem dX9_rollAt_4 : decode cX9_rollAt 4 = .ok (.bipush 20, 2) := by decide +kernel
theorem dX9_rollAt_6 : decode cX9_rollAt 6 = .ok (.bipush 20, 2) := by decide +kernel
theorem dX9_rollAt_8 : decode cX9_rollAt 8 = .ok (.iload_n 1, 1) := by decide +kernel
theorem dX9_rollAt_9 : decode cX9_rollAt 9 = .ok (.imul, 1) := by decide +kernel
theorem dX9_rollAt_10 : decode cX9_rollAt 10 = .ok (.iadd, 1) := by decide +kernel
theorem dX9_rollAt_11 : decode cX9_rollAt 11 = .ok (.iload_n 2, 1) := by decide +kernel
theorem dX9_rollAt_12 : decode cX9_rollAt 12 = .ok (.iadd, 1) := by decide +kernel
theorem dX9_rollAt_13 : decode cX9_rollAt 13 = .ok (.iaload, 1) := by decide +kernel
theorem dX9_rollAt_14 : decode cX9_rollAt 14 = .ok (.ireturn, 1) := by decide +kernel
theorem dX9_addRoll_0 : decode cX9_addRoll 0 = .ok (.iload_n 1, 1) := by decide +kernel
theorem dX9_addRoll_1 : decode cX9_addRoll 1 = .ok (.i2l, 1) := by decide +kernel
theorem dX9_addRoll_2 : decode cX9_addRoll 2 = .ok (.ldc2_w 29, 3) := by decide +kernel
theorem dX9_addRoll_5 : decode cX9_addRoll 5 = .ok (.ldc2_w 31, 3) := by decide +kernel
theorem dX9_addRoll_8 : decode cX9_addRoll 8 = .ok (.invokestatic 33, 3) := by decide +kernel
theorem dX9_addRoll_11 : decode cX9_addRoll 11 = .ok (.ifCond .eq 15, 3) := by decide +kernel
theorem dX9_addRoll_14 : decode cX9_addRoll 14 = .ok (.iload_n 2, 1) := by decide +kernel
theorem dX9_addRoll_15 : decode cX9_addRoll 15 = .ok (.i2l, 1) := by decide +kernel
theorem dX9_addRoll_16 : decode cX9_addRoll 16 = .ok (.lconst 1, 1) := by decide +kernel
theorem dX9_addRoll_17 : decode cX9_addRoll 17 = .ok (.ldc2_w 37, 3) := by decide +kernel
theorem dX9_addRoll_20 : decode cX9_addRoll 20 = .ok (.invokestatic 33, 3) := by decide +kernel
theorem dX9_addRoll_23 : decode cX9_addRoll 23 = .ok (.ifCond .ne 5, 3) := by decide +kernel
theorem dX9_addRoll_26 : decode cX9_addRoll 26 = .ok (.iconst (-1), 1) := by decide +kernel
theorem dX9_addRoll_27 : decode cX9_addRoll 27 = .ok (.ireturn, 1) := by decide +kernel
theorem dX9_addRoll_28 : decode cX9_addRoll 28 = .ok (.aload_n 0, 1) := by decide +kernel
theorem dX9_addRoll_29 : decode cX9_addRoll 29 = .ok (.getfield 7, 3) := by decide +kernel
theorem dX9_addRoll_32 : decode cX9_addRoll 32 = .ok (.iconst 0, 1) := by decide +kernel
theorem dX9_addRoll_33 : decode cX9_addRoll 33 = .ok (.iaload, 1) := by decide +kernel
theorem dX9_addRoll_34 : decode cX9_addRoll 34 = .ok (.bipush 6, 2) := by decide +kernel
theorem dX9_addRoll_36 : decode cX9_addRoll 36 = .ok (.if_icmp .ne 6, 3) := by decide +kernel
theorem dX9_addRoll_39 : decode cX9_addRoll 39 = .ok (.bipush (-3), 2) := by decide +kernel
theorem dX9_addRoll_41 : decode cX9_addRoll 41 = .ok (.ireturn, 1) := by decide +kernel
theorem dX9_addRoll_42 : decode cX9_addRoll 42 = .ok (.aload_n 0, 1) := by decide +kernel
theorem dX9_addRoll_43 : decode cX9_addRoll 43 = .ok (.invokevirtual 39, 3) := by decide +kernel
theorem dX9_addRoll_46 : decode cX9_addRoll 46 = .ok (.bipush 20, 2) := by decide +kernel
theorem dX9_addRoll_48 : decode cX9_addRoll 48 = .ok (.bipush 20, 2) := by decide +kernel
theorem dX9_addRoll_50 : decode cX9_addRoll 50 = .ok (.aload_n 0, 1) := by decide +kernel
theorem dX9_addRoll_51 : decode cX9_addRoll 51 = .ok (.getfield 7, 3) := by decide +kernel
theorem dX9_addRoll_54 : decode cX9_addRoll 54 = .ok (.iconst 0, 1) := by decide +kernel
theorem dX9_addRoll_55 : decode cX9_addRoll 55 = .ok (.iaload, 1) := by decide +kernel
