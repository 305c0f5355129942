theorem dX0_init_0 : decode cX0_init 0 = .ok (.aload_n 0, 1) := by decide +kernel
theorem dX0_init_1 : decode cX0_init 1 = .ok (.invokespecial 3, 3) := by decide +kernel
theorem dX0_init_4 : decode cX0_init 4 = .ok (.aload_n 0, 1) := by decide +kernel
theorem dX0_init_5 : decode cX0_init 5 = .ok (.bipush 30, 2) := by decide +kernel
theorem dX0_init_7 : decode cX0_init 7 = .ok (.newarray .boolean, 2) := by decide +kernel
theorem dX0_init_9 : decode cX0_init 9 = .ok (.putfield 9, 3) := by decide +kernel
theorem dX0_init_12 : decode cX0_init 12 = .ok (.aload_n 0, 1) := by decide +kernel
theorem dX0_init_13 : decode cX0_init 13 = .ok (.iconst 2, 1) := by decide +kernel
theorem dX0_init_14 : decode cX0_init 14 = .ok (.bipush 30, 2) := by decide +kernel
theorem dX0_init_16 : decode cX0_init 16 = .ok (.multianewarray 15 2, 4) := by decide +kernel
theorem dX0_init_20 : decode cX0_init 20 = .ok (.putfield 17, 3) := by decide +kernel
theorem dX0_init_23 : decode cX0_init 23 = .ok (.aload_n 0, 1) := by decide +kernel
theorem dX0_init_24 : decode cX0_init 24 = .ok (.new 20, 3) := by decide +kernel
theorem dX0_init_27 : decode cX0_init 27 = .ok (.dup, 1) := by decide +kernel
theorem dX0_init_28 : decode cX0_init 28 = .ok (.invokespecial 22, 3) := by decide +kernel
theorem dX0_init_31 : decode cX0_init 31 = .ok (.putfield 23, 3) := by decide +kernel
theorem dX0_init_34 : decode cX0_init 34 = .ok (.aload_n 0, 1) := by decide +kernel
theorem dX0_init_35 : decode cX0_init 35 = .ok (.iconst 0, 1) := by decide +kernel
theorem dX0_init_36 : decode cX0_init 36 = .ok (.putfield 27, 3) := by decide +kernel
theorem dX0_init_39 : decode cX0_init 39 = .ok (.aload_n 0, 1) := by decide +kernel
theorem dX0_init_40 : decode cX0_init 40 = .ok (.iconst 0, 1) := by decide +kernel
theorem dX0_init_41 : decode cX0_init 41 = .ok (.putfield 31, 3) := by decide +kernel
theorem dX0_init_44 : decode cX0_init 44 = .ok (.aload_n 0, 1) := by decide +kernel
theorem dX0_init_45 : decode cX0_init 45 = .ok (.sipush 150, 3) := by decide +kernel
theorem dX0_init_48 : decode cX0_init 48 = .ok (.newarray .int, 2) := by decide +kernel
theorem dX0_init_50 : decode cX0_init 50 = .ok (.putfield 34, 3) := by decide +kernel
theorem dX0_init_53 : decode cX0_init 53 = .ok (.aload_n 0, 1) := by decide +kernel
theorem dX0_init_54 : decode cX0_init 54 = .ok (.sipush 150, 3) := by decide +kernel
theorem dX0_init_57 : decode cX0_init 57 = .ok (.newarray .int, 2) := by decide +kernel
theorem dX0_init_59 : decode cX0_init 59 = .ok (.putfield 38, 3) := by decide +kernel
theorem dX0_init_62 : decode cX0_init 62 = .ok (.aload_n 0, 1) := by decide +kernel
theorem dX0_init_63 : decode cX0_init 63 = .ok (.iconst 0, 1) := by decide +kernel
theorem dX0_init_64 : decode cX0_init 64 = .ok (.putfield 41, 3) := by decide +kernel
theorem dX0_init_67 : decode cX0_init 67 = .ok (.aload_n 0, 1) := by decide +kernel
theorem dX0_init_68 : decode cX0_init 68 = .ok (.aload_n 1, 1) := by decide +kernel
theorem dX0_init_69 : decode cX0_init 69 = .ok (.putfield 44, 3) := by decide +kernel
theorem dX0_init_72 : decode cX0_init 72 = .ok (.return_, 1) := by decide +kernel
theorem dX0_compare_0 : decode cX0_compare 0 = .ok (.aload_n 0, 1) := by decide +kernel
theorem dX0_compare_1 : decode cX0_compare 1 = .ok (.aload_n 1, 1) := by decide +kernel
theorem dX0_compare_2 : decode cX0_compare 2 = .ok (.putfield 44, 3) := by decide +kernel
theorem dX0_compare_5 : decode cX0_compare 5 = .ok (.iconst 0, 1) := by decide +kernel
theorem dX0_compare_6 : decode cX0_compare 6 = .ok (.istore_n 2, 1) := by decide +kernel
theorem dX0_compare_7 : decode cX0_compare 7 = .ok (.iload_n 2, 1) := by decide +kernel
theorem dX0_compare_8 : decode cX0_compare 8 = .ok (.bipush 30, 2) := by decide +kernel
theorem dX0_compare_10 : decode cX0_compare 10 = .ok (.if_icmp .ge 56, 3) := by decide +kernel
theorem dX0_compare_13 : decode cX0_compare 13 = .ok (.aload_n 0, 1) := by decide +kernel
theorem dX0_compare_14 : decode cX0_compare 14 = .ok (.getfield 9, 3) := by decide +kernel
theorem dX0_compare_17 : decode cX0_compare 17 = .ok (.iload_n 2, 1) := by decide +kernel
theorem dX0_compare_18 : decode cX0_compare 18 = .ok (.aload_n 0, 1) := by decide +kernel
theorem dX0_compare_19 : decode cX0_compare 19 = .ok (.getfield 44, 3) := by decide +kernel
theorem dX0_compare_22 : decode cX0_compare 22 = .ok (.iconst 0, 1) := by decide +kernel
theorem dX0_compare_23 : decode cX0_compare 23 = .ok (.iload_n 2, 1) := by decide +kernel
theorem dX0_compare_24 : decode cX0_compare 24 = .ok (.invokevirtual 48, 3) := by decide +kernel
theorem dX0_compare_27 : decode cX0_compare 27 = .ok (.ifCond .ne 27, 3) := by decide +kernel
theorem dX0_compare_30 : decode cX0_compare 30 = .ok (.aload_n 0, 1) := by decide +kernel
theorem dX0_compare_31 : decode cX0_compare 31 = .ok (.getfield 44, 3) := by decide +kernel
theorem dX0_compare_34 : decode cX0_compare 34 = .ok (.iconst 1, 1) := by decide +kernel
theorem dX0_compare_35 : decode cX0_compare 35 = .ok (.iload_n 2, 1) := by decide +kernel
theorem dX0_compare_36 : decode cX0_compare 36 = .ok (.invokevirtual 48, 3) := by decide +kernel
theorem dX0_compare_39 : decode cX0_compare 39 = .ok (.ifCond .ne 15, 3) := by decide +kernel
theorem dX0_compare_42 : decode cX0_compare 42 = .ok (.aload_n 0, 1) := by decide +kernel
theorem dX0_compare_43 : decode cX0_compare 43 = .ok (.getfield 44, 3) := by decide +kernel
theorem dX0_compare_46 : decode cX0_compare 46 = .ok (.iconst 2, 1) := by decide +kernel
theorem dX0_compare_47 : decode cX0_compare 47 = .ok (.iload_n 2, 1) := by decide +kernel
theorem dX0_compare_48 : decode cX0_compare 48 = .ok (.invokevirtual 48, 3) := by decide +kernel
theorem dX0_compare_51 : decode cX0_compare 51 = .ok (.ifCond .eq 7, 3) := by decide +kernel
theorem dX0_compare_54 : decode cX0_compare 54 = .ok (.iconst 1, 1) := by decide +kernel
theorem dX0_compare_55 : decode cX0_compare 55 = .ok (.goto 4, 3) := by decide +kernel
theorem dX0_compare_58 : decode cX0_compare 58 = .ok (.iconst 0, 1) := by decide +kernel
theorem dX0_compare_59 : decode cX0_compare 59 = .ok (.bastore, 1) := by decide +kernel
theorem dX0_compare_60 : decode cX0_compare 60 = .ok (.iinc 2 1, 3) := by decide +kernel
theorem dX0_compare_63 : decode cX0_compare 63 = .ok (.goto (-56), 3) := by decide +kernel
theorem dX0_compare_66 : decode cX0_compare 66 = .ok (.aload_n 0, 1) := by decide +kernel
theorem dX0_compare_67 : decode cX0_compare 67 = .ok (.invokevirtual 54, 3) := by decide +kernel
theorem dX0_compare_70 : decode cX0_compare 70 = .ok (.iconst 0, 1) := by decide +kernel
theorem dX0_compare_71 : decode cX0_compare 71 = .ok (.istore_n 2, 1) := by decide +kernel
theorem dX0_compare_72 : decode cX0_compare 72 = .ok (.iload_n 2, 1) := by decide +kernel
theorem dX0_compare_73 : decode cX0_compare 73 = .ok (.bipush 30, 2) := by decide +kernel
theorem dX0_compare_75 : decode cX0_compare 75 = .ok (.if_icmp .ge 79, 3) := by decide +kernel
theorem dX0_compare_78 : decode cX0_compare 78 = .ok (.aload_n 0, 1) := by decide +kernel
theorem dX0_compare_79 : decode cX0_compare 79 = .ok (.getfield 17, 3) := by decide +kernel
theorem dX0_compare_82 : decode cX0_compare 82 = .ok (.iconst 0, 1) := by decide +kernel
theorem dX0_compare_83 : decode cX0_compare 83 = .ok (.aaload, 1) := by decide +kernel
theorem dX0_compare_84 : decode cX0_compare 84 = .ok (.iload_n 2, 1) := by decide +kernel
theorem dX0_compare_85 : decode cX0_compare 85 = .ok (.aload_n 0, 1) := by decide +kernel
theorem dX0_compare_86 : decode cX0_compare 86 = .ok (.getfield 9, 3) := by decide +kernel
theorem dX0_compare_89 : decode cX0_compare 89 = .ok (.iload_n 2, 1) := by decide +kernel
theorem dX0_compare_90 : decode cX0_compare 90 = .ok (.baload, 1) := by decide +kernel
theorem dX0_compare_91 : decode cX0_compare 91 = .ok (.ifCond .eq 7, 3) := by decide +kernel
theorem dX0_compare_94 : decode cX0_compare 94 = .ok (.iconst 0, 1) := by decide +kernel
theorem dX0_compare_95 : decode cX0_compare 95 = .ok (.goto 17, 3) := by decide +kernel
theorem dX0_compare_98 : decode cX0_compare 98 = .ok (.aload_n 0, 1) := by decide +kernel
theorem dX0_compare_99 : decode cX0_compare 99 = .ok (.aload_n 0, 1) := by decide +kernel
theorem dX0_compare_100 : decode cX0_compare 100 = .ok (.getfield 44, 3) := by decide +kernel
theorem dX0_compare_103 : decode cX0_compare 103 = .ok (.getfield 57, 3) := by decide +kernel
theorem dX0_compare_106 : decode cX0_compare 106 = .ok (.iconst 0, 1) := by decide +kernel
theorem dX0_compare_107 : decode cX0_compare 107 = .ok (.aaload, 1) := by decide +kernel
theorem dX0_compare_108 : decode cX0_compare 108 = .ok (.iload_n 2, 1) := by decide +kernel
theorem dX0_compare_109 : decode cX0_compare 109 = .ok (.invokevirtual 61, 3) := by decide +kernel
theorem dX0_compare_112 : decode cX0_compare 112 = .ok (.iastore, 1) := by decide +kernel
theorem dX0_compare_113 : decode cX0_compare 113 = .ok (.aload_n 0, 1) := by decide +kernel
theorem dX0_compare_114 : decode cX0_compare 114 = .ok (.getfield 17, 3) := by decide +kernel
theorem dX0_compare_117 : decode cX0_compare 117 = .ok (.iconst 1, 1) := by decide +kernel
theorem dX0_compare_118 : decode cX0_compare 118 = .ok (.aaload, 1) := by decide +kernel
theorem dX0_compare_119 : decode cX0_compare 119 = .ok (.iload_n 2, 1) := by decide +kernel
theorem dX0_compare_120 : decode cX0_compare 120 = .ok (.aload_n 0, 1) := by decide +kernel
theorem dX0_compare_121 : decode cX0_compare 121 = .ok (.getfield 9, 3) := by decide +kernel
theorem dX0_compare_124 : decode cX0_compare 124 = .ok (.iload_n 2, 1) := by decide +kernel
theorem dX0_compare_125 : decode cX0_compare 125 = .ok (.baload, 1) := by decide +kernel
theorem dX0_compare_126 : decode cX0_compare 126 = .ok (.ifCond .eq 7, 3) := by decide +kernel
theorem dX0_compare_129 : decode cX0_compare 129 = .ok (.iconst 0, 1) := by decide +kernel
theorem dX0_compare_130 : decode cX0_compare 130 = .ok (.goto 17, 3) := by decide +kernel
theorem dX0_compare_133 : decode cX0_compare 133 = .ok (.aload_n 0, 1) := by decide +kernel
theorem dX0_compare_134 : decode cX0_compare 134 = .ok (.aload_n 0, 1) := by decide +kernel
theorem dX0_compare_135 : decode cX0_compare 135 = .ok (.getfield 44, 3) := by decide +kernel
theorem dX0_compare_138 : decode cX0_compare 138 = .ok (.getfield 57, 3) := by decide +kernel
theorem dX0_compare_141 : decode cX0_compare 141 = .ok (.iconst 1, 1) := by decide +kernel
theorem dX0_compare_142 : decode cX0_compare 142 = .ok (.aaload, 1) := by decide +kernel
theorem dX0_compare_143 : decode cX0_compare 143 = .ok (.iload_n 2, 1) := by decide +kernel
theorem dX0_compare_144 : decode cX0_compare 144 = .ok (.invokevirtual 61, 3) := by decide +kernel
theorem dX0_compare_147 : decode cX0_compare 147 = .ok (.iastore, 1) := by decide +kernel
theorem dX0_compare_148 : decode cX0_compare 148 = .ok (.iinc 2 1, 3) := by decide +kernel
theorem dX0_compare_151 : decode cX0_compare 151 = .ok (.goto (-79), 3) := by decide +kernel
theorem dX0_compare_154 : decode cX0_compare 154 = .ok (.return_, 1) := by decide +kernel
theorem dX0_ignoreWithin_0 : decode cX0_ignoreWithin 0 = .ok (.iconst 1, 1) := by decide +kernel
theorem dX0_ignoreWithin_1 : decode cX0_ignoreWithin 1 = .ok (.istore_n 1, 1) := by decide +kernel
theorem dX0_ignoreWithin_2 : decode cX0_ignoreWithin 2 = .ok (.iconst 0, 1) := by decide +kernel
theorem dX0_ignoreWithin_3 : decode cX0_ignoreWithin 3 = .ok (.istore_n 2, 1) := by decide +kernel
theorem dX0_ignoreWithin_4 : decode cX0_ignoreWithin 4 = .ok (.iload_n 2, 1) := by decide +kernel
theorem dX0_ignoreWithin_5 : decode cX0_ignoreWithin 5 = .ok (.bipush 30, 2) := by decide +kernel
theorem dX0_ignoreWithin_7 : decode cX0_ignoreWithin 7 = .ok (.if_icmp .ge 55, 3) := by decide +kernel
theorem dX0_ignoreWithin_10 : decode cX0_ignoreWithin 10 = .ok (.iload_n 1, 1) := by decide +kernel
theorem dX0_ignoreWithin_11 : decode cX0_ignoreWithin 11 = .ok (.ifCond .eq 51, 3) := by decide +kernel
theorem dX0_ignoreWithin_14 : decode cX0_ignoreWithin 14 = .ok (.iconst 0, 1) := by decide +kernel
theorem dX0_ignoreWithin_15 : decode cX0_ignoreWithin 15 = .ok (.istore_n 1, 1) := by decide +kernel
theorem dX0_ignoreWithin_16 : decode cX0_ignoreWithin 16 = .ok (.iconst 0, 1) := by decide +kernel
theorem dX0_ignoreWithin_17 : decode cX0_ignoreWithin 17 = .ok (.istore_n 3, 1) := by decide +kernel
theorem dX0_ignoreWithin_18 : decode cX0_ignoreWithin 18 = .ok (.iload_n 3, 1) := by decide +kernel
theorem dX0_ignoreWithin_19 : decode cX0_ignoreWithin 19 = .ok (.bipush 30, 2) := by decide +kernel
theorem dX0_ignoreWithin_21 : decode cX0_ignoreWithin 21 = .ok (.if_icmp .ge 35, 3) := by decide +kernel
theorem dX0_ignoreWithin_24 : decode cX0_ignoreWithin 24 = .ok (.aload_n 0, 1) := by decide +kernel
theorem dX0_ignoreWithin_25 : decode cX0_ignoreWithin 25 = .ok (.getfield 9, 3) := by decide +kernel
theorem dX0_ignoreWithin_28 : decode cX0_ignoreWithin 28 = .ok (.iload_n 3, 1) := by decide +kernel
theorem dX0_ignoreWithin_29 : decode cX0_ignoreWithin 29 = .ok (.baload, 1) := by decide +kernel
theorem dX0_ignoreWithin_30 : decode cX0_ignoreWithin 30 = .ok (.ifCond .ne 20, 3) := by decide +kernel
theorem dX0_ignoreWithin_33 : decode cX0_ignoreWithin 33 = .ok (.aload_n 0, 1) := by decide +kernel
theorem dX0_ignoreWithin_34 : decode cX0_ignoreWithin 34 = .ok (.iload_n 3, 1) := by decide +kernel
theorem dX0_ignoreWithin_35 : decode cX0_ignoreWithin 35 = .ok (.invokevirtual 65, 3) := by decide +kernel
theorem dX0_ignoreWithin_38 : decode cX0_ignoreWithin 38 = .ok (.ifCond .eq 12, 3) := by decide +kernel
theorem dX0_ignoreWithin_41 : decode cX0_ignoreWithin 41 = .ok (.aload_n 0, 1) := by decide +kernel
theorem dX0_ignoreWithin_42 : decode cX0_ignoreWithin 42 = .ok (.getfield 9, 3) := by decide +kernel
theorem dX0_ignoreWithin_45 : decode cX0_ignoreWithin 45 = .ok (.iload_n 3, 1) := by decide +kernel
theorem dX0_ignoreWithin_46 : decode cX0_ignoreWithin 46 = .ok (.iconst 1, 1) := by decide +kernel
theorem dX0_ignoreWithin_47 : decode cX0_ignoreWithin 47 = .ok (.bastore, 1) := by decide +kernel
theorem dX0_ignoreWithin_48 : decode cX0_ignoreWithin 48 = .ok (.iconst 1, 1) := by decide +kernel
theorem dX0_ignoreWithin_49 : decode cX0_ignoreWithin 49 = .ok (.istore_n 1, 1) := by decide +kernel
theorem dX0_ignoreWithin_50 : decode cX0_ignoreWithin 50 = .ok (.iinc 3 1, 3) := by decide +kernel
theorem dX0_ignoreWithin_53 : decode cX0_ignoreWithin 53 = .ok (.goto (-35), 3) := by decide +kernel
theorem dX0_ignoreWithin_56 : decode cX0_ignoreWithin 56 = .ok (.iinc 2 1, 3) := by decide +kernel
theorem dX0_ignoreWithin_59 : decode cX0_ignoreWithin 59 = .ok (.goto (-55), 3) := by decide +kernel
theorem dX0_ignoreWithin_62 : decode cX0_ignoreWithin 62 = .ok (.return_, 1) := by decide +kernel
theorem dX0_standsInIgnored_0 : decode cX0_standsInIgnored 0 = .ok (.iconst 0, 1) := by decide +kernel
theorem dX0_standsInIgnored_1 : decode cX0_standsInIgnored 1 = .ok (.istore_n 2, 1) := by decide +kernel
theorem dX0_standsInIgnored_2 : decode cX0_standsInIgnored 2 = .ok (.iload_n 2, 1) := by decide +kernel
theorem dX0_standsInIgnored_3 : decode cX0_standsInIgnored 3 = .ok (.iconst 3, 1) := by decide +kernel
theorem dX0_standsInIgnored_4 : decode cX0_standsInIgnored 4 = .ok (.if_icmp .ge 45, 3) := by decide +kernel
theorem dX0_standsInIgnored_7 : decode cX0_standsInIgnored 7 = .ok (.aload_n 0, 1) := by decide +kernel
theorem dX0_standsInIgnored_8 : decode cX0_standsInIgnored 8 = .ok (.getfield 44, 3) := by decide +kernel
theorem dX0_standsInIgnored_11 : decode cX0_standsInIgnored 11 = .ok (.getfield 57, 3) := by decide +kernel
theorem dX0_standsInIgnored_14 : decode cX0_standsInIgnored 14 = .ok (.iload_n 2, 1) := by decide +kernel
theorem dX0_standsInIgnored_15 : decode cX0_standsInIgnored 15 = .ok (.aaload, 1) := by decide +kernel
theorem dX0_standsInIgnored_16 : decode cX0_standsInIgnored 16 = .ok (.getfield 69, 3) := by decide +kernel
theorem dX0_standsInIgnored_19 : decode cX0_standsInIgnored 19 = .ok (.iload_n 1, 1) := by decide +kernel
theorem dX0_standsInIgnored_20 : decode cX0_standsInIgnored 20 = .ok (.iaload, 1) := by decide +kernel
theorem dX0_standsInIgnored_21 : decode cX0_standsInIgnored 21 = .ok (.istore_n 3, 1) := by decide +kernel
theorem dX0_standsInIgnored_22 : decode cX0_standsInIgnored 22 = .ok (.iload_n 3, 1) := by decide +kernel
theorem dX0_standsInIgnored_23 : decode cX0_standsInIgnored 23 = .ok (.ifCond .lt 20, 3) := by decide +kernel
theorem dX0_standsInIgnored_26 : decode cX0_standsInIgnored 26 = .ok (.iload_n 3, 1) := by decide +kernel
theorem dX0_standsInIgnored_27 : decode cX0_standsInIgnored 27 = .ok (.bipush 30, 2) := by decide +kernel
theorem dX0_standsInIgnored_29 : decode cX0_standsInIgnored 29 = .ok (.if_icmp .ge 14, 3) := by decide +kernel
theorem dX0_standsInIgnored_32 : decode cX0_standsInIgnored 32 = .ok (.aload_n 0, 1) := by decide +kernel
theorem dX0_standsInIgnored_33 : decode cX0_standsInIgnored 33 = .ok (.getfield 9, 3) := by decide +kernel
theorem dX0_standsInIgnored_36 : decode cX0_standsInIgnored 36 = .ok (.iload_n 3, 1) := by decide +kernel
theorem dX0_standsInIgnored_37 : decode cX0_standsInIgnored 37 = .ok (.baload, 1) := by decide +kernel
theorem dX0_standsInIgnored_38 : decode cX0_standsInIgnored 38 = .ok (.ifCond .eq 5, 3) := by decide +kernel
theorem dX0_standsInIgnored_41 : decode cX0_standsInIgnored 41 = .ok (.iconst 1, 1) := by decide +kernel
theorem dX0_standsInIgnored_42 : decode cX0_standsInIgnored 42 = .ok (.ireturn, 1) := by decide +kernel
theorem dX0_standsInIgnored_43 : decode cX0_standsInIgnored 43 = .ok (.iinc 2 1, 3) := by decide +kernel
theorem dX0_standsInIgnored_46 : decode cX0_standsInIgnored 46 = .ok (.goto (-44), 3) := by decide +kernel
theorem dX0_standsInIgnored_49 : decode cX0_standsInIgnored 49 = .ok (.iconst 0, 1) := by decide +kernel
theorem dX0_standsInIgnored_50 : decode cX0_standsInIgnored 50 = .ok (.ireturn, 1) := by decide +kernel
theorem dX0_changeOf_0 : decode cX0_changeOf 0 = .ok (.aload_n 0, 1) := by decide +kernel
theorem dX0_changeOf_1 : decode cX0_changeOf 1 = .ok (.getfield 44, 3) := by decide +kernel
theorem dX0_changeOf_4 : decode cX0_changeOf 4 = .ok (.getfield 57, 3) := by decide +kernel
theorem dX0_changeOf_7 : decode cX0_changeOf 7 = .ok (.iconst 2, 1) := by decide +kernel
theorem dX0_changeOf_8 : decode cX0_changeOf 8 = .ok (.aaload, 1) := by decide +kernel
theorem dX0_changeOf_9 : decode cX0_changeOf 9 = .ok (.astore_n 3, 1) := by decide +kernel
theorem dX0_changeOf_10 : decode cX0_changeOf 10 = .ok (.aload_n 3, 1) := by decide +kernel
theorem dX0_changeOf_11 : decode cX0_changeOf 11 = .ok (.iload_n 2, 1) := by decide +kernel
theorem dX0_changeOf_12 : decode cX0_changeOf 12 = .ok (.invokevirtual 72, 3) := by decide +kernel
theorem dX0_changeOf_15 : decode cX0_changeOf 15 = .ok (.ifCond .ne 17, 3) := by decide +kernel
theorem dX0_changeOf_18 : decode cX0_changeOf 18 = .ok (.aload_n 1, 1) := by decide +kernel
theorem dX0_changeOf_19 : decode cX0_changeOf 19 = .ok (.iload_n 2, 1) := by decide +kernel
theorem dX0_changeOf_20 : decode cX0_changeOf 20 = .ok (.invokevirtual 72, 3) := by decide +kernel
theorem dX0_changeOf_23 : decode cX0_changeOf 23 = .ok (.ifCond .eq 7, 3) := by decide +kernel
theorem dX0_changeOf_26 : decode cX0_changeOf 26 = .ok (.iconst 1, 1) := by decide +kernel
theorem dX0_changeOf_27 : decode cX0_changeOf 27 = .ok (.goto 4, 3) := by decide +kernel
theorem dX0_changeOf_30 : decode cX0_changeOf 30 = .ok (.iconst 0, 1) := by decide +kernel
theorem dX0_changeOf_31 : decode cX0_changeOf 31 = .ok (.ireturn, 1) := by decide +kernel
theorem dX0_changeOf_32 : decode cX0_changeOf 32 = .ok (.aload_n 1, 1) := by decide +kernel
theorem dX0_changeOf_33 : decode cX0_changeOf 33 = .ok (.iload_n 2, 1) := by decide +kernel
theorem dX0_changeOf_34 : decode cX0_changeOf 34 = .ok (.invokevirtual 72, 3) := by decide +kernel
theorem dX0_changeOf_37 : decode cX0_changeOf 37 = .ok (.ifCond .ne 5, 3) := by decide +kernel
theorem dX0_changeOf_40 : decode cX0_changeOf 40 = .ok (.iconst 2, 1) := by decide +kernel
theorem dX0_changeOf_41 : decode cX0_changeOf 41 = .ok (.ireturn, 1) := by decide +kernel
theorem dX0_changeOf_42 : decode cX0_changeOf 42 = .ok (.aload_n 1, 1) := by decide +kernel
theorem dX0_changeOf_43 : decode cX0_changeOf 43 = .ok (.aload_n 3, 1) := by decide +kernel
theorem dX0_changeOf_44 : decode cX0_changeOf 44 = .ok (.iload_n 2, 1) := by decide +kernel
theorem dX0_changeOf_45 : decode cX0_changeOf 45 = .ok (.invokevirtual 75, 3) := by decide +kernel
theorem dX0_changeOf_48 : decode cX0_changeOf 48 = .ok (.ifCond .eq 7, 3) := by decide +kernel
theorem dX0_changeOf_51 : decode cX0_changeOf 51 = .ok (.iconst 0, 1) := by decide +kernel
theorem dX0_changeOf_52 : decode cX0_changeOf 52 = .ok (.goto 4, 3) := by decide +kernel
theorem dX0_changeOf_55 : decode cX0_changeOf 55 = .ok (.iconst 4, 1) := by decide +kernel
theorem dX0_changeOf_56 : decode cX0_changeOf 56 = .ok (.istore 4, 2) := by decide +kernel
theorem dX0_changeOf_58 : decode cX0_changeOf 58 = .ok (.aload_n 1, 1) := by decide +kernel
theorem dX0_changeOf_59 : decode cX0_changeOf 59 = .ok (.aload_n 3, 1) := by decide +kernel
theorem dX0_changeOf_60 : decode cX0_changeOf 60 = .ok (.iload_n 2, 1) := by decide +kernel
theorem dX0_changeOf_61 : decode cX0_changeOf 61 = .ok (.invokevirtual 79, 3) := by decide +kernel
theorem dX0_changeOf_64 : decode cX0_changeOf 64 = .ok (.ifCond .eq 8, 3) := by decide +kernel
theorem dX0_changeOf_67 : decode cX0_changeOf 67 = .ok (.iload 4, 2) := by decide +kernel
theorem dX0_changeOf_69 : decode cX0_changeOf 69 = .ok (.goto 8, 3) := by decide +kernel
theorem dX0_changeOf_72 : decode cX0_changeOf 72 = .ok (.iload 4, 2) := by decide +kernel
theorem dX0_changeOf_74 : decode cX0_changeOf 74 = .ok (.bipush 8, 2) := by decide +kernel
theorem dX0_changeOf_76 : decode cX0_changeOf 76 = .ok (.ior, 1) := by decide +kernel
theorem dX0_changeOf_77 : decode cX0_changeOf 77 = .ok (.ireturn, 1) := by decide +kernel
theorem dX0_settle_0 : decode cX0_settle 0 = .ok (.aload_n 0, 1) := by decide +kernel
theorem dX0_settle_1 : decode cX0_settle 1 = .ok (.aload_n 1, 1) := by decide +kernel
theorem dX0_settle_2 : decode cX0_settle 2 = .ok (.invokevirtual 82, 3) := by decide +kernel
theorem dX0_settle_5 : decode cX0_settle 5 = .ok (.aload_n 0, 1) := by decide +kernel
theorem dX0_settle_6 : decode cX0_settle 6 = .ok (.iload_n 2, 1) := by decide +kernel
theorem dX0_settle_7 : decode cX0_settle 7 = .ok (.putfield 31, 3) := by decide +kernel
theorem dX0_settle_10 : decode cX0_settle 10 = .ok (.aload_n 0, 1) := by decide +kernel
theorem dX0_settle_11 : decode cX0_settle 11 = .ok (.aload_n 0, 1) := by decide +kernel
theorem dX0_settle_12 : decode cX0_settle 12 = .ok (.getfield 44, 3) := by decide +kernel
theorem dX0_settle_15 : decode cX0_settle 15 = .ok (.getfield 86, 3) := by decide +kernel
theorem dX0_settle_18 : decode cX0_settle 18 = .ok (.putfield 27, 3) := by decide +kernel
theorem dX0_settle_21 : decode cX0_settle 21 = .ok (.aload_n 0, 1) := by decide +kernel
theorem dX0_settle_22 : decode cX0_settle 22 = .ok (.iconst 0, 1) := by decide +kernel
theorem dX0_settle_23 : decode cX0_settle 23 = .ok (.putfield 41, 3) := by decide +kernel
theorem dX0_settle_26 : decode cX0_settle 26 = .ok (.aload_n 0, 1) := by decide +kernel
theorem dX0_settle_27 : decode cX0_settle 27 = .ok (.getfield 23, 3) := by decide +kernel
theorem dX0_settle_30 : decode cX0_settle 30 = .ok (.invokevirtual 87, 3) := by decide +kernel
theorem dX0_settle_33 : decode cX0_settle 33 = .ok (.aload_n 0, 1) := by decide +kernel
theorem dX0_settle_34 : decode cX0_settle 34 = .ok (.invokevirtual 90, 3) := by decide +kernel
theorem dX0_settle_37 : decode cX0_settle 37 = .ok (.aload_n 0, 1) := by decide +kernel
theorem dX0_settle_38 : decode cX0_settle 38 = .ok (.invokevirtual 93, 3) := by decide +kernel
theorem dX0_settle_41 : decode cX0_settle 41 = .ok (.aload_n 0, 1) := by decide +kernel
theorem dX0_settle_42 : decode cX0_settle 42 = .ok (.invokevirtual 96, 3) := by decide +kernel
theorem dX0_settle_45 : decode cX0_settle 45 = .ok (.aload_n 0, 1) := by decide +kernel
theorem dX0_settle_46 : decode cX0_settle 46 = .ok (.invokevirtual 99, 3) := by decide +kernel
theorem dX0_settle_49 : decode cX0_settle 49 = .ok (.aload_n 0, 1) := by decide +kernel
theorem dX0_settle_50 : decode cX0_settle 50 = .ok (.invokevirtual 102, 3) := by decide +kernel
theorem dX0_settle_53 : decode cX0_settle 53 = .ok (.return_, 1) := by decide +kernel
theorem dX0_addClash_0 : decode cX0_addClash 0 = .ok (.aload_n 0, 1) := by decide +kernel
theorem dX0_addClash_1 : decode cX0_addClash 1 = .ok (.getfield 41, 3) := by decide +kernel
theorem dX0_addClash_4 : decode cX0_addClash 4 = .ok (.sipush 150, 3) := by decide +kernel
theorem dX0_addClash_7 : decode cX0_addClash 7 = .ok (.if_icmp .ge 33, 3) := by decide +kernel
theorem dX0_addClash_10 : decode cX0_addClash 10 = .ok (.aload_n 0, 1) := by decide +kernel
theorem dX0_addClash_11 : decode cX0_addClash 11 = .ok (.getfield 34, 3) := by decide +kernel
theorem dX0_addClash_14 : decode cX0_addClash 14 = .ok (.aload_n 0, 1) := by decide +kernel
theorem dX0_addClash_15 : decode cX0_addClash 15 = .ok (.getfield 41, 3) := by decide +kernel
theorem dX0_addClash_18 : decode cX0_addClash 18 = .ok (.iload_n 1, 1) := by decide +kernel
theorem dX0_addClash_19 : decode cX0_addClash 19 = .ok (.iastore, 1) := by decide +kernel
theorem dX0_addClash_20 : decode cX0_addClash 20 = .ok (.aload_n 0, 1) := by decide +kernel
theorem dX0_addClash_21 : decode cX0_addClash 21 = .ok (.getfield 38, 3) := by decide +kernel
theorem dX0_addClash_24 : decode cX0_addClash 24 = .ok (.aload_n 0, 1) := by decide +kernel
theorem dX0_addClash_25 : decode cX0_addClash 25 = .ok (.getfield 41, 3) := by decide +kernel
theorem dX0_addClash_28 : decode cX0_addClash 28 = .ok (.iload_n 2, 1) := by decide +kernel
theorem dX0_addClash_29 : decode cX0_addClash 29 = .ok (.iastore, 1) := by decide +kernel
theorem dX0_addClash_30 : decode cX0_addClash 30 = .ok (.aload_n 0, 1) := by decide +kernel
theorem dX0_addClash_31 : decode cX0_addClash 31 = .ok (.dup, 1) := by decide +kernel
theorem dX0_addClash_32 : decode cX0_addClash 32 = .ok (.getfield 41, 3) := by decide +kernel
theorem dX0_addClash_35 : decode cX0_addClash 35 = .ok (.iconst 1, 1) := by decide +kernel
theorem dX0_addClash_36 : decode cX0_addClash 36 = .ok (.iadd, 1) := by decide +kernel
theorem dX0_addClash_37 : decode cX0_addClash 37 = .ok (.putfield 41, 3) := by decide +kernel
theorem dX0_addClash_40 : decode cX0_addClash 40 = .ok (.return_, 1) := by decide +kernel
theorem dX0_decideWho_0 : decode cX0_decideWho 0 = .ok (.iconst 0, 1) := by decide +kernel
theorem dX0_decideWho_1 : decode cX0_decideWho 1 = .ok (.istore_n 1, 1) := by decide +kernel
theorem dX0_decideWho_2 : decode cX0_decideWho 2 = .ok (.iload_n 1, 1) := by decide +kernel
theorem dX0_decideWho_3 : decode cX0_decideWho 3 = .ok (.aload_n 0, 1) := by decide +kernel
theorem dX0_decideWho_4 : decode cX0_decideWho 4 = .ok (.getfield 44, 3) := by decide +kernel
theorem dX0_decideWho_7 : decode cX0_decideWho 7 = .ok (.getfield 86, 3) := by decide +kernel
theorem dX0_decideWho_10 : decode cX0_decideWho 10 = .ok (.if_icmp .ge 127, 3) := by decide +kernel
theorem dX0_decideWho_13 : decode cX0_decideWho 13 = .ok (.aload_n 0, 1) := by decide +kernel
theorem dX0_decideWho_14 : decode cX0_decideWho 14 = .ok (.getfield 9, 3) := by decide +kernel
theorem dX0_decideWho_17 : decode cX0_decideWho 17 = .ok (.iload_n 1, 1) := by decide +kernel
theorem dX0_decideWho_18 : decode cX0_decideWho 18 = .ok (.baload, 1) := by decide +kernel
theorem dX0_decideWho_19 : decode cX0_decideWho 19 = .ok (.ifCond .ne 112, 3) := by decide +kernel
theorem dX0_decideWho_22 : decode cX0_decideWho 22 = .ok (.aload_n 0, 1) := by decide +kernel
theorem dX0_decideWho_23 : decode cX0_decideWho 23 = .ok (.getfield 44, 3) := by decide +kernel
theorem dX0_decideWho_26 : decode cX0_decideWho 26 = .ok (.getfield 57, 3) := by decide +kernel
theorem dX0_decideWho_29 : decode cX0_decideWho 29 = .ok (.iconst 0, 1) := by decide +kernel
theorem dX0_decideWho_30 : decode cX0_decideWho 30 = .ok (.aaload, 1) := by decide +kernel
theorem dX0_decideWho_31 : decode cX0_decideWho 31 = .ok (.iload_n 1, 1) := by decide +kernel
theorem dX0_decideWho_32 : decode cX0_decideWho 32 = .ok (.invokevirtual 72, 3) := by decide +kernel
theorem dX0_decideWho_35 : decode cX0_decideWho 35 = .ok (.ifCond .ne 22, 3) := by decide +kernel
theorem dX0_decideWho_38 : decode cX0_decideWho 38 = .ok (.aload_n 0, 1) := by decide +kernel
theorem dX0_decideWho_39 : decode cX0_decideWho 39 = .ok (.getfield 44, 3) := by decide +kernel
theorem dX0_decideWho_42 : decode cX0_decideWho 42 = .ok (.getfield 57, 3) := by decide +kernel
theorem dX0_decideWho_45 : decode cX0_decideWho 45 = .ok (.iconst 1, 1) := by decide +kernel
theorem dX0_decideWho_46 : decode cX0_decideWho 46 = .ok (.aaload, 1) := by decide +kernel
theorem dX0_decideWho_47 : decode cX0_decideWho 47 = .ok (.iload_n 1, 1) := by decide +kernel
theorem dX0_decideWho_48 : decode cX0_decideWho 48 = .ok (.invokevirtual 72, 3) := by decide +kernel
theorem dX0_decideWho_51 : decode cX0_decideWho 51 = .ok (.ifCond .ne 6, 3) := by decide +kernel
theorem dX0_decideWho_54 : decode cX0_decideWho 54 = .ok (.goto 77, 3) := by decide +kernel
theorem dX0_decideWho_57 : decode cX0_decideWho 57 = .ok (.iconst 1, 1) := by decide +kernel
theorem dX0_decideWho_58 : decode cX0_decideWho 58 = .ok (.istore_n 2, 1) := by decide +kernel
theorem dX0_decideWho_59 : decode cX0_decideWho 59 = .ok (.aload_n 0, 1) := by decide +kernel
theorem dX0_decideWho_60 : decode cX0_decideWho 60 = .ok (.getfield 17, 3) := by decide +kernel
theorem dX0_decideWho_63 : decode cX0_decideWho 63 = .ok (.iconst 0, 1) := by decide +kernel
theorem dX0_decideWho_64 : decode cX0_decideWho 64 = .ok (.aaload, 1) := by decide +kernel
theorem dX0_decideWho_65 : decode cX0_decideWho 65 = .ok (.iload_n 1, 1) := by decide +kernel
theorem dX0_decideWho_66 : decode cX0_decideWho 66 = .ok (.iaload, 1) := by decide +kernel
theorem dX0_decideWho_67 : decode cX0_decideWho 67 = .ok (.iconst 2, 1) := by decide +kernel
theorem dX0_decideWho_68 : decode cX0_decideWho 68 = .ok (.if_icmp .eq 15, 3) := by decide +kernel
theorem dX0_decideWho_71 : decode cX0_decideWho 71 = .ok (.aload_n 0, 1) := by decide +kernel
theorem dX0_decideWho_72 : decode cX0_decideWho 72 = .ok (.getfield 17, 3) := by decide +kernel
theorem dX0_decideWho_75 : decode cX0_decideWho 75 = .ok (.iconst 1, 1) := by decide +kernel
theorem dX0_decideWho_76 : decode cX0_decideWho 76 = .ok (.aaload, 1) := by decide +kernel
theorem dX0_decideWho_77 : decode cX0_decideWho 77 = .ok (.iload_n 1, 1) := by decide +kernel
theorem dX0_decideWho_78 : decode cX0_decideWho 78 = .ok (.iaload, 1) := by decide +kernel
theorem dX0_decideWho_79 : decode cX0_decideWho 79 = .ok (.iconst 2, 1) := by decide +kernel
theorem dX0_decideWho_80 : decode cX0_decideWho 80 = .ok (.if_icmp .ne 36, 3) := by decide +kernel
theorem dX0_decideWho_83 : decode cX0_decideWho 83 = .ok (.aload_n 0, 1) := by decide +kernel
theorem dX0_decideWho_84 : decode cX0_decideWho 84 = .ok (.aload_n 0, 1) := by decide +kernel
theorem dX0_decideWho_85 : decode cX0_decideWho 85 = .ok (.getfield 17, 3) := by decide +kernel
theorem dX0_decideWho_88 : decode cX0_decideWho 88 = .ok (.iconst 0, 1) := by decide +kernel
theorem dX0_decideWho_89 : decode cX0_decideWho 89 = .ok (.aaload, 1) := by decide +kernel
theorem dX0_decideWho_90 : decode cX0_decideWho 90 = .ok (.iload_n 1, 1) := by decide +kernel
theorem dX0_decideWho_91 : decode cX0_decideWho 91 = .ok (.iaload, 1) := by decide +kernel
theorem dX0_decideWho_92 : decode cX0_decideWho 92 = .ok (.iconst 2, 1) := by decide +kernel
theorem dX0_decideWho_93 : decode cX0_decideWho 93 = .ok (.if_icmp .ne 7, 3) := by decide +kernel
theorem dX0_decideWho_96 : decode cX0_decideWho 96 = .ok (.iconst 1, 1) := by decide +kernel
theorem dX0_decideWho_97 : decode cX0_decideWho 97 = .ok (.goto 4, 3) := by decide +kernel
theorem dX0_decideWho_100 : decode cX0_decideWho 100 = .ok (.iconst 0, 1) := by decide +kernel
theorem dX0_decideWho_101 : decode cX0_decideWho 101 = .ok (.iload_n 1, 1) := by decide +kernel
theorem dX0_decideWho_102 : decode cX0_decideWho 102 = .ok (.invokevirtual 105, 3) := by decide +kernel
theorem dX0_decideWho_105 : decode cX0_decideWho 105 = .ok (.istore_n 2, 1) := by decide +kernel
theorem dX0_decideWho_106 : decode cX0_decideWho 106 = .ok (.iload_n 2, 1) := by decide +kernel
theorem dX0_decideWho_107 : decode cX0_decideWho 107 = .ok (.ifCond .eq 9, 3) := by decide +kernel
theorem dX0_decideWho_110 : decode cX0_decideWho 110 = .ok (.aload_n 0, 1) := by decide +kernel
theorem dX0_decideWho_111 : decode cX0_decideWho 111 = .ok (.iconst 0, 1) := by decide +kernel
theorem dX0_decideWho_112 : decode cX0_decideWho 112 = .ok (.iload_n 1, 1) := by decide +kernel
theorem dX0_decideWho_113 : decode cX0_decideWho 113 = .ok (.invokevirtual 108, 3) := by decide +kernel
theorem dX0_decideWho_116 : decode cX0_decideWho 116 = .ok (.iload_n 2, 1) := by decide +kernel
theorem dX0_decideWho_117 : decode cX0_decideWho 117 = .ok (.ifCond .eq 14, 3) := by decide +kernel
theorem dX0_decideWho_120 : decode cX0_decideWho 120 = .ok (.aload_n 0, 1) := by decide +kernel
theorem dX0_decideWho_121 : decode cX0_decideWho 121 = .ok (.getfield 23, 3) := by decide +kernel
theorem dX0_decideWho_124 : decode cX0_decideWho 124 = .ok (.iload_n 1, 1) := by decide +kernel
theorem dX0_decideWho_125 : decode cX0_decideWho 125 = .ok (.iconst (-1), 1) := by decide +kernel
theorem dX0_decideWho_126 : decode cX0_decideWho 126 = .ok (.iconst (-1), 1) := by decide +kernel
theorem dX0_decideWho_127 : decode cX0_decideWho 127 = .ok (.iconst 0, 1) := by decide +kernel
theorem dX0_decideWho_128 : decode cX0_decideWho 128 = .ok (.invokevirtual 112, 3) := by decide +kernel
theorem dX0_decideWho_131 : decode cX0_decideWho 131 = .ok (.iinc 1 1, 3) := by decide +kernel
theorem dX0_decideWho_134 : decode cX0_decideWho 134 = .ok (.goto (-132), 3) := by decide +kernel
theorem dX0_decideWho_137 : decode cX0_decideWho 137 = .ok (.return_, 1) := by decide +kernel
theorem dX0_isKeptOn_0 : decode cX0_isKeptOn 0 = .ok (.aload_n 0, 1) := by decide +kernel
theorem dX0_isKeptOn_1 : decode cX0_isKeptOn 1 = .ok (.getfield 17, 3) := by decide +kernel
theorem dX0_isKeptOn_4 : decode cX0_isKeptOn 4 = .ok (.iload_n 1, 1) := by decide +kernel
theorem dX0_isKeptOn_5 : decode cX0_isKeptOn 5 = .ok (.aaload, 1) := by decide +kernel
theorem dX0_isKeptOn_6 : decode cX0_isKeptOn 6 = .ok (.iload_n 2, 1) := by decide +kernel
theorem dX0_isKeptOn_7 : decode cX0_isKeptOn 7 = .ok (.iaload, 1) := by decide +kernel
theorem dX0_isKeptOn_8 : decode cX0_isKeptOn 8 = .ok (.bipush 12, 2) := by decide +kernel
theorem dX0_isKeptOn_10 : decode cX0_isKeptOn 10 = .ok (.iand, 1) := by decide +kernel
theorem dX0_isKeptOn_11 : decode cX0_isKeptOn 11 = .ok (.ifCond .eq 5, 3) := by decide +kernel
theorem dX0_isKeptOn_14 : decode cX0_isKeptOn 14 = .ok (.iconst 1, 1) := by decide +kernel
theorem dX0_isKeptOn_15 : decode cX0_isKeptOn 15 = .ok (.ireturn, 1) := by decide +kernel
theorem dX0_isKeptOn_16 : decode cX0_isKeptOn 16 = .ok (.aload_n 0, 1) := by decide +kernel
theorem dX0_isKeptOn_17 : decode cX0_isKeptOn 17 = .ok (.getfield 44, 3) := by decide +kernel
theorem dX0_isKeptOn_20 : decode cX0_isKeptOn 20 = .ok (.getfield 57, 3) := by decide +kernel
theorem dX0_isKeptOn_23 : decode cX0_isKeptOn 23 = .ok (.iload_n 1, 1) := by decide +kernel
theorem dX0_isKeptOn_24 : decode cX0_isKeptOn 24 = .ok (.aaload, 1) := by decide +kernel
theorem dX0_isKeptOn_25 : decode cX0_isKeptOn 25 = .ok (.astore_n 3, 1) := by decide +kernel
theorem dX0_isKeptOn_26 : decode cX0_isKeptOn 26 = .ok (.iconst 0, 1) := by decide +kernel
theorem dX0_isKeptOn_27 : decode cX0_isKeptOn 27 = .ok (.istore 4, 2) := by decide +kernel
theorem dX0_isKeptOn_29 : decode cX0_isKeptOn 29 = .ok (.iload 4, 2) := by decide +kernel
theorem dX0_isKeptOn_31 : decode cX0_isKeptOn 31 = .ok (.aload_n 0, 1) := by decide +kernel
theorem dX0_isKeptOn_32 : decode cX0_isKeptOn 32 = .ok (.getfield 44, 3) := by decide +kernel
theorem dX0_isKeptOn_35 : decode cX0_isKeptOn 35 = .ok (.getfield 86, 3) := by decide +kernel
theorem dX0_isKeptOn_38 : decode cX0_isKeptOn 38 = .ok (.if_icmp .ge 58, 3) := by decide +kernel
theorem dX0_isKeptOn_41 : decode cX0_isKeptOn 41 = .ok (.aload_n 0, 1) := by decide +kernel
theorem dX0_isKeptOn_42 : decode cX0_isKeptOn 42 = .ok (.getfield 9, 3) := by decide +kernel
theorem dX0_isKeptOn_45 : decode cX0_isKeptOn 45 = .ok (.iload 4, 2) := by decide +kernel
theorem dX0_isKeptOn_47 : decode cX0_isKeptOn 47 = .ok (.baload, 1) := by decide +kernel
theorem dX0_isKeptOn_48 : decode cX0_isKeptOn 48 = .ok (.ifCond .ne 18, 3) := by decide +kernel
theorem dX0_isKeptOn_51 : decode cX0_isKeptOn 51 = .ok (.aload_n 0, 1) := by decide +kernel
theorem dX0_isKeptOn_52 : decode cX0_isKeptOn 52 = .ok (.getfield 17, 3) := by decide +kernel
theorem dX0_isKeptOn_55 : decode cX0_isKeptOn 55 = .ok (.iload_n 1, 1) := by decide +kernel
theorem dX0_isKeptOn_56 : decode cX0_isKeptOn 56 = .ok (.aaload, 1) := by decide +kernel
theorem dX0_isKeptOn_57 : decode cX0_isKeptOn 57 = .ok (.iload 4, 2) := by decide +kernel
theorem dX0_isKeptOn_59 : decode cX0_isKeptOn 59 = .ok (.iaload, 1) := by decide +kernel
theorem dX0_isKeptOn_60 : decode cX0_isKeptOn 60 = .ok (.bipush 13, 2) := by decide +kernel
theorem dX0_isKeptOn_62 : decode cX0_isKeptOn 62 = .ok (.iand, 1) := by decide +kernel
theorem dX0_isKeptOn_63 : decode cX0_isKeptOn 63 = .ok (.ifCond .eq 7, 3) := by decide +kernel
theorem dX0_isKeptOn_66 : decode cX0_isKeptOn 66 = .ok (.iconst 1, 1) := by decide +kernel
theorem dX0_isKeptOn_67 : decode cX0_isKeptOn 67 = .ok (.goto 4, 3) := by decide +kernel
theorem dX0_isKeptOn_70 : decode cX0_isKeptOn 70 = .ok (.iconst 0, 1) := by decide +kernel
theorem dX0_isKeptOn_71 : decode cX0_isKeptOn 71 = .ok (.istore 5, 2) := by decide +kernel
theorem dX0_isKeptOn_73 : decode cX0_isKeptOn 73 = .ok (.iload 5, 2) := by decide +kernel
theorem dX0_isKeptOn_75 : decode cX0_isKeptOn 75 = .ok (.ifCond .eq 15, 3) := by decide +kernel
theorem dX0_isKeptOn_78 : decode cX0_isKeptOn 78 = .ok (.aload_n 3, 1) := by decide +kernel
theorem dX0_isKeptOn_79 : decode cX0_isKeptOn 79 = .ok (.iload 4, 2) := by decide +kernel
theorem dX0_isKeptOn_81 : decode cX0_isKeptOn 81 = .ok (.iload_n 2, 1) := by decide +kernel
theorem dX0_isKeptOn_82 : decode cX0_isKeptOn 82 = .ok (.invokevirtual 116, 3) := by decide +kernel
theorem dX0_isKeptOn_85 : decode cX0_isKeptOn 85 = .ok (.ifCond .eq 5, 3) := by decide +kernel
theorem dX0_isKeptOn_88 : decode cX0_isKeptOn 88 = .ok (.iconst 1, 1) := by decide +kernel
theorem dX0_isKeptOn_89 : decode cX0_isKeptOn 89 = .ok (.ireturn, 1) := by decide +kernel
theorem dX0_isKeptOn_90 : decode cX0_isKeptOn 90 = .ok (.iinc 4 1, 3) := by decide +kernel
theorem dX0_isKeptOn_93 : decode cX0_isKeptOn 93 = .ok (.goto (-64), 3) := by decide +kernel
theorem dX0_isKeptOn_96 : decode cX0_isKeptOn 96 = .ok (.iconst 0, 1) := by decide +kernel
theorem dX0_isKeptOn_97 : decode cX0_isKeptOn 97 = .ok (.ireturn, 1) := by decide +kernel
theorem dX0_decider_0 : decode cX0_decider 0 = .ok (.aload_n 0, 1) := by decide +kernel
theorem dX0_decider_1 : decode cX0_decider 1 = .ok (.getfield 44, 3) := by decide +kernel
theorem dX0_decider_4 : decode cX0_decider 4 = .ok (.getfield 57, 3) := by decide +kernel
theorem dX0_decider_7 : decode cX0_decider 7 = .ok (.aload_n 0, 1) := by decide +kernel
theorem dX0_decider_8 : decode cX0_decider 8 = .ok (.getfield 31, 3) := by decide +kernel
theorem dX0_decider_11 : decode cX0_decider 11 = .ok (.aaload, 1) := by decide +kernel
theorem dX0_decider_12 : decode cX0_decider 12 = .ok (.astore_n 3, 1) := by decide +kernel
theorem dX0_decider_13 : decode cX0_decider 13 = .ok (.aload_n 0, 1) := by decide +kernel
theorem dX0_decider_14 : decode cX0_decider 14 = .ok (.getfield 44, 3) := by decide +kernel
theorem dX0_decider_17 : decode cX0_decider 17 = .ok (.getfield 57, 3) := by decide +kernel
theorem dX0_decider_20 : decode cX0_decider 20 = .ok (.iconst 1, 1) := by decide +kernel
theorem dX0_decider_21 : decode cX0_decider 21 = .ok (.aload_n 0, 1) := by decide +kernel
theorem dX0_decider_22 : decode cX0_decider 22 = .ok (.getfield 31, 3) := by decide +kernel
theorem dX0_decider_25 : decode cX0_decider 25 = .ok (.isub, 1) := by decide +kernel
theorem dX0_decider_26 : decode cX0_decider 26 = .ok (.aaload, 1) := by decide +kernel
theorem dX0_decider_27 : decode cX0_decider 27 = .ok (.astore 4, 2) := by decide +kernel
theorem dX0_decider_29 : decode cX0_decider 29 = .ok (.aload_n 3, 1) := by decide +kernel
theorem dX0_decider_30 : decode cX0_decider 30 = .ok (.iload_n 1, 1) := by decide +kernel
theorem dX0_decider_31 : decode cX0_decider 31 = .ok (.invokevirtual 72, 3) := by decide +kernel
theorem dX0_decider_34 : decode cX0_decider 34 = .ok (.ifCond .ne 6, 3) := by decide +kernel
theorem dX0_decider_37 : decode cX0_decider 37 = .ok (.aload 4, 2) := by decide +kernel
theorem dX0_decider_39 : decode cX0_decider 39 = .ok (.areturn, 1) := by decide +kernel
theorem dX0_decider_40 : decode cX0_decider 40 = .ok (.aload_n 0, 1) := by decide +kernel
theorem dX0_decider_41 : decode cX0_decider 41 = .ok (.getfield 17, 3) := by decide +kernel
theorem dX0_decider_44 : decode cX0_decider 44 = .ok (.iconst 1, 1) := by decide +kernel
theorem dX0_decider_45 : decode cX0_decider 45 = .ok (.aload_n 0, 1) := by decide +kernel
theorem dX0_decider_46 : decode cX0_decider 46 = .ok (.getfield 31, 3) := by decide +kernel
theorem dX0_decider_49 : decode cX0_decider 49 = .ok (.isub, 1) := by decide +kernel
theorem dX0_decider_50 : decode cX0_decider 50 = .ok (.aaload, 1) := by decide +kernel
theorem dX0_decider_51 : decode cX0_decider 51 = .ok (.iload_n 1, 1) := by decide +kernel
theorem dX0_decider_52 : decode cX0_decider 52 = .ok (.iaload, 1) := by decide +kernel
theorem dX0_decider_53 : decode cX0_decider 53 = .ok (.iload_n 2, 1) := by decide +kernel
theorem dX0_decider_54 : decode cX0_decider 54 = .ok (.iand, 1) := by decide +kernel
theorem dX0_decider_55 : decode cX0_decider 55 = .ok (.ifCond .eq 7, 3) := by decide +kernel
theorem dX0_decider_58 : decode cX0_decider 58 = .ok (.iconst 1, 1) := by decide +kernel
theorem dX0_decider_59 : decode cX0_decider 59 = .ok (.goto 4, 3) := by decide +kernel
theorem dX0_decider_62 : decode cX0_decider 62 = .ok (.iconst 0, 1) := by decide +kernel
theorem dX0_decider_63 : decode cX0_decider 63 = .ok (.istore 5, 2) := by decide +kernel
theorem dX0_decider_65 : decode cX0_decider 65 = .ok (.aload_n 0, 1) := by decide +kernel
theorem dX0_decider_66 : decode cX0_decider 66 = .ok (.getfield 17, 3) := by decide +kernel
theorem dX0_decider_69 : decode cX0_decider 69 = .ok (.aload_n 0, 1) := by decide +kernel
theorem dX0_decider_70 : decode cX0_decider 70 = .ok (.getfield 31, 3) := by decide +kernel
theorem dX0_decider_73 : decode cX0_decider 73 = .ok (.aaload, 1) := by decide +kernel
theorem dX0_decider_74 : decode cX0_decider 74 = .ok (.iload_n 1, 1) := by decide +kernel
theorem dX0_decider_75 : decode cX0_decider 75 = .ok (.iaload, 1) := by decide +kernel
theorem dX0_decider_76 : decode cX0_decider 76 = .ok (.iload_n 2, 1) := by decide +kernel
theorem dX0_decider_77 : decode cX0_decider 77 = .ok (.iand, 1) := by decide +kernel
theorem dX0_decider_78 : decode cX0_decider 78 = .ok (.ifCond .eq 7, 3) := by decide +kernel
theorem dX0_decider_81 : decode cX0_decider 81 = .ok (.iconst 1, 1) := by decide +kernel
theorem dX0_decider_82 : decode cX0_decider 82 = .ok (.goto 4, 3) := by decide +kernel
theorem dX0_decider_85 : decode cX0_decider 85 = .ok (.iconst 0, 1) := by decide +kernel
theorem dX0_decider_86 : decode cX0_decider 86 = .ok (.istore 6, 2) := by decide +kernel
theorem dX0_decider_88 : decode cX0_decider 88 = .ok (.iload 5, 2) := by decide +kernel
theorem dX0_decider_90 : decode cX0_decider 90 = .ok (.ifCond .eq 13, 3) := by decide +kernel
theorem dX0_decider_93 : decode cX0_decider 93 = .ok (.iload 6, 2) := by decide +kernel
theorem dX0_decider_95 : decode cX0_decider 95 = .ok (.ifCond .ne 8, 3) := by decide +kernel
theorem dX0_decider_98 : decode cX0_decider 98 = .ok (.aload 4, 2) := by decide +kernel
theorem dX0_decider_100 : decode cX0_decider 100 = .ok (.goto 4, 3) := by decide +kernel
theorem dX0_decider_103 : decode cX0_decider 103 = .ok (.aload_n 3, 1) := by decide +kernel
theorem dX0_decider_104 : decode cX0_decider 104 = .ok (.areturn, 1) := by decide +kernel
theorem dX0_bothDid_0 : decode cX0_bothDid 0 = .ok (.aload_n 0, 1) := by decide +kernel
theorem dX0_bothDid_1 : decode cX0_bothDid 1 = .ok (.getfield 17, 3) := by decide +kernel
theorem dX0_bothDid_4 : decode cX0_bothDid 4 = .ok (.iconst 0, 1) := by decide +kernel
theorem dX0_bothDid_5 : decode cX0_bothDid 5 = .ok (.aaload, 1) := by decide +kernel
theorem dX0_bothDid_6 : decode cX0_bothDid 6 = .ok (.iload_n 1, 1) := by decide +kernel
theorem dX0_bothDid_7 : decode cX0_bothDid 7 = .ok (.iaload, 1) := by decide +kernel
theorem dX0_bothDid_8 : decode cX0_bothDid 8 = .ok (.aload_n 0, 1) := by decide +kernel
theorem dX0_bothDid_9 : decode cX0_bothDid 9 = .ok (.getfield 17, 3) := by decide +kernel
theorem dX0_bothDid_12 : decode cX0_bothDid 12 = .ok (.iconst 1, 1) := by decide +kernel
theorem dX0_bothDid_13 : decode cX0_bothDid 13 = .ok (.aaload, 1) := by decide +kernel
theorem dX0_bothDid_14 : decode cX0_bothDid 14 = .ok (.iload_n 1, 1) := by decide +kernel
theorem dX0_bothDid_15 : decode cX0_bothDid 15 = .ok (.iaload, 1) := by decide +kernel
theorem dX0_bothDid_16 : decode cX0_bothDid 16 = .ok (.iand, 1) := by decide +kernel
theorem dX0_bothDid_17 : decode cX0_bothDid 17 = .ok (.iload_n 2, 1) := by decide +kernel
theorem dX0_bothDid_18 : decode cX0_bothDid 18 = .ok (.iand, 1) := by decide +kernel
theorem dX0_bothDid_19 : decode cX0_bothDid 19 = .ok (.ifCond .eq 7, 3) := by decide +kernel
theorem dX0_bothDid_22 : decode cX0_bothDid 22 = .ok (.iconst 1, 1) := by decide +kernel
theorem dX0_bothDid_23 : decode cX0_bothDid 23 = .ok (.goto 4, 3) := by decide +kernel
theorem dX0_bothDid_26 : decode cX0_bothDid 26 = .ok (.iconst 0, 1) := by decide +kernel
theorem dX0_bothDid_27 : decode cX0_bothDid 27 = .ok (.ireturn, 1) := by decide +kernel
theorem dX0_decidePlaces_0 : decode cX0_decidePlaces 0 = .ok (.iconst 0, 1) := by decide +kernel
theorem dX0_decidePlaces_1 : decode cX0_decidePlaces 1 = .ok (.istore_n 1, 1) := by decide +kernel
theorem dX0_decidePlaces_2 : decode cX0_decidePlaces 2 = .ok (.iload_n 1, 1) := by decide +kernel
theorem dX0_decidePlaces_3 : decode cX0_decidePlaces 3 = .ok (.aload_n 0, 1) := by decide +kernel
theorem dX0_decidePlaces_4 : decode cX0_decidePlaces 4 = .ok (.getfield 44, 3) := by decide +kernel
theorem dX0_decidePlaces_7 : decode cX0_decidePlaces 7 = .ok (.getfield 86, 3) := by decide +kernel
theorem dX0_decidePlaces_10 : decode cX0_decidePlaces 10 = .ok (.if_icmp .ge 100, 3) := by decide +kernel
theorem dX0_decidePlaces_13 : decode cX0_decidePlaces 13 = .ok (.aload_n 0, 1) := by decide +kernel
theorem dX0_decidePlaces_14 : decode cX0_decidePlaces 14 = .ok (.getfield 23, 3) := by decide +kernel
theorem dX0_decidePlaces_17 : decode cX0_decidePlaces 17 = .ok (.iload_n 1, 1) := by decide +kernel
theorem dX0_decidePlaces_18 : decode cX0_decidePlaces 18 = .ok (.invokevirtual 72, 3) := by decide +kernel
theorem dX0_decidePlaces_21 : decode cX0_decidePlaces 21 = .ok (.ifCond .ne 6, 3) := by decide +kernel
theorem dX0_decidePlaces_24 : decode cX0_decidePlaces 24 = .ok (.goto 80, 3) := by decide +kernel
theorem dX0_decidePlaces_27 : decode cX0_decidePlaces 27 = .ok (.aload_n 0, 1) := by decide +kernel
theorem dX0_decidePlaces_28 : decode cX0_decidePlaces 28 = .ok (.iload_n 1, 1) := by decide +kernel
theorem dX0_decidePlaces_29 : decode cX0_decidePlaces 29 = .ok (.iconst 4, 1) := by decide +kernel
theorem dX0_decidePlaces_30 : decode cX0_decidePlaces 30 = .ok (.invokevirtual 119, 3) := by decide +kernel
theorem dX0_decidePlaces_33 : decode cX0_decidePlaces 33 = .ok (.astore_n 2, 1) := by decide +kernel
theorem dX0_decidePlaces_34 : decode cX0_decidePlaces 34 = .ok (.aload_n 0, 1) := by decide +kernel
theorem dX0_decidePlaces_35 : decode cX0_decidePlaces 35 = .ok (.getfield 23, 3) := by decide +kernel
theorem dX0_decidePlaces_38 : decode cX0_decidePlaces 38 = .ok (.getfield 69, 3) := by decide +kernel
theorem dX0_decidePlaces_41 : decode cX0_decidePlaces 41 = .ok (.iload_n 1, 1) := by decide +kernel
theorem dX0_decidePlaces_42 : decode cX0_decidePlaces 42 = .ok (.aload_n 2, 1) := by decide +kernel
theorem dX0_decidePlaces_43 : decode cX0_decidePlaces 43 = .ok (.getfield 69, 3) := by decide +kernel
theorem dX0_decidePlaces_46 : decode cX0_decidePlaces 46 = .ok (.iload_n 1, 1) := by decide +kernel
theorem dX0_decidePlaces_47 : decode cX0_decidePlaces 47 = .ok (.iaload, 1) := by decide +kernel
theorem dX0_decidePlaces_48 : decode cX0_decidePlaces 48 = .ok (.iastore, 1) := by decide +kernel
theorem dX0_decidePlaces_49 : decode cX0_decidePlaces 49 = .ok (.aload_n 0, 1) := by decide +kernel
theorem dX0_decidePlaces_50 : decode cX0_decidePlaces 50 = .ok (.getfield 23, 3) := by decide +kernel
theorem dX0_decidePlaces_53 : decode cX0_decidePlaces 53 = .ok (.getfield 123, 3) := by decide +kernel
theorem dX0_decidePlaces_56 : decode cX0_decidePlaces 56 = .ok (.iload_n 1, 1) := by decide +kernel
theorem dX0_decidePlaces_57 : decode cX0_decidePlaces 57 = .ok (.aload_n 2, 1) := by decide +kernel
theorem dX0_decidePlaces_58 : decode cX0_decidePlaces 58 = .ok (.getfield 123, 3) := by decide +kernel
theorem dX0_decidePlaces_61 : decode cX0_decidePlaces 61 = .ok (.iload_n 1, 1) := by decide +kernel
theorem dX0_decidePlaces_62 : decode cX0_decidePlaces 62 = .ok (.iaload, 1) := by decide +kernel
theorem dX0_decidePlaces_63 : decode cX0_decidePlaces 63 = .ok (.iastore, 1) := by decide +kernel
theorem dX0_decidePlaces_64 : decode cX0_decidePlaces 64 = .ok (.aload_n 0, 1) := by decide +kernel
theorem dX0_decidePlaces_65 : decode cX0_decidePlaces 65 = .ok (.iload_n 1, 1) := by decide +kernel
theorem dX0_decidePlaces_66 : decode cX0_decidePlaces 66 = .ok (.iconst 4, 1) := by decide +kernel
theorem dX0_decidePlaces_67 : decode cX0_decidePlaces 67 = .ok (.invokevirtual 126, 3) := by decide +kernel
theorem dX0_decidePlaces_70 : decode cX0_decidePlaces 70 = .ok (.ifCond .eq 34, 3) := by decide +kernel
theorem dX0_decidePlaces_73 : decode cX0_decidePlaces 73 = .ok (.aload_n 0, 1) := by decide +kernel
theorem dX0_decidePlaces_74 : decode cX0_decidePlaces 74 = .ok (.getfield 44, 3) := by decide +kernel
theorem dX0_decidePlaces_77 : decode cX0_decidePlaces 77 = .ok (.getfield 57, 3) := by decide +kernel
theorem dX0_decidePlaces_80 : decode cX0_decidePlaces 80 = .ok (.iconst 0, 1) := by decide +kernel
theorem dX0_decidePlaces_81 : decode cX0_decidePlaces 81 = .ok (.aaload, 1) := by decide +kernel
theorem dX0_decidePlaces_82 : decode cX0_decidePlaces 82 = .ok (.aload_n 0, 1) := by decide +kernel
theorem dX0_decidePlaces_83 : decode cX0_decidePlaces 83 = .ok (.getfield 44, 3) := by decide +kernel
theorem dX0_decidePlaces_86 : decode cX0_decidePlaces 86 = .ok (.getfield 57, 3) := by decide +kernel
theorem dX0_decidePlaces_89 : decode cX0_decidePlaces 89 = .ok (.iconst 1, 1) := by decide +kernel
theorem dX0_decidePlaces_90 : decode cX0_decidePlaces 90 = .ok (.aaload, 1) := by decide +kernel
theorem dX0_decidePlaces_91 : decode cX0_decidePlaces 91 = .ok (.iload_n 1, 1) := by decide +kernel
theorem dX0_decidePlaces_92 : decode cX0_decidePlaces 92 = .ok (.invokevirtual 75, 3) := by decide +kernel
theorem dX0_decidePlaces_95 : decode cX0_decidePlaces 95 = .ok (.ifCond .ne 9, 3) := by decide +kernel
theorem dX0_decidePlaces_98 : decode cX0_decidePlaces 98 = .ok (.aload_n 0, 1) := by decide +kernel
theorem dX0_decidePlaces_99 : decode cX0_decidePlaces 99 = .ok (.iconst 1, 1) := by decide +kernel
theorem dX0_decidePlaces_100 : decode cX0_decidePlaces 100 = .ok (.iload_n 1, 1) := by decide +kernel
theorem dX0_decidePlaces_101 : decode cX0_decidePlaces 101 = .ok (.invokevirtual 108, 3) := by decide +kernel
theorem dX0_decidePlaces_104 : decode cX0_decidePlaces 104 = .ok (.iinc 1 1, 3) := by decide +kernel
theorem dX0_decidePlaces_107 : decode cX0_decidePlaces 107 = .ok (.goto (-105), 3) := by decide +kernel
theorem dX0_decidePlaces_110 : decode cX0_decidePlaces 110 = .ok (.return_, 1) := by decide +kernel
theorem dX0_decideContents_0 : decode cX0_decideContents 0 = .ok (.iconst 0, 1) := by decide +kernel
theorem dX0_decideContents_1 : decode cX0_decideContents 1 = .ok (.istore_n 1, 1) := by decide +kernel
theorem dX0_decideContents_2 : decode cX0_decideContents 2 = .ok (.iload_n 1, 1) := by decide +kernel
theorem dX0_decideContents_3 : decode cX0_decideContents 3 = .ok (.aload_n 0, 1) := by decide +kernel
theorem dX0_decideContents_4 : decode cX0_decideContents 4 = .ok (.getfield 44, 3) := by decide +kernel
theorem dX0_decideContents_7 : decode cX0_decideContents 7 = .ok (.getfield 86, 3) := by decide +kernel
theorem dX0_decideContents_10 : decode cX0_decideContents 10 = .ok (.if_icmp .ge 90, 3) := by decide +kernel
theorem dX0_decideContents_13 : decode cX0_decideContents 13 = .ok (.aload_n 0, 1) := by decide +kernel
theorem dX0_decideContents_14 : decode cX0_decideContents 14 = .ok (.getfield 23, 3) := by decide +kernel
theorem dX0_decideContents_17 : decode cX0_decideContents 17 = .ok (.iload_n 1, 1) := by decide +kernel
theorem dX0_decideContents_18 : decode cX0_decideContents 18 = .ok (.invokevirtual 72, 3) := by decide +kernel
theorem dX0_decideContents_21 : decode cX0_decideContents 21 = .ok (.ifCond .ne 6, 3) := by decide +kernel
theorem dX0_decideContents_24 : decode cX0_decideContents 24 = .ok (.goto 70, 3) := by decide +kernel
theorem dX0_decideContents_27 : decode cX0_decideContents 27 = .ok (.aload_n 0, 1) := by decide +kernel
theorem dX0_decideContents_28 : decode cX0_decideContents 28 = .ok (.getfield 23, 3) := by decide +kernel
theorem dX0_decideContents_31 : decode cX0_decideContents 31 = .ok (.getfield 129, 3) := by decide +kernel
theorem dX0_decideContents_34 : decode cX0_decideContents 34 = .ok (.iload_n 1, 1) := by decide +kernel
theorem dX0_decideContents_35 : decode cX0_decideContents 35 = .ok (.aload_n 0, 1) := by decide +kernel
theorem dX0_decideContents_36 : decode cX0_decideContents 36 = .ok (.iload_n 1, 1) := by decide +kernel
theorem dX0_decideContents_37 : decode cX0_decideContents 37 = .ok (.bipush 8, 2) := by decide +kernel
theorem dX0_decideContents_39 : decode cX0_decideContents 39 = .ok (.invokevirtual 119, 3) := by decide +kernel
theorem dX0_decideContents_42 : decode cX0_decideContents 42 = .ok (.getfield 129, 3) := by decide +kernel
theorem dX0_decideContents_45 : decode cX0_decideContents 45 = .ok (.iload_n 1, 1) := by decide +kernel
theorem dX0_decideContents_46 : decode cX0_decideContents 46 = .ok (.iaload, 1) := by decide +kernel
theorem dX0_decideContents_47 : decode cX0_decideContents 47 = .ok (.iastore, 1) := by decide +kernel
theorem dX0_decideContents_48 : decode cX0_decideContents 48 = .ok (.aload_n 0, 1) := by decide +kernel
theorem dX0_decideContents_49 : decode cX0_decideContents 49 = .ok (.iload_n 1, 1) := by decide +kernel
theorem dX0_decideContents_50 : decode cX0_decideContents 50 = .ok (.bipush 8, 2) := by decide +kernel
theorem dX0_decideContents_52 : decode cX0_decideContents 52 = .ok (.invokevirtual 126, 3) := by decide +kernel
theorem dX0_decideContents_55 : decode cX0_decideContents 55 = .ok (.ifCond .eq 39, 3) := by decide +kernel
theorem dX0_decideContents_58 : decode cX0_decideContents 58 = .ok (.aload_n 0, 1) := by decide +kernel
theorem dX0_decideContents_59 : decode cX0_decideContents 59 = .ok (.getfield 44, 3) := by decide +kernel
theorem dX0_decideContents_62 : decode cX0_decideContents 62 = .ok (.getfield 57, 3) := by decide +kernel
theorem dX0_decideContents_65 : decode cX0_decideContents 65 = .ok (.iconst 0, 1) := by decide +kernel
theorem dX0_decideContents_66 : decode cX0_decideContents 66 = .ok (.aaload, 1) := by decide +kernel
theorem dX0_decideContents_67 : decode cX0_decideContents 67 = .ok (.aload_n 0, 1) := by decide +kernel
theorem dX0_decideContents_68 : decode cX0_decideContents 68 = .ok (.getfield 44, 3) := by decide +kernel
theorem dX0_decideContents_71 : decode cX0_decideContents 71 = .ok (.getfield 57, 3) := by decide +kernel
theorem dX0_decideContents_74 : decode cX0_decideContents 74 = .ok (.iconst 1, 1) := by decide +kernel
theorem dX0_decideContents_75 : decode cX0_decideContents 75 = .ok (.aaload, 1) := by decide +kernel
theorem dX0_decideContents_76 : decode cX0_decideContents 76 = .ok (.iload_n 1, 1) := by decide +kernel
theorem dX0_decideContents_77 : decode cX0_decideContents 77 = .ok (.invokevirtual 79, 3) := by decide +kernel
theorem dX0_decideContents_80 : decode cX0_decideContents 80 = .ok (.ifCond .ne 14, 3) := by decide +kernel
theorem dX0_decideContents_83 : decode cX0_decideContents 83 = .ok (.aload_n 0, 1) := by decide +kernel
theorem dX0_decideContents_84 : decode cX0_decideContents 84 = .ok (.iconst 2, 1) := by decide +kernel
theorem dX0_decideContents_85 : decode cX0_decideContents 85 = .ok (.iload_n 1, 1) := by decide +kernel
theorem dX0_decideContents_86 : decode cX0_decideContents 86 = .ok (.invokevirtual 108, 3) := by decide +kernel
theorem dX0_decideContents_89 : decode cX0_decideContents 89 = .ok (.aload_n 0, 1) := by decide +kernel
theorem dX0_decideContents_90 : decode cX0_decideContents 90 = .ok (.iload_n 1, 1) := by decide +kernel
theorem dX0_decideContents_91 : decode cX0_decideContents 91 = .ok (.invokevirtual 132, 3) := by decide +kernel
theorem dX0_decideContents_94 : decode cX0_decideContents 94 = .ok (.iinc 1 1, 3) := by decide +kernel
theorem dX0_decideContents_97 : decode cX0_decideContents 97 = .ok (.goto (-95), 3) := by decide +kernel
theorem dX0_decideContents_100 : decode cX0_decideContents 100 = .ok (.return_, 1) := by decide +kernel
theorem dX0_addOther_0 : decode cX0_addOther 0 = .ok (.aload_n 0, 1) := by decide +kernel
theorem dX0_addOther_1 : decode cX0_addOther 1 = .ok (.getfield 27, 3) := by decide +kernel
theorem dX0_addOther_4 : decode cX0_addOther 4 = .ok (.bipush 30, 2) := by decide +kernel
theorem dX0_addOther_6 : decode cX0_addOther 6 = .ok (.if_icmp .ge 61, 3) := by decide +kernel
theorem dX0_addOther_9 : decode cX0_addOther 9 = .ok (.aload_n 0, 1) := by decide +kernel
theorem dX0_addOther_10 : decode cX0_addOther 10 = .ok (.getfield 23, 3) := by decide +kernel
theorem dX0_addOther_13 : decode cX0_addOther 13 = .ok (.aload_n 0, 1) := by decide +kernel
theorem dX0_addOther_14 : decode cX0_addOther 14 = .ok (.getfield 27, 3) := by decide +kernel
theorem dX0_addOther_17 : decode cX0_addOther 17 = .ok (.aload_n 0, 1) := by decide +kernel
theorem dX0_addOther_18 : decode cX0_addOther 18 = .ok (.getfield 23, 3) := by decide +kernel
theorem dX0_addOther_21 : decode cX0_addOther 21 = .ok (.getfield 69, 3) := by decide +kernel
theorem dX0_addOther_24 : decode cX0_addOther 24 = .ok (.iload_n 1, 1) := by decide +kernel
theorem dX0_addOther_25 : decode cX0_addOther 25 = .ok (.iaload, 1) := by decide +kernel
theorem dX0_addOther_26 : decode cX0_addOther 26 = .ok (.aload_n 0, 1) := by decide +kernel
theorem dX0_addOther_27 : decode cX0_addOther 27 = .ok (.getfield 23, 3) := by decide +kernel
theorem dX0_addOther_30 : decode cX0_addOther 30 = .ok (.getfield 123, 3) := by decide +kernel
theorem dX0_addOther_33 : decode cX0_addOther 33 = .ok (.iload_n 1, 1) := by decide +kernel
theorem dX0_addOther_34 : decode cX0_addOther 34 = .ok (.iaload, 1) := by decide +kernel
theorem dX0_addOther_35 : decode cX0_addOther 35 = .ok (.aload_n 0, 1) := by decide +kernel
theorem dX0_addOther_36 : decode cX0_addOther 36 = .ok (.getfield 44, 3) := by decide +kernel
theorem dX0_addOther_39 : decode cX0_addOther 39 = .ok (.getfield 57, 3) := by decide +kernel
theorem dX0_addOther_42 : decode cX0_addOther 42 = .ok (.iconst 1, 1) := by decide +kernel
theorem dX0_addOther_43 : decode cX0_addOther 43 = .ok (.aload_n 0, 1) := by decide +kernel
theorem dX0_addOther_44 : decode cX0_addOther 44 = .ok (.getfield 31, 3) := by decide +kernel
theorem dX0_addOther_47 : decode cX0_addOther 47 = .ok (.isub, 1) := by decide +kernel
theorem dX0_addOther_48 : decode cX0_addOther 48 = .ok (.aaload, 1) := by decide +kernel
theorem dX0_addOther_49 : decode cX0_addOther 49 = .ok (.getfield 129, 3) := by decide +kernel
theorem dX0_addOther_52 : decode cX0_addOther 52 = .ok (.iload_n 1, 1) := by decide +kernel
theorem dX0_addOther_53 : decode cX0_addOther 53 = .ok (.iaload, 1) := by decide +kernel
theorem dX0_addOther_54 : decode cX0_addOther 54 = .ok (.invokevirtual 112, 3) := by decide +kernel
theorem dX0_addOther_57 : decode cX0_addOther 57 = .ok (.aload_n 0, 1) := by decide +kernel
theorem dX0_addOther_58 : decode cX0_addOther 58 = .ok (.dup, 1) := by decide +kernel
theorem dX0_addOther_59 : decode cX0_addOther 59 = .ok (.getfield 27, 3) := by decide +kernel
theorem dX0_addOther_62 : decode cX0_addOther 62 = .ok (.iconst 1, 1) := by decide +kernel
theorem dX0_addOther_63 : decode cX0_addOther 63 = .ok (.iadd, 1) := by decide +kernel
theorem dX0_addOther_64 : decode cX0_addOther 64 = .ok (.putfield 27, 3) := by decide +kernel
theorem dX0_addOther_67 : decode cX0_addOther 67 = .ok (.return_, 1) := by decide +kernel
theorem dX0_mendRings_0 : decode cX0_mendRings 0 = .ok (.iconst 0, 1) := by decide +kernel
theorem dX0_mendRings_1 : decode cX0_mendRings 1 = .ok (.istore_n 1, 1) := by decide +kernel
theorem dX0_mendRings_2 : decode cX0_mendRings 2 = .ok (.iload_n 1, 1) := by decide +kernel
theorem dX0_mendRings_3 : decode cX0_mendRings 3 = .ok (.bipush 30, 2) := by decide +kernel
theorem dX0_mendRings_5 : decode cX0_mendRings 5 = .ok (.if_icmp .ge 36, 3) := by decide +kernel
theorem dX0_mendRings_8 : decode cX0_mendRings 8 = .ok (.aload_n 0, 1) := by decide +kernel
theorem dX0_mendRings_9 : decode cX0_mendRings 9 = .ok (.invokevirtual 136, 3) := by decide +kernel
theorem dX0_mendRings_12 : decode cX0_mendRings 12 = .ok (.istore_n 2, 1) := by decide +kernel
theorem dX0_mendRings_13 : decode cX0_mendRings 13 = .ok (.iload_n 2, 1) := by decide +kernel
theorem dX0_mendRings_14 : decode cX0_mendRings 14 = .ok (.iconst (-1), 1) := by decide +kernel
theorem dX0_mendRings_15 : decode cX0_mendRings 15 = .ok (.if_icmp .ne 4, 3) := by decide +kernel
theorem dX0_mendRings_18 : decode cX0_mendRings 18 = .ok (.return_, 1) := by decide +kernel
theorem dX0_mendRings_19 : decode cX0_mendRings 19 = .ok (.aload_n 0, 1) := by decide +kernel
theorem dX0_mendRings_20 : decode cX0_mendRings 20 = .ok (.getfield 23, 3) := by decide +kernel
theorem dX0_mendRings_23 : decode cX0_mendRings 23 = .ok (.getfield 69, 3) := by decide +kernel
theorem dX0_mendRings_26 : decode cX0_mendRings 26 = .ok (.iload_n 2, 1) := by decide +kernel
theorem dX0_mendRings_27 : decode cX0_mendRings 27 = .ok (.iconst (-1), 1) := by decide +kernel
theorem dX0_mendRings_28 : decode cX0_mendRings 28 = .ok (.iastore, 1) := by decide +kernel
theorem dX0_mendRings_29 : decode cX0_mendRings 29 = .ok (.aload_n 0, 1) := by decide +kernel
theorem dX0_mendRings_30 : decode cX0_mendRings 30 = .ok (.iconst 4, 1) := by decide +kernel
theorem dX0_mendRings_31 : decode cX0_mendRings 31 = .ok (.iload_n 2, 1) := by decide +kernel
theorem dX0_mendRings_32 : decode cX0_mendRings 32 = .ok (.invokevirtual 108, 3) := by decide +kernel
theorem dX0_mendRings_35 : decode cX0_mendRings 35 = .ok (.iinc 1 1, 3) := by decide +kernel
theorem dX0_mendRings_38 : decode cX0_mendRings 38 = .ok (.goto (-36), 3) := by decide +kernel
theorem dX0_mendRings_41 : decode cX0_mendRings 41 = .ok (.return_, 1) := by decide +kernel
theorem dX0_greatestInRing_0 : decode cX0_greatestInRing 0 = .ok (.bipush 29, 2) := by decide +kernel
theorem dX0_greatestInRing_2 : decode cX0_greatestInRing 2 = .ok (.istore_n 1, 1) := by decide +kernel
theorem dX0_greatestInRing_3 : decode cX0_greatestInRing 3 = .ok (.iload_n 1, 1) := by decide +kernel
theorem dX0_greatestInRing_4 : decode cX0_greatestInRing 4 = .ok (.ifCond .lt 23, 3) := by decide +kernel
theorem dX0_greatestInRing_7 : decode cX0_greatestInRing 7 = .ok (.aload_n 0, 1) := by decide +kernel
theorem dX0_greatestInRing_8 : decode cX0_greatestInRing 8 = .ok (.getfield 23, 3) := by decide +kernel
theorem dX0_greatestInRing_11 : decode cX0_greatestInRing 11 = .ok (.iload_n 1, 1) := by decide +kernel
theorem dX0_greatestInRing_12 : decode cX0_greatestInRing 12 = .ok (.iload_n 1, 1) := by decide +kernel
theorem dX0_greatestInRing_13 : decode cX0_greatestInRing 13 = .ok (.invokevirtual 116, 3) := by decide +kernel
theorem dX0_greatestInRing_16 : decode cX0_greatestInRing 16 = .ok (.ifCond .eq 5, 3) := by decide +kernel
theorem dX0_greatestInRing_19 : decode cX0_greatestInRing 19 = .ok (.iload_n 1, 1) := by decide +kernel
theorem dX0_greatestInRing_20 : decode cX0_greatestInRing 20 = .ok (.ireturn, 1) := by decide +kernel
theorem dX0_greatestInRing_21 : decode cX0_greatestInRing 21 = .ok (.iinc 1 (-1), 3) := by decide +kernel
theorem dX0_greatestInRing_24 : decode cX0_greatestInRing 24 = .ok (.goto (-21), 3) := by decide +kernel
theorem dX0_greatestInRing_27 : decode cX0_greatestInRing 27 = .ok (.iconst (-1), 1) := by decide +kernel
theorem dX0_greatestInRing_28 : decode cX0_greatestInRing 28 = .ok (.ireturn, 1) := by decide +kernel
theorem dX0_mendNames_0 : decode cX0_mendNames 0 = .ok (.iconst 0, 1) := by decide +kernel
theorem dX0_mendNames_1 : decode cX0_mendNames 1 = .ok (.istore_n 1, 1) := by decide +kernel
theorem dX0_mendNames_2 : decode cX0_mendNames 2 = .ok (.iload_n 1, 1) := by decide +kernel
theorem dX0_mendNames_3 : decode cX0_mendNames 3 = .ok (.aload_n 0, 1) := by decide +kernel
theorem dX0_mendNames_4 : decode cX0_mendNames 4 = .ok (.getfield 27, 3) := by decide +kernel
theorem dX0_mendNames_7 : decode cX0_mendNames 7 = .ok (.if_icmp .ge 85, 3) := by decide +kernel
theorem dX0_mendNames_10 : decode cX0_mendNames 10 = .ok (.aload_n 0, 1) := by decide +kernel
theorem dX0_mendNames_11 : decode cX0_mendNames 11 = .ok (.getfield 23, 3) := by decide +kernel
theorem dX0_mendNames_14 : decode cX0_mendNames 14 = .ok (.iload_n 1, 1) := by decide +kernel
theorem dX0_mendNames_15 : decode cX0_mendNames 15 = .ok (.invokevirtual 72, 3) := by decide +kernel
theorem dX0_mendNames_18 : decode cX0_mendNames 18 = .ok (.ifCond .ne 6, 3) := by decide +kernel
theorem dX0_mendNames_21 : decode cX0_mendNames 21 = .ok (.goto 65, 3) := by decide +kernel
theorem dX0_mendNames_24 : decode cX0_mendNames 24 = .ok (.aload_n 0, 1) := by decide +kernel
theorem dX0_mendNames_25 : decode cX0_mendNames 25 = .ok (.getfield 23, 3) := by decide +kernel
theorem dX0_mendNames_28 : decode cX0_mendNames 28 = .ok (.getfield 69, 3) := by decide +kernel
theorem dX0_mendNames_31 : decode cX0_mendNames 31 = .ok (.iload_n 1, 1) := by decide +kernel
theorem dX0_mendNames_32 : decode cX0_mendNames 32 = .ok (.iaload, 1) := by decide +kernel
theorem dX0_mendNames_33 : decode cX0_mendNames 33 = .ok (.istore_n 2, 1) := by decide +kernel
theorem dX0_mendNames_34 : decode cX0_mendNames 34 = .ok (.aload_n 0, 1) := by decide +kernel
theorem dX0_mendNames_35 : decode cX0_mendNames 35 = .ok (.getfield 23, 3) := by decide +kernel
theorem dX0_mendNames_38 : decode cX0_mendNames 38 = .ok (.getfield 123, 3) := by decide +kernel
theorem dX0_mendNames_41 : decode cX0_mendNames 41 = .ok (.iload_n 1, 1) := by decide +kernel
theorem dX0_mendNames_42 : decode cX0_mendNames 42 = .ok (.iaload, 1) := by decide +kernel
theorem dX0_mendNames_43 : decode cX0_mendNames 43 = .ok (.istore_n 3, 1) := by decide +kernel
theorem dX0_mendNames_44 : decode cX0_mendNames 44 = .ok (.aload_n 0, 1) := by decide +kernel
theorem dX0_mendNames_45 : decode cX0_mendNames 45 = .ok (.getfield 23, 3) := by decide +kernel
theorem dX0_mendNames_48 : decode cX0_mendNames 48 = .ok (.iload_n 2, 1) := by decide +kernel
theorem dX0_mendNames_49 : decode cX0_mendNames 49 = .ok (.iload_n 3, 1) := by decide +kernel
theorem dX0_mendNames_50 : decode cX0_mendNames 50 = .ok (.invokevirtual 140, 3) := by decide +kernel
theorem dX0_mendNames_53 : decode cX0_mendNames 53 = .ok (.iload_n 1, 1) := by decide +kernel
theorem dX0_mendNames_54 : decode cX0_mendNames 54 = .ok (.if_icmp .lt 12, 3) := by decide +kernel
theorem dX0_mendNames_57 : decode cX0_mendNames 57 = .ok (.aload_n 0, 1) := by decide +kernel
theorem dX0_mendNames_58 : decode cX0_mendNames 58 = .ok (.iload_n 2, 1) := by decide +kernel
theorem dX0_mendNames_59 : decode cX0_mendNames 59 = .ok (.iload_n 3, 1) := by decide +kernel
theorem dX0_mendNames_60 : decode cX0_mendNames 60 = .ok (.invokevirtual 144, 3) := by decide +kernel
theorem dX0_mendNames_63 : decode cX0_mendNames 63 = .ok (.ifCond .eq 23, 3) := by decide +kernel
theorem dX0_mendNames_66 : decode cX0_mendNames 66 = .ok (.aload_n 0, 1) := by decide +kernel
theorem dX0_mendNames_67 : decode cX0_mendNames 67 = .ok (.getfield 23, 3) := by decide +kernel
theorem dX0_mendNames_70 : decode cX0_mendNames 70 = .ok (.getfield 123, 3) := by decide +kernel
theorem dX0_mendNames_73 : decode cX0_mendNames 73 = .ok (.iload_n 1, 1) := by decide +kernel
theorem dX0_mendNames_74 : decode cX0_mendNames 74 = .ok (.aload_n 0, 1) := by decide +kernel
theorem dX0_mendNames_75 : decode cX0_mendNames 75 = .ok (.iload_n 2, 1) := by decide +kernel
theorem dX0_mendNames_76 : decode cX0_mendNames 76 = .ok (.invokevirtual 147, 3) := by decide +kernel
theorem dX0_mendNames_79 : decode cX0_mendNames 79 = .ok (.iastore, 1) := by decide +kernel
theorem dX0_mendNames_80 : decode cX0_mendNames 80 = .ok (.aload_n 0, 1) := by decide +kernel
theorem dX0_mendNames_81 : decode cX0_mendNames 81 = .ok (.iconst 3, 1) := by decide +kernel
theorem dX0_mendNames_82 : decode cX0_mendNames 82 = .ok (.iload_n 1, 1) := by decide +kernel
theorem dX0_mendNames_83 : decode cX0_mendNames 83 = .ok (.invokevirtual 108, 3) := by decide +kernel
theorem dX0_mendNames_86 : decode cX0_mendNames 86 = .ok (.iinc 1 1, 3) := by decide +kernel
theorem dX0_mendNames_89 : decode cX0_mendNames 89 = .ok (.goto (-87), 3) := by decide +kernel
theorem dX0_mendNames_92 : decode cX0_mendNames 92 = .ok (.return_, 1) := by decide +kernel
theorem dX0_ignoredHas_0 : decode cX0_ignoredHas 0 = .ok (.iconst 0, 1) := by decide +kernel
theorem dX0_ignoredHas_1 : decode cX0_ignoredHas 1 = .ok (.istore_n 3, 1) := by decide +kernel
theorem dX0_ignoredHas_2 : decode cX0_ignoredHas 2 = .ok (.iload_n 3, 1) := by decide +kernel
theorem dX0_ignoredHas_3 : decode cX0_ignoredHas 3 = .ok (.iconst 3, 1) := by decide +kernel
theorem dX0_ignoredHas_4 : decode cX0_ignoredHas 4 = .ok (.if_icmp .ge 65, 3) := by decide +kernel
theorem dX0_ignoredHas_7 : decode cX0_ignoredHas 7 = .ok (.aload_n 0, 1) := by decide +kernel
theorem dX0_ignoredHas_8 : decode cX0_ignoredHas 8 = .ok (.getfield 44, 3) := by decide +kernel
theorem dX0_ignoredHas_11 : decode cX0_ignoredHas 11 = .ok (.getfield 57, 3) := by decide +kernel
theorem dX0_ignoredHas_14 : decode cX0_ignoredHas 14 = .ok (.iload_n 3, 1) := by decide +kernel
theorem dX0_ignoredHas_15 : decode cX0_ignoredHas 15 = .ok (.aaload, 1) := by decide +kernel
theorem dX0_ignoredHas_16 : decode cX0_ignoredHas 16 = .ok (.astore 4, 2) := by decide +kernel
theorem dX0_ignoredHas_18 : decode cX0_ignoredHas 18 = .ok (.iconst 0, 1) := by decide +kernel
theorem dX0_ignoredHas_19 : decode cX0_ignoredHas 19 = .ok (.istore 5, 2) := by decide +kernel
theorem dX0_ignoredHas_21 : decode cX0_ignoredHas 21 = .ok (.iload 5, 2) := by decide +kernel
theorem dX0_ignoredHas_23 : decode cX0_ignoredHas 23 = .ok (.aload_n 0, 1) := by decide +kernel
theorem dX0_ignoredHas_24 : decode cX0_ignoredHas 24 = .ok (.getfield 44, 3) := by decide +kernel
theorem dX0_ignoredHas_27 : decode cX0_ignoredHas 27 = .ok (.getfield 86, 3) := by decide +kernel
theorem dX0_ignoredHas_30 : decode cX0_ignoredHas 30 = .ok (.if_icmp .ge 33, 3) := by decide +kernel
theorem dX0_ignoredHas_33 : decode cX0_ignoredHas 33 = .ok (.aload_n 0, 1) := by decide +kernel
theorem dX0_ignoredHas_34 : decode cX0_ignoredHas 34 = .ok (.getfield 9, 3) := by decide +kernel
theorem dX0_ignoredHas_37 : decode cX0_ignoredHas 37 = .ok (.iload 5, 2) := by decide +kernel
theorem dX0_ignoredHas_39 : decode cX0_ignoredHas 39 = .ok (.baload, 1) := by decide +kernel
theorem dX0_ignoredHas_40 : decode cX0_ignoredHas 40 = .ok (.ifCond .eq 17, 3) := by decide +kernel
theorem dX0_ignoredHas_43 : decode cX0_ignoredHas 43 = .ok (.aload 4, 2) := by decide +kernel
theorem dX0_ignoredHas_45 : decode cX0_ignoredHas 45 = .ok (.iload 5, 2) := by decide +kernel
theorem dX0_ignoredHas_47 : decode cX0_ignoredHas 47 = .ok (.iload_n 1, 1) := by decide +kernel
theorem dX0_ignoredHas_48 : decode cX0_ignoredHas 48 = .ok (.iload_n 2, 1) := by decide +kernel
theorem dX0_ignoredHas_49 : decode cX0_ignoredHas 49 = .ok (.invokevirtual 151, 3) := by decide +kernel
theorem dX0_ignoredHas_52 : decode cX0_ignoredHas 52 = .ok (.ifCond .eq 5, 3) := by decide +kernel
theorem dX0_ignoredHas_55 : decode cX0_ignoredHas 55 = .ok (.iconst 1, 1) := by decide +kernel
theorem dX0_ignoredHas_56 : decode cX0_ignoredHas 56 = .ok (.ireturn, 1) := by decide +kernel
theorem dX0_ignoredHas_57 : decode cX0_ignoredHas 57 = .ok (.iinc 5 1, 3) := by decide +kernel
theorem dX0_ignoredHas_60 : decode cX0_ignoredHas 60 = .ok (.goto (-39), 3) := by decide +kernel
theorem dX0_ignoredHas_63 : decode cX0_ignoredHas 63 = .ok (.iinc 3 1, 3) := by decide +kernel
theorem dX0_ignoredHas_66 : decode cX0_ignoredHas 66 = .ok (.goto (-64), 3) := by decide +kernel
theorem dX0_ignoredHas_69 : decode cX0_ignoredHas 69 = .ok (.iconst 0, 1) := by decide +kernel
theorem dX0_ignoredHas_70 : decode cX0_ignoredHas 70 = .ok (.ireturn, 1) := by decide +kernel
theorem dX0_leastFreeName_0 : decode cX0_leastFreeName 0 = .ok (.iconst 0, 1) := by decide +kernel
theorem dX0_leastFreeName_1 : decode cX0_leastFreeName 1 = .ok (.istore_n 2, 1) := by decide +kernel
theorem dX0_leastFreeName_2 : decode cX0_leastFreeName 2 = .ok (.iload_n 2, 1) := by decide +kernel
theorem dX0_leastFreeName_3 : decode cX0_leastFreeName 3 = .ok (.bipush 120, 2) := by decide +kernel
theorem dX0_leastFreeName_5 : decode cX0_leastFreeName 5 = .ok (.if_icmp .ge 31, 3) := by decide +kernel
theorem dX0_leastFreeName_8 : decode cX0_leastFreeName 8 = .ok (.aload_n 0, 1) := by decide +kernel
theorem dX0_leastFreeName_9 : decode cX0_leastFreeName 9 = .ok (.getfield 23, 3) := by decide +kernel
theorem dX0_leastFreeName_12 : decode cX0_leastFreeName 12 = .ok (.iload_n 1, 1) := by decide +kernel
theorem dX0_leastFreeName_13 : decode cX0_leastFreeName 13 = .ok (.iload_n 2, 1) := by decide +kernel
theorem dX0_leastFreeName_14 : decode cX0_leastFreeName 14 = .ok (.invokevirtual 140, 3) := by decide +kernel
theorem dX0_leastFreeName_17 : decode cX0_leastFreeName 17 = .ok (.iconst (-1), 1) := by decide +kernel
theorem dX0_leastFreeName_18 : decode cX0_leastFreeName 18 = .ok (.if_icmp .ne 12, 3) := by decide +kernel
theorem dX0_leastFreeName_21 : decode cX0_leastFreeName 21 = .ok (.aload_n 0, 1) := by decide +kernel
theorem dX0_leastFreeName_22 : decode cX0_leastFreeName 22 = .ok (.iload_n 1, 1) := by decide +kernel
theorem dX0_leastFreeName_23 : decode cX0_leastFreeName 23 = .ok (.iload_n 2, 1) := by decide +kernel
theorem dX0_leastFreeName_24 : decode cX0_leastFreeName 24 = .ok (.invokevirtual 144, 3) := by decide +kernel
theorem dX0_leastFreeName_27 : decode cX0_leastFreeName 27 = .ok (.ifCond .eq 9, 3) := by decide +kernel
theorem dX0_leastFreeName_30 : decode cX0_leastFreeName 30 = .ok (.iinc 2 1, 3) := by decide +kernel
theorem dX0_leastFreeName_33 : decode cX0_leastFreeName 33 = .ok (.goto (-31), 3) := by decide +kernel
theorem dX0_leastFreeName_36 : decode cX0_leastFreeName 36 = .ok (.iload_n 2, 1) := by decide +kernel
theorem dX0_leastFreeName_37 : decode cX0_leastFreeName 37 = .ok (.ireturn, 1) := by decide +kernel
theorem dX0_areAlike_0 : decode cX0_areAlike 0 = .ok (.aload_n 0, 1) := by decide +kernel
theorem dX0_areAlike_1 : decode cX0_areAlike 1 = .ok (.getfield 44, 3) := by decide +kernel
theorem dX0_areAlike_4 : decode cX0_areAlike 4 = .ok (.getfield 57, 3) := by decide +kernel
theorem dX0_areAlike_7 : decode cX0_areAlike 7 = .ok (.iconst 0, 1) := by decide +kernel
theorem dX0_areAlike_8 : decode cX0_areAlike 8 = .ok (.aaload, 1) := by decide +kernel
theorem dX0_areAlike_9 : decode cX0_areAlike 9 = .ok (.astore_n 1, 1) := by decide +kernel
theorem dX0_areAlike_10 : decode cX0_areAlike 10 = .ok (.aload_n 0, 1) := by decide +kernel
theorem dX0_areAlike_11 : decode cX0_areAlike 11 = .ok (.getfield 44, 3) := by decide +kernel
theorem dX0_areAlike_14 : decode cX0_areAlike 14 = .ok (.getfield 57, 3) := by decide +kernel
theorem dX0_areAlike_17 : decode cX0_areAlike 17 = .ok (.iconst 1, 1) := by decide +kernel
theorem dX0_areAlike_18 : decode cX0_areAlike 18 = .ok (.aaload, 1) := by decide +kernel
theorem dX0_areAlike_19 : decode cX0_areAlike 19 = .ok (.astore_n 2, 1) := by decide +kernel
theorem dX0_areAlike_20 : decode cX0_areAlike 20 = .ok (.iconst 0, 1) := by decide +kernel
theorem dX0_areAlike_21 : decode cX0_areAlike 21 = .ok (.istore_n 3, 1) := by decide +kernel
theorem dX0_areAlike_22 : decode cX0_areAlike 22 = .ok (.iload_n 3, 1) := by decide +kernel
theorem dX0_areAlike_23 : decode cX0_areAlike 23 = .ok (.aload_n 0, 1) := by decide +kernel
theorem dX0_areAlike_24 : decode cX0_areAlike 24 = .ok (.getfield 44, 3) := by decide +kernel
theorem dX0_areAlike_27 : decode cX0_areAlike 27 = .ok (.getfield 86, 3) := by decide +kernel
theorem dX0_areAlike_30 : decode cX0_areAlike 30 = .ok (.if_icmp .ge 63, 3) := by decide +kernel
theorem dX0_areAlike_33 : decode cX0_areAlike 33 = .ok (.aload_n 1, 1) := by decide +kernel
theorem dX0_areAlike_34 : decode cX0_areAlike 34 = .ok (.iload_n 3, 1) := by decide +kernel
theorem dX0_areAlike_35 : decode cX0_areAlike 35 = .ok (.invokevirtual 72, 3) := by decide +kernel
theorem dX0_areAlike_38 : decode cX0_areAlike 38 = .ok (.aload_n 2, 1) := by decide +kernel
theorem dX0_areAlike_39 : decode cX0_areAlike 39 = .ok (.iload_n 3, 1) := by decide +kernel
theorem dX0_areAlike_40 : decode cX0_areAlike 40 = .ok (.invokevirtual 72, 3) := by decide +kernel
theorem dX0_areAlike_43 : decode cX0_areAlike 43 = .ok (.if_icmp .ne 25, 3) := by decide +kernel
theorem dX0_areAlike_46 : decode cX0_areAlike 46 = .ok (.aload_n 1, 1) := by decide +kernel
theorem dX0_areAlike_47 : decode cX0_areAlike 47 = .ok (.aload_n 2, 1) := by decide +kernel
theorem dX0_areAlike_48 : decode cX0_areAlike 48 = .ok (.iload_n 3, 1) := by decide +kernel
theorem dX0_areAlike_49 : decode cX0_areAlike 49 = .ok (.invokevirtual 75, 3) := by decide +kernel
theorem dX0_areAlike_52 : decode cX0_areAlike 52 = .ok (.ifCond .eq 16, 3) := by decide +kernel
theorem dX0_areAlike_55 : decode cX0_areAlike 55 = .ok (.aload_n 1, 1) := by decide +kernel
theorem dX0_areAlike_56 : decode cX0_areAlike 56 = .ok (.aload_n 2, 1) := by decide +kernel
theorem dX0_areAlike_57 : decode cX0_areAlike 57 = .ok (.iload_n 3, 1) := by decide +kernel
theorem dX0_areAlike_58 : decode cX0_areAlike 58 = .ok (.invokevirtual 79, 3) := by decide +kernel
theorem dX0_areAlike_61 : decode cX0_areAlike 61 = .ok (.ifCond .eq 7, 3) := by decide +kernel
theorem dX0_areAlike_64 : decode cX0_areAlike 64 = .ok (.iconst 1, 1) := by decide +kernel
theorem dX0_areAlike_65 : decode cX0_areAlike 65 = .ok (.goto 4, 3) := by decide +kernel
theorem dX0_areAlike_68 : decode cX0_areAlike 68 = .ok (.iconst 0, 1) := by decide +kernel
theorem dX0_areAlike_69 : decode cX0_areAlike 69 = .ok (.istore 4, 2) := by decide +kernel
theorem dX0_areAlike_71 : decode cX0_areAlike 71 = .ok (.aload_n 0, 1) := by decide +kernel
theorem dX0_areAlike_72 : decode cX0_areAlike 72 = .ok (.getfield 9, 3) := by decide +kernel
theorem dX0_areAlike_75 : decode cX0_areAlike 75 = .ok (.iload_n 3, 1) := by decide +kernel
theorem dX0_areAlike_76 : decode cX0_areAlike 76 = .ok (.baload, 1) := by decide +kernel
theorem dX0_areAlike_77 : decode cX0_areAlike 77 = .ok (.ifCond .ne 10, 3) := by decide +kernel
theorem dX0_areAlike_80 : decode cX0_areAlike 80 = .ok (.iload 4, 2) := by decide +kernel
theorem dX0_areAlike_82 : decode cX0_areAlike 82 = .ok (.ifCond .ne 5, 3) := by decide +kernel
theorem dX0_areAlike_85 : decode cX0_areAlike 85 = .ok (.iconst 0, 1) := by decide +kernel
theorem dX0_areAlike_86 : decode cX0_areAlike 86 = .ok (.ireturn, 1) := by decide +kernel
theorem dX0_areAlike_87 : decode cX0_areAlike 87 = .ok (.iinc 3 1, 3) := by decide +kernel
theorem dX0_areAlike_90 : decode cX0_areAlike 90 = .ok (.goto (-68), 3) := by decide +kernel
theorem dX0_areAlike_93 : decode cX0_areAlike 93 = .ok (.iconst 1, 1) := by decide +kernel
theorem dX0_areAlike_94 : decode cX0_areAlike 94 = .ok (.ireturn, 1) := by decide +kernel
theorem dX0_carryOut_0 : decode cX0_carryOut 0 = .ok (.aload_n 0, 1) := by decide +kernel
theorem dX0_carryOut_1 : decode cX0_carryOut 1 = .ok (.getfield 44, 3) := by decide +kernel
theorem dX0_carryOut_4 : decode cX0_carryOut 4 = .ok (.getfield 86, 3) := by decide +kernel
theorem dX0_carryOut_7 : decode cX0_carryOut 7 = .ok (.istore_n 1, 1) := by decide +kernel
theorem dX0_carryOut_8 : decode cX0_carryOut 8 = .ok (.iload_n 1, 1) := by decide +kernel
theorem dX0_carryOut_9 : decode cX0_carryOut 9 = .ok (.aload_n 0, 1) := by decide +kernel
theorem dX0_carryOut_10 : decode cX0_carryOut 10 = .ok (.getfield 27, 3) := by decide +kernel
theorem dX0_carryOut_13 : decode cX0_carryOut 13 = .ok (.if_icmp .ge 19, 3) := by decide +kernel
theorem dX0_carryOut_16 : decode cX0_carryOut 16 = .ok (.aload_n 0, 1) := by decide +kernel
theorem dX0_carryOut_17 : decode cX0_carryOut 17 = .ok (.getfield 44, 3) := by decide +kernel
theorem dX0_carryOut_20 : decode cX0_carryOut 20 = .ok (.getfield 155, 3) := by decide +kernel
theorem dX0_carryOut_23 : decode cX0_carryOut 23 = .ok (.iload_n 1, 1) := by decide +kernel
theorem dX0_carryOut_24 : decode cX0_carryOut 24 = .ok (.iconst 0, 1) := by decide +kernel
theorem dX0_carryOut_25 : decode cX0_carryOut 25 = .ok (.bastore, 1) := by decide +kernel
theorem dX0_carryOut_26 : decode cX0_carryOut 26 = .ok (.iinc 1 1, 3) := by decide +kernel
theorem dX0_carryOut_29 : decode cX0_carryOut 29 = .ok (.goto (-21), 3) := by decide +kernel
theorem dX0_carryOut_32 : decode cX0_carryOut 32 = .ok (.iconst 0, 1) := by decide +kernel
theorem dX0_carryOut_33 : decode cX0_carryOut 33 = .ok (.istore_n 1, 1) := by decide +kernel
theorem dX0_carryOut_34 : decode cX0_carryOut 34 = .ok (.iload_n 1, 1) := by decide +kernel
theorem dX0_carryOut_35 : decode cX0_carryOut 35 = .ok (.iconst 3, 1) := by decide +kernel
theorem dX0_carryOut_36 : decode cX0_carryOut 36 = .ok (.if_icmp .ge 51, 3) := by decide +kernel
theorem dX0_carryOut_39 : decode cX0_carryOut 39 = .ok (.iconst 0, 1) := by decide +kernel
theorem dX0_carryOut_40 : decode cX0_carryOut 40 = .ok (.istore_n 2, 1) := by decide +kernel
theorem dX0_carryOut_41 : decode cX0_carryOut 41 = .ok (.iload_n 2, 1) := by decide +kernel
theorem dX0_carryOut_42 : decode cX0_carryOut 42 = .ok (.aload_n 0, 1) := by decide +kernel
theorem dX0_carryOut_43 : decode cX0_carryOut 43 = .ok (.getfield 27, 3) := by decide +kernel
theorem dX0_carryOut_46 : decode cX0_carryOut 46 = .ok (.if_icmp .ge 35, 3) := by decide +kernel
theorem dX0_carryOut_49 : decode cX0_carryOut 49 = .ok (.aload_n 0, 1) := by decide +kernel
theorem dX0_carryOut_50 : decode cX0_carryOut 50 = .ok (.getfield 9, 3) := by decide +kernel
theorem dX0_carryOut_53 : decode cX0_carryOut 53 = .ok (.iload_n 2, 1) := by decide +kernel
theorem dX0_carryOut_54 : decode cX0_carryOut 54 = .ok (.baload, 1) := by decide +kernel
theorem dX0_carryOut_55 : decode cX0_carryOut 55 = .ok (.ifCond .ne 20, 3) := by decide +kernel
theorem dX0_carryOut_58 : decode cX0_carryOut 58 = .ok (.aload_n 0, 1) := by decide +kernel
theorem dX0_carryOut_59 : decode cX0_carryOut 59 = .ok (.getfield 44, 3) := by decide +kernel
theorem dX0_carryOut_62 : decode cX0_carryOut 62 = .ok (.getfield 57, 3) := by decide +kernel
theorem dX0_carryOut_65 : decode cX0_carryOut 65 = .ok (.iload_n 1, 1) := by decide +kernel
theorem dX0_carryOut_66 : decode cX0_carryOut 66 = .ok (.aaload, 1) := by decide +kernel
theorem dX0_carryOut_67 : decode cX0_carryOut 67 = .ok (.aload_n 0, 1) := by decide +kernel
theorem dX0_carryOut_68 : decode cX0_carryOut 68 = .ok (.getfield 23, 3) := by decide +kernel
theorem dX0_carryOut_71 : decode cX0_carryOut 71 = .ok (.iload_n 2, 1) := by decide +kernel
theorem dX0_carryOut_72 : decode cX0_carryOut 72 = .ok (.invokevirtual 158, 3) := by decide +kernel
theorem dX0_carryOut_75 : decode cX0_carryOut 75 = .ok (.iinc 2 1, 3) := by decide +kernel
theorem dX0_carryOut_78 : decode cX0_carryOut 78 = .ok (.goto (-37), 3) := by decide +kernel
theorem dX0_carryOut_81 : decode cX0_carryOut 81 = .ok (.iinc 1 1, 3) := by decide +kernel
theorem dX0_carryOut_84 : decode cX0_carryOut 84 = .ok (.goto (-50), 3) := by decide +kernel
theorem dX0_carryOut_87 : decode cX0_carryOut 87 = .ok (.aload_n 0, 1) := by decide +kernel
theorem dX0_carryOut_88 : decode cX0_carryOut 88 = .ok (.getfield 44, 3) := by decide +kernel
theorem dX0_carryOut_91 : decode cX0_carryOut 91 = .ok (.aload_n 0, 1) := by decide +kernel
theorem dX0_carryOut_92 : decode cX0_carryOut 92 = .ok (.getfield 27, 3) := by decide +kernel
theorem dX0_carryOut_95 : decode cX0_carryOut 95 = .ok (.putfield 86, 3) := by decide +kernel
theorem dX0_carryOut_98 : decode cX0_carryOut 98 = .ok (.aload_n 0, 1) := by decide +kernel
theorem dX0_carryOut_99 : decode cX0_carryOut 99 = .ok (.invokevirtual 162, 3) := by decide +kernel
theorem dX0_carryOut_102 : decode cX0_carryOut 102 = .ok (.return_, 1) := by decide +kernel
theorem dX0_forgetHomeless_0 : decode cX0_forgetHomeless 0 = .ok (.aload_n 0, 1) := by decide +kernel
theorem dX0_forgetHomeless_1 : decode cX0_forgetHomeless 1 = .ok (.getfield 44, 3) := by decide +kernel
theorem dX0_forgetHomeless_4 : decode cX0_forgetHomeless 4 = .ok (.getfield 57, 3) := by decide +kernel
theorem dX0_forgetHomeless_7 : decode cX0_forgetHomeless 7 = .ok (.iconst 2, 1) := by decide +kernel
theorem dX0_forgetHomeless_8 : decode cX0_forgetHomeless 8 = .ok (.aaload, 1) := by decide +kernel
theorem dX0_forgetHomeless_9 : decode cX0_forgetHomeless 9 = .ok (.astore_n 1, 1) := by decide +kernel
theorem dX0_forgetHomeless_10 : decode cX0_forgetHomeless 10 = .ok (.iconst 1, 1) := by decide +kernel
theorem dX0_forgetHomeless_11 : decode cX0_forgetHomeless 11 = .ok (.istore_n 2, 1) := by decide +kernel
theorem dX0_forgetHomeless_12 : decode cX0_forgetHomeless 12 = .ok (.iconst 0, 1) := by decide +kernel
theorem dX0_forgetHomeless_13 : decode cX0_forgetHomeless 13 = .ok (.istore_n 3, 1) := by decide +kernel
theorem dX0_forgetHomeless_14 : decode cX0_forgetHomeless 14 = .ok (.iload_n 3, 1) := by decide +kernel
theorem dX0_forgetHomeless_15 : decode cX0_forgetHomeless 15 = .ok (.bipush 30, 2) := by decide +kernel
theorem dX0_forgetHomeless_17 : decode cX0_forgetHomeless 17 = .ok (.if_icmp .ge 75, 3) := by decide +kernel
theorem dX0_forgetHomeless_20 : decode cX0_forgetHomeless 20 = .ok (.iload_n 2, 1) := by decide +kernel
theorem dX0_forgetHomeless_21 : decode cX0_forgetHomeless 21 = .ok (.ifCond .eq 71, 3) := by decide +kernel
theorem dX0_forgetHomeless_24 : decode cX0_forgetHomeless 24 = .ok (.iconst 0, 1) := by decide +kernel
theorem dX0_forgetHomeless_25 : decode cX0_forgetHomeless 25 = .ok (.istore_n 2, 1) := by decide +kernel
theorem dX0_forgetHomeless_26 : decode cX0_forgetHomeless 26 = .ok (.iconst 0, 1) := by decide +kernel
theorem dX0_forgetHomeless_27 : decode cX0_forgetHomeless 27 = .ok (.istore 4, 2) := by decide +kernel
theorem dX0_forgetHomeless_29 : decode cX0_forgetHomeless 29 = .ok (.iload 4, 2) := by decide +kernel
theorem dX0_forgetHomeless_31 : decode cX0_forgetHomeless 31 = .ok (.aload_n 0, 1) := by decide +kernel
theorem dX0_forgetHomeless_32 : decode cX0_forgetHomeless 32 = .ok (.getfield 27, 3) := by decide +kernel
theorem dX0_forgetHomeless_35 : decode cX0_forgetHomeless 35 = .ok (.if_icmp .ge 51, 3) := by decide +kernel
theorem dX0_forgetHomeless_38 : decode cX0_forgetHomeless 38 = .ok (.aload_n 1, 1) := by decide +kernel
theorem dX0_forgetHomeless_39 : decode cX0_forgetHomeless 39 = .ok (.iload 4, 2) := by decide +kernel
theorem dX0_forgetHomeless_41 : decode cX0_forgetHomeless 41 = .ok (.invokevirtual 72, 3) := by decide +kernel
theorem dX0_forgetHomeless_44 : decode cX0_forgetHomeless 44 = .ok (.ifCond .eq 36, 3) := by decide +kernel
theorem dX0_forgetHomeless_47 : decode cX0_forgetHomeless 47 = .ok (.aload_n 1, 1) := by decide +kernel
theorem dX0_forgetHomeless_48 : decode cX0_forgetHomeless 48 = .ok (.getfield 69, 3) := by decide +kernel
theorem dX0_forgetHomeless_51 : decode cX0_forgetHomeless 51 = .ok (.iload 4, 2) := by decide +kernel
theorem dX0_forgetHomeless_53 : decode cX0_forgetHomeless 53 = .ok (.iaload, 1) := by decide +kernel
theorem dX0_forgetHomeless_54 : decode cX0_forgetHomeless 54 = .ok (.iconst (-1), 1) := by decide +kernel
theorem dX0_forgetHomeless_55 : decode cX0_forgetHomeless 55 = .ok (.if_icmp .eq 25, 3) := by decide +kernel
theorem dX0_forgetHomeless_58 : decode cX0_forgetHomeless 58 = .ok (.aload_n 1, 1) := by decide +kernel
theorem dX0_forgetHomeless_59 : decode cX0_forgetHomeless 59 = .ok (.aload_n 1, 1) := by decide +kernel
theorem dX0_forgetHomeless_60 : decode cX0_forgetHomeless 60 = .ok (.getfield 69, 3) := by decide +kernel
theorem dX0_forgetHomeless_63 : decode cX0_forgetHomeless 63 = .ok (.iload 4, 2) := by decide +kernel
theorem dX0_forgetHomeless_65 : decode cX0_forgetHomeless 65 = .ok (.iaload, 1) := by decide +kernel
theorem dX0_forgetHomeless_66 : decode cX0_forgetHomeless 66 = .ok (.invokevirtual 72, 3) := by decide +kernel
theorem dX0_forgetHomeless_69 : decode cX0_forgetHomeless 69 = .ok (.ifCond .ne 11, 3) := by decide +kernel
theorem dX0_forgetHomeless_72 : decode cX0_forgetHomeless 72 = .ok (.aload_n 1, 1) := by decide +kernel
theorem dX0_forgetHomeless_73 : decode cX0_forgetHomeless 73 = .ok (.iload 4, 2) := by decide +kernel
theorem dX0_forgetHomeless_75 : decode cX0_forgetHomeless 75 = .ok (.invokevirtual 165, 3) := by decide +kernel
theorem dX0_forgetHomeless_78 : decode cX0_forgetHomeless 78 = .ok (.iconst 1, 1) := by decide +kernel
theorem dX0_forgetHomeless_79 : decode cX0_forgetHomeless 79 = .ok (.istore_n 2, 1) := by decide +kernel
theorem dX0_forgetHomeless_80 : decode cX0_forgetHomeless 80 = .ok (.iinc 4 1, 3) := by decide +kernel
theorem dX0_forgetHomeless_83 : decode cX0_forgetHomeless 83 = .ok (.goto (-54), 3) := by decide +kernel
theorem dX0_forgetHomeless_86 : decode cX0_forgetHomeless 86 = .ok (.iinc 3 1, 3) := by decide +kernel
theorem dX0_forgetHomeless_89 : decode cX0_forgetHomeless 89 = .ok (.goto (-75), 3) := by decide +kernel
theorem dX0_forgetHomeless_92 : decode cX0_forgetHomeless 92 = .ok (.return_, 1) := by decide +kernel
theorem dX1_init_0 : decode cX1_init 0 = .ok (.aload_n 0, 1) := by decide +kernel
theorem dX1_init_1 : decode cX1_init 1 = .ok (.invokespecial 3, 3) := by decide +kernel
theorem dX1_init_4 : decode cX1_init 4 = .ok (.aload_n 0, 1) := by decide +kernel
theorem dX1_init_5 : decode cX1_init 5 = .ok (.bipush 8, 2) := by decide +kernel
theorem dX1_init_7 : decode cX1_init 7 = .ok (.newarray .int, 2) := by decide +kernel
theorem dX1_init_9 : decode cX1_init 9 = .ok (.putfield 9, 3) := by decide +kernel
theorem dX1_init_12 : decode cX1_init 12 = .ok (.return_, 1) := by decide +kernel
theorem dX1_longestFit_0 : decode cX1_longestFit 0 = .ok (.aload_n 0, 1) := by decide +kernel
theorem dX1_longestFit_1 : decode cX1_longestFit 1 = .ok (.iconst 1, 1) := by decide +kernel
theorem dX1_longestFit_2 : decode cX1_longestFit 2 = .ok (.invokevirtual 15, 3) := by decide +kernel
theorem dX1_longestFit_5 : decode cX1_longestFit 5 = .ok (.istore_n 3, 1) := by decide +kernel
theorem dX1_longestFit_6 : decode cX1_longestFit 6 = .ok (.iconst 0, 1) := by decide +kernel
theorem dX1_longestFit_7 : decode cX1_longestFit 7 = .ok (.istore 4, 2) := by decide +kernel
theorem dX1_longestFit_9 : decode cX1_longestFit 9 = .ok (.iconst 0, 1) := by decide +kernel
theorem dX1_longestFit_10 : decode cX1_longestFit 10 = .ok (.istore 5, 2) := by decide +kernel
theorem dX1_longestFit_12 : decode cX1_longestFit 12 = .ok (.iload 5, 2) := by decide +kernel
theorem dX1_longestFit_14 : decode cX1_longestFit 14 = .ok (.iload_n 2, 1) := by decide +kernel
theorem dX1_longestFit_15 : decode cX1_longestFit 15 = .ok (.if_icmp .ge 47, 3) := by decide +kernel
theorem dX1_longestFit_18 : decode cX1_longestFit 18 = .ok (.iload 5, 2) := by decide +kernel
theorem dX1_longestFit_20 : decode cX1_longestFit 20 = .ok (.aload_n 1, 1) := by decide +kernel
theorem dX1_longestFit_21 : decode cX1_longestFit 21 = .ok (.arraylength, 1) := by decide +kernel
theorem dX1_longestFit_22 : decode cX1_longestFit 22 = .ok (.if_icmp .ge 40, 3) := by decide +kernel
theorem dX1_longestFit_25 : decode cX1_longestFit 25 = .ok (.aload_n 0, 1) := by decide +kernel
theorem dX1_longestFit_26 : decode cX1_longestFit 26 = .ok (.aload_n 0, 1) := by decide +kernel
theorem dX1_longestFit_27 : decode cX1_longestFit 27 = .ok (.iload_n 3, 1) := by decide +kernel
theorem dX1_longestFit_28 : decode cX1_longestFit 28 = .ok (.aload_n 1, 1) := by decide +kernel
theorem dX1_longestFit_29 : decode cX1_longestFit 29 = .ok (.iload 5, 2) := by decide +kernel
theorem dX1_longestFit_31 : decode cX1_longestFit 31 = .ok (.iaload, 1) := by decide +kernel
theorem dX1_longestFit_32 : decode cX1_longestFit 32 = .ok (.invokevirtual 19, 3) := by decide +kernel
theorem dX1_longestFit_35 : decode cX1_longestFit 35 = .ok (.invokevirtual 15, 3) := by decide +kernel
theorem dX1_longestFit_38 : decode cX1_longestFit 38 = .ok (.istore_n 3, 1) := by decide +kernel
theorem dX1_longestFit_39 : decode cX1_longestFit 39 = .ok (.iload_n 3, 1) := by decide +kernel
theorem dX1_longestFit_40 : decode cX1_longestFit 40 = .ok (.iconst 1, 1) := by decide +kernel
theorem dX1_longestFit_41 : decode cX1_longestFit 41 = .ok (.aload_n 0, 1) := by decide +kernel
theorem dX1_longestFit_42 : decode cX1_longestFit 42 = .ok (.getfield 23, 3) := by decide +kernel
theorem dX1_longestFit_45 : decode cX1_longestFit 45 = .ok (.ishl, 1) := by decide +kernel
theorem dX1_longestFit_46 : decode cX1_longestFit 46 = .ok (.iand, 1) := by decide +kernel
theorem dX1_longestFit_47 : decode cX1_longestFit 47 = .ok (.ifCond .eq 9, 3) := by decide +kernel
theorem dX1_longestFit_50 : decode cX1_longestFit 50 = .ok (.iload 5, 2) := by decide +kernel
theorem dX1_longestFit_52 : decode cX1_longestFit 52 = .ok (.iconst 1, 1) := by decide +kernel
theorem dX1_longestFit_53 : decode cX1_longestFit 53 = .ok (.iadd, 1) := by decide +kernel
theorem dX1_longestFit_54 : decode cX1_longestFit 54 = .ok (.istore 4, 2) := by decide +kernel
theorem dX1_longestFit_56 : decode cX1_longestFit 56 = .ok (.iinc 5 1, 3) := by decide +kernel
theorem dX1_longestFit_59 : decode cX1_longestFit 59 = .ok (.goto (-47), 3) := by decide +kernel
theorem dX1_longestFit_62 : decode cX1_longestFit 62 = .ok (.iload 4, 2) := by decide +kernel
theorem dX1_longestFit_64 : decode cX1_longestFit 64 = .ok (.ireturn, 1) := by decide +kernel
theorem dX1_afterName_0 : decode cX1_afterName 0 = .ok (.iconst 0, 1) := by decide +kernel
theorem dX1_afterName_1 : decode cX1_afterName 1 = .ok (.istore_n 3, 1) := by decide +kernel
theorem dX1_afterName_2 : decode cX1_afterName 2 = .ok (.iconst 0, 1) := by decide +kernel
theorem dX1_afterName_3 : decode cX1_afterName 3 = .ok (.istore 4, 2) := by decide +kernel
theorem dX1_afterName_5 : decode cX1_afterName 5 = .ok (.iload 4, 2) := by decide +kernel
theorem dX1_afterName_7 : decode cX1_afterName 7 = .ok (.aload_n 0, 1) := by decide +kernel
theorem dX1_afterName_8 : decode cX1_afterName 8 = .ok (.getfield 23, 3) := by decide +kernel
theorem dX1_afterName_11 : decode cX1_afterName 11 = .ok (.if_icmp .ge 74, 3) := by decide +kernel
theorem dX1_afterName_14 : decode cX1_afterName 14 = .ok (.iload_n 1, 1) := by decide +kernel
theorem dX1_afterName_15 : decode cX1_afterName 15 = .ok (.iconst 1, 1) := by decide +kernel
theorem dX1_afterName_16 : decode cX1_afterName 16 = .ok (.iload 4, 2) := by decide +kernel
theorem dX1_afterName_18 : decode cX1_afterName 18 = .ok (.ishl, 1) := by decide +kernel
theorem dX1_afterName_19 : decode cX1_afterName 19 = .ok (.iand, 1) := by decide +kernel
theorem dX1_afterName_20 : decode cX1_afterName 20 = .ok (.ifCond .ne 6, 3) := by decide +kernel
theorem dX1_afterName_23 : decode cX1_afterName 23 = .ok (.goto 56, 3) := by decide +kernel
theorem dX1_afterName_26 : decode cX1_afterName 26 = .ok (.aload_n 0, 1) := by decide +kernel
theorem dX1_afterName_27 : decode cX1_afterName 27 = .ok (.getfield 9, 3) := by decide +kernel
theorem dX1_afterName_30 : decode cX1_afterName 30 = .ok (.iload 4, 2) := by decide +kernel
theorem dX1_afterName_32 : decode cX1_afterName 32 = .ok (.iaload, 1) := by decide +kernel
theorem dX1_afterName_33 : decode cX1_afterName 33 = .ok (.bipush (-2), 2) := by decide +kernel
theorem dX1_afterName_35 : decode cX1_afterName 35 = .ok (.if_icmp .ne 13, 3) := by decide +kernel
theorem dX1_afterName_38 : decode cX1_afterName 38 = .ok (.iload_n 3, 1) := by decide +kernel
theorem dX1_afterName_39 : decode cX1_afterName 39 = .ok (.iconst 1, 1) := by decide +kernel
theorem dX1_afterName_40 : decode cX1_afterName 40 = .ok (.iload 4, 2) := by decide +kernel
theorem dX1_afterName_42 : decode cX1_afterName 42 = .ok (.ishl, 1) := by decide +kernel
theorem dX1_afterName_43 : decode cX1_afterName 43 = .ok (.ior, 1) := by decide +kernel
theorem dX1_afterName_44 : decode cX1_afterName 44 = .ok (.istore_n 3, 1) := by decide +kernel
theorem dX1_afterName_45 : decode cX1_afterName 45 = .ok (.goto 34, 3) := by decide +kernel
theorem dX1_afterName_48 : decode cX1_afterName 48 = .ok (.aload_n 0, 1) := by decide +kernel
theorem dX1_afterName_49 : decode cX1_afterName 49 = .ok (.getfield 9, 3) := by decide +kernel
theorem dX1_afterName_52 : decode cX1_afterName 52 = .ok (.iload 4, 2) := by decide +kernel
theorem dX1_afterName_54 : decode cX1_afterName 54 = .ok (.iaload, 1) := by decide +kernel
theorem dX1_afterName_55 : decode cX1_afterName 55 = .ok (.iconst (-1), 1) := by decide +kernel
theorem dX1_afterName_56 : decode cX1_afterName 56 = .ok (.if_icmp .eq 14, 3) := by decide +kernel
theorem dX1_afterName_59 : decode cX1_afterName 59 = .ok (.aload_n 0, 1) := by decide +kernel
theorem dX1_afterName_60 : decode cX1_afterName 60 = .ok (.getfield 9, 3) := by decide +kernel
theorem dX1_afterName_63 : decode cX1_afterName 63 = .ok (.iload 4, 2) := by decide +kernel
theorem dX1_afterName_65 : decode cX1_afterName 65 = .ok (.iaload, 1) := by decide +kernel
theorem dX1_afterName_66 : decode cX1_afterName 66 = .ok (.iload_n 2, 1) := by decide +kernel
theorem dX1_afterName_67 : decode cX1_afterName 67 = .ok (.if_icmp .ne 12, 3) := by decide +kernel
theorem dX1_afterName_70 : decode cX1_afterName 70 = .ok (.iload_n 3, 1) := by decide +kernel
theorem dX1_afterName_71 : decode cX1_afterName 71 = .ok (.iconst 1, 1) := by decide +kernel
theorem dX1_afterName_72 : decode cX1_afterName 72 = .ok (.iload 4, 2) := by decide +kernel
theorem dX1_afterName_74 : decode cX1_afterName 74 = .ok (.iconst 1, 1) := by decide +kernel
theorem dX1_afterName_75 : decode cX1_afterName 75 = .ok (.iadd, 1) := by decide +kernel
theorem dX1_afterName_76 : decode cX1_afterName 76 = .ok (.ishl, 1) := by decide +kernel
theorem dX1_afterName_77 : decode cX1_afterName 77 = .ok (.ior, 1) := by decide +kernel
theorem dX1_afterName_78 : decode cX1_afterName 78 = .ok (.istore_n 3, 1) := by decide +kernel
theorem dX1_afterName_79 : decode cX1_afterName 79 = .ok (.iinc 4 1, 3) := by decide +kernel
theorem dX1_afterName_82 : decode cX1_afterName 82 = .ok (.goto (-77), 3) := by decide +kernel
theorem dX1_afterName_85 : decode cX1_afterName 85 = .ok (.iload_n 3, 1) := by decide +kernel
theorem dX1_afterName_86 : decode cX1_afterName 86 = .ok (.ireturn, 1) := by decide +kernel
theorem dX1_passMany_0 : decode cX1_passMany 0 = .ok (.iload_n 1, 1) := by decide +kernel
theorem dX1_passMany_1 : decode cX1_passMany 1 = .ok (.istore_n 2, 1) := by decide +kernel
theorem dX1_passMany_2 : decode cX1_passMany 2 = .ok (.iconst 0, 1) := by decide +kernel
theorem dX1_passMany_3 : decode cX1_passMany 3 = .ok (.istore_n 3, 1) := by decide +kernel
theorem dX1_passMany_4 : decode cX1_passMany 4 = .ok (.iload_n 3, 1) := by decide +kernel
theorem dX1_passMany_5 : decode cX1_passMany 5 = .ok (.aload_n 0, 1) := by decide +kernel
theorem dX1_passMany_6 : decode cX1_passMany 6 = .ok (.getfield 23, 3) := by decide +kernel
theorem dX1_passMany_9 : decode cX1_passMany 9 = .ok (.if_icmp .ge 36, 3) := by decide +kernel
theorem dX1_passMany_12 : decode cX1_passMany 12 = .ok (.iload_n 2, 1) := by decide +kernel
theorem dX1_passMany_13 : decode cX1_passMany 13 = .ok (.iconst 1, 1) := by decide +kernel
theorem dX1_passMany_14 : decode cX1_passMany 14 = .ok (.iload_n 3, 1) := by decide +kernel
theorem dX1_passMany_15 : decode cX1_passMany 15 = .ok (.ishl, 1) := by decide +kernel
theorem dX1_passMany_16 : decode cX1_passMany 16 = .ok (.iand, 1) := by decide +kernel
theorem dX1_passMany_17 : decode cX1_passMany 17 = .ok (.ifCond .eq 22, 3) := by decide +kernel
theorem dX1_passMany_20 : decode cX1_passMany 20 = .ok (.aload_n 0, 1) := by decide +kernel
theorem dX1_passMany_21 : decode cX1_passMany 21 = .ok (.getfield 9, 3) := by decide +kernel
theorem dX1_passMany_24 : decode cX1_passMany 24 = .ok (.iload_n 3, 1) := by decide +kernel
theorem dX1_passMany_25 : decode cX1_passMany 25 = .ok (.iaload, 1) := by decide +kernel
theorem dX1_passMany_26 : decode cX1_passMany 26 = .ok (.bipush (-2), 2) := by decide +kernel
theorem dX1_passMany_28 : decode cX1_passMany 28 = .ok (.if_icmp .ne 11, 3) := by decide +kernel
theorem dX1_passMany_31 : decode cX1_passMany 31 = .ok (.iload_n 2, 1) := by decide +kernel
theorem dX1_passMany_32 : decode cX1_passMany 32 = .ok (.iconst 1, 1) := by decide +kernel
theorem dX1_passMany_33 : decode cX1_passMany 33 = .ok (.iload_n 3, 1) := by decide +kernel
theorem dX1_passMany_34 : decode cX1_passMany 34 = .ok (.iconst 1, 1) := by decide +kernel
theorem dX1_passMany_35 : decode cX1_passMany 35 = .ok (.iadd, 1) := by decide +kernel
theorem dX1_passMany_36 : decode cX1_passMany 36 = .ok (.ishl, 1) := by decide +kernel
theorem dX1_passMany_37 : decode cX1_passMany 37 = .ok (.ior, 1) := by decide +kernel
theorem dX1_passMany_38 : decode cX1_passMany 38 = .ok (.istore_n 2, 1) := by decide +kernel
theorem dX1_passMany_39 : decode cX1_passMany 39 = .ok (.iinc 3 1, 3) := by decide +kernel
theorem dX1_passMany_42 : decode cX1_passMany 42 = .ok (.goto (-38), 3) := by decide +kernel
theorem dX1_passMany_45 : decode cX1_passMany 45 = .ok (.iload_n 2, 1) := by decide +kernel
theorem dX1_passMany_46 : decode cX1_passMany 46 = .ok (.ireturn, 1) := by decide +kernel
theorem dX1_become_0 : decode cX1_become 0 = .ok (.aload_n 1, 1) := by decide +kernel
theorem dX1_become_1 : decode cX1_become 1 = .ok (.getfield 9, 3) := by decide +kernel
theorem dX1_become_4 : decode cX1_become 4 = .ok (.iconst 0, 1) := by decide +kernel
theorem dX1_become_5 : decode cX1_become 5 = .ok (.aload_n 0, 1) := by decide +kernel
theorem dX1_become_6 : decode cX1_become 6 = .ok (.getfield 9, 3) := by decide +kernel
theorem dX1_become_9 : decode cX1_become 9 = .ok (.iconst 0, 1) := by decide +kernel
theorem dX1_become_10 : decode cX1_become 10 = .ok (.bipush 8, 2) := by decide +kernel
theorem dX1_become_12 : decode cX1_become 12 = .ok (.invokestatic 27, 3) := by decide +kernel
theorem dX1_become_15 : decode cX1_become 15 = .ok (.aload_n 0, 1) := by decide +kernel
theorem dX1_become_16 : decode cX1_become 16 = .ok (.aload_n 1, 1) := by decide +kernel
theorem dX1_become_17 : decode cX1_become 17 = .ok (.getfield 23, 3) := by decide +kernel
theorem dX1_become_20 : decode cX1_become 20 = .ok (.putfield 23, 3) := by decide +kernel
theorem dX1_become_23 : decode cX1_become 23 = .ok (.aload_n 0, 1) := by decide +kernel
theorem dX1_become_24 : decode cX1_become 24 = .ok (.aload_n 1, 1) := by decide +kernel
theorem dX1_become_25 : decode cX1_become 25 = .ok (.getfield 33, 3) := by decide +kernel
theorem dX1_become_28 : decode cX1_become 28 = .ok (.putfield 33, 3) := by decide +kernel
theorem dX1_become_31 : decode cX1_become 31 = .ok (.return_, 1) := by decide +kernel
theorem dX2_init_0 : decode cX2_init 0 = .ok (.aload_n 0, 1) := by decide +kernel
theorem dX2_init_1 : decode cX2_init 1 = .ok (.invokespecial 3, 3) := by decide +kernel
theorem dX2_init_4 : decode cX2_init 4 = .ok (.aload_n 0, 1) := by decide +kernel
theorem dX2_init_5 : decode cX2_init 5 = .ok (.bipush 120, 2) := by decide +kernel
theorem dX2_init_7 : decode cX2_init 7 = .ok (.newarray .int, 2) := by decide +kernel
theorem dX2_init_9 : decode cX2_init 9 = .ok (.putfield 9, 3) := by decide +kernel
theorem dX2_init_12 : decode cX2_init 12 = .ok (.aload_n 0, 1) := by decide +kernel
theorem dX2_init_13 : decode cX2_init 13 = .ok (.bipush 120, 2) := by decide +kernel
theorem dX2_init_15 : decode cX2_init 15 = .ok (.newarray .int, 2) := by decide +kernel
theorem dX2_init_17 : decode cX2_init 17 = .ok (.putfield 15, 3) := by decide +kernel
theorem dX2_init_20 : decode cX2_init 20 = .ok (.aload_n 0, 1) := by decide +kernel
theorem dX2_init_21 : decode cX2_init 21 = .ok (.bipush 30, 2) := by decide +kernel
theorem dX2_init_23 : decode cX2_init 23 = .ok (.newarray .boolean, 2) := by decide +kernel
theorem dX2_init_25 : decode cX2_init 25 = .ok (.putfield 18, 3) := by decide +kernel
theorem dX2_init_28 : decode cX2_init 28 = .ok (.aload_n 0, 1) := by decide +kernel
theorem dX2_init_29 : decode cX2_init 29 = .ok (.bipush 30, 2) := by decide +kernel
theorem dX2_init_31 : decode cX2_init 31 = .ok (.newarray .int, 2) := by decide +kernel
theorem dX2_init_33 : decode cX2_init 33 = .ok (.putfield 22, 3) := by decide +kernel
theorem dX2_init_36 : decode cX2_init 36 = .ok (.aload_n 0, 1) := by decide +kernel
theorem dX2_init_37 : decode cX2_init 37 = .ok (.iconst 0, 1) := by decide +kernel
theorem dX2_init_38 : decode cX2_init 38 = .ok (.putfield 25, 3) := by decide +kernel
theorem dX2_init_41 : decode cX2_init 41 = .ok (.return_, 1) := by decide +kernel
theorem dX2_lay_0 : decode cX2_lay 0 = .ok (.aload_n 1, 1) := by decide +kernel
theorem dX2_lay_1 : decode cX2_lay 1 = .ok (.getfield 29, 3) := by decide +kernel
theorem dX2_lay_4 : decode cX2_lay 4 = .ok (.getfield 35, 3) := by decide +kernel
theorem dX2_lay_7 : decode cX2_lay 7 = .ok (.iload_n 2, 1) := by decide +kernel
theorem dX2_lay_8 : decode cX2_lay 8 = .ok (.aaload, 1) := by decide +kernel
theorem dX2_lay_9 : decode cX2_lay 9 = .ok (.astore_n 3, 1) := by decide +kernel
theorem dX2_lay_10 : decode cX2_lay 10 = .ok (.aload_n 1, 1) := by decide +kernel
theorem dX2_lay_11 : decode cX2_lay 11 = .ok (.getfield 41, 3) := by decide +kernel
theorem dX2_lay_14 : decode cX2_lay 14 = .ok (.astore 4, 2) := by decide +kernel
theorem dX2_lay_16 : decode cX2_lay 16 = .ok (.aload_n 0, 1) := by decide +kernel
theorem dX2_lay_17 : decode cX2_lay 17 = .ok (.iconst 0, 1) := by decide +kernel
theorem dX2_lay_18 : decode cX2_lay 18 = .ok (.putfield 25, 3) := by decide +kernel
theorem dX2_lay_21 : decode cX2_lay 21 = .ok (.iconst 0, 1) := by decide +kernel
theorem dX2_lay_22 : decode cX2_lay 22 = .ok (.istore 5, 2) := by decide +kernel
theorem dX2_lay_24 : decode cX2_lay 24 = .ok (.iload 5, 2) := by decide +kernel
theorem dX2_lay_26 : decode cX2_lay 26 = .ok (.bipush 30, 2) := by decide +kernel
theorem dX2_lay_28 : decode cX2_lay 28 = .ok (.if_icmp .ge 92, 3) := by decide +kernel
theorem dX2_lay_31 : decode cX2_lay 31 = .ok (.aload_n 0, 1) := by decide +kernel
theorem dX2_lay_32 : decode cX2_lay 32 = .ok (.getfield 22, 3) := by decide +kernel
theorem dX2_lay_35 : decode cX2_lay 35 = .ok (.iload 5, 2) := by decide +kernel
theorem dX2_lay_37 : decode cX2_lay 37 = .ok (.aload 4, 2) := by decide +kernel
theorem dX2_lay_39 : decode cX2_lay 39 = .ok (.iload 5, 2) := by decide +kernel
theorem dX2_lay_41 : decode cX2_lay 41 = .ok (.invokevirtual 45, 3) := by decide +kernel
theorem dX2_lay_44 : decode cX2_lay 44 = .ok (.iastore, 1) := by decide +kernel
theorem dX2_lay_45 : decode cX2_lay 45 = .ok (.aload_n 0, 1) := by decide +kernel
theorem dX2_lay_46 : decode cX2_lay 46 = .ok (.getfield 18, 3) := by decide +kernel
theorem dX2_lay_49 : decode cX2_lay 49 = .ok (.iload 5, 2) := by decide +kernel
theorem dX2_lay_51 : decode cX2_lay 51 = .ok (.aload_n 3, 1) := by decide +kernel
theorem dX2_lay_52 : decode cX2_lay 52 = .ok (.iload 5, 2) := by decide +kernel
theorem dX2_lay_54 : decode cX2_lay 54 = .ok (.invokevirtual 51, 3) := by decide +kernel
theorem dX2_lay_57 : decode cX2_lay 57 = .ok (.ifCond .eq 38, 3) := by decide +kernel
theorem dX2_lay_60 : decode cX2_lay 60 = .ok (.aload_n 1, 1) := by decide +kernel
theorem dX2_lay_61 : decode cX2_lay 61 = .ok (.getfield 55, 3) := by decide +kernel
theorem dX2_lay_64 : decode cX2_lay 64 = .ok (.iload 5, 2) := by decide +kernel
theorem dX2_lay_66 : decode cX2_lay 66 = .ok (.baload, 1) := by decide +kernel
theorem dX2_lay_67 : decode cX2_lay 67 = .ok (.ifCond .ne 28, 3) := by decide +kernel
theorem dX2_lay_70 : decode cX2_lay 70 = .ok (.aload 4, 2) := by decide +kernel
theorem dX2_lay_72 : decode cX2_lay 72 = .ok (.iload 5, 2) := by decide +kernel
theorem dX2_lay_74 : decode cX2_lay 74 = .ok (.invokevirtual 51, 3) := by decide +kernel
theorem dX2_lay_77 : decode cX2_lay 77 = .ok (.ifCond .eq 14, 3) := by decide +kernel
theorem dX2_lay_80 : decode cX2_lay 80 = .ok (.aload_n 3, 1) := by decide +kernel
theorem dX2_lay_81 : decode cX2_lay 81 = .ok (.aload 4, 2) := by decide +kernel
theorem dX2_lay_83 : decode cX2_lay 83 = .ok (.iload 5, 2) := by decide +kernel
theorem dX2_lay_85 : decode cX2_lay 85 = .ok (.invokevirtual 58, 3) := by decide +kernel
theorem dX2_lay_88 : decode cX2_lay 88 = .ok (.ifCond .ne 7, 3) := by decide +kernel
theorem dX2_lay_91 : decode cX2_lay 91 = .ok (.iconst 1, 1) := by decide +kernel
theorem dX2_lay_92 : decode cX2_lay 92 = .ok (.goto 4, 3) := by decide +kernel
theorem dX2_lay_95 : decode cX2_lay 95 = .ok (.iconst 0, 1) := by decide +kernel
theorem dX2_lay_96 : decode cX2_lay 96 = .ok (.bastore, 1) := by decide +kernel
theorem dX2_lay_97 : decode cX2_lay 97 = .ok (.aload_n 0, 1) := by decide +kernel
theorem dX2_lay_98 : decode cX2_lay 98 = .ok (.getfield 18, 3) := by decide +kernel
theorem dX2_lay_101 : decode cX2_lay 101 = .ok (.iload 5, 2) := by decide +kernel
theorem dX2_lay_103 : decode cX2_lay 103 = .ok (.baload, 1) := by decide +kernel
theorem dX2_lay_104 : decode cX2_lay 104 = .ok (.ifCond .eq 10, 3) := by decide +kernel
theorem dX2_lay_107 : decode cX2_lay 107 = .ok (.aload_n 0, 1) := by decide +kernel
theorem dX2_lay_108 : decode cX2_lay 108 = .ok (.iconst 0, 1) := by decide +kernel
theorem dX2_lay_109 : decode cX2_lay 109 = .ok (.iload 5, 2) := by decide +kernel
theorem dX2_lay_111 : decode cX2_lay 111 = .ok (.invokevirtual 62, 3) := by decide +kernel
theorem dX2_lay_114 : decode cX2_lay 114 = .ok (.iinc 5 1, 3) := by decide +kernel
theorem dX2_lay_117 : decode cX2_lay 117 = .ok (.goto (-93), 3) := by decide +kernel
theorem dX2_lay_120 : decode cX2_lay 120 = .ok (.iconst 0, 1) := by decide +kernel
theorem dX2_lay_121 : decode cX2_lay 121 = .ok (.istore 5, 2) := by decide +kernel
theorem dX2_lay_123 : decode cX2_lay 123 = .ok (.iload 5, 2) := by decide +kernel
theorem dX2_lay_125 : decode cX2_lay 125 = .ok (.bipush 30, 2) := by decide +kernel
theorem dX2_lay_127 : decode cX2_lay 127 = .ok (.if_icmp .ge 16, 3) := by decide +kernel
theorem dX2_lay_130 : decode cX2_lay 130 = .ok (.aload_n 0, 1) := by decide +kernel
theorem dX2_lay_131 : decode cX2_lay 131 = .ok (.aload_n 3, 1) := by decide +kernel
theorem dX2_lay_132 : decode cX2_lay 132 = .ok (.iload 5, 2) := by decide +kernel
theorem dX2_lay_134 : decode cX2_lay 134 = .ok (.invokevirtual 66, 3) := by decide +kernel
theorem dX2_lay_137 : decode cX2_lay 137 = .ok (.iinc 5 1, 3) := by decide +kernel
theorem dX2_lay_140 : decode cX2_lay 140 = .ok (.goto (-17), 3) := by decide +kernel
theorem dX2_lay_143 : decode cX2_lay 143 = .ok (.iconst 0, 1) := by decide +kernel
theorem dX2_lay_144 : decode cX2_lay 144 = .ok (.istore 5, 2) := by decide +kernel
theorem dX2_lay_146 : decode cX2_lay 146 = .ok (.iload 5, 2) := by decide +kernel
theorem dX2_lay_148 : decode cX2_lay 148 = .ok (.bipush 30, 2) := by decide +kernel
theorem dX2_lay_150 : decode cX2_lay 150 = .ok (.if_icmp .ge 46, 3) := by decide +kernel
theorem dX2_lay_153 : decode cX2_lay 153 = .ok (.aload 4, 2) := by decide +kernel
theorem dX2_lay_155 : decode cX2_lay 155 = .ok (.iload 5, 2) := by decide +kernel
theorem dX2_lay_157 : decode cX2_lay 157 = .ok (.invokevirtual 51, 3) := by decide +kernel
theorem dX2_lay_160 : decode cX2_lay 160 = .ok (.ifCond .eq 30, 3) := by decide +kernel
theorem dX2_lay_163 : decode cX2_lay 163 = .ok (.aload_n 3, 1) := by decide +kernel
theorem dX2_lay_164 : decode cX2_lay 164 = .ok (.iload 5, 2) := by decide +kernel
theorem dX2_lay_166 : decode cX2_lay 166 = .ok (.invokevirtual 51, 3) := by decide +kernel
theorem dX2_lay_169 : decode cX2_lay 169 = .ok (.ifCond .eq 21, 3) := by decide +kernel
theorem dX2_lay_172 : decode cX2_lay 172 = .ok (.aload_n 3, 1) := by decide +kernel
theorem dX2_lay_173 : decode cX2_lay 173 = .ok (.aload 4, 2) := by decide +kernel
theorem dX2_lay_175 : decode cX2_lay 175 = .ok (.iload 5, 2) := by decide +kernel
theorem dX2_lay_177 : decode cX2_lay 177 = .ok (.invokevirtual 70, 3) := by decide +kernel
theorem dX2_lay_180 : decode cX2_lay 180 = .ok (.ifCond .ne 10, 3) := by decide +kernel
theorem dX2_lay_183 : decode cX2_lay 183 = .ok (.aload_n 0, 1) := by decide +kernel
theorem dX2_lay_184 : decode cX2_lay 184 = .ok (.iconst 3, 1) := by decide +kernel
theorem dX2_lay_185 : decode cX2_lay 185 = .ok (.iload 5, 2) := by decide +kernel
theorem dX2_lay_187 : decode cX2_lay 187 = .ok (.invokevirtual 62, 3) := by decide +kernel
theorem dX2_lay_190 : decode cX2_lay 190 = .ok (.iinc 5 1, 3) := by decide +kernel
theorem dX2_lay_193 : decode cX2_lay 193 = .ok (.goto (-47), 3) := by decide +kernel
theorem dX2_lay_196 : decode cX2_lay 196 = .ok (.bipush 29, 2) := by decide +kernel
theorem dX2_lay_198 : decode cX2_lay 198 = .ok (.istore 5, 2) := by decide +kernel
theorem dX2_lay_200 : decode cX2_lay 200 = .ok (.iload 5, 2) := by decide +kernel
theorem dX2_lay_202 : decode cX2_lay 202 = .ok (.ifCond .lt 36, 3) := by decide +kernel
theorem dX2_lay_205 : decode cX2_lay 205 = .ok (.aload_n 0, 1) := by decide +kernel
theorem dX2_lay_206 : decode cX2_lay 206 = .ok (.getfield 18, 3) := by decide +kernel
theorem dX2_lay_209 : decode cX2_lay 209 = .ok (.iload 5, 2) := by decide +kernel
theorem dX2_lay_211 : decode cX2_lay 211 = .ok (.baload, 1) := by decide +kernel
theorem dX2_lay_212 : decode cX2_lay 212 = .ok (.ifCond .eq 20, 3) := by decide +kernel
theorem dX2_lay_215 : decode cX2_lay 215 = .ok (.aload 4, 2) := by decide +kernel
theorem dX2_lay_217 : decode cX2_lay 217 = .ok (.iload 5, 2) := by decide +kernel
theorem dX2_lay_219 : decode cX2_lay 219 = .ok (.invokevirtual 51, 3) := by decide +kernel
theorem dX2_lay_222 : decode cX2_lay 222 = .ok (.ifCond .ne 10, 3) := by decide +kernel
theorem dX2_lay_225 : decode cX2_lay 225 = .ok (.aload_n 0, 1) := by decide +kernel
theorem dX2_lay_226 : decode cX2_lay 226 = .ok (.iconst 4, 1) := by decide +kernel
theorem dX2_lay_227 : decode cX2_lay 227 = .ok (.iload 5, 2) := by decide +kernel
theorem dX2_lay_229 : decode cX2_lay 229 = .ok (.invokevirtual 62, 3) := by decide +kernel
theorem dX2_lay_232 : decode cX2_lay 232 = .ok (.iinc 5 (-1), 3) := by decide +kernel
theorem dX2_lay_235 : decode cX2_lay 235 = .ok (.goto (-35), 3) := by decide +kernel
theorem dX2_lay_238 : decode cX2_lay 238 = .ok (.return_, 1) := by decide +kernel
theorem dX2_addAtDepth_0 : decode cX2_addAtDepth 0 = .ok (.iconst 0, 1) := by decide +kernel
theorem dX2_addAtDepth_1 : decode cX2_addAtDepth 1 = .ok (.istore_n 3, 1) := by decide +kernel
theorem dX2_addAtDepth_2 : decode cX2_addAtDepth 2 = .ok (.iload_n 3, 1) := by decide +kernel
theorem dX2_addAtDepth_3 : decode cX2_addAtDepth 3 = .ok (.bipush 30, 2) := by decide +kernel
theorem dX2_addAtDepth_5 : decode cX2_addAtDepth 5 = .ok (.if_icmp .ge 54, 3) := by decide +kernel
theorem dX2_addAtDepth_8 : decode cX2_addAtDepth 8 = .ok (.aload_n 0, 1) := by decide +kernel
theorem dX2_addAtDepth_9 : decode cX2_addAtDepth 9 = .ok (.getfield 22, 3) := by decide +kernel
theorem dX2_addAtDepth_12 : decode cX2_addAtDepth 12 = .ok (.iload_n 3, 1) := by decide +kernel
theorem dX2_addAtDepth_13 : decode cX2_addAtDepth 13 = .ok (.iaload, 1) := by decide +kernel
theorem dX2_addAtDepth_14 : decode cX2_addAtDepth 14 = .ok (.iload_n 2, 1) := by decide +kernel
theorem dX2_addAtDepth_15 : decode cX2_addAtDepth 15 = .ok (.if_icmp .eq 6, 3) := by decide +kernel
theorem dX2_addAtDepth_18 : decode cX2_addAtDepth 18 = .ok (.goto 35, 3) := by decide +kernel
theorem dX2_addAtDepth_21 : decode cX2_addAtDepth 21 = .ok (.aload_n 1, 1) := by decide +kernel
theorem dX2_addAtDepth_22 : decode cX2_addAtDepth 22 = .ok (.iload_n 3, 1) := by decide +kernel
theorem dX2_addAtDepth_23 : decode cX2_addAtDepth 23 = .ok (.invokevirtual 51, 3) := by decide +kernel
theorem dX2_addAtDepth_26 : decode cX2_addAtDepth 26 = .ok (.ifCond .ne 12, 3) := by decide +kernel
theorem dX2_addAtDepth_29 : decode cX2_addAtDepth 29 = .ok (.aload_n 0, 1) := by decide +kernel
theorem dX2_addAtDepth_30 : decode cX2_addAtDepth 30 = .ok (.iconst 1, 1) := by decide +kernel
theorem dX2_addAtDepth_31 : decode cX2_addAtDepth 31 = .ok (.iload_n 3, 1) := by decide +kernel
theorem dX2_addAtDepth_32 : decode cX2_addAtDepth 32 = .ok (.invokevirtual 62, 3) := by decide +kernel
theorem dX2_addAtDepth_35 : decode cX2_addAtDepth 35 = .ok (.goto 18, 3) := by decide +kernel
theorem dX2_addAtDepth_38 : decode cX2_addAtDepth 38 = .ok (.aload_n 0, 1) := by decide +kernel
theorem dX2_addAtDepth_39 : decode cX2_addAtDepth 39 = .ok (.getfield 18, 3) := by decide +kernel
theorem dX2_addAtDepth_42 : decode cX2_addAtDepth 42 = .ok (.iload_n 3, 1) := by decide +kernel
theorem dX2_addAtDepth_43 : decode cX2_addAtDepth 43 = .ok (.baload, 1) := by decide +kernel
theorem dX2_addAtDepth_44 : decode cX2_addAtDepth 44 = .ok (.ifCond .eq 9, 3) := by decide +kernel
theorem dX2_addAtDepth_47 : decode cX2_addAtDepth 47 = .ok (.aload_n 0, 1) := by decide +kernel
theorem dX2_addAtDepth_48 : decode cX2_addAtDepth 48 = .ok (.iconst 2, 1) := by decide +kernel
theorem dX2_addAtDepth_49 : decode cX2_addAtDepth 49 = .ok (.iload_n 3, 1) := by decide +kernel
theorem dX2_addAtDepth_50 : decode cX2_addAtDepth 50 = .ok (.invokevirtual 62, 3) := by decide +kernel
theorem dX2_addAtDepth_53 : decode cX2_addAtDepth 53 = .ok (.iinc 3 1, 3) := by decide +kernel
theorem dX2_addAtDepth_56 : decode cX2_addAtDepth 56 = .ok (.goto (-54), 3) := by decide +kernel
theorem dX2_addAtDepth_59 : decode cX2_addAtDepth 59 = .ok (.return_, 1) := by decide +kernel
theorem dX2_add_0 : decode cX2_add 0 = .ok (.aload_n 0, 1) := by decide +kernel
theorem dX2_add_1 : decode cX2_add 1 = .ok (.getfield 25, 3) := by decide +kernel
theorem dX2_add_4 : decode cX2_add 4 = .ok (.bipush 120, 2) := by decide +kernel
theorem dX2_add_6 : decode cX2_add 6 = .ok (.if_icmp .ge 33, 3) := by decide +kernel
theorem dX2_add_9 : decode cX2_add 9 = .ok (.aload_n 0, 1) := by decide +kernel
theorem dX2_add_10 : decode cX2_add 10 = .ok (.getfield 9, 3) := by decide +kernel
theorem dX2_add_13 : decode cX2_add 13 = .ok (.aload_n 0, 1) := by decide +kernel
theorem dX2_add_14 : decode cX2_add 14 = .ok (.getfield 25, 3) := by decide +kernel
theorem dX2_add_17 : decode cX2_add 17 = .ok (.iload_n 1, 1) := by decide +kernel
theorem dX2_add_18 : decode cX2_add 18 = .ok (.iastore, 1) := by decide +kernel
theorem dX2_add_19 : decode cX2_add 19 = .ok (.aload_n 0, 1) := by decide +kernel
theorem dX2_add_20 : decode cX2_add 20 = .ok (.getfield 15, 3) := by decide +kernel
theorem dX2_add_23 : decode cX2_add 23 = .ok (.aload_n 0, 1) := by decide +kernel
theorem dX2_add_24 : decode cX2_add 24 = .ok (.getfield 25, 3) := by decide +kernel
theorem dX2_add_27 : decode cX2_add 27 = .ok (.iload_n 2, 1) := by decide +kernel
theorem dX2_add_28 : decode cX2_add 28 = .ok (.iastore, 1) := by decide +kernel
theorem dX2_add_29 : decode cX2_add 29 = .ok (.aload_n 0, 1) := by decide +kernel
theorem dX2_add_30 : decode cX2_add 30 = .ok (.dup, 1) := by decide +kernel
theorem dX2_add_31 : decode cX2_add 31 = .ok (.getfield 25, 3) := by decide +kernel
theorem dX2_add_34 : decode cX2_add 34 = .ok (.iconst 1, 1) := by decide +kernel
theorem dX2_add_35 : decode cX2_add 35 = .ok (.iadd, 1) := by decide +kernel
theorem dX2_add_36 : decode cX2_add 36 = .ok (.putfield 25, 3) := by decide +kernel
theorem dX2_add_39 : decode cX2_add 39 = .ok (.return_, 1) := by decide +kernel
theorem dX2_tell_0 : decode cX2_tell 0 = .ok (.iload_n 2, 1) := by decide +kernel
theorem dX2_tell_1 : decode cX2_tell 1 = .ok (.ifCond .lt 11, 3) := by decide +kernel
theorem dX2_tell_4 : decode cX2_tell 4 = .ok (.iload_n 2, 1) := by decide +kernel
theorem dX2_tell_5 : decode cX2_tell 5 = .ok (.aload_n 0, 1) := by decide +kernel
theorem dX2_tell_6 : decode cX2_tell 6 = .ok (.getfield 25, 3) := by decide +kernel
theorem dX2_tell_9 : decode cX2_tell 9 = .ok (.if_icmp .lt 6, 3) := by decide +kernel
theorem dX2_tell_12 : decode cX2_tell 12 = .ok (.bipush (-12), 2) := by decide +kernel
theorem dX2_tell_14 : decode cX2_tell 14 = .ok (.ireturn, 1) := by decide +kernel
theorem dX2_tell_15 : decode cX2_tell 15 = .ok (.aload_n 0, 1) := by decide +kernel
theorem dX2_tell_16 : decode cX2_tell 16 = .ok (.getfield 15, 3) := by decide +kernel
theorem dX2_tell_19 : decode cX2_tell 19 = .ok (.iload_n 2, 1) := by decide +kernel
theorem dX2_tell_20 : decode cX2_tell 20 = .ok (.iaload, 1) := by decide +kernel
theorem dX2_tell_21 : decode cX2_tell 21 = .ok (.istore 4, 2) := by decide +kernel
theorem dX2_tell_23 : decode cX2_tell 23 = .ok (.aload_n 0, 1) := by decide +kernel
theorem dX2_tell_24 : decode cX2_tell 24 = .ok (.getfield 9, 3) := by decide +kernel
theorem dX2_tell_27 : decode cX2_tell 27 = .ok (.iload_n 2, 1) := by decide +kernel
theorem dX2_tell_28 : decode cX2_tell 28 = .ok (.iaload, 1) := by decide +kernel
theorem dX2_tell_29 : decode cX2_tell 29 = .ok (.iconst 1, 1) := by decide +kernel
theorem dX2_tell_30 : decode cX2_tell 30 = .ok (.if_icmp .eq 13, 3) := by decide +kernel
theorem dX2_tell_33 : decode cX2_tell 33 = .ok (.aload_n 0, 1) := by decide +kernel
theorem dX2_tell_34 : decode cX2_tell 34 = .ok (.getfield 9, 3) := by decide +kernel
theorem dX2_tell_37 : decode cX2_tell 37 = .ok (.iload_n 2, 1) := by decide +kernel
theorem dX2_tell_38 : decode cX2_tell 38 = .ok (.iaload, 1) := by decide +kernel
theorem dX2_tell_39 : decode cX2_tell 39 = .ok (.iconst 2, 1) := by decide +kernel
theorem dX2_tell_40 : decode cX2_tell 40 = .ok (.if_icmp .ne 7, 3) := by decide +kernel
theorem dX2_tell_43 : decode cX2_tell 43 = .ok (.iconst 1, 1) := by decide +kernel
theorem dX2_tell_44 : decode cX2_tell 44 = .ok (.goto 4, 3) := by decide +kernel
theorem dX2_tell_47 : decode cX2_tell 47 = .ok (.iconst 0, 1) := by decide +kernel
theorem dX2_tell_48 : decode cX2_tell 48 = .ok (.istore 5, 2) := by decide +kernel
theorem dX2_tell_50 : decode cX2_tell 50 = .ok (.iload_n 3, 1) := by decide +kernel
theorem dX2_tell_51 : decode cX2_tell 51 = .ok (.tableswitch 88 0 3 #[29, 36, 39, 56], 29) := by decide +kernel
theorem dX2_tell_80 : decode cX2_tell 80 = .ok (.aload_n 0, 1) := by decide +kernel
theorem dX2_tell_81 : decode cX2_tell 81 = .ok (.getfield 9, 3) := by decide +kernel
theorem dX2_tell_84 : decode cX2_tell 84 = .ok (.iload_n 2, 1) := by decide +kernel
theorem dX2_tell_85 : decode cX2_tell 85 = .ok (.iaload, 1) := by decide +kernel
theorem dX2_tell_86 : decode cX2_tell 86 = .ok (.ireturn, 1) := by decide +kernel
theorem dX2_tell_87 : decode cX2_tell 87 = .ok (.iload 4, 2) := by decide +kernel
theorem dX2_tell_89 : decode cX2_tell 89 = .ok (.ireturn, 1) := by decide +kernel
theorem dX2_tell_90 : decode cX2_tell 90 = .ok (.iload 5, 2) := by decide +kernel
theorem dX2_tell_92 : decode cX2_tell 92 = .ok (.ifCond .eq 13, 3) := by decide +kernel
theorem dX2_tell_95 : decode cX2_tell 95 = .ok (.aload_n 1, 1) := by decide +kernel
theorem dX2_tell_96 : decode cX2_tell 96 = .ok (.getfield 73, 3) := by decide +kernel
theorem dX2_tell_99 : decode cX2_tell 99 = .ok (.iload 4, 2) := by decide +kernel
theorem dX2_tell_101 : decode cX2_tell 101 = .ok (.iaload, 1) := by decide +kernel
theorem dX2_tell_102 : decode cX2_tell 102 = .ok (.goto 4, 3) := by decide +kernel
theorem dX2_tell_105 : decode cX2_tell 105 = .ok (.iconst (-1), 1) := by decide +kernel
theorem dX2_tell_106 : decode cX2_tell 106 = .ok (.ireturn, 1) := by decide +kernel
theorem dX2_tell_107 : decode cX2_tell 107 = .ok (.aload_n 0, 1) := by decide +kernel
theorem dX2_tell_108 : decode cX2_tell 108 = .ok (.getfield 9, 3) := by decide +kernel
theorem dX2_tell_111 : decode cX2_tell 111 = .ok (.iload_n 2, 1) := by decide +kernel
theorem dX2_tell_112 : decode cX2_tell 112 = .ok (.iaload, 1) := by decide +kernel
theorem dX2_tell_113 : decode cX2_tell 113 = .ok (.ifCond .ne 9, 3) := by decide +kernel
theorem dX2_tell_116 : decode cX2_tell 116 = .ok (.bipush 100, 2) := by decide +kernel
theorem dX2_tell_118 : decode cX2_tell 118 = .ok (.iload 4, 2) := by decide +kernel
theorem dX2_tell_120 : decode cX2_tell 120 = .ok (.iadd, 1) := by decide +kernel
theorem dX2_tell_121 : decode cX2_tell 121 = .ok (.ireturn, 1) := by decide +kernel
theorem dX2_tell_122 : decode cX2_tell 122 = .ok (.iload 5, 2) := by decide +kernel
theorem dX2_tell_124 : decode cX2_tell 124 = .ok (.ifCond .eq 13, 3) := by decide +kernel
theorem dX2_tell_127 : decode cX2_tell 127 = .ok (.aload_n 1, 1) := by decide +kernel
theorem dX2_tell_128 : decode cX2_tell 128 = .ok (.getfield 76, 3) := by decide +kernel
theorem dX2_tell_131 : decode cX2_tell 131 = .ok (.iload 4, 2) := by decide +kernel
theorem dX2_tell_133 : decode cX2_tell 133 = .ok (.iaload, 1) := by decide +kernel
theorem dX2_tell_134 : decode cX2_tell 134 = .ok (.goto 4, 3) := by decide +kernel
theorem dX2_tell_137 : decode cX2_tell 137 = .ok (.iconst (-1), 1) := by decide +kernel
theorem dX2_tell_138 : decode cX2_tell 138 = .ok (.ireturn, 1) := by decide +kernel
theorem dX2_tell_139 : decode cX2_tell 139 = .ok (.aload_n 0, 1) := by decide +kernel
theorem dX2_tell_140 : decode cX2_tell 140 = .ok (.getfield 9, 3) := by decide +kernel
theorem dX2_tell_143 : decode cX2_tell 143 = .ok (.iload_n 2, 1) := by decide +kernel
theorem dX2_tell_144 : decode cX2_tell 144 = .ok (.iaload, 1) := by decide +kernel
theorem dX2_tell_145 : decode cX2_tell 145 = .ok (.iconst 1, 1) := by decide +kernel
theorem dX2_tell_146 : decode cX2_tell 146 = .ok (.if_icmp .eq 13, 3) := by decide +kernel
theorem dX2_tell_149 : decode cX2_tell 149 = .ok (.aload_n 0, 1) := by decide +kernel
theorem dX2_tell_150 : decode cX2_tell 150 = .ok (.getfield 9, 3) := by decide +kernel
theorem dX2_tell_153 : decode cX2_tell 153 = .ok (.iload_n 2, 1) := by decide +kernel
theorem dX2_tell_154 : decode cX2_tell 154 = .ok (.iaload, 1) := by decide +kernel
theorem dX2_tell_155 : decode cX2_tell 155 = .ok (.iconst 3, 1) := by decide +kernel
theorem dX2_tell_156 : decode cX2_tell 156 = .ok (.if_icmp .ne 13, 3) := by decide +kernel
theorem dX2_tell_159 : decode cX2_tell 159 = .ok (.aload_n 1, 1) := by decide +kernel
theorem dX2_tell_160 : decode cX2_tell 160 = .ok (.getfield 79, 3) := by decide +kernel
theorem dX2_tell_163 : decode cX2_tell 163 = .ok (.iload 4, 2) := by decide +kernel
theorem dX2_tell_165 : decode cX2_tell 165 = .ok (.iaload, 1) := by decide +kernel
theorem dX2_tell_166 : decode cX2_tell 166 = .ok (.goto 4, 3) := by decide +kernel
theorem dX2_tell_169 : decode cX2_tell 169 = .ok (.iconst (-1), 1) := by decide +kernel
theorem dX2_tell_170 : decode cX2_tell 170 = .ok (.ireturn, 1) := by decide +kernel
theorem dX3_init_0 : decode cX3_init 0 = .ok (.aload_n 0, 1) := by decide +kernel
theorem dX3_init_1 : decode cX3_init 1 = .ok (.invokespecial 3, 3) := by decide +kernel
theorem dX3_init_4 : decode cX3_init 4 = .ok (.aload_n 0, 1) := by decide +kernel
theorem dX3_init_5 : decode cX3_init 5 = .ok (.iconst (-1), 1) := by decide +kernel
theorem dX3_init_6 : decode cX3_init 6 = .ok (.putfield 9, 3) := by decide +kernel
theorem dX3_init_9 : decode cX3_init 9 = .ok (.aload_n 0, 1) := by decide +kernel
theorem dX3_init_10 : decode cX3_init 10 = .ok (.iconst 0, 1) := by decide +kernel
theorem dX3_init_11 : decode cX3_init 11 = .ok (.putfield 15, 3) := by decide +kernel
theorem dX3_init_14 : decode cX3_init 14 = .ok (.aload_n 0, 1) := by decide +kernel
theorem dX3_init_15 : decode cX3_init 15 = .ok (.bipush 40, 2) := by decide +kernel
theorem dX3_init_17 : decode cX3_init 17 = .ok (.newarray .int, 2) := by decide +kernel
theorem dX3_init_19 : decode cX3_init 19 = .ok (.putfield 18, 3) := by decide +kernel
theorem dX3_init_22 : decode cX3_init 22 = .ok (.return_, 1) := by decide +kernel
theorem dX3_isMissing_0 : decode cX3_isMissing 0 = .ok (.aload_n 0, 1) := by decide +kernel
theorem dX3_isMissing_1 : decode cX3_isMissing 1 = .ok (.getfield 9, 3) := by decide +kernel
theorem dX3_isMissing_4 : decode cX3_isMissing 4 = .ok (.iconst (-1), 1) := by decide +kernel
theorem dX3_isMissing_5 : decode cX3_isMissing 5 = .ok (.if_icmp .ne 7, 3) := by decide +kernel
theorem dX3_isMissing_8 : decode cX3_isMissing 8 = .ok (.iconst 1, 1) := by decide +kernel
theorem dX3_isMissing_9 : decode cX3_isMissing 9 = .ok (.goto 4, 3) := by decide +kernel
theorem dX3_isMissing_12 : decode cX3_isMissing 12 = .ok (.iconst 0, 1) := by decide +kernel
theorem dX3_isMissing_13 : decode cX3_isMissing 13 = .ok (.ireturn, 1) := by decide +kernel
theorem dX3_renew_0 : decode cX3_renew 0 = .ok (.aload_n 0, 1) := by decide +kernel
theorem dX3_renew_1 : decode cX3_renew 1 = .ok (.iload_n 1, 1) := by decide +kernel
theorem dX3_renew_2 : decode cX3_renew 2 = .ok (.putfield 9, 3) := by decide +kernel
theorem dX3_renew_5 : decode cX3_renew 5 = .ok (.aload_n 0, 1) := by decide +kernel
theorem dX3_renew_6 : decode cX3_renew 6 = .ok (.iload_n 2, 1) := by decide +kernel
theorem dX3_renew_7 : decode cX3_renew 7 = .ok (.putfield 15, 3) := by decide +kernel
theorem dX3_renew_10 : decode cX3_renew 10 = .ok (.iconst 0, 1) := by decide +kernel
theorem dX3_renew_11 : decode cX3_renew 11 = .ok (.istore_n 3, 1) := by decide +kernel
theorem dX3_renew_12 : decode cX3_renew 12 = .ok (.iload_n 3, 1) := by decide +kernel
theorem dX3_renew_13 : decode cX3_renew 13 = .ok (.bipush 40, 2) := by decide +kernel
theorem dX3_renew_15 : decode cX3_renew 15 = .ok (.if_icmp .ge 16, 3) := by decide +kernel
theorem dX3_renew_18 : decode cX3_renew 18 = .ok (.aload_n 0, 1) := by decide +kernel
theorem dX3_renew_19 : decode cX3_renew 19 = .ok (.getfield 18, 3) := by decide +kernel
theorem dX3_renew_22 : decode cX3_renew 22 = .ok (.iload_n 3, 1) := by decide +kernel
theorem dX3_renew_23 : decode cX3_renew 23 = .ok (.iconst 0, 1) := by decide +kernel
theorem dX3_renew_24 : decode cX3_renew 24 = .ok (.iastore, 1) := by decide +kernel
theorem dX3_renew_25 : decode cX3_renew 25 = .ok (.iinc 3 1, 3) := by decide +kernel
theorem dX3_renew_28 : decode cX3_renew 28 = .ok (.goto (-16), 3) := by decide +kernel
theorem dX3_renew_31 : decode cX3_renew 31 = .ok (.return_, 1) := by decide +kernel
theorem dX3_spans_0 : decode cX3_spans 0 = .ok (.iload_n 1, 1) := by decide +kernel
theorem dX3_spans_1 : decode cX3_spans 1 = .ok (.ifCond .lt 29, 3) := by decide +kernel
theorem dX3_spans_4 : decode cX3_spans 4 = .ok (.iload_n 2, 1) := by decide +kernel
theorem dX3_spans_5 : decode cX3_spans 5 = .ok (.ifCond .lt 25, 3) := by decide +kernel
theorem dX3_spans_8 : decode cX3_spans 8 = .ok (.iload_n 2, 1) := by decide +kernel
theorem dX3_spans_9 : decode cX3_spans 9 = .ok (.aload_n 0, 1) := by decide +kernel
theorem dX3_spans_10 : decode cX3_spans 10 = .ok (.getfield 15, 3) := by decide +kernel
theorem dX3_spans_13 : decode cX3_spans 13 = .ok (.if_icmp .gt 17, 3) := by decide +kernel
theorem dX3_spans_16 : decode cX3_spans 16 = .ok (.iload_n 1, 1) := by decide +kernel
theorem dX3_spans_17 : decode cX3_spans 17 = .ok (.aload_n 0, 1) := by decide +kernel
theorem dX3_spans_18 : decode cX3_spans 18 = .ok (.getfield 15, 3) := by decide +kernel
theorem dX3_spans_21 : decode cX3_spans 21 = .ok (.iload_n 2, 1) := by decide +kernel
theorem dX3_spans_22 : decode cX3_spans 22 = .ok (.isub, 1) := by decide +kernel
theorem dX3_spans_23 : decode cX3_spans 23 = .ok (.if_icmp .gt 7, 3) := by decide +kernel
theorem dX3_spans_26 : decode cX3_spans 26 = .ok (.iconst 1, 1) := by decide +kernel
theorem dX3_spans_27 : decode cX3_spans 27 = .ok (.goto 4, 3) := by decide +kernel
theorem dX3_spans_30 : decode cX3_spans 30 = .ok (.iconst 0, 1) := by decide +kernel
theorem dX3_spans_31 : decode cX3_spans 31 = .ok (.ireturn, 1) := by decide +kernel
theorem dX3_put_0 : decode cX3_put 0 = .ok (.aload_n 0, 1) := by decide +kernel
theorem dX3_put_1 : decode cX3_put 1 = .ok (.iload_n 1, 1) := by decide +kernel
theorem dX3_put_2 : decode cX3_put 2 = .ok (.iconst 1, 1) := by decide +kernel
theorem dX3_put_3 : decode cX3_put 3 = .ok (.invokevirtual 22, 3) := by decide +kernel
theorem dX3_put_6 : decode cX3_put 6 = .ok (.ifCond .eq 22, 3) := by decide +kernel
theorem dX3_put_9 : decode cX3_put 9 = .ok (.aload_n 0, 1) := by decide +kernel
theorem dX3_put_10 : decode cX3_put 10 = .ok (.getfield 18, 3) := by decide +kernel
theorem dX3_put_13 : decode cX3_put 13 = .ok (.iload_n 1, 1) := by decide +kernel
theorem dX3_put_14 : decode cX3_put 14 = .ok (.aload_n 0, 1) := by decide +kernel
theorem dX3_put_15 : decode cX3_put 15 = .ok (.getfield 9, 3) := by decide +kernel
theorem dX3_put_18 : decode cX3_put 18 = .ok (.ifCond .ne 8, 3) := by decide +kernel
theorem dX3_put_21 : decode cX3_put 21 = .ok (.iload_n 2, 1) := by decide +kernel
theorem dX3_put_22 : decode cX3_put 22 = .ok (.i2s, 1) := by decide +kernel
theorem dX3_put_23 : decode cX3_put 23 = .ok (.goto 4, 3) := by decide +kernel
theorem dX3_put_26 : decode cX3_put 26 = .ok (.iload_n 2, 1) := by decide +kernel
theorem dX3_put_27 : decode cX3_put 27 = .ok (.iastore, 1) := by decide +kernel
theorem dX3_put_28 : decode cX3_put 28 = .ok (.return_, 1) := by decide +kernel
theorem dX3_firstUnlike_0 : decode cX3_firstUnlike 0 = .ok (.iconst 0, 1) := by decide +kernel
theorem dX3_firstUnlike_1 : decode cX3_firstUnlike 1 = .ok (.istore_n 2, 1) := by decide +kernel
theorem dX3_firstUnlike_2 : decode cX3_firstUnlike 2 = .ok (.iload_n 2, 1) := by decide +kernel
theorem dX3_firstUnlike_3 : decode cX3_firstUnlike 3 = .ok (.aload_n 0, 1) := by decide +kernel
theorem dX3_firstUnlike_4 : decode cX3_firstUnlike 4 = .ok (.getfield 15, 3) := by decide +kernel
theorem dX3_firstUnlike_7 : decode cX3_firstUnlike 7 = .ok (.if_icmp .ge 32, 3) := by decide +kernel
theorem dX3_firstUnlike_10 : decode cX3_firstUnlike 10 = .ok (.iload_n 2, 1) := by decide +kernel
theorem dX3_firstUnlike_11 : decode cX3_firstUnlike 11 = .ok (.bipush 30, 2) := by decide +kernel
theorem dX3_firstUnlike_13 : decode cX3_firstUnlike 13 = .ok (.if_icmp .ge 26, 3) := by decide +kernel
theorem dX3_firstUnlike_16 : decode cX3_firstUnlike 16 = .ok (.aload_n 0, 1) := by decide +kernel
theorem dX3_firstUnlike_17 : decode cX3_firstUnlike 17 = .ok (.getfield 18, 3) := by decide +kernel
theorem dX3_firstUnlike_20 : decode cX3_firstUnlike 20 = .ok (.iload_n 2, 1) := by decide +kernel
theorem dX3_firstUnlike_21 : decode cX3_firstUnlike 21 = .ok (.iaload, 1) := by decide +kernel
theorem dX3_firstUnlike_22 : decode cX3_firstUnlike 22 = .ok (.aload_n 1, 1) := by decide +kernel
theorem dX3_firstUnlike_23 : decode cX3_firstUnlike 23 = .ok (.getfield 26, 3) := by decide +kernel
theorem dX3_firstUnlike_26 : decode cX3_firstUnlike 26 = .ok (.iload_n 2, 1) := by decide +kernel
theorem dX3_firstUnlike_27 : decode cX3_firstUnlike 27 = .ok (.iaload, 1) := by decide +kernel
theorem dX3_firstUnlike_28 : decode cX3_firstUnlike 28 = .ok (.if_icmp .eq 5, 3) := by decide +kernel
theorem dX3_firstUnlike_31 : decode cX3_firstUnlike 31 = .ok (.iload_n 2, 1) := by decide +kernel
theorem dX3_firstUnlike_32 : decode cX3_firstUnlike 32 = .ok (.ireturn, 1) := by decide +kernel
theorem dX3_firstUnlike_33 : decode cX3_firstUnlike 33 = .ok (.iinc 2 1, 3) := by decide +kernel
theorem dX3_firstUnlike_36 : decode cX3_firstUnlike 36 = .ok (.goto (-34), 3) := by decide +kernel
theorem dX3_firstUnlike_39 : decode cX3_firstUnlike 39 = .ok (.iconst (-1), 1) := by decide +kernel
theorem dX3_firstUnlike_40 : decode cX3_firstUnlike 40 = .ok (.ireturn, 1) := by decide +kernel
theorem dX4_init_0 : decode cX4_init 0 = .ok (.aload_n 0, 1) := by decide +kernel
theorem dX4_init_1 : decode cX4_init 1 = .ok (.invokespecial 3, 3) := by decide +kernel
theorem dX4_init_4 : decode cX4_init 4 = .ok (.aload_n 0, 1) := by decide +kernel
theorem dX4_init_5 : decode cX4_init 5 = .ok (.bipush 40, 2) := by decide +kernel
theorem dX4_init_7 : decode cX4_init 7 = .ok (.newarray .int, 2) := by decide +kernel
theorem dX4_init_9 : decode cX4_init 9 = .ok (.putfield 9, 3) := by decide +kernel
theorem dX4_init_12 : decode cX4_init 12 = .ok (.aload_n 0, 1) := by decide +kernel
theorem dX4_init_13 : decode cX4_init 13 = .ok (.iconst 0, 1) := by decide +kernel
theorem dX4_init_14 : decode cX4_init 14 = .ok (.putfield 15, 3) := by decide +kernel
theorem dX4_init_17 : decode cX4_init 17 = .ok (.return_, 1) := by decide +kernel
theorem dX4_append_0 : decode cX4_append 0 = .ok (.aload_n 0, 1) := by decide +kernel
theorem dX4_append_1 : decode cX4_append 1 = .ok (.getfield 15, 3) := by decide +kernel
theorem dX4_append_4 : decode cX4_append 4 = .ok (.bipush 40, 2) := by decide +kernel
theorem dX4_append_6 : decode cX4_append 6 = .ok (.if_icmp .ge 23, 3) := by decide +kernel
theorem dX4_append_9 : decode cX4_append 9 = .ok (.aload_n 0, 1) := by decide +kernel
theorem dX4_append_10 : decode cX4_append 10 = .ok (.getfield 9, 3) := by decide +kernel
theorem dX4_append_13 : decode cX4_append 13 = .ok (.aload_n 0, 1) := by decide +kernel
theorem dX4_append_14 : decode cX4_append 14 = .ok (.getfield 15, 3) := by decide +kernel
theorem dX4_append_17 : decode cX4_append 17 = .ok (.iload_n 1, 1) := by decide +kernel
theorem dX4_append_18 : decode cX4_append 18 = .ok (.iastore, 1) := by decide +kernel
theorem dX4_append_19 : decode cX4_append 19 = .ok (.aload_n 0, 1) := by decide +kernel
theorem dX4_append_20 : decode cX4_append 20 = .ok (.dup, 1) := by decide +kernel
theorem dX4_append_21 : decode cX4_append 21 = .ok (.getfield 15, 3) := by decide +kernel
theorem dX4_append_24 : decode cX4_append 24 = .ok (.iconst 1, 1) := by decide +kernel
theorem dX4_append_25 : decode cX4_append 25 = .ok (.iadd, 1) := by decide +kernel
theorem dX4_append_26 : decode cX4_append 26 = .ok (.putfield 15, 3) := by decide +kernel
theorem dX4_append_29 : decode cX4_append 29 = .ok (.return_, 1) := by decide +kernel
theorem dX4_read_0 : decode cX4_read 0 = .ok (.aload_n 0, 1) := by decide +kernel
theorem dX4_read_1 : decode cX4_read 1 = .ok (.iconst 0, 1) := by decide +kernel
theorem dX4_read_2 : decode cX4_read 2 = .ok (.putfield 19, 3) := by decide +kernel
theorem dX4_read_5 : decode cX4_read 5 = .ok (.aload_n 1, 1) := by decide +kernel
theorem dX4_read_6 : decode cX4_read 6 = .ok (.iconst 0, 1) := by decide +kernel
theorem dX4_read_7 : decode cX4_read 7 = .ok (.putfield 22, 3) := by decide +kernel
theorem dX4_read_10 : decode cX4_read 10 = .ok (.aload_n 0, 1) := by decide +kernel
theorem dX4_read_11 : decode cX4_read 11 = .ok (.invokevirtual 25, 3) := by decide +kernel
theorem dX4_read_14 : decode cX4_read 14 = .ok (.aload_n 1, 1) := by decide +kernel
theorem dX4_read_15 : decode cX4_read 15 = .ok (.aload_n 0, 1) := by decide +kernel
theorem dX4_read_16 : decode cX4_read 16 = .ok (.getfield 28, 3) := by decide +kernel
theorem dX4_read_19 : decode cX4_read 19 = .ok (.iconst 3, 1) := by decide +kernel
theorem dX4_read_20 : decode cX4_read 20 = .ok (.if_icmp .ne 7, 3) := by decide +kernel
theorem dX4_read_23 : decode cX4_read 23 = .ok (.iconst 1, 1) := by decide +kernel
theorem dX4_read_24 : decode cX4_read 24 = .ok (.goto 4, 3) := by decide +kernel
theorem dX4_read_27 : decode cX4_read 27 = .ok (.iconst 0, 1) := by decide +kernel
theorem dX4_read_28 : decode cX4_read 28 = .ok (.putfield 31, 3) := by decide +kernel
theorem dX4_read_31 : decode cX4_read 31 = .ok (.aload_n 1, 1) := by decide +kernel
theorem dX4_read_32 : decode cX4_read 32 = .ok (.getfield 31, 3) := by decide +kernel
theorem dX4_read_35 : decode cX4_read 35 = .ok (.ifCond .eq 7, 3) := by decide +kernel
theorem dX4_read_38 : decode cX4_read 38 = .ok (.aload_n 0, 1) := by decide +kernel
theorem dX4_read_39 : decode cX4_read 39 = .ok (.invokevirtual 25, 3) := by decide +kernel
theorem dX4_read_42 : decode cX4_read 42 = .ok (.iconst 0, 1) := by decide +kernel
theorem dX4_read_43 : decode cX4_read 43 = .ok (.istore_n 2, 1) := by decide +kernel
theorem dX4_read_44 : decode cX4_read 44 = .ok (.iload_n 2, 1) := by decide +kernel
theorem dX4_read_45 : decode cX4_read 45 = .ok (.bipush 8, 2) := by decide +kernel
theorem dX4_read_47 : decode cX4_read 47 = .ok (.if_icmp .ge 95, 3) := by decide +kernel
theorem dX4_read_50 : decode cX4_read 50 = .ok (.aload_n 0, 1) := by decide +kernel
theorem dX4_read_51 : decode cX4_read 51 = .ok (.getfield 28, 3) := by decide +kernel
theorem dX4_read_54 : decode cX4_read 54 = .ok (.iconst 2, 1) := by decide +kernel
theorem dX4_read_55 : decode cX4_read 55 = .ok (.if_icmp .eq 25, 3) := by decide +kernel
theorem dX4_read_58 : decode cX4_read 58 = .ok (.aload_n 0, 1) := by decide +kernel
theorem dX4_read_59 : decode cX4_read 59 = .ok (.getfield 28, 3) := by decide +kernel
theorem dX4_read_62 : decode cX4_read 62 = .ok (.iconst 5, 1) := by decide +kernel
theorem dX4_read_63 : decode cX4_read 63 = .ok (.if_icmp .eq 17, 3) := by decide +kernel
theorem dX4_read_66 : decode cX4_read 66 = .ok (.aload_n 0, 1) := by decide +kernel
theorem dX4_read_67 : decode cX4_read 67 = .ok (.getfield 28, 3) := by decide +kernel
theorem dX4_read_70 : decode cX4_read 70 = .ok (.bipush 6, 2) := by decide +kernel
theorem dX4_read_72 : decode cX4_read 72 = .ok (.if_icmp .eq 8, 3) := by decide +kernel
theorem dX4_read_75 : decode cX4_read 75 = .ok (.aload_n 0, 1) := by decide +kernel
theorem dX4_read_76 : decode cX4_read 76 = .ok (.getfield 35, 3) := by decide +kernel
theorem dX4_read_79 : decode cX4_read 79 = .ok (.ireturn, 1) := by decide +kernel
theorem dX4_read_80 : decode cX4_read 80 = .ok (.aload_n 1, 1) := by decide +kernel
theorem dX4_read_81 : decode cX4_read 81 = .ok (.getfield 38, 3) := by decide +kernel
theorem dX4_read_84 : decode cX4_read 84 = .ok (.iload_n 2, 1) := by decide +kernel
theorem dX4_read_85 : decode cX4_read 85 = .ok (.aload_n 0, 1) := by decide +kernel
theorem dX4_read_86 : decode cX4_read 86 = .ok (.getfield 41, 3) := by decide +kernel
theorem dX4_read_89 : decode cX4_read 89 = .ok (.iastore, 1) := by decide +kernel
theorem dX4_read_90 : decode cX4_read 90 = .ok (.aload_n 1, 1) := by decide +kernel
theorem dX4_read_91 : decode cX4_read 91 = .ok (.iload_n 2, 1) := by decide +kernel
theorem dX4_read_92 : decode cX4_read 92 = .ok (.iconst 1, 1) := by decide +kernel
theorem dX4_read_93 : decode cX4_read 93 = .ok (.iadd, 1) := by decide +kernel
theorem dX4_read_94 : decode cX4_read 94 = .ok (.putfield 22, 3) := by decide +kernel
theorem dX4_read_97 : decode cX4_read 97 = .ok (.aload_n 0, 1) := by decide +kernel
theorem dX4_read_98 : decode cX4_read 98 = .ok (.invokevirtual 25, 3) := by decide +kernel
theorem dX4_read_101 : decode cX4_read 101 = .ok (.aload_n 0, 1) := by decide +kernel
theorem dX4_read_102 : decode cX4_read 102 = .ok (.getfield 28, 3) := by decide +kernel
theorem dX4_read_105 : decode cX4_read 105 = .ok (.ifCond .ne 5, 3) := by decide +kernel
theorem dX4_read_108 : decode cX4_read 108 = .ok (.iconst (-1), 1) := by decide +kernel
theorem dX4_read_109 : decode cX4_read 109 = .ok (.ireturn, 1) := by decide +kernel
theorem dX4_read_110 : decode cX4_read 110 = .ok (.aload_n 0, 1) := by decide +kernel
theorem dX4_read_111 : decode cX4_read 111 = .ok (.getfield 28, 3) := by decide +kernel
theorem dX4_read_114 : decode cX4_read 114 = .ok (.iconst 4, 1) := by decide +kernel
theorem dX4_read_115 : decode cX4_read 115 = .ok (.if_icmp .ne 12, 3) := by decide +kernel
theorem dX4_read_118 : decode cX4_read 118 = .ok (.aload_n 1, 1) := by decide +kernel
theorem dX4_read_119 : decode cX4_read 119 = .ok (.getfield 22, 3) := by decide +kernel
theorem dX4_read_122 : decode cX4_read 122 = .ok (.bipush 8, 2) := by decide +kernel
theorem dX4_read_124 : decode cX4_read 124 = .ok (.if_icmp .ne 8, 3) := by decide +kernel
theorem dX4_read_127 : decode cX4_read 127 = .ok (.aload_n 0, 1) := by decide +kernel
theorem dX4_read_128 : decode cX4_read 128 = .ok (.getfield 35, 3) := by decide +kernel
theorem dX4_read_131 : decode cX4_read 131 = .ok (.ireturn, 1) := by decide +kernel
theorem dX4_read_132 : decode cX4_read 132 = .ok (.aload_n 0, 1) := by decide +kernel
theorem dX4_read_133 : decode cX4_read 133 = .ok (.invokevirtual 25, 3) := by decide +kernel
theorem dX4_read_136 : decode cX4_read 136 = .ok (.iinc 2 1, 3) := by decide +kernel
theorem dX4_read_139 : decode cX4_read 139 = .ok (.goto (-95), 3) := by decide +kernel
theorem dX4_read_142 : decode cX4_read 142 = .ok (.aload_n 0, 1) := by decide +kernel
theorem dX4_read_143 : decode cX4_read 143 = .ok (.getfield 35, 3) := by decide +kernel
theorem dX4_read_146 : decode cX4_read 146 = .ok (.ireturn, 1) := by decide +kernel
theorem dX4_next_0 : decode cX4_next 0 = .ok (.aload_n 0, 1) := by decide +kernel
theorem dX4_next_1 : decode cX4_next 1 = .ok (.getfield 19, 3) := by decide +kernel
theorem dX4_next_4 : decode cX4_next 4 = .ok (.aload_n 0, 1) := by decide +kernel
theorem dX4_next_5 : decode cX4_next 5 = .ok (.getfield 15, 3) := by decide +kernel
theorem dX4_next_8 : decode cX4_next 8 = .ok (.if_icmp .ge 44, 3) := by decide +kernel
theorem dX4_next_11 : decode cX4_next 11 = .ok (.aload_n 0, 1) := by decide +kernel
theorem dX4_next_12 : decode cX4_next 12 = .ok (.getfield 9, 3) := by decide +kernel
theorem dX4_next_15 : decode cX4_next 15 = .ok (.aload_n 0, 1) := by decide +kernel
theorem dX4_next_16 : decode cX4_next 16 = .ok (.getfield 19, 3) := by decide +kernel
theorem dX4_next_19 : decode cX4_next 19 = .ok (.iaload, 1) := by decide +kernel
theorem dX4_next_20 : decode cX4_next 20 = .ok (.bipush 32, 2) := by decide +kernel
theorem dX4_next_22 : decode cX4_next 22 = .ok (.if_icmp .eq 17, 3) := by decide +kernel
theorem dX4_next_25 : decode cX4_next 25 = .ok (.aload_n 0, 1) := by decide +kernel
theorem dX4_next_26 : decode cX4_next 26 = .ok (.getfield 9, 3) := by decide +kernel
theorem dX4_next_29 : decode cX4_next 29 = .ok (.aload_n 0, 1) := by decide +kernel
theorem dX4_next_30 : decode cX4_next 30 = .ok (.getfield 19, 3) := by decide +kernel
theorem dX4_next_33 : decode cX4_next 33 = .ok (.iaload, 1) := by decide +kernel
theorem dX4_next_34 : decode cX4_next 34 = .ok (.bipush 10, 2) := by decide +kernel
theorem dX4_next_36 : decode cX4_next 36 = .ok (.if_icmp .ne 16, 3) := by decide +kernel
theorem dX4_next_39 : decode cX4_next 39 = .ok (.aload_n 0, 1) := by decide +kernel
theorem dX4_next_40 : decode cX4_next 40 = .ok (.dup, 1) := by decide +kernel
theorem dX4_next_41 : decode cX4_next 41 = .ok (.getfield 19, 3) := by decide +kernel
theorem dX4_next_44 : decode cX4_next 44 = .ok (.iconst 1, 1) := by decide +kernel
theorem dX4_next_45 : decode cX4_next 45 = .ok (.iadd, 1) := by decide +kernel
theorem dX4_next_46 : decode cX4_next 46 = .ok (.putfield 19, 3) := by decide +kernel
theorem dX4_next_49 : decode cX4_next 49 = .ok (.goto (-49), 3) := by decide +kernel
theorem dX4_next_52 : decode cX4_next 52 = .ok (.aload_n 0, 1) := by decide +kernel
theorem dX4_next_53 : decode cX4_next 53 = .ok (.aload_n 0, 1) := by decide +kernel
theorem dX4_next_54 : decode cX4_next 54 = .ok (.getfield 19, 3) := by decide +kernel
theorem dX4_next_57 : decode cX4_next 57 = .ok (.putfield 35, 3) := by decide +kernel
theorem dX4_next_60 : decode cX4_next 60 = .ok (.aload_n 0, 1) := by decide +kernel
theorem dX4_next_61 : decode cX4_next 61 = .ok (.getfield 19, 3) := by decide +kernel
theorem dX4_next_64 : decode cX4_next 64 = .ok (.aload_n 0, 1) := by decide +kernel
theorem dX4_next_65 : decode cX4_next 65 = .ok (.getfield 15, 3) := by decide +kernel
theorem dX4_next_68 : decode cX4_next 68 = .ok (.if_icmp .lt 11, 3) := by decide +kernel
theorem dX4_next_71 : decode cX4_next 71 = .ok (.aload_n 0, 1) := by decide +kernel
theorem dX4_next_72 : decode cX4_next 72 = .ok (.iconst 0, 1) := by decide +kernel
theorem dX4_next_73 : decode cX4_next 73 = .ok (.putfield 28, 3) := by decide +kernel
theorem dX4_next_76 : decode cX4_next 76 = .ok (.goto 25, 3) := by decide +kernel
theorem dX4_next_79 : decode cX4_next 79 = .ok (.aload_n 0, 1) := by decide +kernel
theorem dX4_next_80 : decode cX4_next 80 = .ok (.aload_n 0, 1) := by decide +kernel
theorem dX4_next_81 : decode cX4_next 81 = .ok (.getfield 19, 3) := by decide +kernel
theorem dX4_next_84 : decode cX4_next 84 = .ok (.invokevirtual 44, 3) := by decide +kernel
theorem dX4_next_87 : decode cX4_next 87 = .ok (.ifCond .eq 10, 3) := by decide +kernel
theorem dX4_next_90 : decode cX4_next 90 = .ok (.aload_n 0, 1) := by decide +kernel
theorem dX4_next_91 : decode cX4_next 91 = .ok (.invokevirtual 48, 3) := by decide +kernel
theorem dX4_next_94 : decode cX4_next 94 = .ok (.goto 7, 3) := by decide +kernel
theorem dX4_next_97 : decode cX4_next 97 = .ok (.aload_n 0, 1) := by decide +kernel
theorem dX4_next_98 : decode cX4_next 98 = .ok (.invokevirtual 51, 3) := by decide +kernel
theorem dX4_next_101 : decode cX4_next 101 = .ok (.return_, 1) := by decide +kernel
theorem dX4_isDigit_0 : decode cX4_isDigit 0 = .ok (.iload_n 1, 1) := by decide +kernel
theorem dX4_isDigit_1 : decode cX4_isDigit 1 = .ok (.aload_n 0, 1) := by decide +kernel
theorem dX4_isDigit_2 : decode cX4_isDigit 2 = .ok (.getfield 15, 3) := by decide +kernel
theorem dX4_isDigit_5 : decode cX4_isDigit 5 = .ok (.if_icmp .ge 29, 3) := by decide +kernel
theorem dX4_isDigit_8 : decode cX4_isDigit 8 = .ok (.aload_n 0, 1) := by decide +kernel
theorem dX4_isDigit_9 : decode cX4_isDigit 9 = .ok (.getfield 9, 3) := by decide +kernel
theorem dX4_isDigit_12 : decode cX4_isDigit 12 = .ok (.iload_n 1, 1) := by decide +kernel
theorem dX4_isDigit_13 : decode cX4_isDigit 13 = .ok (.iaload, 1) := by decide +kernel
theorem dX4_isDigit_14 : decode cX4_isDigit 14 = .ok (.bipush 48, 2) := by decide +kernel
theorem dX4_isDigit_16 : decode cX4_isDigit 16 = .ok (.if_icmp .lt 18, 3) := by decide +kernel
theorem dX4_isDigit_19 : decode cX4_isDigit 19 = .ok (.aload_n 0, 1) := by decide +kernel
theorem dX4_isDigit_20 : decode cX4_isDigit 20 = .ok (.getfield 9, 3) := by decide +kernel
theorem dX4_isDigit_23 : decode cX4_isDigit 23 = .ok (.iload_n 1, 1) := by decide +kernel
theorem dX4_isDigit_24 : decode cX4_isDigit 24 = .ok (.iaload, 1) := by decide +kernel
theorem dX4_isDigit_25 : decode cX4_isDigit 25 = .ok (.bipush 57, 2) := by decide +kernel
theorem dX4_isDigit_27 : decode cX4_isDigit 27 = .ok (.if_icmp .gt 7, 3) := by decide +kernel
theorem dX4_isDigit_30 : decode cX4_isDigit 30 = .ok (.iconst 1, 1) := by decide +kernel
theorem dX4_isDigit_31 : decode cX4_isDigit 31 = .ok (.goto 4, 3) := by decide +kernel
theorem dX4_isDigit_34 : decode cX4_isDigit 34 = .ok (.iconst 0, 1) := by decide +kernel
theorem dX4_isDigit_35 : decode cX4_isDigit 35 = .ok (.ireturn, 1) := by decide +kernel
theorem dX4_readNumber_0 : decode cX4_readNumber 0 = .ok (.aload_n 0, 1) := by decide +kernel
theorem dX4_readNumber_1 : decode cX4_readNumber 1 = .ok (.iconst 0, 1) := by decide +kernel
theorem dX4_readNumber_2 : decode cX4_readNumber 2 = .ok (.putfield 41, 3) := by decide +kernel
theorem dX4_readNumber_5 : decode cX4_readNumber 5 = .ok (.aload_n 0, 1) := by decide +kernel
theorem dX4_readNumber_6 : decode cX4_readNumber 6 = .ok (.getfield 19, 3) := by decide +kernel
theorem dX4_readNumber_9 : decode cX4_readNumber 9 = .ok (.aload_n 0, 1) := by decide +kernel
theorem dX4_readNumber_10 : decode cX4_readNumber 10 = .ok (.getfield 15, 3) := by decide +kernel
theorem dX4_readNumber_13 : decode cX4_readNumber 13 = .ok (.if_icmp .ge 64, 3) := by decide +kernel
theorem dX4_readNumber_16 : decode cX4_readNumber 16 = .ok (.aload_n 0, 1) := by decide +kernel
theorem dX4_readNumber_17 : decode cX4_readNumber 17 = .ok (.aload_n 0, 1) := by decide +kernel
theorem dX4_readNumber_18 : decode cX4_readNumber 18 = .ok (.getfield 19, 3) := by decide +kernel
theorem dX4_readNumber_21 : decode cX4_readNumber 21 = .ok (.invokevirtual 44, 3) := by decide +kernel
theorem dX4_readNumber_24 : decode cX4_readNumber 24 = .ok (.ifCond .eq 53, 3) := by decide +kernel
theorem dX4_readNumber_27 : decode cX4_readNumber 27 = .ok (.aload_n 0, 1) := by decide +kernel
theorem dX4_readNumber_28 : decode cX4_readNumber 28 = .ok (.getfield 19, 3) := by decide +kernel
theorem dX4_readNumber_31 : decode cX4_readNumber 31 = .ok (.aload_n 0, 1) := by decide +kernel
theorem dX4_readNumber_32 : decode cX4_readNumber 32 = .ok (.getfield 35, 3) := by decide +kernel
theorem dX4_readNumber_35 : decode cX4_readNumber 35 = .ok (.isub, 1) := by decide +kernel
theorem dX4_readNumber_36 : decode cX4_readNumber 36 = .ok (.iconst 2, 1) := by decide +kernel
theorem dX4_readNumber_37 : decode cX4_readNumber 37 = .ok (.if_icmp .ge 27, 3) := by decide +kernel
theorem dX4_readNumber_40 : decode cX4_readNumber 40 = .ok (.aload_n 0, 1) := by decide +kernel
theorem dX4_readNumber_41 : decode cX4_readNumber 41 = .ok (.aload_n 0, 1) := by decide +kernel
theorem dX4_readNumber_42 : decode cX4_readNumber 42 = .ok (.getfield 41, 3) := by decide +kernel
theorem dX4_readNumber_45 : decode cX4_readNumber 45 = .ok (.bipush 10, 2) := by decide +kernel
theorem dX4_readNumber_47 : decode cX4_readNumber 47 = .ok (.imul, 1) := by decide +kernel
theorem dX4_readNumber_48 : decode cX4_readNumber 48 = .ok (.aload_n 0, 1) := by decide +kernel
theorem dX4_readNumber_49 : decode cX4_readNumber 49 = .ok (.getfield 9, 3) := by decide +kernel
theorem dX4_readNumber_52 : decode cX4_readNumber 52 = .ok (.aload_n 0, 1) := by decide +kernel
theorem dX4_readNumber_53 : decode cX4_readNumber 53 = .ok (.getfield 19, 3) := by decide +kernel
theorem dX4_readNumber_56 : decode cX4_readNumber 56 = .ok (.iaload, 1) := by decide +kernel
theorem dX4_readNumber_57 : decode cX4_readNumber 57 = .ok (.iadd, 1) := by decide +kernel
theorem dX4_readNumber_58 : decode cX4_readNumber 58 = .ok (.bipush 48, 2) := by decide +kernel
theorem dX4_readNumber_60 : decode cX4_readNumber 60 = .ok (.isub, 1) := by decide +kernel
theorem dX4_readNumber_61 : decode cX4_readNumber 61 = .ok (.putfield 41, 3) := by decide +kernel
theorem dX4_readNumber_64 : decode cX4_readNumber 64 = .ok (.aload_n 0, 1) := by decide +kernel
theorem dX4_readNumber_65 : decode cX4_readNumber 65 = .ok (.dup, 1) := by decide +kernel
theorem dX4_readNumber_66 : decode cX4_readNumber 66 = .ok (.getfield 19, 3) := by decide +kernel
theorem dX4_readNumber_69 : decode cX4_readNumber 69 = .ok (.iconst 1, 1) := by decide +kernel
theorem dX4_readNumber_70 : decode cX4_readNumber 70 = .ok (.iadd, 1) := by decide +kernel
theorem dX4_readNumber_71 : decode cX4_readNumber 71 = .ok (.putfield 19, 3) := by decide +kernel
theorem dX4_readNumber_74 : decode cX4_readNumber 74 = .ok (.goto (-69), 3) := by decide +kernel
theorem dX4_readNumber_77 : decode cX4_readNumber 77 = .ok (.aload_n 0, 1) := by decide +kernel
theorem dX4_readNumber_78 : decode cX4_readNumber 78 = .ok (.aload_n 0, 1) := by decide +kernel
theorem dX4_readNumber_79 : decode cX4_readNumber 79 = .ok (.getfield 19, 3) := by decide +kernel
theorem dX4_readNumber_82 : decode cX4_readNumber 82 = .ok (.aload_n 0, 1) := by decide +kernel
theorem dX4_readNumber_83 : decode cX4_readNumber 83 = .ok (.getfield 35, 3) := by decide +kernel
theorem dX4_readNumber_86 : decode cX4_readNumber 86 = .ok (.isub, 1) := by decide +kernel
theorem dX4_readNumber_87 : decode cX4_readNumber 87 = .ok (.iconst 2, 1) := by decide +kernel
theorem dX4_readNumber_88 : decode cX4_readNumber 88 = .ok (.if_icmp .le 7, 3) := by decide +kernel
theorem dX4_readNumber_91 : decode cX4_readNumber 91 = .ok (.iconst 1, 1) := by decide +kernel
theorem dX4_readNumber_92 : decode cX4_readNumber 92 = .ok (.goto 4, 3) := by decide +kernel
theorem dX4_readNumber_95 : decode cX4_readNumber 95 = .ok (.iconst 2, 1) := by decide +kernel
theorem dX4_readNumber_96 : decode cX4_readNumber 96 = .ok (.putfield 28, 3) := by decide +kernel
theorem dX4_readNumber_99 : decode cX4_readNumber 99 = .ok (.return_, 1) := by decide +kernel
theorem dX4_readSign_0 : decode cX4_readSign 0 = .ok (.aload_n 0, 1) := by decide +kernel
theorem dX4_readSign_1 : decode cX4_readSign 1 = .ok (.getfield 9, 3) := by decide +kernel
theorem dX4_readSign_4 : decode cX4_readSign 4 = .ok (.aload_n 0, 1) := by decide +kernel
theorem dX4_readSign_5 : decode cX4_readSign 5 = .ok (.getfield 19, 3) := by decide +kernel
theorem dX4_readSign_8 : decode cX4_readSign 8 = .ok (.iaload, 1) := by decide +kernel
theorem dX4_readSign_9 : decode cX4_readSign 9 = .ok (.istore_n 1, 1) := by decide +kernel
theorem dX4_readSign_10 : decode cX4_readSign 10 = .ok (.aload_n 0, 1) := by decide +kernel
theorem dX4_readSign_11 : decode cX4_readSign 11 = .ok (.dup, 1) := by decide +kernel
theorem dX4_readSign_12 : decode cX4_readSign 12 = .ok (.getfield 19, 3) := by decide +kernel
theorem dX4_readSign_15 : decode cX4_readSign 15 = .ok (.iconst 1, 1) := by decide +kernel
theorem dX4_readSign_16 : decode cX4_readSign 16 = .ok (.iadd, 1) := by decide +kernel
theorem dX4_readSign_17 : decode cX4_readSign 17 = .ok (.putfield 19, 3) := by decide +kernel
theorem dX4_readSign_20 : decode cX4_readSign 20 = .ok (.iload_n 1, 1) := by decide +kernel
theorem dX4_readSign_21 : decode cX4_readSign 21 = .ok (.bipush 33, 2) := by decide +kernel
theorem dX4_readSign_23 : decode cX4_readSign 23 = .ok (.if_icmp .ne 11, 3) := by decide +kernel
theorem dX4_readSign_26 : decode cX4_readSign 26 = .ok (.aload_n 0, 1) := by decide +kernel
theorem dX4_readSign_27 : decode cX4_readSign 27 = .ok (.iconst 3, 1) := by decide +kernel
theorem dX4_readSign_28 : decode cX4_readSign 28 = .ok (.putfield 28, 3) := by decide +kernel
theorem dX4_readSign_31 : decode cX4_readSign 31 = .ok (.goto 91, 3) := by decide +kernel
theorem dX4_readSign_34 : decode cX4_readSign 34 = .ok (.iload_n 1, 1) := by decide +kernel
theorem dX4_readSign_35 : decode cX4_readSign 35 = .ok (.bipush 47, 2) := by decide +kernel
theorem dX4_readSign_37 : decode cX4_readSign 37 = .ok (.if_icmp .ne 11, 3) := by decide +kernel
theorem dX4_readSign_40 : decode cX4_readSign 40 = .ok (.aload_n 0, 1) := by decide +kernel
theorem dX4_readSign_41 : decode cX4_readSign 41 = .ok (.iconst 4, 1) := by decide +kernel
theorem dX4_readSign_42 : decode cX4_readSign 42 = .ok (.putfield 28, 3) := by decide +kernel
theorem dX4_readSign_45 : decode cX4_readSign 45 = .ok (.goto 77, 3) := by decide +kernel
theorem dX4_readSign_48 : decode cX4_readSign 48 = .ok (.iload_n 1, 1) := by decide +kernel
theorem dX4_readSign_49 : decode cX4_readSign 49 = .ok (.bipush 42, 2) := by decide +kernel
theorem dX4_readSign_51 : decode cX4_readSign 51 = .ok (.if_icmp .eq 11, 3) := by decide +kernel
theorem dX4_readSign_54 : decode cX4_readSign 54 = .ok (.aload_n 0, 1) := by decide +kernel
theorem dX4_readSign_55 : decode cX4_readSign 55 = .ok (.iconst 1, 1) := by decide +kernel
theorem dX4_readSign_56 : decode cX4_readSign 56 = .ok (.putfield 28, 3) := by decide +kernel
theorem dX4_readSign_59 : decode cX4_readSign 59 = .ok (.goto 63, 3) := by decide +kernel
theorem dX4_readSign_62 : decode cX4_readSign 62 = .ok (.aload_n 0, 1) := by decide +kernel
theorem dX4_readSign_63 : decode cX4_readSign 63 = .ok (.getfield 19, 3) := by decide +kernel
theorem dX4_readSign_66 : decode cX4_readSign 66 = .ok (.aload_n 0, 1) := by decide +kernel
theorem dX4_readSign_67 : decode cX4_readSign 67 = .ok (.getfield 15, 3) := by decide +kernel
theorem dX4_readSign_70 : decode cX4_readSign 70 = .ok (.if_icmp .ge 42, 3) := by decide +kernel
theorem dX4_readSign_73 : decode cX4_readSign 73 = .ok (.aload_n 0, 1) := by decide +kernel
theorem dX4_readSign_74 : decode cX4_readSign 74 = .ok (.getfield 9, 3) := by decide +kernel
theorem dX4_readSign_77 : decode cX4_readSign 77 = .ok (.aload_n 0, 1) := by decide +kernel
theorem dX4_readSign_78 : decode cX4_readSign 78 = .ok (.getfield 19, 3) := by decide +kernel
theorem dX4_readSign_81 : decode cX4_readSign 81 = .ok (.iaload, 1) := by decide +kernel
theorem dX4_readSign_82 : decode cX4_readSign 82 = .ok (.bipush 42, 2) := by decide +kernel
theorem dX4_readSign_84 : decode cX4_readSign 84 = .ok (.if_icmp .ne 28, 3) := by decide +kernel
theorem dX4_readSign_87 : decode cX4_readSign 87 = .ok (.aload_n 0, 1) := by decide +kernel
theorem dX4_readSign_88 : decode cX4_readSign 88 = .ok (.dup, 1) := by decide +kernel
theorem dX4_readSign_89 : decode cX4_readSign 89 = .ok (.getfield 19, 3) := by decide +kernel
theorem dX4_readSign_92 : decode cX4_readSign 92 = .ok (.iconst 1, 1) := by decide +kernel
theorem dX4_readSign_93 : decode cX4_readSign 93 = .ok (.iadd, 1) := by decide +kernel
theorem dX4_readSign_94 : decode cX4_readSign 94 = .ok (.putfield 19, 3) := by decide +kernel
theorem dX4_readSign_97 : decode cX4_readSign 97 = .ok (.aload_n 0, 1) := by decide +kernel
theorem dX4_readSign_98 : decode cX4_readSign 98 = .ok (.bipush 6, 2) := by decide +kernel
theorem dX4_readSign_100 : decode cX4_readSign 100 = .ok (.putfield 28, 3) := by decide +kernel
theorem dX4_readSign_103 : decode cX4_readSign 103 = .ok (.aload_n 0, 1) := by decide +kernel
theorem dX4_readSign_104 : decode cX4_readSign 104 = .ok (.bipush (-2), 2) := by decide +kernel
theorem dX4_readSign_106 : decode cX4_readSign 106 = .ok (.putfield 41, 3) := by decide +kernel
theorem dX4_readSign_109 : decode cX4_readSign 109 = .ok (.goto 13, 3) := by decide +kernel
theorem dX4_readSign_112 : decode cX4_readSign 112 = .ok (.aload_n 0, 1) := by decide +kernel
theorem dX4_readSign_113 : decode cX4_readSign 113 = .ok (.iconst 5, 1) := by decide +kernel
theorem dX4_readSign_114 : decode cX4_readSign 114 = .ok (.putfield 28, 3) := by decide +kernel
theorem dX4_readSign_117 : decode cX4_readSign 117 = .ok (.aload_n 0, 1) := by decide +kernel
theorem dX4_readSign_118 : decode cX4_readSign 118 = .ok (.iconst (-1), 1) := by decide +kernel
theorem dX4_readSign_119 : decode cX4_readSign 119 = .ok (.putfield 41, 3) := by decide +kernel
theorem dX4_readSign_122 : decode cX4_readSign 122 = .ok (.return_, 1) := by decide +kernel
theorem dX5_init_0 : decode cX5_init 0 = .ok (.aload_n 0, 1) := by decide +kernel
theorem dX5_init_1 : decode cX5_init 1 = .ok (.invokespecial 3, 3) := by decide +kernel
theorem dX5_init_4 : decode cX5_init 4 = .ok (.aload_n 0, 1) := by decide +kernel
theorem dX5_init_5 : decode cX5_init 5 = .ok (.bipush 30, 2) := by decide +kernel
theorem dX5_init_7 : decode cX5_init 7 = .ok (.newarray .boolean, 2) := by decide +kernel
theorem dX5_init_9 : decode cX5_init 9 = .ok (.putfield 9, 3) := by decide +kernel
theorem dX5_init_12 : decode cX5_init 12 = .ok (.aload_n 0, 1) := by decide +kernel
theorem dX5_init_13 : decode cX5_init 13 = .ok (.bipush 30, 2) := by decide +kernel
theorem dX5_init_15 : decode cX5_init 15 = .ok (.newarray .int, 2) := by decide +kernel
theorem dX5_init_17 : decode cX5_init 17 = .ok (.putfield 15, 3) := by decide +kernel
theorem dX5_init_20 : decode cX5_init 20 = .ok (.aload_n 0, 1) := by decide +kernel
theorem dX5_init_21 : decode cX5_init 21 = .ok (.bipush 30, 2) := by decide +kernel
theorem dX5_init_23 : decode cX5_init 23 = .ok (.newarray .int, 2) := by decide +kernel
theorem dX5_init_25 : decode cX5_init 25 = .ok (.putfield 19, 3) := by decide +kernel
theorem dX5_init_28 : decode cX5_init 28 = .ok (.aload_n 0, 1) := by decide +kernel
theorem dX5_init_29 : decode cX5_init 29 = .ok (.bipush 30, 2) := by decide +kernel
theorem dX5_init_31 : decode cX5_init 31 = .ok (.newarray .int, 2) := by decide +kernel
theorem dX5_init_33 : decode cX5_init 33 = .ok (.putfield 22, 3) := by decide +kernel
theorem dX5_init_36 : decode cX5_init 36 = .ok (.aload_n 0, 1) := by decide +kernel
theorem dX5_init_37 : decode cX5_init 37 = .ok (.invokevirtual 25, 3) := by decide +kernel
theorem dX5_init_40 : decode cX5_init 40 = .ok (.return_, 1) := by decide +kernel
theorem dX5_clear_0 : decode cX5_clear 0 = .ok (.iconst 0, 1) := by decide +kernel
theorem dX5_clear_1 : decode cX5_clear 1 = .ok (.istore_n 1, 1) := by decide +kernel
theorem dX5_clear_2 : decode cX5_clear 2 = .ok (.iload_n 1, 1) := by decide +kernel
theorem dX5_clear_3 : decode cX5_clear 3 = .ok (.bipush 30, 2) := by decide +kernel
theorem dX5_clear_5 : decode cX5_clear 5 = .ok (.if_icmp .ge 14, 3) := by decide +kernel
theorem dX5_clear_8 : decode cX5_clear 8 = .ok (.aload_n 0, 1) := by decide +kernel
theorem dX5_clear_9 : decode cX5_clear 9 = .ok (.iload_n 1, 1) := by decide +kernel
theorem dX5_clear_10 : decode cX5_clear 10 = .ok (.invokevirtual 28, 3) := by decide +kernel
theorem dX5_clear_13 : decode cX5_clear 13 = .ok (.iinc 1 1, 3) := by decide +kernel
theorem dX5_clear_16 : decode cX5_clear 16 = .ok (.goto (-14), 3) := by decide +kernel
theorem dX5_clear_19 : decode cX5_clear 19 = .ok (.return_, 1) := by decide +kernel
theorem dX5_become_0 : decode cX5_become 0 = .ok (.iconst 0, 1) := by decide +kernel
theorem dX5_become_1 : decode cX5_become 1 = .ok (.istore_n 2, 1) := by decide +kernel
theorem dX5_become_2 : decode cX5_become 2 = .ok (.iload_n 2, 1) := by decide +kernel
theorem dX5_become_3 : decode cX5_become 3 = .ok (.bipush 30, 2) := by decide +kernel
theorem dX5_become_5 : decode cX5_become 5 = .ok (.if_icmp .ge 15, 3) := by decide +kernel
theorem dX5_become_8 : decode cX5_become 8 = .ok (.aload_n 0, 1) := by decide +kernel
theorem dX5_become_9 : decode cX5_become 9 = .ok (.aload_n 1, 1) := by decide +kernel
theorem dX5_become_10 : decode cX5_become 10 = .ok (.iload_n 2, 1) := by decide +kernel
theorem dX5_become_11 : decode cX5_become 11 = .ok (.invokevirtual 32, 3) := by decide +kernel
theorem dX5_become_14 : decode cX5_become 14 = .ok (.iinc 2 1, 3) := by decide +kernel
theorem dX5_become_17 : decode cX5_become 17 = .ok (.goto (-15), 3) := by decide +kernel
theorem dX5_become_20 : decode cX5_become 20 = .ok (.return_, 1) := by decide +kernel
theorem dX5_putAsIn_0 : decode cX5_putAsIn 0 = .ok (.aload_n 0, 1) := by decide +kernel
theorem dX5_putAsIn_1 : decode cX5_putAsIn 1 = .ok (.getfield 9, 3) := by decide +kernel
theorem dX5_putAsIn_4 : decode cX5_putAsIn 4 = .ok (.iload_n 2, 1) := by decide +kernel
theorem dX5_putAsIn_5 : decode cX5_putAsIn 5 = .ok (.aload_n 1, 1) := by decide +kernel
theorem dX5_putAsIn_6 : decode cX5_putAsIn 6 = .ok (.getfield 9, 3) := by decide +kernel
theorem dX5_putAsIn_9 : decode cX5_putAsIn 9 = .ok (.iload_n 2, 1) := by decide +kernel
theorem dX5_putAsIn_10 : decode cX5_putAsIn 10 = .ok (.baload, 1) := by decide +kernel
theorem dX5_putAsIn_11 : decode cX5_putAsIn 11 = .ok (.bastore, 1) := by decide +kernel
theorem dX5_putAsIn_12 : decode cX5_putAsIn 12 = .ok (.aload_n 0, 1) := by decide +kernel
theorem dX5_putAsIn_13 : decode cX5_putAsIn 13 = .ok (.getfield 15, 3) := by decide +kernel
theorem dX5_putAsIn_16 : decode cX5_putAsIn 16 = .ok (.iload_n 2, 1) := by decide +kernel
theorem dX5_putAsIn_17 : decode cX5_putAsIn 17 = .ok (.aload_n 1, 1) := by decide +kernel
theorem dX5_putAsIn_18 : decode cX5_putAsIn 18 = .ok (.getfield 15, 3) := by decide +kernel
theorem dX5_putAsIn_21 : decode cX5_putAsIn 21 = .ok (.iload_n 2, 1) := by decide +kernel
theorem dX5_putAsIn_22 : decode cX5_putAsIn 22 = .ok (.iaload, 1) := by decide +kernel
theorem dX5_putAsIn_23 : decode cX5_putAsIn 23 = .ok (.iastore, 1) := by decide +kernel
theorem dX5_putAsIn_24 : decode cX5_putAsIn 24 = .ok (.aload_n 0, 1) := by decide +kernel
theorem dX5_putAsIn_25 : decode cX5_putAsIn 25 = .ok (.getfield 19, 3) := by decide +kernel
theorem dX5_putAsIn_28 : decode cX5_putAsIn 28 = .ok (.iload_n 2, 1) := by decide +kernel
theorem dX5_putAsIn_29 : decode cX5_putAsIn 29 = .ok (.aload_n 1, 1) := by decide +kernel
theorem dX5_putAsIn_30 : decode cX5_putAsIn 30 = .ok (.getfield 19, 3) := by decide +kernel
theorem dX5_putAsIn_33 : decode cX5_putAsIn 33 = .ok (.iload_n 2, 1) := by decide +kernel
theorem dX5_putAsIn_34 : decode cX5_putAsIn 34 = .ok (.iaload, 1) := by decide +kernel
theorem dX5_putAsIn_35 : decode cX5_putAsIn 35 = .ok (.iastore, 1) := by decide +kernel
theorem dX5_putAsIn_36 : decode cX5_putAsIn 36 = .ok (.aload_n 0, 1) := by decide +kernel
theorem dX5_putAsIn_37 : decode cX5_putAsIn 37 = .ok (.getfield 22, 3) := by decide +kernel
theorem dX5_putAsIn_40 : decode cX5_putAsIn 40 = .ok (.iload_n 2, 1) := by decide +kernel
theorem dX5_putAsIn_41 : decode cX5_putAsIn 41 = .ok (.aload_n 1, 1) := by decide +kernel
theorem dX5_putAsIn_42 : decode cX5_putAsIn 42 = .ok (.getfield 22, 3) := by decide +kernel
theorem dX5_putAsIn_45 : decode cX5_putAsIn 45 = .ok (.iload_n 2, 1) := by decide +kernel
theorem dX5_putAsIn_46 : decode cX5_putAsIn 46 = .ok (.iaload, 1) := by decide +kernel
theorem dX5_putAsIn_47 : decode cX5_putAsIn 47 = .ok (.iastore, 1) := by decide +kernel
theorem dX5_putAsIn_48 : decode cX5_putAsIn 48 = .ok (.return_, 1) := by decide +kernel
theorem dX5_put_0 : decode cX5_put 0 = .ok (.aload_n 0, 1) := by decide +kernel
theorem dX5_put_1 : decode cX5_put 1 = .ok (.getfield 9, 3) := by decide +kernel
theorem dX5_put_4 : decode cX5_put 4 = .ok (.iload_n 1, 1) := by decide +kernel
theorem dX5_put_5 : decode cX5_put 5 = .ok (.iconst 1, 1) := by decide +kernel
theorem dX5_put_6 : decode cX5_put 6 = .ok (.bastore, 1) := by decide +kernel
theorem dX5_put_7 : decode cX5_put 7 = .ok (.aload_n 0, 1) := by decide +kernel
theorem dX5_put_8 : decode cX5_put 8 = .ok (.getfield 15, 3) := by decide +kernel
theorem dX5_put_11 : decode cX5_put 11 = .ok (.iload_n 1, 1) := by decide +kernel
theorem dX5_put_12 : decode cX5_put 12 = .ok (.iload_n 2, 1) := by decide +kernel
theorem dX5_put_13 : decode cX5_put 13 = .ok (.iastore, 1) := by decide +kernel
theorem dX5_put_14 : decode cX5_put 14 = .ok (.aload_n 0, 1) := by decide +kernel
theorem dX5_put_15 : decode cX5_put 15 = .ok (.getfield 19, 3) := by decide +kernel
theorem dX5_put_18 : decode cX5_put 18 = .ok (.iload_n 1, 1) := by decide +kernel
theorem dX5_put_19 : decode cX5_put 19 = .ok (.iload_n 3, 1) := by decide +kernel
theorem dX5_put_20 : decode cX5_put 20 = .ok (.iastore, 1) := by decide +kernel
theorem dX5_put_21 : decode cX5_put 21 = .ok (.aload_n 0, 1) := by decide +kernel
theorem dX5_put_22 : decode cX5_put 22 = .ok (.getfield 22, 3) := by decide +kernel
theorem dX5_put_25 : decode cX5_put 25 = .ok (.iload_n 1, 1) := by decide +kernel
theorem dX5_put_26 : decode cX5_put 26 = .ok (.iload 4, 2) := by decide +kernel
theorem dX5_put_28 : decode cX5_put 28 = .ok (.iastore, 1) := by decide +kernel
theorem dX5_put_29 : decode cX5_put 29 = .ok (.return_, 1) := by decide +kernel
theorem dX5_takeOut_0 : decode cX5_takeOut 0 = .ok (.aload_n 0, 1) := by decide +kernel
theorem dX5_takeOut_1 : decode cX5_takeOut 1 = .ok (.getfield 9, 3) := by decide +kernel
theorem dX5_takeOut_4 : decode cX5_takeOut 4 = .ok (.iload_n 1, 1) := by decide +kernel
theorem dX5_takeOut_5 : decode cX5_takeOut 5 = .ok (.iconst 0, 1) := by decide +kernel
theorem dX5_takeOut_6 : decode cX5_takeOut 6 = .ok (.bastore, 1) := by decide +kernel
theorem dX5_takeOut_7 : decode cX5_takeOut 7 = .ok (.aload_n 0, 1) := by decide +kernel
theorem dX5_takeOut_8 : decode cX5_takeOut 8 = .ok (.getfield 15, 3) := by decide +kernel
theorem dX5_takeOut_11 : decode cX5_takeOut 11 = .ok (.iload_n 1, 1) := by decide +kernel
theorem dX5_takeOut_12 : decode cX5_takeOut 12 = .ok (.iconst (-1), 1) := by decide +kernel
theorem dX5_takeOut_13 : decode cX5_takeOut 13 = .ok (.iastore, 1) := by decide +kernel
theorem dX5_takeOut_14 : decode cX5_takeOut 14 = .ok (.aload_n 0, 1) := by decide +kernel
theorem dX5_takeOut_15 : decode cX5_takeOut 15 = .ok (.getfield 19, 3) := by decide +kernel
theorem dX5_takeOut_18 : decode cX5_takeOut 18 = .ok (.iload_n 1, 1) := by decide +kernel
theorem dX5_takeOut_19 : decode cX5_takeOut 19 = .ok (.iconst (-1), 1) := by decide +kernel
theorem dX5_takeOut_20 : decode cX5_takeOut 20 = .ok (.iastore, 1) := by decide +kernel
theorem dX5_takeOut_21 : decode cX5_takeOut 21 = .ok (.aload_n 0, 1) := by decide +kernel
theorem dX5_takeOut_22 : decode cX5_takeOut 22 = .ok (.getfield 22, 3) := by decide +kernel
theorem dX5_takeOut_25 : decode cX5_takeOut 25 = .ok (.iload_n 1, 1) := by decide +kernel
theorem dX5_takeOut_26 : decode cX5_takeOut 26 = .ok (.iconst (-1), 1) := by decide +kernel
theorem dX5_takeOut_27 : decode cX5_takeOut 27 = .ok (.iastore, 1) := by decide +kernel
theorem dX5_takeOut_28 : decode cX5_takeOut 28 = .ok (.return_, 1) := by decide +kernel
theorem dX5_has_0 : decode cX5_has 0 = .ok (.iload_n 1, 1) := by decide +kernel
theorem dX5_has_1 : decode cX5_has 1 = .ok (.ifCond .lt 22, 3) := by decide +kernel
theorem dX5_has_4 : decode cX5_has 4 = .ok (.iload_n 1, 1) := by decide +kernel
theorem dX5_has_5 : decode cX5_has 5 = .ok (.bipush 30, 2) := by decide +kernel
theorem dX5_has_7 : decode cX5_has 7 = .ok (.if_icmp .ge 16, 3) := by decide +kernel
theorem dX5_has_10 : decode cX5_has 10 = .ok (.aload_n 0, 1) := by decide +kernel
theorem dX5_has_11 : decode cX5_has 11 = .ok (.getfield 9, 3) := by decide +kernel
theorem dX5_has_14 : decode cX5_has 14 = .ok (.iload_n 1, 1) := by decide +kernel
theorem dX5_has_15 : decode cX5_has 15 = .ok (.baload, 1) := by decide +kernel
theorem dX5_has_16 : decode cX5_has 16 = .ok (.ifCond .eq 7, 3) := by decide +kernel
theorem dX5_has_19 : decode cX5_has 19 = .ok (.iconst 1, 1) := by decide +kernel
theorem dX5_has_20 : decode cX5_has 20 = .ok (.goto 4, 3) := by decide +kernel
theorem dX5_has_23 : decode cX5_has 23 = .ok (.iconst 0, 1) := by decide +kernel
theorem dX5_has_24 : decode cX5_has 24 = .ok (.ireturn, 1) := by decide +kernel
theorem dX5_size_0 : decode cX5_size 0 = .ok (.iconst 0, 1) := by decide +kernel
theorem dX5_size_1 : decode cX5_size 1 = .ok (.istore_n 1, 1) := by decide +kernel
theorem dX5_size_2 : decode cX5_size 2 = .ok (.iconst 0, 1) := by decide +kernel
theorem dX5_size_3 : decode cX5_size 3 = .ok (.istore_n 2, 1) := by decide +kernel
theorem dX5_size_4 : decode cX5_size 4 = .ok (.iload_n 2, 1) := by decide +kernel
theorem dX5_size_5 : decode cX5_size 5 = .ok (.bipush 30, 2) := by decide +kernel
theorem dX5_size_7 : decode cX5_size 7 = .ok (.if_icmp .ge 21, 3) := by decide +kernel
theorem dX5_size_10 : decode cX5_size 10 = .ok (.aload_n 0, 1) := by decide +kernel
theorem dX5_size_11 : decode cX5_size 11 = .ok (.getfield 9, 3) := by decide +kernel
theorem dX5_size_14 : decode cX5_size 14 = .ok (.iload_n 2, 1) := by decide +kernel
theorem dX5_size_15 : decode cX5_size 15 = .ok (.baload, 1) := by decide +kernel
theorem dX5_size_16 : decode cX5_size 16 = .ok (.ifCond .eq 6, 3) := by decide +kernel
theorem dX5_size_19 : decode cX5_size 19 = .ok (.iinc 1 1, 3) := by decide +kernel
theorem dX5_size_22 : decode cX5_size 22 = .ok (.iinc 2 1, 3) := by decide +kernel
theorem dX5_size_25 : decode cX5_size 25 = .ok (.goto (-21), 3) := by decide +kernel
theorem dX5_size_28 : decode cX5_size 28 = .ok (.iload_n 1, 1) := by decide +kernel
theorem dX5_size_29 : decode cX5_size 29 = .ok (.ireturn, 1) := by decide +kernel
theorem dX5_isAt_0 : decode cX5_isAt 0 = .ok (.aload_n 0, 1) := by decide +kernel
theorem dX5_isAt_1 : decode cX5_isAt 1 = .ok (.getfield 9, 3) := by decide +kernel
theorem dX5_isAt_4 : decode cX5_isAt 4 = .ok (.iload_n 1, 1) := by decide +kernel
theorem dX5_isAt_5 : decode cX5_isAt 5 = .ok (.baload, 1) := by decide +kernel
theorem dX5_isAt_6 : decode cX5_isAt 6 = .ok (.ifCond .eq 27, 3) := by decide +kernel
theorem dX5_isAt_9 : decode cX5_isAt 9 = .ok (.aload_n 0, 1) := by decide +kernel
theorem dX5_isAt_10 : decode cX5_isAt 10 = .ok (.getfield 15, 3) := by decide +kernel
theorem dX5_isAt_13 : decode cX5_isAt 13 = .ok (.iload_n 1, 1) := by decide +kernel
theorem dX5_isAt_14 : decode cX5_isAt 14 = .ok (.iaload, 1) := by decide +kernel
theorem dX5_isAt_15 : decode cX5_isAt 15 = .ok (.iload_n 2, 1) := by decide +kernel
theorem dX5_isAt_16 : decode cX5_isAt 16 = .ok (.if_icmp .ne 17, 3) := by decide +kernel
theorem dX5_isAt_19 : decode cX5_isAt 19 = .ok (.aload_n 0, 1) := by decide +kernel
theorem dX5_isAt_20 : decode cX5_isAt 20 = .ok (.getfield 19, 3) := by decide +kernel
theorem dX5_isAt_23 : decode cX5_isAt 23 = .ok (.iload_n 1, 1) := by decide +kernel
theorem dX5_isAt_24 : decode cX5_isAt 24 = .ok (.iaload, 1) := by decide +kernel
theorem dX5_isAt_25 : decode cX5_isAt 25 = .ok (.iload_n 3, 1) := by decide +kernel
theorem dX5_isAt_26 : decode cX5_isAt 26 = .ok (.if_icmp .ne 7, 3) := by decide +kernel
theorem dX5_isAt_29 : decode cX5_isAt 29 = .ok (.iconst 1, 1) := by decide +kernel
theorem dX5_isAt_30 : decode cX5_isAt 30 = .ok (.goto 4, 3) := by decide +kernel
theorem dX5_isAt_33 : decode cX5_isAt 33 = .ok (.iconst 0, 1) := by decide +kernel
theorem dX5_isAt_34 : decode cX5_isAt 34 = .ok (.ireturn, 1) := by decide +kernel
theorem dX5_standing_0 : decode cX5_standing 0 = .ok (.iconst 0, 1) := by decide +kernel
theorem dX5_standing_1 : decode cX5_standing 1 = .ok (.istore_n 3, 1) := by decide +kernel
theorem dX5_standing_2 : decode cX5_standing 2 = .ok (.iload_n 3, 1) := by decide +kernel
theorem dX5_standing_3 : decode cX5_standing 3 = .ok (.bipush 30, 2) := by decide +kernel
theorem dX5_standing_5 : decode cX5_standing 5 = .ok (.if_icmp .ge 21, 3) := by decide +kernel
theorem dX5_standing_8 : decode cX5_standing 8 = .ok (.aload_n 0, 1) := by decide +kernel
theorem dX5_standing_9 : decode cX5_standing 9 = .ok (.iload_n 3, 1) := by decide +kernel
theorem dX5_standing_10 : decode cX5_standing 10 = .ok (.iload_n 1, 1) := by decide +kernel
theorem dX5_standing_11 : decode cX5_standing 11 = .ok (.iload_n 2, 1) := by decide +kernel
theorem dX5_standing_12 : decode cX5_standing 12 = .ok (.invokevirtual 36, 3) := by decide +kernel
theorem dX5_standing_15 : decode cX5_standing 15 = .ok (.ifCond .eq 5, 3) := by decide +kernel
theorem dX5_standing_18 : decode cX5_standing 18 = .ok (.iload_n 3, 1) := by decide +kernel
theorem dX5_standing_19 : decode cX5_standing 19 = .ok (.ireturn, 1) := by decide +kernel
theorem dX5_standing_20 : decode cX5_standing 20 = .ok (.iinc 3 1, 3) := by decide +kernel
theorem dX5_standing_23 : decode cX5_standing 23 = .ok (.goto (-21), 3) := by decide +kernel
theorem dX5_standing_26 : decode cX5_standing 26 = .ok (.iconst (-1), 1) := by decide +kernel
theorem dX5_standing_27 : decode cX5_standing 27 = .ok (.ireturn, 1) := by decide +kernel
theorem dX5_stepsUp_0 : decode cX5_stepsUp 0 = .ok (.iload_n 1, 1) := by decide +kernel
theorem dX5_stepsUp_1 : decode cX5_stepsUp 1 = .ok (.istore_n 3, 1) := by decide +kernel
theorem dX5_stepsUp_2 : decode cX5_stepsUp 2 = .ok (.iconst 0, 1) := by decide +kernel
theorem dX5_stepsUp_3 : decode cX5_stepsUp 3 = .ok (.istore 4, 2) := by decide +kernel
theorem dX5_stepsUp_5 : decode cX5_stepsUp 5 = .ok (.iload 4, 2) := by decide +kernel
theorem dX5_stepsUp_7 : decode cX5_stepsUp 7 = .ok (.bipush 30, 2) := by decide +kernel
theorem dX5_stepsUp_9 : decode cX5_stepsUp 9 = .ok (.if_icmp .gt 45, 3) := by decide +kernel
theorem dX5_stepsUp_12 : decode cX5_stepsUp 12 = .ok (.iload_n 3, 1) := by decide +kernel
theorem dX5_stepsUp_13 : decode cX5_stepsUp 13 = .ok (.ifCond .lt 18, 3) := by decide +kernel
theorem dX5_stepsUp_16 : decode cX5_stepsUp 16 = .ok (.iload_n 3, 1) := by decide +kernel
theorem dX5_stepsUp_17 : decode cX5_stepsUp 17 = .ok (.bipush 30, 2) := by decide +kernel
theorem dX5_stepsUp_19 : decode cX5_stepsUp 19 = .ok (.if_icmp .ge 12, 3) := by decide +kernel
theorem dX5_stepsUp_22 : decode cX5_stepsUp 22 = .ok (.aload_n 0, 1) := by decide +kernel
theorem dX5_stepsUp_23 : decode cX5_stepsUp 23 = .ok (.getfield 9, 3) := by decide +kernel
theorem dX5_stepsUp_26 : decode cX5_stepsUp 26 = .ok (.iload_n 3, 1) := by decide +kernel
theorem dX5_stepsUp_27 : decode cX5_stepsUp 27 = .ok (.baload, 1) := by decide +kernel
theorem dX5_stepsUp_28 : decode cX5_stepsUp 28 = .ok (.ifCond .ne 5, 3) := by decide +kernel
theorem dX5_stepsUp_31 : decode cX5_stepsUp 31 = .ok (.iconst (-1), 1) := by decide +kernel
theorem dX5_stepsUp_32 : decode cX5_stepsUp 32 = .ok (.ireturn, 1) := by decide +kernel
theorem dX5_stepsUp_33 : decode cX5_stepsUp 33 = .ok (.iload_n 3, 1) := by decide +kernel
theorem dX5_stepsUp_34 : decode cX5_stepsUp 34 = .ok (.iload_n 2, 1) := by decide +kernel
theorem dX5_stepsUp_35 : decode cX5_stepsUp 35 = .ok (.if_icmp .ne 6, 3) := by decide +kernel
theorem dX5_stepsUp_38 : decode cX5_stepsUp 38 = .ok (.iload 4, 2) := by decide +kernel
theorem dX5_stepsUp_40 : decode cX5_stepsUp 40 = .ok (.ireturn, 1) := by decide +kernel
theorem dX5_stepsUp_41 : decode cX5_stepsUp 41 = .ok (.aload_n 0, 1) := by decide +kernel
theorem dX5_stepsUp_42 : decode cX5_stepsUp 42 = .ok (.getfield 15, 3) := by decide +kernel
theorem dX5_stepsUp_45 : decode cX5_stepsUp 45 = .ok (.iload_n 3, 1) := by decide +kernel
theorem dX5_stepsUp_46 : decode cX5_stepsUp 46 = .ok (.iaload, 1) := by decide +kernel
theorem dX5_stepsUp_47 : decode cX5_stepsUp 47 = .ok (.istore_n 3, 1) := by decide +kernel
theorem dX5_stepsUp_48 : decode cX5_stepsUp 48 = .ok (.iinc 4 1, 3) := by decide +kernel
theorem dX5_stepsUp_51 : decode cX5_stepsUp 51 = .ok (.goto (-46), 3) := by decide +kernel
theorem dX5_stepsUp_54 : decode cX5_stepsUp 54 = .ok (.iconst (-1), 1) := by decide +kernel
theorem dX5_stepsUp_55 : decode cX5_stepsUp 55 = .ok (.ireturn, 1) := by decide +kernel
theorem dX5_isInner_0 : decode cX5_isInner 0 = .ok (.aload_n 0, 1) := by decide +kernel
theorem dX5_isInner_1 : decode cX5_isInner 1 = .ok (.iload_n 1, 1) := by decide +kernel
theorem dX5_isInner_2 : decode cX5_isInner 2 = .ok (.invokevirtual 40, 3) := by decide +kernel
theorem dX5_isInner_5 : decode cX5_isInner 5 = .ok (.ifCond .eq 22, 3) := by decide +kernel
theorem dX5_isInner_8 : decode cX5_isInner 8 = .ok (.aload_n 0, 1) := by decide +kernel
theorem dX5_isInner_9 : decode cX5_isInner 9 = .ok (.aload_n 0, 1) := by decide +kernel
theorem dX5_isInner_10 : decode cX5_isInner 10 = .ok (.getfield 15, 3) := by decide +kernel
theorem dX5_isInner_13 : decode cX5_isInner 13 = .ok (.iload_n 1, 1) := by decide +kernel
theorem dX5_isInner_14 : decode cX5_isInner 14 = .ok (.iaload, 1) := by decide +kernel
theorem dX5_isInner_15 : decode cX5_isInner 15 = .ok (.iload_n 2, 1) := by decide +kernel
theorem dX5_isInner_16 : decode cX5_isInner 16 = .ok (.invokevirtual 44, 3) := by decide +kernel
theorem dX5_isInner_19 : decode cX5_isInner 19 = .ok (.iconst (-1), 1) := by decide +kernel
theorem dX5_isInner_20 : decode cX5_isInner 20 = .ok (.if_icmp .eq 7, 3) := by decide +kernel
theorem dX5_isInner_23 : decode cX5_isInner 23 = .ok (.iconst 1, 1) := by decide +kernel
theorem dX5_isInner_24 : decode cX5_isInner 24 = .ok (.goto 4, 3) := by decide +kernel
theorem dX5_isInner_27 : decode cX5_isInner 27 = .ok (.iconst 0, 1) := by decide +kernel
theorem dX5_isInner_28 : decode cX5_isInner 28 = .ok (.ireturn, 1) := by decide +kernel
theorem dX5_innerOnes_0 : decode cX5_innerOnes 0 = .ok (.iconst 0, 1) := by decide +kernel
theorem dX5_innerOnes_1 : decode cX5_innerOnes 1 = .ok (.istore_n 2, 1) := by decide +kernel
theorem dX5_innerOnes_2 : decode cX5_innerOnes 2 = .ok (.iconst 0, 1) := by decide +kernel
theorem dX5_innerOnes_3 : decode cX5_innerOnes 3 = .ok (.istore_n 3, 1) := by decide +kernel
theorem dX5_innerOnes_4 : decode cX5_innerOnes 4 = .ok (.iload_n 3, 1) := by decide +kernel
theorem dX5_innerOnes_5 : decode cX5_innerOnes 5 = .ok (.bipush 30, 2) := by decide +kernel
theorem dX5_innerOnes_7 : decode cX5_innerOnes 7 = .ok (.if_icmp .ge 21, 3) := by decide +kernel
theorem dX5_innerOnes_10 : decode cX5_innerOnes 10 = .ok (.aload_n 0, 1) := by decide +kernel
theorem dX5_innerOnes_11 : decode cX5_innerOnes 11 = .ok (.iload_n 3, 1) := by decide +kernel
theorem dX5_innerOnes_12 : decode cX5_innerOnes 12 = .ok (.iload_n 1, 1) := by decide +kernel
theorem dX5_innerOnes_13 : decode cX5_innerOnes 13 = .ok (.invokevirtual 48, 3) := by decide +kernel
theorem dX5_innerOnes_16 : decode cX5_innerOnes 16 = .ok (.ifCond .eq 6, 3) := by decide +kernel
theorem dX5_innerOnes_19 : decode cX5_innerOnes 19 = .ok (.iinc 2 1, 3) := by decide +kernel
theorem dX5_innerOnes_22 : decode cX5_innerOnes 22 = .ok (.iinc 3 1, 3) := by decide +kernel
theorem dX5_innerOnes_25 : decode cX5_innerOnes 25 = .ok (.goto (-21), 3) := by decide +kernel
theorem dX5_innerOnes_28 : decode cX5_innerOnes 28 = .ok (.iload_n 2, 1) := by decide +kernel
theorem dX5_innerOnes_29 : decode cX5_innerOnes 29 = .ok (.ireturn, 1) := by decide +kernel
theorem dX5_depth_0 : decode cX5_depth 0 = .ok (.iconst 0, 1) := by decide +kernel
theorem dX5_depth_1 : decode cX5_depth 1 = .ok (.istore_n 2, 1) := by decide +kernel
theorem dX5_depth_2 : decode cX5_depth 2 = .ok (.iload_n 1, 1) := by decide +kernel
theorem dX5_depth_3 : decode cX5_depth 3 = .ok (.istore_n 3, 1) := by decide +kernel
theorem dX5_depth_4 : decode cX5_depth 4 = .ok (.iload_n 2, 1) := by decide +kernel
theorem dX5_depth_5 : decode cX5_depth 5 = .ok (.bipush 30, 2) := by decide +kernel
theorem dX5_depth_7 : decode cX5_depth 7 = .ok (.if_icmp .ge 35, 3) := by decide +kernel
theorem dX5_depth_10 : decode cX5_depth 10 = .ok (.iload_n 3, 1) := by decide +kernel
theorem dX5_depth_11 : decode cX5_depth 11 = .ok (.ifCond .lt 31, 3) := by decide +kernel
theorem dX5_depth_14 : decode cX5_depth 14 = .ok (.iload_n 3, 1) := by decide +kernel
theorem dX5_depth_15 : decode cX5_depth 15 = .ok (.bipush 30, 2) := by decide +kernel
theorem dX5_depth_17 : decode cX5_depth 17 = .ok (.if_icmp .ge 25, 3) := by decide +kernel
theorem dX5_depth_20 : decode cX5_depth 20 = .ok (.aload_n 0, 1) := by decide +kernel
theorem dX5_depth_21 : decode cX5_depth 21 = .ok (.getfield 9, 3) := by decide +kernel
theorem dX5_depth_24 : decode cX5_depth 24 = .ok (.iload_n 3, 1) := by decide +kernel
theorem dX5_depth_25 : decode cX5_depth 25 = .ok (.baload, 1) := by decide +kernel
theorem dX5_depth_26 : decode cX5_depth 26 = .ok (.ifCond .eq 16, 3) := by decide +kernel
theorem dX5_depth_29 : decode cX5_depth 29 = .ok (.iinc 2 1, 3) := by decide +kernel
theorem dX5_depth_32 : decode cX5_depth 32 = .ok (.aload_n 0, 1) := by decide +kernel
theorem dX5_depth_33 : decode cX5_depth 33 = .ok (.getfield 15, 3) := by decide +kernel
theorem dX5_depth_36 : decode cX5_depth 36 = .ok (.iload_n 3, 1) := by decide +kernel
theorem dX5_depth_37 : decode cX5_depth 37 = .ok (.iaload, 1) := by decide +kernel
theorem dX5_depth_38 : decode cX5_depth 38 = .ok (.istore_n 3, 1) := by decide +kernel
theorem dX5_depth_39 : decode cX5_depth 39 = .ok (.goto (-35), 3) := by decide +kernel
theorem dX5_depth_42 : decode cX5_depth 42 = .ok (.iload_n 2, 1) := by decide +kernel
theorem dX5_depth_43 : decode cX5_depth 43 = .ok (.iconst 1, 1) := by decide +kernel
theorem dX5_depth_44 : decode cX5_depth 44 = .ok (.isub, 1) := by decide +kernel
theorem dX5_depth_45 : decode cX5_depth 45 = .ok (.ireturn, 1) := by decide +kernel
theorem dX5_pathOf_0 : decode cX5_pathOf 0 = .ok (.aload_n 0, 1) := by decide +kernel
theorem dX5_pathOf_1 : decode cX5_pathOf 1 = .ok (.iload_n 1, 1) := by decide +kernel
theorem dX5_pathOf_2 : decode cX5_pathOf 2 = .ok (.invokevirtual 52, 3) := by decide +kernel
theorem dX5_pathOf_5 : decode cX5_pathOf 5 = .ok (.iconst 1, 1) := by decide +kernel
theorem dX5_pathOf_6 : decode cX5_pathOf 6 = .ok (.iadd, 1) := by decide +kernel
theorem dX5_pathOf_7 : decode cX5_pathOf 7 = .ok (.istore_n 3, 1) := by decide +kernel
theorem dX5_pathOf_8 : decode cX5_pathOf 8 = .ok (.iload_n 1, 1) := by decide +kernel
theorem dX5_pathOf_9 : decode cX5_pathOf 9 = .ok (.istore 4, 2) := by decide +kernel
theorem dX5_pathOf_11 : decode cX5_pathOf 11 = .ok (.iload_n 3, 1) := by decide +kernel
theorem dX5_pathOf_12 : decode cX5_pathOf 12 = .ok (.iconst 1, 1) := by decide +kernel
theorem dX5_pathOf_13 : decode cX5_pathOf 13 = .ok (.isub, 1) := by decide +kernel
theorem dX5_pathOf_14 : decode cX5_pathOf 14 = .ok (.istore 5, 2) := by decide +kernel
theorem dX5_pathOf_16 : decode cX5_pathOf 16 = .ok (.iload 5, 2) := by decide +kernel
theorem dX5_pathOf_18 : decode cX5_pathOf 18 = .ok (.ifCond .lt 45, 3) := by decide +kernel
theorem dX5_pathOf_21 : decode cX5_pathOf 21 = .ok (.iload 5, 2) := by decide +kernel
theorem dX5_pathOf_23 : decode cX5_pathOf 23 = .ok (.aload_n 2, 1) := by decide +kernel
theorem dX5_pathOf_24 : decode cX5_pathOf 24 = .ok (.arraylength, 1) := by decide +kernel
theorem dX5_pathOf_25 : decode cX5_pathOf 25 = .ok (.if_icmp .ge 38, 3) := by decide +kernel
theorem dX5_pathOf_28 : decode cX5_pathOf 28 = .ok (.aload_n 0, 1) := by decide +kernel
theorem dX5_pathOf_29 : decode cX5_pathOf 29 = .ok (.iload 4, 2) := by decide +kernel
theorem dX5_pathOf_31 : decode cX5_pathOf 31 = .ok (.invokevirtual 40, 3) := by decide +kernel
theorem dX5_pathOf_34 : decode cX5_pathOf 34 = .ok (.ifCond .eq 29, 3) := by decide +kernel
theorem dX5_pathOf_37 : decode cX5_pathOf 37 = .ok (.aload_n 2, 1) := by decide +kernel
theorem dX5_pathOf_38 : decode cX5_pathOf 38 = .ok (.iload 5, 2) := by decide +kernel
theorem dX5_pathOf_40 : decode cX5_pathOf 40 = .ok (.aload_n 0, 1) := by decide +kernel
theorem dX5_pathOf_41 : decode cX5_pathOf 41 = .ok (.getfield 19, 3) := by decide +kernel
theorem dX5_pathOf_44 : decode cX5_pathOf 44 = .ok (.iload 4, 2) := by decide +kernel
theorem dX5_pathOf_46 : decode cX5_pathOf 46 = .ok (.iaload, 1) := by decide +kernel
theorem dX5_pathOf_47 : decode cX5_pathOf 47 = .ok (.iastore, 1) := by decide +kernel
theorem dX5_pathOf_48 : decode cX5_pathOf 48 = .ok (.aload_n 0, 1) := by decide +kernel
theorem dX5_pathOf_49 : decode cX5_pathOf 49 = .ok (.getfield 15, 3) := by decide +kernel
theorem dX5_pathOf_52 : decode cX5_pathOf 52 = .ok (.iload 4, 2) := by decide +kernel
theorem dX5_pathOf_54 : decode cX5_pathOf 54 = .ok (.iaload, 1) := by decide +kernel
theorem dX5_pathOf_55 : decode cX5_pathOf 55 = .ok (.istore 4, 2) := by decide +kernel
theorem dX5_pathOf_57 : decode cX5_pathOf 57 = .ok (.iinc 5 (-1), 3) := by decide +kernel
theorem dX5_pathOf_60 : decode cX5_pathOf 60 = .ok (.goto (-44), 3) := by decide +kernel
theorem dX5_pathOf_63 : decode cX5_pathOf 63 = .ok (.iload_n 3, 1) := by decide +kernel
theorem dX5_pathOf_64 : decode cX5_pathOf 64 = .ok (.ireturn, 1) := by decide +kernel
theorem dX5_placesAsIn_0 : decode cX5_placesAsIn 0 = .ok (.aload_n 0, 1) := by decide +kernel
theorem dX5_placesAsIn_1 : decode cX5_placesAsIn 1 = .ok (.getfield 15, 3) := by decide +kernel
theorem dX5_placesAsIn_4 : decode cX5_placesAsIn 4 = .ok (.iload_n 2, 1) := by decide +kernel
theorem dX5_placesAsIn_5 : decode cX5_placesAsIn 5 = .ok (.iaload, 1) := by decide +kernel
theorem dX5_placesAsIn_6 : decode cX5_placesAsIn 6 = .ok (.aload_n 1, 1) := by decide +kernel
theorem dX5_placesAsIn_7 : decode cX5_placesAsIn 7 = .ok (.getfield 15, 3) := by decide +kernel
theorem dX5_placesAsIn_10 : decode cX5_placesAsIn 10 = .ok (.iload_n 2, 1) := by decide +kernel
theorem dX5_placesAsIn_11 : decode cX5_placesAsIn 11 = .ok (.iaload, 1) := by decide +kernel
theorem dX5_placesAsIn_12 : decode cX5_placesAsIn 12 = .ok (.if_icmp .ne 22, 3) := by decide +kernel
theorem dX5_placesAsIn_15 : decode cX5_placesAsIn 15 = .ok (.aload_n 0, 1) := by decide +kernel
theorem dX5_placesAsIn_16 : decode cX5_placesAsIn 16 = .ok (.getfield 19, 3) := by decide +kernel
theorem dX5_placesAsIn_19 : decode cX5_placesAsIn 19 = .ok (.iload_n 2, 1) := by decide +kernel
theorem dX5_placesAsIn_20 : decode cX5_placesAsIn 20 = .ok (.iaload, 1) := by decide +kernel
theorem dX5_placesAsIn_21 : decode cX5_placesAsIn 21 = .ok (.aload_n 1, 1) := by decide +kernel
theorem dX5_placesAsIn_22 : decode cX5_placesAsIn 22 = .ok (.getfield 19, 3) := by decide +kernel
theorem dX5_placesAsIn_25 : decode cX5_placesAsIn 25 = .ok (.iload_n 2, 1) := by decide +kernel
theorem dX5_placesAsIn_26 : decode cX5_placesAsIn 26 = .ok (.iaload, 1) := by decide +kernel
theorem dX5_placesAsIn_27 : decode cX5_placesAsIn 27 = .ok (.if_icmp .ne 7, 3) := by decide +kernel
theorem dX5_placesAsIn_30 : decode cX5_placesAsIn 30 = .ok (.iconst 1, 1) := by decide +kernel
theorem dX5_placesAsIn_31 : decode cX5_placesAsIn 31 = .ok (.goto 4, 3) := by decide +kernel
theorem dX5_placesAsIn_34 : decode cX5_placesAsIn 34 = .ok (.iconst 0, 1) := by decide +kernel
theorem dX5_placesAsIn_35 : decode cX5_placesAsIn 35 = .ok (.ireturn, 1) := by decide +kernel
theorem dX5_holdsAsIn_0 : decode cX5_holdsAsIn 0 = .ok (.aload_n 0, 1) := by decide +kernel
theorem dX5_holdsAsIn_1 : decode cX5_holdsAsIn 1 = .ok (.getfield 22, 3) := by decide +kernel
theorem dX5_holdsAsIn_4 : decode cX5_holdsAsIn 4 = .ok (.iload_n 2, 1) := by decide +kernel
theorem dX5_holdsAsIn_5 : decode cX5_holdsAsIn 5 = .ok (.iaload, 1) := by decide +kernel
theorem dX5_holdsAsIn_6 : decode cX5_holdsAsIn 6 = .ok (.aload_n 1, 1) := by decide +kernel
theorem dX5_holdsAsIn_7 : decode cX5_holdsAsIn 7 = .ok (.getfield 22, 3) := by decide +kernel
theorem dX5_holdsAsIn_10 : decode cX5_holdsAsIn 10 = .ok (.iload_n 2, 1) := by decide +kernel
theorem dX5_holdsAsIn_11 : decode cX5_holdsAsIn 11 = .ok (.iaload, 1) := by decide +kernel
theorem dX5_holdsAsIn_12 : decode cX5_holdsAsIn 12 = .ok (.if_icmp .ne 7, 3) := by decide +kernel
theorem dX5_holdsAsIn_15 : decode cX5_holdsAsIn 15 = .ok (.iconst 1, 1) := by decide +kernel
theorem dX5_holdsAsIn_16 : decode cX5_holdsAsIn 16 = .ok (.goto 4, 3) := by decide +kernel
theorem dX5_holdsAsIn_19 : decode cX5_holdsAsIn 19 = .ok (.iconst 0, 1) := by decide +kernel
theorem dX5_holdsAsIn_20 : decode cX5_holdsAsIn 20 = .ok (.ireturn, 1) := by decide +kernel
theorem dX6_init_0 : decode cX6_init 0 = .ok (.aload_n 0, 1) := by decide +kernel
theorem dX6_init_1 : decode cX6_init 1 = .ok (.invokespecial 3, 3) := by decide +kernel
theorem dX6_init_4 : decode cX6_init 4 = .ok (.aload_n 0, 1) := by decide +kernel
theorem dX6_init_5 : decode cX6_init 5 = .ok (.iconst 0, 1) := by decide +kernel
theorem dX6_init_6 : decode cX6_init 6 = .ok (.putfield 9, 3) := by decide +kernel
theorem dX6_init_9 : decode cX6_init 9 = .ok (.aload_n 0, 1) := by decide +kernel
theorem dX6_init_10 : decode cX6_init 10 = .ok (.bipush 30, 2) := by decide +kernel
theorem dX6_init_12 : decode cX6_init 12 = .ok (.newarray .boolean, 2) := by decide +kernel
theorem dX6_init_14 : decode cX6_init 14 = .ok (.putfield 15, 3) := by decide +kernel
theorem dX6_init_17 : decode cX6_init 17 = .ok (.aload_n 0, 1) := by decide +kernel
theorem dX6_init_18 : decode cX6_init 18 = .ok (.iconst 3, 1) := by decide +kernel
theorem dX6_init_19 : decode cX6_init 19 = .ok (.anewarray 19, 3) := by decide +kernel
theorem dX6_init_22 : decode cX6_init 22 = .ok (.putfield 21, 3) := by decide +kernel
theorem dX6_init_25 : decode cX6_init 25 = .ok (.aload_n 0, 1) := by decide +kernel
theorem dX6_init_26 : decode cX6_init 26 = .ok (.bipush 6, 2) := by decide +kernel
theorem dX6_init_28 : decode cX6_init 28 = .ok (.anewarray 25, 3) := by decide +kernel
theorem dX6_init_31 : decode cX6_init 31 = .ok (.putfield 27, 3) := by decide +kernel
theorem dX6_init_34 : decode cX6_init 34 = .ok (.aload_n 0, 1) := by decide +kernel
theorem dX6_init_35 : decode cX6_init 35 = .ok (.iconst 0, 1) := by decide +kernel
theorem dX6_init_36 : decode cX6_init 36 = .ok (.putfield 31, 3) := by decide +kernel
theorem dX6_init_39 : decode cX6_init 39 = .ok (.aload_n 0, 1) := by decide +kernel
theorem dX6_init_40 : decode cX6_init 40 = .ok (.iconst 0, 1) := by decide +kernel
theorem dX6_init_41 : decode cX6_init 41 = .ok (.putfield 34, 3) := by decide +kernel
theorem dX6_init_44 : decode cX6_init 44 = .ok (.aload_n 0, 1) := by decide +kernel
theorem dX6_init_45 : decode cX6_init 45 = .ok (.iconst 0, 1) := by decide +kernel
theorem dX6_init_46 : decode cX6_init 46 = .ok (.putfield 37, 3) := by decide +kernel
theorem dX6_init_49 : decode cX6_init 49 = .ok (.aload_n 0, 1) := by decide +kernel
theorem dX6_init_50 : decode cX6_init 50 = .ok (.iconst (-1), 1) := by decide +kernel
theorem dX6_init_51 : decode cX6_init 51 = .ok (.putfield 40, 3) := by decide +kernel
theorem dX6_init_54 : decode cX6_init 54 = .ok (.aload_n 0, 1) := by decide +kernel
theorem dX6_init_55 : decode cX6_init 55 = .ok (.iconst 0, 1) := by decide +kernel
theorem dX6_init_56 : decode cX6_init 56 = .ok (.putfield 43, 3) := by decide +kernel
theorem dX6_init_59 : decode cX6_init 59 = .ok (.aload_n 0, 1) := by decide +kernel
theorem dX6_init_60 : decode cX6_init 60 = .ok (.bipush 30, 2) := by decide +kernel
theorem dX6_init_62 : decode cX6_init 62 = .ok (.newarray .int, 2) := by decide +kernel
theorem dX6_init_64 : decode cX6_init 64 = .ok (.putfield 46, 3) := by decide +kernel
theorem dX6_init_67 : decode cX6_init 67 = .ok (.aload_n 0, 1) := by decide +kernel
theorem dX6_init_68 : decode cX6_init 68 = .ok (.bipush 30, 2) := by decide +kernel
theorem dX6_init_70 : decode cX6_init 70 = .ok (.newarray .boolean, 2) := by decide +kernel
theorem dX6_init_72 : decode cX6_init 72 = .ok (.putfield 50, 3) := by decide +kernel
theorem dX6_init_75 : decode cX6_init 75 = .ok (.iconst 0, 1) := by decide +kernel
theorem dX6_init_76 : decode cX6_init 76 = .ok (.istore_n 1, 1) := by decide +kernel
theorem dX6_init_77 : decode cX6_init 77 = .ok (.iload_n 1, 1) := by decide +kernel
theorem dX6_init_78 : decode cX6_init 78 = .ok (.iconst 3, 1) := by decide +kernel
theorem dX6_init_79 : decode cX6_init 79 = .ok (.if_icmp .ge 22, 3) := by decide +kernel
theorem dX6_init_82 : decode cX6_init 82 = .ok (.aload_n 0, 1) := by decide +kernel
theorem dX6_init_83 : decode cX6_init 83 = .ok (.getfield 21, 3) := by decide +kernel
theorem dX6_init_86 : decode cX6_init 86 = .ok (.iload_n 1, 1) := by decide +kernel
theorem dX6_init_87 : decode cX6_init 87 = .ok (.new 19, 3) := by decide +kernel
theorem dX6_init_90 : decode cX6_init 90 = .ok (.dup, 1) := by decide +kernel
theorem dX6_init_91 : decode cX6_init 91 = .ok (.invokespecial 53, 3) := by decide +kernel
theorem dX6_init_94 : decode cX6_init 94 = .ok (.aastore, 1) := by decide +kernel
theorem dX6_init_95 : decode cX6_init 95 = .ok (.iinc 1 1, 3) := by decide +kernel
theorem dX6_init_98 : decode cX6_init 98 = .ok (.goto (-21), 3) := by decide +kernel
theorem dX6_init_101 : decode cX6_init 101 = .ok (.iconst 0, 1) := by decide +kernel
theorem dX6_init_102 : decode cX6_init 102 = .ok (.istore_n 1, 1) := by decide +kernel
theorem dX6_init_103 : decode cX6_init 103 = .ok (.iload_n 1, 1) := by decide +kernel
theorem dX6_init_104 : decode cX6_init 104 = .ok (.bipush 6, 2) := by decide +kernel
theorem dX6_init_106 : decode cX6_init 106 = .ok (.if_icmp .ge 22, 3) := by decide +kernel
theorem dX6_init_109 : decode cX6_init 109 = .ok (.aload_n 0, 1) := by decide +kernel
theorem dX6_init_110 : decode cX6_init 110 = .ok (.getfield 27, 3) := by decide +kernel
theorem dX6_init_113 : decode cX6_init 113 = .ok (.iload_n 1, 1) := by decide +kernel
theorem dX6_init_114 : decode cX6_init 114 = .ok (.new 25, 3) := by decide +kernel
theorem dX6_init_117 : decode cX6_init 117 = .ok (.dup, 1) := by decide +kernel
theorem dX6_init_118 : decode cX6_init 118 = .ok (.invokespecial 54, 3) := by decide +kernel
theorem dX6_init_121 : decode cX6_init 121 = .ok (.aastore, 1) := by decide +kernel
theorem dX6_init_122 : decode cX6_init 122 = .ok (.iinc 1 1, 3) := by decide +kernel
theorem dX6_init_125 : decode cX6_init 125 = .ok (.goto (-22), 3) := by decide +kernel
theorem dX6_init_128 : decode cX6_init 128 = .ok (.return_, 1) := by decide +kernel
theorem dX6_become_0 : decode cX6_become 0 = .ok (.aload_n 0, 1) := by decide +kernel
theorem dX6_become_1 : decode cX6_become 1 = .ok (.aload_n 1, 1) := by decide +kernel
theorem dX6_become_2 : decode cX6_become 2 = .ok (.getfield 9, 3) := by decide +kernel
theorem dX6_become_5 : decode cX6_become 5 = .ok (.putfield 9, 3) := by decide +kernel
theorem dX6_become_8 : decode cX6_become 8 = .ok (.iconst 0, 1) := by decide +kernel
theorem dX6_become_9 : decode cX6_become 9 = .ok (.istore_n 2, 1) := by decide +kernel
theorem dX6_become_10 : decode cX6_become 10 = .ok (.iload_n 2, 1) := by decide +kernel
theorem dX6_become_11 : decode cX6_become 11 = .ok (.bipush 30, 2) := by decide +kernel
theorem dX6_become_13 : decode cX6_become 13 = .ok (.if_icmp .ge 21, 3) := by decide +kernel
theorem dX6_become_16 : decode cX6_become 16 = .ok (.aload_n 0, 1) := by decide +kernel
theorem dX6_become_17 : decode cX6_become 17 = .ok (.getfield 15, 3) := by decide +kernel
theorem dX6_become_20 : decode cX6_become 20 = .ok (.iload_n 2, 1) := by decide +kernel
theorem dX6_become_21 : decode cX6_become 21 = .ok (.aload_n 1, 1) := by decide +kernel
theorem dX6_become_22 : decode cX6_become 22 = .ok (.getfield 15, 3) := by decide +kernel
theorem dX6_become_25 : decode cX6_become 25 = .ok (.iload_n 2, 1) := by decide +kernel
theorem dX6_become_26 : decode cX6_become 26 = .ok (.baload, 1) := by decide +kernel
theorem dX6_become_27 : decode cX6_become 27 = .ok (.bastore, 1) := by decide +kernel
theorem dX6_become_28 : decode cX6_become 28 = .ok (.iinc 2 1, 3) := by decide +kernel
theorem dX6_become_31 : decode cX6_become 31 = .ok (.goto (-21), 3) := by decide +kernel
theorem dX6_become_34 : decode cX6_become 34 = .ok (.iconst 0, 1) := by decide +kernel
theorem dX6_become_35 : decode cX6_become 35 = .ok (.istore_n 2, 1) := by decide +kernel
theorem dX6_become_36 : decode cX6_become 36 = .ok (.iload_n 2, 1) := by decide +kernel
theorem dX6_become_37 : decode cX6_become 37 = .ok (.iconst 3, 1) := by decide +kernel
theorem dX6_become_38 : decode cX6_become 38 = .ok (.if_icmp .ge 24, 3) := by decide +kernel
theorem dX6_become_41 : decode cX6_become 41 = .ok (.aload_n 0, 1) := by decide +kernel
theorem dX6_become_42 : decode cX6_become 42 = .ok (.getfield 21, 3) := by decide +kernel
theorem dX6_become_45 : decode cX6_become 45 = .ok (.iload_n 2, 1) := by decide +kernel
theorem dX6_become_46 : decode cX6_become 46 = .ok (.aaload, 1) := by decide +kernel
theorem dX6_become_47 : decode cX6_become 47 = .ok (.aload_n 1, 1) := by decide +kernel
theorem dX6_become_48 : decode cX6_become 48 = .ok (.getfield 21, 3) := by decide +kernel
theorem dX6_become_51 : decode cX6_become 51 = .ok (.iload_n 2, 1) := by decide +kernel
theorem dX6_become_52 : decode cX6_become 52 = .ok (.aaload, 1) := by decide +kernel
theorem dX6_become_53 : decode cX6_become 53 = .ok (.invokevirtual 55, 3) := by decide +kernel
theorem dX6_become_56 : decode cX6_become 56 = .ok (.iinc 2 1, 3) := by decide +kernel
theorem dX6_become_59 : decode cX6_become 59 = .ok (.goto (-23), 3) := by decide +kernel
theorem dX6_become_62 : decode cX6_become 62 = .ok (.iconst 0, 1) := by decide +kernel
theorem dX6_become_63 : decode cX6_become 63 = .ok (.istore_n 2, 1) := by decide +kernel
theorem dX6_become_64 : decode cX6_become 64 = .ok (.iload_n 2, 1) := by decide +kernel
theorem dX6_become_65 : decode cX6_become 65 = .ok (.bipush 6, 2) := by decide +kernel
theorem dX6_become_67 : decode cX6_become 67 = .ok (.if_icmp .ge 24, 3) := by decide +kernel
theorem dX6_become_70 : decode cX6_become 70 = .ok (.aload_n 0, 1) := by decide +kernel
theorem dX6_become_71 : decode cX6_become 71 = .ok (.getfield 27, 3) := by decide +kernel
theorem dX6_become_74 : decode cX6_become 74 = .ok (.iload_n 2, 1) := by decide +kernel
theorem dX6_become_75 : decode cX6_become 75 = .ok (.aaload, 1) := by decide +kernel
theorem dX6_become_76 : decode cX6_become 76 = .ok (.aload_n 1, 1) := by decide +kernel
theorem dX6_become_77 : decode cX6_become 77 = .ok (.getfield 27, 3) := by decide +kernel
theorem dX6_become_80 : decode cX6_become 80 = .ok (.iload_n 2, 1) := by decide +kernel
theorem dX6_become_81 : decode cX6_become 81 = .ok (.aaload, 1) := by decide +kernel
theorem dX6_become_82 : decode cX6_become 82 = .ok (.invokevirtual 59, 3) := by decide +kernel
theorem dX6_become_85 : decode cX6_become 85 = .ok (.iinc 2 1, 3) := by decide +kernel
theorem dX6_become_88 : decode cX6_become 88 = .ok (.goto (-24), 3) := by decide +kernel
theorem dX6_become_91 : decode cX6_become 91 = .ok (.aload_n 0, 1) := by decide +kernel
theorem dX6_become_92 : decode cX6_become 92 = .ok (.aload_n 1, 1) := by decide +kernel
theorem dX6_become_93 : decode cX6_become 93 = .ok (.getfield 31, 3) := by decide +kernel
theorem dX6_become_96 : decode cX6_become 96 = .ok (.putfield 31, 3) := by decide +kernel
theorem dX6_become_99 : decode cX6_become 99 = .ok (.aload_n 0, 1) := by decide +kernel
theorem dX6_become_100 : decode cX6_become 100 = .ok (.aload_n 1, 1) := by decide +kernel
theorem dX6_become_101 : decode cX6_become 101 = .ok (.getfield 34, 3) := by decide +kernel
theorem dX6_become_104 : decode cX6_become 104 = .ok (.putfield 34, 3) := by decide +kernel
theorem dX6_become_107 : decode cX6_become 107 = .ok (.aload_n 0, 1) := by decide +kernel
theorem dX6_become_108 : decode cX6_become 108 = .ok (.aload_n 1, 1) := by decide +kernel
theorem dX6_become_109 : decode cX6_become 109 = .ok (.getfield 37, 3) := by decide +kernel
theorem dX6_become_112 : decode cX6_become 112 = .ok (.putfield 37, 3) := by decide +kernel
theorem dX6_become_115 : decode cX6_become 115 = .ok (.aload_n 0, 1) := by decide +kernel
theorem dX6_become_116 : decode cX6_become 116 = .ok (.aload_n 1, 1) := by decide +kernel
theorem dX6_become_117 : decode cX6_become 117 = .ok (.getfield 40, 3) := by decide +kernel
theorem dX6_become_120 : decode cX6_become 120 = .ok (.putfield 40, 3) := by decide +kernel
theorem dX6_become_123 : decode cX6_become 123 = .ok (.aload_n 0, 1) := by decide +kernel
theorem dX6_become_124 : decode cX6_become 124 = .ok (.aload_n 1, 1) := by decide +kernel
theorem dX6_become_125 : decode cX6_become 125 = .ok (.getfield 43, 3) := by decide +kernel
theorem dX6_become_128 : decode cX6_become 128 = .ok (.putfield 43, 3) := by decide +kernel
theorem dX6_become_131 : decode cX6_become 131 = .ok (.return_, 1) := by decide +kernel
theorem dX6_isThing_0 : decode cX6_isThing 0 = .ok (.iload_n 1, 1) := by decide +kernel
theorem dX6_isThing_1 : decode cX6_isThing 1 = .ok (.ifCond .lt 15, 3) := by decide +kernel
theorem dX6_isThing_4 : decode cX6_isThing 4 = .ok (.iload_n 1, 1) := by decide +kernel
theorem dX6_isThing_5 : decode cX6_isThing 5 = .ok (.aload_n 0, 1) := by decide +kernel
theorem dX6_isThing_6 : decode cX6_isThing 6 = .ok (.getfield 9, 3) := by decide +kernel
theorem dX6_isThing_9 : decode cX6_isThing 9 = .ok (.if_icmp .ge 7, 3) := by decide +kernel
theorem dX6_isThing_12 : decode cX6_isThing 12 = .ok (.iconst 1, 1) := by decide +kernel
theorem dX6_isThing_13 : decode cX6_isThing 13 = .ok (.goto 4, 3) := by decide +kernel
theorem dX6_isThing_16 : decode cX6_isThing 16 = .ok (.iconst 0, 1) := by decide +kernel
theorem dX6_isThing_17 : decode cX6_isThing 17 = .ok (.ireturn, 1) := by decide +kernel
theorem dX6_isPlace_0 : decode cX6_isPlace 0 = .ok (.iload_n 1, 1) := by decide +kernel
theorem dX6_isPlace_1 : decode cX6_isPlace 1 = .ok (.iconst (-1), 1) := by decide +kernel
theorem dX6_isPlace_2 : decode cX6_isPlace 2 = .ok (.if_icmp .eq 11, 3) := by decide +kernel
theorem dX6_isPlace_5 : decode cX6_isPlace 5 = .ok (.aload_n 0, 1) := by decide +kernel
theorem dX6_isPlace_6 : decode cX6_isPlace 6 = .ok (.iload_n 1, 1) := by decide +kernel
theorem dX6_isPlace_7 : decode cX6_isPlace 7 = .ok (.invokevirtual 62, 3) := by decide +kernel
theorem dX6_isPlace_10 : decode cX6_isPlace 10 = .ok (.ifCond .eq 7, 3) := by decide +kernel
theorem dX6_isPlace_13 : decode cX6_isPlace 13 = .ok (.iconst 1, 1) := by decide +kernel
theorem dX6_isPlace_14 : decode cX6_isPlace 14 = .ok (.goto 4, 3) := by decide +kernel
theorem dX6_isPlace_17 : decode cX6_isPlace 17 = .ok (.iconst 0, 1) := by decide +kernel
theorem dX6_isPlace_18 : decode cX6_isPlace 18 = .ok (.ireturn, 1) := by decide +kernel
theorem dX6_canHold_0 : decode cX6_canHold 0 = .ok (.iload_n 2, 1) := by decide +kernel
theorem dX6_canHold_1 : decode cX6_canHold 1 = .ok (.iconst (-1), 1) := by decide +kernel
theorem dX6_canHold_2 : decode cX6_canHold 2 = .ok (.if_icmp .eq 20, 3) := by decide +kernel
theorem dX6_canHold_5 : decode cX6_canHold 5 = .ok (.aload_n 1, 1) := by decide +kernel
theorem dX6_canHold_6 : decode cX6_canHold 6 = .ok (.iload_n 2, 1) := by decide +kernel
theorem dX6_canHold_7 : decode cX6_canHold 7 = .ok (.invokevirtual 66, 3) := by decide +kernel
theorem dX6_canHold_10 : decode cX6_canHold 10 = .ok (.ifCond .eq 16, 3) := by decide +kernel
theorem dX6_canHold_13 : decode cX6_canHold 13 = .ok (.aload_n 0, 1) := by decide +kernel
theorem dX6_canHold_14 : decode cX6_canHold 14 = .ok (.getfield 15, 3) := by decide +kernel
theorem dX6_canHold_17 : decode cX6_canHold 17 = .ok (.iload_n 2, 1) := by decide +kernel
theorem dX6_canHold_18 : decode cX6_canHold 18 = .ok (.baload, 1) := by decide +kernel
theorem dX6_canHold_19 : decode cX6_canHold 19 = .ok (.ifCond .eq 7, 3) := by decide +kernel
theorem dX6_canHold_22 : decode cX6_canHold 22 = .ok (.iconst 1, 1) := by decide +kernel
theorem dX6_canHold_23 : decode cX6_canHold 23 = .ok (.goto 4, 3) := by decide +kernel
theorem dX6_canHold_26 : decode cX6_canHold 26 = .ok (.iconst 0, 1) := by decide +kernel
theorem dX6_canHold_27 : decode cX6_canHold 27 = .ok (.ireturn, 1) := by decide +kernel
theorem dX6_create_0 : decode cX6_create 0 = .ok (.iload_n 1, 1) := by decide +kernel
theorem dX6_create_1 : decode cX6_create 1 = .ok (.invokestatic 69, 3) := by decide +kernel
theorem dX6_create_4 : decode cX6_create 4 = .ok (.ifCond .eq 32, 3) := by decide +kernel
theorem dX6_create_7 : decode cX6_create 7 = .ok (.aload_n 0, 1) := by decide +kernel
theorem dX6_create_8 : decode cX6_create 8 = .ok (.iload_n 2, 1) := by decide +kernel
theorem dX6_create_9 : decode cX6_create 9 = .ok (.invokevirtual 72, 3) := by decide +kernel
theorem dX6_create_12 : decode cX6_create 12 = .ok (.ifCond .eq 24, 3) := by decide +kernel
theorem dX6_create_15 : decode cX6_create 15 = .ok (.iload_n 3, 1) := by decide +kernel
theorem dX6_create_16 : decode cX6_create 16 = .ok (.invokestatic 75, 3) := by decide +kernel
theorem dX6_create_19 : decode cX6_create 19 = .ok (.ifCond .eq 17, 3) := by decide +kernel
theorem dX6_create_22 : decode cX6_create 22 = .ok (.iload 4, 2) := by decide +kernel
theorem dX6_create_24 : decode cX6_create 24 = .ok (.iconst (-1), 1) := by decide +kernel
theorem dX6_create_25 : decode cX6_create 25 = .ok (.if_icmp .lt 11, 3) := by decide +kernel
theorem dX6_create_28 : decode cX6_create 28 = .ok (.iload 4, 2) := by decide +kernel
theorem dX6_create_30 : decode cX6_create 30 = .ok (.sipush 1000, 3) := by decide +kernel
theorem dX6_create_33 : decode cX6_create 33 = .ok (.if_icmp .lt 11, 3) := by decide +kernel
theorem dX6_create_36 : decode cX6_create 36 = .ok (.aload_n 0, 1) := by decide +kernel
theorem dX6_create_37 : decode cX6_create 37 = .ok (.bipush (-2), 2) := by decide +kernel
theorem dX6_create_39 : decode cX6_create 39 = .ok (.iconst (-1), 1) := by decide +kernel
theorem dX6_create_40 : decode cX6_create 40 = .ok (.invokevirtual 78, 3) := by decide +kernel
theorem dX6_create_43 : decode cX6_create 43 = .ok (.ireturn, 1) := by decide +kernel
theorem dX6_create_44 : decode cX6_create 44 = .ok (.aload_n 0, 1) := by decide +kernel
theorem dX6_create_45 : decode cX6_create 45 = .ok (.getfield 21, 3) := by decide +kernel
theorem dX6_create_48 : decode cX6_create 48 = .ok (.iload_n 1, 1) := by decide +kernel
theorem dX6_create_49 : decode cX6_create 49 = .ok (.aaload, 1) := by decide +kernel
theorem dX6_create_50 : decode cX6_create 50 = .ok (.astore 5, 2) := by decide +kernel
theorem dX6_create_52 : decode cX6_create 52 = .ok (.aload_n 0, 1) := by decide +kernel
theorem dX6_create_53 : decode cX6_create 53 = .ok (.aload 5, 2) := by decide +kernel
theorem dX6_create_55 : decode cX6_create 55 = .ok (.iload_n 2, 1) := by decide +kernel
theorem dX6_create_56 : decode cX6_create 56 = .ok (.invokevirtual 82, 3) := by decide +kernel
theorem dX6_create_59 : decode cX6_create 59 = .ok (.ifCond .ne 11, 3) := by decide +kernel
theorem dX6_create_62 : decode cX6_create 62 = .ok (.aload_n 0, 1) := by decide +kernel
theorem dX6_create_63 : decode cX6_create 63 = .ok (.bipush (-3), 2) := by decide +kernel
theorem dX6_create_65 : decode cX6_create 65 = .ok (.iload_n 2, 1) := by decide +kernel
theorem dX6_create_66 : decode cX6_create 66 = .ok (.invokevirtual 78, 3) := by decide +kernel
theorem dX6_create_69 : decode cX6_create 69 = .ok (.ireturn, 1) := by decide +kernel
theorem dX6_create_70 : decode cX6_create 70 = .ok (.aload_n 0, 1) := by decide +kernel
theorem dX6_create_71 : decode cX6_create 71 = .ok (.getfield 9, 3) := by decide +kernel
theorem dX6_create_74 : decode cX6_create 74 = .ok (.bipush 30, 2) := by decide +kernel
theorem dX6_create_76 : decode cX6_create 76 = .ok (.if_icmp .lt 11, 3) := by decide +kernel
theorem dX6_create_79 : decode cX6_create 79 = .ok (.aload_n 0, 1) := by decide +kernel
theorem dX6_create_80 : decode cX6_create 80 = .ok (.bipush (-4), 2) := by decide +kernel
theorem dX6_create_82 : decode cX6_create 82 = .ok (.iconst (-1), 1) := by decide +kernel
theorem dX6_create_83 : decode cX6_create 83 = .ok (.invokevirtual 78, 3) := by decide +kernel
theorem dX6_create_86 : decode cX6_create 86 = .ok (.ireturn, 1) := by decide +kernel
theorem dX6_create_87 : decode cX6_create 87 = .ok (.aload 5, 2) := by decide +kernel
theorem dX6_create_89 : decode cX6_create 89 = .ok (.iload_n 2, 1) := by decide +kernel
theorem dX6_create_90 : decode cX6_create 90 = .ok (.iload_n 3, 1) := by decide +kernel
theorem dX6_create_91 : decode cX6_create 91 = .ok (.invokevirtual 86, 3) := by decide +kernel
theorem dX6_create_94 : decode cX6_create 94 = .ok (.istore 6, 2) := by decide +kernel
theorem dX6_create_96 : decode cX6_create 96 = .ok (.iload 6, 2) := by decide +kernel
theorem dX6_create_98 : decode cX6_create 98 = .ok (.iconst (-1), 1) := by decide +kernel
theorem dX6_create_99 : decode cX6_create 99 = .ok (.if_icmp .eq 12, 3) := by decide +kernel
theorem dX6_create_102 : decode cX6_create 102 = .ok (.aload_n 0, 1) := by decide +kernel
theorem dX6_create_103 : decode cX6_create 103 = .ok (.bipush (-6), 2) := by decide +kernel
theorem dX6_create_105 : decode cX6_create 105 = .ok (.iload 6, 2) := by decide +kernel
theorem dX6_create_107 : decode cX6_create 107 = .ok (.invokevirtual 78, 3) := by decide +kernel
theorem dX6_create_110 : decode cX6_create 110 = .ok (.ireturn, 1) := by decide +kernel
theorem dX6_create_111 : decode cX6_create 111 = .ok (.aload_n 0, 1) := by decide +kernel
theorem dX6_create_112 : decode cX6_create 112 = .ok (.getfield 9, 3) := by decide +kernel
theorem dX6_create_115 : decode cX6_create 115 = .ok (.istore 7, 2) := by decide +kernel
theorem dX6_create_117 : decode cX6_create 117 = .ok (.aload_n 0, 1) := by decide +kernel
theorem dX6_create_118 : decode cX6_create 118 = .ok (.dup, 1) := by decide +kernel
theorem dX6_create_119 : decode cX6_create 119 = .ok (.getfield 9, 3) := by decide +kernel
theorem dX6_create_122 : decode cX6_create 122 = .ok (.iconst 1, 1) := by decide +kernel
theorem dX6_create_123 : decode cX6_create 123 = .ok (.iadd, 1) := by decide +kernel
theorem dX6_create_124 : decode cX6_create 124 = .ok (.putfield 9, 3) := by decide +kernel
theorem dX6_create_127 : decode cX6_create 127 = .ok (.aload_n 0, 1) := by decide +kernel
theorem dX6_create_128 : decode cX6_create 128 = .ok (.getfield 15, 3) := by decide +kernel
theorem dX6_create_131 : decode cX6_create 131 = .ok (.iload 7, 2) := by decide +kernel
theorem dX6_create_133 : decode cX6_create 133 = .ok (.iload 4, 2) := by decide +kernel
theorem dX6_create_135 : decode cX6_create 135 = .ok (.iconst (-1), 1) := by decide +kernel
theorem dX6_create_136 : decode cX6_create 136 = .ok (.if_icmp .ne 7, 3) := by decide +kernel
theorem dX6_create_139 : decode cX6_create 139 = .ok (.iconst 1, 1) := by decide +kernel
theorem dX6_create_140 : decode cX6_create 140 = .ok (.goto 4, 3) := by decide +kernel
theorem dX6_create_143 : decode cX6_create 143 = .ok (.iconst 0, 1) := by decide +kernel
theorem dX6_create_144 : decode cX6_create 144 = .ok (.bastore, 1) := by decide +kernel
theorem dX6_create_145 : decode cX6_create 145 = .ok (.aload 5, 2) := by decide +kernel
theorem dX6_create_147 : decode cX6_create 147 = .ok (.iload 7, 2) := by decide +kernel
theorem dX6_create_149 : decode cX6_create 149 = .ok (.iload_n 2, 1) := by decide +kernel
theorem dX6_create_150 : decode cX6_create 150 = .ok (.iload_n 3, 1) := by decide +kernel
theorem dX6_create_151 : decode cX6_create 151 = .ok (.iload 4, 2) := by decide +kernel
theorem dX6_create_153 : decode cX6_create 153 = .ok (.iconst 0, 1) := by decide +kernel
theorem dX6_create_154 : decode cX6_create 154 = .ok (.invokestatic 89, 3) := by decide +kernel
theorem dX6_create_157 : decode cX6_create 157 = .ok (.invokevirtual 94, 3) := by decide +kernel
theorem dX6_create_160 : decode cX6_create 160 = .ok (.aload_n 0, 1) := by decide +kernel
theorem dX6_create_161 : decode cX6_create 161 = .ok (.iload 7, 2) := by decide +kernel
theorem dX6_create_163 : decode cX6_create 163 = .ok (.invokevirtual 98, 3) := by decide +kernel
theorem dX6_create_166 : decode cX6_create 166 = .ok (.ireturn, 1) := by decide +kernel
theorem dX6_rewrite_0 : decode cX6_rewrite 0 = .ok (.iload_n 1, 1) := by decide +kernel
theorem dX6_rewrite_1 : decode cX6_rewrite 1 = .ok (.invokestatic 69, 3) := by decide +kernel
theorem dX6_rewrite_4 : decode cX6_rewrite 4 = .ok (.ifCond .eq 22, 3) := by decide +kernel
theorem dX6_rewrite_7 : decode cX6_rewrite 7 = .ok (.aload_n 0, 1) := by decide +kernel
theorem dX6_rewrite_8 : decode cX6_rewrite 8 = .ok (.iload_n 2, 1) := by decide +kernel
theorem dX6_rewrite_9 : decode cX6_rewrite 9 = .ok (.invokevirtual 62, 3) := by decide +kernel
theorem dX6_rewrite_12 : decode cX6_rewrite 12 = .ok (.ifCond .eq 14, 3) := by decide +kernel
theorem dX6_rewrite_15 : decode cX6_rewrite 15 = .ok (.iload_n 3, 1) := by decide +kernel
theorem dX6_rewrite_16 : decode cX6_rewrite 16 = .ok (.ifCond .lt 10, 3) := by decide +kernel
theorem dX6_rewrite_19 : decode cX6_rewrite 19 = .ok (.iload_n 3, 1) := by decide +kernel
theorem dX6_rewrite_20 : decode cX6_rewrite 20 = .ok (.sipush 1000, 3) := by decide +kernel
theorem dX6_rewrite_23 : decode cX6_rewrite 23 = .ok (.if_icmp .lt 11, 3) := by decide +kernel
theorem dX6_rewrite_26 : decode cX6_rewrite 26 = .ok (.aload_n 0, 1) := by decide +kernel
theorem dX6_rewrite_27 : decode cX6_rewrite 27 = .ok (.bipush (-2), 2) := by decide +kernel
theorem dX6_rewrite_29 : decode cX6_rewrite 29 = .ok (.iconst (-1), 1) := by decide +kernel
theorem dX6_rewrite_30 : decode cX6_rewrite 30 = .ok (.invokevirtual 78, 3) := by decide +kernel
theorem dX6_rewrite_33 : decode cX6_rewrite 33 = .ok (.ireturn, 1) := by decide +kernel
theorem dX6_rewrite_34 : decode cX6_rewrite 34 = .ok (.aload_n 0, 1) := by decide +kernel
theorem dX6_rewrite_35 : decode cX6_rewrite 35 = .ok (.getfield 21, 3) := by decide +kernel
theorem dX6_rewrite_38 : decode cX6_rewrite 38 = .ok (.iload_n 1, 1) := by decide +kernel
theorem dX6_rewrite_39 : decode cX6_rewrite 39 = .ok (.aaload, 1) := by decide +kernel
theorem dX6_rewrite_40 : decode cX6_rewrite 40 = .ok (.astore 4, 2) := by decide +kernel
theorem dX6_rewrite_42 : decode cX6_rewrite 42 = .ok (.aload 4, 2) := by decide +kernel
theorem dX6_rewrite_44 : decode cX6_rewrite 44 = .ok (.iload_n 2, 1) := by decide +kernel
theorem dX6_rewrite_45 : decode cX6_rewrite 45 = .ok (.invokevirtual 66, 3) := by decide +kernel
theorem dX6_rewrite_48 : decode cX6_rewrite 48 = .ok (.ifCond .ne 11, 3) := by decide +kernel
theorem dX6_rewrite_51 : decode cX6_rewrite 51 = .ok (.aload_n 0, 1) := by decide +kernel
theorem dX6_rewrite_52 : decode cX6_rewrite 52 = .ok (.bipush (-3), 2) := by decide +kernel
theorem dX6_rewrite_54 : decode cX6_rewrite 54 = .ok (.iload_n 2, 1) := by decide +kernel
theorem dX6_rewrite_55 : decode cX6_rewrite 55 = .ok (.invokevirtual 78, 3) := by decide +kernel
theorem dX6_rewrite_58 : decode cX6_rewrite 58 = .ok (.ireturn, 1) := by decide +kernel
theorem dX6_rewrite_59 : decode cX6_rewrite 59 = .ok (.aload_n 0, 1) := by decide +kernel
theorem dX6_rewrite_60 : decode cX6_rewrite 60 = .ok (.getfield 15, 3) := by decide +kernel
theorem dX6_rewrite_63 : decode cX6_rewrite 63 = .ok (.iload_n 2, 1) := by decide +kernel
theorem dX6_rewrite_64 : decode cX6_rewrite 64 = .ok (.baload, 1) := by decide +kernel
theorem dX6_rewrite_65 : decode cX6_rewrite 65 = .ok (.ifCond .eq 11, 3) := by decide +kernel
theorem dX6_rewrite_68 : decode cX6_rewrite 68 = .ok (.aload_n 0, 1) := by decide +kernel
theorem dX6_rewrite_69 : decode cX6_rewrite 69 = .ok (.bipush (-13), 2) := by decide +kernel
theorem dX6_rewrite_71 : decode cX6_rewrite 71 = .ok (.iconst (-1), 1) := by decide +kernel
theorem dX6_rewrite_72 : decode cX6_rewrite 72 = .ok (.invokevirtual 78, 3) := by decide +kernel
theorem dX6_rewrite_75 : decode cX6_rewrite 75 = .ok (.ireturn, 1) := by decide +kernel
theorem dX6_rewrite_76 : decode cX6_rewrite 76 = .ok (.aload 4, 2) := by decide +kernel
theorem dX6_rewrite_78 : decode cX6_rewrite 78 = .ok (.getfield 102, 3) := by decide +kernel
theorem dX6_rewrite_81 : decode cX6_rewrite 81 = .ok (.iload_n 2, 1) := by decide +kernel
theorem dX6_rewrite_82 : decode cX6_rewrite 82 = .ok (.iaload, 1) := by decide +kernel
theorem dX6_rewrite_83 : decode cX6_rewrite 83 = .ok (.istore 5, 2) := by decide +kernel
theorem dX6_rewrite_85 : decode cX6_rewrite 85 = .ok (.aload 4, 2) := by decide +kernel
theorem dX6_rewrite_87 : decode cX6_rewrite 87 = .ok (.getfield 102, 3) := by decide +kernel
theorem dX6_rewrite_90 : decode cX6_rewrite 90 = .ok (.iload_n 2, 1) := by decide +kernel
theorem dX6_rewrite_91 : decode cX6_rewrite 91 = .ok (.iload_n 3, 1) := by decide +kernel
theorem dX6_rewrite_92 : decode cX6_rewrite 92 = .ok (.iastore, 1) := by decide +kernel
theorem dX6_rewrite_93 : decode cX6_rewrite 93 = .ok (.aload_n 0, 1) := by decide +kernel
theorem dX6_rewrite_94 : decode cX6_rewrite 94 = .ok (.iload 5, 2) := by decide +kernel
theorem dX6_rewrite_96 : decode cX6_rewrite 96 = .ok (.invokevirtual 98, 3) := by decide +kernel
theorem dX6_rewrite_99 : decode cX6_rewrite 99 = .ok (.ireturn, 1) := by decide +kernel
theorem dX6_carry_0 : decode cX6_carry 0 = .ok (.iload_n 1, 1) := by decide +kernel
theorem dX6_carry_1 : decode cX6_carry 1 = .ok (.invokestatic 69, 3) := by decide +kernel
theorem dX6_carry_4 : decode cX6_carry 4 = .ok (.ifCond .eq 27, 3) := by decide +kernel
theorem dX6_carry_7 : decode cX6_carry 7 = .ok (.aload_n 0, 1) := by decide +kernel
theorem dX6_carry_8 : decode cX6_carry 8 = .ok (.iload_n 2, 1) := by decide +kernel
theorem dX6_carry_9 : decode cX6_carry 9 = .ok (.invokevirtual 62, 3) := by decide +kernel
theorem dX6_carry_12 : decode cX6_carry 12 = .ok (.ifCond .eq 19, 3) := by decide +kernel
theorem dX6_carry_15 : decode cX6_carry 15 = .ok (.aload_n 0, 1) := by decide +kernel
theorem dX6_carry_16 : decode cX6_carry 16 = .ok (.iload_n 3, 1) := by decide +kernel
theorem dX6_carry_17 : decode cX6_carry 17 = .ok (.invokevirtual 72, 3) := by decide +kernel
theorem dX6_carry_20 : decode cX6_carry 20 = .ok (.ifCond .eq 11, 3) := by decide +kernel
theorem dX6_carry_23 : decode cX6_carry 23 = .ok (.iload 4, 2) := by decide +kernel
theorem dX6_carry_25 : decode cX6_carry 25 = .ok (.invokestatic 75, 3) := by decide +kernel
theorem dX6_carry_28 : decode cX6_carry 28 = .ok (.ifCond .ne 11, 3) := by decide +kernel
theorem dX6_carry_31 : decode cX6_carry 31 = .ok (.aload_n 0, 1) := by decide +kernel
theorem dX6_carry_32 : decode cX6_carry 32 = .ok (.bipush (-2), 2) := by decide +kernel
theorem dX6_carry_34 : decode cX6_carry 34 = .ok (.iconst (-1), 1) := by decide +kernel
theorem dX6_carry_35 : decode cX6_carry 35 = .ok (.invokevirtual 78, 3) := by decide +kernel
theorem dX6_carry_38 : decode cX6_carry 38 = .ok (.ireturn, 1) := by decide +kernel
theorem dX6_carry_39 : decode cX6_carry 39 = .ok (.aload_n 0, 1) := by decide +kernel
theorem dX6_carry_40 : decode cX6_carry 40 = .ok (.getfield 21, 3) := by decide +kernel
theorem dX6_carry_43 : decode cX6_carry 43 = .ok (.iload_n 1, 1) := by decide +kernel
theorem dX6_carry_44 : decode cX6_carry 44 = .ok (.aaload, 1) := by decide +kernel
theorem dX6_carry_45 : decode cX6_carry 45 = .ok (.astore 5, 2) := by decide +kernel
theorem dX6_carry_47 : decode cX6_carry 47 = .ok (.aload 5, 2) := by decide +kernel
theorem dX6_carry_49 : decode cX6_carry 49 = .ok (.iload_n 2, 1) := by decide +kernel
theorem dX6_carry_50 : decode cX6_carry 50 = .ok (.invokevirtual 66, 3) := by decide +kernel
theorem dX6_carry_53 : decode cX6_carry 53 = .ok (.ifCond .ne 11, 3) := by decide +kernel
theorem dX6_carry_56 : decode cX6_carry 56 = .ok (.aload_n 0, 1) := by decide +kernel
theorem dX6_carry_57 : decode cX6_carry 57 = .ok (.bipush (-3), 2) := by decide +kernel
theorem dX6_carry_59 : decode cX6_carry 59 = .ok (.iload_n 2, 1) := by decide +kernel
theorem dX6_carry_60 : decode cX6_carry 60 = .ok (.invokevirtual 78, 3) := by decide +kernel
theorem dX6_carry_63 : decode cX6_carry 63 = .ok (.ireturn, 1) := by decide +kernel
theorem dX6_carry_64 : decode cX6_carry 64 = .ok (.aload_n 0, 1) := by decide +kernel
theorem dX6_carry_65 : decode cX6_carry 65 = .ok (.aload 5, 2) := by decide +kernel
theorem dX6_carry_67 : decode cX6_carry 67 = .ok (.iload_n 3, 1) := by decide +kernel
theorem dX6_carry_68 : decode cX6_carry 68 = .ok (.invokevirtual 82, 3) := by decide +kernel
theorem dX6_carry_71 : decode cX6_carry 71 = .ok (.ifCond .ne 11, 3) := by decide +kernel
theorem dX6_carry_74 : decode cX6_carry 74 = .ok (.aload_n 0, 1) := by decide +kernel
theorem dX6_carry_75 : decode cX6_carry 75 = .ok (.bipush (-3), 2) := by decide +kernel
theorem dX6_carry_77 : decode cX6_carry 77 = .ok (.iload_n 3, 1) := by decide +kernel
theorem dX6_carry_78 : decode cX6_carry 78 = .ok (.invokevirtual 78, 3) := by decide +kernel
theorem dX6_carry_81 : decode cX6_carry 81 = .ok (.ireturn, 1) := by decide +kernel
theorem dX6_carry_82 : decode cX6_carry 82 = .ok (.aload 5, 2) := by decide +kernel
theorem dX6_carry_84 : decode cX6_carry 84 = .ok (.iload_n 3, 1) := by decide +kernel
theorem dX6_carry_85 : decode cX6_carry 85 = .ok (.iload_n 2, 1) := by decide +kernel
theorem dX6_carry_86 : decode cX6_carry 86 = .ok (.invokevirtual 105, 3) := by decide +kernel
theorem dX6_carry_89 : decode cX6_carry 89 = .ok (.istore 6, 2) := by decide +kernel
theorem dX6_carry_91 : decode cX6_carry 91 = .ok (.iload 6, 2) := by decide +kernel
theorem dX6_carry_93 : decode cX6_carry 93 = .ok (.iconst (-1), 1) := by decide +kernel
theorem dX6_carry_94 : decode cX6_carry 94 = .ok (.if_icmp .eq 20, 3) := by decide +kernel
theorem dX6_carry_97 : decode cX6_carry 97 = .ok (.aload_n 0, 1) := by decide +kernel
theorem dX6_carry_98 : decode cX6_carry 98 = .ok (.bipush (-7), 2) := by decide +kernel
theorem dX6_carry_100 : decode cX6_carry 100 = .ok (.iload_n 3, 1) := by decide +kernel
theorem dX6_carry_101 : decode cX6_carry 101 = .ok (.invokevirtual 78, 3) := by decide +kernel
theorem dX6_carry_104 : decode cX6_carry 104 = .ok (.pop, 1) := by decide +kernel
theorem dX6_carry_105 : decode cX6_carry 105 = .ok (.aload_n 0, 1) := by decide +kernel
theorem dX6_carry_106 : decode cX6_carry 106 = .ok (.iload 6, 2) := by decide +kernel
theorem dX6_carry_108 : decode cX6_carry 108 = .ok (.putfield 43, 3) := by decide +kernel
theorem dX6_carry_111 : decode cX6_carry 111 = .ok (.bipush (-7), 2) := by decide +kernel
theorem dX6_carry_113 : decode cX6_carry 113 = .ok (.ireturn, 1) := by decide +kernel
theorem dX6_carry_114 : decode cX6_carry 114 = .ok (.aload 5, 2) := by decide +kernel
theorem dX6_carry_116 : decode cX6_carry 116 = .ok (.iload_n 3, 1) := by decide +kernel
theorem dX6_carry_117 : decode cX6_carry 117 = .ok (.iload 4, 2) := by decide +kernel
theorem dX6_carry_119 : decode cX6_carry 119 = .ok (.invokevirtual 86, 3) := by decide +kernel
theorem dX6_carry_122 : decode cX6_carry 122 = .ok (.istore 7, 2) := by decide +kernel
theorem dX6_carry_124 : decode cX6_carry 124 = .ok (.iload 7, 2) := by decide +kernel
theorem dX6_carry_126 : decode cX6_carry 126 = .ok (.iconst (-1), 1) := by decide +kernel
theorem dX6_carry_127 : decode cX6_carry 127 = .ok (.if_icmp .eq 18, 3) := by decide +kernel
theorem dX6_carry_130 : decode cX6_carry 130 = .ok (.iload 7, 2) := by decide +kernel
theorem dX6_carry_132 : decode cX6_carry 132 = .ok (.iload_n 2, 1) := by decide +kernel
theorem dX6_carry_133 : decode cX6_carry 133 = .ok (.if_icmp .eq 12, 3) := by decide +kernel
theorem dX6_carry_136 : decode cX6_carry 136 = .ok (.aload_n 0, 1) := by decide +kernel
theorem dX6_carry_137 : decode cX6_carry 137 = .ok (.bipush (-6), 2) := by decide +kernel
theorem dX6_carry_139 : decode cX6_carry 139 = .ok (.iload 7, 2) := by decide +kernel
theorem dX6_carry_141 : decode cX6_carry 141 = .ok (.invokevirtual 78, 3) := by decide +kernel
theorem dX6_carry_144 : decode cX6_carry 144 = .ok (.ireturn, 1) := by decide +kernel
theorem dX6_carry_145 : decode cX6_carry 145 = .ok (.aload 5, 2) := by decide +kernel
theorem dX6_carry_147 : decode cX6_carry 147 = .ok (.getfield 108, 3) := by decide +kernel
theorem dX6_carry_150 : decode cX6_carry 150 = .ok (.iload_n 2, 1) := by decide +kernel
theorem dX6_carry_151 : decode cX6_carry 151 = .ok (.iload_n 3, 1) := by decide +kernel
theorem dX6_carry_152 : decode cX6_carry 152 = .ok (.iastore, 1) := by decide +kernel
theorem dX6_carry_153 : decode cX6_carry 153 = .ok (.aload 5, 2) := by decide +kernel
theorem dX6_carry_155 : decode cX6_carry 155 = .ok (.getfield 111, 3) := by decide +kernel
theorem dX6_carry_158 : decode cX6_carry 158 = .ok (.iload_n 2, 1) := by decide +kernel
theorem dX6_carry_159 : decode cX6_carry 159 = .ok (.iload 4, 2) := by decide +kernel
theorem dX6_carry_161 : decode cX6_carry 161 = .ok (.iastore, 1) := by decide +kernel
theorem dX6_carry_162 : decode cX6_carry 162 = .ok (.aload_n 0, 1) := by decide +kernel
theorem dX6_carry_163 : decode cX6_carry 163 = .ok (.iconst 1, 1) := by decide +kernel
theorem dX6_carry_164 : decode cX6_carry 164 = .ok (.invokevirtual 98, 3) := by decide +kernel
theorem dX6_carry_167 : decode cX6_carry 167 = .ok (.ireturn, 1) := by decide +kernel
theorem dX6_erase_0 : decode cX6_erase 0 = .ok (.iload_n 1, 1) := by decide +kernel
theorem dX6_erase_1 : decode cX6_erase 1 = .ok (.invokestatic 69, 3) := by decide +kernel
theorem dX6_erase_4 : decode cX6_erase 4 = .ok (.ifCond .eq 11, 3) := by decide +kernel
theorem dX6_erase_7 : decode cX6_erase 7 = .ok (.aload_n 0, 1) := by decide +kernel
theorem dX6_erase_8 : decode cX6_erase 8 = .ok (.iload_n 2, 1) := by decide +kernel
theorem dX6_erase_9 : decode cX6_erase 9 = .ok (.invokevirtual 62, 3) := by decide +kernel
theorem dX6_erase_12 : decode cX6_erase 12 = .ok (.ifCond .ne 11, 3) := by decide +kernel
theorem dX6_erase_15 : decode cX6_erase 15 = .ok (.aload_n 0, 1) := by decide +kernel
theorem dX6_erase_16 : decode cX6_erase 16 = .ok (.bipush (-2), 2) := by decide +kernel
theorem dX6_erase_18 : decode cX6_erase 18 = .ok (.iconst (-1), 1) := by decide +kernel
theorem dX6_erase_19 : decode cX6_erase 19 = .ok (.invokevirtual 78, 3) := by decide +kernel
theorem dX6_erase_22 : decode cX6_erase 22 = .ok (.ireturn, 1) := by decide +kernel
theorem dX6_erase_23 : decode cX6_erase 23 = .ok (.aload_n 0, 1) := by decide +kernel
theorem dX6_erase_24 : decode cX6_erase 24 = .ok (.getfield 21, 3) := by decide +kernel
theorem dX6_erase_27 : decode cX6_erase 27 = .ok (.iload_n 1, 1) := by decide +kernel
theorem dX6_erase_28 : decode cX6_erase 28 = .ok (.aaload, 1) := by decide +kernel
theorem dX6_erase_29 : decode cX6_erase 29 = .ok (.astore_n 3, 1) := by decide +kernel
theorem dX6_erase_30 : decode cX6_erase 30 = .ok (.aload_n 3, 1) := by decide +kernel
theorem dX6_erase_31 : decode cX6_erase 31 = .ok (.iload_n 2, 1) := by decide +kernel
theorem dX6_erase_32 : decode cX6_erase 32 = .ok (.invokevirtual 66, 3) := by decide +kernel
theorem dX6_erase_35 : decode cX6_erase 35 = .ok (.ifCond .ne 11, 3) := by decide +kernel
theorem dX6_erase_38 : decode cX6_erase 38 = .ok (.aload_n 0, 1) := by decide +kernel
theorem dX6_erase_39 : decode cX6_erase 39 = .ok (.bipush (-3), 2) := by decide +kernel
theorem dX6_erase_41 : decode cX6_erase 41 = .ok (.iload_n 2, 1) := by decide +kernel
theorem dX6_erase_42 : decode cX6_erase 42 = .ok (.invokevirtual 78, 3) := by decide +kernel
theorem dX6_erase_45 : decode cX6_erase 45 = .ok (.ireturn, 1) := by decide +kernel
theorem dX6_erase_46 : decode cX6_erase 46 = .ok (.iconst 0, 1) := by decide +kernel
theorem dX6_erase_47 : decode cX6_erase 47 = .ok (.istore 4, 2) := by decide +kernel
theorem dX6_erase_49 : decode cX6_erase 49 = .ok (.iload 4, 2) := by decide +kernel
theorem dX6_erase_51 : decode cX6_erase 51 = .ok (.bipush 30, 2) := by decide +kernel
theorem dX6_erase_53 : decode cX6_erase 53 = .ok (.if_icmp .ge 37, 3) := by decide +kernel
theorem dX6_erase_56 : decode cX6_erase 56 = .ok (.aload_n 0, 1) := by decide +kernel
theorem dX6_erase_57 : decode cX6_erase 57 = .ok (.getfield 50, 3) := by decide +kernel
theorem dX6_erase_60 : decode cX6_erase 60 = .ok (.iload 4, 2) := by decide +kernel
theorem dX6_erase_62 : decode cX6_erase 62 = .ok (.iload 4, 2) := by decide +kernel
theorem dX6_erase_64 : decode cX6_erase 64 = .ok (.iload_n 2, 1) := by decide +kernel
theorem dX6_erase_65 : decode cX6_erase 65 = .ok (.if_icmp .eq 13, 3) := by decide +kernel
theorem dX6_erase_68 : decode cX6_erase 68 = .ok (.aload_n 3, 1) := by decide +kernel
theorem dX6_erase_69 : decode cX6_erase 69 = .ok (.iload 4, 2) := by decide +kernel
theorem dX6_erase_71 : decode cX6_erase 71 = .ok (.iload_n 2, 1) := by decide +kernel
theorem dX6_erase_72 : decode cX6_erase 72 = .ok (.invokevirtual 114, 3) := by decide +kernel
theorem dX6_erase_75 : decode cX6_erase 75 = .ok (.ifCond .eq 7, 3) := by decide +kernel
theorem dX6_erase_78 : decode cX6_erase 78 = .ok (.iconst 1, 1) := by decide +kernel
theorem dX6_erase_79 : decode cX6_erase 79 = .ok (.goto 4, 3) := by decide +kernel
theorem dX6_erase_82 : decode cX6_erase 82 = .ok (.iconst 0, 1) := by decide +kernel
theorem dX6_erase_83 : decode cX6_erase 83 = .ok (.bastore, 1) := by decide +kernel
theorem dX6_erase_84 : decode cX6_erase 84 = .ok (.iinc 4 1, 3) := by decide +kernel
theorem dX6_erase_87 : decode cX6_erase 87 = .ok (.goto (-38), 3) := by decide +kernel
theorem dX6_erase_90 : decode cX6_erase 90 = .ok (.iconst 0, 1) := by decide +kernel
theorem dX6_erase_91 : decode cX6_erase 91 = .ok (.istore 4, 2) := by decide +kernel
theorem dX6_erase_93 : decode cX6_erase 93 = .ok (.iconst 0, 1) := by decide +kernel
theorem dX6_erase_94 : decode cX6_erase 94 = .ok (.istore 5, 2) := by decide +kernel
theorem dX6_erase_96 : decode cX6_erase 96 = .ok (.iload 5, 2) := by decide +kernel
theorem dX6_erase_98 : decode cX6_erase 98 = .ok (.bipush 30, 2) := by decide +kernel
theorem dX6_erase_100 : decode cX6_erase 100 = .ok (.if_icmp .ge 28, 3) := by decide +kernel
theorem dX6_erase_103 : decode cX6_erase 103 = .ok (.aload_n 0, 1) := by decide +kernel
theorem dX6_erase_104 : decode cX6_erase 104 = .ok (.getfield 50, 3) := by decide +kernel
theorem dX6_erase_107 : decode cX6_erase 107 = .ok (.iload 5, 2) := by decide +kernel
theorem dX6_erase_109 : decode cX6_erase 109 = .ok (.baload, 1) := by decide +kernel
theorem dX6_erase_110 : decode cX6_erase 110 = .ok (.ifCond .eq 12, 3) := by decide +kernel
theorem dX6_erase_113 : decode cX6_erase 113 = .ok (.aload_n 3, 1) := by decide +kernel
theorem dX6_erase_114 : decode cX6_erase 114 = .ok (.iload 5, 2) := by decide +kernel
theorem dX6_erase_116 : decode cX6_erase 116 = .ok (.invokevirtual 118, 3) := by decide +kernel
theorem dX6_erase_119 : decode cX6_erase 119 = .ok (.iinc 4 1, 3) := by decide +kernel
theorem dX6_erase_122 : decode cX6_erase 122 = .ok (.iinc 5 1, 3) := by decide +kernel
theorem dX6_erase_125 : decode cX6_erase 125 = .ok (.goto (-29), 3) := by decide +kernel
theorem dX6_erase_128 : decode cX6_erase 128 = .ok (.aload_n 0, 1) := by decide +kernel
theorem dX6_erase_129 : decode cX6_erase 129 = .ok (.iload 4, 2) := by decide +kernel
theorem dX6_erase_131 : decode cX6_erase 131 = .ok (.invokevirtual 98, 3) := by decide +kernel
theorem dX6_erase_134 : decode cX6_erase 134 = .ok (.ireturn, 1) := by decide +kernel
theorem dX6_refuse_0 : decode cX6_refuse 0 = .ok (.aload_n 0, 1) := by decide +kernel
theorem dX6_refuse_1 : decode cX6_refuse 1 = .ok (.iload_n 1, 1) := by decide +kernel
theorem dX6_refuse_2 : decode cX6_refuse 2 = .ok (.putfield 37, 3) := by decide +kernel
theorem dX6_refuse_5 : decode cX6_refuse 5 = .ok (.aload_n 0, 1) := by decide +kernel
theorem dX6_refuse_6 : decode cX6_refuse 6 = .ok (.iload_n 2, 1) := by decide +kernel
theorem dX6_refuse_7 : decode cX6_refuse 7 = .ok (.putfield 40, 3) := by decide +kernel
theorem dX6_refuse_10 : decode cX6_refuse 10 = .ok (.aload_n 0, 1) := by decide +kernel
theorem dX6_refuse_11 : decode cX6_refuse 11 = .ok (.iconst 0, 1) := by decide +kernel
theorem dX6_refuse_12 : decode cX6_refuse 12 = .ok (.putfield 43, 3) := by decide +kernel
theorem dX6_refuse_15 : decode cX6_refuse 15 = .ok (.iload_n 1, 1) := by decide +kernel
theorem dX6_refuse_16 : decode cX6_refuse 16 = .ok (.ireturn, 1) := by decide +kernel
theorem dX6_allow_0 : decode cX6_allow 0 = .ok (.aload_n 0, 1) := by decide +kernel
theorem dX6_allow_1 : decode cX6_allow 1 = .ok (.iconst 0, 1) := by decide +kernel
theorem dX6_allow_2 : decode cX6_allow 2 = .ok (.putfield 37, 3) := by decide +kernel
theorem dX6_allow_5 : decode cX6_allow 5 = .ok (.aload_n 0, 1) := by decide +kernel
theorem dX6_allow_6 : decode cX6_allow 6 = .ok (.iconst (-1), 1) := by decide +kernel
theorem dX6_allow_7 : decode cX6_allow 7 = .ok (.putfield 40, 3) := by decide +kernel
theorem dX6_allow_10 : decode cX6_allow 10 = .ok (.aload_n 0, 1) := by decide +kernel
theorem dX6_allow_11 : decode cX6_allow 11 = .ok (.iconst 0, 1) := by decide +kernel
theorem dX6_allow_12 : decode cX6_allow 12 = .ok (.putfield 43, 3) := by decide +kernel
theorem dX6_allow_15 : decode cX6_allow 15 = .ok (.iload_n 1, 1) := by decide +kernel
theorem dX6_allow_16 : decode cX6_allow 16 = .ok (.ireturn, 1) := by decide +kernel
theorem dX6_isIgnoredThere_0 : decode cX6_isIgnoredThere 0 = .ok (.aload_n 0, 1) := by decide +kernel
theorem dX6_isIgnoredThere_1 : decode cX6_isIgnoredThere 1 = .ok (.getfield 21, 3) := by decide +kernel
theorem dX6_isIgnoredThere_4 : decode cX6_isIgnoredThere 4 = .ok (.iload_n 1, 1) := by decide +kernel
theorem dX6_isIgnoredThere_5 : decode cX6_isIgnoredThere 5 = .ok (.aaload, 1) := by decide +kernel
theorem dX6_isIgnoredThere_6 : decode cX6_isIgnoredThere 6 = .ok (.astore_n 3, 1) := by decide +kernel
theorem dX6_isIgnoredThere_7 : decode cX6_isIgnoredThere 7 = .ok (.aload_n 0, 1) := by decide +kernel
theorem dX6_isIgnoredThere_8 : decode cX6_isIgnoredThere 8 = .ok (.getfield 31, 3) := by decide +kernel
theorem dX6_isIgnoredThere_11 : decode cX6_isIgnoredThere 11 = .ok (.ifCond .eq 11, 3) := by decide +kernel
theorem dX6_isIgnoredThere_14 : decode cX6_isIgnoredThere 14 = .ok (.aload_n 3, 1) := by decide +kernel
theorem dX6_isIgnoredThere_15 : decode cX6_isIgnoredThere 15 = .ok (.iload_n 2, 1) := by decide +kernel
theorem dX6_isIgnoredThere_16 : decode cX6_isIgnoredThere 16 = .ok (.invokevirtual 66, 3) := by decide +kernel
theorem dX6_isIgnoredThere_19 : decode cX6_isIgnoredThere 19 = .ok (.ifCond .ne 5, 3) := by decide +kernel
theorem dX6_isIgnoredThere_22 : decode cX6_isIgnoredThere 22 = .ok (.iconst 0, 1) := by decide +kernel
theorem dX6_isIgnoredThere_23 : decode cX6_isIgnoredThere 23 = .ok (.ireturn, 1) := by decide +kernel
theorem dX6_isIgnoredThere_24 : decode cX6_isIgnoredThere 24 = .ok (.aload_n 3, 1) := by decide +kernel
theorem dX6_isIgnoredThere_25 : decode cX6_isIgnoredThere 25 = .ok (.iload_n 2, 1) := by decide +kernel
theorem dX6_isIgnoredThere_26 : decode cX6_isIgnoredThere 26 = .ok (.aload_n 0, 1) := by decide +kernel
theorem dX6_isIgnoredThere_27 : decode cX6_isIgnoredThere 27 = .ok (.getfield 46, 3) := by decide +kernel
theorem dX6_isIgnoredThere_30 : decode cX6_isIgnoredThere 30 = .ok (.invokevirtual 122, 3) := by decide +kernel
theorem dX6_isIgnoredThere_33 : decode cX6_isIgnoredThere 33 = .ok (.istore 4, 2) := by decide +kernel
theorem dX6_isIgnoredThere_35 : decode cX6_isIgnoredThere 35 = .ok (.iconst 0, 1) := by decide +kernel
theorem dX6_isIgnoredThere_36 : decode cX6_isIgnoredThere 36 = .ok (.istore 5, 2) := by decide +kernel
theorem dX6_isIgnoredThere_38 : decode cX6_isIgnoredThere 38 = .ok (.iconst 0, 1) := by decide +kernel
theorem dX6_isIgnoredThere_39 : decode cX6_isIgnoredThere 39 = .ok (.istore 6, 2) := by decide +kernel
theorem dX6_isIgnoredThere_41 : decode cX6_isIgnoredThere 41 = .ok (.iconst 0, 1) := by decide +kernel
theorem dX6_isIgnoredThere_42 : decode cX6_isIgnoredThere 42 = .ok (.istore 7, 2) := by decide +kernel
theorem dX6_isIgnoredThere_44 : decode cX6_isIgnoredThere 44 = .ok (.iload 7, 2) := by decide +kernel
theorem dX6_isIgnoredThere_46 : decode cX6_isIgnoredThere 46 = .ok (.aload_n 0, 1) := by decide +kernel
theorem dX6_isIgnoredThere_47 : decode cX6_isIgnoredThere 47 = .ok (.getfield 31, 3) := by decide +kernel
theorem dX6_isIgnoredThere_50 : decode cX6_isIgnoredThere 50 = .ok (.if_icmp .ge 70, 3) := by decide +kernel
theorem dX6_isIgnoredThere_53 : decode cX6_isIgnoredThere 53 = .ok (.iload 7, 2) := by decide +kernel
theorem dX6_isIgnoredThere_55 : decode cX6_isIgnoredThere 55 = .ok (.bipush 6, 2) := by decide +kernel
theorem dX6_isIgnoredThere_57 : decode cX6_isIgnoredThere 57 = .ok (.if_icmp .ge 63, 3) := by decide +kernel
theorem dX6_isIgnoredThere_60 : decode cX6_isIgnoredThere 60 = .ok (.aload_n 0, 1) := by decide +kernel
theorem dX6_isIgnoredThere_61 : decode cX6_isIgnoredThere 61 = .ok (.getfield 27, 3) := by decide +kernel
theorem dX6_isIgnoredThere_64 : decode cX6_isIgnoredThere 64 = .ok (.iload 7, 2) := by decide +kernel
theorem dX6_isIgnoredThere_66 : decode cX6_isIgnoredThere 66 = .ok (.aaload, 1) := by decide +kernel
theorem dX6_isIgnoredThere_67 : decode cX6_isIgnoredThere 67 = .ok (.aload_n 0, 1) := by decide +kernel
theorem dX6_isIgnoredThere_68 : decode cX6_isIgnoredThere 68 = .ok (.getfield 46, 3) := by decide +kernel
theorem dX6_isIgnoredThere_71 : decode cX6_isIgnoredThere 71 = .ok (.iload 4, 2) := by decide +kernel
theorem dX6_isIgnoredThere_73 : decode cX6_isIgnoredThere 73 = .ok (.invokevirtual 126, 3) := by decide +kernel
theorem dX6_isIgnoredThere_76 : decode cX6_isIgnoredThere 76 = .ok (.istore 8, 2) := by decide +kernel
theorem dX6_isIgnoredThere_78 : decode cX6_isIgnoredThere 78 = .ok (.iload 8, 2) := by decide +kernel
theorem dX6_isIgnoredThere_80 : decode cX6_isIgnoredThere 80 = .ok (.ifCond .le 34, 3) := by decide +kernel
theorem dX6_isIgnoredThere_83 : decode cX6_isIgnoredThere 83 = .ok (.iload 8, 2) := by decide +kernel
theorem dX6_isIgnoredThere_85 : decode cX6_isIgnoredThere 85 = .ok (.iload 5, 2) := by decide +kernel
theorem dX6_isIgnoredThere_87 : decode cX6_isIgnoredThere 87 = .ok (.if_icmp .lt 27, 3) := by decide +kernel
theorem dX6_isIgnoredThere_90 : decode cX6_isIgnoredThere 90 = .ok (.iload 8, 2) := by decide +kernel
theorem dX6_isIgnoredThere_92 : decode cX6_isIgnoredThere 92 = .ok (.istore 5, 2) := by decide +kernel
theorem dX6_isIgnoredThere_94 : decode cX6_isIgnoredThere 94 = .ok (.aload_n 0, 1) := by decide +kernel
theorem dX6_isIgnoredThere_95 : decode cX6_isIgnoredThere 95 = .ok (.getfield 27, 3) := by decide +kernel
theorem dX6_isIgnoredThere_98 : decode cX6_isIgnoredThere 98 = .ok (.iload 7, 2) := by decide +kernel
theorem dX6_isIgnoredThere_100 : decode cX6_isIgnoredThere 100 = .ok (.aaload, 1) := by decide +kernel
theorem dX6_isIgnoredThere_101 : decode cX6_isIgnoredThere 101 = .ok (.getfield 130, 3) := by decide +kernel
theorem dX6_isIgnoredThere_104 : decode cX6_isIgnoredThere 104 = .ok (.ifCond .ne 7, 3) := by decide +kernel
theorem dX6_isIgnoredThere_107 : decode cX6_isIgnoredThere 107 = .ok (.iconst 1, 1) := by decide +kernel
theorem dX6_isIgnoredThere_108 : decode cX6_isIgnoredThere 108 = .ok (.goto 4, 3) := by decide +kernel
theorem dX6_isIgnoredThere_111 : decode cX6_isIgnoredThere 111 = .ok (.iconst 0, 1) := by decide +kernel
theorem dX6_isIgnoredThere_112 : decode cX6_isIgnoredThere 112 = .ok (.istore 6, 2) := by decide +kernel
theorem dX6_isIgnoredThere_114 : decode cX6_isIgnoredThere 114 = .ok (.iinc 7 1, 3) := by decide +kernel
theorem dX6_isIgnoredThere_117 : decode cX6_isIgnoredThere 117 = .ok (.goto (-73), 3) := by decide +kernel
theorem dX6_isIgnoredThere_120 : decode cX6_isIgnoredThere 120 = .ok (.iload 6, 2) := by decide +kernel
theorem dX6_isIgnoredThere_122 : decode cX6_isIgnoredThere 122 = .ok (.ireturn, 1) := by decide +kernel
theorem dX7_init_0 : decode cX7_init 0 = .ok (.aload_n 0, 1) := by decide +kernel
theorem dX7_init_1 : decode cX7_init 1 = .ok (.invokespecial 3, 3) := by decide +kernel
theorem dX7_init_4 : decode cX7_init 4 = .ok (.aload_n 0, 1) := by decide +kernel
theorem dX7_init_5 : decode cX7_init 5 = .ok (.new 9, 3) := by decide +kernel
theorem dX7_init_8 : decode cX7_init 8 = .ok (.dup, 1) := by decide +kernel
theorem dX7_init_9 : decode cX7_init 9 = .ok (.invokespecial 11, 3) := by decide +kernel
theorem dX7_init_12 : decode cX7_init 12 = .ok (.putfield 12, 3) := by decide +kernel
theorem dX7_init_15 : decode cX7_init 15 = .ok (.aload_n 0, 1) := by decide +kernel
theorem dX7_init_16 : decode cX7_init 16 = .ok (.new 9, 3) := by decide +kernel
theorem dX7_init_19 : decode cX7_init 19 = .ok (.dup, 1) := by decide +kernel
theorem dX7_init_20 : decode cX7_init 20 = .ok (.invokespecial 11, 3) := by decide +kernel
theorem dX7_init_23 : decode cX7_init 23 = .ok (.putfield 16, 3) := by decide +kernel
theorem dX7_init_26 : decode cX7_init 26 = .ok (.aload_n 0, 1) := by decide +kernel
theorem dX7_init_27 : decode cX7_init 27 = .ok (.new 9, 3) := by decide +kernel
theorem dX7_init_30 : decode cX7_init 30 = .ok (.dup, 1) := by decide +kernel
theorem dX7_init_31 : decode cX7_init 31 = .ok (.invokespecial 11, 3) := by decide +kernel
theorem dX7_init_34 : decode cX7_init 34 = .ok (.putfield 19, 3) := by decide +kernel
theorem dX7_init_37 : decode cX7_init 37 = .ok (.aload_n 0, 1) := by decide +kernel
theorem dX7_init_38 : decode cX7_init 38 = .ok (.iconst 0, 1) := by decide +kernel
theorem dX7_init_39 : decode cX7_init 39 = .ok (.putfield 22, 3) := by decide +kernel
theorem dX7_init_42 : decode cX7_init 42 = .ok (.aload_n 0, 1) := by decide +kernel
theorem dX7_init_43 : decode cX7_init 43 = .ok (.new 26, 3) := by decide +kernel
theorem dX7_init_46 : decode cX7_init 46 = .ok (.dup, 1) := by decide +kernel
theorem dX7_init_47 : decode cX7_init 47 = .ok (.invokespecial 28, 3) := by decide +kernel
theorem dX7_init_50 : decode cX7_init 50 = .ok (.putfield 29, 3) := by decide +kernel
theorem dX7_init_53 : decode cX7_init 53 = .ok (.aload_n 0, 1) := by decide +kernel
theorem dX7_init_54 : decode cX7_init 54 = .ok (.new 33, 3) := by decide +kernel
theorem dX7_init_57 : decode cX7_init 57 = .ok (.dup, 1) := by decide +kernel
theorem dX7_init_58 : decode cX7_init 58 = .ok (.aload_n 0, 1) := by decide +kernel
theorem dX7_init_59 : decode cX7_init 59 = .ok (.getfield 12, 3) := by decide +kernel
theorem dX7_init_62 : decode cX7_init 62 = .ok (.invokespecial 35, 3) := by decide +kernel
theorem dX7_init_65 : decode cX7_init 65 = .ok (.putfield 38, 3) := by decide +kernel
theorem dX7_init_68 : decode cX7_init 68 = .ok (.aload_n 0, 1) := by decide +kernel
theorem dX7_init_69 : decode cX7_init 69 = .ok (.new 42, 3) := by decide +kernel
theorem dX7_init_72 : decode cX7_init 72 = .ok (.dup, 1) := by decide +kernel
theorem dX7_init_73 : decode cX7_init 73 = .ok (.invokespecial 44, 3) := by decide +kernel
theorem dX7_init_76 : decode cX7_init 76 = .ok (.putfield 45, 3) := by decide +kernel
theorem dX7_init_79 : decode cX7_init 79 = .ok (.aload_n 0, 1) := by decide +kernel
theorem dX7_init_80 : decode cX7_init 80 = .ok (.iconst 4, 1) := by decide +kernel
theorem dX7_init_81 : decode cX7_init 81 = .ok (.anewarray 49, 3) := by decide +kernel
theorem dX7_init_84 : decode cX7_init 84 = .ok (.putfield 51, 3) := by decide +kernel
theorem dX7_init_87 : decode cX7_init 87 = .ok (.iconst 0, 1) := by decide +kernel
theorem dX7_init_88 : decode cX7_init 88 = .ok (.istore_n 1, 1) := by decide +kernel
theorem dX7_init_89 : decode cX7_init 89 = .ok (.iload_n 1, 1) := by decide +kernel
theorem dX7_init_90 : decode cX7_init 90 = .ok (.iconst 4, 1) := by decide +kernel
theorem dX7_init_91 : decode cX7_init 91 = .ok (.if_icmp .ge 22, 3) := by decide +kernel
theorem dX7_init_94 : decode cX7_init 94 = .ok (.aload_n 0, 1) := by decide +kernel
theorem dX7_init_95 : decode cX7_init 95 = .ok (.getfield 51, 3) := by decide +kernel
theorem dX7_init_98 : decode cX7_init 98 = .ok (.iload_n 1, 1) := by decide +kernel
theorem dX7_init_99 : decode cX7_init 99 = .ok (.new 49, 3) := by decide +kernel
theorem dX7_init_102 : decode cX7_init 102 = .ok (.dup, 1) := by decide +kernel
theorem dX7_init_103 : decode cX7_init 103 = .ok (.invokespecial 55, 3) := by decide +kernel
theorem dX7_init_106 : decode cX7_init 106 = .ok (.aastore, 1) := by decide +kernel
theorem dX7_init_107 : decode cX7_init 107 = .ok (.iinc 1 1, 3) := by decide +kernel
theorem dX7_init_110 : decode cX7_init 110 = .ok (.goto (-21), 3) := by decide +kernel
theorem dX7_init_113 : decode cX7_init 113 = .ok (.return_, 1) := by decide +kernel
theorem dX7_make_0 : decode cX7_make 0 = .ok (.aload_n 0, 1) := by decide +kernel
theorem dX7_make_1 : decode cX7_make 1 = .ok (.getfield 12, 3) := by decide +kernel
theorem dX7_make_4 : decode cX7_make 4 = .ok (.iload_n 1, 1) := by decide +kernel
theorem dX7_make_5 : decode cX7_make 5 = .ok (.iload_n 2, 1) := by decide +kernel
theorem dX7_make_6 : decode cX7_make 6 = .ok (.iload_n 3, 1) := by decide +kernel
theorem dX7_make_7 : decode cX7_make 7 = .ok (.iload 4, 2) := by decide +kernel
theorem dX7_make_9 : decode cX7_make 9 = .ok (.invokevirtual 56, 3) := by decide +kernel
theorem dX7_make_12 : decode cX7_make 12 = .ok (.ireturn, 1) := by decide +kernel
theorem dX7_write_0 : decode cX7_write 0 = .ok (.aload_n 0, 1) := by decide +kernel
theorem dX7_write_1 : decode cX7_write 1 = .ok (.getfield 12, 3) := by decide +kernel
theorem dX7_write_4 : decode cX7_write 4 = .ok (.iload_n 1, 1) := by decide +kernel
theorem dX7_write_5 : decode cX7_write 5 = .ok (.iload_n 2, 1) := by decide +kernel
theorem dX7_write_6 : decode cX7_write 6 = .ok (.iload_n 3, 1) := by decide +kernel
theorem dX7_write_7 : decode cX7_write 7 = .ok (.invokevirtual 60, 3) := by decide +kernel
theorem dX7_write_10 : decode cX7_write 10 = .ok (.ireturn, 1) := by decide +kernel
theorem dX7_move_0 : decode cX7_move 0 = .ok (.aload_n 0, 1) := by decide +kernel
theorem dX7_move_1 : decode cX7_move 1 = .ok (.getfield 12, 3) := by decide +kernel
theorem dX7_move_4 : decode cX7_move 4 = .ok (.iload_n 1, 1) := by decide +kernel
theorem dX7_move_5 : decode cX7_move 5 = .ok (.iload_n 2, 1) := by decide +kernel
theorem dX7_move_6 : decode cX7_move 6 = .ok (.iload_n 3, 1) := by decide +kernel
theorem dX7_move_7 : decode cX7_move 7 = .ok (.iload 4, 2) := by decide +kernel
theorem dX7_move_9 : decode cX7_move 9 = .ok (.invokevirtual 64, 3) := by decide +kernel
theorem dX7_move_12 : decode cX7_move 12 = .ok (.ireturn, 1) := by decide +kernel
theorem dX7_remove_0 : decode cX7_remove 0 = .ok (.aload_n 0, 1) := by decide +kernel
theorem dX7_remove_1 : decode cX7_remove 1 = .ok (.getfield 12, 3) := by decide +kernel
theorem dX7_remove_4 : decode cX7_remove 4 = .ok (.iload_n 1, 1) := by decide +kernel
theorem dX7_remove_5 : decode cX7_remove 5 = .ok (.iload_n 2, 1) := by decide +kernel
theorem dX7_remove_6 : decode cX7_remove 6 = .ok (.invokevirtual 67, 3) := by decide +kernel
theorem dX7_remove_9 : decode cX7_remove 9 = .ok (.ireturn, 1) := by decide +kernel
theorem dX7_told_0 : decode cX7_told 0 = .ok (.iload_n 1, 1) := by decide +kernel
theorem dX7_told_1 : decode cX7_told 1 = .ok (.invokestatic 71, 3) := by decide +kernel
theorem dX7_told_4 : decode cX7_told 4 = .ok (.ifCond .eq 24, 3) := by decide +kernel
theorem dX7_told_7 : decode cX7_told 7 = .ok (.aload_n 0, 1) := by decide +kernel
theorem dX7_told_8 : decode cX7_told 8 = .ok (.getfield 12, 3) := by decide +kernel
theorem dX7_told_11 : decode cX7_told 11 = .ok (.iload_n 2, 1) := by decide +kernel
theorem dX7_told_12 : decode cX7_told 12 = .ok (.invokevirtual 75, 3) := by decide +kernel
theorem dX7_told_15 : decode cX7_told 15 = .ok (.ifCond .eq 13, 3) := by decide +kernel
theorem dX7_told_18 : decode cX7_told 18 = .ok (.iload_n 3, 1) := by decide +kernel
theorem dX7_told_19 : decode cX7_told 19 = .ok (.ifCond .lt 9, 3) := by decide +kernel
theorem dX7_told_22 : decode cX7_told 22 = .ok (.iload_n 3, 1) := by decide +kernel
theorem dX7_told_23 : decode cX7_told 23 = .ok (.bipush 9, 2) := by decide +kernel
theorem dX7_told_25 : decode cX7_told 25 = .ok (.if_icmp .le 6, 3) := by decide +kernel
theorem dX7_told_28 : decode cX7_told 28 = .ok (.bipush (-2), 2) := by decide +kernel
theorem dX7_told_30 : decode cX7_told 30 = .ok (.ireturn, 1) := by decide +kernel
theorem dX7_told_31 : decode cX7_told 31 = .ok (.aload_n 0, 1) := by decide +kernel
theorem dX7_told_32 : decode cX7_told 32 = .ok (.getfield 12, 3) := by decide +kernel
theorem dX7_told_35 : decode cX7_told 35 = .ok (.getfield 78, 3) := by decide +kernel
theorem dX7_told_38 : decode cX7_told 38 = .ok (.iload_n 1, 1) := by decide +kernel
theorem dX7_told_39 : decode cX7_told 39 = .ok (.aaload, 1) := by decide +kernel
theorem dX7_told_40 : decode cX7_told 40 = .ok (.astore 4, 2) := by decide +kernel
theorem dX7_told_42 : decode cX7_told 42 = .ok (.iload_n 3, 1) := by decide +kernel
theorem dX7_told_43 : decode cX7_told 43 = .ok (.tableswitch 127 0 9 #[53, 63, 71, 79, 87, 94, 127, 101, 127, 114], 53) := by decide +kernel
theorem dX7_told_96 : decode cX7_told 96 = .ok (.aload 4, 2) := by decide +kernel
theorem dX7_told_98 : decode cX7_told 98 = .ok (.iload_n 2, 1) := by decide +kernel
theorem dX7_told_99 : decode cX7_told 99 = .ok (.invokevirtual 82, 3) := by decide +kernel
theorem dX7_told_102 : decode cX7_told 102 = .ok (.invokestatic 87, 3) := by decide +kernel
theorem dX7_told_105 : decode cX7_told 105 = .ok (.ireturn, 1) := by decide +kernel
theorem dX7_told_106 : decode cX7_told 106 = .ok (.aload 4, 2) := by decide +kernel
theorem dX7_told_108 : decode cX7_told 108 = .ok (.getfield 91, 3) := by decide +kernel
theorem dX7_told_111 : decode cX7_told 111 = .ok (.iload_n 2, 1) := by decide +kernel
theorem dX7_told_112 : decode cX7_told 112 = .ok (.iaload, 1) := by decide +kernel
theorem dX7_told_113 : decode cX7_told 113 = .ok (.ireturn, 1) := by decide +kernel
theorem dX7_told_114 : decode cX7_told 114 = .ok (.aload 4, 2) := by decide +kernel
theorem dX7_told_116 : decode cX7_told 116 = .ok (.getfield 95, 3) := by decide +kernel
theorem dX7_told_119 : decode cX7_told 119 = .ok (.iload_n 2, 1) := by decide +kernel
theorem dX7_told_120 : decode cX7_told 120 = .ok (.iaload, 1) := by decide +kernel
theorem dX7_told_121 : decode cX7_told 121 = .ok (.ireturn, 1) := by decide +kernel
theorem dX7_told_122 : decode cX7_told 122 = .ok (.aload 4, 2) := by decide +kernel
theorem dX7_told_124 : decode cX7_told 124 = .ok (.getfield 98, 3) := by decide +kernel
theorem dX7_told_127 : decode cX7_told 127 = .ok (.iload_n 2, 1) := by decide +kernel
theorem dX7_told_128 : decode cX7_told 128 = .ok (.iaload, 1) := by decide +kernel
theorem dX7_told_129 : decode cX7_told 129 = .ok (.ireturn, 1) := by decide +kernel
theorem dX7_told_130 : decode cX7_told 130 = .ok (.aload 4, 2) := by decide +kernel
theorem dX7_told_132 : decode cX7_told 132 = .ok (.iload_n 2, 1) := by decide +kernel
theorem dX7_told_133 : decode cX7_told 133 = .ok (.invokevirtual 101, 3) := by decide +kernel
theorem dX7_told_136 : decode cX7_told 136 = .ok (.ireturn, 1) := by decide +kernel
theorem dX7_told_137 : decode cX7_told 137 = .ok (.aload 4, 2) := by decide +kernel
theorem dX7_told_139 : decode cX7_told 139 = .ok (.iload_n 2, 1) := by decide +kernel
theorem dX7_told_140 : decode cX7_told 140 = .ok (.invokevirtual 105, 3) := by decide +kernel
theorem dX7_told_143 : decode cX7_told 143 = .ok (.ireturn, 1) := by decide +kernel
theorem dX7_told_144 : decode cX7_told 144 = .ok (.aload_n 0, 1) := by decide +kernel
theorem dX7_told_145 : decode cX7_told 145 = .ok (.getfield 12, 3) := by decide +kernel
theorem dX7_told_148 : decode cX7_told 148 = .ok (.iload_n 1, 1) := by decide +kernel
theorem dX7_told_149 : decode cX7_told 149 = .ok (.iload_n 2, 1) := by decide +kernel
theorem dX7_told_150 : decode cX7_told 150 = .ok (.invokevirtual 108, 3) := by decide +kernel
theorem dX7_told_153 : decode cX7_told 153 = .ok (.invokestatic 87, 3) := by decide +kernel
theorem dX7_told_156 : decode cX7_told 156 = .ok (.ireturn, 1) := by decide +kernel
theorem dX7_told_157 : decode cX7_told 157 = .ok (.aload_n 0, 1) := by decide +kernel
theorem dX7_told_158 : decode cX7_told 158 = .ok (.getfield 12, 3) := by decide +kernel
theorem dX7_told_161 : decode cX7_told 161 = .ok (.getfield 112, 3) := by decide +kernel
theorem dX7_told_164 : decode cX7_told 164 = .ok (.iload_n 2, 1) := by decide +kernel
theorem dX7_told_165 : decode cX7_told 165 = .ok (.baload, 1) := by decide +kernel
theorem dX7_told_166 : decode cX7_told 166 = .ok (.invokestatic 87, 3) := by decide +kernel
theorem dX7_told_169 : decode cX7_told 169 = .ok (.ireturn, 1) := by decide +kernel
theorem dX7_told_170 : decode cX7_told 170 = .ok (.aload_n 0, 1) := by decide +kernel
theorem dX7_told_171 : decode cX7_told 171 = .ok (.getfield 38, 3) := by decide +kernel
theorem dX7_told_174 : decode cX7_told 174 = .ok (.aload_n 0, 1) := by decide +kernel
theorem dX7_told_175 : decode cX7_told 175 = .ok (.getfield 12, 3) := by decide +kernel
theorem dX7_told_178 : decode cX7_told 178 = .ok (.invokevirtual 116, 3) := by decide +kernel
theorem dX7_told_181 : decode cX7_told 181 = .ok (.iload_n 3, 1) := by decide +kernel
theorem dX7_told_182 : decode cX7_told 182 = .ok (.bipush 8, 2) := by decide +kernel
theorem dX7_told_184 : decode cX7_told 184 = .ok (.if_icmp .ne 16, 3) := by decide +kernel
theorem dX7_told_187 : decode cX7_told 187 = .ok (.aload_n 0, 1) := by decide +kernel
theorem dX7_told_188 : decode cX7_told 188 = .ok (.getfield 38, 3) := by decide +kernel
theorem dX7_told_191 : decode cX7_told 191 = .ok (.getfield 119, 3) := by decide +kernel
theorem dX7_told_194 : decode cX7_told 194 = .ok (.iload_n 2, 1) := by decide +kernel
theorem dX7_told_195 : decode cX7_told 195 = .ok (.baload, 1) := by decide +kernel
theorem dX7_told_196 : decode cX7_told 196 = .ok (.invokestatic 87, 3) := by decide +kernel
theorem dX7_told_199 : decode cX7_told 199 = .ok (.ireturn, 1) := by decide +kernel
theorem dX7_told_200 : decode cX7_told 200 = .ok (.iload_n 1, 1) := by decide +kernel
theorem dX7_told_201 : decode cX7_told 201 = .ok (.iconst 2, 1) := by decide +kernel
theorem dX7_told_202 : decode cX7_told 202 = .ok (.if_icmp .ne 7, 3) := by decide +kernel
theorem dX7_told_205 : decode cX7_told 205 = .ok (.iconst 0, 1) := by decide +kernel
theorem dX7_told_206 : decode cX7_told 206 = .ok (.goto 14, 3) := by decide +kernel
theorem dX7_told_209 : decode cX7_told 209 = .ok (.aload_n 0, 1) := by decide +kernel
theorem dX7_told_210 : decode cX7_told 210 = .ok (.getfield 38, 3) := by decide +kernel
theorem dX7_told_213 : decode cX7_told 213 = .ok (.getfield 122, 3) := by decide +kernel
theorem dX7_told_216 : decode cX7_told 216 = .ok (.iload_n 1, 1) := by decide +kernel
theorem dX7_told_217 : decode cX7_told 217 = .ok (.aaload, 1) := by decide +kernel
theorem dX7_told_218 : decode cX7_told 218 = .ok (.iload_n 2, 1) := by decide +kernel
theorem dX7_told_219 : decode cX7_told 219 = .ok (.iaload, 1) := by decide +kernel
theorem dX7_told_220 : decode cX7_told 220 = .ok (.ireturn, 1) := by decide +kernel
theorem dX7_find_0 : decode cX7_find 0 = .ok (.iload_n 1, 1) := by decide +kernel
theorem dX7_find_1 : decode cX7_find 1 = .ok (.invokestatic 71, 3) := by decide +kernel
theorem dX7_find_4 : decode cX7_find 4 = .ok (.ifCond .eq 14, 3) := by decide +kernel
theorem dX7_find_7 : decode cX7_find 7 = .ok (.aload_n 0, 1) := by decide +kernel
theorem dX7_find_8 : decode cX7_find 8 = .ok (.getfield 12, 3) := by decide +kernel
theorem dX7_find_11 : decode cX7_find 11 = .ok (.iload_n 2, 1) := by decide +kernel
theorem dX7_find_12 : decode cX7_find 12 = .ok (.invokevirtual 126, 3) := by decide +kernel
theorem dX7_find_15 : decode cX7_find 15 = .ok (.ifCond .ne 6, 3) := by decide +kernel
theorem dX7_find_18 : decode cX7_find 18 = .ok (.bipush (-2), 2) := by decide +kernel
theorem dX7_find_20 : decode cX7_find 20 = .ok (.ireturn, 1) := by decide +kernel
theorem dX7_find_21 : decode cX7_find 21 = .ok (.aload_n 0, 1) := by decide +kernel
theorem dX7_find_22 : decode cX7_find 22 = .ok (.getfield 12, 3) := by decide +kernel
theorem dX7_find_25 : decode cX7_find 25 = .ok (.getfield 78, 3) := by decide +kernel
theorem dX7_find_28 : decode cX7_find 28 = .ok (.iload_n 1, 1) := by decide +kernel
theorem dX7_find_29 : decode cX7_find 29 = .ok (.aaload, 1) := by decide +kernel
theorem dX7_find_30 : decode cX7_find 30 = .ok (.iload_n 2, 1) := by decide +kernel
theorem dX7_find_31 : decode cX7_find 31 = .ok (.iload_n 3, 1) := by decide +kernel
theorem dX7_find_32 : decode cX7_find 32 = .ok (.invokevirtual 129, 3) := by decide +kernel
theorem dX7_find_35 : decode cX7_find 35 = .ok (.ireturn, 1) := by decide +kernel
theorem dX7_taken_0 : decode cX7_taken 0 = .ok (.aload_n 0, 1) := by decide +kernel
theorem dX7_taken_1 : decode cX7_taken 1 = .ok (.getfield 12, 3) := by decide +kernel
theorem dX7_taken_4 : decode cX7_taken 4 = .ok (.iload_n 1, 1) := by decide +kernel
theorem dX7_taken_5 : decode cX7_taken 5 = .ok (.invokevirtual 75, 3) := by decide +kernel
theorem dX7_taken_8 : decode cX7_taken 8 = .ok (.ifCond .eq 12, 3) := by decide +kernel
theorem dX7_taken_11 : decode cX7_taken 11 = .ok (.iload_n 2, 1) := by decide +kernel
theorem dX7_taken_12 : decode cX7_taken 12 = .ok (.ifCond .lt 8, 3) := by decide +kernel
theorem dX7_taken_15 : decode cX7_taken 15 = .ok (.iload_n 2, 1) := by decide +kernel
theorem dX7_taken_16 : decode cX7_taken 16 = .ok (.iconst 2, 1) := by decide +kernel
theorem dX7_taken_17 : decode cX7_taken 17 = .ok (.if_icmp .le 6, 3) := by decide +kernel
theorem dX7_taken_20 : decode cX7_taken 20 = .ok (.bipush (-2), 2) := by decide +kernel
theorem dX7_taken_22 : decode cX7_taken 22 = .ok (.ireturn, 1) := by decide +kernel
theorem dX7_taken_23 : decode cX7_taken 23 = .ok (.aload_n 0, 1) := by decide +kernel
theorem dX7_taken_24 : decode cX7_taken 24 = .ok (.getfield 12, 3) := by decide +kernel
theorem dX7_taken_27 : decode cX7_taken 27 = .ok (.getfield 112, 3) := by decide +kernel
theorem dX7_taken_30 : decode cX7_taken 30 = .ok (.iload_n 1, 1) := by decide +kernel
theorem dX7_taken_31 : decode cX7_taken 31 = .ok (.baload, 1) := by decide +kernel
theorem dX7_taken_32 : decode cX7_taken 32 = .ok (.istore_n 3, 1) := by decide +kernel
theorem dX7_taken_33 : decode cX7_taken 33 = .ok (.iload_n 2, 1) := by decide +kernel
theorem dX7_taken_34 : decode cX7_taken 34 = .ok (.ifCond .ne 16, 3) := by decide +kernel
theorem dX7_taken_37 : decode cX7_taken 37 = .ok (.iload_n 3, 1) := by decide +kernel
theorem dX7_taken_38 : decode cX7_taken 38 = .ok (.ifCond .ne 7, 3) := by decide +kernel
theorem dX7_taken_41 : decode cX7_taken 41 = .ok (.iconst 1, 1) := by decide +kernel
theorem dX7_taken_42 : decode cX7_taken 42 = .ok (.goto 4, 3) := by decide +kernel
theorem dX7_taken_45 : decode cX7_taken 45 = .ok (.iconst 0, 1) := by decide +kernel
theorem dX7_taken_46 : decode cX7_taken 46 = .ok (.istore_n 3, 1) := by decide +kernel
theorem dX7_taken_47 : decode cX7_taken 47 = .ok (.goto 30, 3) := by decide +kernel
theorem dX7_taken_50 : decode cX7_taken 50 = .ok (.iload_n 2, 1) := by decide +kernel
theorem dX7_taken_51 : decode cX7_taken 51 = .ok (.iconst 2, 1) := by decide +kernel
theorem dX7_taken_52 : decode cX7_taken 52 = .ok (.if_icmp .ne 25, 3) := by decide +kernel
theorem dX7_taken_55 : decode cX7_taken 55 = .ok (.aload_n 0, 1) := by decide +kernel
theorem dX7_taken_56 : decode cX7_taken 56 = .ok (.getfield 12, 3) := by decide +kernel
theorem dX7_taken_59 : decode cX7_taken 59 = .ok (.getfield 78, 3) := by decide +kernel
theorem dX7_taken_62 : decode cX7_taken 62 = .ok (.iconst 0, 1) := by decide +kernel
theorem dX7_taken_63 : decode cX7_taken 63 = .ok (.aaload, 1) := by decide +kernel
theorem dX7_taken_64 : decode cX7_taken 64 = .ok (.iload_n 1, 1) := by decide +kernel
theorem dX7_taken_65 : decode cX7_taken 65 = .ok (.invokevirtual 101, 3) := by decide +kernel
theorem dX7_taken_68 : decode cX7_taken 68 = .ok (.ifCond .le 7, 3) := by decide +kernel
theorem dX7_taken_71 : decode cX7_taken 71 = .ok (.iconst 1, 1) := by decide +kernel
theorem dX7_taken_72 : decode cX7_taken 72 = .ok (.goto 4, 3) := by decide +kernel
theorem dX7_taken_75 : decode cX7_taken 75 = .ok (.iconst 0, 1) := by decide +kernel
theorem dX7_taken_76 : decode cX7_taken 76 = .ok (.istore_n 3, 1) := by decide +kernel
theorem dX7_taken_77 : decode cX7_taken 77 = .ok (.iload_n 3, 1) := by decide +kernel
theorem dX7_taken_78 : decode cX7_taken 78 = .ok (.ifCond .eq 7, 3) := by decide +kernel
theorem dX7_taken_81 : decode cX7_taken 81 = .ok (.iload_n 1, 1) := by decide +kernel
theorem dX7_taken_82 : decode cX7_taken 82 = .ok (.goto 5, 3) := by decide +kernel
theorem dX7_taken_85 : decode cX7_taken 85 = .ok (.bipush (-13), 2) := by decide +kernel
theorem dX7_taken_87 : decode cX7_taken 87 = .ok (.ireturn, 1) := by decide +kernel
theorem dX7_latest_0 : decode cX7_latest 0 = .ok (.iload_n 1, 1) := by decide +kernel
theorem dX7_latest_1 : decode cX7_latest 1 = .ok (.tableswitch 51 0 2 #[27, 35, 43], 27) := by decide +kernel
theorem dX7_latest_28 : decode cX7_latest 28 = .ok (.aload_n 0, 1) := by decide +kernel
theorem dX7_latest_29 : decode cX7_latest 29 = .ok (.getfield 12, 3) := by decide +kernel
theorem dX7_latest_32 : decode cX7_latest 32 = .ok (.getfield 132, 3) := by decide +kernel
theorem dX7_latest_35 : decode cX7_latest 35 = .ok (.ireturn, 1) := by decide +kernel
theorem dX7_latest_36 : decode cX7_latest 36 = .ok (.aload_n 0, 1) := by decide +kernel
theorem dX7_latest_37 : decode cX7_latest 37 = .ok (.getfield 12, 3) := by decide +kernel
theorem dX7_latest_40 : decode cX7_latest 40 = .ok (.getfield 136, 3) := by decide +kernel
theorem dX7_latest_43 : decode cX7_latest 43 = .ok (.ireturn, 1) := by decide +kernel
theorem dX7_latest_44 : decode cX7_latest 44 = .ok (.aload_n 0, 1) := by decide +kernel
theorem dX7_latest_45 : decode cX7_latest 45 = .ok (.getfield 12, 3) := by decide +kernel
theorem dX7_latest_48 : decode cX7_latest 48 = .ok (.getfield 139, 3) := by decide +kernel
theorem dX7_latest_51 : decode cX7_latest 51 = .ok (.ireturn, 1) := by decide +kernel
theorem dX7_latest_52 : decode cX7_latest 52 = .ok (.bipush (-2), 2) := by decide +kernel
theorem dX7_latest_54 : decode cX7_latest 54 = .ok (.ireturn, 1) := by decide +kernel
theorem dX7_feed_0 : decode cX7_feed 0 = .ok (.iload_n 1, 1) := by decide +kernel
theorem dX7_feed_1 : decode cX7_feed 1 = .ok (.iconst 1, 1) := by decide +kernel
theorem dX7_feed_2 : decode cX7_feed 2 = .ok (.if_icmp .lt 46, 3) := by decide +kernel
theorem dX7_feed_5 : decode cX7_feed 5 = .ok (.iload_n 1, 1) := by decide +kernel
theorem dX7_feed_6 : decode cX7_feed 6 = .ok (.iconst 5, 1) := by decide +kernel
theorem dX7_feed_7 : decode cX7_feed 7 = .ok (.if_icmp .gt 41, 3) := by decide +kernel
theorem dX7_feed_10 : decode cX7_feed 10 = .ok (.iload_n 2, 1) := by decide +kernel
theorem dX7_feed_11 : decode cX7_feed 11 = .ok (.invokestatic 142, 3) := by decide +kernel
theorem dX7_feed_14 : decode cX7_feed 14 = .ok (.ifCond .eq 34, 3) := by decide +kernel
theorem dX7_feed_17 : decode cX7_feed 17 = .ok (.iload_n 3, 1) := by decide +kernel
theorem dX7_feed_18 : decode cX7_feed 18 = .ok (.invokestatic 142, 3) := by decide +kernel
theorem dX7_feed_21 : decode cX7_feed 21 = .ok (.ifCond .eq 27, 3) := by decide +kernel
theorem dX7_feed_24 : decode cX7_feed 24 = .ok (.iload 4, 2) := by decide +kernel
theorem dX7_feed_26 : decode cX7_feed 26 = .ok (.invokestatic 142, 3) := by decide +kernel
theorem dX7_feed_29 : decode cX7_feed 29 = .ok (.ifCond .eq 19, 3) := by decide +kernel
theorem dX7_feed_32 : decode cX7_feed 32 = .ok (.iload 5, 2) := by decide +kernel
theorem dX7_feed_34 : decode cX7_feed 34 = .ok (.invokestatic 142, 3) := by decide +kernel
theorem dX7_feed_37 : decode cX7_feed 37 = .ok (.ifCond .eq 11, 3) := by decide +kernel
theorem dX7_feed_40 : decode cX7_feed 40 = .ok (.iload 6, 2) := by decide +kernel
theorem dX7_feed_42 : decode cX7_feed 42 = .ok (.invokestatic 142, 3) := by decide +kernel
theorem dX7_feed_45 : decode cX7_feed 45 = .ok (.ifCond .ne 6, 3) := by decide +kernel
theorem dX7_feed_48 : decode cX7_feed 48 = .ok (.bipush (-2), 2) := by decide +kernel
theorem dX7_feed_50 : decode cX7_feed 50 = .ok (.ireturn, 1) := by decide +kernel
theorem dX7_feed_51 : decode cX7_feed 51 = .ok (.aload_n 0, 1) := by decide +kernel
theorem dX7_feed_52 : decode cX7_feed 52 = .ok (.getfield 29, 3) := by decide +kernel
theorem dX7_feed_55 : decode cX7_feed 55 = .ok (.getfield 145, 3) := by decide +kernel
theorem dX7_feed_58 : decode cX7_feed 58 = .ok (.iload_n 1, 1) := by decide +kernel
theorem dX7_feed_59 : decode cX7_feed 59 = .ok (.iadd, 1) := by decide +kernel
theorem dX7_feed_60 : decode cX7_feed 60 = .ok (.bipush 40, 2) := by decide +kernel
theorem dX7_feed_62 : decode cX7_feed 62 = .ok (.if_icmp .le 6, 3) := by decide +kernel
theorem dX7_feed_65 : decode cX7_feed 65 = .ok (.bipush (-4), 2) := by decide +kernel
theorem dX7_feed_67 : decode cX7_feed 67 = .ok (.ireturn, 1) := by decide +kernel
theorem dX7_feed_68 : decode cX7_feed 68 = .ok (.aload_n 0, 1) := by decide +kernel
theorem dX7_feed_69 : decode cX7_feed 69 = .ok (.getfield 29, 3) := by decide +kernel
theorem dX7_feed_72 : decode cX7_feed 72 = .ok (.iload_n 2, 1) := by decide +kernel
theorem dX7_feed_73 : decode cX7_feed 73 = .ok (.invokevirtual 148, 3) := by decide +kernel
theorem dX7_feed_76 : decode cX7_feed 76 = .ok (.iload_n 1, 1) := by decide +kernel
theorem dX7_feed_77 : decode cX7_feed 77 = .ok (.iconst 1, 1) := by decide +kernel
theorem dX7_feed_78 : decode cX7_feed 78 = .ok (.if_icmp .le 11, 3) := by decide +kernel
theorem dX7_feed_81 : decode cX7_feed 81 = .ok (.aload_n 0, 1) := by decide +kernel
theorem dX7_feed_82 : decode cX7_feed 82 = .ok (.getfield 29, 3) := by decide +kernel
theorem dX7_feed_85 : decode cX7_feed 85 = .ok (.iload_n 3, 1) := by decide +kernel
theorem dX7_feed_86 : decode cX7_feed 86 = .ok (.invokevirtual 148, 3) := by decide +kernel
theorem dX7_feed_89 : decode cX7_feed 89 = .ok (.iload_n 1, 1) := by decide +kernel
theorem dX7_feed_90 : decode cX7_feed 90 = .ok (.iconst 2, 1) := by decide +kernel
theorem dX7_feed_91 : decode cX7_feed 91 = .ok (.if_icmp .le 12, 3) := by decide +kernel
theorem dX7_feed_94 : decode cX7_feed 94 = .ok (.aload_n 0, 1) := by decide +kernel
theorem dX7_feed_95 : decode cX7_feed 95 = .ok (.getfield 29, 3) := by decide +kernel
theorem dX7_feed_98 : decode cX7_feed 98 = .ok (.iload 4, 2) := by decide +kernel
theorem dX7_feed_100 : decode cX7_feed 100 = .ok (.invokevirtual 148, 3) := by decide +kernel
theorem dX7_feed_103 : decode cX7_feed 103 = .ok (.iload_n 1, 1) := by decide +kernel
theorem dX7_feed_104 : decode cX7_feed 104 = .ok (.iconst 3, 1) := by decide +kernel
theorem dX7_feed_105 : decode cX7_feed 105 = .ok (.if_icmp .le 12, 3) := by decide +kernel
theorem dX7_feed_108 : decode cX7_feed 108 = .ok (.aload_n 0, 1) := by decide +kernel
theorem dX7_feed_109 : decode cX7_feed 109 = .ok (.getfield 29, 3) := by decide +kernel
theorem dX7_feed_112 : decode cX7_feed 112 = .ok (.iload 5, 2) := by decide +kernel
theorem dX7_feed_114 : decode cX7_feed 114 = .ok (.invokevirtual 148, 3) := by decide +kernel
theorem dX7_feed_117 : decode cX7_feed 117 = .ok (.iload_n 1, 1) := by decide +kernel
theorem dX7_feed_118 : decode cX7_feed 118 = .ok (.iconst 4, 1) := by decide +kernel
theorem dX7_feed_119 : decode cX7_feed 119 = .ok (.if_icmp .le 12, 3) := by decide +kernel
theorem dX7_feed_122 : decode cX7_feed 122 = .ok (.aload_n 0, 1) := by decide +kernel
theorem dX7_feed_123 : decode cX7_feed 123 = .ok (.getfield 29, 3) := by decide +kernel
theorem dX7_feed_126 : decode cX7_feed 126 = .ok (.iload 6, 2) := by decide +kernel
theorem dX7_feed_128 : decode cX7_feed 128 = .ok (.invokevirtual 148, 3) := by decide +kernel
theorem dX7_feed_131 : decode cX7_feed 131 = .ok (.aload_n 0, 1) := by decide +kernel
theorem dX7_feed_132 : decode cX7_feed 132 = .ok (.getfield 29, 3) := by decide +kernel
theorem dX7_feed_135 : decode cX7_feed 135 = .ok (.getfield 145, 3) := by decide +kernel
theorem dX7_feed_138 : decode cX7_feed 138 = .ok (.ireturn, 1) := by decide +kernel
theorem dX7_pattern_0 : decode cX7_pattern 0 = .ok (.aload_n 0, 1) := by decide +kernel
theorem dX7_pattern_1 : decode cX7_pattern 1 = .ok (.getfield 12, 3) := by decide +kernel
theorem dX7_pattern_4 : decode cX7_pattern 4 = .ok (.getfield 152, 3) := by decide +kernel
theorem dX7_pattern_7 : decode cX7_pattern 7 = .ok (.bipush 6, 2) := by decide +kernel
theorem dX7_pattern_9 : decode cX7_pattern 9 = .ok (.if_icmp .lt 6, 3) := by decide +kernel
theorem dX7_pattern_12 : decode cX7_pattern 12 = .ok (.bipush (-4), 2) := by decide +kernel
theorem dX7_pattern_14 : decode cX7_pattern 14 = .ok (.ireturn, 1) := by decide +kernel
theorem dX7_pattern_15 : decode cX7_pattern 15 = .ok (.aload_n 0, 1) := by decide +kernel
theorem dX7_pattern_16 : decode cX7_pattern 16 = .ok (.getfield 29, 3) := by decide +kernel
theorem dX7_pattern_19 : decode cX7_pattern 19 = .ok (.aload_n 0, 1) := by decide +kernel
theorem dX7_pattern_20 : decode cX7_pattern 20 = .ok (.getfield 12, 3) := by decide +kernel
theorem dX7_pattern_23 : decode cX7_pattern 23 = .ok (.getfield 155, 3) := by decide +kernel
theorem dX7_pattern_26 : decode cX7_pattern 26 = .ok (.aload_n 0, 1) := by decide +kernel
theorem dX7_pattern_27 : decode cX7_pattern 27 = .ok (.getfield 12, 3) := by decide +kernel
theorem dX7_pattern_30 : decode cX7_pattern 30 = .ok (.getfield 152, 3) := by decide +kernel
theorem dX7_pattern_33 : decode cX7_pattern 33 = .ok (.aaload, 1) := by decide +kernel
theorem dX7_pattern_34 : decode cX7_pattern 34 = .ok (.invokevirtual 159, 3) := by decide +kernel
theorem dX7_pattern_37 : decode cX7_pattern 37 = .ok (.istore_n 1, 1) := by decide +kernel
theorem dX7_pattern_38 : decode cX7_pattern 38 = .ok (.aload_n 0, 1) := by decide +kernel
theorem dX7_pattern_39 : decode cX7_pattern 39 = .ok (.getfield 29, 3) := by decide +kernel
theorem dX7_pattern_42 : decode cX7_pattern 42 = .ok (.iconst 0, 1) := by decide +kernel
theorem dX7_pattern_43 : decode cX7_pattern 43 = .ok (.putfield 145, 3) := by decide +kernel
theorem dX7_pattern_46 : decode cX7_pattern 46 = .ok (.iload_n 1, 1) := by decide +kernel
theorem dX7_pattern_47 : decode cX7_pattern 47 = .ok (.iconst (-1), 1) := by decide +kernel
theorem dX7_pattern_48 : decode cX7_pattern 48 = .ok (.if_icmp .eq 8, 3) := by decide +kernel
theorem dX7_pattern_51 : decode cX7_pattern 51 = .ok (.bipush (-100), 2) := by decide +kernel
theorem dX7_pattern_53 : decode cX7_pattern 53 = .ok (.iload_n 1, 1) := by decide +kernel
theorem dX7_pattern_54 : decode cX7_pattern 54 = .ok (.isub, 1) := by decide +kernel
theorem dX7_pattern_55 : decode cX7_pattern 55 = .ok (.ireturn, 1) := by decide +kernel
theorem dX7_pattern_56 : decode cX7_pattern 56 = .ok (.aload_n 0, 1) := by decide +kernel
theorem dX7_pattern_57 : decode cX7_pattern 57 = .ok (.getfield 12, 3) := by decide +kernel
theorem dX7_pattern_60 : decode cX7_pattern 60 = .ok (.dup, 1) := by decide +kernel
theorem dX7_pattern_61 : decode cX7_pattern 61 = .ok (.getfield 152, 3) := by decide +kernel
theorem dX7_pattern_64 : decode cX7_pattern 64 = .ok (.iconst 1, 1) := by decide +kernel
theorem dX7_pattern_65 : decode cX7_pattern 65 = .ok (.iadd, 1) := by decide +kernel
theorem dX7_pattern_66 : decode cX7_pattern 66 = .ok (.putfield 152, 3) := by decide +kernel
theorem dX7_pattern_69 : decode cX7_pattern 69 = .ok (.aload_n 0, 1) := by decide +kernel
theorem dX7_pattern_70 : decode cX7_pattern 70 = .ok (.getfield 12, 3) := by decide +kernel
theorem dX7_pattern_73 : decode cX7_pattern 73 = .ok (.getfield 152, 3) := by decide +kernel
theorem dX7_pattern_76 : decode cX7_pattern 76 = .ok (.iconst 1, 1) := by decide +kernel
theorem dX7_pattern_77 : decode cX7_pattern 77 = .ok (.isub, 1) := by decide +kernel
theorem dX7_pattern_78 : decode cX7_pattern 78 = .ok (.ireturn, 1) := by decide +kernel
theorem dX7_drop_0 : decode cX7_drop 0 = .ok (.aload_n 0, 1) := by decide +kernel
theorem dX7_drop_1 : decode cX7_drop 1 = .ok (.getfield 12, 3) := by decide +kernel
theorem dX7_drop_4 : decode cX7_drop 4 = .ok (.getfield 152, 3) := by decide +kernel
theorem dX7_drop_7 : decode cX7_drop 7 = .ok (.ifCond .ne 6, 3) := by decide +kernel
theorem dX7_drop_10 : decode cX7_drop 10 = .ok (.bipush (-3), 2) := by decide +kernel
theorem dX7_drop_12 : decode cX7_drop 12 = .ok (.ireturn, 1) := by decide +kernel
theorem dX7_drop_13 : decode cX7_drop 13 = .ok (.aload_n 0, 1) := by decide +kernel
theorem dX7_drop_14 : decode cX7_drop 14 = .ok (.getfield 12, 3) := by decide +kernel
theorem dX7_drop_17 : decode cX7_drop 17 = .ok (.dup, 1) := by decide +kernel
theorem dX7_drop_18 : decode cX7_drop 18 = .ok (.getfield 152, 3) := by decide +kernel
theorem dX7_drop_21 : decode cX7_drop 21 = .ok (.iconst 1, 1) := by decide +kernel
theorem dX7_drop_22 : decode cX7_drop 22 = .ok (.isub, 1) := by decide +kernel
theorem dX7_drop_23 : decode cX7_drop 23 = .ok (.putfield 152, 3) := by decide +kernel
theorem dX7_drop_26 : decode cX7_drop 26 = .ok (.aload_n 0, 1) := by decide +kernel
theorem dX7_drop_27 : decode cX7_drop 27 = .ok (.getfield 12, 3) := by decide +kernel
theorem dX7_drop_30 : decode cX7_drop 30 = .ok (.getfield 152, 3) := by decide +kernel
theorem dX7_drop_33 : decode cX7_drop 33 = .ok (.ireturn, 1) := by decide +kernel
theorem dX7_matches_0 : decode cX7_matches 0 = .ok (.iload_n 1, 1) := by decide +kernel
theorem dX7_matches_1 : decode cX7_matches 1 = .ok (.ifCond .lt 32, 3) := by decide +kernel
theorem dX7_matches_4 : decode cX7_matches 4 = .ok (.iload_n 1, 1) := by decide +kernel
theorem dX7_matches_5 : decode cX7_matches 5 = .ok (.aload_n 0, 1) := by decide +kernel
theorem dX7_matches_6 : decode cX7_matches 6 = .ok (.getfield 12, 3) := by decide +kernel
theorem dX7_matches_9 : decode cX7_matches 9 = .ok (.getfield 152, 3) := by decide +kernel
theorem dX7_matches_12 : decode cX7_matches 12 = .ok (.if_icmp .ge 21, 3) := by decide +kernel
theorem dX7_matches_15 : decode cX7_matches 15 = .ok (.iload_n 2, 1) := by decide +kernel
theorem dX7_matches_16 : decode cX7_matches 16 = .ok (.invokestatic 71, 3) := by decide +kernel
theorem dX7_matches_19 : decode cX7_matches 19 = .ok (.ifCond .eq 14, 3) := by decide +kernel
theorem dX7_matches_22 : decode cX7_matches 22 = .ok (.aload_n 0, 1) := by decide +kernel
theorem dX7_matches_23 : decode cX7_matches 23 = .ok (.getfield 12, 3) := by decide +kernel
theorem dX7_matches_26 : decode cX7_matches 26 = .ok (.iload_n 3, 1) := by decide +kernel
theorem dX7_matches_27 : decode cX7_matches 27 = .ok (.invokevirtual 75, 3) := by decide +kernel
theorem dX7_matches_30 : decode cX7_matches 30 = .ok (.ifCond .ne 6, 3) := by decide +kernel
theorem dX7_matches_33 : decode cX7_matches 33 = .ok (.bipush (-2), 2) := by decide +kernel
theorem dX7_matches_35 : decode cX7_matches 35 = .ok (.ireturn, 1) := by decide +kernel
theorem dX7_matches_36 : decode cX7_matches 36 = .ok (.aload_n 0, 1) := by decide +kernel
theorem dX7_matches_37 : decode cX7_matches 37 = .ok (.getfield 12, 3) := by decide +kernel
theorem dX7_matches_40 : decode cX7_matches 40 = .ok (.getfield 78, 3) := by decide +kernel
theorem dX7_matches_43 : decode cX7_matches 43 = .ok (.iload_n 2, 1) := by decide +kernel
theorem dX7_matches_44 : decode cX7_matches 44 = .ok (.aaload, 1) := by decide +kernel
theorem dX7_matches_45 : decode cX7_matches 45 = .ok (.iload_n 3, 1) := by decide +kernel
theorem dX7_matches_46 : decode cX7_matches 46 = .ok (.invokevirtual 82, 3) := by decide +kernel
theorem dX7_matches_49 : decode cX7_matches 49 = .ok (.ifCond .ne 6, 3) := by decide +kernel
theorem dX7_matches_52 : decode cX7_matches 52 = .ok (.bipush (-3), 2) := by decide +kernel
theorem dX7_matches_54 : decode cX7_matches 54 = .ok (.ireturn, 1) := by decide +kernel
theorem dX7_matches_55 : decode cX7_matches 55 = .ok (.aload_n 0, 1) := by decide +kernel
theorem dX7_matches_56 : decode cX7_matches 56 = .ok (.getfield 12, 3) := by decide +kernel
theorem dX7_matches_59 : decode cX7_matches 59 = .ok (.getfield 78, 3) := by decide +kernel
theorem dX7_matches_62 : decode cX7_matches 62 = .ok (.iload_n 2, 1) := by decide +kernel
theorem dX7_matches_63 : decode cX7_matches 63 = .ok (.aaload, 1) := by decide +kernel
theorem dX7_matches_64 : decode cX7_matches 64 = .ok (.iload_n 3, 1) := by decide +kernel
theorem dX7_matches_65 : decode cX7_matches 65 = .ok (.aload_n 0, 1) := by decide +kernel
theorem dX7_matches_66 : decode cX7_matches 66 = .ok (.getfield 12, 3) := by decide +kernel
theorem dX7_matches_69 : decode cX7_matches 69 = .ok (.getfield 163, 3) := by decide +kernel
theorem dX7_matches_72 : decode cX7_matches 72 = .ok (.invokevirtual 166, 3) := by decide +kernel
theorem dX7_matches_75 : decode cX7_matches 75 = .ok (.istore 4, 2) := by decide +kernel
theorem dX7_matches_77 : decode cX7_matches 77 = .ok (.aload_n 0, 1) := by decide +kernel
theorem dX7_matches_78 : decode cX7_matches 78 = .ok (.getfield 12, 3) := by decide +kernel
theorem dX7_matches_81 : decode cX7_matches 81 = .ok (.getfield 155, 3) := by decide +kernel
theorem dX7_matches_84 : decode cX7_matches 84 = .ok (.iload_n 1, 1) := by decide +kernel
theorem dX7_matches_85 : decode cX7_matches 85 = .ok (.aaload, 1) := by decide +kernel
theorem dX7_matches_86 : decode cX7_matches 86 = .ok (.aload_n 0, 1) := by decide +kernel
theorem dX7_matches_87 : decode cX7_matches 87 = .ok (.getfield 12, 3) := by decide +kernel
theorem dX7_matches_90 : decode cX7_matches 90 = .ok (.getfield 163, 3) := by decide +kernel
theorem dX7_matches_93 : decode cX7_matches 93 = .ok (.iload 4, 2) := by decide +kernel
theorem dX7_matches_95 : decode cX7_matches 95 = .ok (.invokevirtual 170, 3) := by decide +kernel
theorem dX7_matches_98 : decode cX7_matches 98 = .ok (.iload 4, 2) := by decide +kernel
theorem dX7_matches_100 : decode cX7_matches 100 = .ok (.if_icmp .ne 7, 3) := by decide +kernel
theorem dX7_matches_103 : decode cX7_matches 103 = .ok (.iconst 1, 1) := by decide +kernel
theorem dX7_matches_104 : decode cX7_matches 104 = .ok (.goto 4, 3) := by decide +kernel
theorem dX7_matches_107 : decode cX7_matches 107 = .ok (.iconst 0, 1) := by decide +kernel
theorem dX7_matches_108 : decode cX7_matches 108 = .ok (.invokestatic 87, 3) := by decide +kernel
theorem dX7_matches_111 : decode cX7_matches 111 = .ok (.ireturn, 1) := by decide +kernel
theorem dX7_prefer_0 : decode cX7_prefer 0 = .ok (.iload_n 1, 1) := by decide +kernel
theorem dX7_prefer_1 : decode cX7_prefer 1 = .ok (.invokestatic 176, 3) := by decide +kernel
theorem dX7_prefer_4 : decode cX7_prefer 4 = .ok (.ifCond .ne 6, 3) := by decide +kernel
theorem dX7_prefer_7 : decode cX7_prefer 7 = .ok (.bipush (-2), 2) := by decide +kernel
theorem dX7_prefer_9 : decode cX7_prefer 9 = .ok (.ireturn, 1) := by decide +kernel
theorem dX7_prefer_10 : decode cX7_prefer 10 = .ok (.aload_n 0, 1) := by decide +kernel
theorem dX7_prefer_11 : decode cX7_prefer 11 = .ok (.getfield 12, 3) := by decide +kernel
theorem dX7_prefer_14 : decode cX7_prefer 14 = .ok (.getfield 179, 3) := by decide +kernel
theorem dX7_prefer_17 : decode cX7_prefer 17 = .ok (.istore_n 2, 1) := by decide +kernel
theorem dX7_prefer_18 : decode cX7_prefer 18 = .ok (.aload_n 0, 1) := by decide +kernel
theorem dX7_prefer_19 : decode cX7_prefer 19 = .ok (.getfield 12, 3) := by decide +kernel
theorem dX7_prefer_22 : decode cX7_prefer 22 = .ok (.iload_n 1, 1) := by decide +kernel
theorem dX7_prefer_23 : decode cX7_prefer 23 = .ok (.putfield 179, 3) := by decide +kernel
theorem dX7_prefer_26 : decode cX7_prefer 26 = .ok (.iload_n 2, 1) := by decide +kernel
theorem dX7_prefer_27 : decode cX7_prefer 27 = .ok (.ireturn, 1) := by decide +kernel
theorem dX7_sync_0 : decode cX7_sync 0 = .ok (.aload_n 0, 1) := by decide +kernel
theorem dX7_sync_1 : decode cX7_sync 1 = .ok (.getfield 38, 3) := by decide +kernel
theorem dX7_sync_4 : decode cX7_sync 4 = .ok (.aload_n 0, 1) := by decide +kernel
theorem dX7_sync_5 : decode cX7_sync 5 = .ok (.getfield 12, 3) := by decide +kernel
theorem dX7_sync_8 : decode cX7_sync 8 = .ok (.aload_n 0, 1) := by decide +kernel
theorem dX7_sync_9 : decode cX7_sync 9 = .ok (.getfield 12, 3) := by decide +kernel
theorem dX7_sync_12 : decode cX7_sync 12 = .ok (.getfield 179, 3) := by decide +kernel
theorem dX7_sync_15 : decode cX7_sync 15 = .ok (.invokevirtual 182, 3) := by decide +kernel
theorem dX7_sync_18 : decode cX7_sync 18 = .ok (.aload_n 0, 1) := by decide +kernel
theorem dX7_sync_19 : decode cX7_sync 19 = .ok (.iconst 0, 1) := by decide +kernel
theorem dX7_sync_20 : decode cX7_sync 20 = .ok (.invokevirtual 186, 3) := by decide +kernel
theorem dX7_sync_23 : decode cX7_sync 23 = .ok (.aload_n 0, 1) := by decide +kernel
theorem dX7_sync_24 : decode cX7_sync 24 = .ok (.iconst 1, 1) := by decide +kernel
theorem dX7_sync_25 : decode cX7_sync 25 = .ok (.invokevirtual 186, 3) := by decide +kernel
theorem dX7_sync_28 : decode cX7_sync 28 = .ok (.iadd, 1) := by decide +kernel
theorem dX7_sync_29 : decode cX7_sync 29 = .ok (.istore_n 1, 1) := by decide +kernel
theorem dX7_sync_30 : decode cX7_sync 30 = .ok (.aload_n 0, 1) := by decide +kernel
theorem dX7_sync_31 : decode cX7_sync 31 = .ok (.getfield 38, 3) := by decide +kernel
theorem dX7_sync_34 : decode cX7_sync 34 = .ok (.invokevirtual 189, 3) := by decide +kernel
theorem dX7_sync_37 : decode cX7_sync 37 = .ok (.iload_n 1, 1) := by decide +kernel
theorem dX7_sync_38 : decode cX7_sync 38 = .ok (.ireturn, 1) := by decide +kernel
theorem dX7_target_0 : decode cX7_target 0 = .ok (.iload_n 1, 1) := by decide +kernel
theorem dX7_target_1 : decode cX7_target 1 = .ok (.ifCond .lt 18, 3) := by decide +kernel
theorem dX7_target_4 : decode cX7_target 4 = .ok (.iload_n 1, 1) := by decide +kernel
theorem dX7_target_5 : decode cX7_target 5 = .ok (.bipush 30, 2) := by decide +kernel
theorem dX7_target_7 : decode cX7_target 7 = .ok (.if_icmp .ge 12, 3) := by decide +kernel
theorem dX7_target_10 : decode cX7_target 10 = .ok (.iload_n 2, 1) := by decide +kernel
theorem dX7_target_11 : decode cX7_target 11 = .ok (.ifCond .lt 8, 3) := by decide +kernel
theorem dX7_target_14 : decode cX7_target 14 = .ok (.iload_n 2, 1) := by decide +kernel
theorem dX7_target_15 : decode cX7_target 15 = .ok (.iconst 3, 1) := by decide +kernel
theorem dX7_target_16 : decode cX7_target 16 = .ok (.if_icmp .le 6, 3) := by decide +kernel
theorem dX7_target_19 : decode cX7_target 19 = .ok (.bipush (-2), 2) := by decide +kernel
theorem dX7_target_21 : decode cX7_target 21 = .ok (.ireturn, 1) := by decide +kernel
theorem dX7_target_22 : decode cX7_target 22 = .ok (.aload_n 0, 1) := by decide +kernel
theorem dX7_target_23 : decode cX7_target 23 = .ok (.getfield 38, 3) := by decide +kernel
theorem dX7_target_26 : decode cX7_target 26 = .ok (.aload_n 0, 1) := by decide +kernel
theorem dX7_target_27 : decode cX7_target 27 = .ok (.getfield 12, 3) := by decide +kernel
theorem dX7_target_30 : decode cX7_target 30 = .ok (.aload_n 0, 1) := by decide +kernel
theorem dX7_target_31 : decode cX7_target 31 = .ok (.getfield 12, 3) := by decide +kernel
theorem dX7_target_34 : decode cX7_target 34 = .ok (.getfield 179, 3) := by decide +kernel
theorem dX7_target_37 : decode cX7_target 37 = .ok (.invokevirtual 182, 3) := by decide +kernel
theorem dX7_target_40 : decode cX7_target 40 = .ok (.iload_n 2, 1) := by decide +kernel
theorem dX7_target_41 : decode cX7_target 41 = .ok (.tableswitch 66 0 2 #[27, 40, 53], 27) := by decide +kernel
theorem dX7_target_68 : decode cX7_target 68 = .ok (.aload_n 0, 1) := by decide +kernel
theorem dX7_target_69 : decode cX7_target 69 = .ok (.getfield 38, 3) := by decide +kernel
theorem dX7_target_72 : decode cX7_target 72 = .ok (.getfield 192, 3) := by decide +kernel
theorem dX7_target_75 : decode cX7_target 75 = .ok (.getfield 91, 3) := by decide +kernel
theorem dX7_target_78 : decode cX7_target 78 = .ok (.iload_n 1, 1) := by decide +kernel
theorem dX7_target_79 : decode cX7_target 79 = .ok (.iaload, 1) := by decide +kernel
theorem dX7_target_80 : decode cX7_target 80 = .ok (.ireturn, 1) := by decide +kernel
theorem dX7_target_81 : decode cX7_target 81 = .ok (.aload_n 0, 1) := by decide +kernel
theorem dX7_target_82 : decode cX7_target 82 = .ok (.getfield 38, 3) := by decide +kernel
theorem dX7_target_85 : decode cX7_target 85 = .ok (.getfield 192, 3) := by decide +kernel
theorem dX7_target_88 : decode cX7_target 88 = .ok (.getfield 95, 3) := by decide +kernel
theorem dX7_target_91 : decode cX7_target 91 = .ok (.iload_n 1, 1) := by decide +kernel
theorem dX7_target_92 : decode cX7_target 92 = .ok (.iaload, 1) := by decide +kernel
theorem dX7_target_93 : decode cX7_target 93 = .ok (.ireturn, 1) := by decide +kernel
theorem dX7_target_94 : decode cX7_target 94 = .ok (.aload_n 0, 1) := by decide +kernel
theorem dX7_target_95 : decode cX7_target 95 = .ok (.getfield 38, 3) := by decide +kernel
theorem dX7_target_98 : decode cX7_target 98 = .ok (.getfield 192, 3) := by decide +kernel
theorem dX7_target_101 : decode cX7_target 101 = .ok (.getfield 98, 3) := by decide +kernel
theorem dX7_target_104 : decode cX7_target 104 = .ok (.iload_n 1, 1) := by decide +kernel
theorem dX7_target_105 : decode cX7_target 105 = .ok (.iaload, 1) := by decide +kernel
theorem dX7_target_106 : decode cX7_target 106 = .ok (.ireturn, 1) := by decide +kernel
theorem dX7_target_107 : decode cX7_target 107 = .ok (.aload_n 0, 1) := by decide +kernel
theorem dX7_target_108 : decode cX7_target 108 = .ok (.getfield 38, 3) := by decide +kernel
theorem dX7_target_111 : decode cX7_target 111 = .ok (.getfield 192, 3) := by decide +kernel
theorem dX7_target_114 : decode cX7_target 114 = .ok (.iload_n 1, 1) := by decide +kernel
theorem dX7_target_115 : decode cX7_target 115 = .ok (.invokevirtual 105, 3) := by decide +kernel
theorem dX7_target_118 : decode cX7_target 118 = .ok (.ireturn, 1) := by decide +kernel
theorem dX7_clash_0 : decode cX7_clash 0 = .ok (.iload_n 2, 1) := by decide +kernel
theorem dX7_clash_1 : decode cX7_clash 1 = .ok (.ifCond .lt 8, 3) := by decide +kernel
theorem dX7_clash_4 : decode cX7_clash 4 = .ok (.iload_n 2, 1) := by decide +kernel
theorem dX7_clash_5 : decode cX7_clash 5 = .ok (.iconst 1, 1) := by decide +kernel
theorem dX7_clash_6 : decode cX7_clash 6 = .ok (.if_icmp .le 6, 3) := by decide +kernel
theorem dX7_clash_9 : decode cX7_clash 9 = .ok (.bipush (-2), 2) := by decide +kernel
theorem dX7_clash_11 : decode cX7_clash 11 = .ok (.ireturn, 1) := by decide +kernel
theorem dX7_clash_12 : decode cX7_clash 12 = .ok (.aload_n 0, 1) := by decide +kernel
theorem dX7_clash_13 : decode cX7_clash 13 = .ok (.getfield 38, 3) := by decide +kernel
theorem dX7_clash_16 : decode cX7_clash 16 = .ok (.aload_n 0, 1) := by decide +kernel
theorem dX7_clash_17 : decode cX7_clash 17 = .ok (.getfield 12, 3) := by decide +kernel
theorem dX7_clash_20 : decode cX7_clash 20 = .ok (.aload_n 0, 1) := by decide +kernel
theorem dX7_clash_21 : decode cX7_clash 21 = .ok (.getfield 12, 3) := by decide +kernel
theorem dX7_clash_24 : decode cX7_clash 24 = .ok (.getfield 179, 3) := by decide +kernel
theorem dX7_clash_27 : decode cX7_clash 27 = .ok (.invokevirtual 182, 3) := by decide +kernel
theorem dX7_clash_30 : decode cX7_clash 30 = .ok (.iload_n 1, 1) := by decide +kernel
theorem dX7_clash_31 : decode cX7_clash 31 = .ok (.ifCond .lt 14, 3) := by decide +kernel
theorem dX7_clash_34 : decode cX7_clash 34 = .ok (.iload_n 1, 1) := by decide +kernel
theorem dX7_clash_35 : decode cX7_clash 35 = .ok (.aload_n 0, 1) := by decide +kernel
theorem dX7_clash_36 : decode cX7_clash 36 = .ok (.getfield 38, 3) := by decide +kernel
theorem dX7_clash_39 : decode cX7_clash 39 = .ok (.getfield 196, 3) := by decide +kernel
theorem dX7_clash_42 : decode cX7_clash 42 = .ok (.if_icmp .lt 6, 3) := by decide +kernel
theorem dX7_clash_45 : decode cX7_clash 45 = .ok (.bipush (-12), 2) := by decide +kernel
theorem dX7_clash_47 : decode cX7_clash 47 = .ok (.ireturn, 1) := by decide +kernel
theorem dX7_clash_48 : decode cX7_clash 48 = .ok (.iload_n 2, 1) := by decide +kernel
theorem dX7_clash_49 : decode cX7_clash 49 = .ok (.ifCond .ne 15, 3) := by decide +kernel
theorem dX7_clash_52 : decode cX7_clash 52 = .ok (.aload_n 0, 1) := by decide +kernel
theorem dX7_clash_53 : decode cX7_clash 53 = .ok (.getfield 38, 3) := by decide +kernel
theorem dX7_clash_56 : decode cX7_clash 56 = .ok (.getfield 199, 3) := by decide +kernel
theorem dX7_clash_59 : decode cX7_clash 59 = .ok (.iload_n 1, 1) := by decide +kernel
theorem dX7_clash_60 : decode cX7_clash 60 = .ok (.iaload, 1) := by decide +kernel
theorem dX7_clash_61 : decode cX7_clash 61 = .ok (.goto 12, 3) := by decide +kernel
theorem dX7_clash_64 : decode cX7_clash 64 = .ok (.aload_n 0, 1) := by decide +kernel
theorem dX7_clash_65 : decode cX7_clash 65 = .ok (.getfield 38, 3) := by decide +kernel
theorem dX7_clash_68 : decode cX7_clash 68 = .ok (.getfield 202, 3) := by decide +kernel
theorem dX7_clash_71 : decode cX7_clash 71 = .ok (.iload_n 1, 1) := by decide +kernel
theorem dX7_clash_72 : decode cX7_clash 72 = .ok (.iaload, 1) := by decide +kernel
theorem dX7_clash_73 : decode cX7_clash 73 = .ok (.ireturn, 1) := by decide +kernel
theorem dX7_step_0 : decode cX7_step 0 = .ok (.iload_n 1, 1) := by decide +kernel
theorem dX7_step_1 : decode cX7_step 1 = .ok (.invokestatic 176, 3) := by decide +kernel
theorem dX7_step_4 : decode cX7_step 4 = .ok (.ifCond .eq 12, 3) := by decide +kernel
theorem dX7_step_7 : decode cX7_step 7 = .ok (.iload_n 3, 1) := by decide +kernel
theorem dX7_step_8 : decode cX7_step 8 = .ok (.ifCond .lt 8, 3) := by decide +kernel
theorem dX7_step_11 : decode cX7_step 11 = .ok (.iload_n 3, 1) := by decide +kernel
theorem dX7_step_12 : decode cX7_step 12 = .ok (.iconst 4, 1) := by decide +kernel
theorem dX7_step_13 : decode cX7_step 13 = .ok (.if_icmp .le 6, 3) := by decide +kernel
theorem dX7_step_16 : decode cX7_step 16 = .ok (.bipush (-2), 2) := by decide +kernel
theorem dX7_step_18 : decode cX7_step 18 = .ok (.ireturn, 1) := by decide +kernel
theorem dX7_step_19 : decode cX7_step 19 = .ok (.aload_n 0, 1) := by decide +kernel
theorem dX7_step_20 : decode cX7_step 20 = .ok (.getfield 38, 3) := by decide +kernel
theorem dX7_step_23 : decode cX7_step 23 = .ok (.aload_n 0, 1) := by decide +kernel
theorem dX7_step_24 : decode cX7_step 24 = .ok (.getfield 12, 3) := by decide +kernel
theorem dX7_step_27 : decode cX7_step 27 = .ok (.aload_n 0, 1) := by decide +kernel
theorem dX7_step_28 : decode cX7_step 28 = .ok (.getfield 12, 3) := by decide +kernel
theorem dX7_step_31 : decode cX7_step 31 = .ok (.getfield 179, 3) := by decide +kernel
theorem dX7_step_34 : decode cX7_step 34 = .ok (.invokevirtual 182, 3) := by decide +kernel
theorem dX7_step_37 : decode cX7_step 37 = .ok (.iload_n 2, 1) := by decide +kernel
theorem dX7_step_38 : decode cX7_step 38 = .ok (.ifCond .lt 12, 3) := by decide +kernel
theorem dX7_step_41 : decode cX7_step 41 = .ok (.iload_n 2, 1) := by decide +kernel
theorem dX7_step_42 : decode cX7_step 42 = .ok (.aload_n 0, 1) := by decide +kernel
theorem dX7_step_43 : decode cX7_step 43 = .ok (.iload_n 1, 1) := by decide +kernel
theorem dX7_step_44 : decode cX7_step 44 = .ok (.invokevirtual 186, 3) := by decide +kernel
theorem dX7_step_47 : decode cX7_step 47 = .ok (.if_icmp .lt 6, 3) := by decide +kernel
theorem dX7_step_50 : decode cX7_step 50 = .ok (.bipush (-12), 2) := by decide +kernel
theorem dX7_step_52 : decode cX7_step 52 = .ok (.ireturn, 1) := by decide +kernel
theorem dX7_step_53 : decode cX7_step 53 = .ok (.aload_n 0, 1) := by decide +kernel
theorem dX7_step_54 : decode cX7_step 54 = .ok (.getfield 45, 3) := by decide +kernel
theorem dX7_step_57 : decode cX7_step 57 = .ok (.aload_n 0, 1) := by decide +kernel
theorem dX7_step_58 : decode cX7_step 58 = .ok (.getfield 38, 3) := by decide +kernel
theorem dX7_step_61 : decode cX7_step 61 = .ok (.getfield 192, 3) := by decide +kernel
theorem dX7_step_64 : decode cX7_step 64 = .ok (.iload_n 2, 1) := by decide +kernel
theorem dX7_step_65 : decode cX7_step 65 = .ok (.iload_n 3, 1) := by decide +kernel
theorem dX7_step_66 : decode cX7_step 66 = .ok (.invokevirtual 205, 3) := by decide +kernel
theorem dX7_step_69 : decode cX7_step 69 = .ok (.ireturn, 1) := by decide +kernel
theorem dX7_would_0 : decode cX7_would 0 = .ok (.iload_n 1, 1) := by decide +kernel
theorem dX7_would_1 : decode cX7_would 1 = .ok (.ifCond .lt 8, 3) := by decide +kernel
theorem dX7_would_4 : decode cX7_would 4 = .ok (.iload_n 1, 1) := by decide +kernel
theorem dX7_would_5 : decode cX7_would 5 = .ok (.iconst 3, 1) := by decide +kernel
theorem dX7_would_6 : decode cX7_would 6 = .ok (.if_icmp .le 6, 3) := by decide +kernel
theorem dX7_would_9 : decode cX7_would 9 = .ok (.bipush (-2), 2) := by decide +kernel
theorem dX7_would_11 : decode cX7_would 11 = .ok (.ireturn, 1) := by decide +kernel
theorem dX7_would_12 : decode cX7_would 12 = .ok (.aload_n 0, 1) := by decide +kernel
theorem dX7_would_13 : decode cX7_would 13 = .ok (.getfield 38, 3) := by decide +kernel
theorem dX7_would_16 : decode cX7_would 16 = .ok (.aload_n 0, 1) := by decide +kernel
theorem dX7_would_17 : decode cX7_would 17 = .ok (.getfield 12, 3) := by decide +kernel
theorem dX7_would_20 : decode cX7_would 20 = .ok (.aload_n 0, 1) := by decide +kernel
theorem dX7_would_21 : decode cX7_would 21 = .ok (.getfield 12, 3) := by decide +kernel
theorem dX7_would_24 : decode cX7_would 24 = .ok (.getfield 179, 3) := by decide +kernel
theorem dX7_would_27 : decode cX7_would 27 = .ok (.invokevirtual 182, 3) := by decide +kernel
theorem dX7_would_30 : decode cX7_would 30 = .ok (.iload_n 1, 1) := by decide +kernel
theorem dX7_would_31 : decode cX7_would 31 = .ok (.tableswitch 45 0 2 #[25, 33, 39], 25) := by decide +kernel
theorem dX7_would_56 : decode cX7_would 56 = .ok (.aload_n 0, 1) := by decide +kernel
theorem dX7_would_57 : decode cX7_would 57 = .ok (.getfield 38, 3) := by decide +kernel
theorem dX7_would_60 : decode cX7_would 60 = .ok (.getfield 196, 3) := by decide +kernel
theorem dX7_would_63 : decode cX7_would 63 = .ok (.ireturn, 1) := by decide +kernel
theorem dX7_would_64 : decode cX7_would 64 = .ok (.aload_n 0, 1) := by decide +kernel
theorem dX7_would_65 : decode cX7_would 65 = .ok (.iconst 0, 1) := by decide +kernel
theorem dX7_would_66 : decode cX7_would 66 = .ok (.invokevirtual 186, 3) := by decide +kernel
theorem dX7_would_69 : decode cX7_would 69 = .ok (.ireturn, 1) := by decide +kernel
theorem dX7_would_70 : decode cX7_would 70 = .ok (.aload_n 0, 1) := by decide +kernel
theorem dX7_would_71 : decode cX7_would 71 = .ok (.iconst 1, 1) := by decide +kernel
theorem dX7_would_72 : decode cX7_would 72 = .ok (.invokevirtual 186, 3) := by decide +kernel
theorem dX7_would_75 : decode cX7_would 75 = .ok (.ireturn, 1) := by decide +kernel
theorem dX7_would_76 : decode cX7_would 76 = .ok (.aload_n 0, 1) := by decide +kernel
theorem dX7_would_77 : decode cX7_would 77 = .ok (.getfield 38, 3) := by decide +kernel
theorem dX7_would_80 : decode cX7_would 80 = .ok (.invokevirtual 209, 3) := by decide +kernel
theorem dX7_would_83 : decode cX7_would 83 = .ok (.invokestatic 87, 3) := by decide +kernel
theorem dX7_would_86 : decode cX7_would 86 = .ok (.ireturn, 1) := by decide +kernel
theorem dX7_spared_0 : decode cX7_spared 0 = .ok (.iload_n 1, 1) := by decide +kernel
theorem dX7_spared_1 : decode cX7_spared 1 = .ok (.invokestatic 176, 3) := by decide +kernel
theorem dX7_spared_4 : decode cX7_spared 4 = .ok (.ifCond .eq 14, 3) := by decide +kernel
theorem dX7_spared_7 : decode cX7_spared 7 = .ok (.aload_n 0, 1) := by decide +kernel
theorem dX7_spared_8 : decode cX7_spared 8 = .ok (.getfield 12, 3) := by decide +kernel
theorem dX7_spared_11 : decode cX7_spared 11 = .ok (.iload_n 2, 1) := by decide +kernel
theorem dX7_spared_12 : decode cX7_spared 12 = .ok (.invokevirtual 75, 3) := by decide +kernel
theorem dX7_spared_15 : decode cX7_spared 15 = .ok (.ifCond .ne 6, 3) := by decide +kernel
theorem dX7_spared_18 : decode cX7_spared 18 = .ok (.bipush (-2), 2) := by decide +kernel
theorem dX7_spared_20 : decode cX7_spared 20 = .ok (.ireturn, 1) := by decide +kernel
theorem dX7_spared_21 : decode cX7_spared 21 = .ok (.aload_n 0, 1) := by decide +kernel
theorem dX7_spared_22 : decode cX7_spared 22 = .ok (.getfield 38, 3) := by decide +kernel
theorem dX7_spared_25 : decode cX7_spared 25 = .ok (.aload_n 0, 1) := by decide +kernel
theorem dX7_spared_26 : decode cX7_spared 26 = .ok (.getfield 12, 3) := by decide +kernel
theorem dX7_spared_29 : decode cX7_spared 29 = .ok (.aload_n 0, 1) := by decide +kernel
theorem dX7_spared_30 : decode cX7_spared 30 = .ok (.getfield 12, 3) := by decide +kernel
theorem dX7_spared_33 : decode cX7_spared 33 = .ok (.getfield 179, 3) := by decide +kernel
theorem dX7_spared_36 : decode cX7_spared 36 = .ok (.invokevirtual 182, 3) := by decide +kernel
theorem dX7_spared_39 : decode cX7_spared 39 = .ok (.aload_n 0, 1) := by decide +kernel
theorem dX7_spared_40 : decode cX7_spared 40 = .ok (.getfield 38, 3) := by decide +kernel
theorem dX7_spared_43 : decode cX7_spared 43 = .ok (.getfield 122, 3) := by decide +kernel
theorem dX7_spared_46 : decode cX7_spared 46 = .ok (.iload_n 1, 1) := by decide +kernel
theorem dX7_spared_47 : decode cX7_spared 47 = .ok (.aaload, 1) := by decide +kernel
theorem dX7_spared_48 : decode cX7_spared 48 = .ok (.iload_n 2, 1) := by decide +kernel
theorem dX7_spared_49 : decode cX7_spared 49 = .ok (.iaload, 1) := by decide +kernel
theorem dX7_spared_50 : decode cX7_spared 50 = .ok (.bipush 8, 2) := by decide +kernel
theorem dX7_spared_52 : decode cX7_spared 52 = .ok (.iand, 1) := by decide +kernel
theorem dX7_spared_53 : decode cX7_spared 53 = .ok (.ifCond .ne 6, 3) := by decide +kernel
theorem dX7_spared_56 : decode cX7_spared 56 = .ok (.bipush (-3), 2) := by decide +kernel
theorem dX7_spared_58 : decode cX7_spared 58 = .ok (.ireturn, 1) := by decide +kernel
theorem dX7_spared_59 : decode cX7_spared 59 = .ok (.aload_n 0, 1) := by decide +kernel
theorem dX7_spared_60 : decode cX7_spared 60 = .ok (.getfield 38, 3) := by decide +kernel
theorem dX7_spared_63 : decode cX7_spared 63 = .ok (.getfield 196, 3) := by decide +kernel
theorem dX7_spared_66 : decode cX7_spared 66 = .ok (.istore_n 3, 1) := by decide +kernel
theorem dX7_spared_67 : decode cX7_spared 67 = .ok (.aload_n 0, 1) := by decide +kernel
theorem dX7_spared_68 : decode cX7_spared 68 = .ok (.getfield 19, 3) := by decide +kernel
theorem dX7_spared_71 : decode cX7_spared 71 = .ok (.aload_n 0, 1) := by decide +kernel
theorem dX7_spared_72 : decode cX7_spared 72 = .ok (.getfield 12, 3) := by decide +kernel
theorem dX7_spared_75 : decode cX7_spared 75 = .ok (.invokevirtual 213, 3) := by decide +kernel
theorem dX7_spared_78 : decode cX7_spared 78 = .ok (.aload_n 0, 1) := by decide +kernel
theorem dX7_spared_79 : decode cX7_spared 79 = .ok (.getfield 19, 3) := by decide +kernel
theorem dX7_spared_82 : decode cX7_spared 82 = .ok (.getfield 78, 3) := by decide +kernel
theorem dX7_spared_85 : decode cX7_spared 85 = .ok (.iload_n 1, 1) := by decide +kernel
theorem dX7_spared_86 : decode cX7_spared 86 = .ok (.aaload, 1) := by decide +kernel
theorem dX7_spared_87 : decode cX7_spared 87 = .ok (.getfield 98, 3) := by decide +kernel
theorem dX7_spared_90 : decode cX7_spared 90 = .ok (.iload_n 2, 1) := by decide +kernel
theorem dX7_spared_91 : decode cX7_spared 91 = .ok (.aload_n 0, 1) := by decide +kernel
theorem dX7_spared_92 : decode cX7_spared 92 = .ok (.getfield 12, 3) := by decide +kernel
theorem dX7_spared_95 : decode cX7_spared 95 = .ok (.getfield 78, 3) := by decide +kernel
theorem dX7_spared_98 : decode cX7_spared 98 = .ok (.iconst 2, 1) := by decide +kernel
theorem dX7_spared_99 : decode cX7_spared 99 = .ok (.aaload, 1) := by decide +kernel
theorem dX7_spared_100 : decode cX7_spared 100 = .ok (.getfield 98, 3) := by decide +kernel
theorem dX7_spared_103 : decode cX7_spared 103 = .ok (.iload_n 2, 1) := by decide +kernel
theorem dX7_spared_104 : decode cX7_spared 104 = .ok (.iaload, 1) := by decide +kernel
theorem dX7_spared_105 : decode cX7_spared 105 = .ok (.iastore, 1) := by decide +kernel
theorem dX7_spared_106 : decode cX7_spared 106 = .ok (.aload_n 0, 1) := by decide +kernel
theorem dX7_spared_107 : decode cX7_spared 107 = .ok (.getfield 38, 3) := by decide +kernel
theorem dX7_spared_110 : decode cX7_spared 110 = .ok (.aload_n 0, 1) := by decide +kernel
theorem dX7_spared_111 : decode cX7_spared 111 = .ok (.getfield 19, 3) := by decide +kernel
theorem dX7_spared_114 : decode cX7_spared 114 = .ok (.aload_n 0, 1) := by decide +kernel
theorem dX7_spared_115 : decode cX7_spared 115 = .ok (.getfield 19, 3) := by decide +kernel
theorem dX7_spared_118 : decode cX7_spared 118 = .ok (.getfield 179, 3) := by decide +kernel
theorem dX7_spared_121 : decode cX7_spared 121 = .ok (.invokevirtual 182, 3) := by decide +kernel
theorem dX7_spared_124 : decode cX7_spared 124 = .ok (.iload_n 3, 1) := by decide +kernel
theorem dX7_spared_125 : decode cX7_spared 125 = .ok (.aload_n 0, 1) := by decide +kernel
theorem dX7_spared_126 : decode cX7_spared 126 = .ok (.getfield 38, 3) := by decide +kernel
theorem dX7_spared_129 : decode cX7_spared 129 = .ok (.getfield 196, 3) := by decide +kernel
theorem dX7_spared_132 : decode cX7_spared 132 = .ok (.isub, 1) := by decide +kernel
theorem dX7_spared_133 : decode cX7_spared 133 = .ok (.ireturn, 1) := by decide +kernel
theorem dX7_drawn_0 : decode cX7_drawn 0 = .ok (.iload_n 2, 1) := by decide +kernel
theorem dX7_drawn_1 : decode cX7_drawn 1 = .ok (.ifCond .lt 9, 3) := by decide +kernel
theorem dX7_drawn_4 : decode cX7_drawn 4 = .ok (.iload_n 2, 1) := by decide +kernel
theorem dX7_drawn_5 : decode cX7_drawn 5 = .ok (.bipush 20, 2) := by decide +kernel
theorem dX7_drawn_7 : decode cX7_drawn 7 = .ok (.if_icmp .le 6, 3) := by decide +kernel
theorem dX7_drawn_10 : decode cX7_drawn 10 = .ok (.bipush (-2), 2) := by decide +kernel
theorem dX7_drawn_12 : decode cX7_drawn 12 = .ok (.ireturn, 1) := by decide +kernel
theorem dX7_drawn_13 : decode cX7_drawn 13 = .ok (.aload_n 0, 1) := by decide +kernel
theorem dX7_drawn_14 : decode cX7_drawn 14 = .ok (.iload_n 1, 1) := by decide +kernel
theorem dX7_drawn_15 : decode cX7_drawn 15 = .ok (.iload_n 2, 1) := by decide +kernel
theorem dX7_drawn_16 : decode cX7_drawn 16 = .ok (.invokevirtual 216, 3) := by decide +kernel
theorem dX7_drawn_19 : decode cX7_drawn 19 = .ok (.ireturn, 1) := by decide +kernel
theorem dX7_chance_0 : decode cX7_chance 0 = .ok (.iload_n 2, 1) := by decide +kernel
theorem dX7_chance_1 : decode cX7_chance 1 = .ok (.iconst 1, 1) := by decide +kernel
theorem dX7_chance_2 : decode cX7_chance 2 = .ok (.if_icmp .lt 18, 3) := by decide +kernel
theorem dX7_chance_5 : decode cX7_chance 5 = .ok (.iload_n 2, 1) := by decide +kernel
theorem dX7_chance_6 : decode cX7_chance 6 = .ok (.bipush 10, 2) := by decide +kernel
theorem dX7_chance_8 : decode cX7_chance 8 = .ok (.if_icmp .gt 12, 3) := by decide +kernel
theorem dX7_chance_11 : decode cX7_chance 11 = .ok (.iload_n 3, 1) := by decide +kernel
theorem dX7_chance_12 : decode cX7_chance 12 = .ok (.ifCond .lt 8, 3) := by decide +kernel
theorem dX7_chance_15 : decode cX7_chance 15 = .ok (.iload_n 3, 1) := by decide +kernel
theorem dX7_chance_16 : decode cX7_chance 16 = .ok (.iconst 1, 1) := by decide +kernel
theorem dX7_chance_17 : decode cX7_chance 17 = .ok (.if_icmp .le 6, 3) := by decide +kernel
theorem dX7_chance_20 : decode cX7_chance 20 = .ok (.bipush (-2), 2) := by decide +kernel
theorem dX7_chance_22 : decode cX7_chance 22 = .ok (.ireturn, 1) := by decide +kernel
theorem dX7_chance_23 : decode cX7_chance 23 = .ok (.iconst 0, 1) := by decide +kernel
theorem dX7_chance_24 : decode cX7_chance 24 = .ok (.istore 4, 2) := by decide +kernel
theorem dX7_chance_26 : decode cX7_chance 26 = .ok (.iconst 0, 1) := by decide +kernel
theorem dX7_chance_27 : decode cX7_chance 27 = .ok (.istore 5, 2) := by decide +kernel
theorem dX7_chance_29 : decode cX7_chance 29 = .ok (.iload 5, 2) := by decide +kernel
theorem dX7_chance_31 : decode cX7_chance 31 = .ok (.iload_n 2, 1) := by decide +kernel
theorem dX7_chance_32 : decode cX7_chance 32 = .ok (.if_icmp .ge 25, 3) := by decide +kernel
theorem dX7_chance_35 : decode cX7_chance 35 = .ok (.aload_n 0, 1) := by decide +kernel
theorem dX7_chance_36 : decode cX7_chance 36 = .ok (.iload_n 1, 1) := by decide +kernel
theorem dX7_chance_37 : decode cX7_chance 37 = .ok (.iload 5, 2) := by decide +kernel
theorem dX7_chance_39 : decode cX7_chance 39 = .ok (.iadd, 1) := by decide +kernel
theorem dX7_chance_40 : decode cX7_chance 40 = .ok (.bipush 8, 2) := by decide +kernel
theorem dX7_chance_42 : decode cX7_chance 42 = .ok (.invokevirtual 216, 3) := by decide +kernel
theorem dX7_chance_45 : decode cX7_chance 45 = .ok (.ifCond .le 6, 3) := by decide +kernel
theorem dX7_chance_48 : decode cX7_chance 48 = .ok (.iinc 4 1, 3) := by decide +kernel
theorem dX7_chance_51 : decode cX7_chance 51 = .ok (.iinc 5 1, 3) := by decide +kernel
theorem dX7_chance_54 : decode cX7_chance 54 = .ok (.goto (-25), 3) := by decide +kernel
theorem dX7_chance_57 : decode cX7_chance 57 = .ok (.iload 4, 2) := by decide +kernel
theorem dX7_chance_59 : decode cX7_chance 59 = .ok (.iload_n 2, 1) := by decide +kernel
theorem dX7_chance_60 : decode cX7_chance 60 = .ok (.invokestatic 219, 3) := by decide +kernel
theorem dX7_chance_63 : decode cX7_chance 63 = .ok (.istore 5, 2) := by decide +kernel
theorem dX7_chance_65 : decode cX7_chance 65 = .ok (.iload_n 3, 1) := by decide +kernel
theorem dX7_chance_66 : decode cX7_chance 66 = .ok (.ifCond .ne 8, 3) := by decide +kernel
theorem dX7_chance_69 : decode cX7_chance 69 = .ok (.iload 4, 2) := by decide +kernel
theorem dX7_chance_71 : decode cX7_chance 71 = .ok (.goto 4, 3) := by decide +kernel
theorem dX7_chance_74 : decode cX7_chance 74 = .ok (.iload_n 2, 1) := by decide +kernel
theorem dX7_chance_75 : decode cX7_chance 75 = .ok (.iload 5, 2) := by decide +kernel
theorem dX7_chance_77 : decode cX7_chance 77 = .ok (.idiv, 1) := by decide +kernel
theorem dX7_chance_78 : decode cX7_chance 78 = .ok (.ireturn, 1) := by decide +kernel
theorem dX7_tells_0 : decode cX7_tells 0 = .ok (.iload_n 1, 1) := by decide +kernel
theorem dX7_tells_1 : decode cX7_tells 1 = .ok (.invokestatic 222, 3) := by decide +kernel
theorem dX7_tells_4 : decode cX7_tells 4 = .ok (.ifCond .eq 19, 3) := by decide +kernel
theorem dX7_tells_7 : decode cX7_tells 7 = .ok (.iload_n 2, 1) := by decide +kernel
theorem dX7_tells_8 : decode cX7_tells 8 = .ok (.invokestatic 71, 3) := by decide +kernel
theorem dX7_tells_11 : decode cX7_tells 11 = .ok (.ifCond .eq 12, 3) := by decide +kernel
theorem dX7_tells_14 : decode cX7_tells 14 = .ok (.iload_n 3, 1) := by decide +kernel
theorem dX7_tells_15 : decode cX7_tells 15 = .ok (.ifCond .lt 8, 3) := by decide +kernel
theorem dX7_tells_18 : decode cX7_tells 18 = .ok (.iload_n 3, 1) := by decide +kernel
theorem dX7_tells_19 : decode cX7_tells 19 = .ok (.iconst 1, 1) := by decide +kernel
theorem dX7_tells_20 : decode cX7_tells 20 = .ok (.if_icmp .le 6, 3) := by decide +kernel
theorem dX7_tells_23 : decode cX7_tells 23 = .ok (.bipush (-2), 2) := by decide +kernel
theorem dX7_tells_25 : decode cX7_tells 25 = .ok (.ireturn, 1) := by decide +kernel
theorem dX7_tells_26 : decode cX7_tells 26 = .ok (.aload_n 0, 1) := by decide +kernel
theorem dX7_tells_27 : decode cX7_tells 27 = .ok (.getfield 51, 3) := by decide +kernel
theorem dX7_tells_30 : decode cX7_tells 30 = .ok (.iload_n 1, 1) := by decide +kernel
theorem dX7_tells_31 : decode cX7_tells 31 = .ok (.aaload, 1) := by decide +kernel
theorem dX7_tells_32 : decode cX7_tells 32 = .ok (.astore 4, 2) := by decide +kernel
theorem dX7_tells_34 : decode cX7_tells 34 = .ok (.aload 4, 2) := by decide +kernel
theorem dX7_tells_36 : decode cX7_tells 36 = .ok (.invokevirtual 225, 3) := by decide +kernel
theorem dX7_tells_39 : decode cX7_tells 39 = .ok (.ifCond .eq 6, 3) := by decide +kernel
theorem dX7_tells_42 : decode cX7_tells 42 = .ok (.bipush (-11), 2) := by decide +kernel
theorem dX7_tells_44 : decode cX7_tells 44 = .ok (.ireturn, 1) := by decide +kernel
theorem dX7_tells_45 : decode cX7_tells 45 = .ok (.aload 4, 2) := by decide +kernel
theorem dX7_tells_47 : decode cX7_tells 47 = .ok (.getfield 228, 3) := by decide +kernel
theorem dX7_tells_50 : decode cX7_tells 50 = .ok (.bipush 30, 2) := by decide +kernel
theorem dX7_tells_52 : decode cX7_tells 52 = .ok (.if_icmp .le 6, 3) := by decide +kernel
theorem dX7_tells_55 : decode cX7_tells 55 = .ok (.bipush (-2), 2) := by decide +kernel
theorem dX7_tells_57 : decode cX7_tells 57 = .ok (.ireturn, 1) := by decide +kernel
theorem dX7_tells_58 : decode cX7_tells 58 = .ok (.iload_n 3, 1) := by decide +kernel
theorem dX7_tells_59 : decode cX7_tells 59 = .ok (.ifCond .ne 20, 3) := by decide +kernel
theorem dX7_tells_62 : decode cX7_tells 62 = .ok (.aload 4, 2) := by decide +kernel
theorem dX7_tells_64 : decode cX7_tells 64 = .ok (.aload_n 0, 1) := by decide +kernel
theorem dX7_tells_65 : decode cX7_tells 65 = .ok (.getfield 12, 3) := by decide +kernel
theorem dX7_tells_68 : decode cX7_tells 68 = .ok (.getfield 78, 3) := by decide +kernel
theorem dX7_tells_71 : decode cX7_tells 71 = .ok (.iload_n 2, 1) := by decide +kernel
theorem dX7_tells_72 : decode cX7_tells 72 = .ok (.aaload, 1) := by decide +kernel
theorem dX7_tells_73 : decode cX7_tells 73 = .ok (.invokevirtual 229, 3) := by decide +kernel
theorem dX7_tells_76 : decode cX7_tells 76 = .ok (.goto 9, 3) := by decide +kernel
theorem dX7_tells_79 : decode cX7_tells 79 = .ok (.aload_n 0, 1) := by decide +kernel
theorem dX7_tells_80 : decode cX7_tells 80 = .ok (.aload 4, 2) := by decide +kernel
theorem dX7_tells_82 : decode cX7_tells 82 = .ok (.invokevirtual 233, 3) := by decide +kernel
theorem dX7_tells_85 : decode cX7_tells 85 = .ok (.ireturn, 1) := by decide +kernel
theorem dX7_film_0 : decode cX7_film 0 = .ok (.iload_n 1, 1) := by decide +kernel
theorem dX7_film_1 : decode cX7_film 1 = .ok (.invokestatic 222, 3) := by decide +kernel
theorem dX7_film_4 : decode cX7_film 4 = .ok (.ifCond .eq 20, 3) := by decide +kernel
theorem dX7_film_7 : decode cX7_film 7 = .ok (.iload_n 2, 1) := by decide +kernel
theorem dX7_film_8 : decode cX7_film 8 = .ok (.invokestatic 71, 3) := by decide +kernel
theorem dX7_film_11 : decode cX7_film 11 = .ok (.ifCond .eq 13, 3) := by decide +kernel
theorem dX7_film_14 : decode cX7_film 14 = .ok (.iload_n 3, 1) := by decide +kernel
theorem dX7_film_15 : decode cX7_film 15 = .ok (.ifCond .lt 9, 3) := by decide +kernel
theorem dX7_film_18 : decode cX7_film 18 = .ok (.iload_n 3, 1) := by decide +kernel
theorem dX7_film_19 : decode cX7_film 19 = .ok (.bipush 30, 2) := by decide +kernel
theorem dX7_film_21 : decode cX7_film 21 = .ok (.if_icmp .le 6, 3) := by decide +kernel
theorem dX7_film_24 : decode cX7_film 24 = .ok (.bipush (-2), 2) := by decide +kernel
theorem dX7_film_26 : decode cX7_film 26 = .ok (.ireturn, 1) := by decide +kernel
theorem dX7_film_27 : decode cX7_film 27 = .ok (.aload_n 0, 1) := by decide +kernel
theorem dX7_film_28 : decode cX7_film 28 = .ok (.getfield 51, 3) := by decide +kernel
theorem dX7_film_31 : decode cX7_film 31 = .ok (.iload_n 1, 1) := by decide +kernel
theorem dX7_film_32 : decode cX7_film 32 = .ok (.aaload, 1) := by decide +kernel
theorem dX7_film_33 : decode cX7_film 33 = .ok (.astore 4, 2) := by decide +kernel
theorem dX7_film_35 : decode cX7_film 35 = .ok (.aload 4, 2) := by decide +kernel
theorem dX7_film_37 : decode cX7_film 37 = .ok (.iconst 1, 1) := by decide +kernel
theorem dX7_film_38 : decode cX7_film 38 = .ok (.iload_n 3, 1) := by decide +kernel
theorem dX7_film_39 : decode cX7_film 39 = .ok (.invokevirtual 237, 3) := by decide +kernel
theorem dX7_film_42 : decode cX7_film 42 = .ok (.iconst 0, 1) := by decide +kernel
theorem dX7_film_43 : decode cX7_film 43 = .ok (.istore 5, 2) := by decide +kernel
theorem dX7_film_45 : decode cX7_film 45 = .ok (.iload 5, 2) := by decide +kernel
theorem dX7_film_47 : decode cX7_film 47 = .ok (.iload_n 3, 1) := by decide +kernel
theorem dX7_film_48 : decode cX7_film 48 = .ok (.if_icmp .ge 31, 3) := by decide +kernel
theorem dX7_film_51 : decode cX7_film 51 = .ok (.aload 4, 2) := by decide +kernel
theorem dX7_film_53 : decode cX7_film 53 = .ok (.iload 5, 2) := by decide +kernel
theorem dX7_film_55 : decode cX7_film 55 = .ok (.aload_n 0, 1) := by decide +kernel
theorem dX7_film_56 : decode cX7_film 56 = .ok (.getfield 12, 3) := by decide +kernel
theorem dX7_film_59 : decode cX7_film 59 = .ok (.getfield 78, 3) := by decide +kernel
theorem dX7_film_62 : decode cX7_film 62 = .ok (.iload_n 2, 1) := by decide +kernel
theorem dX7_film_63 : decode cX7_film 63 = .ok (.aaload, 1) := by decide +kernel
theorem dX7_film_64 : decode cX7_film 64 = .ok (.getfield 98, 3) := by decide +kernel
theorem dX7_film_67 : decode cX7_film 67 = .ok (.iload 5, 2) := by decide +kernel
theorem dX7_film_69 : decode cX7_film 69 = .ok (.iaload, 1) := by decide +kernel
theorem dX7_film_70 : decode cX7_film 70 = .ok (.invokevirtual 241, 3) := by decide +kernel
theorem dX7_film_73 : decode cX7_film 73 = .ok (.iinc 5 1, 3) := by decide +kernel
theorem dX7_film_76 : decode cX7_film 76 = .ok (.goto (-31), 3) := by decide +kernel
theorem dX7_film_79 : decode cX7_film 79 = .ok (.iload_n 3, 1) := by decide +kernel
theorem dX7_film_80 : decode cX7_film 80 = .ok (.ireturn, 1) := by decide +kernel
theorem dX7_image_0 : decode cX7_image 0 = .ok (.aload_n 0, 1) := by decide +kernel
theorem dX7_image_1 : decode cX7_image 1 = .ok (.getfield 16, 3) := by decide +kernel
theorem dX7_image_4 : decode cX7_image 4 = .ok (.aload_n 0, 1) := by decide +kernel
theorem dX7_image_5 : decode cX7_image 5 = .ok (.getfield 12, 3) := by decide +kernel
theorem dX7_image_8 : decode cX7_image 8 = .ok (.invokevirtual 213, 3) := by decide +kernel
theorem dX7_image_11 : decode cX7_image 11 = .ok (.aload_n 0, 1) := by decide +kernel
theorem dX7_image_12 : decode cX7_image 12 = .ok (.iconst 1, 1) := by decide +kernel
theorem dX7_image_13 : decode cX7_image 13 = .ok (.putfield 22, 3) := by decide +kernel
theorem dX7_image_16 : decode cX7_image 16 = .ok (.aload_n 0, 1) := by decide +kernel
theorem dX7_image_17 : decode cX7_image 17 = .ok (.getfield 12, 3) := by decide +kernel
theorem dX7_image_20 : decode cX7_image 20 = .ok (.getfield 244, 3) := by decide +kernel
theorem dX7_image_23 : decode cX7_image 23 = .ok (.ireturn, 1) := by decide +kernel
theorem dX7_back_0 : decode cX7_back 0 = .ok (.aload_n 0, 1) := by decide +kernel
theorem dX7_back_1 : decode cX7_back 1 = .ok (.getfield 22, 3) := by decide +kernel
theorem dX7_back_4 : decode cX7_back 4 = .ok (.ifCond .ne 6, 3) := by decide +kernel
theorem dX7_back_7 : decode cX7_back 7 = .ok (.bipush (-3), 2) := by decide +kernel
theorem dX7_back_9 : decode cX7_back 9 = .ok (.ireturn, 1) := by decide +kernel
theorem dX7_back_10 : decode cX7_back 10 = .ok (.aload_n 0, 1) := by decide +kernel
theorem dX7_back_11 : decode cX7_back 11 = .ok (.getfield 12, 3) := by decide +kernel
theorem dX7_back_14 : decode cX7_back 14 = .ok (.aload_n 0, 1) := by decide +kernel
theorem dX7_back_15 : decode cX7_back 15 = .ok (.getfield 16, 3) := by decide +kernel
theorem dX7_back_18 : decode cX7_back 18 = .ok (.invokevirtual 213, 3) := by decide +kernel
theorem dX7_back_21 : decode cX7_back 21 = .ok (.aload_n 0, 1) := by decide +kernel
theorem dX7_back_22 : decode cX7_back 22 = .ok (.getfield 12, 3) := by decide +kernel
theorem dX7_back_25 : decode cX7_back 25 = .ok (.getfield 244, 3) := by decide +kernel
theorem dX7_back_28 : decode cX7_back 28 = .ok (.ireturn, 1) := by decide +kernel
theorem dX7_count_0 : decode cX7_count 0 = .ok (.iload_n 1, 1) := by decide +kernel
theorem dX7_count_1 : decode cX7_count 1 = .ok (.tableswitch 88 0 6 #[43, 43, 43, 56, 64, 72, 80], 43) := by decide +kernel
theorem dX7_count_44 : decode cX7_count 44 = .ok (.aload_n 0, 1) := by decide +kernel
theorem dX7_count_45 : decode cX7_count 45 = .ok (.getfield 12, 3) := by decide +kernel
theorem dX7_count_48 : decode cX7_count 48 = .ok (.getfield 78, 3) := by decide +kernel
theorem dX7_count_51 : decode cX7_count 51 = .ok (.iload_n 1, 1) := by decide +kernel
theorem dX7_count_52 : decode cX7_count 52 = .ok (.aaload, 1) := by decide +kernel
theorem dX7_count_53 : decode cX7_count 53 = .ok (.invokevirtual 247, 3) := by decide +kernel
theorem dX7_count_56 : decode cX7_count 56 = .ok (.ireturn, 1) := by decide +kernel
theorem dX7_count_57 : decode cX7_count 57 = .ok (.aload_n 0, 1) := by decide +kernel
theorem dX7_count_58 : decode cX7_count 58 = .ok (.getfield 12, 3) := by decide +kernel
theorem dX7_count_61 : decode cX7_count 61 = .ok (.getfield 244, 3) := by decide +kernel
theorem dX7_count_64 : decode cX7_count 64 = .ok (.ireturn, 1) := by decide +kernel
theorem dX7_count_65 : decode cX7_count 65 = .ok (.aload_n 0, 1) := by decide +kernel
theorem dX7_count_66 : decode cX7_count 66 = .ok (.getfield 12, 3) := by decide +kernel
theorem dX7_count_69 : decode cX7_count 69 = .ok (.getfield 152, 3) := by decide +kernel
theorem dX7_count_72 : decode cX7_count 72 = .ok (.ireturn, 1) := by decide +kernel
theorem dX7_count_73 : decode cX7_count 73 = .ok (.aload_n 0, 1) := by decide +kernel
theorem dX7_count_74 : decode cX7_count 74 = .ok (.getfield 29, 3) := by decide +kernel
theorem dX7_count_77 : decode cX7_count 77 = .ok (.getfield 145, 3) := by decide +kernel
theorem dX7_count_80 : decode cX7_count 80 = .ok (.ireturn, 1) := by decide +kernel
theorem dX7_count_81 : decode cX7_count 81 = .ok (.aload_n 0, 1) := by decide +kernel
theorem dX7_count_82 : decode cX7_count 82 = .ok (.getfield 12, 3) := by decide +kernel
theorem dX7_count_85 : decode cX7_count 85 = .ok (.getfield 179, 3) := by decide +kernel
theorem dX7_count_88 : decode cX7_count 88 = .ok (.ireturn, 1) := by decide +kernel
theorem dX7_count_89 : decode cX7_count 89 = .ok (.bipush (-2), 2) := by decide +kernel
theorem dX7_count_91 : decode cX7_count 91 = .ok (.ireturn, 1) := by decide +kernel
theorem dX7_sheet_0 : decode cX7_sheet 0 = .ok (.iload_n 1, 1) := by decide +kernel
theorem dX7_sheet_1 : decode cX7_sheet 1 = .ok (.invokestatic 222, 3) := by decide +kernel
theorem dX7_sheet_4 : decode cX7_sheet 4 = .ok (.ifCond .eq 13, 3) := by decide +kernel
theorem dX7_sheet_7 : decode cX7_sheet 7 = .ok (.iload_n 2, 1) := by decide +kernel
theorem dX7_sheet_8 : decode cX7_sheet 8 = .ok (.iconst (-1), 1) := by decide +kernel
theorem dX7_sheet_9 : decode cX7_sheet 9 = .ok (.if_icmp .lt 8, 3) := by decide +kernel
theorem dX7_sheet_12 : decode cX7_sheet 12 = .ok (.iload_n 2, 1) := by decide +kernel
theorem dX7_sheet_13 : decode cX7_sheet 13 = .ok (.iconst 1, 1) := by decide +kernel
theorem dX7_sheet_14 : decode cX7_sheet 14 = .ok (.if_icmp .le 6, 3) := by decide +kernel
theorem dX7_sheet_17 : decode cX7_sheet 17 = .ok (.bipush (-2), 2) := by decide +kernel
theorem dX7_sheet_19 : decode cX7_sheet 19 = .ok (.ireturn, 1) := by decide +kernel
theorem dX7_sheet_20 : decode cX7_sheet 20 = .ok (.iload_n 2, 1) := by decide +kernel
theorem dX7_sheet_21 : decode cX7_sheet 21 = .ok (.iconst (-1), 1) := by decide +kernel
theorem dX7_sheet_22 : decode cX7_sheet 22 = .ok (.if_icmp .ne 16, 3) := by decide +kernel
theorem dX7_sheet_25 : decode cX7_sheet 25 = .ok (.aload_n 0, 1) := by decide +kernel
theorem dX7_sheet_26 : decode cX7_sheet 26 = .ok (.getfield 51, 3) := by decide +kernel
theorem dX7_sheet_29 : decode cX7_sheet 29 = .ok (.iload_n 1, 1) := by decide +kernel
theorem dX7_sheet_30 : decode cX7_sheet 30 = .ok (.aaload, 1) := by decide +kernel
theorem dX7_sheet_31 : decode cX7_sheet 31 = .ok (.iconst (-1), 1) := by decide +kernel
theorem dX7_sheet_32 : decode cX7_sheet 32 = .ok (.iconst 0, 1) := by decide +kernel
theorem dX7_sheet_33 : decode cX7_sheet 33 = .ok (.invokevirtual 237, 3) := by decide +kernel
theorem dX7_sheet_36 : decode cX7_sheet 36 = .ok (.iconst 1, 1) := by decide +kernel
theorem dX7_sheet_37 : decode cX7_sheet 37 = .ok (.ireturn, 1) := by decide +kernel
theorem dX7_sheet_38 : decode cX7_sheet 38 = .ok (.iload_n 3, 1) := by decide +kernel
theorem dX7_sheet_39 : decode cX7_sheet 39 = .ok (.bipush 40, 2) := by decide +kernel
theorem dX7_sheet_41 : decode cX7_sheet 41 = .ok (.if_icmp .le 6, 3) := by decide +kernel
theorem dX7_sheet_44 : decode cX7_sheet 44 = .ok (.bipush (-2), 2) := by decide +kernel
theorem dX7_sheet_46 : decode cX7_sheet 46 = .ok (.ireturn, 1) := by decide +kernel
theorem dX7_sheet_47 : decode cX7_sheet 47 = .ok (.iload_n 3, 1) := by decide +kernel
theorem dX7_sheet_48 : decode cX7_sheet 48 = .ok (.ifCond .ge 6, 3) := by decide +kernel
theorem dX7_sheet_51 : decode cX7_sheet 51 = .ok (.bipush (-14), 2) := by decide +kernel
theorem dX7_sheet_53 : decode cX7_sheet 53 = .ok (.ireturn, 1) := by decide +kernel
theorem dX7_sheet_54 : decode cX7_sheet 54 = .ok (.aload_n 0, 1) := by decide +kernel
theorem dX7_sheet_55 : decode cX7_sheet 55 = .ok (.getfield 51, 3) := by decide +kernel
theorem dX7_sheet_58 : decode cX7_sheet 58 = .ok (.iload_n 1, 1) := by decide +kernel
theorem dX7_sheet_59 : decode cX7_sheet 59 = .ok (.aaload, 1) := by decide +kernel
theorem dX7_sheet_60 : decode cX7_sheet 60 = .ok (.iload_n 2, 1) := by decide +kernel
theorem dX7_sheet_61 : decode cX7_sheet 61 = .ok (.iload_n 3, 1) := by decide +kernel
theorem dX7_sheet_62 : decode cX7_sheet 62 = .ok (.invokevirtual 237, 3) := by decide +kernel
theorem dX7_sheet_65 : decode cX7_sheet 65 = .ok (.iconst 1, 1) := by decide +kernel
theorem dX7_sheet_66 : decode cX7_sheet 66 = .ok (.ireturn, 1) := by decide +kernel
theorem dX7_cell_0 : decode cX7_cell 0 = .ok (.iload_n 1, 1) := by decide +kernel
theorem dX7_cell_1 : decode cX7_cell 1 = .ok (.invokestatic 222, 3) := by decide +kernel
theorem dX7_cell_4 : decode cX7_cell 4 = .ok (.ifCond .ne 6, 3) := by decide +kernel
theorem dX7_cell_7 : decode cX7_cell 7 = .ok (.bipush (-2), 2) := by decide +kernel
theorem dX7_cell_9 : decode cX7_cell 9 = .ok (.ireturn, 1) := by decide +kernel
theorem dX7_cell_10 : decode cX7_cell 10 = .ok (.aload_n 0, 1) := by decide +kernel
theorem dX7_cell_11 : decode cX7_cell 11 = .ok (.getfield 51, 3) := by decide +kernel
theorem dX7_cell_14 : decode cX7_cell 14 = .ok (.iload_n 1, 1) := by decide +kernel
theorem dX7_cell_15 : decode cX7_cell 15 = .ok (.aaload, 1) := by decide +kernel
theorem dX7_cell_16 : decode cX7_cell 16 = .ok (.astore 4, 2) := by decide +kernel
theorem dX7_cell_18 : decode cX7_cell 18 = .ok (.aload 4, 2) := by decide +kernel
theorem dX7_cell_20 : decode cX7_cell 20 = .ok (.invokevirtual 225, 3) := by decide +kernel
theorem dX7_cell_23 : decode cX7_cell 23 = .ok (.ifCond .eq 6, 3) := by decide +kernel
theorem dX7_cell_26 : decode cX7_cell 26 = .ok (.bipush (-11), 2) := by decide +kernel
theorem dX7_cell_28 : decode cX7_cell 28 = .ok (.ireturn, 1) := by decide +kernel
theorem dX7_cell_29 : decode cX7_cell 29 = .ok (.aload 4, 2) := by decide +kernel
theorem dX7_cell_31 : decode cX7_cell 31 = .ok (.iload_n 2, 1) := by decide +kernel
theorem dX7_cell_32 : decode cX7_cell 32 = .ok (.iconst 1, 1) := by decide +kernel
theorem dX7_cell_33 : decode cX7_cell 33 = .ok (.invokevirtual 250, 3) := by decide +kernel
theorem dX7_cell_36 : decode cX7_cell 36 = .ok (.ifCond .ne 6, 3) := by decide +kernel
theorem dX7_cell_39 : decode cX7_cell 39 = .ok (.bipush (-12), 2) := by decide +kernel
theorem dX7_cell_41 : decode cX7_cell 41 = .ok (.ireturn, 1) := by decide +kernel
theorem dX7_cell_42 : decode cX7_cell 42 = .ok (.aload 4, 2) := by decide +kernel
theorem dX7_cell_44 : decode cX7_cell 44 = .ok (.iload_n 2, 1) := by decide +kernel
theorem dX7_cell_45 : decode cX7_cell 45 = .ok (.iload_n 3, 1) := by decide +kernel
theorem dX7_cell_46 : decode cX7_cell 46 = .ok (.invokevirtual 241, 3) := by decide +kernel
theorem dX7_cell_49 : decode cX7_cell 49 = .ok (.iconst 1, 1) := by decide +kernel
theorem dX7_cell_50 : decode cX7_cell 50 = .ok (.ireturn, 1) := by decide +kernel
theorem dX7_copy_0 : decode cX7_copy 0 = .ok (.iload_n 1, 1) := by decide +kernel
theorem dX7_copy_1 : decode cX7_copy 1 = .ok (.invokestatic 222, 3) := by decide +kernel
theorem dX7_copy_4 : decode cX7_copy 4 = .ok (.ifCond .eq 10, 3) := by decide +kernel
theorem dX7_copy_7 : decode cX7_copy 7 = .ok (.iload_n 3, 1) := by decide +kernel
theorem dX7_copy_8 : decode cX7_copy 8 = .ok (.invokestatic 222, 3) := by decide +kernel
theorem dX7_copy_11 : decode cX7_copy 11 = .ok (.ifCond .ne 6, 3) := by decide +kernel
theorem dX7_copy_14 : decode cX7_copy 14 = .ok (.bipush (-2), 2) := by decide +kernel
theorem dX7_copy_16 : decode cX7_copy 16 = .ok (.ireturn, 1) := by decide +kernel
theorem dX7_copy_17 : decode cX7_copy 17 = .ok (.aload_n 0, 1) := by decide +kernel
theorem dX7_copy_18 : decode cX7_copy 18 = .ok (.getfield 51, 3) := by decide +kernel
theorem dX7_copy_21 : decode cX7_copy 21 = .ok (.iload_n 1, 1) := by decide +kernel
theorem dX7_copy_22 : decode cX7_copy 22 = .ok (.aaload, 1) := by decide +kernel
theorem dX7_copy_23 : decode cX7_copy 23 = .ok (.astore 6, 2) := by decide +kernel
theorem dX7_copy_25 : decode cX7_copy 25 = .ok (.aload_n 0, 1) := by decide +kernel
theorem dX7_copy_26 : decode cX7_copy 26 = .ok (.getfield 51, 3) := by decide +kernel
theorem dX7_copy_29 : decode cX7_copy 29 = .ok (.iload_n 3, 1) := by decide +kernel
theorem dX7_copy_30 : decode cX7_copy 30 = .ok (.aaload, 1) := by decide +kernel
theorem dX7_copy_31 : decode cX7_copy 31 = .ok (.astore 7, 2) := by decide +kernel
theorem dX7_copy_33 : decode cX7_copy 33 = .ok (.aload 6, 2) := by decide +kernel
theorem dX7_copy_35 : decode cX7_copy 35 = .ok (.invokevirtual 225, 3) := by decide +kernel
theorem dX7_copy_38 : decode cX7_copy 38 = .ok (.ifCond .ne 11, 3) := by decide +kernel
theorem dX7_copy_41 : decode cX7_copy 41 = .ok (.aload 7, 2) := by decide +kernel
theorem dX7_copy_43 : decode cX7_copy 43 = .ok (.invokevirtual 225, 3) := by decide +kernel
theorem dX7_copy_46 : decode cX7_copy 46 = .ok (.ifCond .eq 6, 3) := by decide +kernel
theorem dX7_copy_49 : decode cX7_copy 49 = .ok (.bipush (-11), 2) := by decide +kernel
theorem dX7_copy_51 : decode cX7_copy 51 = .ok (.ireturn, 1) := by decide +kernel
theorem dX7_copy_52 : decode cX7_copy 52 = .ok (.aload 6, 2) := by decide +kernel
theorem dX7_copy_54 : decode cX7_copy 54 = .ok (.getfield 253, 3) := by decide +kernel
theorem dX7_copy_57 : decode cX7_copy 57 = .ok (.aload 7, 2) := by decide +kernel
theorem dX7_copy_59 : decode cX7_copy 59 = .ok (.getfield 253, 3) := by decide +kernel
theorem dX7_copy_62 : decode cX7_copy 62 = .ok (.if_icmp .eq 6, 3) := by decide +kernel
theorem dX7_copy_65 : decode cX7_copy 65 = .ok (.bipush (-13), 2) := by decide +kernel
theorem dX7_copy_67 : decode cX7_copy 67 = .ok (.ireturn, 1) := by decide +kernel
theorem dX7_copy_68 : decode cX7_copy 68 = .ok (.aload 6, 2) := by decide +kernel
theorem dX7_copy_70 : decode cX7_copy 70 = .ok (.iload_n 2, 1) := by decide +kernel
theorem dX7_copy_71 : decode cX7_copy 71 = .ok (.iload 5, 2) := by decide +kernel
theorem dX7_copy_73 : decode cX7_copy 73 = .ok (.invokevirtual 250, 3) := by decide +kernel
theorem dX7_copy_76 : decode cX7_copy 76 = .ok (.ifCond .eq 15, 3) := by decide +kernel
theorem dX7_copy_79 : decode cX7_copy 79 = .ok (.aload 7, 2) := by decide +kernel
theorem dX7_copy_81 : decode cX7_copy 81 = .ok (.iload 4, 2) := by decide +kernel
theorem dX7_copy_83 : decode cX7_copy 83 = .ok (.iload 5, 2) := by decide +kernel
theorem dX7_copy_85 : decode cX7_copy 85 = .ok (.invokevirtual 250, 3) := by decide +kernel
theorem dX7_copy_88 : decode cX7_copy 88 = .ok (.ifCond .ne 6, 3) := by decide +kernel
theorem dX7_copy_91 : decode cX7_copy 91 = .ok (.bipush (-12), 2) := by decide +kernel
theorem dX7_copy_93 : decode cX7_copy 93 = .ok (.ireturn, 1) := by decide +kernel
theorem dX7_copy_94 : decode cX7_copy 94 = .ok (.aload 6, 2) := by decide +kernel
theorem dX7_copy_96 : decode cX7_copy 96 = .ok (.getfield 256, 3) := by decide +kernel
theorem dX7_copy_99 : decode cX7_copy 99 = .ok (.iload_n 2, 1) := by decide +kernel
theorem dX7_copy_100 : decode cX7_copy 100 = .ok (.aload 7, 2) := by decide +kernel
theorem dX7_copy_102 : decode cX7_copy 102 = .ok (.getfield 256, 3) := by decide +kernel
theorem dX7_copy_105 : decode cX7_copy 105 = .ok (.iload 4, 2) := by decide +kernel
theorem dX7_copy_107 : decode cX7_copy 107 = .ok (.iload 5, 2) := by decide +kernel
theorem dX7_copy_109 : decode cX7_copy 109 = .ok (.invokestatic 259, 3) := by decide +kernel
theorem dX7_copy_112 : decode cX7_copy 112 = .ok (.iload 5, 2) := by decide +kernel
theorem dX7_copy_114 : decode cX7_copy 114 = .ok (.ireturn, 1) := by decide +kernel
theorem dX7_isSide_0 : decode cX7_isSide 0 = .ok (.iload_n 0, 1) := by decide +kernel
theorem dX7_isSide_1 : decode cX7_isSide 1 = .ok (.ifCond .lt 12, 3) := by decide +kernel
theorem dX7_isSide_4 : decode cX7_isSide 4 = .ok (.iload_n 0, 1) := by decide +kernel
theorem dX7_isSide_5 : decode cX7_isSide 5 = .ok (.iconst 2, 1) := by decide +kernel
theorem dX7_isSide_6 : decode cX7_isSide 6 = .ok (.if_icmp .ge 7, 3) := by decide +kernel
theorem dX7_isSide_9 : decode cX7_isSide 9 = .ok (.iconst 1, 1) := by decide +kernel
theorem dX7_isSide_10 : decode cX7_isSide 10 = .ok (.goto 4, 3) := by decide +kernel
theorem dX7_isSide_13 : decode cX7_isSide 13 = .ok (.iconst 0, 1) := by decide +kernel
theorem dX7_isSide_14 : decode cX7_isSide 14 = .ok (.ireturn, 1) := by decide +kernel
theorem dX7_isTree_0 : decode cX7_isTree 0 = .ok (.iload_n 0, 1) := by decide +kernel
theorem dX7_isTree_1 : decode cX7_isTree 1 = .ok (.ifCond .lt 12, 3) := by decide +kernel
theorem dX7_isTree_4 : decode cX7_isTree 4 = .ok (.iload_n 0, 1) := by decide +kernel
theorem dX7_isTree_5 : decode cX7_isTree 5 = .ok (.iconst 3, 1) := by decide +kernel
theorem dX7_isTree_6 : decode cX7_isTree 6 = .ok (.if_icmp .ge 7, 3) := by decide +kernel
theorem dX7_isTree_9 : decode cX7_isTree 9 = .ok (.iconst 1, 1) := by decide +kernel
theorem dX7_isTree_10 : decode cX7_isTree 10 = .ok (.goto 4, 3) := by decide +kernel
theorem dX7_isTree_13 : decode cX7_isTree 13 = .ok (.iconst 0, 1) := by decide +kernel
theorem dX7_isTree_14 : decode cX7_isTree 14 = .ok (.ireturn, 1) := by decide +kernel
theorem dX7_isName_0 : decode cX7_isName 0 = .ok (.iload_n 0, 1) := by decide +kernel
theorem dX7_isName_1 : decode cX7_isName 1 = .ok (.ifCond .lt 13, 3) := by decide +kernel
theorem dX7_isName_4 : decode cX7_isName 4 = .ok (.iload_n 0, 1) := by decide +kernel
theorem dX7_isName_5 : decode cX7_isName 5 = .ok (.bipush 50, 2) := by decide +kernel
theorem dX7_isName_7 : decode cX7_isName 7 = .ok (.if_icmp .ge 7, 3) := by decide +kernel
theorem dX7_isName_10 : decode cX7_isName 10 = .ok (.iconst 1, 1) := by decide +kernel
theorem dX7_isName_11 : decode cX7_isName 11 = .ok (.goto 4, 3) := by decide +kernel
theorem dX7_isName_14 : decode cX7_isName 14 = .ok (.iconst 0, 1) := by decide +kernel
theorem dX7_isName_15 : decode cX7_isName 15 = .ok (.ireturn, 1) := by decide +kernel
theorem dX7_isByte_0 : decode cX7_isByte 0 = .ok (.iload_n 0, 1) := by decide +kernel
theorem dX7_isByte_1 : decode cX7_isByte 1 = .ok (.ifCond .lt 14, 3) := by decide +kernel
theorem dX7_isByte_4 : decode cX7_isByte 4 = .ok (.iload_n 0, 1) := by decide +kernel
theorem dX7_isByte_5 : decode cX7_isByte 5 = .ok (.sipush 255, 3) := by decide +kernel
theorem dX7_isByte_8 : decode cX7_isByte 8 = .ok (.if_icmp .gt 7, 3) := by decide +kernel
theorem dX7_isByte_11 : decode cX7_isByte 11 = .ok (.iconst 1, 1) := by decide +kernel
theorem dX7_isByte_12 : decode cX7_isByte 12 = .ok (.goto 4, 3) := by decide +kernel
theorem dX7_isByte_15 : decode cX7_isByte 15 = .ok (.iconst 0, 1) := by decide +kernel
theorem dX7_isByte_16 : decode cX7_isByte 16 = .ok (.ireturn, 1) := by decide +kernel
theorem dX7_isSheet_0 : decode cX7_isSheet 0 = .ok (.iload_n 0, 1) := by decide +kernel
theorem dX7_isSheet_1 : decode cX7_isSheet 1 = .ok (.ifCond .lt 12, 3) := by decide +kernel
theorem dX7_isSheet_4 : decode cX7_isSheet 4 = .ok (.iload_n 0, 1) := by decide +kernel
theorem dX7_isSheet_5 : decode cX7_isSheet 5 = .ok (.iconst 4, 1) := by decide +kernel
theorem dX7_isSheet_6 : decode cX7_isSheet 6 = .ok (.if_icmp .ge 7, 3) := by decide +kernel
theorem dX7_isSheet_9 : decode cX7_isSheet 9 = .ok (.iconst 1, 1) := by decide +kernel
theorem dX7_isSheet_10 : decode cX7_isSheet 10 = .ok (.goto 4, 3) := by decide +kernel
theorem dX7_isSheet_13 : decode cX7_isSheet 13 = .ok (.iconst 0, 1) := by decide +kernel
theorem dX7_isSheet_14 : decode cX7_isSheet 14 = .ok (.ireturn, 1) := by decide +kernel
theorem dX7_bit_0 : decode cX7_bit 0 = .ok (.iload_n 0, 1) := by decide +kernel
theorem dX7_bit_1 : decode cX7_bit 1 = .ok (.ifCond .eq 7, 3) := by decide +kernel
theorem dX7_bit_4 : decode cX7_bit 4 = .ok (.iconst 1, 1) := by decide +kernel
theorem dX7_bit_5 : decode cX7_bit 5 = .ok (.goto 4, 3) := by decide +kernel
theorem dX7_bit_8 : decode cX7_bit 8 = .ok (.iconst 0, 1) := by decide +kernel
theorem dX7_bit_9 : decode cX7_bit 9 = .ok (.ireturn, 1) := by decide +kernel
theorem dX7_greatestDivisor_0 : decode cX7_greatestDivisor 0 = .ok (.iload_n 1, 1) := by decide +kernel
theorem dX7_greatestDivisor_1 : decode cX7_greatestDivisor 1 = .ok (.istore_n 2, 1) := by decide +kernel
theorem dX7_greatestDivisor_2 : decode cX7_greatestDivisor 2 = .ok (.iload_n 2, 1) := by decide +kernel
theorem dX7_greatestDivisor_3 : decode cX7_greatestDivisor 3 = .ok (.iconst 1, 1) := by decide +kernel
theorem dX7_greatestDivisor_4 : decode cX7_greatestDivisor 4 = .ok (.if_icmp .le 23, 3) := by decide +kernel
theorem dX7_greatestDivisor_7 : decode cX7_greatestDivisor 7 = .ok (.iload_n 0, 1) := by decide +kernel
theorem dX7_greatestDivisor_8 : decode cX7_greatestDivisor 8 = .ok (.iload_n 2, 1) := by decide +kernel
theorem dX7_greatestDivisor_9 : decode cX7_greatestDivisor 9 = .ok (.irem, 1) := by decide +kernel
theorem dX7_greatestDivisor_10 : decode cX7_greatestDivisor 10 = .ok (.ifCond .ne 11, 3) := by decide +kernel
theorem dX7_greatestDivisor_13 : decode cX7_greatestDivisor 13 = .ok (.iload_n 1, 1) := by decide +kernel
theorem dX7_greatestDivisor_14 : decode cX7_greatestDivisor 14 = .ok (.iload_n 2, 1) := by decide +kernel
theorem dX7_greatestDivisor_15 : decode cX7_greatestDivisor 15 = .ok (.irem, 1) := by decide +kernel
theorem dX7_greatestDivisor_16 : decode cX7_greatestDivisor 16 = .ok (.ifCond .ne 5, 3) := by decide +kernel
theorem dX7_greatestDivisor_19 : decode cX7_greatestDivisor 19 = .ok (.iload_n 2, 1) := by decide +kernel
theorem dX7_greatestDivisor_20 : decode cX7_greatestDivisor 20 = .ok (.ireturn, 1) := by decide +kernel
theorem dX7_greatestDivisor_21 : decode cX7_greatestDivisor 21 = .ok (.iinc 2 (-1), 3) := by decide +kernel
theorem dX7_greatestDivisor_24 : decode cX7_greatestDivisor 24 = .ok (.goto (-22), 3) := by decide +kernel
theorem dX7_greatestDivisor_27 : decode cX7_greatestDivisor 27 = .ok (.iconst 1, 1) := by decide +kernel
theorem dX7_greatestDivisor_28 : decode cX7_greatestDivisor 28 = .ok (.ireturn, 1) := by decide +kernel
theorem dX7_stepsOf_0 : decode cX7_stepsOf 0 = .ok (.aload_n 0, 1) := by decide +kernel
theorem dX7_stepsOf_1 : decode cX7_stepsOf 1 = .ok (.getfield 45, 3) := by decide +kernel
theorem dX7_stepsOf_4 : decode cX7_stepsOf 4 = .ok (.aload_n 0, 1) := by decide +kernel
theorem dX7_stepsOf_5 : decode cX7_stepsOf 5 = .ok (.getfield 38, 3) := by decide +kernel
theorem dX7_stepsOf_8 : decode cX7_stepsOf 8 = .ok (.iload_n 1, 1) := by decide +kernel
theorem dX7_stepsOf_9 : decode cX7_stepsOf 9 = .ok (.invokevirtual 265, 3) := by decide +kernel
theorem dX7_stepsOf_12 : decode cX7_stepsOf 12 = .ok (.aload_n 0, 1) := by decide +kernel
theorem dX7_stepsOf_13 : decode cX7_stepsOf 13 = .ok (.getfield 45, 3) := by decide +kernel
theorem dX7_stepsOf_16 : decode cX7_stepsOf 16 = .ok (.getfield 269, 3) := by decide +kernel
theorem dX7_stepsOf_19 : decode cX7_stepsOf 19 = .ok (.ireturn, 1) := by decide +kernel
theorem dX7_clashesDrawn_0 : decode cX7_clashesDrawn 0 = .ok (.aload_n 0, 1) := by decide +kernel
theorem dX7_clashesDrawn_1 : decode cX7_clashesDrawn 1 = .ok (.getfield 19, 3) := by decide +kernel
theorem dX7_clashesDrawn_4 : decode cX7_clashesDrawn 4 = .ok (.aload_n 0, 1) := by decide +kernel
theorem dX7_clashesDrawn_5 : decode cX7_clashesDrawn 5 = .ok (.getfield 12, 3) := by decide +kernel
theorem dX7_clashesDrawn_8 : decode cX7_clashesDrawn 8 = .ok (.invokevirtual 213, 3) := by decide +kernel
theorem dX7_clashesDrawn_11 : decode cX7_clashesDrawn 11 = .ok (.aload_n 0, 1) := by decide +kernel
theorem dX7_clashesDrawn_12 : decode cX7_clashesDrawn 12 = .ok (.getfield 19, 3) := by decide +kernel
theorem dX7_clashesDrawn_15 : decode cX7_clashesDrawn 15 = .ok (.getfield 244, 3) := by decide +kernel
theorem dX7_clashesDrawn_18 : decode cX7_clashesDrawn 18 = .ok (.iconst 1, 1) := by decide +kernel
theorem dX7_clashesDrawn_19 : decode cX7_clashesDrawn 19 = .ok (.invokestatic 270, 3) := by decide +kernel
theorem dX7_clashesDrawn_22 : decode cX7_clashesDrawn 22 = .ok (.istore_n 3, 1) := by decide +kernel
theorem dX7_clashesDrawn_23 : decode cX7_clashesDrawn 23 = .ok (.iload_n 1, 1) := by decide +kernel
theorem dX7_clashesDrawn_24 : decode cX7_clashesDrawn 24 = .ok (.istore 4, 2) := by decide +kernel
theorem dX7_clashesDrawn_26 : decode cX7_clashesDrawn 26 = .ok (.iconst 0, 1) := by decide +kernel
theorem dX7_clashesDrawn_27 : decode cX7_clashesDrawn 27 = .ok (.istore 5, 2) := by decide +kernel
theorem dX7_clashesDrawn_29 : decode cX7_clashesDrawn 29 = .ok (.iload 5, 2) := by decide +kernel
theorem dX7_clashesDrawn_31 : decode cX7_clashesDrawn 31 = .ok (.iload_n 2, 1) := by decide +kernel
theorem dX7_clashesDrawn_32 : decode cX7_clashesDrawn 32 = .ok (.if_icmp .ge 132, 3) := by decide +kernel
theorem dX7_clashesDrawn_35 : decode cX7_clashesDrawn 35 = .ok (.iload 4, 2) := by decide +kernel
theorem dX7_clashesDrawn_37 : decode cX7_clashesDrawn 37 = .ok (.invokestatic 275, 3) := by decide +kernel
theorem dX7_clashesDrawn_40 : decode cX7_clashesDrawn 40 = .ok (.istore 4, 2) := by decide +kernel
theorem dX7_clashesDrawn_42 : decode cX7_clashesDrawn 42 = .ok (.iload 4, 2) := by decide +kernel
theorem dX7_clashesDrawn_44 : decode cX7_clashesDrawn 44 = .ok (.bipush 9, 2) := by decide +kernel
theorem dX7_clashesDrawn_46 : decode cX7_clashesDrawn 46 = .ok (.iushr, 1) := by decide +kernel
theorem dX7_clashesDrawn_47 : decode cX7_clashesDrawn 47 = .ok (.iconst 2, 1) := by decide +kernel
theorem dX7_clashesDrawn_48 : decode cX7_clashesDrawn 48 = .ok (.irem, 1) := by decide +kernel
theorem dX7_clashesDrawn_49 : decode cX7_clashesDrawn 49 = .ok (.istore 6, 2) := by decide +kernel
theorem dX7_clashesDrawn_51 : decode cX7_clashesDrawn 51 = .ok (.iload 4, 2) := by decide +kernel
theorem dX7_clashesDrawn_53 : decode cX7_clashesDrawn 53 = .ok (.invokestatic 275, 3) := by decide +kernel
theorem dX7_clashesDrawn_56 : decode cX7_clashesDrawn 56 = .ok (.istore 4, 2) := by decide +kernel
theorem dX7_clashesDrawn_58 : decode cX7_clashesDrawn 58 = .ok (.iload 4, 2) := by decide +kernel
theorem dX7_clashesDrawn_60 : decode cX7_clashesDrawn 60 = .ok (.bipush 9, 2) := by decide +kernel
theorem dX7_clashesDrawn_62 : decode cX7_clashesDrawn 62 = .ok (.iushr, 1) := by decide +kernel
theorem dX7_clashesDrawn_63 : decode cX7_clashesDrawn 63 = .ok (.iload_n 3, 1) := by decide +kernel
theorem dX7_clashesDrawn_64 : decode cX7_clashesDrawn 64 = .ok (.irem, 1) := by decide +kernel
theorem dX7_clashesDrawn_65 : decode cX7_clashesDrawn 65 = .ok (.istore 7, 2) := by decide +kernel
theorem dX7_clashesDrawn_67 : decode cX7_clashesDrawn 67 = .ok (.iload 4, 2) := by decide +kernel
theorem dX7_clashesDrawn_69 : decode cX7_clashesDrawn 69 = .ok (.invokestatic 275, 3) := by decide +kernel
theorem dX7_clashesDrawn_72 : decode cX7_clashesDrawn 72 = .ok (.istore 4, 2) := by decide +kernel
theorem dX7_clashesDrawn_74 : decode cX7_clashesDrawn 74 = .ok (.iload 4, 2) := by decide +kernel
theorem dX7_clashesDrawn_76 : decode cX7_clashesDrawn 76 = .ok (.bipush 9, 2) := by decide +kernel
theorem dX7_clashesDrawn_78 : decode cX7_clashesDrawn 78 = .ok (.iushr, 1) := by decide +kernel
theorem dX7_clashesDrawn_79 : decode cX7_clashesDrawn 79 = .ok (.iconst 3, 1) := by decide +kernel
theorem dX7_clashesDrawn_80 : decode cX7_clashesDrawn 80 = .ok (.irem, 1) := by decide +kernel
theorem dX7_clashesDrawn_81 : decode cX7_clashesDrawn 81 = .ok (.istore 8, 2) := by decide +kernel
theorem dX7_clashesDrawn_83 : decode cX7_clashesDrawn 83 = .ok (.iload 4, 2) := by decide +kernel
theorem dX7_clashesDrawn_85 : decode cX7_clashesDrawn 85 = .ok (.invokestatic 275, 3) := by decide +kernel
theorem dX7_clashesDrawn_88 : decode cX7_clashesDrawn 88 = .ok (.istore 4, 2) := by decide +kernel
theorem dX7_clashesDrawn_90 : decode cX7_clashesDrawn 90 = .ok (.iload 4, 2) := by decide +kernel
theorem dX7_clashesDrawn_92 : decode cX7_clashesDrawn 92 = .ok (.bipush 9, 2) := by decide +kernel
theorem dX7_clashesDrawn_94 : decode cX7_clashesDrawn 94 = .ok (.iushr, 1) := by decide +kernel
theorem dX7_clashesDrawn_95 : decode cX7_clashesDrawn 95 = .ok (.bipush 50, 2) := by decide +kernel
theorem dX7_clashesDrawn_97 : decode cX7_clashesDrawn 97 = .ok (.irem, 1) := by decide +kernel
theorem dX7_clashesDrawn_98 : decode cX7_clashesDrawn 98 = .ok (.istore 9, 2) := by decide +kernel
theorem dX7_clashesDrawn_100 : decode cX7_clashesDrawn 100 = .ok (.iload 8, 2) := by decide +kernel
theorem dX7_clashesDrawn_102 : decode cX7_clashesDrawn 102 = .ok (.ifCond .ne 20, 3) := by decide +kernel
theorem dX7_clashesDrawn_105 : decode cX7_clashesDrawn 105 = .ok (.aload_n 0, 1) := by decide +kernel
theorem dX7_clashesDrawn_106 : decode cX7_clashesDrawn 106 = .ok (.getfield 19, 3) := by decide +kernel
theorem dX7_clashesDrawn_109 : decode cX7_clashesDrawn 109 = .ok (.iload 6, 2) := by decide +kernel
theorem dX7_clashesDrawn_111 : decode cX7_clashesDrawn 111 = .ok (.iload 7, 2) := by decide +kernel
theorem dX7_clashesDrawn_113 : decode cX7_clashesDrawn 113 = .ok (.iload 9, 2) := by decide +kernel
theorem dX7_clashesDrawn_115 : decode cX7_clashesDrawn 115 = .ok (.invokevirtual 60, 3) := by decide +kernel
theorem dX7_clashesDrawn_118 : decode cX7_clashesDrawn 118 = .ok (.pop, 1) := by decide +kernel
theorem dX7_clashesDrawn_119 : decode cX7_clashesDrawn 119 = .ok (.goto 39, 3) := by decide +kernel
theorem dX7_clashesDrawn_122 : decode cX7_clashesDrawn 122 = .ok (.iload 8, 2) := by decide +kernel
theorem dX7_clashesDrawn_124 : decode cX7_clashesDrawn 124 = .ok (.iconst 1, 1) := by decide +kernel
theorem dX7_clashesDrawn_125 : decode cX7_clashesDrawn 125 = .ok (.if_icmp .ne 21, 3) := by decide +kernel
theorem dX7_clashesDrawn_128 : decode cX7_clashesDrawn 128 = .ok (.aload_n 0, 1) := by decide +kernel
theorem dX7_clashesDrawn_129 : decode cX7_clashesDrawn 129 = .ok (.getfield 19, 3) := by decide +kernel
theorem dX7_clashesDrawn_132 : decode cX7_clashesDrawn 132 = .ok (.iload 6, 2) := by decide +kernel
theorem dX7_clashesDrawn_134 : decode cX7_clashesDrawn 134 = .ok (.iload 7, 2) := by decide +kernel
theorem dX7_clashesDrawn_136 : decode cX7_clashesDrawn 136 = .ok (.iconst (-1), 1) := by decide +kernel
theorem dX7_clashesDrawn_137 : decode cX7_clashesDrawn 137 = .ok (.iload 9, 2) := by decide +kernel
theorem dX7_clashesDrawn_139 : decode cX7_clashesDrawn 139 = .ok (.invokevirtual 64, 3) := by decide +kernel
theorem dX7_clashesDrawn_142 : decode cX7_clashesDrawn 142 = .ok (.pop, 1) := by decide +kernel
theorem dX7_clashesDrawn_143 : decode cX7_clashesDrawn 143 = .ok (.goto 15, 3) := by decide +kernel
theorem dX7_clashesDrawn_146 : decode cX7_clashesDrawn 146 = .ok (.aload_n 0, 1) := by decide +kernel
theorem dX7_clashesDrawn_147 : decode cX7_clashesDrawn 147 = .ok (.getfield 19, 3) := by decide +kernel
theorem dX7_clashesDrawn_150 : decode cX7_clashesDrawn 150 = .ok (.iload 6, 2) := by decide +kernel
theorem dX7_clashesDrawn_152 : decode cX7_clashesDrawn 152 = .ok (.iload 7, 2) := by decide +kernel
theorem dX7_clashesDrawn_154 : decode cX7_clashesDrawn 154 = .ok (.invokevirtual 67, 3) := by decide +kernel
theorem dX7_clashesDrawn_157 : decode cX7_clashesDrawn 157 = .ok (.pop, 1) := by decide +kernel
theorem dX7_clashesDrawn_158 : decode cX7_clashesDrawn 158 = .ok (.iinc 5 1, 3) := by decide +kernel
theorem dX7_clashesDrawn_161 : decode cX7_clashesDrawn 161 = .ok (.goto (-132), 3) := by decide +kernel
theorem dX7_clashesDrawn_164 : decode cX7_clashesDrawn 164 = .ok (.aload_n 0, 1) := by decide +kernel
theorem dX7_clashesDrawn_165 : decode cX7_clashesDrawn 165 = .ok (.getfield 38, 3) := by decide +kernel
theorem dX7_clashesDrawn_168 : decode cX7_clashesDrawn 168 = .ok (.aload_n 0, 1) := by decide +kernel
theorem dX7_clashesDrawn_169 : decode cX7_clashesDrawn 169 = .ok (.getfield 19, 3) := by decide +kernel
theorem dX7_clashesDrawn_172 : decode cX7_clashesDrawn 172 = .ok (.aload_n 0, 1) := by decide +kernel
theorem dX7_clashesDrawn_173 : decode cX7_clashesDrawn 173 = .ok (.getfield 19, 3) := by decide +kernel
theorem dX7_clashesDrawn_176 : decode cX7_clashesDrawn 176 = .ok (.getfield 179, 3) := by decide +kernel
theorem dX7_clashesDrawn_179 : decode cX7_clashesDrawn 179 = .ok (.invokevirtual 182, 3) := by decide +kernel
theorem dX7_clashesDrawn_182 : decode cX7_clashesDrawn 182 = .ok (.aload_n 0, 1) := by decide +kernel
theorem dX7_clashesDrawn_183 : decode cX7_clashesDrawn 183 = .ok (.getfield 38, 3) := by decide +kernel
theorem dX7_clashesDrawn_186 : decode cX7_clashesDrawn 186 = .ok (.getfield 196, 3) := by decide +kernel
theorem dX7_clashesDrawn_189 : decode cX7_clashesDrawn 189 = .ok (.ireturn, 1) := by decide +kernel
theorem dX7_nextSeed_0 : decode cX7_nextSeed 0 = .ok (.iload_n 0, 1) := by decide +kernel
theorem dX7_nextSeed_1 : decode cX7_nextSeed 1 = .ok (.ldc_w 278, 3) := by decide +kernel
theorem dX7_nextSeed_4 : decode cX7_nextSeed 4 = .ok (.imul, 1) := by decide +kernel
theorem dX7_nextSeed_5 : decode cX7_nextSeed 5 = .ok (.sipush 12345, 3) := by decide +kernel
theorem dX7_nextSeed_8 : decode cX7_nextSeed 8 = .ok (.iadd, 1) := by decide +kernel
theorem dX7_nextSeed_9 : decode cX7_nextSeed 9 = .ok (.ireturn, 1) := by decide +kernel
theorem dX7_whereJustSo_0 : decode cX7_whereJustSo 0 = .ok (.iconst 0, 1) := by decide +kernel
theorem dX7_whereJustSo_1 : decode cX7_whereJustSo 1 = .ok (.istore_n 2, 1) := by decide +kernel
theorem dX7_whereJustSo_2 : decode cX7_whereJustSo 2 = .ok (.iconst 0, 1) := by decide +kernel
theorem dX7_whereJustSo_3 : decode cX7_whereJustSo 3 = .ok (.istore_n 3, 1) := by decide +kernel
theorem dX7_whereJustSo_4 : decode cX7_whereJustSo 4 = .ok (.iload_n 3, 1) := by decide +kernel
theorem dX7_whereJustSo_5 : decode cX7_whereJustSo 5 = .ok (.iconst 3, 1) := by decide +kernel
theorem dX7_whereJustSo_6 : decode cX7_whereJustSo 6 = .ok (.if_icmp .ge 32, 3) := by decide +kernel
theorem dX7_whereJustSo_9 : decode cX7_whereJustSo 9 = .ok (.aload_n 1, 1) := by decide +kernel
theorem dX7_whereJustSo_10 : decode cX7_whereJustSo 10 = .ok (.aload_n 0, 1) := by decide +kernel
theorem dX7_whereJustSo_11 : decode cX7_whereJustSo 11 = .ok (.getfield 12, 3) := by decide +kernel
theorem dX7_whereJustSo_14 : decode cX7_whereJustSo 14 = .ok (.getfield 78, 3) := by decide +kernel
theorem dX7_whereJustSo_17 : decode cX7_whereJustSo 17 = .ok (.iload_n 3, 1) := by decide +kernel
theorem dX7_whereJustSo_18 : decode cX7_whereJustSo 18 = .ok (.aaload, 1) := by decide +kernel
theorem dX7_whereJustSo_19 : decode cX7_whereJustSo 19 = .ok (.invokevirtual 229, 3) := by decide +kernel
theorem dX7_whereJustSo_22 : decode cX7_whereJustSo 22 = .ok (.iconst (-1), 1) := by decide +kernel
theorem dX7_whereJustSo_23 : decode cX7_whereJustSo 23 = .ok (.if_icmp .ne 9, 3) := by decide +kernel
theorem dX7_whereJustSo_26 : decode cX7_whereJustSo 26 = .ok (.iload_n 2, 1) := by decide +kernel
theorem dX7_whereJustSo_27 : decode cX7_whereJustSo 27 = .ok (.iconst 1, 1) := by decide +kernel
theorem dX7_whereJustSo_28 : decode cX7_whereJustSo 28 = .ok (.iload_n 3, 1) := by decide +kernel
theorem dX7_whereJustSo_29 : decode cX7_whereJustSo 29 = .ok (.ishl, 1) := by decide +kernel
theorem dX7_whereJustSo_30 : decode cX7_whereJustSo 30 = .ok (.ior, 1) := by decide +kernel
theorem dX7_whereJustSo_31 : decode cX7_whereJustSo 31 = .ok (.istore_n 2, 1) := by decide +kernel
theorem dX7_whereJustSo_32 : decode cX7_whereJustSo 32 = .ok (.iinc 3 1, 3) := by decide +kernel
theorem dX7_whereJustSo_35 : decode cX7_whereJustSo 35 = .ok (.goto (-31), 3) := by decide +kernel
theorem dX7_whereJustSo_38 : decode cX7_whereJustSo 38 = .ok (.iconst 0, 1) := by decide +kernel
theorem dX7_whereJustSo_39 : decode cX7_whereJustSo 39 = .ok (.istore_n 3, 1) := by decide +kernel
theorem dX7_whereJustSo_40 : decode cX7_whereJustSo 40 = .ok (.iload_n 3, 1) := by decide +kernel
theorem dX7_whereJustSo_41 : decode cX7_whereJustSo 41 = .ok (.iconst 2, 1) := by decide +kernel
theorem dX7_whereJustSo_42 : decode cX7_whereJustSo 42 = .ok (.if_icmp .ge 44, 3) := by decide +kernel
theorem dX7_whereJustSo_45 : decode cX7_whereJustSo 45 = .ok (.aload_n 0, 1) := by decide +kernel
theorem dX7_whereJustSo_46 : decode cX7_whereJustSo 46 = .ok (.getfield 38, 3) := by decide +kernel
theorem dX7_whereJustSo_49 : decode cX7_whereJustSo 49 = .ok (.aload_n 0, 1) := by decide +kernel
theorem dX7_whereJustSo_50 : decode cX7_whereJustSo 50 = .ok (.getfield 12, 3) := by decide +kernel
theorem dX7_whereJustSo_53 : decode cX7_whereJustSo 53 = .ok (.iload_n 3, 1) := by decide +kernel
theorem dX7_whereJustSo_54 : decode cX7_whereJustSo 54 = .ok (.invokevirtual 182, 3) := by decide +kernel
theorem dX7_whereJustSo_57 : decode cX7_whereJustSo 57 = .ok (.aload_n 1, 1) := by decide +kernel
theorem dX7_whereJustSo_58 : decode cX7_whereJustSo 58 = .ok (.aload_n 0, 1) := by decide +kernel
theorem dX7_whereJustSo_59 : decode cX7_whereJustSo 59 = .ok (.getfield 38, 3) := by decide +kernel
theorem dX7_whereJustSo_62 : decode cX7_whereJustSo 62 = .ok (.getfield 192, 3) := by decide +kernel
theorem dX7_whereJustSo_65 : decode cX7_whereJustSo 65 = .ok (.invokevirtual 229, 3) := by decide +kernel
theorem dX7_whereJustSo_68 : decode cX7_whereJustSo 68 = .ok (.iconst (-1), 1) := by decide +kernel
theorem dX7_whereJustSo_69 : decode cX7_whereJustSo 69 = .ok (.if_icmp .ne 11, 3) := by decide +kernel
theorem dX7_whereJustSo_72 : decode cX7_whereJustSo 72 = .ok (.iload_n 2, 1) := by decide +kernel
theorem dX7_whereJustSo_73 : decode cX7_whereJustSo 73 = .ok (.iconst 1, 1) := by decide +kernel
theorem dX7_whereJustSo_74 : decode cX7_whereJustSo 74 = .ok (.iconst 3, 1) := by decide +kernel
theorem dX7_whereJustSo_75 : decode cX7_whereJustSo 75 = .ok (.iload_n 3, 1) := by decide +kernel
theorem dX7_whereJustSo_76 : decode cX7_whereJustSo 76 = .ok (.iadd, 1) := by decide +kernel
theorem dX7_whereJustSo_77 : decode cX7_whereJustSo 77 = .ok (.ishl, 1) := by decide +kernel
theorem dX7_whereJustSo_78 : decode cX7_whereJustSo 78 = .ok (.ior, 1) := by decide +kernel
theorem dX7_whereJustSo_79 : decode cX7_whereJustSo 79 = .ok (.istore_n 2, 1) := by decide +kernel
theorem dX7_whereJustSo_80 : decode cX7_whereJustSo 80 = .ok (.iinc 3 1, 3) := by decide +kernel
theorem dX7_whereJustSo_83 : decode cX7_whereJustSo 83 = .ok (.goto (-43), 3) := by decide +kernel
theorem dX7_whereJustSo_86 : decode cX7_whereJustSo 86 = .ok (.iload_n 2, 1) := by decide +kernel
theorem dX7_whereJustSo_87 : decode cX7_whereJustSo 87 = .ok (.ireturn, 1) := by decide +kernel
