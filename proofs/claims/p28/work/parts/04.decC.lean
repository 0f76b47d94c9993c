theorem dX0_init_0 : decode cX0_init 0 = .ok (.aload_n 0, 1) := by decide +kernel
theorem dX0_init_1 : decode cX0_init 1 = .ok (.invokespecial 3, 3) := by decide +kernel
theorem dX0_init_4 : decode cX0_init 4 = .ok (.aload_n 0, 1) := by decide +kernel
theorem dX0_init_5 : decode cX0_init 5 = .ok (.iconst 3, 1) := by decide +kernel
theorem dX0_init_6 : decode cX0_init 6 = .ok (.anewarray 9, 3) := by decide +kernel
theorem dX0_init_9 : decode cX0_init 9 = .ok (.putfield 11, 3) := by decide +kernel
theorem dX0_init_12 : decode cX0_init 12 = .ok (.aload_n 0, 1) := by decide +kernel
theorem dX0_init_13 : decode cX0_init 13 = .ok (.new 17, 3) := by decide +kernel
theorem dX0_init_16 : decode cX0_init 16 = .ok (.dup, 1) := by decide +kernel
theorem dX0_init_17 : decode cX0_init 17 = .ok (.iconst 3, 1) := by decide +kernel
theorem dX0_init_18 : decode cX0_init 18 = .ok (.invokespecial 19, 3) := by decide +kernel
theorem dX0_init_21 : decode cX0_init 21 = .ok (.putfield 22, 3) := by decide +kernel
theorem dX0_init_24 : decode cX0_init 24 = .ok (.aload_n 0, 1) := by decide +kernel
theorem dX0_init_25 : decode cX0_init 25 = .ok (.new 17, 3) := by decide +kernel
theorem dX0_init_28 : decode cX0_init 28 = .ok (.dup, 1) := by decide +kernel
theorem dX0_init_29 : decode cX0_init 29 = .ok (.iconst 5, 1) := by decide +kernel
theorem dX0_init_30 : decode cX0_init 30 = .ok (.invokespecial 19, 3) := by decide +kernel
theorem dX0_init_33 : decode cX0_init 33 = .ok (.putfield 26, 3) := by decide +kernel
theorem dX0_init_36 : decode cX0_init 36 = .ok (.aload_n 0, 1) := by decide +kernel
theorem dX0_init_37 : decode cX0_init 37 = .ok (.new 29, 3) := by decide +kernel
theorem dX0_init_40 : decode cX0_init 40 = .ok (.dup, 1) := by decide +kernel
theorem dX0_init_41 : decode cX0_init 41 = .ok (.invokespecial 31, 3) := by decide +kernel
theorem dX0_init_44 : decode cX0_init 44 = .ok (.putfield 32, 3) := by decide +kernel
theorem dX0_init_47 : decode cX0_init 47 = .ok (.aload_n 0, 1) := by decide +kernel
theorem dX0_init_48 : decode cX0_init 48 = .ok (.new 36, 3) := by decide +kernel
theorem dX0_init_51 : decode cX0_init 51 = .ok (.dup, 1) := by decide +kernel
theorem dX0_init_52 : decode cX0_init 52 = .ok (.invokespecial 38, 3) := by decide +kernel
theorem dX0_init_55 : decode cX0_init 55 = .ok (.putfield 39, 3) := by decide +kernel
theorem dX0_init_58 : decode cX0_init 58 = .ok (.iconst 0, 1) := by decide +kernel
theorem dX0_init_59 : decode cX0_init 59 = .ok (.istore_n 1, 1) := by decide +kernel
theorem dX0_init_60 : decode cX0_init 60 = .ok (.iload_n 1, 1) := by decide +kernel
theorem dX0_init_61 : decode cX0_init 61 = .ok (.iconst 3, 1) := by decide +kernel
theorem dX0_init_62 : decode cX0_init 62 = .ok (.if_icmp .ge 22, 3) := by decide +kernel
theorem dX0_init_65 : decode cX0_init 65 = .ok (.aload_n 0, 1) := by decide +kernel
theorem dX0_init_66 : decode cX0_init 66 = .ok (.getfield 11, 3) := by decide +kernel
theorem dX0_init_69 : decode cX0_init 69 = .ok (.iload_n 1, 1) := by decide +kernel
theorem dX0_init_70 : decode cX0_init 70 = .ok (.new 9, 3) := by decide +kernel
theorem dX0_init_73 : decode cX0_init 73 = .ok (.dup, 1) := by decide +kernel
theorem dX0_init_74 : decode cX0_init 74 = .ok (.invokespecial 43, 3) := by decide +kernel
theorem dX0_init_77 : decode cX0_init 77 = .ok (.aastore, 1) := by decide +kernel
theorem dX0_init_78 : decode cX0_init 78 = .ok (.iinc 1 1, 3) := by decide +kernel
theorem dX0_init_81 : decode cX0_init 81 = .ok (.goto (-21), 3) := by decide +kernel
theorem dX0_init_84 : decode cX0_init 84 = .ok (.return_, 1) := by decide +kernel
theorem dX0_beginAnew_0 : decode cX0_beginAnew 0 = .ok (.aload_n 0, 1) := by decide +kernel
theorem dX0_beginAnew_1 : decode cX0_beginAnew 1 = .ok (.getfield 26, 3) := by decide +kernel
theorem dX0_beginAnew_4 : decode cX0_beginAnew 4 = .ok (.iconst 0, 1) := by decide +kernel
theorem dX0_beginAnew_5 : decode cX0_beginAnew 5 = .ok (.invokevirtual 44, 3) := by decide +kernel
theorem dX0_beginAnew_8 : decode cX0_beginAnew 8 = .ok (.aload_n 0, 1) := by decide +kernel
theorem dX0_beginAnew_9 : decode cX0_beginAnew 9 = .ok (.getfield 32, 3) := by decide +kernel
theorem dX0_beginAnew_12 : decode cX0_beginAnew 12 = .ok (.invokevirtual 47, 3) := by decide +kernel
theorem dX0_beginAnew_15 : decode cX0_beginAnew 15 = .ok (.return_, 1) := by decide +kernel
theorem dX0_eventCount_0 : decode cX0_eventCount 0 = .ok (.iconst 0, 1) := by decide +kernel
theorem dX0_eventCount_1 : decode cX0_eventCount 1 = .ok (.istore_n 1, 1) := by decide +kernel
theorem dX0_eventCount_2 : decode cX0_eventCount 2 = .ok (.iconst 0, 1) := by decide +kernel
theorem dX0_eventCount_3 : decode cX0_eventCount 3 = .ok (.istore_n 2, 1) := by decide +kernel
theorem dX0_eventCount_4 : decode cX0_eventCount 4 = .ok (.iload_n 2, 1) := by decide +kernel
theorem dX0_eventCount_5 : decode cX0_eventCount 5 = .ok (.iconst 3, 1) := by decide +kernel
theorem dX0_eventCount_6 : decode cX0_eventCount 6 = .ok (.if_icmp .ge 24, 3) := by decide +kernel
theorem dX0_eventCount_9 : decode cX0_eventCount 9 = .ok (.iload_n 1, 1) := by decide +kernel
theorem dX0_eventCount_10 : decode cX0_eventCount 10 = .ok (.aload_n 0, 1) := by decide +kernel
theorem dX0_eventCount_11 : decode cX0_eventCount 11 = .ok (.getfield 11, 3) := by decide +kernel
theorem dX0_eventCount_14 : decode cX0_eventCount 14 = .ok (.iload_n 2, 1) := by decide +kernel
theorem dX0_eventCount_15 : decode cX0_eventCount 15 = .ok (.aaload, 1) := by decide +kernel
theorem dX0_eventCount_16 : decode cX0_eventCount 16 = .ok (.getfield 50, 3) := by decide +kernel
theorem dX0_eventCount_19 : decode cX0_eventCount 19 = .ok (.getfield 53, 3) := by decide +kernel
theorem dX0_eventCount_22 : decode cX0_eventCount 22 = .ok (.iadd, 1) := by decide +kernel
theorem dX0_eventCount_23 : decode cX0_eventCount 23 = .ok (.istore_n 1, 1) := by decide +kernel
theorem dX0_eventCount_24 : decode cX0_eventCount 24 = .ok (.iinc 2 1, 3) := by decide +kernel
theorem dX0_eventCount_27 : decode cX0_eventCount 27 = .ok (.goto (-23), 3) := by decide +kernel
theorem dX0_eventCount_30 : decode cX0_eventCount 30 = .ok (.iload_n 1, 1) := by decide +kernel
theorem dX0_eventCount_31 : decode cX0_eventCount 31 = .ok (.ireturn, 1) := by decide +kernel
theorem dX0_horizon_0 : decode cX0_horizon 0 = .ok (.aload_n 0, 1) := by decide +kernel
theorem dX0_horizon_1 : decode cX0_horizon 1 = .ok (.getfield 32, 3) := by decide +kernel
theorem dX0_horizon_4 : decode cX0_horizon 4 = .ok (.getfield 57, 3) := by decide +kernel
theorem dX0_horizon_7 : decode cX0_horizon 7 = .ok (.aload_n 0, 1) := by decide +kernel
theorem dX0_horizon_8 : decode cX0_horizon 8 = .ok (.getfield 39, 3) := by decide +kernel
theorem dX0_horizon_11 : decode cX0_horizon 11 = .ok (.getfield 60, 3) := by decide +kernel
theorem dX0_horizon_14 : decode cX0_horizon 14 = .ok (.isub, 1) := by decide +kernel
theorem dX0_horizon_15 : decode cX0_horizon 15 = .ok (.ireturn, 1) := by decide +kernel
theorem dX0_readNext_0 : decode cX0_readNext 0 = .ok (.aload_n 0, 1) := by decide +kernel
theorem dX0_readNext_1 : decode cX0_readNext 1 = .ok (.getfield 11, 3) := by decide +kernel
theorem dX0_readNext_4 : decode cX0_readNext 4 = .ok (.iload_n 1, 1) := by decide +kernel
theorem dX0_readNext_5 : decode cX0_readNext 5 = .ok (.aaload, 1) := by decide +kernel
theorem dX0_readNext_6 : decode cX0_readNext 6 = .ok (.getfield 50, 3) := by decide +kernel
theorem dX0_readNext_9 : decode cX0_readNext 9 = .ok (.astore_n 2, 1) := by decide +kernel
theorem dX0_readNext_10 : decode cX0_readNext 10 = .ok (.aload_n 0, 1) := by decide +kernel
theorem dX0_readNext_11 : decode cX0_readNext 11 = .ok (.getfield 32, 3) := by decide +kernel
theorem dX0_readNext_14 : decode cX0_readNext 14 = .ok (.getfield 63, 3) := by decide +kernel
theorem dX0_readNext_17 : decode cX0_readNext 17 = .ok (.iload_n 1, 1) := by decide +kernel
theorem dX0_readNext_18 : decode cX0_readNext 18 = .ok (.iaload, 1) := by decide +kernel
theorem dX0_readNext_19 : decode cX0_readNext 19 = .ok (.istore_n 3, 1) := by decide +kernel
theorem dX0_readNext_20 : decode cX0_readNext 20 = .ok (.aload_n 2, 1) := by decide +kernel
theorem dX0_readNext_21 : decode cX0_readNext 21 = .ok (.iload_n 3, 1) := by decide +kernel
theorem dX0_readNext_22 : decode cX0_readNext 22 = .ok (.iconst 1, 1) := by decide +kernel
theorem dX0_readNext_23 : decode cX0_readNext 23 = .ok (.invokevirtual 67, 3) := by decide +kernel
theorem dX0_readNext_26 : decode cX0_readNext 26 = .ok (.istore 4, 2) := by decide +kernel
theorem dX0_readNext_28 : decode cX0_readNext 28 = .ok (.aload_n 2, 1) := by decide +kernel
theorem dX0_readNext_29 : decode cX0_readNext 29 = .ok (.iload_n 3, 1) := by decide +kernel
theorem dX0_readNext_30 : decode cX0_readNext 30 = .ok (.iconst 2, 1) := by decide +kernel
theorem dX0_readNext_31 : decode cX0_readNext 31 = .ok (.invokevirtual 67, 3) := by decide +kernel
theorem dX0_readNext_34 : decode cX0_readNext 34 = .ok (.istore 5, 2) := by decide +kernel
theorem dX0_readNext_36 : decode cX0_readNext 36 = .ok (.aload_n 0, 1) := by decide +kernel
theorem dX0_readNext_37 : decode cX0_readNext 37 = .ok (.getfield 32, 3) := by decide +kernel
theorem dX0_readNext_40 : decode cX0_readNext 40 = .ok (.getfield 71, 3) := by decide +kernel
theorem dX0_readNext_43 : decode cX0_readNext 43 = .ok (.iload_n 1, 1) := by decide +kernel
theorem dX0_readNext_44 : decode cX0_readNext 44 = .ok (.iload_n 3, 1) := by decide +kernel
theorem dX0_readNext_45 : decode cX0_readNext 45 = .ok (.ifCond .ne 8, 3) := by decide +kernel
theorem dX0_readNext_48 : decode cX0_readNext 48 = .ok (.iload 4, 2) := by decide +kernel
theorem dX0_readNext_50 : decode cX0_readNext 50 = .ok (.goto 17, 3) := by decide +kernel
theorem dX0_readNext_53 : decode cX0_readNext 53 = .ok (.aload_n 0, 1) := by decide +kernel
theorem dX0_readNext_54 : decode cX0_readNext 54 = .ok (.getfield 32, 3) := by decide +kernel
theorem dX0_readNext_57 : decode cX0_readNext 57 = .ok (.getfield 71, 3) := by decide +kernel
theorem dX0_readNext_60 : decode cX0_readNext 60 = .ok (.iload_n 1, 1) := by decide +kernel
theorem dX0_readNext_61 : decode cX0_readNext 61 = .ok (.iaload, 1) := by decide +kernel
theorem dX0_readNext_62 : decode cX0_readNext 62 = .ok (.iload 4, 2) := by decide +kernel
theorem dX0_readNext_64 : decode cX0_readNext 64 = .ok (.invokestatic 74, 3) := by decide +kernel
theorem dX0_readNext_67 : decode cX0_readNext 67 = .ok (.iastore, 1) := by decide +kernel
theorem dX0_readNext_68 : decode cX0_readNext 68 = .ok (.aload_n 0, 1) := by decide +kernel
theorem dX0_readNext_69 : decode cX0_readNext 69 = .ok (.getfield 32, 3) := by decide +kernel
theorem dX0_readNext_72 : decode cX0_readNext 72 = .ok (.getfield 63, 3) := by decide +kernel
theorem dX0_readNext_75 : decode cX0_readNext 75 = .ok (.iload_n 1, 1) := by decide +kernel
theorem dX0_readNext_76 : decode cX0_readNext 76 = .ok (.iload_n 3, 1) := by decide +kernel
theorem dX0_readNext_77 : decode cX0_readNext 77 = .ok (.iconst 1, 1) := by decide +kernel
theorem dX0_readNext_78 : decode cX0_readNext 78 = .ok (.iadd, 1) := by decide +kernel
theorem dX0_readNext_79 : decode cX0_readNext 79 = .ok (.iastore, 1) := by decide +kernel
theorem dX0_readNext_80 : decode cX0_readNext 80 = .ok (.aload_n 0, 1) := by decide +kernel
theorem dX0_readNext_81 : decode cX0_readNext 81 = .ok (.getfield 39, 3) := by decide +kernel
theorem dX0_readNext_84 : decode cX0_readNext 84 = .ok (.iload 5, 2) := by decide +kernel
theorem dX0_readNext_86 : decode cX0_readNext 86 = .ok (.invokevirtual 79, 3) := by decide +kernel
theorem dX0_readNext_89 : decode cX0_readNext 89 = .ok (.istore 6, 2) := by decide +kernel
theorem dX0_readNext_91 : decode cX0_readNext 91 = .ok (.iconst 1, 1) := by decide +kernel
theorem dX0_readNext_92 : decode cX0_readNext 92 = .ok (.istore 7, 2) := by decide +kernel
theorem dX0_readNext_94 : decode cX0_readNext 94 = .ok (.aload_n 0, 1) := by decide +kernel
theorem dX0_readNext_95 : decode cX0_readNext 95 = .ok (.getfield 39, 3) := by decide +kernel
theorem dX0_readNext_98 : decode cX0_readNext 98 = .ok (.getfield 83, 3) := by decide +kernel
theorem dX0_readNext_101 : decode cX0_readNext 101 = .ok (.getstatic 87, 3) := by decide +kernel
theorem dX0_readNext_104 : decode cX0_readNext 104 = .ok (.if_acmp .eq 35, 3) := by decide +kernel
theorem dX0_readNext_107 : decode cX0_readNext 107 = .ok (.aload_n 0, 1) := by decide +kernel
theorem dX0_readNext_108 : decode cX0_readNext 108 = .ok (.getfield 39, 3) := by decide +kernel
theorem dX0_readNext_111 : decode cX0_readNext 111 = .ok (.getfield 92, 3) := by decide +kernel
theorem dX0_readNext_114 : decode cX0_readNext 114 = .ok (.ifCond .eq 21, 3) := by decide +kernel
theorem dX0_readNext_117 : decode cX0_readNext 117 = .ok (.iload 5, 2) := by decide +kernel
theorem dX0_readNext_119 : decode cX0_readNext 119 = .ok (.aload_n 0, 1) := by decide +kernel
theorem dX0_readNext_120 : decode cX0_readNext 120 = .ok (.aload_n 2, 1) := by decide +kernel
theorem dX0_readNext_121 : decode cX0_readNext 121 = .ok (.iload_n 3, 1) := by decide +kernel
theorem dX0_readNext_122 : decode cX0_readNext 122 = .ok (.iconst 0, 1) := by decide +kernel
theorem dX0_readNext_123 : decode cX0_readNext 123 = .ok (.invokevirtual 67, 3) := by decide +kernel
theorem dX0_readNext_126 : decode cX0_readNext 126 = .ok (.iload 4, 2) := by decide +kernel
theorem dX0_readNext_128 : decode cX0_readNext 128 = .ok (.invokevirtual 96, 3) := by decide +kernel
theorem dX0_readNext_131 : decode cX0_readNext 131 = .ok (.iadd, 1) := by decide +kernel
theorem dX0_readNext_132 : decode cX0_readNext 132 = .ok (.goto 5, 3) := by decide +kernel
theorem dX0_readNext_135 : decode cX0_readNext 135 = .ok (.iload 5, 2) := by decide +kernel
theorem dX0_readNext_137 : decode cX0_readNext 137 = .ok (.istore 7, 2) := by decide +kernel
theorem dX0_readNext_139 : decode cX0_readNext 139 = .ok (.aload_n 2, 1) := by decide +kernel
theorem dX0_readNext_140 : decode cX0_readNext 140 = .ok (.iload_n 3, 1) := by decide +kernel
theorem dX0_readNext_141 : decode cX0_readNext 141 = .ok (.iconst 3, 1) := by decide +kernel
theorem dX0_readNext_142 : decode cX0_readNext 142 = .ok (.iload 6, 2) := by decide +kernel
theorem dX0_readNext_144 : decode cX0_readNext 144 = .ok (.ifCond .eq 7, 3) := by decide +kernel
theorem dX0_readNext_147 : decode cX0_readNext 147 = .ok (.iconst 1, 1) := by decide +kernel
theorem dX0_readNext_148 : decode cX0_readNext 148 = .ok (.goto 4, 3) := by decide +kernel
theorem dX0_readNext_151 : decode cX0_readNext 151 = .ok (.iconst 0, 1) := by decide +kernel
theorem dX0_readNext_152 : decode cX0_readNext 152 = .ok (.invokevirtual 99, 3) := by decide +kernel
theorem dX0_readNext_155 : decode cX0_readNext 155 = .ok (.aload_n 2, 1) := by decide +kernel
theorem dX0_readNext_156 : decode cX0_readNext 156 = .ok (.iload_n 3, 1) := by decide +kernel
theorem dX0_readNext_157 : decode cX0_readNext 157 = .ok (.iconst 4, 1) := by decide +kernel
theorem dX0_readNext_158 : decode cX0_readNext 158 = .ok (.iload 7, 2) := by decide +kernel
theorem dX0_readNext_160 : decode cX0_readNext 160 = .ok (.invokevirtual 99, 3) := by decide +kernel
theorem dX0_readNext_163 : decode cX0_readNext 163 = .ok (.aload_n 2, 1) := by decide +kernel
theorem dX0_readNext_164 : decode cX0_readNext 164 = .ok (.iload_n 3, 1) := by decide +kernel
theorem dX0_readNext_165 : decode cX0_readNext 165 = .ok (.iconst 5, 1) := by decide +kernel
theorem dX0_readNext_166 : decode cX0_readNext 166 = .ok (.aload_n 0, 1) := by decide +kernel
theorem dX0_readNext_167 : decode cX0_readNext 167 = .ok (.invokevirtual 103, 3) := by decide +kernel
theorem dX0_readNext_170 : decode cX0_readNext 170 = .ok (.invokevirtual 99, 3) := by decide +kernel
theorem dX0_readNext_173 : decode cX0_readNext 173 = .ok (.iload 6, 2) := by decide +kernel
theorem dX0_readNext_175 : decode cX0_readNext 175 = .ok (.ireturn, 1) := by decide +kernel
theorem dX0_joinedValue_0 : decode cX0_joinedValue 0 = .ok (.iconst 0, 1) := by decide +kernel
theorem dX0_joinedValue_1 : decode cX0_joinedValue 1 = .ok (.istore_n 3, 1) := by decide +kernel
theorem dX0_joinedValue_2 : decode cX0_joinedValue 2 = .ok (.iconst (-1), 1) := by decide +kernel
theorem dX0_joinedValue_3 : decode cX0_joinedValue 3 = .ok (.istore 4, 2) := by decide +kernel
theorem dX0_joinedValue_5 : decode cX0_joinedValue 5 = .ok (.iconst 0, 1) := by decide +kernel
theorem dX0_joinedValue_6 : decode cX0_joinedValue 6 = .ok (.istore 5, 2) := by decide +kernel
theorem dX0_joinedValue_8 : decode cX0_joinedValue 8 = .ok (.iload 5, 2) := by decide +kernel
theorem dX0_joinedValue_10 : decode cX0_joinedValue 10 = .ok (.aload_n 0, 1) := by decide +kernel
theorem dX0_joinedValue_11 : decode cX0_joinedValue 11 = .ok (.getfield 22, 3) := by decide +kernel
theorem dX0_joinedValue_14 : decode cX0_joinedValue 14 = .ok (.getfield 53, 3) := by decide +kernel
theorem dX0_joinedValue_17 : decode cX0_joinedValue 17 = .ok (.if_icmp .ge 63, 3) := by decide +kernel
theorem dX0_joinedValue_20 : decode cX0_joinedValue 20 = .ok (.aload_n 0, 1) := by decide +kernel
theorem dX0_joinedValue_21 : decode cX0_joinedValue 21 = .ok (.getfield 22, 3) := by decide +kernel
theorem dX0_joinedValue_24 : decode cX0_joinedValue 24 = .ok (.iload 5, 2) := by decide +kernel
theorem dX0_joinedValue_26 : decode cX0_joinedValue 26 = .ok (.iconst 1, 1) := by decide +kernel
theorem dX0_joinedValue_27 : decode cX0_joinedValue 27 = .ok (.invokevirtual 67, 3) := by decide +kernel
theorem dX0_joinedValue_30 : decode cX0_joinedValue 30 = .ok (.istore 6, 2) := by decide +kernel
theorem dX0_joinedValue_32 : decode cX0_joinedValue 32 = .ok (.aload_n 0, 1) := by decide +kernel
theorem dX0_joinedValue_33 : decode cX0_joinedValue 33 = .ok (.getfield 22, 3) := by decide +kernel
theorem dX0_joinedValue_36 : decode cX0_joinedValue 36 = .ok (.iload 5, 2) := by decide +kernel
theorem dX0_joinedValue_38 : decode cX0_joinedValue 38 = .ok (.iconst 0, 1) := by decide +kernel
theorem dX0_joinedValue_39 : decode cX0_joinedValue 39 = .ok (.invokevirtual 67, 3) := by decide +kernel
theorem dX0_joinedValue_42 : decode cX0_joinedValue 42 = .ok (.iload_n 1, 1) := by decide +kernel
theorem dX0_joinedValue_43 : decode cX0_joinedValue 43 = .ok (.if_icmp .ne 31, 3) := by decide +kernel
theorem dX0_joinedValue_46 : decode cX0_joinedValue 46 = .ok (.iload 6, 2) := by decide +kernel
theorem dX0_joinedValue_48 : decode cX0_joinedValue 48 = .ok (.iload_n 2, 1) := by decide +kernel
theorem dX0_joinedValue_49 : decode cX0_joinedValue 49 = .ok (.if_icmp .gt 25, 3) := by decide +kernel
theorem dX0_joinedValue_52 : decode cX0_joinedValue 52 = .ok (.iload 6, 2) := by decide +kernel
theorem dX0_joinedValue_54 : decode cX0_joinedValue 54 = .ok (.iload 4, 2) := by decide +kernel
theorem dX0_joinedValue_56 : decode cX0_joinedValue 56 = .ok (.if_icmp .lt 18, 3) := by decide +kernel
theorem dX0_joinedValue_59 : decode cX0_joinedValue 59 = .ok (.iload 6, 2) := by decide +kernel
theorem dX0_joinedValue_61 : decode cX0_joinedValue 61 = .ok (.istore 4, 2) := by decide +kernel
theorem dX0_joinedValue_63 : decode cX0_joinedValue 63 = .ok (.aload_n 0, 1) := by decide +kernel
theorem dX0_joinedValue_64 : decode cX0_joinedValue 64 = .ok (.getfield 22, 3) := by decide +kernel
theorem dX0_joinedValue_67 : decode cX0_joinedValue 67 = .ok (.iload 5, 2) := by decide +kernel
theorem dX0_joinedValue_69 : decode cX0_joinedValue 69 = .ok (.iconst 2, 1) := by decide +kernel
theorem dX0_joinedValue_70 : decode cX0_joinedValue 70 = .ok (.invokevirtual 67, 3) := by decide +kernel
theorem dX0_joinedValue_73 : decode cX0_joinedValue 73 = .ok (.istore_n 3, 1) := by decide +kernel
theorem dX0_joinedValue_74 : decode cX0_joinedValue 74 = .ok (.iinc 5 1, 3) := by decide +kernel
theorem dX0_joinedValue_77 : decode cX0_joinedValue 77 = .ok (.goto (-69), 3) := by decide +kernel
theorem dX0_joinedValue_80 : decode cX0_joinedValue 80 = .ok (.iload_n 3, 1) := by decide +kernel
theorem dX0_joinedValue_81 : decode cX0_joinedValue 81 = .ok (.ireturn, 1) := by decide +kernel
theorem dX0_putIntoWindows_0 : decode cX0_putIntoWindows 0 = .ok (.aload_n 0, 1) := by decide +kernel
theorem dX0_putIntoWindows_1 : decode cX0_putIntoWindows 1 = .ok (.getfield 11, 3) := by decide +kernel
theorem dX0_putIntoWindows_4 : decode cX0_putIntoWindows 4 = .ok (.iload_n 1, 1) := by decide +kernel
theorem dX0_putIntoWindows_5 : decode cX0_putIntoWindows 5 = .ok (.aaload, 1) := by decide +kernel
theorem dX0_putIntoWindows_6 : decode cX0_putIntoWindows 6 = .ok (.getfield 50, 3) := by decide +kernel
theorem dX0_putIntoWindows_9 : decode cX0_putIntoWindows 9 = .ok (.astore_n 2, 1) := by decide +kernel
theorem dX0_putIntoWindows_10 : decode cX0_putIntoWindows 10 = .ok (.aload_n 0, 1) := by decide +kernel
theorem dX0_putIntoWindows_11 : decode cX0_putIntoWindows 11 = .ok (.getfield 32, 3) := by decide +kernel
theorem dX0_putIntoWindows_14 : decode cX0_putIntoWindows 14 = .ok (.getfield 63, 3) := by decide +kernel
theorem dX0_putIntoWindows_17 : decode cX0_putIntoWindows 17 = .ok (.iload_n 1, 1) := by decide +kernel
theorem dX0_putIntoWindows_18 : decode cX0_putIntoWindows 18 = .ok (.iaload, 1) := by decide +kernel
theorem dX0_putIntoWindows_19 : decode cX0_putIntoWindows 19 = .ok (.iconst 1, 1) := by decide +kernel
theorem dX0_putIntoWindows_20 : decode cX0_putIntoWindows 20 = .ok (.isub, 1) := by decide +kernel
theorem dX0_putIntoWindows_21 : decode cX0_putIntoWindows 21 = .ok (.istore_n 3, 1) := by decide +kernel
theorem dX0_putIntoWindows_22 : decode cX0_putIntoWindows 22 = .ok (.aload_n 2, 1) := by decide +kernel
theorem dX0_putIntoWindows_23 : decode cX0_putIntoWindows 23 = .ok (.iload_n 3, 1) := by decide +kernel
theorem dX0_putIntoWindows_24 : decode cX0_putIntoWindows 24 = .ok (.iconst 0, 1) := by decide +kernel
theorem dX0_putIntoWindows_25 : decode cX0_putIntoWindows 25 = .ok (.invokevirtual 67, 3) := by decide +kernel
theorem dX0_putIntoWindows_28 : decode cX0_putIntoWindows 28 = .ok (.istore 4, 2) := by decide +kernel
theorem dX0_putIntoWindows_30 : decode cX0_putIntoWindows 30 = .ok (.aload_n 2, 1) := by decide +kernel
theorem dX0_putIntoWindows_31 : decode cX0_putIntoWindows 31 = .ok (.iload_n 3, 1) := by decide +kernel
theorem dX0_putIntoWindows_32 : decode cX0_putIntoWindows 32 = .ok (.iconst 1, 1) := by decide +kernel
theorem dX0_putIntoWindows_33 : decode cX0_putIntoWindows 33 = .ok (.invokevirtual 67, 3) := by decide +kernel
theorem dX0_putIntoWindows_36 : decode cX0_putIntoWindows 36 = .ok (.istore 5, 2) := by decide +kernel
theorem dX0_putIntoWindows_38 : decode cX0_putIntoWindows 38 = .ok (.aload_n 2, 1) := by decide +kernel
theorem dX0_putIntoWindows_39 : decode cX0_putIntoWindows 39 = .ok (.iload_n 3, 1) := by decide +kernel
theorem dX0_putIntoWindows_40 : decode cX0_putIntoWindows 40 = .ok (.iconst 4, 1) := by decide +kernel
theorem dX0_putIntoWindows_41 : decode cX0_putIntoWindows 41 = .ok (.invokevirtual 67, 3) := by decide +kernel
theorem dX0_putIntoWindows_44 : decode cX0_putIntoWindows 44 = .ok (.istore 6, 2) := by decide +kernel
theorem dX0_putIntoWindows_46 : decode cX0_putIntoWindows 46 = .ok (.aload_n 0, 1) := by decide +kernel
theorem dX0_putIntoWindows_47 : decode cX0_putIntoWindows 47 = .ok (.getfield 39, 3) := by decide +kernel
theorem dX0_putIntoWindows_50 : decode cX0_putIntoWindows 50 = .ok (.getfield 107, 3) := by decide +kernel
theorem dX0_putIntoWindows_53 : decode cX0_putIntoWindows 53 = .ok (.getstatic 110, 3) := by decide +kernel
theorem dX0_putIntoWindows_56 : decode cX0_putIntoWindows 56 = .ok (.if_acmp .ne 16, 3) := by decide +kernel
theorem dX0_putIntoWindows_59 : decode cX0_putIntoWindows 59 = .ok (.aload_n 0, 1) := by decide +kernel
theorem dX0_putIntoWindows_60 : decode cX0_putIntoWindows 60 = .ok (.iload 4, 2) := by decide +kernel
theorem dX0_putIntoWindows_62 : decode cX0_putIntoWindows 62 = .ok (.iload 5, 2) := by decide +kernel
theorem dX0_putIntoWindows_64 : decode cX0_putIntoWindows 64 = .ok (.iload 6, 2) := by decide +kernel
theorem dX0_putIntoWindows_66 : decode cX0_putIntoWindows 66 = .ok (.invokevirtual 113, 3) := by decide +kernel
theorem dX0_putIntoWindows_69 : decode cX0_putIntoWindows 69 = .ok (.goto 88, 3) := by decide +kernel
theorem dX0_putIntoWindows_72 : decode cX0_putIntoWindows 72 = .ok (.aload_n 0, 1) := by decide +kernel
theorem dX0_putIntoWindows_73 : decode cX0_putIntoWindows 73 = .ok (.getfield 39, 3) := by decide +kernel
theorem dX0_putIntoWindows_76 : decode cX0_putIntoWindows 76 = .ok (.getfield 116, 3) := by decide +kernel
theorem dX0_putIntoWindows_79 : decode cX0_putIntoWindows 79 = .ok (.ifCond .le 78, 3) := by decide +kernel
theorem dX0_putIntoWindows_82 : decode cX0_putIntoWindows 82 = .ok (.iload 5, 2) := by decide +kernel
theorem dX0_putIntoWindows_84 : decode cX0_putIntoWindows 84 = .ok (.iload 5, 2) := by decide +kernel
theorem dX0_putIntoWindows_86 : decode cX0_putIntoWindows 86 = .ok (.aload_n 0, 1) := by decide +kernel
theorem dX0_putIntoWindows_87 : decode cX0_putIntoWindows 87 = .ok (.getfield 39, 3) := by decide +kernel
theorem dX0_putIntoWindows_90 : decode cX0_putIntoWindows 90 = .ok (.getfield 116, 3) := by decide +kernel
theorem dX0_putIntoWindows_93 : decode cX0_putIntoWindows 93 = .ok (.irem, 1) := by decide +kernel
theorem dX0_putIntoWindows_94 : decode cX0_putIntoWindows 94 = .ok (.isub, 1) := by decide +kernel
theorem dX0_putIntoWindows_95 : decode cX0_putIntoWindows 95 = .ok (.istore 7, 2) := by decide +kernel
theorem dX0_putIntoWindows_97 : decode cX0_putIntoWindows 97 = .ok (.aload_n 0, 1) := by decide +kernel
theorem dX0_putIntoWindows_98 : decode cX0_putIntoWindows 98 = .ok (.getfield 39, 3) := by decide +kernel
theorem dX0_putIntoWindows_101 : decode cX0_putIntoWindows 101 = .ok (.getfield 119, 3) := by decide +kernel
theorem dX0_putIntoWindows_104 : decode cX0_putIntoWindows 104 = .ok (.aload_n 0, 1) := by decide +kernel
theorem dX0_putIntoWindows_105 : decode cX0_putIntoWindows 105 = .ok (.getfield 39, 3) := by decide +kernel
theorem dX0_putIntoWindows_108 : decode cX0_putIntoWindows 108 = .ok (.getfield 116, 3) := by decide +kernel
theorem dX0_putIntoWindows_111 : decode cX0_putIntoWindows 111 = .ok (.idiv, 1) := by decide +kernel
theorem dX0_putIntoWindows_112 : decode cX0_putIntoWindows 112 = .ok (.iconst 1, 1) := by decide +kernel
theorem dX0_putIntoWindows_113 : decode cX0_putIntoWindows 113 = .ok (.isub, 1) := by decide +kernel
theorem dX0_putIntoWindows_114 : decode cX0_putIntoWindows 114 = .ok (.istore 8, 2) := by decide +kernel
theorem dX0_putIntoWindows_116 : decode cX0_putIntoWindows 116 = .ok (.iload 8, 2) := by decide +kernel
theorem dX0_putIntoWindows_118 : decode cX0_putIntoWindows 118 = .ok (.ifCond .lt 39, 3) := by decide +kernel
theorem dX0_putIntoWindows_121 : decode cX0_putIntoWindows 121 = .ok (.iload 7, 2) := by decide +kernel
theorem dX0_putIntoWindows_123 : decode cX0_putIntoWindows 123 = .ok (.iload 8, 2) := by decide +kernel
theorem dX0_putIntoWindows_125 : decode cX0_putIntoWindows 125 = .ok (.aload_n 0, 1) := by decide +kernel
theorem dX0_putIntoWindows_126 : decode cX0_putIntoWindows 126 = .ok (.getfield 39, 3) := by decide +kernel
theorem dX0_putIntoWindows_129 : decode cX0_putIntoWindows 129 = .ok (.getfield 116, 3) := by decide +kernel
theorem dX0_putIntoWindows_132 : decode cX0_putIntoWindows 132 = .ok (.imul, 1) := by decide +kernel
theorem dX0_putIntoWindows_133 : decode cX0_putIntoWindows 133 = .ok (.isub, 1) := by decide +kernel
theorem dX0_putIntoWindows_134 : decode cX0_putIntoWindows 134 = .ok (.istore 9, 2) := by decide +kernel
theorem dX0_putIntoWindows_136 : decode cX0_putIntoWindows 136 = .ok (.iload 9, 2) := by decide +kernel
theorem dX0_putIntoWindows_138 : decode cX0_putIntoWindows 138 = .ok (.ifCond .lt 13, 3) := by decide +kernel
theorem dX0_putIntoWindows_141 : decode cX0_putIntoWindows 141 = .ok (.aload_n 0, 1) := by decide +kernel
theorem dX0_putIntoWindows_142 : decode cX0_putIntoWindows 142 = .ok (.iload 4, 2) := by decide +kernel
theorem dX0_putIntoWindows_144 : decode cX0_putIntoWindows 144 = .ok (.iload 9, 2) := by decide +kernel
theorem dX0_putIntoWindows_146 : decode cX0_putIntoWindows 146 = .ok (.iload 6, 2) := by decide +kernel
theorem dX0_putIntoWindows_148 : decode cX0_putIntoWindows 148 = .ok (.invokevirtual 122, 3) := by decide +kernel
theorem dX0_putIntoWindows_151 : decode cX0_putIntoWindows 151 = .ok (.iinc 8 (-1), 3) := by decide +kernel
theorem dX0_putIntoWindows_154 : decode cX0_putIntoWindows 154 = .ok (.goto (-38), 3) := by decide +kernel
theorem dX0_putIntoWindows_157 : decode cX0_putIntoWindows 157 = .ok (.return_, 1) := by decide +kernel
theorem dX0_putIntoWindow_0 : decode cX0_putIntoWindow 0 = .ok (.iload_n 2, 1) := by decide +kernel
theorem dX0_putIntoWindow_1 : decode cX0_putIntoWindow 1 = .ok (.aload_n 0, 1) := by decide +kernel
theorem dX0_putIntoWindow_2 : decode cX0_putIntoWindow 2 = .ok (.getfield 39, 3) := by decide +kernel
theorem dX0_putIntoWindow_5 : decode cX0_putIntoWindow 5 = .ok (.getfield 119, 3) := by decide +kernel
theorem dX0_putIntoWindow_8 : decode cX0_putIntoWindow 8 = .ok (.iadd, 1) := by decide +kernel
theorem dX0_putIntoWindow_9 : decode cX0_putIntoWindow 9 = .ok (.istore 4, 2) := by decide +kernel
theorem dX0_putIntoWindow_11 : decode cX0_putIntoWindow 11 = .ok (.iload 4, 2) := by decide +kernel
theorem dX0_putIntoWindow_13 : decode cX0_putIntoWindow 13 = .ok (.aload_n 0, 1) := by decide +kernel
theorem dX0_putIntoWindow_14 : decode cX0_putIntoWindow 14 = .ok (.invokevirtual 103, 3) := by decide +kernel
theorem dX0_putIntoWindow_17 : decode cX0_putIntoWindow 17 = .ok (.if_icmp .gt 17, 3) := by decide +kernel
theorem dX0_putIntoWindow_20 : decode cX0_putIntoWindow 20 = .ok (.aload_n 0, 1) := by decide +kernel
theorem dX0_putIntoWindow_21 : decode cX0_putIntoWindow 21 = .ok (.getfield 32, 3) := by decide +kernel
theorem dX0_putIntoWindow_24 : decode cX0_putIntoWindow 24 = .ok (.dup, 1) := by decide +kernel
theorem dX0_putIntoWindow_25 : decode cX0_putIntoWindow 25 = .ok (.getfield 125, 3) := by decide +kernel
theorem dX0_putIntoWindow_28 : decode cX0_putIntoWindow 28 = .ok (.iconst 1, 1) := by decide +kernel
theorem dX0_putIntoWindow_29 : decode cX0_putIntoWindow 29 = .ok (.iadd, 1) := by decide +kernel
theorem dX0_putIntoWindow_30 : decode cX0_putIntoWindow 30 = .ok (.putfield 125, 3) := by decide +kernel
theorem dX0_putIntoWindow_33 : decode cX0_putIntoWindow 33 = .ok (.return_, 1) := by decide +kernel
theorem dX0_putIntoWindow_34 : decode cX0_putIntoWindow 34 = .ok (.aload_n 0, 1) := by decide +kernel
theorem dX0_putIntoWindow_35 : decode cX0_putIntoWindow 35 = .ok (.getfield 32, 3) := by decide +kernel
theorem dX0_putIntoWindow_38 : decode cX0_putIntoWindow 38 = .ok (.iload_n 1, 1) := by decide +kernel
theorem dX0_putIntoWindow_39 : decode cX0_putIntoWindow 39 = .ok (.iload_n 2, 1) := by decide +kernel
theorem dX0_putIntoWindow_40 : decode cX0_putIntoWindow 40 = .ok (.invokevirtual 128, 3) := by decide +kernel
theorem dX0_putIntoWindow_43 : decode cX0_putIntoWindow 43 = .ok (.istore 5, 2) := by decide +kernel
theorem dX0_putIntoWindow_45 : decode cX0_putIntoWindow 45 = .ok (.iload 5, 2) := by decide +kernel
theorem dX0_putIntoWindow_47 : decode cX0_putIntoWindow 47 = .ok (.iconst (-1), 1) := by decide +kernel
theorem dX0_putIntoWindow_48 : decode cX0_putIntoWindow 48 = .ok (.if_icmp .ne 20, 3) := by decide +kernel
theorem dX0_putIntoWindow_51 : decode cX0_putIntoWindow 51 = .ok (.aload_n 0, 1) := by decide +kernel
theorem dX0_putIntoWindow_52 : decode cX0_putIntoWindow 52 = .ok (.getfield 32, 3) := by decide +kernel
theorem dX0_putIntoWindow_55 : decode cX0_putIntoWindow 55 = .ok (.iload_n 1, 1) := by decide +kernel
theorem dX0_putIntoWindow_56 : decode cX0_putIntoWindow 56 = .ok (.iload_n 2, 1) := by decide +kernel
theorem dX0_putIntoWindow_57 : decode cX0_putIntoWindow 57 = .ok (.iload 4, 2) := by decide +kernel
theorem dX0_putIntoWindow_59 : decode cX0_putIntoWindow 59 = .ok (.iload_n 3, 1) := by decide +kernel
theorem dX0_putIntoWindow_60 : decode cX0_putIntoWindow 60 = .ok (.invokevirtual 131, 3) := by decide +kernel
theorem dX0_putIntoWindow_63 : decode cX0_putIntoWindow 63 = .ok (.istore 5, 2) := by decide +kernel
theorem dX0_putIntoWindow_65 : decode cX0_putIntoWindow 65 = .ok (.goto 37, 3) := by decide +kernel
theorem dX0_putIntoWindow_68 : decode cX0_putIntoWindow 68 = .ok (.aload_n 0, 1) := by decide +kernel
theorem dX0_putIntoWindow_69 : decode cX0_putIntoWindow 69 = .ok (.getfield 32, 3) := by decide +kernel
theorem dX0_putIntoWindow_72 : decode cX0_putIntoWindow 72 = .ok (.getfield 135, 3) := by decide +kernel
theorem dX0_putIntoWindow_75 : decode cX0_putIntoWindow 75 = .ok (.iload 5, 2) := by decide +kernel
theorem dX0_putIntoWindow_77 : decode cX0_putIntoWindow 77 = .ok (.iconst 3, 1) := by decide +kernel
theorem dX0_putIntoWindow_78 : decode cX0_putIntoWindow 78 = .ok (.aload_n 0, 1) := by decide +kernel
theorem dX0_putIntoWindow_79 : decode cX0_putIntoWindow 79 = .ok (.getfield 39, 3) := by decide +kernel
theorem dX0_putIntoWindow_82 : decode cX0_putIntoWindow 82 = .ok (.aload_n 0, 1) := by decide +kernel
theorem dX0_putIntoWindow_83 : decode cX0_putIntoWindow 83 = .ok (.getfield 32, 3) := by decide +kernel
theorem dX0_putIntoWindow_86 : decode cX0_putIntoWindow 86 = .ok (.getfield 135, 3) := by decide +kernel
theorem dX0_putIntoWindow_89 : decode cX0_putIntoWindow 89 = .ok (.iload 5, 2) := by decide +kernel
theorem dX0_putIntoWindow_91 : decode cX0_putIntoWindow 91 = .ok (.iconst 3, 1) := by decide +kernel
theorem dX0_putIntoWindow_92 : decode cX0_putIntoWindow 92 = .ok (.invokevirtual 67, 3) := by decide +kernel
theorem dX0_putIntoWindow_95 : decode cX0_putIntoWindow 95 = .ok (.iload_n 3, 1) := by decide +kernel
theorem dX0_putIntoWindow_96 : decode cX0_putIntoWindow 96 = .ok (.invokevirtual 138, 3) := by decide +kernel
theorem dX0_putIntoWindow_99 : decode cX0_putIntoWindow 99 = .ok (.invokevirtual 99, 3) := by decide +kernel
theorem dX0_putIntoWindow_102 : decode cX0_putIntoWindow 102 = .ok (.aload_n 0, 1) := by decide +kernel
theorem dX0_putIntoWindow_103 : decode cX0_putIntoWindow 103 = .ok (.iload 5, 2) := by decide +kernel
theorem dX0_putIntoWindow_105 : decode cX0_putIntoWindow 105 = .ok (.invokevirtual 141, 3) := by decide +kernel
theorem dX0_putIntoWindow_108 : decode cX0_putIntoWindow 108 = .ok (.ifCond .eq 9, 3) := by decide +kernel
theorem dX0_putIntoWindow_111 : decode cX0_putIntoWindow 111 = .ok (.aload_n 0, 1) := by decide +kernel
theorem dX0_putIntoWindow_112 : decode cX0_putIntoWindow 112 = .ok (.iload 5, 2) := by decide +kernel
theorem dX0_putIntoWindow_114 : decode cX0_putIntoWindow 114 = .ok (.invokevirtual 144, 3) := by decide +kernel
theorem dX0_putIntoWindow_117 : decode cX0_putIntoWindow 117 = .ok (.return_, 1) := by decide +kernel
theorem dX0_putIntoSession_0 : decode cX0_putIntoSession 0 = .ok (.iload_n 2, 1) := by decide +kernel
theorem dX0_putIntoSession_1 : decode cX0_putIntoSession 1 = .ok (.istore 4, 2) := by decide +kernel
theorem dX0_putIntoSession_3 : decode cX0_putIntoSession 3 = .ok (.iload_n 2, 1) := by decide +kernel
theorem dX0_putIntoSession_4 : decode cX0_putIntoSession 4 = .ok (.aload_n 0, 1) := by decide +kernel
theorem dX0_putIntoSession_5 : decode cX0_putIntoSession 5 = .ok (.getfield 39, 3) := by decide +kernel
theorem dX0_putIntoSession_8 : decode cX0_putIntoSession 8 = .ok (.getfield 119, 3) := by decide +kernel
theorem dX0_putIntoSession_11 : decode cX0_putIntoSession 11 = .ok (.iadd, 1) := by decide +kernel
theorem dX0_putIntoSession_12 : decode cX0_putIntoSession 12 = .ok (.istore 5, 2) := by decide +kernel
theorem dX0_putIntoSession_14 : decode cX0_putIntoSession 14 = .ok (.iload_n 3, 1) := by decide +kernel
theorem dX0_putIntoSession_15 : decode cX0_putIntoSession 15 = .ok (.istore 6, 2) := by decide +kernel
theorem dX0_putIntoSession_17 : decode cX0_putIntoSession 17 = .ok (.iconst (-1), 1) := by decide +kernel
theorem dX0_putIntoSession_18 : decode cX0_putIntoSession 18 = .ok (.istore 7, 2) := by decide +kernel
theorem dX0_putIntoSession_20 : decode cX0_putIntoSession 20 = .ok (.aload_n 0, 1) := by decide +kernel
theorem dX0_putIntoSession_21 : decode cX0_putIntoSession 21 = .ok (.getfield 32, 3) := by decide +kernel
theorem dX0_putIntoSession_24 : decode cX0_putIntoSession 24 = .ok (.getfield 135, 3) := by decide +kernel
theorem dX0_putIntoSession_27 : decode cX0_putIntoSession 27 = .ok (.astore 8, 2) := by decide +kernel
theorem dX0_putIntoSession_29 : decode cX0_putIntoSession 29 = .ok (.iconst 0, 1) := by decide +kernel
theorem dX0_putIntoSession_30 : decode cX0_putIntoSession 30 = .ok (.istore 9, 2) := by decide +kernel
theorem dX0_putIntoSession_32 : decode cX0_putIntoSession 32 = .ok (.iload 9, 2) := by decide +kernel
theorem dX0_putIntoSession_34 : decode cX0_putIntoSession 34 = .ok (.aload 8, 2) := by decide +kernel
theorem dX0_putIntoSession_36 : decode cX0_putIntoSession 36 = .ok (.getfield 53, 3) := by decide +kernel
theorem dX0_putIntoSession_39 : decode cX0_putIntoSession 39 = .ok (.if_icmp .ge 73, 3) := by decide +kernel
theorem dX0_putIntoSession_42 : decode cX0_putIntoSession 42 = .ok (.aload_n 0, 1) := by decide +kernel
theorem dX0_putIntoSession_43 : decode cX0_putIntoSession 43 = .ok (.iload 9, 2) := by decide +kernel
theorem dX0_putIntoSession_45 : decode cX0_putIntoSession 45 = .ok (.iload_n 1, 1) := by decide +kernel
theorem dX0_putIntoSession_46 : decode cX0_putIntoSession 46 = .ok (.iload_n 2, 1) := by decide +kernel
theorem dX0_putIntoSession_47 : decode cX0_putIntoSession 47 = .ok (.invokevirtual 147, 3) := by decide +kernel
theorem dX0_putIntoSession_50 : decode cX0_putIntoSession 50 = .ok (.ifCond .eq 56, 3) := by decide +kernel
theorem dX0_putIntoSession_53 : decode cX0_putIntoSession 53 = .ok (.iload 4, 2) := by decide +kernel
theorem dX0_putIntoSession_55 : decode cX0_putIntoSession 55 = .ok (.aload 8, 2) := by decide +kernel
theorem dX0_putIntoSession_57 : decode cX0_putIntoSession 57 = .ok (.iload 9, 2) := by decide +kernel
theorem dX0_putIntoSession_59 : decode cX0_putIntoSession 59 = .ok (.iconst 1, 1) := by decide +kernel
theorem dX0_putIntoSession_60 : decode cX0_putIntoSession 60 = .ok (.invokevirtual 67, 3) := by decide +kernel
theorem dX0_putIntoSession_63 : decode cX0_putIntoSession 63 = .ok (.invokestatic 151, 3) := by decide +kernel
theorem dX0_putIntoSession_66 : decode cX0_putIntoSession 66 = .ok (.istore 4, 2) := by decide +kernel
theorem dX0_putIntoSession_68 : decode cX0_putIntoSession 68 = .ok (.iload 5, 2) := by decide +kernel
theorem dX0_putIntoSession_70 : decode cX0_putIntoSession 70 = .ok (.aload 8, 2) := by decide +kernel
theorem dX0_putIntoSession_72 : decode cX0_putIntoSession 72 = .ok (.iload 9, 2) := by decide +kernel
theorem dX0_putIntoSession_74 : decode cX0_putIntoSession 74 = .ok (.iconst 2, 1) := by decide +kernel
theorem dX0_putIntoSession_75 : decode cX0_putIntoSession 75 = .ok (.invokevirtual 67, 3) := by decide +kernel
theorem dX0_putIntoSession_78 : decode cX0_putIntoSession 78 = .ok (.invokestatic 74, 3) := by decide +kernel
theorem dX0_putIntoSession_81 : decode cX0_putIntoSession 81 = .ok (.istore 5, 2) := by decide +kernel
theorem dX0_putIntoSession_83 : decode cX0_putIntoSession 83 = .ok (.aload_n 0, 1) := by decide +kernel
theorem dX0_putIntoSession_84 : decode cX0_putIntoSession 84 = .ok (.getfield 39, 3) := by decide +kernel
theorem dX0_putIntoSession_87 : decode cX0_putIntoSession 87 = .ok (.iload 6, 2) := by decide +kernel
theorem dX0_putIntoSession_89 : decode cX0_putIntoSession 89 = .ok (.aload 8, 2) := by decide +kernel
theorem dX0_putIntoSession_91 : decode cX0_putIntoSession 91 = .ok (.iload 9, 2) := by decide +kernel
theorem dX0_putIntoSession_93 : decode cX0_putIntoSession 93 = .ok (.iconst 3, 1) := by decide +kernel
theorem dX0_putIntoSession_94 : decode cX0_putIntoSession 94 = .ok (.invokevirtual 67, 3) := by decide +kernel
theorem dX0_putIntoSession_97 : decode cX0_putIntoSession 97 = .ok (.invokevirtual 138, 3) := by decide +kernel
theorem dX0_putIntoSession_100 : decode cX0_putIntoSession 100 = .ok (.istore 6, 2) := by decide +kernel
theorem dX0_putIntoSession_102 : decode cX0_putIntoSession 102 = .ok (.iload 9, 2) := by decide +kernel
theorem dX0_putIntoSession_104 : decode cX0_putIntoSession 104 = .ok (.istore 7, 2) := by decide +kernel
theorem dX0_putIntoSession_106 : decode cX0_putIntoSession 106 = .ok (.iinc 9 1, 3) := by decide +kernel
theorem dX0_putIntoSession_109 : decode cX0_putIntoSession 109 = .ok (.goto (-77), 3) := by decide +kernel
theorem dX0_putIntoSession_112 : decode cX0_putIntoSession 112 = .ok (.iload 7, 2) := by decide +kernel
theorem dX0_putIntoSession_114 : decode cX0_putIntoSession 114 = .ok (.iconst (-1), 1) := by decide +kernel
theorem dX0_putIntoSession_115 : decode cX0_putIntoSession 115 = .ok (.if_icmp .ne 26, 3) := by decide +kernel
theorem dX0_putIntoSession_118 : decode cX0_putIntoSession 118 = .ok (.iload 5, 2) := by decide +kernel
theorem dX0_putIntoSession_120 : decode cX0_putIntoSession 120 = .ok (.aload_n 0, 1) := by decide +kernel
theorem dX0_putIntoSession_121 : decode cX0_putIntoSession 121 = .ok (.invokevirtual 103, 3) := by decide +kernel
theorem dX0_putIntoSession_124 : decode cX0_putIntoSession 124 = .ok (.if_icmp .gt 17, 3) := by decide +kernel
theorem dX0_putIntoSession_127 : decode cX0_putIntoSession 127 = .ok (.aload_n 0, 1) := by decide +kernel
theorem dX0_putIntoSession_128 : decode cX0_putIntoSession 128 = .ok (.getfield 32, 3) := by decide +kernel
theorem dX0_putIntoSession_131 : decode cX0_putIntoSession 131 = .ok (.dup, 1) := by decide +kernel
theorem dX0_putIntoSession_132 : decode cX0_putIntoSession 132 = .ok (.getfield 125, 3) := by decide +kernel
theorem dX0_putIntoSession_135 : decode cX0_putIntoSession 135 = .ok (.iconst 1, 1) := by decide +kernel
theorem dX0_putIntoSession_136 : decode cX0_putIntoSession 136 = .ok (.iadd, 1) := by decide +kernel
theorem dX0_putIntoSession_137 : decode cX0_putIntoSession 137 = .ok (.putfield 125, 3) := by decide +kernel
theorem dX0_putIntoSession_140 : decode cX0_putIntoSession 140 = .ok (.return_, 1) := by decide +kernel
theorem dX0_putIntoSession_141 : decode cX0_putIntoSession 141 = .ok (.iload 7, 2) := by decide +kernel
theorem dX0_putIntoSession_143 : decode cX0_putIntoSession 143 = .ok (.istore 9, 2) := by decide +kernel
theorem dX0_putIntoSession_145 : decode cX0_putIntoSession 145 = .ok (.iload 7, 2) := by decide +kernel
theorem dX0_putIntoSession_147 : decode cX0_putIntoSession 147 = .ok (.iconst (-1), 1) := by decide +kernel
theorem dX0_putIntoSession_148 : decode cX0_putIntoSession 148 = .ok (.if_icmp .eq 29, 3) := by decide +kernel
theorem dX0_putIntoSession_151 : decode cX0_putIntoSession 151 = .ok (.aload 8, 2) := by decide +kernel
theorem dX0_putIntoSession_153 : decode cX0_putIntoSession 153 = .ok (.iload 7, 2) := by decide +kernel
theorem dX0_putIntoSession_155 : decode cX0_putIntoSession 155 = .ok (.iconst 1, 1) := by decide +kernel
theorem dX0_putIntoSession_156 : decode cX0_putIntoSession 156 = .ok (.invokevirtual 67, 3) := by decide +kernel
theorem dX0_putIntoSession_159 : decode cX0_putIntoSession 159 = .ok (.iload 4, 2) := by decide +kernel
theorem dX0_putIntoSession_161 : decode cX0_putIntoSession 161 = .ok (.if_icmp .ne 16, 3) := by decide +kernel
theorem dX0_putIntoSession_164 : decode cX0_putIntoSession 164 = .ok (.aload 8, 2) := by decide +kernel
theorem dX0_putIntoSession_166 : decode cX0_putIntoSession 166 = .ok (.iload 7, 2) := by decide +kernel
theorem dX0_putIntoSession_168 : decode cX0_putIntoSession 168 = .ok (.iconst 2, 1) := by decide +kernel
theorem dX0_putIntoSession_169 : decode cX0_putIntoSession 169 = .ok (.invokevirtual 67, 3) := by decide +kernel
theorem dX0_putIntoSession_172 : decode cX0_putIntoSession 172 = .ok (.iload 5, 2) := by decide +kernel
theorem dX0_putIntoSession_174 : decode cX0_putIntoSession 174 = .ok (.if_icmp .eq 25, 3) := by decide +kernel
theorem dX0_putIntoSession_177 : decode cX0_putIntoSession 177 = .ok (.aload_n 0, 1) := by decide +kernel
theorem dX0_putIntoSession_178 : decode cX0_putIntoSession 178 = .ok (.iload_n 1, 1) := by decide +kernel
theorem dX0_putIntoSession_179 : decode cX0_putIntoSession 179 = .ok (.iload_n 2, 1) := by decide +kernel
theorem dX0_putIntoSession_180 : decode cX0_putIntoSession 180 = .ok (.invokevirtual 154, 3) := by decide +kernel
theorem dX0_putIntoSession_183 : decode cX0_putIntoSession 183 = .ok (.aload_n 0, 1) := by decide +kernel
theorem dX0_putIntoSession_184 : decode cX0_putIntoSession 184 = .ok (.getfield 32, 3) := by decide +kernel
theorem dX0_putIntoSession_187 : decode cX0_putIntoSession 187 = .ok (.iload_n 1, 1) := by decide +kernel
theorem dX0_putIntoSession_188 : decode cX0_putIntoSession 188 = .ok (.iload 4, 2) := by decide +kernel
theorem dX0_putIntoSession_190 : decode cX0_putIntoSession 190 = .ok (.iload 5, 2) := by decide +kernel
theorem dX0_putIntoSession_192 : decode cX0_putIntoSession 192 = .ok (.iload 6, 2) := by decide +kernel
theorem dX0_putIntoSession_194 : decode cX0_putIntoSession 194 = .ok (.invokevirtual 131, 3) := by decide +kernel
theorem dX0_putIntoSession_197 : decode cX0_putIntoSession 197 = .ok (.istore 9, 2) := by decide +kernel
theorem dX0_putIntoSession_199 : decode cX0_putIntoSession 199 = .ok (.aload 8, 2) := by decide +kernel
theorem dX0_putIntoSession_201 : decode cX0_putIntoSession 201 = .ok (.iload 9, 2) := by decide +kernel
theorem dX0_putIntoSession_203 : decode cX0_putIntoSession 203 = .ok (.iconst 3, 1) := by decide +kernel
theorem dX0_putIntoSession_204 : decode cX0_putIntoSession 204 = .ok (.iload 6, 2) := by decide +kernel
theorem dX0_putIntoSession_206 : decode cX0_putIntoSession 206 = .ok (.invokevirtual 99, 3) := by decide +kernel
theorem dX0_putIntoSession_209 : decode cX0_putIntoSession 209 = .ok (.aload_n 0, 1) := by decide +kernel
theorem dX0_putIntoSession_210 : decode cX0_putIntoSession 210 = .ok (.iload 9, 2) := by decide +kernel
theorem dX0_putIntoSession_212 : decode cX0_putIntoSession 212 = .ok (.invokevirtual 141, 3) := by decide +kernel
theorem dX0_putIntoSession_215 : decode cX0_putIntoSession 215 = .ok (.ifCond .eq 9, 3) := by decide +kernel
theorem dX0_putIntoSession_218 : decode cX0_putIntoSession 218 = .ok (.aload_n 0, 1) := by decide +kernel
theorem dX0_putIntoSession_219 : decode cX0_putIntoSession 219 = .ok (.iload 9, 2) := by decide +kernel
theorem dX0_putIntoSession_221 : decode cX0_putIntoSession 221 = .ok (.invokevirtual 144, 3) := by decide +kernel
theorem dX0_putIntoSession_224 : decode cX0_putIntoSession 224 = .ok (.return_, 1) := by decide +kernel
theorem dX0_isMet_0 : decode cX0_isMet 0 = .ok (.aload_n 0, 1) := by decide +kernel
theorem dX0_isMet_1 : decode cX0_isMet 1 = .ok (.getfield 32, 3) := by decide +kernel
theorem dX0_isMet_4 : decode cX0_isMet 4 = .ok (.getfield 135, 3) := by decide +kernel
theorem dX0_isMet_7 : decode cX0_isMet 7 = .ok (.iload_n 1, 1) := by decide +kernel
theorem dX0_isMet_8 : decode cX0_isMet 8 = .ok (.iconst 0, 1) := by decide +kernel
theorem dX0_isMet_9 : decode cX0_isMet 9 = .ok (.invokevirtual 67, 3) := by decide +kernel
theorem dX0_isMet_12 : decode cX0_isMet 12 = .ok (.iload_n 2, 1) := by decide +kernel
theorem dX0_isMet_13 : decode cX0_isMet 13 = .ok (.if_icmp .ne 47, 3) := by decide +kernel
theorem dX0_isMet_16 : decode cX0_isMet 16 = .ok (.aload_n 0, 1) := by decide +kernel
theorem dX0_isMet_17 : decode cX0_isMet 17 = .ok (.getfield 32, 3) := by decide +kernel
theorem dX0_isMet_20 : decode cX0_isMet 20 = .ok (.getfield 135, 3) := by decide +kernel
theorem dX0_isMet_23 : decode cX0_isMet 23 = .ok (.iload_n 1, 1) := by decide +kernel
theorem dX0_isMet_24 : decode cX0_isMet 24 = .ok (.iconst 1, 1) := by decide +kernel
theorem dX0_isMet_25 : decode cX0_isMet 25 = .ok (.invokevirtual 67, 3) := by decide +kernel
theorem dX0_isMet_28 : decode cX0_isMet 28 = .ok (.iload_n 3, 1) := by decide +kernel
theorem dX0_isMet_29 : decode cX0_isMet 29 = .ok (.aload_n 0, 1) := by decide +kernel
theorem dX0_isMet_30 : decode cX0_isMet 30 = .ok (.getfield 39, 3) := by decide +kernel
theorem dX0_isMet_33 : decode cX0_isMet 33 = .ok (.getfield 119, 3) := by decide +kernel
theorem dX0_isMet_36 : decode cX0_isMet 36 = .ok (.iadd, 1) := by decide +kernel
theorem dX0_isMet_37 : decode cX0_isMet 37 = .ok (.if_icmp .ge 23, 3) := by decide +kernel
theorem dX0_isMet_40 : decode cX0_isMet 40 = .ok (.iload_n 3, 1) := by decide +kernel
theorem dX0_isMet_41 : decode cX0_isMet 41 = .ok (.aload_n 0, 1) := by decide +kernel
theorem dX0_isMet_42 : decode cX0_isMet 42 = .ok (.getfield 32, 3) := by decide +kernel
theorem dX0_isMet_45 : decode cX0_isMet 45 = .ok (.getfield 135, 3) := by decide +kernel
theorem dX0_isMet_48 : decode cX0_isMet 48 = .ok (.iload_n 1, 1) := by decide +kernel
theorem dX0_isMet_49 : decode cX0_isMet 49 = .ok (.iconst 2, 1) := by decide +kernel
theorem dX0_isMet_50 : decode cX0_isMet 50 = .ok (.invokevirtual 67, 3) := by decide +kernel
theorem dX0_isMet_53 : decode cX0_isMet 53 = .ok (.if_icmp .ge 7, 3) := by decide +kernel
theorem dX0_isMet_56 : decode cX0_isMet 56 = .ok (.iconst 1, 1) := by decide +kernel
theorem dX0_isMet_57 : decode cX0_isMet 57 = .ok (.goto 4, 3) := by decide +kernel
theorem dX0_isMet_60 : decode cX0_isMet 60 = .ok (.iconst 0, 1) := by decide +kernel
theorem dX0_isMet_61 : decode cX0_isMet 61 = .ok (.ireturn, 1) := by decide +kernel
theorem dX0_endSessions_0 : decode cX0_endSessions 0 = .ok (.aload_n 0, 1) := by decide +kernel
theorem dX0_endSessions_1 : decode cX0_endSessions 1 = .ok (.getfield 32, 3) := by decide +kernel
theorem dX0_endSessions_4 : decode cX0_endSessions 4 = .ok (.getfield 135, 3) := by decide +kernel
theorem dX0_endSessions_7 : decode cX0_endSessions 7 = .ok (.astore_n 3, 1) := by decide +kernel
theorem dX0_endSessions_8 : decode cX0_endSessions 8 = .ok (.iconst 0, 1) := by decide +kernel
theorem dX0_endSessions_9 : decode cX0_endSessions 9 = .ok (.istore 4, 2) := by decide +kernel
theorem dX0_endSessions_11 : decode cX0_endSessions 11 = .ok (.aload_n 3, 1) := by decide +kernel
theorem dX0_endSessions_12 : decode cX0_endSessions 12 = .ok (.getfield 53, 3) := by decide +kernel
theorem dX0_endSessions_15 : decode cX0_endSessions 15 = .ok (.istore 5, 2) := by decide +kernel
theorem dX0_endSessions_17 : decode cX0_endSessions 17 = .ok (.iload 5, 2) := by decide +kernel
theorem dX0_endSessions_19 : decode cX0_endSessions 19 = .ok (.ifCond .le 58, 3) := by decide +kernel
theorem dX0_endSessions_22 : decode cX0_endSessions 22 = .ok (.aload_n 0, 1) := by decide +kernel
theorem dX0_endSessions_23 : decode cX0_endSessions 23 = .ok (.iload 4, 2) := by decide +kernel
theorem dX0_endSessions_25 : decode cX0_endSessions 25 = .ok (.iload_n 1, 1) := by decide +kernel
theorem dX0_endSessions_26 : decode cX0_endSessions 26 = .ok (.iload_n 2, 1) := by decide +kernel
theorem dX0_endSessions_27 : decode cX0_endSessions 27 = .ok (.invokevirtual 147, 3) := by decide +kernel
theorem dX0_endSessions_30 : decode cX0_endSessions 30 = .ok (.ifCond .ne 9, 3) := by decide +kernel
theorem dX0_endSessions_33 : decode cX0_endSessions 33 = .ok (.iinc 4 1, 3) := by decide +kernel
theorem dX0_endSessions_36 : decode cX0_endSessions 36 = .ok (.goto 35, 3) := by decide +kernel
theorem dX0_endSessions_39 : decode cX0_endSessions 39 = .ok (.aload_n 3, 1) := by decide +kernel
theorem dX0_endSessions_40 : decode cX0_endSessions 40 = .ok (.iload 4, 2) := by decide +kernel
theorem dX0_endSessions_42 : decode cX0_endSessions 42 = .ok (.iconst 4, 1) := by decide +kernel
theorem dX0_endSessions_43 : decode cX0_endSessions 43 = .ok (.invokevirtual 67, 3) := by decide +kernel
theorem dX0_endSessions_46 : decode cX0_endSessions 46 = .ok (.iconst 1, 1) := by decide +kernel
theorem dX0_endSessions_47 : decode cX0_endSessions 47 = .ok (.if_icmp .ne 17, 3) := by decide +kernel
theorem dX0_endSessions_50 : decode cX0_endSessions 50 = .ok (.aload_n 0, 1) := by decide +kernel
theorem dX0_endSessions_51 : decode cX0_endSessions 51 = .ok (.iload 4, 2) := by decide +kernel
theorem dX0_endSessions_53 : decode cX0_endSessions 53 = .ok (.aload_n 3, 1) := by decide +kernel
theorem dX0_endSessions_54 : decode cX0_endSessions 54 = .ok (.iload 4, 2) := by decide +kernel
theorem dX0_endSessions_56 : decode cX0_endSessions 56 = .ok (.iconst 5, 1) := by decide +kernel
theorem dX0_endSessions_57 : decode cX0_endSessions 57 = .ok (.invokevirtual 67, 3) := by decide +kernel
theorem dX0_endSessions_60 : decode cX0_endSessions 60 = .ok (.iconst 2, 1) := by decide +kernel
theorem dX0_endSessions_61 : decode cX0_endSessions 61 = .ok (.invokevirtual 158, 3) := by decide +kernel
theorem dX0_endSessions_64 : decode cX0_endSessions 64 = .ok (.aload_n 3, 1) := by decide +kernel
theorem dX0_endSessions_65 : decode cX0_endSessions 65 = .ok (.iload 4, 2) := by decide +kernel
theorem dX0_endSessions_67 : decode cX0_endSessions 67 = .ok (.iconst 1, 1) := by decide +kernel
theorem dX0_endSessions_68 : decode cX0_endSessions 68 = .ok (.invokevirtual 161, 3) := by decide +kernel
theorem dX0_endSessions_71 : decode cX0_endSessions 71 = .ok (.iinc 5 (-1), 3) := by decide +kernel
theorem dX0_endSessions_74 : decode cX0_endSessions 74 = .ok (.goto (-57), 3) := by decide +kernel
theorem dX0_endSessions_77 : decode cX0_endSessions 77 = .ok (.return_, 1) := by decide +kernel
theorem dX0_isRipe_0 : decode cX0_isRipe 0 = .ok (.aload_n 0, 1) := by decide +kernel
theorem dX0_isRipe_1 : decode cX0_isRipe 1 = .ok (.getfield 32, 3) := by decide +kernel
theorem dX0_isRipe_4 : decode cX0_isRipe 4 = .ok (.getfield 135, 3) := by decide +kernel
theorem dX0_isRipe_7 : decode cX0_isRipe 7 = .ok (.iload_n 1, 1) := by decide +kernel
theorem dX0_isRipe_8 : decode cX0_isRipe 8 = .ok (.iconst 4, 1) := by decide +kernel
theorem dX0_isRipe_9 : decode cX0_isRipe 9 = .ok (.invokevirtual 67, 3) := by decide +kernel
theorem dX0_isRipe_12 : decode cX0_isRipe 12 = .ok (.iconst 1, 1) := by decide +kernel
theorem dX0_isRipe_13 : decode cX0_isRipe 13 = .ok (.if_icmp .eq 25, 3) := by decide +kernel
theorem dX0_isRipe_16 : decode cX0_isRipe 16 = .ok (.aload_n 0, 1) := by decide +kernel
theorem dX0_isRipe_17 : decode cX0_isRipe 17 = .ok (.getfield 32, 3) := by decide +kernel
theorem dX0_isRipe_20 : decode cX0_isRipe 20 = .ok (.getfield 135, 3) := by decide +kernel
theorem dX0_isRipe_23 : decode cX0_isRipe 23 = .ok (.iload_n 1, 1) := by decide +kernel
theorem dX0_isRipe_24 : decode cX0_isRipe 24 = .ok (.iconst 2, 1) := by decide +kernel
theorem dX0_isRipe_25 : decode cX0_isRipe 25 = .ok (.invokevirtual 67, 3) := by decide +kernel
theorem dX0_isRipe_28 : decode cX0_isRipe 28 = .ok (.aload_n 0, 1) := by decide +kernel
theorem dX0_isRipe_29 : decode cX0_isRipe 29 = .ok (.getfield 32, 3) := by decide +kernel
theorem dX0_isRipe_32 : decode cX0_isRipe 32 = .ok (.getfield 57, 3) := by decide +kernel
theorem dX0_isRipe_35 : decode cX0_isRipe 35 = .ok (.if_icmp .gt 7, 3) := by decide +kernel
theorem dX0_isRipe_38 : decode cX0_isRipe 38 = .ok (.iconst 1, 1) := by decide +kernel
theorem dX0_isRipe_39 : decode cX0_isRipe 39 = .ok (.goto 4, 3) := by decide +kernel
theorem dX0_isRipe_42 : decode cX0_isRipe 42 = .ok (.iconst 0, 1) := by decide +kernel
theorem dX0_isRipe_43 : decode cX0_isRipe 43 = .ok (.ireturn, 1) := by decide +kernel
theorem dX0_tell_0 : decode cX0_tell 0 = .ok (.aload_n 0, 1) := by decide +kernel
theorem dX0_tell_1 : decode cX0_tell 1 = .ok (.getfield 32, 3) := by decide +kernel
theorem dX0_tell_4 : decode cX0_tell 4 = .ok (.getfield 135, 3) := by decide +kernel
theorem dX0_tell_7 : decode cX0_tell 7 = .ok (.iload_n 1, 1) := by decide +kernel
theorem dX0_tell_8 : decode cX0_tell 8 = .ok (.iconst 3, 1) := by decide +kernel
theorem dX0_tell_9 : decode cX0_tell 9 = .ok (.invokevirtual 67, 3) := by decide +kernel
theorem dX0_tell_12 : decode cX0_tell 12 = .ok (.istore_n 2, 1) := by decide +kernel
theorem dX0_tell_13 : decode cX0_tell 13 = .ok (.aload_n 0, 1) := by decide +kernel
theorem dX0_tell_14 : decode cX0_tell 14 = .ok (.getfield 32, 3) := by decide +kernel
theorem dX0_tell_17 : decode cX0_tell 17 = .ok (.getfield 135, 3) := by decide +kernel
theorem dX0_tell_20 : decode cX0_tell 20 = .ok (.iload_n 1, 1) := by decide +kernel
theorem dX0_tell_21 : decode cX0_tell 21 = .ok (.iconst 5, 1) := by decide +kernel
theorem dX0_tell_22 : decode cX0_tell 22 = .ok (.invokevirtual 67, 3) := by decide +kernel
theorem dX0_tell_25 : decode cX0_tell 25 = .ok (.istore_n 3, 1) := by decide +kernel
theorem dX0_tell_26 : decode cX0_tell 26 = .ok (.aload_n 0, 1) := by decide +kernel
theorem dX0_tell_27 : decode cX0_tell 27 = .ok (.getfield 39, 3) := by decide +kernel
theorem dX0_tell_30 : decode cX0_tell 30 = .ok (.getfield 164, 3) := by decide +kernel
theorem dX0_tell_33 : decode cX0_tell 33 = .ok (.getstatic 167, 3) := by decide +kernel
theorem dX0_tell_36 : decode cX0_tell 36 = .ok (.if_acmp .ne 13, 3) := by decide +kernel
theorem dX0_tell_39 : decode cX0_tell 39 = .ok (.aload_n 0, 1) := by decide +kernel
theorem dX0_tell_40 : decode cX0_tell 40 = .ok (.iload_n 1, 1) := by decide +kernel
theorem dX0_tell_41 : decode cX0_tell 41 = .ok (.iload_n 2, 1) := by decide +kernel
theorem dX0_tell_42 : decode cX0_tell 42 = .ok (.iconst 0, 1) := by decide +kernel
theorem dX0_tell_43 : decode cX0_tell 43 = .ok (.invokevirtual 158, 3) := by decide +kernel
theorem dX0_tell_46 : decode cX0_tell 46 = .ok (.goto 58, 3) := by decide +kernel
theorem dX0_tell_49 : decode cX0_tell 49 = .ok (.aload_n 0, 1) := by decide +kernel
theorem dX0_tell_50 : decode cX0_tell 50 = .ok (.getfield 39, 3) := by decide +kernel
theorem dX0_tell_53 : decode cX0_tell 53 = .ok (.getfield 164, 3) := by decide +kernel
theorem dX0_tell_56 : decode cX0_tell 56 = .ok (.getstatic 170, 3) := by decide +kernel
theorem dX0_tell_59 : decode cX0_tell 59 = .ok (.if_acmp .ne 15, 3) := by decide +kernel
theorem dX0_tell_62 : decode cX0_tell 62 = .ok (.aload_n 0, 1) := by decide +kernel
theorem dX0_tell_63 : decode cX0_tell 63 = .ok (.iload_n 1, 1) := by decide +kernel
theorem dX0_tell_64 : decode cX0_tell 64 = .ok (.iload_n 2, 1) := by decide +kernel
theorem dX0_tell_65 : decode cX0_tell 65 = .ok (.iload_n 3, 1) := by decide +kernel
theorem dX0_tell_66 : decode cX0_tell 66 = .ok (.isub, 1) := by decide +kernel
theorem dX0_tell_67 : decode cX0_tell 67 = .ok (.iconst 1, 1) := by decide +kernel
theorem dX0_tell_68 : decode cX0_tell 68 = .ok (.invokevirtual 158, 3) := by decide +kernel
theorem dX0_tell_71 : decode cX0_tell 71 = .ok (.goto 33, 3) := by decide +kernel
theorem dX0_tell_74 : decode cX0_tell 74 = .ok (.aload_n 0, 1) := by decide +kernel
theorem dX0_tell_75 : decode cX0_tell 75 = .ok (.getfield 32, 3) := by decide +kernel
theorem dX0_tell_78 : decode cX0_tell 78 = .ok (.getfield 135, 3) := by decide +kernel
theorem dX0_tell_81 : decode cX0_tell 81 = .ok (.iload_n 1, 1) := by decide +kernel
theorem dX0_tell_82 : decode cX0_tell 82 = .ok (.iconst 4, 1) := by decide +kernel
theorem dX0_tell_83 : decode cX0_tell 83 = .ok (.invokevirtual 67, 3) := by decide +kernel
theorem dX0_tell_86 : decode cX0_tell 86 = .ok (.iconst 1, 1) := by decide +kernel
theorem dX0_tell_87 : decode cX0_tell 87 = .ok (.if_icmp .ne 10, 3) := by decide +kernel
theorem dX0_tell_90 : decode cX0_tell 90 = .ok (.aload_n 0, 1) := by decide +kernel
theorem dX0_tell_91 : decode cX0_tell 91 = .ok (.iload_n 1, 1) := by decide +kernel
theorem dX0_tell_92 : decode cX0_tell 92 = .ok (.iload_n 3, 1) := by decide +kernel
theorem dX0_tell_93 : decode cX0_tell 93 = .ok (.iconst 2, 1) := by decide +kernel
theorem dX0_tell_94 : decode cX0_tell 94 = .ok (.invokevirtual 158, 3) := by decide +kernel
theorem dX0_tell_97 : decode cX0_tell 97 = .ok (.aload_n 0, 1) := by decide +kernel
theorem dX0_tell_98 : decode cX0_tell 98 = .ok (.iload_n 1, 1) := by decide +kernel
theorem dX0_tell_99 : decode cX0_tell 99 = .ok (.iload_n 2, 1) := by decide +kernel
theorem dX0_tell_100 : decode cX0_tell 100 = .ok (.iconst 1, 1) := by decide +kernel
theorem dX0_tell_101 : decode cX0_tell 101 = .ok (.invokevirtual 158, 3) := by decide +kernel
theorem dX0_tell_104 : decode cX0_tell 104 = .ok (.aload_n 0, 1) := by decide +kernel
theorem dX0_tell_105 : decode cX0_tell 105 = .ok (.getfield 32, 3) := by decide +kernel
theorem dX0_tell_108 : decode cX0_tell 108 = .ok (.getfield 135, 3) := by decide +kernel
theorem dX0_tell_111 : decode cX0_tell 111 = .ok (.iload_n 1, 1) := by decide +kernel
theorem dX0_tell_112 : decode cX0_tell 112 = .ok (.iconst 4, 1) := by decide +kernel
theorem dX0_tell_113 : decode cX0_tell 113 = .ok (.iconst 1, 1) := by decide +kernel
theorem dX0_tell_114 : decode cX0_tell 114 = .ok (.invokevirtual 99, 3) := by decide +kernel
theorem dX0_tell_117 : decode cX0_tell 117 = .ok (.aload_n 0, 1) := by decide +kernel
theorem dX0_tell_118 : decode cX0_tell 118 = .ok (.getfield 32, 3) := by decide +kernel
theorem dX0_tell_121 : decode cX0_tell 121 = .ok (.getfield 135, 3) := by decide +kernel
theorem dX0_tell_124 : decode cX0_tell 124 = .ok (.iload_n 1, 1) := by decide +kernel
theorem dX0_tell_125 : decode cX0_tell 125 = .ok (.iconst 5, 1) := by decide +kernel
theorem dX0_tell_126 : decode cX0_tell 126 = .ok (.iload_n 2, 1) := by decide +kernel
theorem dX0_tell_127 : decode cX0_tell 127 = .ok (.invokevirtual 99, 3) := by decide +kernel
theorem dX0_tell_130 : decode cX0_tell 130 = .ok (.return_, 1) := by decide +kernel
theorem dX0_putResult_0 : decode cX0_putResult 0 = .ok (.aload_n 0, 1) := by decide +kernel
theorem dX0_putResult_1 : decode cX0_putResult 1 = .ok (.getfield 26, 3) := by decide +kernel
theorem dX0_putResult_4 : decode cX0_putResult 4 = .ok (.getfield 53, 3) := by decide +kernel
theorem dX0_putResult_7 : decode cX0_putResult 7 = .ok (.istore 4, 2) := by decide +kernel
theorem dX0_putResult_9 : decode cX0_putResult 9 = .ok (.aload_n 0, 1) := by decide +kernel
theorem dX0_putResult_10 : decode cX0_putResult 10 = .ok (.getfield 26, 3) := by decide +kernel
theorem dX0_putResult_13 : decode cX0_putResult 13 = .ok (.iload 4, 2) := by decide +kernel
theorem dX0_putResult_15 : decode cX0_putResult 15 = .ok (.invokevirtual 173, 3) := by decide +kernel
theorem dX0_putResult_18 : decode cX0_putResult 18 = .ok (.aload_n 0, 1) := by decide +kernel
theorem dX0_putResult_19 : decode cX0_putResult 19 = .ok (.getfield 26, 3) := by decide +kernel
theorem dX0_putResult_22 : decode cX0_putResult 22 = .ok (.iload 4, 2) := by decide +kernel
theorem dX0_putResult_24 : decode cX0_putResult 24 = .ok (.iconst 0, 1) := by decide +kernel
theorem dX0_putResult_25 : decode cX0_putResult 25 = .ok (.aload_n 0, 1) := by decide +kernel
theorem dX0_putResult_26 : decode cX0_putResult 26 = .ok (.getfield 32, 3) := by decide +kernel
theorem dX0_putResult_29 : decode cX0_putResult 29 = .ok (.getfield 135, 3) := by decide +kernel
theorem dX0_putResult_32 : decode cX0_putResult 32 = .ok (.iload_n 1, 1) := by decide +kernel
theorem dX0_putResult_33 : decode cX0_putResult 33 = .ok (.iconst 0, 1) := by decide +kernel
theorem dX0_putResult_34 : decode cX0_putResult 34 = .ok (.invokevirtual 67, 3) := by decide +kernel
theorem dX0_putResult_37 : decode cX0_putResult 37 = .ok (.invokevirtual 99, 3) := by decide +kernel
theorem dX0_putResult_40 : decode cX0_putResult 40 = .ok (.aload_n 0, 1) := by decide +kernel
theorem dX0_putResult_41 : decode cX0_putResult 41 = .ok (.getfield 26, 3) := by decide +kernel
theorem dX0_putResult_44 : decode cX0_putResult 44 = .ok (.iload 4, 2) := by decide +kernel
theorem dX0_putResult_46 : decode cX0_putResult 46 = .ok (.iconst 1, 1) := by decide +kernel
theorem dX0_putResult_47 : decode cX0_putResult 47 = .ok (.aload_n 0, 1) := by decide +kernel
theorem dX0_putResult_48 : decode cX0_putResult 48 = .ok (.getfield 32, 3) := by decide +kernel
theorem dX0_putResult_51 : decode cX0_putResult 51 = .ok (.getfield 135, 3) := by decide +kernel
theorem dX0_putResult_54 : decode cX0_putResult 54 = .ok (.iload_n 1, 1) := by decide +kernel
theorem dX0_putResult_55 : decode cX0_putResult 55 = .ok (.iconst 1, 1) := by decide +kernel
theorem dX0_putResult_56 : decode cX0_putResult 56 = .ok (.invokevirtual 67, 3) := by decide +kernel
theorem dX0_putResult_59 : decode cX0_putResult 59 = .ok (.invokevirtual 99, 3) := by decide +kernel
theorem dX0_putResult_62 : decode cX0_putResult 62 = .ok (.aload_n 0, 1) := by decide +kernel
theorem dX0_putResult_63 : decode cX0_putResult 63 = .ok (.getfield 26, 3) := by decide +kernel
theorem dX0_putResult_66 : decode cX0_putResult 66 = .ok (.iload 4, 2) := by decide +kernel
theorem dX0_putResult_68 : decode cX0_putResult 68 = .ok (.iconst 2, 1) := by decide +kernel
theorem dX0_putResult_69 : decode cX0_putResult 69 = .ok (.aload_n 0, 1) := by decide +kernel
theorem dX0_putResult_70 : decode cX0_putResult 70 = .ok (.getfield 32, 3) := by decide +kernel
theorem dX0_putResult_73 : decode cX0_putResult 73 = .ok (.getfield 135, 3) := by decide +kernel
theorem dX0_putResult_76 : decode cX0_putResult 76 = .ok (.iload_n 1, 1) := by decide +kernel
theorem dX0_putResult_77 : decode cX0_putResult 77 = .ok (.iconst 2, 1) := by decide +kernel
theorem dX0_putResult_78 : decode cX0_putResult 78 = .ok (.invokevirtual 67, 3) := by decide +kernel
theorem dX0_putResult_81 : decode cX0_putResult 81 = .ok (.invokevirtual 99, 3) := by decide +kernel
theorem dX0_putResult_84 : decode cX0_putResult 84 = .ok (.aload_n 0, 1) := by decide +kernel
theorem dX0_putResult_85 : decode cX0_putResult 85 = .ok (.getfield 26, 3) := by decide +kernel
theorem dX0_putResult_88 : decode cX0_putResult 88 = .ok (.iload 4, 2) := by decide +kernel
theorem dX0_putResult_90 : decode cX0_putResult 90 = .ok (.iconst 3, 1) := by decide +kernel
theorem dX0_putResult_91 : decode cX0_putResult 91 = .ok (.iload_n 2, 1) := by decide +kernel
theorem dX0_putResult_92 : decode cX0_putResult 92 = .ok (.invokevirtual 99, 3) := by decide +kernel
theorem dX0_putResult_95 : decode cX0_putResult 95 = .ok (.aload_n 0, 1) := by decide +kernel
theorem dX0_putResult_96 : decode cX0_putResult 96 = .ok (.getfield 26, 3) := by decide +kernel
theorem dX0_putResult_99 : decode cX0_putResult 99 = .ok (.iload 4, 2) := by decide +kernel
theorem dX0_putResult_101 : decode cX0_putResult 101 = .ok (.iconst 4, 1) := by decide +kernel
theorem dX0_putResult_102 : decode cX0_putResult 102 = .ok (.iload_n 3, 1) := by decide +kernel
theorem dX0_putResult_103 : decode cX0_putResult 103 = .ok (.invokevirtual 99, 3) := by decide +kernel
theorem dX0_putResult_106 : decode cX0_putResult 106 = .ok (.return_, 1) := by decide +kernel
theorem dX0_findWatermark_0 : decode cX0_findWatermark 0 = .ok (.iconst 0, 1) := by decide +kernel
theorem dX0_findWatermark_1 : decode cX0_findWatermark 1 = .ok (.istore_n 1, 1) := by decide +kernel
theorem dX0_findWatermark_2 : decode cX0_findWatermark 2 = .ok (.iconst 0, 1) := by decide +kernel
theorem dX0_findWatermark_3 : decode cX0_findWatermark 3 = .ok (.istore_n 2, 1) := by decide +kernel
theorem dX0_findWatermark_4 : decode cX0_findWatermark 4 = .ok (.iconst 0, 1) := by decide +kernel
theorem dX0_findWatermark_5 : decode cX0_findWatermark 5 = .ok (.istore_n 3, 1) := by decide +kernel
theorem dX0_findWatermark_6 : decode cX0_findWatermark 6 = .ok (.iload_n 3, 1) := by decide +kernel
theorem dX0_findWatermark_7 : decode cX0_findWatermark 7 = .ok (.iconst 3, 1) := by decide +kernel
theorem dX0_findWatermark_8 : decode cX0_findWatermark 8 = .ok (.if_icmp .ge 73, 3) := by decide +kernel
theorem dX0_findWatermark_11 : decode cX0_findWatermark 11 = .ok (.aload_n 0, 1) := by decide +kernel
theorem dX0_findWatermark_12 : decode cX0_findWatermark 12 = .ok (.getfield 11, 3) := by decide +kernel
theorem dX0_findWatermark_15 : decode cX0_findWatermark 15 = .ok (.iload_n 3, 1) := by decide +kernel
theorem dX0_findWatermark_16 : decode cX0_findWatermark 16 = .ok (.aaload, 1) := by decide +kernel
theorem dX0_findWatermark_17 : decode cX0_findWatermark 17 = .ok (.getfield 176, 3) := by decide +kernel
theorem dX0_findWatermark_20 : decode cX0_findWatermark 20 = .ok (.ifCond .ne 55, 3) := by decide +kernel
theorem dX0_findWatermark_23 : decode cX0_findWatermark 23 = .ok (.aload_n 0, 1) := by decide +kernel
theorem dX0_findWatermark_24 : decode cX0_findWatermark 24 = .ok (.getfield 32, 3) := by decide +kernel
theorem dX0_findWatermark_27 : decode cX0_findWatermark 27 = .ok (.getfield 63, 3) := by decide +kernel
theorem dX0_findWatermark_30 : decode cX0_findWatermark 30 = .ok (.iload_n 3, 1) := by decide +kernel
theorem dX0_findWatermark_31 : decode cX0_findWatermark 31 = .ok (.iaload, 1) := by decide +kernel
theorem dX0_findWatermark_32 : decode cX0_findWatermark 32 = .ok (.ifCond .ne 4, 3) := by decide +kernel
theorem dX0_findWatermark_35 : decode cX0_findWatermark 35 = .ok (.return_, 1) := by decide +kernel
theorem dX0_findWatermark_36 : decode cX0_findWatermark 36 = .ok (.aload_n 0, 1) := by decide +kernel
theorem dX0_findWatermark_37 : decode cX0_findWatermark 37 = .ok (.getfield 32, 3) := by decide +kernel
theorem dX0_findWatermark_40 : decode cX0_findWatermark 40 = .ok (.getfield 71, 3) := by decide +kernel
theorem dX0_findWatermark_43 : decode cX0_findWatermark 43 = .ok (.iload_n 3, 1) := by decide +kernel
theorem dX0_findWatermark_44 : decode cX0_findWatermark 44 = .ok (.iaload, 1) := by decide +kernel
theorem dX0_findWatermark_45 : decode cX0_findWatermark 45 = .ok (.aload_n 0, 1) := by decide +kernel
theorem dX0_findWatermark_46 : decode cX0_findWatermark 46 = .ok (.getfield 11, 3) := by decide +kernel
theorem dX0_findWatermark_49 : decode cX0_findWatermark 49 = .ok (.iload_n 3, 1) := by decide +kernel
theorem dX0_findWatermark_50 : decode cX0_findWatermark 50 = .ok (.aaload, 1) := by decide +kernel
theorem dX0_findWatermark_51 : decode cX0_findWatermark 51 = .ok (.getfield 179, 3) := by decide +kernel
theorem dX0_findWatermark_54 : decode cX0_findWatermark 54 = .ok (.isub, 1) := by decide +kernel
theorem dX0_findWatermark_55 : decode cX0_findWatermark 55 = .ok (.istore 4, 2) := by decide +kernel
theorem dX0_findWatermark_57 : decode cX0_findWatermark 57 = .ok (.iload_n 1, 1) := by decide +kernel
theorem dX0_findWatermark_58 : decode cX0_findWatermark 58 = .ok (.ifCond .eq 12, 3) := by decide +kernel
theorem dX0_findWatermark_61 : decode cX0_findWatermark 61 = .ok (.iload_n 2, 1) := by decide +kernel
theorem dX0_findWatermark_62 : decode cX0_findWatermark 62 = .ok (.iload 4, 2) := by decide +kernel
theorem dX0_findWatermark_64 : decode cX0_findWatermark 64 = .ok (.invokestatic 151, 3) := by decide +kernel
theorem dX0_findWatermark_67 : decode cX0_findWatermark 67 = .ok (.goto 5, 3) := by decide +kernel
theorem dX0_findWatermark_70 : decode cX0_findWatermark 70 = .ok (.iload 4, 2) := by decide +kernel
theorem dX0_findWatermark_72 : decode cX0_findWatermark 72 = .ok (.istore_n 2, 1) := by decide +kernel
theorem dX0_findWatermark_73 : decode cX0_findWatermark 73 = .ok (.iconst 1, 1) := by decide +kernel
theorem dX0_findWatermark_74 : decode cX0_findWatermark 74 = .ok (.istore_n 1, 1) := by decide +kernel
theorem dX0_findWatermark_75 : decode cX0_findWatermark 75 = .ok (.iinc 3 1, 3) := by decide +kernel
theorem dX0_findWatermark_78 : decode cX0_findWatermark 78 = .ok (.goto (-72), 3) := by decide +kernel
theorem dX0_findWatermark_81 : decode cX0_findWatermark 81 = .ok (.iload_n 1, 1) := by decide +kernel
theorem dX0_findWatermark_82 : decode cX0_findWatermark 82 = .ok (.ifCond .eq 26, 3) := by decide +kernel
theorem dX0_findWatermark_85 : decode cX0_findWatermark 85 = .ok (.iload_n 2, 1) := by decide +kernel
theorem dX0_findWatermark_86 : decode cX0_findWatermark 86 = .ok (.aload_n 0, 1) := by decide +kernel
theorem dX0_findWatermark_87 : decode cX0_findWatermark 87 = .ok (.getfield 32, 3) := by decide +kernel
theorem dX0_findWatermark_90 : decode cX0_findWatermark 90 = .ok (.getfield 57, 3) := by decide +kernel
theorem dX0_findWatermark_93 : decode cX0_findWatermark 93 = .ok (.if_icmp .le 15, 3) := by decide +kernel
theorem dX0_findWatermark_96 : decode cX0_findWatermark 96 = .ok (.aload_n 0, 1) := by decide +kernel
theorem dX0_findWatermark_97 : decode cX0_findWatermark 97 = .ok (.getfield 32, 3) := by decide +kernel
theorem dX0_findWatermark_100 : decode cX0_findWatermark 100 = .ok (.iload_n 2, 1) := by decide +kernel
theorem dX0_findWatermark_101 : decode cX0_findWatermark 101 = .ok (.putfield 57, 3) := by decide +kernel
theorem dX0_findWatermark_104 : decode cX0_findWatermark 104 = .ok (.aload_n 0, 1) := by decide +kernel
theorem dX0_findWatermark_105 : decode cX0_findWatermark 105 = .ok (.invokevirtual 182, 3) := by decide +kernel
theorem dX0_findWatermark_108 : decode cX0_findWatermark 108 = .ok (.return_, 1) := by decide +kernel
theorem dX0_tellAndDrop_0 : decode cX0_tellAndDrop 0 = .ok (.iconst 0, 1) := by decide +kernel
theorem dX0_tellAndDrop_1 : decode cX0_tellAndDrop 1 = .ok (.istore_n 1, 1) := by decide +kernel
theorem dX0_tellAndDrop_2 : decode cX0_tellAndDrop 2 = .ok (.iconst 0, 1) := by decide +kernel
theorem dX0_tellAndDrop_3 : decode cX0_tellAndDrop 3 = .ok (.istore_n 2, 1) := by decide +kernel
theorem dX0_tellAndDrop_4 : decode cX0_tellAndDrop 4 = .ok (.iload_n 2, 1) := by decide +kernel
theorem dX0_tellAndDrop_5 : decode cX0_tellAndDrop 5 = .ok (.aload_n 0, 1) := by decide +kernel
theorem dX0_tellAndDrop_6 : decode cX0_tellAndDrop 6 = .ok (.getfield 32, 3) := by decide +kernel
theorem dX0_tellAndDrop_9 : decode cX0_tellAndDrop 9 = .ok (.getfield 135, 3) := by decide +kernel
theorem dX0_tellAndDrop_12 : decode cX0_tellAndDrop 12 = .ok (.getfield 53, 3) := by decide +kernel
theorem dX0_tellAndDrop_15 : decode cX0_tellAndDrop 15 = .ok (.if_icmp .ge 74, 3) := by decide +kernel
theorem dX0_tellAndDrop_18 : decode cX0_tellAndDrop 18 = .ok (.aload_n 0, 1) := by decide +kernel
theorem dX0_tellAndDrop_19 : decode cX0_tellAndDrop 19 = .ok (.getfield 32, 3) := by decide +kernel
theorem dX0_tellAndDrop_22 : decode cX0_tellAndDrop 22 = .ok (.getfield 135, 3) := by decide +kernel
theorem dX0_tellAndDrop_25 : decode cX0_tellAndDrop 25 = .ok (.iload_n 2, 1) := by decide +kernel
theorem dX0_tellAndDrop_26 : decode cX0_tellAndDrop 26 = .ok (.iconst 2, 1) := by decide +kernel
theorem dX0_tellAndDrop_27 : decode cX0_tellAndDrop 27 = .ok (.invokevirtual 67, 3) := by decide +kernel
theorem dX0_tellAndDrop_30 : decode cX0_tellAndDrop 30 = .ok (.aload_n 0, 1) := by decide +kernel
theorem dX0_tellAndDrop_31 : decode cX0_tellAndDrop 31 = .ok (.getfield 32, 3) := by decide +kernel
theorem dX0_tellAndDrop_34 : decode cX0_tellAndDrop 34 = .ok (.getfield 57, 3) := by decide +kernel
theorem dX0_tellAndDrop_37 : decode cX0_tellAndDrop 37 = .ok (.if_icmp .gt 52, 3) := by decide +kernel
theorem dX0_tellAndDrop_40 : decode cX0_tellAndDrop 40 = .ok (.aload_n 0, 1) := by decide +kernel
theorem dX0_tellAndDrop_41 : decode cX0_tellAndDrop 41 = .ok (.getfield 32, 3) := by decide +kernel
theorem dX0_tellAndDrop_44 : decode cX0_tellAndDrop 44 = .ok (.getfield 135, 3) := by decide +kernel
theorem dX0_tellAndDrop_47 : decode cX0_tellAndDrop 47 = .ok (.iload_n 2, 1) := by decide +kernel
theorem dX0_tellAndDrop_48 : decode cX0_tellAndDrop 48 = .ok (.iconst 4, 1) := by decide +kernel
theorem dX0_tellAndDrop_49 : decode cX0_tellAndDrop 49 = .ok (.invokevirtual 67, 3) := by decide +kernel
theorem dX0_tellAndDrop_52 : decode cX0_tellAndDrop 52 = .ok (.ifCond .ne 8, 3) := by decide +kernel
theorem dX0_tellAndDrop_55 : decode cX0_tellAndDrop 55 = .ok (.aload_n 0, 1) := by decide +kernel
theorem dX0_tellAndDrop_56 : decode cX0_tellAndDrop 56 = .ok (.iload_n 2, 1) := by decide +kernel
theorem dX0_tellAndDrop_57 : decode cX0_tellAndDrop 57 = .ok (.invokevirtual 144, 3) := by decide +kernel
theorem dX0_tellAndDrop_60 : decode cX0_tellAndDrop 60 = .ok (.aload_n 0, 1) := by decide +kernel
theorem dX0_tellAndDrop_61 : decode cX0_tellAndDrop 61 = .ok (.getfield 32, 3) := by decide +kernel
theorem dX0_tellAndDrop_64 : decode cX0_tellAndDrop 64 = .ok (.getfield 135, 3) := by decide +kernel
theorem dX0_tellAndDrop_67 : decode cX0_tellAndDrop 67 = .ok (.iload_n 2, 1) := by decide +kernel
theorem dX0_tellAndDrop_68 : decode cX0_tellAndDrop 68 = .ok (.iconst 2, 1) := by decide +kernel
theorem dX0_tellAndDrop_69 : decode cX0_tellAndDrop 69 = .ok (.invokevirtual 67, 3) := by decide +kernel
theorem dX0_tellAndDrop_72 : decode cX0_tellAndDrop 72 = .ok (.aload_n 0, 1) := by decide +kernel
theorem dX0_tellAndDrop_73 : decode cX0_tellAndDrop 73 = .ok (.invokevirtual 103, 3) := by decide +kernel
theorem dX0_tellAndDrop_76 : decode cX0_tellAndDrop 76 = .ok (.if_icmp .gt 7, 3) := by decide +kernel
theorem dX0_tellAndDrop_79 : decode cX0_tellAndDrop 79 = .ok (.iload_n 2, 1) := by decide +kernel
theorem dX0_tellAndDrop_80 : decode cX0_tellAndDrop 80 = .ok (.iconst 1, 1) := by decide +kernel
theorem dX0_tellAndDrop_81 : decode cX0_tellAndDrop 81 = .ok (.iadd, 1) := by decide +kernel
theorem dX0_tellAndDrop_82 : decode cX0_tellAndDrop 82 = .ok (.istore_n 1, 1) := by decide +kernel
theorem dX0_tellAndDrop_83 : decode cX0_tellAndDrop 83 = .ok (.iinc 2 1, 3) := by decide +kernel
theorem dX0_tellAndDrop_86 : decode cX0_tellAndDrop 86 = .ok (.goto (-82), 3) := by decide +kernel
theorem dX0_tellAndDrop_89 : decode cX0_tellAndDrop 89 = .ok (.aload_n 0, 1) := by decide +kernel
theorem dX0_tellAndDrop_90 : decode cX0_tellAndDrop 90 = .ok (.getfield 32, 3) := by decide +kernel
theorem dX0_tellAndDrop_93 : decode cX0_tellAndDrop 93 = .ok (.getfield 135, 3) := by decide +kernel
theorem dX0_tellAndDrop_96 : decode cX0_tellAndDrop 96 = .ok (.iconst 0, 1) := by decide +kernel
theorem dX0_tellAndDrop_97 : decode cX0_tellAndDrop 97 = .ok (.iload_n 1, 1) := by decide +kernel
theorem dX0_tellAndDrop_98 : decode cX0_tellAndDrop 98 = .ok (.invokevirtual 161, 3) := by decide +kernel
theorem dX0_tellAndDrop_101 : decode cX0_tellAndDrop 101 = .ok (.return_, 1) := by decide +kernel
theorem dX0_totalOfResults_0 : decode cX0_totalOfResults 0 = .ok (.iconst 0, 1) := by decide +kernel
theorem dX0_totalOfResults_1 : decode cX0_totalOfResults 1 = .ok (.istore_n 3, 1) := by decide +kernel
theorem dX0_totalOfResults_2 : decode cX0_totalOfResults 2 = .ok (.iconst 0, 1) := by decide +kernel
theorem dX0_totalOfResults_3 : decode cX0_totalOfResults 3 = .ok (.istore 4, 2) := by decide +kernel
theorem dX0_totalOfResults_5 : decode cX0_totalOfResults 5 = .ok (.iload 4, 2) := by decide +kernel
theorem dX0_totalOfResults_7 : decode cX0_totalOfResults 7 = .ok (.aload_n 0, 1) := by decide +kernel
theorem dX0_totalOfResults_8 : decode cX0_totalOfResults 8 = .ok (.getfield 26, 3) := by decide +kernel
theorem dX0_totalOfResults_11 : decode cX0_totalOfResults 11 = .ok (.getfield 53, 3) := by decide +kernel
theorem dX0_totalOfResults_14 : decode cX0_totalOfResults 14 = .ok (.if_icmp .ge 89, 3) := by decide +kernel
theorem dX0_totalOfResults_17 : decode cX0_totalOfResults 17 = .ok (.aload_n 0, 1) := by decide +kernel
theorem dX0_totalOfResults_18 : decode cX0_totalOfResults 18 = .ok (.getfield 26, 3) := by decide +kernel
theorem dX0_totalOfResults_21 : decode cX0_totalOfResults 21 = .ok (.iload 4, 2) := by decide +kernel
theorem dX0_totalOfResults_23 : decode cX0_totalOfResults 23 = .ok (.iconst 0, 1) := by decide +kernel
theorem dX0_totalOfResults_24 : decode cX0_totalOfResults 24 = .ok (.invokevirtual 67, 3) := by decide +kernel
theorem dX0_totalOfResults_27 : decode cX0_totalOfResults 27 = .ok (.iload_n 1, 1) := by decide +kernel
theorem dX0_totalOfResults_28 : decode cX0_totalOfResults 28 = .ok (.if_icmp .ne 69, 3) := by decide +kernel
theorem dX0_totalOfResults_31 : decode cX0_totalOfResults 31 = .ok (.aload_n 0, 1) := by decide +kernel
theorem dX0_totalOfResults_32 : decode cX0_totalOfResults 32 = .ok (.getfield 26, 3) := by decide +kernel
theorem dX0_totalOfResults_35 : decode cX0_totalOfResults 35 = .ok (.iload 4, 2) := by decide +kernel
theorem dX0_totalOfResults_37 : decode cX0_totalOfResults 37 = .ok (.iconst 1, 1) := by decide +kernel
theorem dX0_totalOfResults_38 : decode cX0_totalOfResults 38 = .ok (.invokevirtual 67, 3) := by decide +kernel
theorem dX0_totalOfResults_41 : decode cX0_totalOfResults 41 = .ok (.iload_n 2, 1) := by decide +kernel
theorem dX0_totalOfResults_42 : decode cX0_totalOfResults 42 = .ok (.if_icmp .ne 55, 3) := by decide +kernel
theorem dX0_totalOfResults_45 : decode cX0_totalOfResults 45 = .ok (.aload_n 0, 1) := by decide +kernel
theorem dX0_totalOfResults_46 : decode cX0_totalOfResults 46 = .ok (.getfield 26, 3) := by decide +kernel
theorem dX0_totalOfResults_49 : decode cX0_totalOfResults 49 = .ok (.iload 4, 2) := by decide +kernel
theorem dX0_totalOfResults_51 : decode cX0_totalOfResults 51 = .ok (.iconst 3, 1) := by decide +kernel
theorem dX0_totalOfResults_52 : decode cX0_totalOfResults 52 = .ok (.invokevirtual 67, 3) := by decide +kernel
theorem dX0_totalOfResults_55 : decode cX0_totalOfResults 55 = .ok (.istore 5, 2) := by decide +kernel
theorem dX0_totalOfResults_57 : decode cX0_totalOfResults 57 = .ok (.aload_n 0, 1) := by decide +kernel
theorem dX0_totalOfResults_58 : decode cX0_totalOfResults 58 = .ok (.getfield 26, 3) := by decide +kernel
theorem dX0_totalOfResults_61 : decode cX0_totalOfResults 61 = .ok (.iload 4, 2) := by decide +kernel
theorem dX0_totalOfResults_63 : decode cX0_totalOfResults 63 = .ok (.iconst 4, 1) := by decide +kernel
theorem dX0_totalOfResults_64 : decode cX0_totalOfResults 64 = .ok (.invokevirtual 67, 3) := by decide +kernel
theorem dX0_totalOfResults_67 : decode cX0_totalOfResults 67 = .ok (.istore 6, 2) := by decide +kernel
theorem dX0_totalOfResults_69 : decode cX0_totalOfResults 69 = .ok (.iload 6, 2) := by decide +kernel
theorem dX0_totalOfResults_71 : decode cX0_totalOfResults 71 = .ok (.ifCond .ne 8, 3) := by decide +kernel
theorem dX0_totalOfResults_74 : decode cX0_totalOfResults 74 = .ok (.iload 5, 2) := by decide +kernel
theorem dX0_totalOfResults_76 : decode cX0_totalOfResults 76 = .ok (.goto 20, 3) := by decide +kernel
theorem dX0_totalOfResults_79 : decode cX0_totalOfResults 79 = .ok (.iload 6, 2) := by decide +kernel
theorem dX0_totalOfResults_81 : decode cX0_totalOfResults 81 = .ok (.iconst 1, 1) := by decide +kernel
theorem dX0_totalOfResults_82 : decode cX0_totalOfResults 82 = .ok (.if_icmp .ne 10, 3) := by decide +kernel
theorem dX0_totalOfResults_85 : decode cX0_totalOfResults 85 = .ok (.iload_n 3, 1) := by decide +kernel
theorem dX0_totalOfResults_86 : decode cX0_totalOfResults 86 = .ok (.iload 5, 2) := by decide +kernel
theorem dX0_totalOfResults_88 : decode cX0_totalOfResults 88 = .ok (.iadd, 1) := by decide +kernel
theorem dX0_totalOfResults_89 : decode cX0_totalOfResults 89 = .ok (.goto 7, 3) := by decide +kernel
theorem dX0_totalOfResults_92 : decode cX0_totalOfResults 92 = .ok (.iload_n 3, 1) := by decide +kernel
theorem dX0_totalOfResults_93 : decode cX0_totalOfResults 93 = .ok (.iload 5, 2) := by decide +kernel
theorem dX0_totalOfResults_95 : decode cX0_totalOfResults 95 = .ok (.isub, 1) := by decide +kernel
theorem dX0_totalOfResults_96 : decode cX0_totalOfResults 96 = .ok (.istore_n 3, 1) := by decide +kernel
theorem dX0_totalOfResults_97 : decode cX0_totalOfResults 97 = .ok (.iinc 4 1, 3) := by decide +kernel
theorem dX0_totalOfResults_100 : decode cX0_totalOfResults 100 = .ok (.goto (-95), 3) := by decide +kernel
theorem dX0_totalOfResults_103 : decode cX0_totalOfResults 103 = .ok (.iload_n 3, 1) := by decide +kernel
theorem dX0_totalOfResults_104 : decode cX0_totalOfResults 104 = .ok (.ireturn, 1) := by decide +kernel
theorem dX0_totalOfEvents_0 : decode cX0_totalOfEvents 0 = .ok (.iload_n 2, 1) := by decide +kernel
theorem dX0_totalOfEvents_1 : decode cX0_totalOfEvents 1 = .ok (.ifCond .lt 52, 3) := by decide +kernel
theorem dX0_totalOfEvents_4 : decode cX0_totalOfEvents 4 = .ok (.iload_n 2, 1) := by decide +kernel
theorem dX0_totalOfEvents_5 : decode cX0_totalOfEvents 5 = .ok (.sipush 999, 3) := by decide +kernel
theorem dX0_totalOfEvents_8 : decode cX0_totalOfEvents 8 = .ok (.if_icmp .gt 45, 3) := by decide +kernel
theorem dX0_totalOfEvents_11 : decode cX0_totalOfEvents 11 = .ok (.aload_n 0, 1) := by decide +kernel
theorem dX0_totalOfEvents_12 : decode cX0_totalOfEvents 12 = .ok (.getfield 39, 3) := by decide +kernel
theorem dX0_totalOfEvents_15 : decode cX0_totalOfEvents 15 = .ok (.getfield 116, 3) := by decide +kernel
theorem dX0_totalOfEvents_18 : decode cX0_totalOfEvents 18 = .ok (.iconst 1, 1) := by decide +kernel
theorem dX0_totalOfEvents_19 : decode cX0_totalOfEvents 19 = .ok (.if_icmp .lt 34, 3) := by decide +kernel
theorem dX0_totalOfEvents_22 : decode cX0_totalOfEvents 22 = .ok (.iload_n 2, 1) := by decide +kernel
theorem dX0_totalOfEvents_23 : decode cX0_totalOfEvents 23 = .ok (.aload_n 0, 1) := by decide +kernel
theorem dX0_totalOfEvents_24 : decode cX0_totalOfEvents 24 = .ok (.getfield 39, 3) := by decide +kernel
theorem dX0_totalOfEvents_27 : decode cX0_totalOfEvents 27 = .ok (.getfield 116, 3) := by decide +kernel
theorem dX0_totalOfEvents_30 : decode cX0_totalOfEvents 30 = .ok (.irem, 1) := by decide +kernel
theorem dX0_totalOfEvents_31 : decode cX0_totalOfEvents 31 = .ok (.ifCond .ne 22, 3) := by decide +kernel
theorem dX0_totalOfEvents_34 : decode cX0_totalOfEvents 34 = .ok (.iload_n 2, 1) := by decide +kernel
theorem dX0_totalOfEvents_35 : decode cX0_totalOfEvents 35 = .ok (.aload_n 0, 1) := by decide +kernel
theorem dX0_totalOfEvents_36 : decode cX0_totalOfEvents 36 = .ok (.getfield 39, 3) := by decide +kernel
theorem dX0_totalOfEvents_39 : decode cX0_totalOfEvents 39 = .ok (.getfield 119, 3) := by decide +kernel
theorem dX0_totalOfEvents_42 : decode cX0_totalOfEvents 42 = .ok (.iadd, 1) := by decide +kernel
theorem dX0_totalOfEvents_43 : decode cX0_totalOfEvents 43 = .ok (.aload_n 0, 1) := by decide +kernel
theorem dX0_totalOfEvents_44 : decode cX0_totalOfEvents 44 = .ok (.getfield 32, 3) := by decide +kernel
theorem dX0_totalOfEvents_47 : decode cX0_totalOfEvents 47 = .ok (.getfield 57, 3) := by decide +kernel
theorem dX0_totalOfEvents_50 : decode cX0_totalOfEvents 50 = .ok (.if_icmp .le 5, 3) := by decide +kernel
theorem dX0_totalOfEvents_53 : decode cX0_totalOfEvents 53 = .ok (.iconst 0, 1) := by decide +kernel
theorem dX0_totalOfEvents_54 : decode cX0_totalOfEvents 54 = .ok (.ireturn, 1) := by decide +kernel
theorem dX0_totalOfEvents_55 : decode cX0_totalOfEvents 55 = .ok (.iconst 0, 1) := by decide +kernel
theorem dX0_totalOfEvents_56 : decode cX0_totalOfEvents 56 = .ok (.istore_n 3, 1) := by decide +kernel
theorem dX0_totalOfEvents_57 : decode cX0_totalOfEvents 57 = .ok (.iconst 1, 1) := by decide +kernel
theorem dX0_totalOfEvents_58 : decode cX0_totalOfEvents 58 = .ok (.istore 4, 2) := by decide +kernel
theorem dX0_totalOfEvents_60 : decode cX0_totalOfEvents 60 = .ok (.iconst 0, 1) := by decide +kernel
theorem dX0_totalOfEvents_61 : decode cX0_totalOfEvents 61 = .ok (.istore 5, 2) := by decide +kernel
theorem dX0_totalOfEvents_63 : decode cX0_totalOfEvents 63 = .ok (.iload 5, 2) := by decide +kernel
theorem dX0_totalOfEvents_65 : decode cX0_totalOfEvents 65 = .ok (.iconst 3, 1) := by decide +kernel
theorem dX0_totalOfEvents_66 : decode cX0_totalOfEvents 66 = .ok (.if_icmp .ge 92, 3) := by decide +kernel
theorem dX0_totalOfEvents_69 : decode cX0_totalOfEvents 69 = .ok (.aload_n 0, 1) := by decide +kernel
theorem dX0_totalOfEvents_70 : decode cX0_totalOfEvents 70 = .ok (.getfield 11, 3) := by decide +kernel
theorem dX0_totalOfEvents_73 : decode cX0_totalOfEvents 73 = .ok (.iload 5, 2) := by decide +kernel
theorem dX0_totalOfEvents_75 : decode cX0_totalOfEvents 75 = .ok (.aaload, 1) := by decide +kernel
theorem dX0_totalOfEvents_76 : decode cX0_totalOfEvents 76 = .ok (.getfield 50, 3) := by decide +kernel
theorem dX0_totalOfEvents_79 : decode cX0_totalOfEvents 79 = .ok (.astore 6, 2) := by decide +kernel
theorem dX0_totalOfEvents_81 : decode cX0_totalOfEvents 81 = .ok (.iconst 0, 1) := by decide +kernel
theorem dX0_totalOfEvents_82 : decode cX0_totalOfEvents 82 = .ok (.istore 7, 2) := by decide +kernel
theorem dX0_totalOfEvents_84 : decode cX0_totalOfEvents 84 = .ok (.iload 7, 2) := by decide +kernel
theorem dX0_totalOfEvents_86 : decode cX0_totalOfEvents 86 = .ok (.aload_n 0, 1) := by decide +kernel
theorem dX0_totalOfEvents_87 : decode cX0_totalOfEvents 87 = .ok (.getfield 32, 3) := by decide +kernel
theorem dX0_totalOfEvents_90 : decode cX0_totalOfEvents 90 = .ok (.getfield 63, 3) := by decide +kernel
theorem dX0_totalOfEvents_93 : decode cX0_totalOfEvents 93 = .ok (.iload 5, 2) := by decide +kernel
theorem dX0_totalOfEvents_95 : decode cX0_totalOfEvents 95 = .ok (.iaload, 1) := by decide +kernel
theorem dX0_totalOfEvents_96 : decode cX0_totalOfEvents 96 = .ok (.if_icmp .ge 56, 3) := by decide +kernel
theorem dX0_totalOfEvents_99 : decode cX0_totalOfEvents 99 = .ok (.aload_n 0, 1) := by decide +kernel
theorem dX0_totalOfEvents_100 : decode cX0_totalOfEvents 100 = .ok (.aload 6, 2) := by decide +kernel
theorem dX0_totalOfEvents_102 : decode cX0_totalOfEvents 102 = .ok (.iload 7, 2) := by decide +kernel
theorem dX0_totalOfEvents_104 : decode cX0_totalOfEvents 104 = .ok (.iload_n 1, 1) := by decide +kernel
theorem dX0_totalOfEvents_105 : decode cX0_totalOfEvents 105 = .ok (.iload_n 2, 1) := by decide +kernel
theorem dX0_totalOfEvents_106 : decode cX0_totalOfEvents 106 = .ok (.invokevirtual 185, 3) := by decide +kernel
theorem dX0_totalOfEvents_109 : decode cX0_totalOfEvents 109 = .ok (.ifCond .eq 37, 3) := by decide +kernel
theorem dX0_totalOfEvents_112 : decode cX0_totalOfEvents 112 = .ok (.aload 6, 2) := by decide +kernel
theorem dX0_totalOfEvents_114 : decode cX0_totalOfEvents 114 = .ok (.iload 7, 2) := by decide +kernel
theorem dX0_totalOfEvents_116 : decode cX0_totalOfEvents 116 = .ok (.iconst 4, 1) := by decide +kernel
theorem dX0_totalOfEvents_117 : decode cX0_totalOfEvents 117 = .ok (.invokevirtual 67, 3) := by decide +kernel
theorem dX0_totalOfEvents_120 : decode cX0_totalOfEvents 120 = .ok (.istore 8, 2) := by decide +kernel
theorem dX0_totalOfEvents_122 : decode cX0_totalOfEvents 122 = .ok (.iload 4, 2) := by decide +kernel
theorem dX0_totalOfEvents_124 : decode cX0_totalOfEvents 124 = .ok (.ifCond .eq 8, 3) := by decide +kernel
theorem dX0_totalOfEvents_127 : decode cX0_totalOfEvents 127 = .ok (.iload 8, 2) := by decide +kernel
theorem dX0_totalOfEvents_129 : decode cX0_totalOfEvents 129 = .ok (.goto 13, 3) := by decide +kernel
theorem dX0_totalOfEvents_132 : decode cX0_totalOfEvents 132 = .ok (.aload_n 0, 1) := by decide +kernel
theorem dX0_totalOfEvents_133 : decode cX0_totalOfEvents 133 = .ok (.getfield 39, 3) := by decide +kernel
theorem dX0_totalOfEvents_136 : decode cX0_totalOfEvents 136 = .ok (.iload_n 3, 1) := by decide +kernel
theorem dX0_totalOfEvents_137 : decode cX0_totalOfEvents 137 = .ok (.iload 8, 2) := by decide +kernel
theorem dX0_totalOfEvents_139 : decode cX0_totalOfEvents 139 = .ok (.invokevirtual 138, 3) := by decide +kernel
theorem dX0_totalOfEvents_142 : decode cX0_totalOfEvents 142 = .ok (.istore_n 3, 1) := by decide +kernel
theorem dX0_totalOfEvents_143 : decode cX0_totalOfEvents 143 = .ok (.iconst 0, 1) := by decide +kernel
theorem dX0_totalOfEvents_144 : decode cX0_totalOfEvents 144 = .ok (.istore 4, 2) := by decide +kernel
theorem dX0_totalOfEvents_146 : decode cX0_totalOfEvents 146 = .ok (.iinc 7 1, 3) := by decide +kernel
theorem dX0_totalOfEvents_149 : decode cX0_totalOfEvents 149 = .ok (.goto (-65), 3) := by decide +kernel
theorem dX0_totalOfEvents_152 : decode cX0_totalOfEvents 152 = .ok (.iinc 5 1, 3) := by decide +kernel
theorem dX0_totalOfEvents_155 : decode cX0_totalOfEvents 155 = .ok (.goto (-92), 3) := by decide +kernel
theorem dX0_totalOfEvents_158 : decode cX0_totalOfEvents 158 = .ok (.iload_n 3, 1) := by decide +kernel
theorem dX0_totalOfEvents_159 : decode cX0_totalOfEvents 159 = .ok (.ireturn, 1) := by decide +kernel
theorem dX0_isIn_0 : decode cX0_isIn 0 = .ok (.iload 4, 2) := by decide +kernel
theorem dX0_isIn_2 : decode cX0_isIn 2 = .ok (.aload_n 0, 1) := by decide +kernel
theorem dX0_isIn_3 : decode cX0_isIn 3 = .ok (.getfield 39, 3) := by decide +kernel
theorem dX0_isIn_6 : decode cX0_isIn 6 = .ok (.getfield 119, 3) := by decide +kernel
theorem dX0_isIn_9 : decode cX0_isIn 9 = .ok (.iadd, 1) := by decide +kernel
theorem dX0_isIn_10 : decode cX0_isIn 10 = .ok (.istore 5, 2) := by decide +kernel
theorem dX0_isIn_12 : decode cX0_isIn 12 = .ok (.aload_n 1, 1) := by decide +kernel
theorem dX0_isIn_13 : decode cX0_isIn 13 = .ok (.iload_n 2, 1) := by decide +kernel
theorem dX0_isIn_14 : decode cX0_isIn 14 = .ok (.iconst 3, 1) := by decide +kernel
theorem dX0_isIn_15 : decode cX0_isIn 15 = .ok (.invokevirtual 67, 3) := by decide +kernel
theorem dX0_isIn_18 : decode cX0_isIn 18 = .ok (.iconst 1, 1) := by decide +kernel
theorem dX0_isIn_19 : decode cX0_isIn 19 = .ok (.if_icmp .ne 50, 3) := by decide +kernel
theorem dX0_isIn_22 : decode cX0_isIn 22 = .ok (.aload_n 1, 1) := by decide +kernel
theorem dX0_isIn_23 : decode cX0_isIn 23 = .ok (.iload_n 2, 1) := by decide +kernel
theorem dX0_isIn_24 : decode cX0_isIn 24 = .ok (.iconst 0, 1) := by decide +kernel
theorem dX0_isIn_25 : decode cX0_isIn 25 = .ok (.invokevirtual 67, 3) := by decide +kernel
theorem dX0_isIn_28 : decode cX0_isIn 28 = .ok (.iload_n 3, 1) := by decide +kernel
theorem dX0_isIn_29 : decode cX0_isIn 29 = .ok (.if_icmp .ne 40, 3) := by decide +kernel
theorem dX0_isIn_32 : decode cX0_isIn 32 = .ok (.aload_n 1, 1) := by decide +kernel
theorem dX0_isIn_33 : decode cX0_isIn 33 = .ok (.iload_n 2, 1) := by decide +kernel
theorem dX0_isIn_34 : decode cX0_isIn 34 = .ok (.iconst 1, 1) := by decide +kernel
theorem dX0_isIn_35 : decode cX0_isIn 35 = .ok (.invokevirtual 67, 3) := by decide +kernel
theorem dX0_isIn_38 : decode cX0_isIn 38 = .ok (.iload 4, 2) := by decide +kernel
theorem dX0_isIn_40 : decode cX0_isIn 40 = .ok (.if_icmp .lt 29, 3) := by decide +kernel
theorem dX0_isIn_43 : decode cX0_isIn 43 = .ok (.aload_n 1, 1) := by decide +kernel
theorem dX0_isIn_44 : decode cX0_isIn 44 = .ok (.iload_n 2, 1) := by decide +kernel
theorem dX0_isIn_45 : decode cX0_isIn 45 = .ok (.iconst 1, 1) := by decide +kernel
theorem dX0_isIn_46 : decode cX0_isIn 46 = .ok (.invokevirtual 67, 3) := by decide +kernel
theorem dX0_isIn_49 : decode cX0_isIn 49 = .ok (.iload 5, 2) := by decide +kernel
theorem dX0_isIn_51 : decode cX0_isIn 51 = .ok (.if_icmp .ge 18, 3) := by decide +kernel
theorem dX0_isIn_54 : decode cX0_isIn 54 = .ok (.iload 5, 2) := by decide +kernel
theorem dX0_isIn_56 : decode cX0_isIn 56 = .ok (.aload_n 1, 1) := by decide +kernel
theorem dX0_isIn_57 : decode cX0_isIn 57 = .ok (.iload_n 2, 1) := by decide +kernel
theorem dX0_isIn_58 : decode cX0_isIn 58 = .ok (.iconst 5, 1) := by decide +kernel
theorem dX0_isIn_59 : decode cX0_isIn 59 = .ok (.invokevirtual 67, 3) := by decide +kernel
theorem dX0_isIn_62 : decode cX0_isIn 62 = .ok (.if_icmp .le 7, 3) := by decide +kernel
theorem dX0_isIn_65 : decode cX0_isIn 65 = .ok (.iconst 1, 1) := by decide +kernel
theorem dX0_isIn_66 : decode cX0_isIn 66 = .ok (.goto 4, 3) := by decide +kernel
theorem dX0_isIn_69 : decode cX0_isIn 69 = .ok (.iconst 0, 1) := by decide +kernel
theorem dX0_isIn_70 : decode cX0_isIn 70 = .ok (.ireturn, 1) := by decide +kernel
theorem dX1_init_0 : decode cX1_init 0 = .ok (.aload_n 0, 1) := by decide +kernel
theorem dX1_init_1 : decode cX1_init 1 = .ok (.invokespecial 3, 3) := by decide +kernel
theorem dX1_init_4 : decode cX1_init 4 = .ok (.aload_n 0, 1) := by decide +kernel
theorem dX1_init_5 : decode cX1_init 5 = .ok (.new 9, 3) := by decide +kernel
theorem dX1_init_8 : decode cX1_init 8 = .ok (.dup, 1) := by decide +kernel
theorem dX1_init_9 : decode cX1_init 9 = .ok (.bipush 6, 2) := by decide +kernel
theorem dX1_init_11 : decode cX1_init 11 = .ok (.invokespecial 11, 3) := by decide +kernel
theorem dX1_init_14 : decode cX1_init 14 = .ok (.putfield 14, 3) := by decide +kernel
theorem dX1_init_17 : decode cX1_init 17 = .ok (.aload_n 0, 1) := by decide +kernel
theorem dX1_init_18 : decode cX1_init 18 = .ok (.iconst 0, 1) := by decide +kernel
theorem dX1_init_19 : decode cX1_init 19 = .ok (.putfield 20, 3) := by decide +kernel
theorem dX1_init_22 : decode cX1_init 22 = .ok (.aload_n 0, 1) := by decide +kernel
theorem dX1_init_23 : decode cX1_init 23 = .ok (.iconst 0, 1) := by decide +kernel
theorem dX1_init_24 : decode cX1_init 24 = .ok (.putfield 24, 3) := by decide +kernel
theorem dX1_init_27 : decode cX1_init 27 = .ok (.return_, 1) := by decide +kernel
theorem dX2_init_0 : decode cX2_init 0 = .ok (.aload_n 0, 1) := by decide +kernel
theorem dX2_init_1 : decode cX2_init 1 = .ok (.invokespecial 3, 3) := by decide +kernel
theorem dX2_init_4 : decode cX2_init 4 = .ok (.aload_n 0, 1) := by decide +kernel
theorem dX2_init_5 : decode cX2_init 5 = .ok (.getstatic 9, 3) := by decide +kernel
theorem dX2_init_8 : decode cX2_init 8 = .ok (.putfield 15, 3) := by decide +kernel
theorem dX2_init_11 : decode cX2_init 11 = .ok (.aload_n 0, 1) := by decide +kernel
theorem dX2_init_12 : decode cX2_init 12 = .ok (.getstatic 20, 3) := by decide +kernel
theorem dX2_init_15 : decode cX2_init 15 = .ok (.putfield 23, 3) := by decide +kernel
theorem dX2_init_18 : decode cX2_init 18 = .ok (.aload_n 0, 1) := by decide +kernel
theorem dX2_init_19 : decode cX2_init 19 = .ok (.iconst 0, 1) := by decide +kernel
theorem dX2_init_20 : decode cX2_init 20 = .ok (.putfield 26, 3) := by decide +kernel
theorem dX2_init_23 : decode cX2_init 23 = .ok (.aload_n 0, 1) := by decide +kernel
theorem dX2_init_24 : decode cX2_init 24 = .ok (.iconst 0, 1) := by decide +kernel
theorem dX2_init_25 : decode cX2_init 25 = .ok (.putfield 30, 3) := by decide +kernel
theorem dX2_init_28 : decode cX2_init 28 = .ok (.aload_n 0, 1) := by decide +kernel
theorem dX2_init_29 : decode cX2_init 29 = .ok (.getstatic 34, 3) := by decide +kernel
theorem dX2_init_32 : decode cX2_init 32 = .ok (.putfield 37, 3) := by decide +kernel
theorem dX2_init_35 : decode cX2_init 35 = .ok (.aload_n 0, 1) := by decide +kernel
theorem dX2_init_36 : decode cX2_init 36 = .ok (.iconst 1, 1) := by decide +kernel
theorem dX2_init_37 : decode cX2_init 37 = .ok (.putfield 40, 3) := by decide +kernel
theorem dX2_init_40 : decode cX2_init 40 = .ok (.aload_n 0, 1) := by decide +kernel
theorem dX2_init_41 : decode cX2_init 41 = .ok (.iconst 1, 1) := by decide +kernel
theorem dX2_init_42 : decode cX2_init 42 = .ok (.putfield 43, 3) := by decide +kernel
theorem dX2_init_45 : decode cX2_init 45 = .ok (.aload_n 0, 1) := by decide +kernel
theorem dX2_init_46 : decode cX2_init 46 = .ok (.iconst 0, 1) := by decide +kernel
theorem dX2_init_47 : decode cX2_init 47 = .ok (.putfield 46, 3) := by decide +kernel
theorem dX2_init_50 : decode cX2_init 50 = .ok (.aload_n 0, 1) := by decide +kernel
theorem dX2_init_51 : decode cX2_init 51 = .ok (.getstatic 49, 3) := by decide +kernel
theorem dX2_init_54 : decode cX2_init 54 = .ok (.putfield 52, 3) := by decide +kernel
theorem dX2_init_57 : decode cX2_init 57 = .ok (.return_, 1) := by decide +kernel
theorem dX2_isFit_0 : decode cX2_isFit 0 = .ok (.aload_n 0, 1) := by decide +kernel
theorem dX2_isFit_1 : decode cX2_isFit 1 = .ok (.getfield 37, 3) := by decide +kernel
theorem dX2_isFit_4 : decode cX2_isFit 4 = .ok (.getstatic 55, 3) := by decide +kernel
theorem dX2_isFit_7 : decode cX2_isFit 7 = .ok (.if_acmp .eq 5, 3) := by decide +kernel
theorem dX2_isFit_10 : decode cX2_isFit 10 = .ok (.iconst 1, 1) := by decide +kernel
theorem dX2_isFit_11 : decode cX2_isFit 11 = .ok (.ireturn, 1) := by decide +kernel
theorem dX2_isFit_12 : decode cX2_isFit 12 = .ok (.aload_n 0, 1) := by decide +kernel
theorem dX2_isFit_13 : decode cX2_isFit 13 = .ok (.getfield 43, 3) := by decide +kernel
theorem dX2_isFit_16 : decode cX2_isFit 16 = .ok (.ifCond .le 32, 3) := by decide +kernel
theorem dX2_isFit_19 : decode cX2_isFit 19 = .ok (.aload_n 0, 1) := by decide +kernel
theorem dX2_isFit_20 : decode cX2_isFit 20 = .ok (.getfield 40, 3) := by decide +kernel
theorem dX2_isFit_23 : decode cX2_isFit 23 = .ok (.aload_n 0, 1) := by decide +kernel
theorem dX2_isFit_24 : decode cX2_isFit 24 = .ok (.getfield 43, 3) := by decide +kernel
theorem dX2_isFit_27 : decode cX2_isFit 27 = .ok (.irem, 1) := by decide +kernel
theorem dX2_isFit_28 : decode cX2_isFit 28 = .ok (.ifCond .ne 20, 3) := by decide +kernel
theorem dX2_isFit_31 : decode cX2_isFit 31 = .ok (.aload_n 0, 1) := by decide +kernel
theorem dX2_isFit_32 : decode cX2_isFit 32 = .ok (.getfield 40, 3) := by decide +kernel
theorem dX2_isFit_35 : decode cX2_isFit 35 = .ok (.iconst 4, 1) := by decide +kernel
theorem dX2_isFit_36 : decode cX2_isFit 36 = .ok (.aload_n 0, 1) := by decide +kernel
theorem dX2_isFit_37 : decode cX2_isFit 37 = .ok (.getfield 43, 3) := by decide +kernel
theorem dX2_isFit_40 : decode cX2_isFit 40 = .ok (.imul, 1) := by decide +kernel
theorem dX2_isFit_41 : decode cX2_isFit 41 = .ok (.if_icmp .gt 7, 3) := by decide +kernel
theorem dX2_isFit_44 : decode cX2_isFit 44 = .ok (.iconst 1, 1) := by decide +kernel
theorem dX2_isFit_45 : decode cX2_isFit 45 = .ok (.goto 4, 3) := by decide +kernel
theorem dX2_isFit_48 : decode cX2_isFit 48 = .ok (.iconst 0, 1) := by decide +kernel
theorem dX2_isFit_49 : decode cX2_isFit 49 = .ok (.ireturn, 1) := by decide +kernel
theorem dX2_canFollow_0 : decode cX2_canFollow 0 = .ok (.aload_n 0, 1) := by decide +kernel
theorem dX2_canFollow_1 : decode cX2_canFollow 1 = .ok (.getfield 15, 3) := by decide +kernel
theorem dX2_canFollow_4 : decode cX2_canFollow 4 = .ok (.aload_n 1, 1) := by decide +kernel
theorem dX2_canFollow_5 : decode cX2_canFollow 5 = .ok (.getfield 15, 3) := by decide +kernel
theorem dX2_canFollow_8 : decode cX2_canFollow 8 = .ok (.if_acmp .ne 51, 3) := by decide +kernel
theorem dX2_canFollow_11 : decode cX2_canFollow 11 = .ok (.aload_n 0, 1) := by decide +kernel
theorem dX2_canFollow_12 : decode cX2_canFollow 12 = .ok (.getfield 37, 3) := by decide +kernel
theorem dX2_canFollow_15 : decode cX2_canFollow 15 = .ok (.aload_n 1, 1) := by decide +kernel
theorem dX2_canFollow_16 : decode cX2_canFollow 16 = .ok (.getfield 37, 3) := by decide +kernel
theorem dX2_canFollow_19 : decode cX2_canFollow 19 = .ok (.if_acmp .ne 40, 3) := by decide +kernel
theorem dX2_canFollow_22 : decode cX2_canFollow 22 = .ok (.aload_n 0, 1) := by decide +kernel
theorem dX2_canFollow_23 : decode cX2_canFollow 23 = .ok (.getfield 40, 3) := by decide +kernel
theorem dX2_canFollow_26 : decode cX2_canFollow 26 = .ok (.aload_n 1, 1) := by decide +kernel
theorem dX2_canFollow_27 : decode cX2_canFollow 27 = .ok (.getfield 40, 3) := by decide +kernel
theorem dX2_canFollow_30 : decode cX2_canFollow 30 = .ok (.if_icmp .ne 29, 3) := by decide +kernel
theorem dX2_canFollow_33 : decode cX2_canFollow 33 = .ok (.aload_n 0, 1) := by decide +kernel
theorem dX2_canFollow_34 : decode cX2_canFollow 34 = .ok (.getfield 43, 3) := by decide +kernel
theorem dX2_canFollow_37 : decode cX2_canFollow 37 = .ok (.aload_n 1, 1) := by decide +kernel
theorem dX2_canFollow_38 : decode cX2_canFollow 38 = .ok (.getfield 43, 3) := by decide +kernel
theorem dX2_canFollow_41 : decode cX2_canFollow 41 = .ok (.if_icmp .ne 18, 3) := by decide +kernel
theorem dX2_canFollow_44 : decode cX2_canFollow 44 = .ok (.aload_n 0, 1) := by decide +kernel
theorem dX2_canFollow_45 : decode cX2_canFollow 45 = .ok (.getfield 46, 3) := by decide +kernel
theorem dX2_canFollow_48 : decode cX2_canFollow 48 = .ok (.aload_n 1, 1) := by decide +kernel
theorem dX2_canFollow_49 : decode cX2_canFollow 49 = .ok (.getfield 46, 3) := by decide +kernel
theorem dX2_canFollow_52 : decode cX2_canFollow 52 = .ok (.if_icmp .gt 7, 3) := by decide +kernel
theorem dX2_canFollow_55 : decode cX2_canFollow 55 = .ok (.iconst 1, 1) := by decide +kernel
theorem dX2_canFollow_56 : decode cX2_canFollow 56 = .ok (.goto 4, 3) := by decide +kernel
theorem dX2_canFollow_59 : decode cX2_canFollow 59 = .ok (.iconst 0, 1) := by decide +kernel
theorem dX2_canFollow_60 : decode cX2_canFollow 60 = .ok (.ireturn, 1) := by decide +kernel
theorem dX2_lets_0 : decode cX2_lets 0 = .ok (.aload_n 0, 1) := by decide +kernel
theorem dX2_lets_1 : decode cX2_lets 1 = .ok (.getfield 23, 3) := by decide +kernel
theorem dX2_lets_4 : decode cX2_lets 4 = .ok (.getstatic 58, 3) := by decide +kernel
theorem dX2_lets_7 : decode cX2_lets 7 = .ok (.if_acmp .ne 17, 3) := by decide +kernel
theorem dX2_lets_10 : decode cX2_lets 10 = .ok (.iload_n 1, 1) := by decide +kernel
theorem dX2_lets_11 : decode cX2_lets 11 = .ok (.aload_n 0, 1) := by decide +kernel
theorem dX2_lets_12 : decode cX2_lets 12 = .ok (.getfield 26, 3) := by decide +kernel
theorem dX2_lets_15 : decode cX2_lets 15 = .ok (.if_icmp .ge 7, 3) := by decide +kernel
theorem dX2_lets_18 : decode cX2_lets 18 = .ok (.iconst 1, 1) := by decide +kernel
theorem dX2_lets_19 : decode cX2_lets 19 = .ok (.goto 4, 3) := by decide +kernel
theorem dX2_lets_22 : decode cX2_lets 22 = .ok (.iconst 0, 1) := by decide +kernel
theorem dX2_lets_23 : decode cX2_lets 23 = .ok (.ireturn, 1) := by decide +kernel
theorem dX2_lets_24 : decode cX2_lets 24 = .ok (.aload_n 0, 1) := by decide +kernel
theorem dX2_lets_25 : decode cX2_lets 25 = .ok (.getfield 23, 3) := by decide +kernel
theorem dX2_lets_28 : decode cX2_lets 28 = .ok (.getstatic 61, 3) := by decide +kernel
theorem dX2_lets_31 : decode cX2_lets 31 = .ok (.if_acmp .ne 17, 3) := by decide +kernel
theorem dX2_lets_34 : decode cX2_lets 34 = .ok (.iload_n 1, 1) := by decide +kernel
theorem dX2_lets_35 : decode cX2_lets 35 = .ok (.aload_n 0, 1) := by decide +kernel
theorem dX2_lets_36 : decode cX2_lets 36 = .ok (.getfield 26, 3) := by decide +kernel
theorem dX2_lets_39 : decode cX2_lets 39 = .ok (.if_icmp .ne 7, 3) := by decide +kernel
theorem dX2_lets_42 : decode cX2_lets 42 = .ok (.iconst 1, 1) := by decide +kernel
theorem dX2_lets_43 : decode cX2_lets 43 = .ok (.goto 4, 3) := by decide +kernel
theorem dX2_lets_46 : decode cX2_lets 46 = .ok (.iconst 0, 1) := by decide +kernel
theorem dX2_lets_47 : decode cX2_lets 47 = .ok (.ireturn, 1) := by decide +kernel
theorem dX2_lets_48 : decode cX2_lets 48 = .ok (.aload_n 0, 1) := by decide +kernel
theorem dX2_lets_49 : decode cX2_lets 49 = .ok (.getfield 23, 3) := by decide +kernel
theorem dX2_lets_52 : decode cX2_lets 52 = .ok (.getstatic 64, 3) := by decide +kernel
theorem dX2_lets_55 : decode cX2_lets 55 = .ok (.if_acmp .ne 11, 3) := by decide +kernel
theorem dX2_lets_58 : decode cX2_lets 58 = .ok (.iload_n 1, 1) := by decide +kernel
theorem dX2_lets_59 : decode cX2_lets 59 = .ok (.aload_n 0, 1) := by decide +kernel
theorem dX2_lets_60 : decode cX2_lets 60 = .ok (.getfield 26, 3) := by decide +kernel
theorem dX2_lets_63 : decode cX2_lets 63 = .ok (.if_icmp .le 7, 3) := by decide +kernel
theorem dX2_lets_66 : decode cX2_lets 66 = .ok (.iconst 1, 1) := by decide +kernel
theorem dX2_lets_67 : decode cX2_lets 67 = .ok (.goto 4, 3) := by decide +kernel
theorem dX2_lets_70 : decode cX2_lets 70 = .ok (.iconst 0, 1) := by decide +kernel
theorem dX2_lets_71 : decode cX2_lets 71 = .ok (.ireturn, 1) := by decide +kernel
theorem dX2_foldWith_0 : decode cX2_foldWith 0 = .ok (.aload_n 0, 1) := by decide +kernel
theorem dX2_foldWith_1 : decode cX2_foldWith 1 = .ok (.getfield 15, 3) := by decide +kernel
theorem dX2_foldWith_4 : decode cX2_foldWith 4 = .ok (.getstatic 67, 3) := by decide +kernel
theorem dX2_foldWith_7 : decode cX2_foldWith 7 = .ok (.if_acmp .ne 11, 3) := by decide +kernel
theorem dX2_foldWith_10 : decode cX2_foldWith 10 = .ok (.iload_n 1, 1) := by decide +kernel
theorem dX2_foldWith_11 : decode cX2_foldWith 11 = .ok (.iload_n 2, 1) := by decide +kernel
theorem dX2_foldWith_12 : decode cX2_foldWith 12 = .ok (.invokestatic 70, 3) := by decide +kernel
theorem dX2_foldWith_15 : decode cX2_foldWith 15 = .ok (.goto 6, 3) := by decide +kernel
theorem dX2_foldWith_18 : decode cX2_foldWith 18 = .ok (.iload_n 1, 1) := by decide +kernel
theorem dX2_foldWith_19 : decode cX2_foldWith 19 = .ok (.iload_n 2, 1) := by decide +kernel
theorem dX2_foldWith_20 : decode cX2_foldWith 20 = .ok (.iadd, 1) := by decide +kernel
theorem dX2_foldWith_21 : decode cX2_foldWith 21 = .ok (.ireturn, 1) := by decide +kernel
theorem dX3_init_0 : decode cX3_init 0 = .ok (.aload_n 0, 1) := by decide +kernel
theorem dX3_init_1 : decode cX3_init 1 = .ok (.invokespecial 3, 3) := by decide +kernel
theorem dX3_init_4 : decode cX3_init 4 = .ok (.aload_n 0, 1) := by decide +kernel
theorem dX3_init_5 : decode cX3_init 5 = .ok (.aload_n 1, 1) := by decide +kernel
theorem dX3_init_6 : decode cX3_init 6 = .ok (.putfield 9, 3) := by decide +kernel
theorem dX3_init_9 : decode cX3_init 9 = .ok (.aload_n 0, 1) := by decide +kernel
theorem dX3_init_10 : decode cX3_init 10 = .ok (.aload_n 2, 1) := by decide +kernel
theorem dX3_init_11 : decode cX3_init 11 = .ok (.putfield 15, 3) := by decide +kernel
theorem dX3_init_14 : decode cX3_init 14 = .ok (.aload_n 0, 1) := by decide +kernel
theorem dX3_init_15 : decode cX3_init 15 = .ok (.iconst 0, 1) := by decide +kernel
theorem dX3_init_16 : decode cX3_init 16 = .ok (.putfield 19, 3) := by decide +kernel
theorem dX3_init_19 : decode cX3_init 19 = .ok (.aload_n 0, 1) := by decide +kernel
theorem dX3_init_20 : decode cX3_init 20 = .ok (.iconst 0, 1) := by decide +kernel
theorem dX3_init_21 : decode cX3_init 21 = .ok (.putfield 23, 3) := by decide +kernel
theorem dX3_init_24 : decode cX3_init 24 = .ok (.return_, 1) := by decide +kernel
theorem dX3_readAll_0 : decode cX3_readAll 0 = .ok (.iconst 0, 1) := by decide +kernel
theorem dX3_readAll_1 : decode cX3_readAll 1 = .ok (.istore_n 1, 1) := by decide +kernel
theorem dX3_readAll_2 : decode cX3_readAll 2 = .ok (.iload_n 1, 1) := by decide +kernel
theorem dX3_readAll_3 : decode cX3_readAll 3 = .ok (.bipush 60, 2) := by decide +kernel
theorem dX3_readAll_5 : decode cX3_readAll 5 = .ok (.if_icmp .gt 53, 3) := by decide +kernel
theorem dX3_readAll_8 : decode cX3_readAll 8 = .ok (.aload_n 0, 1) := by decide +kernel
theorem dX3_readAll_9 : decode cX3_readAll 9 = .ok (.getfield 19, 3) := by decide +kernel
theorem dX3_readAll_12 : decode cX3_readAll 12 = .ok (.aload_n 0, 1) := by decide +kernel
theorem dX3_readAll_13 : decode cX3_readAll 13 = .ok (.getfield 9, 3) := by decide +kernel
theorem dX3_readAll_16 : decode cX3_readAll 16 = .ok (.invokevirtual 26, 3) := by decide +kernel
theorem dX3_readAll_19 : decode cX3_readAll 19 = .ok (.if_icmp .ge 39, 3) := by decide +kernel
theorem dX3_readAll_22 : decode cX3_readAll 22 = .ok (.aload_n 0, 1) := by decide +kernel
theorem dX3_readAll_23 : decode cX3_readAll 23 = .ok (.invokevirtual 32, 3) := by decide +kernel
theorem dX3_readAll_26 : decode cX3_readAll 26 = .ok (.ifCond .eq 10, 3) := by decide +kernel
theorem dX3_readAll_29 : decode cX3_readAll 29 = .ok (.aload_n 0, 1) := by decide +kernel
theorem dX3_readAll_30 : decode cX3_readAll 30 = .ok (.invokevirtual 36, 3) := by decide +kernel
theorem dX3_readAll_33 : decode cX3_readAll 33 = .ok (.goto 7, 3) := by decide +kernel
theorem dX3_readAll_36 : decode cX3_readAll 36 = .ok (.aload_n 0, 1) := by decide +kernel
theorem dX3_readAll_37 : decode cX3_readAll 37 = .ok (.invokevirtual 39, 3) := by decide +kernel
theorem dX3_readAll_40 : decode cX3_readAll 40 = .ok (.istore_n 2, 1) := by decide +kernel
theorem dX3_readAll_41 : decode cX3_readAll 41 = .ok (.iload_n 2, 1) := by decide +kernel
theorem dX3_readAll_42 : decode cX3_readAll 42 = .ok (.iconst (-1), 1) := by decide +kernel
theorem dX3_readAll_43 : decode cX3_readAll 43 = .ok (.if_icmp .eq 5, 3) := by decide +kernel
theorem dX3_readAll_46 : decode cX3_readAll 46 = .ok (.iload_n 2, 1) := by decide +kernel
theorem dX3_readAll_47 : decode cX3_readAll 47 = .ok (.ireturn, 1) := by decide +kernel
theorem dX3_readAll_48 : decode cX3_readAll 48 = .ok (.aload_n 0, 1) := by decide +kernel
theorem dX3_readAll_49 : decode cX3_readAll 49 = .ok (.invokevirtual 42, 3) := by decide +kernel
theorem dX3_readAll_52 : decode cX3_readAll 52 = .ok (.iinc 1 1, 3) := by decide +kernel
theorem dX3_readAll_55 : decode cX3_readAll 55 = .ok (.goto (-53), 3) := by decide +kernel
theorem dX3_readAll_58 : decode cX3_readAll 58 = .ok (.aload_n 0, 1) := by decide +kernel
theorem dX3_readAll_59 : decode cX3_readAll 59 = .ok (.getfield 23, 3) := by decide +kernel
theorem dX3_readAll_62 : decode cX3_readAll 62 = .ok (.bipush 8, 2) := by decide +kernel
theorem dX3_readAll_64 : decode cX3_readAll 64 = .ok (.if_icmp .eq 21, 3) := by decide +kernel
theorem dX3_readAll_67 : decode cX3_readAll 67 = .ok (.aload_n 0, 1) := by decide +kernel
theorem dX3_readAll_68 : decode cX3_readAll 68 = .ok (.getfield 23, 3) := by decide +kernel
theorem dX3_readAll_71 : decode cX3_readAll 71 = .ok (.bipush 10, 2) := by decide +kernel
theorem dX3_readAll_73 : decode cX3_readAll 73 = .ok (.if_icmp .eq 12, 3) := by decide +kernel
theorem dX3_readAll_76 : decode cX3_readAll 76 = .ok (.aload_n 0, 1) := by decide +kernel
theorem dX3_readAll_77 : decode cX3_readAll 77 = .ok (.getfield 23, 3) := by decide +kernel
theorem dX3_readAll_80 : decode cX3_readAll 80 = .ok (.bipush 11, 2) := by decide +kernel
theorem dX3_readAll_82 : decode cX3_readAll 82 = .ok (.if_icmp .ne 7, 3) := by decide +kernel
theorem dX3_readAll_85 : decode cX3_readAll 85 = .ok (.iconst 1, 1) := by decide +kernel
theorem dX3_readAll_86 : decode cX3_readAll 86 = .ok (.goto 4, 3) := by decide +kernel
theorem dX3_readAll_89 : decode cX3_readAll 89 = .ok (.iconst 0, 1) := by decide +kernel
theorem dX3_readAll_90 : decode cX3_readAll 90 = .ok (.istore_n 1, 1) := by decide +kernel
theorem dX3_readAll_91 : decode cX3_readAll 91 = .ok (.iload_n 1, 1) := by decide +kernel
theorem dX3_readAll_92 : decode cX3_readAll 92 = .ok (.ifCond .eq 7, 3) := by decide +kernel
theorem dX3_readAll_95 : decode cX3_readAll 95 = .ok (.iconst (-1), 1) := by decide +kernel
theorem dX3_readAll_96 : decode cX3_readAll 96 = .ok (.goto 10, 3) := by decide +kernel
theorem dX3_readAll_99 : decode cX3_readAll 99 = .ok (.aload_n 0, 1) := by decide +kernel
theorem dX3_readAll_100 : decode cX3_readAll 100 = .ok (.getfield 9, 3) := by decide +kernel
theorem dX3_readAll_103 : decode cX3_readAll 103 = .ok (.invokevirtual 26, 3) := by decide +kernel
theorem dX3_readAll_106 : decode cX3_readAll 106 = .ok (.ireturn, 1) := by decide +kernel
theorem dX3_isNumberDue_0 : decode cX3_isNumberDue 0 = .ok (.aload_n 0, 1) := by decide +kernel
theorem dX3_isNumberDue_1 : decode cX3_isNumberDue 1 = .ok (.getfield 23, 3) := by decide +kernel
theorem dX3_isNumberDue_4 : decode cX3_isNumberDue 4 = .ok (.iconst 3, 1) := by decide +kernel
theorem dX3_isNumberDue_5 : decode cX3_isNumberDue 5 = .ok (.if_icmp .eq 30, 3) := by decide +kernel
theorem dX3_isNumberDue_8 : decode cX3_isNumberDue 8 = .ok (.aload_n 0, 1) := by decide +kernel
theorem dX3_isNumberDue_9 : decode cX3_isNumberDue 9 = .ok (.getfield 23, 3) := by decide +kernel
theorem dX3_isNumberDue_12 : decode cX3_isNumberDue 12 = .ok (.bipush 6, 2) := by decide +kernel
theorem dX3_isNumberDue_14 : decode cX3_isNumberDue 14 = .ok (.if_icmp .eq 21, 3) := by decide +kernel
theorem dX3_isNumberDue_17 : decode cX3_isNumberDue 17 = .ok (.aload_n 0, 1) := by decide +kernel
theorem dX3_isNumberDue_18 : decode cX3_isNumberDue 18 = .ok (.getfield 23, 3) := by decide +kernel
theorem dX3_isNumberDue_21 : decode cX3_isNumberDue 21 = .ok (.bipush 7, 2) := by decide +kernel
theorem dX3_isNumberDue_23 : decode cX3_isNumberDue 23 = .ok (.if_icmp .eq 12, 3) := by decide +kernel
theorem dX3_isNumberDue_26 : decode cX3_isNumberDue 26 = .ok (.aload_n 0, 1) := by decide +kernel
theorem dX3_isNumberDue_27 : decode cX3_isNumberDue 27 = .ok (.getfield 23, 3) := by decide +kernel
theorem dX3_isNumberDue_30 : decode cX3_isNumberDue 30 = .ok (.bipush 9, 2) := by decide +kernel
theorem dX3_isNumberDue_32 : decode cX3_isNumberDue 32 = .ok (.if_icmp .ne 7, 3) := by decide +kernel
theorem dX3_isNumberDue_35 : decode cX3_isNumberDue 35 = .ok (.iconst 1, 1) := by decide +kernel
theorem dX3_isNumberDue_36 : decode cX3_isNumberDue 36 = .ok (.goto 4, 3) := by decide +kernel
theorem dX3_isNumberDue_39 : decode cX3_isNumberDue 39 = .ok (.iconst 0, 1) := by decide +kernel
theorem dX3_isNumberDue_40 : decode cX3_isNumberDue 40 = .ok (.ireturn, 1) := by decide +kernel
theorem dX3_skipBlanks_0 : decode cX3_skipBlanks 0 = .ok (.aload_n 0, 1) := by decide +kernel
theorem dX3_skipBlanks_1 : decode cX3_skipBlanks 1 = .ok (.getfield 19, 3) := by decide +kernel
theorem dX3_skipBlanks_4 : decode cX3_skipBlanks 4 = .ok (.aload_n 0, 1) := by decide +kernel
theorem dX3_skipBlanks_5 : decode cX3_skipBlanks 5 = .ok (.getfield 9, 3) := by decide +kernel
theorem dX3_skipBlanks_8 : decode cX3_skipBlanks 8 = .ok (.invokevirtual 26, 3) := by decide +kernel
theorem dX3_skipBlanks_11 : decode cX3_skipBlanks 11 = .ok (.if_icmp .ge 32, 3) := by decide +kernel
theorem dX3_skipBlanks_14 : decode cX3_skipBlanks 14 = .ok (.aload_n 0, 1) := by decide +kernel
theorem dX3_skipBlanks_15 : decode cX3_skipBlanks 15 = .ok (.getfield 9, 3) := by decide +kernel
theorem dX3_skipBlanks_18 : decode cX3_skipBlanks 18 = .ok (.aload_n 0, 1) := by decide +kernel
theorem dX3_skipBlanks_19 : decode cX3_skipBlanks 19 = .ok (.getfield 19, 3) := by decide +kernel
theorem dX3_skipBlanks_22 : decode cX3_skipBlanks 22 = .ok (.invokevirtual 45, 3) := by decide +kernel
theorem dX3_skipBlanks_25 : decode cX3_skipBlanks 25 = .ok (.bipush 32, 2) := by decide +kernel
theorem dX3_skipBlanks_27 : decode cX3_skipBlanks 27 = .ok (.if_icmp .ne 16, 3) := by decide +kernel
theorem dX3_skipBlanks_30 : decode cX3_skipBlanks 30 = .ok (.aload_n 0, 1) := by decide +kernel
theorem dX3_skipBlanks_31 : decode cX3_skipBlanks 31 = .ok (.dup, 1) := by decide +kernel
theorem dX3_skipBlanks_32 : decode cX3_skipBlanks 32 = .ok (.getfield 19, 3) := by decide +kernel
theorem dX3_skipBlanks_35 : decode cX3_skipBlanks 35 = .ok (.iconst 1, 1) := by decide +kernel
theorem dX3_skipBlanks_36 : decode cX3_skipBlanks 36 = .ok (.iadd, 1) := by decide +kernel
theorem dX3_skipBlanks_37 : decode cX3_skipBlanks 37 = .ok (.putfield 19, 3) := by decide +kernel
theorem dX3_skipBlanks_40 : decode cX3_skipBlanks 40 = .ok (.goto (-40), 3) := by decide +kernel
theorem dX3_skipBlanks_43 : decode cX3_skipBlanks 43 = .ok (.return_, 1) := by decide +kernel
theorem dX3_readWord_0 : decode cX3_readWord 0 = .ok (.iconst 0, 1) := by decide +kernel
theorem dX3_readWord_1 : decode cX3_readWord 1 = .ok (.istore_n 1, 1) := by decide +kernel
theorem dX3_readWord_2 : decode cX3_readWord 2 = .ok (.iconst 0, 1) := by decide +kernel
theorem dX3_readWord_3 : decode cX3_readWord 3 = .ok (.istore_n 2, 1) := by decide +kernel
theorem dX3_readWord_4 : decode cX3_readWord 4 = .ok (.iload_n 2, 1) := by decide +kernel
theorem dX3_readWord_5 : decode cX3_readWord 5 = .ok (.getstatic 49, 3) := by decide +kernel
theorem dX3_readWord_8 : decode cX3_readWord 8 = .ok (.arraylength, 1) := by decide +kernel
theorem dX3_readWord_9 : decode cX3_readWord 9 = .ok (.if_icmp .ge 87, 3) := by decide +kernel
theorem dX3_readWord_12 : decode cX3_readWord 12 = .ok (.getstatic 49, 3) := by decide +kernel
theorem dX3_readWord_15 : decode cX3_readWord 15 = .ok (.iload_n 2, 1) := by decide +kernel
theorem dX3_readWord_16 : decode cX3_readWord 16 = .ok (.aaload, 1) := by decide +kernel
theorem dX3_readWord_17 : decode cX3_readWord 17 = .ok (.astore_n 3, 1) := by decide +kernel
theorem dX3_readWord_18 : decode cX3_readWord 18 = .ok (.aload_n 3, 1) := by decide +kernel
theorem dX3_readWord_19 : decode cX3_readWord 19 = .ok (.aload_n 0, 1) := by decide +kernel
theorem dX3_readWord_20 : decode cX3_readWord 20 = .ok (.getfield 23, 3) := by decide +kernel
theorem dX3_readWord_23 : decode cX3_readWord 23 = .ok (.invokevirtual 55, 3) := by decide +kernel
theorem dX3_readWord_26 : decode cX3_readWord 26 = .ok (.ifCond .eq 64, 3) := by decide +kernel
theorem dX3_readWord_29 : decode cX3_readWord 29 = .ok (.aload_n 0, 1) := by decide +kernel
theorem dX3_readWord_30 : decode cX3_readWord 30 = .ok (.aload_n 3, 1) := by decide +kernel
theorem dX3_readWord_31 : decode cX3_readWord 31 = .ok (.getfield 59, 3) := by decide +kernel
theorem dX3_readWord_34 : decode cX3_readWord 34 = .ok (.invokevirtual 63, 3) := by decide +kernel
theorem dX3_readWord_37 : decode cX3_readWord 37 = .ok (.istore 4, 2) := by decide +kernel
theorem dX3_readWord_39 : decode cX3_readWord 39 = .ok (.iload 4, 2) := by decide +kernel
theorem dX3_readWord_41 : decode cX3_readWord 41 = .ok (.aload_n 3, 1) := by decide +kernel
theorem dX3_readWord_42 : decode cX3_readWord 42 = .ok (.getfield 59, 3) := by decide +kernel
theorem dX3_readWord_45 : decode cX3_readWord 45 = .ok (.invokevirtual 67, 3) := by decide +kernel
theorem dX3_readWord_48 : decode cX3_readWord 48 = .ok (.if_icmp .ne 35, 3) := by decide +kernel
theorem dX3_readWord_51 : decode cX3_readWord 51 = .ok (.aload_n 0, 1) := by decide +kernel
theorem dX3_readWord_52 : decode cX3_readWord 52 = .ok (.aload_n 0, 1) := by decide +kernel
theorem dX3_readWord_53 : decode cX3_readWord 53 = .ok (.getfield 19, 3) := by decide +kernel
theorem dX3_readWord_56 : decode cX3_readWord 56 = .ok (.iload 4, 2) := by decide +kernel
theorem dX3_readWord_58 : decode cX3_readWord 58 = .ok (.iadd, 1) := by decide +kernel
theorem dX3_readWord_59 : decode cX3_readWord 59 = .ok (.invokevirtual 70, 3) := by decide +kernel
theorem dX3_readWord_62 : decode cX3_readWord 62 = .ok (.ifCond .eq 21, 3) := by decide +kernel
theorem dX3_readWord_65 : decode cX3_readWord 65 = .ok (.aload_n 0, 1) := by decide +kernel
theorem dX3_readWord_66 : decode cX3_readWord 66 = .ok (.dup, 1) := by decide +kernel
theorem dX3_readWord_67 : decode cX3_readWord 67 = .ok (.getfield 19, 3) := by decide +kernel
theorem dX3_readWord_70 : decode cX3_readWord 70 = .ok (.iload 4, 2) := by decide +kernel
theorem dX3_readWord_72 : decode cX3_readWord 72 = .ok (.iadd, 1) := by decide +kernel
theorem dX3_readWord_73 : decode cX3_readWord 73 = .ok (.putfield 19, 3) := by decide +kernel
theorem dX3_readWord_76 : decode cX3_readWord 76 = .ok (.aload_n 0, 1) := by decide +kernel
theorem dX3_readWord_77 : decode cX3_readWord 77 = .ok (.aload_n 3, 1) := by decide +kernel
theorem dX3_readWord_78 : decode cX3_readWord 78 = .ok (.invokevirtual 73, 3) := by decide +kernel
theorem dX3_readWord_81 : decode cX3_readWord 81 = .ok (.iconst (-1), 1) := by decide +kernel
theorem dX3_readWord_82 : decode cX3_readWord 82 = .ok (.ireturn, 1) := by decide +kernel
theorem dX3_readWord_83 : decode cX3_readWord 83 = .ok (.iload_n 1, 1) := by decide +kernel
theorem dX3_readWord_84 : decode cX3_readWord 84 = .ok (.iload 4, 2) := by decide +kernel
theorem dX3_readWord_86 : decode cX3_readWord 86 = .ok (.invokestatic 77, 3) := by decide +kernel
theorem dX3_readWord_89 : decode cX3_readWord 89 = .ok (.istore_n 1, 1) := by decide +kernel
theorem dX3_readWord_90 : decode cX3_readWord 90 = .ok (.iinc 2 1, 3) := by decide +kernel
theorem dX3_readWord_93 : decode cX3_readWord 93 = .ok (.goto (-89), 3) := by decide +kernel
theorem dX3_readWord_96 : decode cX3_readWord 96 = .ok (.aload_n 0, 1) := by decide +kernel
theorem dX3_readWord_97 : decode cX3_readWord 97 = .ok (.getfield 19, 3) := by decide +kernel
theorem dX3_readWord_100 : decode cX3_readWord 100 = .ok (.iload_n 1, 1) := by decide +kernel
theorem dX3_readWord_101 : decode cX3_readWord 101 = .ok (.iadd, 1) := by decide +kernel
theorem dX3_readWord_102 : decode cX3_readWord 102 = .ok (.ireturn, 1) := by decide +kernel
theorem dX3_howFarAlike_0 : decode cX3_howFarAlike 0 = .ok (.iconst 0, 1) := by decide +kernel
theorem dX3_howFarAlike_1 : decode cX3_howFarAlike 1 = .ok (.istore_n 2, 1) := by decide +kernel
theorem dX3_howFarAlike_2 : decode cX3_howFarAlike 2 = .ok (.iload_n 2, 1) := by decide +kernel
theorem dX3_howFarAlike_3 : decode cX3_howFarAlike 3 = .ok (.aload_n 1, 1) := by decide +kernel
theorem dX3_howFarAlike_4 : decode cX3_howFarAlike 4 = .ok (.invokevirtual 67, 3) := by decide +kernel
theorem dX3_howFarAlike_7 : decode cX3_howFarAlike 7 = .ok (.if_icmp .ge 27, 3) := by decide +kernel
theorem dX3_howFarAlike_10 : decode cX3_howFarAlike 10 = .ok (.aload_n 0, 1) := by decide +kernel
theorem dX3_howFarAlike_11 : decode cX3_howFarAlike 11 = .ok (.aload_n 0, 1) := by decide +kernel
theorem dX3_howFarAlike_12 : decode cX3_howFarAlike 12 = .ok (.getfield 19, 3) := by decide +kernel
theorem dX3_howFarAlike_15 : decode cX3_howFarAlike 15 = .ok (.iload_n 2, 1) := by decide +kernel
theorem dX3_howFarAlike_16 : decode cX3_howFarAlike 16 = .ok (.iadd, 1) := by decide +kernel
theorem dX3_howFarAlike_17 : decode cX3_howFarAlike 17 = .ok (.invokevirtual 83, 3) := by decide +kernel
theorem dX3_howFarAlike_20 : decode cX3_howFarAlike 20 = .ok (.aload_n 1, 1) := by decide +kernel
theorem dX3_howFarAlike_21 : decode cX3_howFarAlike 21 = .ok (.iload_n 2, 1) := by decide +kernel
theorem dX3_howFarAlike_22 : decode cX3_howFarAlike 22 = .ok (.invokevirtual 86, 3) := by decide +kernel
theorem dX3_howFarAlike_25 : decode cX3_howFarAlike 25 = .ok (.if_icmp .ne 9, 3) := by decide +kernel
theorem dX3_howFarAlike_28 : decode cX3_howFarAlike 28 = .ok (.iinc 2 1, 3) := by decide +kernel
theorem dX3_howFarAlike_31 : decode cX3_howFarAlike 31 = .ok (.goto (-29), 3) := by decide +kernel
theorem dX3_howFarAlike_34 : decode cX3_howFarAlike 34 = .ok (.iload_n 2, 1) := by decide +kernel
theorem dX3_howFarAlike_35 : decode cX3_howFarAlike 35 = .ok (.ireturn, 1) := by decide +kernel
theorem dX3_takeWord_0 : decode cX3_takeWord 0 = .ok (.aload_n 0, 1) := by decide +kernel
theorem dX3_takeWord_1 : decode cX3_takeWord 1 = .ok (.getfield 23, 3) := by decide +kernel
theorem dX3_takeWord_4 : decode cX3_takeWord 4 = .ok (.ifCond .ne 14, 3) := by decide +kernel
theorem dX3_takeWord_7 : decode cX3_takeWord 7 = .ok (.aload_n 0, 1) := by decide +kernel
theorem dX3_takeWord_8 : decode cX3_takeWord 8 = .ok (.getfield 15, 3) := by decide +kernel
theorem dX3_takeWord_11 : decode cX3_takeWord 11 = .ok (.aload_n 1, 1) := by decide +kernel
theorem dX3_takeWord_12 : decode cX3_takeWord 12 = .ok (.putfield 87, 3) := by decide +kernel
theorem dX3_takeWord_15 : decode cX3_takeWord 15 = .ok (.goto 77, 3) := by decide +kernel
theorem dX3_takeWord_18 : decode cX3_takeWord 18 = .ok (.aload_n 0, 1) := by decide +kernel
theorem dX3_takeWord_19 : decode cX3_takeWord 19 = .ok (.getfield 23, 3) := by decide +kernel
theorem dX3_takeWord_22 : decode cX3_takeWord 22 = .ok (.iconst 2, 1) := by decide +kernel
theorem dX3_takeWord_23 : decode cX3_takeWord 23 = .ok (.if_icmp .ne 14, 3) := by decide +kernel
theorem dX3_takeWord_26 : decode cX3_takeWord 26 = .ok (.aload_n 0, 1) := by decide +kernel
theorem dX3_takeWord_27 : decode cX3_takeWord 27 = .ok (.getfield 15, 3) := by decide +kernel
theorem dX3_takeWord_30 : decode cX3_takeWord 30 = .ok (.aload_n 1, 1) := by decide +kernel
theorem dX3_takeWord_31 : decode cX3_takeWord 31 = .ok (.putfield 93, 3) := by decide +kernel
theorem dX3_takeWord_34 : decode cX3_takeWord 34 = .ok (.goto 58, 3) := by decide +kernel
theorem dX3_takeWord_37 : decode cX3_takeWord 37 = .ok (.aload_n 1, 1) := by decide +kernel
theorem dX3_takeWord_38 : decode cX3_takeWord 38 = .ok (.getstatic 96, 3) := by decide +kernel
theorem dX3_takeWord_41 : decode cX3_takeWord 41 = .ok (.if_acmp .ne 14, 3) := by decide +kernel
theorem dX3_takeWord_44 : decode cX3_takeWord 44 = .ok (.aload_n 0, 1) := by decide +kernel
theorem dX3_takeWord_45 : decode cX3_takeWord 45 = .ok (.getfield 15, 3) := by decide +kernel
theorem dX3_takeWord_48 : decode cX3_takeWord 48 = .ok (.iconst 1, 1) := by decide +kernel
theorem dX3_takeWord_49 : decode cX3_takeWord 49 = .ok (.putfield 99, 3) := by decide +kernel
theorem dX3_takeWord_52 : decode cX3_takeWord 52 = .ok (.goto 40, 3) := by decide +kernel
theorem dX3_takeWord_55 : decode cX3_takeWord 55 = .ok (.aload_n 1, 1) := by decide +kernel
theorem dX3_takeWord_56 : decode cX3_takeWord 56 = .ok (.getfield 103, 3) := by decide +kernel
theorem dX3_takeWord_59 : decode cX3_takeWord 59 = .ok (.bipush 6, 2) := by decide +kernel
theorem dX3_takeWord_61 : decode cX3_takeWord 61 = .ok (.if_icmp .ne 14, 3) := by decide +kernel
theorem dX3_takeWord_64 : decode cX3_takeWord 64 = .ok (.aload_n 0, 1) := by decide +kernel
theorem dX3_takeWord_65 : decode cX3_takeWord 65 = .ok (.getfield 15, 3) := by decide +kernel
theorem dX3_takeWord_68 : decode cX3_takeWord 68 = .ok (.aload_n 1, 1) := by decide +kernel
theorem dX3_takeWord_69 : decode cX3_takeWord 69 = .ok (.putfield 106, 3) := by decide +kernel
theorem dX3_takeWord_72 : decode cX3_takeWord 72 = .ok (.goto 20, 3) := by decide +kernel
theorem dX3_takeWord_75 : decode cX3_takeWord 75 = .ok (.aload_n 1, 1) := by decide +kernel
theorem dX3_takeWord_76 : decode cX3_takeWord 76 = .ok (.getfield 103, 3) := by decide +kernel
theorem dX3_takeWord_79 : decode cX3_takeWord 79 = .ok (.bipush 11, 2) := by decide +kernel
theorem dX3_takeWord_81 : decode cX3_takeWord 81 = .ok (.if_icmp .ne 11, 3) := by decide +kernel
theorem dX3_takeWord_84 : decode cX3_takeWord 84 = .ok (.aload_n 0, 1) := by decide +kernel
theorem dX3_takeWord_85 : decode cX3_takeWord 85 = .ok (.getfield 15, 3) := by decide +kernel
theorem dX3_takeWord_88 : decode cX3_takeWord 88 = .ok (.aload_n 1, 1) := by decide +kernel
theorem dX3_takeWord_89 : decode cX3_takeWord 89 = .ok (.putfield 109, 3) := by decide +kernel
theorem dX3_takeWord_92 : decode cX3_takeWord 92 = .ok (.aload_n 0, 1) := by decide +kernel
theorem dX3_takeWord_93 : decode cX3_takeWord 93 = .ok (.aload_n 1, 1) := by decide +kernel
theorem dX3_takeWord_94 : decode cX3_takeWord 94 = .ok (.getfield 103, 3) := by decide +kernel
theorem dX3_takeWord_97 : decode cX3_takeWord 97 = .ok (.putfield 23, 3) := by decide +kernel
theorem dX3_takeWord_100 : decode cX3_takeWord 100 = .ok (.return_, 1) := by decide +kernel
theorem dX3_readNumber_0 : decode cX3_readNumber 0 = .ok (.aload_n 0, 1) := by decide +kernel
theorem dX3_readNumber_1 : decode cX3_readNumber 1 = .ok (.getfield 23, 3) := by decide +kernel
theorem dX3_readNumber_4 : decode cX3_readNumber 4 = .ok (.iconst 3, 1) := by decide +kernel
theorem dX3_readNumber_5 : decode cX3_readNumber 5 = .ok (.if_icmp .ne 20, 3) := by decide +kernel
theorem dX3_readNumber_8 : decode cX3_readNumber 8 = .ok (.aload_n 0, 1) := by decide +kernel
theorem dX3_readNumber_9 : decode cX3_readNumber 9 = .ok (.aload_n 0, 1) := by decide +kernel
theorem dX3_readNumber_10 : decode cX3_readNumber 10 = .ok (.getfield 19, 3) := by decide +kernel
theorem dX3_readNumber_13 : decode cX3_readNumber 13 = .ok (.invokevirtual 83, 3) := by decide +kernel
theorem dX3_readNumber_16 : decode cX3_readNumber 16 = .ok (.bipush 45, 2) := by decide +kernel
theorem dX3_readNumber_18 : decode cX3_readNumber 18 = .ok (.if_icmp .ne 7, 3) := by decide +kernel
theorem dX3_readNumber_21 : decode cX3_readNumber 21 = .ok (.iconst 1, 1) := by decide +kernel
theorem dX3_readNumber_22 : decode cX3_readNumber 22 = .ok (.goto 4, 3) := by decide +kernel
theorem dX3_readNumber_25 : decode cX3_readNumber 25 = .ok (.iconst 0, 1) := by decide +kernel
theorem dX3_readNumber_26 : decode cX3_readNumber 26 = .ok (.istore_n 1, 1) := by decide +kernel
theorem dX3_readNumber_27 : decode cX3_readNumber 27 = .ok (.iload_n 1, 1) := by decide +kernel
theorem dX3_readNumber_28 : decode cX3_readNumber 28 = .ok (.ifCond .eq 12, 3) := by decide +kernel
theorem dX3_readNumber_31 : decode cX3_readNumber 31 = .ok (.aload_n 0, 1) := by decide +kernel
theorem dX3_readNumber_32 : decode cX3_readNumber 32 = .ok (.getfield 19, 3) := by decide +kernel
theorem dX3_readNumber_35 : decode cX3_readNumber 35 = .ok (.iconst 1, 1) := by decide +kernel
theorem dX3_readNumber_36 : decode cX3_readNumber 36 = .ok (.iadd, 1) := by decide +kernel
theorem dX3_readNumber_37 : decode cX3_readNumber 37 = .ok (.goto 7, 3) := by decide +kernel
theorem dX3_readNumber_40 : decode cX3_readNumber 40 = .ok (.aload_n 0, 1) := by decide +kernel
theorem dX3_readNumber_41 : decode cX3_readNumber 41 = .ok (.getfield 19, 3) := by decide +kernel
theorem dX3_readNumber_44 : decode cX3_readNumber 44 = .ok (.istore_n 2, 1) := by decide +kernel
theorem dX3_readNumber_45 : decode cX3_readNumber 45 = .ok (.aload_n 0, 1) := by decide +kernel
theorem dX3_readNumber_46 : decode cX3_readNumber 46 = .ok (.getfield 23, 3) := by decide +kernel
theorem dX3_readNumber_49 : decode cX3_readNumber 49 = .ok (.iconst 3, 1) := by decide +kernel
theorem dX3_readNumber_50 : decode cX3_readNumber 50 = .ok (.if_icmp .eq 12, 3) := by decide +kernel
theorem dX3_readNumber_53 : decode cX3_readNumber 53 = .ok (.aload_n 0, 1) := by decide +kernel
theorem dX3_readNumber_54 : decode cX3_readNumber 54 = .ok (.getfield 23, 3) := by decide +kernel
theorem dX3_readNumber_57 : decode cX3_readNumber 57 = .ok (.bipush 9, 2) := by decide +kernel
theorem dX3_readNumber_59 : decode cX3_readNumber 59 = .ok (.if_icmp .ne 7, 3) := by decide +kernel
theorem dX3_readNumber_62 : decode cX3_readNumber 62 = .ok (.iconst 1, 1) := by decide +kernel
theorem dX3_readNumber_63 : decode cX3_readNumber 63 = .ok (.goto 4, 3) := by decide +kernel
theorem dX3_readNumber_66 : decode cX3_readNumber 66 = .ok (.iconst 0, 1) := by decide +kernel
theorem dX3_readNumber_67 : decode cX3_readNumber 67 = .ok (.istore_n 3, 1) := by decide +kernel
theorem dX3_readNumber_68 : decode cX3_readNumber 68 = .ok (.aload_n 0, 1) := by decide +kernel
theorem dX3_readNumber_69 : decode cX3_readNumber 69 = .ok (.iload_n 2, 1) := by decide +kernel
theorem dX3_readNumber_70 : decode cX3_readNumber 70 = .ok (.invokevirtual 83, 3) := by decide +kernel
theorem dX3_readNumber_73 : decode cX3_readNumber 73 = .ok (.invokestatic 112, 3) := by decide +kernel
theorem dX3_readNumber_76 : decode cX3_readNumber 76 = .ok (.ifCond .eq 17, 3) := by decide +kernel
theorem dX3_readNumber_79 : decode cX3_readNumber 79 = .ok (.aload_n 0, 1) := by decide +kernel
theorem dX3_readNumber_80 : decode cX3_readNumber 80 = .ok (.iload_n 2, 1) := by decide +kernel
theorem dX3_readNumber_81 : decode cX3_readNumber 81 = .ok (.invokevirtual 83, 3) := by decide +kernel
theorem dX3_readNumber_84 : decode cX3_readNumber 84 = .ok (.bipush 48, 2) := by decide +kernel
theorem dX3_readNumber_86 : decode cX3_readNumber 86 = .ok (.if_icmp .ne 9, 3) := by decide +kernel
theorem dX3_readNumber_89 : decode cX3_readNumber 89 = .ok (.iload_n 3, 1) := by decide +kernel
theorem dX3_readNumber_90 : decode cX3_readNumber 90 = .ok (.ifCond .ne 5, 3) := by decide +kernel
theorem dX3_readNumber_93 : decode cX3_readNumber 93 = .ok (.iload_n 2, 1) := by decide +kernel
theorem dX3_readNumber_94 : decode cX3_readNumber 94 = .ok (.ireturn, 1) := by decide +kernel
theorem dX3_readNumber_95 : decode cX3_readNumber 95 = .ok (.aload_n 0, 1) := by decide +kernel
theorem dX3_readNumber_96 : decode cX3_readNumber 96 = .ok (.iload_n 2, 1) := by decide +kernel
theorem dX3_readNumber_97 : decode cX3_readNumber 97 = .ok (.invokevirtual 83, 3) := by decide +kernel
theorem dX3_readNumber_100 : decode cX3_readNumber 100 = .ok (.bipush 48, 2) := by decide +kernel
theorem dX3_readNumber_102 : decode cX3_readNumber 102 = .ok (.isub, 1) := by decide +kernel
theorem dX3_readNumber_103 : decode cX3_readNumber 103 = .ok (.istore 4, 2) := by decide +kernel
theorem dX3_readNumber_105 : decode cX3_readNumber 105 = .ok (.iinc 2 1, 3) := by decide +kernel
theorem dX3_readNumber_108 : decode cX3_readNumber 108 = .ok (.iload 4, 2) := by decide +kernel
theorem dX3_readNumber_110 : decode cX3_readNumber 110 = .ok (.ifCond .le 33, 3) := by decide +kernel
theorem dX3_readNumber_113 : decode cX3_readNumber 113 = .ok (.aload_n 0, 1) := by decide +kernel
theorem dX3_readNumber_114 : decode cX3_readNumber 114 = .ok (.iload_n 2, 1) := by decide +kernel
theorem dX3_readNumber_115 : decode cX3_readNumber 115 = .ok (.invokevirtual 83, 3) := by decide +kernel
theorem dX3_readNumber_118 : decode cX3_readNumber 118 = .ok (.invokestatic 112, 3) := by decide +kernel
theorem dX3_readNumber_121 : decode cX3_readNumber 121 = .ok (.ifCond .eq 22, 3) := by decide +kernel
theorem dX3_readNumber_124 : decode cX3_readNumber 124 = .ok (.iload 4, 2) := by decide +kernel
theorem dX3_readNumber_126 : decode cX3_readNumber 126 = .ok (.bipush 10, 2) := by decide +kernel
theorem dX3_readNumber_128 : decode cX3_readNumber 128 = .ok (.imul, 1) := by decide +kernel
theorem dX3_readNumber_129 : decode cX3_readNumber 129 = .ok (.aload_n 0, 1) := by decide +kernel
theorem dX3_readNumber_130 : decode cX3_readNumber 130 = .ok (.iload_n 2, 1) := by decide +kernel
theorem dX3_readNumber_131 : decode cX3_readNumber 131 = .ok (.invokevirtual 83, 3) := by decide +kernel
theorem dX3_readNumber_134 : decode cX3_readNumber 134 = .ok (.iadd, 1) := by decide +kernel
theorem dX3_readNumber_135 : decode cX3_readNumber 135 = .ok (.bipush 48, 2) := by decide +kernel
theorem dX3_readNumber_137 : decode cX3_readNumber 137 = .ok (.isub, 1) := by decide +kernel
theorem dX3_readNumber_138 : decode cX3_readNumber 138 = .ok (.istore 4, 2) := by decide +kernel
theorem dX3_readNumber_140 : decode cX3_readNumber 140 = .ok (.iinc 2 1, 3) := by decide +kernel
theorem dX3_readNumber_143 : decode cX3_readNumber 143 = .ok (.aload_n 0, 1) := by decide +kernel
theorem dX3_readNumber_144 : decode cX3_readNumber 144 = .ok (.iload_n 2, 1) := by decide +kernel
theorem dX3_readNumber_145 : decode cX3_readNumber 145 = .ok (.invokevirtual 70, 3) := by decide +kernel
theorem dX3_readNumber_148 : decode cX3_readNumber 148 = .ok (.ifCond .ne 5, 3) := by decide +kernel
theorem dX3_readNumber_151 : decode cX3_readNumber 151 = .ok (.iload_n 2, 1) := by decide +kernel
theorem dX3_readNumber_152 : decode cX3_readNumber 152 = .ok (.ireturn, 1) := by decide +kernel
theorem dX3_readNumber_153 : decode cX3_readNumber 153 = .ok (.aload_n 0, 1) := by decide +kernel
theorem dX3_readNumber_154 : decode cX3_readNumber 154 = .ok (.iload_n 2, 1) := by decide +kernel
theorem dX3_readNumber_155 : decode cX3_readNumber 155 = .ok (.putfield 19, 3) := by decide +kernel
theorem dX3_readNumber_158 : decode cX3_readNumber 158 = .ok (.aload_n 0, 1) := by decide +kernel
theorem dX3_readNumber_159 : decode cX3_readNumber 159 = .ok (.iload_n 1, 1) := by decide +kernel
theorem dX3_readNumber_160 : decode cX3_readNumber 160 = .ok (.ifCond .eq 9, 3) := by decide +kernel
theorem dX3_readNumber_163 : decode cX3_readNumber 163 = .ok (.iload 4, 2) := by decide +kernel
theorem dX3_readNumber_165 : decode cX3_readNumber 165 = .ok (.ineg, 1) := by decide +kernel
theorem dX3_readNumber_166 : decode cX3_readNumber 166 = .ok (.goto 5, 3) := by decide +kernel
theorem dX3_readNumber_169 : decode cX3_readNumber 169 = .ok (.iload 4, 2) := by decide +kernel
theorem dX3_readNumber_171 : decode cX3_readNumber 171 = .ok (.invokevirtual 116, 3) := by decide +kernel
theorem dX3_readNumber_174 : decode cX3_readNumber 174 = .ok (.iconst (-1), 1) := by decide +kernel
theorem dX3_readNumber_175 : decode cX3_readNumber 175 = .ok (.ireturn, 1) := by decide +kernel
theorem dX3_takeNumber_0 : decode cX3_takeNumber 0 = .ok (.aload_n 0, 1) := by decide +kernel
theorem dX3_takeNumber_1 : decode cX3_takeNumber 1 = .ok (.getfield 23, 3) := by decide +kernel
theorem dX3_takeNumber_4 : decode cX3_takeNumber 4 = .ok (.iconst 3, 1) := by decide +kernel
theorem dX3_takeNumber_5 : decode cX3_takeNumber 5 = .ok (.if_icmp .ne 19, 3) := by decide +kernel
theorem dX3_takeNumber_8 : decode cX3_takeNumber 8 = .ok (.aload_n 0, 1) := by decide +kernel
theorem dX3_takeNumber_9 : decode cX3_takeNumber 9 = .ok (.getfield 15, 3) := by decide +kernel
theorem dX3_takeNumber_12 : decode cX3_takeNumber 12 = .ok (.iload_n 1, 1) := by decide +kernel
theorem dX3_takeNumber_13 : decode cX3_takeNumber 13 = .ok (.putfield 120, 3) := by decide +kernel
theorem dX3_takeNumber_16 : decode cX3_takeNumber 16 = .ok (.aload_n 0, 1) := by decide +kernel
theorem dX3_takeNumber_17 : decode cX3_takeNumber 17 = .ok (.iconst 4, 1) := by decide +kernel
theorem dX3_takeNumber_18 : decode cX3_takeNumber 18 = .ok (.putfield 23, 3) := by decide +kernel
theorem dX3_takeNumber_21 : decode cX3_takeNumber 21 = .ok (.goto 95, 3) := by decide +kernel
theorem dX3_takeNumber_24 : decode cX3_takeNumber 24 = .ok (.aload_n 0, 1) := by decide +kernel
theorem dX3_takeNumber_25 : decode cX3_takeNumber 25 = .ok (.getfield 23, 3) := by decide +kernel
theorem dX3_takeNumber_28 : decode cX3_takeNumber 28 = .ok (.bipush 9, 2) := by decide +kernel
theorem dX3_takeNumber_30 : decode cX3_takeNumber 30 = .ok (.if_icmp .ne 20, 3) := by decide +kernel
theorem dX3_takeNumber_33 : decode cX3_takeNumber 33 = .ok (.aload_n 0, 1) := by decide +kernel
theorem dX3_takeNumber_34 : decode cX3_takeNumber 34 = .ok (.getfield 15, 3) := by decide +kernel
theorem dX3_takeNumber_37 : decode cX3_takeNumber 37 = .ok (.iload_n 1, 1) := by decide +kernel
theorem dX3_takeNumber_38 : decode cX3_takeNumber 38 = .ok (.putfield 123, 3) := by decide +kernel
theorem dX3_takeNumber_41 : decode cX3_takeNumber 41 = .ok (.aload_n 0, 1) := by decide +kernel
theorem dX3_takeNumber_42 : decode cX3_takeNumber 42 = .ok (.bipush 10, 2) := by decide +kernel
theorem dX3_takeNumber_44 : decode cX3_takeNumber 44 = .ok (.putfield 23, 3) := by decide +kernel
theorem dX3_takeNumber_47 : decode cX3_takeNumber 47 = .ok (.goto 69, 3) := by decide +kernel
theorem dX3_takeNumber_50 : decode cX3_takeNumber 50 = .ok (.aload_n 0, 1) := by decide +kernel
theorem dX3_takeNumber_51 : decode cX3_takeNumber 51 = .ok (.getfield 23, 3) := by decide +kernel
theorem dX3_takeNumber_54 : decode cX3_takeNumber 54 = .ok (.bipush 7, 2) := by decide +kernel
theorem dX3_takeNumber_56 : decode cX3_takeNumber 56 = .ok (.if_icmp .ne 20, 3) := by decide +kernel
theorem dX3_takeNumber_59 : decode cX3_takeNumber 59 = .ok (.aload_n 0, 1) := by decide +kernel
theorem dX3_takeNumber_60 : decode cX3_takeNumber 60 = .ok (.getfield 15, 3) := by decide +kernel
theorem dX3_takeNumber_63 : decode cX3_takeNumber 63 = .ok (.iload_n 1, 1) := by decide +kernel
theorem dX3_takeNumber_64 : decode cX3_takeNumber 64 = .ok (.putfield 126, 3) := by decide +kernel
theorem dX3_takeNumber_67 : decode cX3_takeNumber 67 = .ok (.aload_n 0, 1) := by decide +kernel
theorem dX3_takeNumber_68 : decode cX3_takeNumber 68 = .ok (.bipush 8, 2) := by decide +kernel
theorem dX3_takeNumber_70 : decode cX3_takeNumber 70 = .ok (.putfield 23, 3) := by decide +kernel
theorem dX3_takeNumber_73 : decode cX3_takeNumber 73 = .ok (.goto 43, 3) := by decide +kernel
theorem dX3_takeNumber_76 : decode cX3_takeNumber 76 = .ok (.aload_n 0, 1) := by decide +kernel
theorem dX3_takeNumber_77 : decode cX3_takeNumber 77 = .ok (.getfield 15, 3) := by decide +kernel
theorem dX3_takeNumber_80 : decode cX3_takeNumber 80 = .ok (.iload_n 1, 1) := by decide +kernel
theorem dX3_takeNumber_81 : decode cX3_takeNumber 81 = .ok (.putfield 129, 3) := by decide +kernel
theorem dX3_takeNumber_84 : decode cX3_takeNumber 84 = .ok (.aload_n 0, 1) := by decide +kernel
theorem dX3_takeNumber_85 : decode cX3_takeNumber 85 = .ok (.getfield 15, 3) := by decide +kernel
theorem dX3_takeNumber_88 : decode cX3_takeNumber 88 = .ok (.iload_n 1, 1) := by decide +kernel
theorem dX3_takeNumber_89 : decode cX3_takeNumber 89 = .ok (.putfield 126, 3) := by decide +kernel
theorem dX3_takeNumber_92 : decode cX3_takeNumber 92 = .ok (.aload_n 0, 1) := by decide +kernel
theorem dX3_takeNumber_93 : decode cX3_takeNumber 93 = .ok (.aload_n 0, 1) := by decide +kernel
theorem dX3_takeNumber_94 : decode cX3_takeNumber 94 = .ok (.getfield 15, 3) := by decide +kernel
theorem dX3_takeNumber_97 : decode cX3_takeNumber 97 = .ok (.getfield 106, 3) := by decide +kernel
theorem dX3_takeNumber_100 : decode cX3_takeNumber 100 = .ok (.getstatic 132, 3) := by decide +kernel
theorem dX3_takeNumber_103 : decode cX3_takeNumber 103 = .ok (.if_acmp .ne 8, 3) := by decide +kernel
theorem dX3_takeNumber_106 : decode cX3_takeNumber 106 = .ok (.bipush 7, 2) := by decide +kernel
theorem dX3_takeNumber_108 : decode cX3_takeNumber 108 = .ok (.goto 5, 3) := by decide +kernel
theorem dX3_takeNumber_111 : decode cX3_takeNumber 111 = .ok (.bipush 8, 2) := by decide +kernel
theorem dX3_takeNumber_113 : decode cX3_takeNumber 113 = .ok (.putfield 23, 3) := by decide +kernel
theorem dX3_takeNumber_116 : decode cX3_takeNumber 116 = .ok (.return_, 1) := by decide +kernel
theorem dX3_isEndOfPart_0 : decode cX3_isEndOfPart 0 = .ok (.aload_n 0, 1) := by decide +kernel
theorem dX3_isEndOfPart_1 : decode cX3_isEndOfPart 1 = .ok (.iload_n 1, 1) := by decide +kernel
theorem dX3_isEndOfPart_2 : decode cX3_isEndOfPart 2 = .ok (.invokevirtual 83, 3) := by decide +kernel
theorem dX3_isEndOfPart_5 : decode cX3_isEndOfPart 5 = .ok (.bipush 32, 2) := by decide +kernel
theorem dX3_isEndOfPart_7 : decode cX3_isEndOfPart 7 = .ok (.if_icmp .ne 7, 3) := by decide +kernel
theorem dX3_isEndOfPart_10 : decode cX3_isEndOfPart 10 = .ok (.iconst 1, 1) := by decide +kernel
theorem dX3_isEndOfPart_11 : decode cX3_isEndOfPart 11 = .ok (.goto 4, 3) := by decide +kernel
theorem dX3_isEndOfPart_14 : decode cX3_isEndOfPart 14 = .ok (.iconst 0, 1) := by decide +kernel
theorem dX3_isEndOfPart_15 : decode cX3_isEndOfPart 15 = .ok (.ireturn, 1) := by decide +kernel
theorem dX3_signAt_0 : decode cX3_signAt 0 = .ok (.iload_n 1, 1) := by decide +kernel
theorem dX3_signAt_1 : decode cX3_signAt 1 = .ok (.ifCond .lt 25, 3) := by decide +kernel
theorem dX3_signAt_4 : decode cX3_signAt 4 = .ok (.iload_n 1, 1) := by decide +kernel
theorem dX3_signAt_5 : decode cX3_signAt 5 = .ok (.aload_n 0, 1) := by decide +kernel
theorem dX3_signAt_6 : decode cX3_signAt 6 = .ok (.getfield 9, 3) := by decide +kernel
theorem dX3_signAt_9 : decode cX3_signAt 9 = .ok (.invokevirtual 26, 3) := by decide +kernel
theorem dX3_signAt_12 : decode cX3_signAt 12 = .ok (.if_icmp .ge 14, 3) := by decide +kernel
theorem dX3_signAt_15 : decode cX3_signAt 15 = .ok (.aload_n 0, 1) := by decide +kernel
theorem dX3_signAt_16 : decode cX3_signAt 16 = .ok (.getfield 9, 3) := by decide +kernel
theorem dX3_signAt_19 : decode cX3_signAt 19 = .ok (.iload_n 1, 1) := by decide +kernel
theorem dX3_signAt_20 : decode cX3_signAt 20 = .ok (.invokevirtual 45, 3) := by decide +kernel
theorem dX3_signAt_23 : decode cX3_signAt 23 = .ok (.goto 5, 3) := by decide +kernel
theorem dX3_signAt_26 : decode cX3_signAt 26 = .ok (.bipush 32, 2) := by decide +kernel
theorem dX3_signAt_28 : decode cX3_signAt 28 = .ok (.ireturn, 1) := by decide +kernel
theorem dX3_isDigit_0 : decode cX3_isDigit 0 = .ok (.iload_n 0, 1) := by decide +kernel
theorem dX3_isDigit_1 : decode cX3_isDigit 1 = .ok (.bipush 48, 2) := by decide +kernel
theorem dX3_isDigit_3 : decode cX3_isDigit 3 = .ok (.if_icmp .lt 13, 3) := by decide +kernel
theorem dX3_isDigit_6 : decode cX3_isDigit 6 = .ok (.iload_n 0, 1) := by decide +kernel
theorem dX3_isDigit_7 : decode cX3_isDigit 7 = .ok (.bipush 57, 2) := by decide +kernel
theorem dX3_isDigit_9 : decode cX3_isDigit 9 = .ok (.if_icmp .gt 7, 3) := by decide +kernel
theorem dX3_isDigit_12 : decode cX3_isDigit 12 = .ok (.iconst 1, 1) := by decide +kernel
theorem dX3_isDigit_13 : decode cX3_isDigit 13 = .ok (.goto 4, 3) := by decide +kernel
theorem dX3_isDigit_16 : decode cX3_isDigit 16 = .ok (.iconst 0, 1) := by decide +kernel
theorem dX3_isDigit_17 : decode cX3_isDigit 17 = .ok (.ireturn, 1) := by decide +kernel
theorem dX4_init_0 : decode cX4_init 0 = .ok (.aload_n 0, 1) := by decide +kernel
theorem dX4_init_1 : decode cX4_init 1 = .ok (.invokespecial 3, 3) := by decide +kernel
theorem dX4_init_4 : decode cX4_init 4 = .ok (.aload_n 0, 1) := by decide +kernel
theorem dX4_init_5 : decode cX4_init 5 = .ok (.iconst 1, 1) := by decide +kernel
theorem dX4_init_6 : decode cX4_init 6 = .ok (.iload_n 1, 1) := by decide +kernel
theorem dX4_init_7 : decode cX4_init 7 = .ok (.invokestatic 9, 3) := by decide +kernel
theorem dX4_init_10 : decode cX4_init 10 = .ok (.putfield 15, 3) := by decide +kernel
theorem dX4_init_13 : decode cX4_init 13 = .ok (.aload_n 0, 1) := by decide +kernel
theorem dX4_init_14 : decode cX4_init 14 = .ok (.aload_n 0, 1) := by decide +kernel
theorem dX4_init_15 : decode cX4_init 15 = .ok (.getfield 15, 3) := by decide +kernel
theorem dX4_init_18 : decode cX4_init 18 = .ok (.bipush 8, 2) := by decide +kernel
theorem dX4_init_20 : decode cX4_init 20 = .ok (.imul, 1) := by decide +kernel
theorem dX4_init_21 : decode cX4_init 21 = .ok (.newarray .int, 2) := by decide +kernel
theorem dX4_init_23 : decode cX4_init 23 = .ok (.putfield 21, 3) := by decide +kernel
theorem dX4_init_26 : decode cX4_init 26 = .ok (.aload_n 0, 1) := by decide +kernel
theorem dX4_init_27 : decode cX4_init 27 = .ok (.iconst 0, 1) := by decide +kernel
theorem dX4_init_28 : decode cX4_init 28 = .ok (.putfield 25, 3) := by decide +kernel
theorem dX4_init_31 : decode cX4_init 31 = .ok (.return_, 1) := by decide +kernel
theorem dX4_holds_0 : decode cX4_holds 0 = .ok (.iload_n 1, 1) := by decide +kernel
theorem dX4_holds_1 : decode cX4_holds 1 = .ok (.ifCond .lt 27, 3) := by decide +kernel
theorem dX4_holds_4 : decode cX4_holds 4 = .ok (.iload_n 1, 1) := by decide +kernel
theorem dX4_holds_5 : decode cX4_holds 5 = .ok (.aload_n 0, 1) := by decide +kernel
theorem dX4_holds_6 : decode cX4_holds 6 = .ok (.getfield 25, 3) := by decide +kernel
theorem dX4_holds_9 : decode cX4_holds 9 = .ok (.if_icmp .ge 19, 3) := by decide +kernel
theorem dX4_holds_12 : decode cX4_holds 12 = .ok (.iload_n 2, 1) := by decide +kernel
theorem dX4_holds_13 : decode cX4_holds 13 = .ok (.ifCond .lt 15, 3) := by decide +kernel
theorem dX4_holds_16 : decode cX4_holds 16 = .ok (.iload_n 2, 1) := by decide +kernel
theorem dX4_holds_17 : decode cX4_holds 17 = .ok (.aload_n 0, 1) := by decide +kernel
theorem dX4_holds_18 : decode cX4_holds 18 = .ok (.getfield 15, 3) := by decide +kernel
theorem dX4_holds_21 : decode cX4_holds 21 = .ok (.if_icmp .ge 7, 3) := by decide +kernel
theorem dX4_holds_24 : decode cX4_holds 24 = .ok (.iconst 1, 1) := by decide +kernel
theorem dX4_holds_25 : decode cX4_holds 25 = .ok (.goto 4, 3) := by decide +kernel
theorem dX4_holds_28 : decode cX4_holds 28 = .ok (.iconst 0, 1) := by decide +kernel
theorem dX4_holds_29 : decode cX4_holds 29 = .ok (.ireturn, 1) := by decide +kernel
theorem dX4_get_0 : decode cX4_get 0 = .ok (.aload_n 0, 1) := by decide +kernel
theorem dX4_get_1 : decode cX4_get 1 = .ok (.iload_n 1, 1) := by decide +kernel
theorem dX4_get_2 : decode cX4_get 2 = .ok (.iload_n 2, 1) := by decide +kernel
theorem dX4_get_3 : decode cX4_get 3 = .ok (.invokevirtual 28, 3) := by decide +kernel
theorem dX4_get_6 : decode cX4_get 6 = .ok (.ifCond .eq 19, 3) := by decide +kernel
theorem dX4_get_9 : decode cX4_get 9 = .ok (.aload_n 0, 1) := by decide +kernel
theorem dX4_get_10 : decode cX4_get 10 = .ok (.getfield 21, 3) := by decide +kernel
theorem dX4_get_13 : decode cX4_get 13 = .ok (.iload_n 1, 1) := by decide +kernel
theorem dX4_get_14 : decode cX4_get 14 = .ok (.aload_n 0, 1) := by decide +kernel
theorem dX4_get_15 : decode cX4_get 15 = .ok (.getfield 15, 3) := by decide +kernel
theorem dX4_get_18 : decode cX4_get 18 = .ok (.imul, 1) := by decide +kernel
theorem dX4_get_19 : decode cX4_get 19 = .ok (.iload_n 2, 1) := by decide +kernel
theorem dX4_get_20 : decode cX4_get 20 = .ok (.iadd, 1) := by decide +kernel
theorem dX4_get_21 : decode cX4_get 21 = .ok (.iaload, 1) := by decide +kernel
theorem dX4_get_22 : decode cX4_get 22 = .ok (.goto 4, 3) := by decide +kernel
theorem dX4_get_25 : decode cX4_get 25 = .ok (.iconst 0, 1) := by decide +kernel
theorem dX4_get_26 : decode cX4_get 26 = .ok (.ireturn, 1) := by decide +kernel
theorem dX4_set_0 : decode cX4_set 0 = .ok (.aload_n 0, 1) := by decide +kernel
theorem dX4_set_1 : decode cX4_set 1 = .ok (.iload_n 1, 1) := by decide +kernel
theorem dX4_set_2 : decode cX4_set 2 = .ok (.iload_n 2, 1) := by decide +kernel
theorem dX4_set_3 : decode cX4_set 3 = .ok (.invokevirtual 28, 3) := by decide +kernel
theorem dX4_set_6 : decode cX4_set 6 = .ok (.ifCond .eq 17, 3) := by decide +kernel
theorem dX4_set_9 : decode cX4_set 9 = .ok (.aload_n 0, 1) := by decide +kernel
theorem dX4_set_10 : decode cX4_set 10 = .ok (.getfield 21, 3) := by decide +kernel
theorem dX4_set_13 : decode cX4_set 13 = .ok (.iload_n 1, 1) := by decide +kernel
theorem dX4_set_14 : decode cX4_set 14 = .ok (.aload_n 0, 1) := by decide +kernel
theorem dX4_set_15 : decode cX4_set 15 = .ok (.getfield 15, 3) := by decide +kernel
theorem dX4_set_18 : decode cX4_set 18 = .ok (.imul, 1) := by decide +kernel
theorem dX4_set_19 : decode cX4_set 19 = .ok (.iload_n 2, 1) := by decide +kernel
theorem dX4_set_20 : decode cX4_set 20 = .ok (.iadd, 1) := by decide +kernel
theorem dX4_set_21 : decode cX4_set 21 = .ok (.iload_n 3, 1) := by decide +kernel
theorem dX4_set_22 : decode cX4_set 22 = .ok (.iastore, 1) := by decide +kernel
theorem dX4_set_23 : decode cX4_set 23 = .ok (.return_, 1) := by decide +kernel
theorem dX4_insert_0 : decode cX4_insert 0 = .ok (.iload_n 1, 1) := by decide +kernel
theorem dX4_insert_1 : decode cX4_insert 1 = .ok (.ifCond .lt 21, 3) := by decide +kernel
theorem dX4_insert_4 : decode cX4_insert 4 = .ok (.iload_n 1, 1) := by decide +kernel
theorem dX4_insert_5 : decode cX4_insert 5 = .ok (.aload_n 0, 1) := by decide +kernel
theorem dX4_insert_6 : decode cX4_insert 6 = .ok (.getfield 25, 3) := by decide +kernel
theorem dX4_insert_9 : decode cX4_insert 9 = .ok (.if_icmp .gt 13, 3) := by decide +kernel
theorem dX4_insert_12 : decode cX4_insert 12 = .ok (.aload_n 0, 1) := by decide +kernel
theorem dX4_insert_13 : decode cX4_insert 13 = .ok (.getfield 25, 3) := by decide +kernel
theorem dX4_insert_16 : decode cX4_insert 16 = .ok (.sipush 4096, 3) := by decide +kernel
theorem dX4_insert_19 : decode cX4_insert 19 = .ok (.if_icmp .lt 4, 3) := by decide +kernel
theorem dX4_insert_22 : decode cX4_insert 22 = .ok (.return_, 1) := by decide +kernel
theorem dX4_insert_23 : decode cX4_insert 23 = .ok (.aload_n 0, 1) := by decide +kernel
theorem dX4_insert_24 : decode cX4_insert 24 = .ok (.aload_n 0, 1) := by decide +kernel
theorem dX4_insert_25 : decode cX4_insert 25 = .ok (.getfield 25, 3) := by decide +kernel
theorem dX4_insert_28 : decode cX4_insert 28 = .ok (.iconst 1, 1) := by decide +kernel
theorem dX4_insert_29 : decode cX4_insert 29 = .ok (.iadd, 1) := by decide +kernel
theorem dX4_insert_30 : decode cX4_insert 30 = .ok (.invokevirtual 32, 3) := by decide +kernel
theorem dX4_insert_33 : decode cX4_insert 33 = .ok (.iload_n 1, 1) := by decide +kernel
theorem dX4_insert_34 : decode cX4_insert 34 = .ok (.aload_n 0, 1) := by decide +kernel
theorem dX4_insert_35 : decode cX4_insert 35 = .ok (.getfield 15, 3) := by decide +kernel
theorem dX4_insert_38 : decode cX4_insert 38 = .ok (.imul, 1) := by decide +kernel
theorem dX4_insert_39 : decode cX4_insert 39 = .ok (.istore_n 2, 1) := by decide +kernel
theorem dX4_insert_40 : decode cX4_insert 40 = .ok (.aload_n 0, 1) := by decide +kernel
theorem dX4_insert_41 : decode cX4_insert 41 = .ok (.getfield 21, 3) := by decide +kernel
theorem dX4_insert_44 : decode cX4_insert 44 = .ok (.iload_n 2, 1) := by decide +kernel
theorem dX4_insert_45 : decode cX4_insert 45 = .ok (.aload_n 0, 1) := by decide +kernel
theorem dX4_insert_46 : decode cX4_insert 46 = .ok (.getfield 21, 3) := by decide +kernel
theorem dX4_insert_49 : decode cX4_insert 49 = .ok (.iload_n 2, 1) := by decide +kernel
theorem dX4_insert_50 : decode cX4_insert 50 = .ok (.aload_n 0, 1) := by decide +kernel
theorem dX4_insert_51 : decode cX4_insert 51 = .ok (.getfield 15, 3) := by decide +kernel
theorem dX4_insert_54 : decode cX4_insert 54 = .ok (.iadd, 1) := by decide +kernel
theorem dX4_insert_55 : decode cX4_insert 55 = .ok (.aload_n 0, 1) := by decide +kernel
theorem dX4_insert_56 : decode cX4_insert 56 = .ok (.getfield 25, 3) := by decide +kernel
theorem dX4_insert_59 : decode cX4_insert 59 = .ok (.iload_n 1, 1) := by decide +kernel
theorem dX4_insert_60 : decode cX4_insert 60 = .ok (.isub, 1) := by decide +kernel
theorem dX4_insert_61 : decode cX4_insert 61 = .ok (.aload_n 0, 1) := by decide +kernel
theorem dX4_insert_62 : decode cX4_insert 62 = .ok (.getfield 15, 3) := by decide +kernel
theorem dX4_insert_65 : decode cX4_insert 65 = .ok (.imul, 1) := by decide +kernel
theorem dX4_insert_66 : decode cX4_insert 66 = .ok (.invokestatic 36, 3) := by decide +kernel
theorem dX4_insert_69 : decode cX4_insert 69 = .ok (.iconst 0, 1) := by decide +kernel
theorem dX4_insert_70 : decode cX4_insert 70 = .ok (.istore_n 3, 1) := by decide +kernel
theorem dX4_insert_71 : decode cX4_insert 71 = .ok (.iload_n 3, 1) := by decide +kernel
theorem dX4_insert_72 : decode cX4_insert 72 = .ok (.aload_n 0, 1) := by decide +kernel
theorem dX4_insert_73 : decode cX4_insert 73 = .ok (.getfield 15, 3) := by decide +kernel
theorem dX4_insert_76 : decode cX4_insert 76 = .ok (.if_icmp .ge 18, 3) := by decide +kernel
theorem dX4_insert_79 : decode cX4_insert 79 = .ok (.aload_n 0, 1) := by decide +kernel
theorem dX4_insert_80 : decode cX4_insert 80 = .ok (.getfield 21, 3) := by decide +kernel
theorem dX4_insert_83 : decode cX4_insert 83 = .ok (.iload_n 2, 1) := by decide +kernel
theorem dX4_insert_84 : decode cX4_insert 84 = .ok (.iload_n 3, 1) := by decide +kernel
theorem dX4_insert_85 : decode cX4_insert 85 = .ok (.iadd, 1) := by decide +kernel
theorem dX4_insert_86 : decode cX4_insert 86 = .ok (.iconst 0, 1) := by decide +kernel
theorem dX4_insert_87 : decode cX4_insert 87 = .ok (.iastore, 1) := by decide +kernel
theorem dX4_insert_88 : decode cX4_insert 88 = .ok (.iinc 3 1, 3) := by decide +kernel
theorem dX4_insert_91 : decode cX4_insert 91 = .ok (.goto (-20), 3) := by decide +kernel
theorem dX4_insert_94 : decode cX4_insert 94 = .ok (.aload_n 0, 1) := by decide +kernel
theorem dX4_insert_95 : decode cX4_insert 95 = .ok (.dup, 1) := by decide +kernel
theorem dX4_insert_96 : decode cX4_insert 96 = .ok (.getfield 25, 3) := by decide +kernel
theorem dX4_insert_99 : decode cX4_insert 99 = .ok (.iconst 1, 1) := by decide +kernel
theorem dX4_insert_100 : decode cX4_insert 100 = .ok (.iadd, 1) := by decide +kernel
theorem dX4_insert_101 : decode cX4_insert 101 = .ok (.putfield 25, 3) := by decide +kernel
theorem dX4_insert_104 : decode cX4_insert 104 = .ok (.return_, 1) := by decide +kernel
theorem dX4_remove_0 : decode cX4_remove 0 = .ok (.iload_n 1, 1) := by decide +kernel
theorem dX4_remove_1 : decode cX4_remove 1 = .ok (.ifCond .lt 17, 3) := by decide +kernel
theorem dX4_remove_4 : decode cX4_remove 4 = .ok (.iload_n 2, 1) := by decide +kernel
theorem dX4_remove_5 : decode cX4_remove 5 = .ok (.ifCond .lt 13, 3) := by decide +kernel
theorem dX4_remove_8 : decode cX4_remove 8 = .ok (.iload_n 1, 1) := by decide +kernel
theorem dX4_remove_9 : decode cX4_remove 9 = .ok (.aload_n 0, 1) := by decide +kernel
theorem dX4_remove_10 : decode cX4_remove 10 = .ok (.getfield 25, 3) := by decide +kernel
theorem dX4_remove_13 : decode cX4_remove 13 = .ok (.iload_n 2, 1) := by decide +kernel
theorem dX4_remove_14 : decode cX4_remove 14 = .ok (.isub, 1) := by decide +kernel
theorem dX4_remove_15 : decode cX4_remove 15 = .ok (.if_icmp .le 4, 3) := by decide +kernel
theorem dX4_remove_18 : decode cX4_remove 18 = .ok (.return_, 1) := by decide +kernel
theorem dX4_remove_19 : decode cX4_remove 19 = .ok (.iload_n 1, 1) := by decide +kernel
theorem dX4_remove_20 : decode cX4_remove 20 = .ok (.iload_n 2, 1) := by decide +kernel
theorem dX4_remove_21 : decode cX4_remove 21 = .ok (.iadd, 1) := by decide +kernel
theorem dX4_remove_22 : decode cX4_remove 22 = .ok (.istore_n 3, 1) := by decide +kernel
theorem dX4_remove_23 : decode cX4_remove 23 = .ok (.aload_n 0, 1) := by decide +kernel
theorem dX4_remove_24 : decode cX4_remove 24 = .ok (.getfield 21, 3) := by decide +kernel
theorem dX4_remove_27 : decode cX4_remove 27 = .ok (.iload_n 3, 1) := by decide +kernel
theorem dX4_remove_28 : decode cX4_remove 28 = .ok (.aload_n 0, 1) := by decide +kernel
theorem dX4_remove_29 : decode cX4_remove 29 = .ok (.getfield 15, 3) := by decide +kernel
theorem dX4_remove_32 : decode cX4_remove 32 = .ok (.imul, 1) := by decide +kernel
theorem dX4_remove_33 : decode cX4_remove 33 = .ok (.aload_n 0, 1) := by decide +kernel
theorem dX4_remove_34 : decode cX4_remove 34 = .ok (.getfield 21, 3) := by decide +kernel
theorem dX4_remove_37 : decode cX4_remove 37 = .ok (.iload_n 1, 1) := by decide +kernel
theorem dX4_remove_38 : decode cX4_remove 38 = .ok (.aload_n 0, 1) := by decide +kernel
theorem dX4_remove_39 : decode cX4_remove 39 = .ok (.getfield 15, 3) := by decide +kernel
theorem dX4_remove_42 : decode cX4_remove 42 = .ok (.imul, 1) := by decide +kernel
theorem dX4_remove_43 : decode cX4_remove 43 = .ok (.aload_n 0, 1) := by decide +kernel
theorem dX4_remove_44 : decode cX4_remove 44 = .ok (.getfield 25, 3) := by decide +kernel
theorem dX4_remove_47 : decode cX4_remove 47 = .ok (.iload_n 3, 1) := by decide +kernel
theorem dX4_remove_48 : decode cX4_remove 48 = .ok (.isub, 1) := by decide +kernel
theorem dX4_remove_49 : decode cX4_remove 49 = .ok (.aload_n 0, 1) := by decide +kernel
theorem dX4_remove_50 : decode cX4_remove 50 = .ok (.getfield 15, 3) := by decide +kernel
theorem dX4_remove_53 : decode cX4_remove 53 = .ok (.imul, 1) := by decide +kernel
theorem dX4_remove_54 : decode cX4_remove 54 = .ok (.invokestatic 36, 3) := by decide +kernel
theorem dX4_remove_57 : decode cX4_remove 57 = .ok (.aload_n 0, 1) := by decide +kernel
theorem dX4_remove_58 : decode cX4_remove 58 = .ok (.dup, 1) := by decide +kernel
theorem dX4_remove_59 : decode cX4_remove 59 = .ok (.getfield 25, 3) := by decide +kernel
theorem dX4_remove_62 : decode cX4_remove 62 = .ok (.iload_n 2, 1) := by decide +kernel
theorem dX4_remove_63 : decode cX4_remove 63 = .ok (.isub, 1) := by decide +kernel
theorem dX4_remove_64 : decode cX4_remove 64 = .ok (.putfield 25, 3) := by decide +kernel
theorem dX4_remove_67 : decode cX4_remove 67 = .ok (.return_, 1) := by decide +kernel
theorem dX4_cutTo_0 : decode cX4_cutTo 0 = .ok (.iload_n 1, 1) := by decide +kernel
theorem dX4_cutTo_1 : decode cX4_cutTo 1 = .ok (.ifCond .lt 16, 3) := by decide +kernel
theorem dX4_cutTo_4 : decode cX4_cutTo 4 = .ok (.iload_n 1, 1) := by decide +kernel
theorem dX4_cutTo_5 : decode cX4_cutTo 5 = .ok (.aload_n 0, 1) := by decide +kernel
theorem dX4_cutTo_6 : decode cX4_cutTo 6 = .ok (.getfield 25, 3) := by decide +kernel
theorem dX4_cutTo_9 : decode cX4_cutTo 9 = .ok (.if_icmp .ge 8, 3) := by decide +kernel
theorem dX4_cutTo_12 : decode cX4_cutTo 12 = .ok (.aload_n 0, 1) := by decide +kernel
theorem dX4_cutTo_13 : decode cX4_cutTo 13 = .ok (.iload_n 1, 1) := by decide +kernel
theorem dX4_cutTo_14 : decode cX4_cutTo 14 = .ok (.putfield 25, 3) := by decide +kernel
theorem dX4_cutTo_17 : decode cX4_cutTo 17 = .ok (.return_, 1) := by decide +kernel
theorem dX4_copyFrom_0 : decode cX4_copyFrom 0 = .ok (.aload_n 1, 1) := by decide +kernel
theorem dX4_copyFrom_1 : decode cX4_copyFrom 1 = .ok (.getfield 15, 3) := by decide +kernel
theorem dX4_copyFrom_4 : decode cX4_copyFrom 4 = .ok (.aload_n 0, 1) := by decide +kernel
theorem dX4_copyFrom_5 : decode cX4_copyFrom 5 = .ok (.getfield 15, 3) := by decide +kernel
theorem dX4_copyFrom_8 : decode cX4_copyFrom 8 = .ok (.if_icmp .eq 4, 3) := by decide +kernel
theorem dX4_copyFrom_11 : decode cX4_copyFrom 11 = .ok (.return_, 1) := by decide +kernel
theorem dX4_copyFrom_12 : decode cX4_copyFrom 12 = .ok (.aload_n 0, 1) := by decide +kernel
theorem dX4_copyFrom_13 : decode cX4_copyFrom 13 = .ok (.aload_n 1, 1) := by decide +kernel
theorem dX4_copyFrom_14 : decode cX4_copyFrom 14 = .ok (.getfield 25, 3) := by decide +kernel
theorem dX4_copyFrom_17 : decode cX4_copyFrom 17 = .ok (.invokevirtual 32, 3) := by decide +kernel
theorem dX4_copyFrom_20 : decode cX4_copyFrom 20 = .ok (.aload_n 1, 1) := by decide +kernel
theorem dX4_copyFrom_21 : decode cX4_copyFrom 21 = .ok (.getfield 21, 3) := by decide +kernel
theorem dX4_copyFrom_24 : decode cX4_copyFrom 24 = .ok (.iconst 0, 1) := by decide +kernel
theorem dX4_copyFrom_25 : decode cX4_copyFrom 25 = .ok (.aload_n 0, 1) := by decide +kernel
theorem dX4_copyFrom_26 : decode cX4_copyFrom 26 = .ok (.getfield 21, 3) := by decide +kernel
theorem dX4_copyFrom_29 : decode cX4_copyFrom 29 = .ok (.iconst 0, 1) := by decide +kernel
theorem dX4_copyFrom_30 : decode cX4_copyFrom 30 = .ok (.aload_n 1, 1) := by decide +kernel
theorem dX4_copyFrom_31 : decode cX4_copyFrom 31 = .ok (.getfield 25, 3) := by decide +kernel
theorem dX4_copyFrom_34 : decode cX4_copyFrom 34 = .ok (.aload_n 0, 1) := by decide +kernel
theorem dX4_copyFrom_35 : decode cX4_copyFrom 35 = .ok (.getfield 15, 3) := by decide +kernel
theorem dX4_copyFrom_38 : decode cX4_copyFrom 38 = .ok (.imul, 1) := by decide +kernel
theorem dX4_copyFrom_39 : decode cX4_copyFrom 39 = .ok (.invokestatic 36, 3) := by decide +kernel
theorem dX4_copyFrom_42 : decode cX4_copyFrom 42 = .ok (.aload_n 0, 1) := by decide +kernel
theorem dX4_copyFrom_43 : decode cX4_copyFrom 43 = .ok (.aload_n 1, 1) := by decide +kernel
theorem dX4_copyFrom_44 : decode cX4_copyFrom 44 = .ok (.getfield 25, 3) := by decide +kernel
theorem dX4_copyFrom_47 : decode cX4_copyFrom 47 = .ok (.putfield 25, 3) := by decide +kernel
theorem dX4_copyFrom_50 : decode cX4_copyFrom 50 = .ok (.return_, 1) := by decide +kernel
theorem dX4_makeRoom_0 : decode cX4_makeRoom 0 = .ok (.iload_n 1, 1) := by decide +kernel
theorem dX4_makeRoom_1 : decode cX4_makeRoom 1 = .ok (.aload_n 0, 1) := by decide +kernel
theorem dX4_makeRoom_2 : decode cX4_makeRoom 2 = .ok (.getfield 15, 3) := by decide +kernel
theorem dX4_makeRoom_5 : decode cX4_makeRoom 5 = .ok (.imul, 1) := by decide +kernel
theorem dX4_makeRoom_6 : decode cX4_makeRoom 6 = .ok (.istore_n 2, 1) := by decide +kernel
theorem dX4_makeRoom_7 : decode cX4_makeRoom 7 = .ok (.iload_n 2, 1) := by decide +kernel
theorem dX4_makeRoom_8 : decode cX4_makeRoom 8 = .ok (.aload_n 0, 1) := by decide +kernel
theorem dX4_makeRoom_9 : decode cX4_makeRoom 9 = .ok (.getfield 21, 3) := by decide +kernel
theorem dX4_makeRoom_12 : decode cX4_makeRoom 12 = .ok (.arraylength, 1) := by decide +kernel
theorem dX4_makeRoom_13 : decode cX4_makeRoom 13 = .ok (.if_icmp .gt 4, 3) := by decide +kernel
theorem dX4_makeRoom_16 : decode cX4_makeRoom 16 = .ok (.return_, 1) := by decide +kernel
theorem dX4_makeRoom_17 : decode cX4_makeRoom 17 = .ok (.iload_n 2, 1) := by decide +kernel
theorem dX4_makeRoom_18 : decode cX4_makeRoom 18 = .ok (.iconst 2, 1) := by decide +kernel
theorem dX4_makeRoom_19 : decode cX4_makeRoom 19 = .ok (.aload_n 0, 1) := by decide +kernel
theorem dX4_makeRoom_20 : decode cX4_makeRoom 20 = .ok (.getfield 21, 3) := by decide +kernel
theorem dX4_makeRoom_23 : decode cX4_makeRoom 23 = .ok (.arraylength, 1) := by decide +kernel
theorem dX4_makeRoom_24 : decode cX4_makeRoom 24 = .ok (.imul, 1) := by decide +kernel
theorem dX4_makeRoom_25 : decode cX4_makeRoom 25 = .ok (.invokestatic 9, 3) := by decide +kernel
theorem dX4_makeRoom_28 : decode cX4_makeRoom 28 = .ok (.newarray .int, 2) := by decide +kernel
theorem dX4_makeRoom_30 : decode cX4_makeRoom 30 = .ok (.astore_n 3, 1) := by decide +kernel
theorem dX4_makeRoom_31 : decode cX4_makeRoom 31 = .ok (.aload_n 0, 1) := by decide +kernel
theorem dX4_makeRoom_32 : decode cX4_makeRoom 32 = .ok (.getfield 21, 3) := by decide +kernel
theorem dX4_makeRoom_35 : decode cX4_makeRoom 35 = .ok (.iconst 0, 1) := by decide +kernel
theorem dX4_makeRoom_36 : decode cX4_makeRoom 36 = .ok (.aload_n 3, 1) := by decide +kernel
theorem dX4_makeRoom_37 : decode cX4_makeRoom 37 = .ok (.iconst 0, 1) := by decide +kernel
theorem dX4_makeRoom_38 : decode cX4_makeRoom 38 = .ok (.aload_n 0, 1) := by decide +kernel
theorem dX4_makeRoom_39 : decode cX4_makeRoom 39 = .ok (.getfield 25, 3) := by decide +kernel
theorem dX4_makeRoom_42 : decode cX4_makeRoom 42 = .ok (.aload_n 0, 1) := by decide +kernel
theorem dX4_makeRoom_43 : decode cX4_makeRoom 43 = .ok (.getfield 15, 3) := by decide +kernel
theorem dX4_makeRoom_46 : decode cX4_makeRoom 46 = .ok (.imul, 1) := by decide +kernel
theorem dX4_makeRoom_47 : decode cX4_makeRoom 47 = .ok (.invokestatic 36, 3) := by decide +kernel
theorem dX4_makeRoom_50 : decode cX4_makeRoom 50 = .ok (.aload_n 0, 1) := by decide +kernel
theorem dX4_makeRoom_51 : decode cX4_makeRoom 51 = .ok (.aload_n 3, 1) := by decide +kernel
theorem dX4_makeRoom_52 : decode cX4_makeRoom 52 = .ok (.putfield 21, 3) := by decide +kernel
theorem dX4_makeRoom_55 : decode cX4_makeRoom 55 = .ok (.return_, 1) := by decide +kernel
theorem dX5_init_0 : decode cX5_init 0 = .ok (.aload_n 0, 1) := by decide +kernel
theorem dX5_init_1 : decode cX5_init 1 = .ok (.invokespecial 3, 3) := by decide +kernel
theorem dX5_init_4 : decode cX5_init 4 = .ok (.aload_n 0, 1) := by decide +kernel
theorem dX5_init_5 : decode cX5_init 5 = .ok (.iconst 5, 1) := by decide +kernel
theorem dX5_init_6 : decode cX5_init 6 = .ok (.anewarray 9, 3) := by decide +kernel
theorem dX5_init_9 : decode cX5_init 9 = .ok (.putfield 11, 3) := by decide +kernel
theorem dX5_init_12 : decode cX5_init 12 = .ok (.aload_n 0, 1) := by decide +kernel
theorem dX5_init_13 : decode cX5_init 13 = .ok (.new 9, 3) := by decide +kernel
theorem dX5_init_16 : decode cX5_init 16 = .ok (.dup, 1) := by decide +kernel
theorem dX5_init_17 : decode cX5_init 17 = .ok (.invokespecial 17, 3) := by decide +kernel
theorem dX5_init_20 : decode cX5_init 20 = .ok (.putfield 18, 3) := by decide +kernel
theorem dX5_init_23 : decode cX5_init 23 = .ok (.aload_n 0, 1) := by decide +kernel
theorem dX5_init_24 : decode cX5_init 24 = .ok (.iconst 0, 1) := by decide +kernel
theorem dX5_init_25 : decode cX5_init 25 = .ok (.putfield 22, 3) := by decide +kernel
theorem dX5_init_28 : decode cX5_init 28 = .ok (.aload_n 0, 1) := by decide +kernel
theorem dX5_init_29 : decode cX5_init 29 = .ok (.iconst 0, 1) := by decide +kernel
theorem dX5_init_30 : decode cX5_init 30 = .ok (.putfield 26, 3) := by decide +kernel
theorem dX5_init_33 : decode cX5_init 33 = .ok (.iconst 0, 1) := by decide +kernel
theorem dX5_init_34 : decode cX5_init 34 = .ok (.istore_n 1, 1) := by decide +kernel
theorem dX5_init_35 : decode cX5_init 35 = .ok (.iload_n 1, 1) := by decide +kernel
theorem dX5_init_36 : decode cX5_init 36 = .ok (.iconst 5, 1) := by decide +kernel
theorem dX5_init_37 : decode cX5_init 37 = .ok (.if_icmp .ge 22, 3) := by decide +kernel
theorem dX5_init_40 : decode cX5_init 40 = .ok (.aload_n 0, 1) := by decide +kernel
theorem dX5_init_41 : decode cX5_init 41 = .ok (.getfield 11, 3) := by decide +kernel
theorem dX5_init_44 : decode cX5_init 44 = .ok (.iload_n 1, 1) := by decide +kernel
theorem dX5_init_45 : decode cX5_init 45 = .ok (.new 9, 3) := by decide +kernel
theorem dX5_init_48 : decode cX5_init 48 = .ok (.dup, 1) := by decide +kernel
theorem dX5_init_49 : decode cX5_init 49 = .ok (.invokespecial 17, 3) := by decide +kernel
theorem dX5_init_52 : decode cX5_init 52 = .ok (.aastore, 1) := by decide +kernel
theorem dX5_init_53 : decode cX5_init 53 = .ok (.iinc 1 1, 3) := by decide +kernel
theorem dX5_init_56 : decode cX5_init 56 = .ok (.goto (-21), 3) := by decide +kernel
theorem dX5_init_59 : decode cX5_init 59 = .ok (.return_, 1) := by decide +kernel
theorem dX5_beginAnew_0 : decode cX5_beginAnew 0 = .ok (.aload_n 0, 1) := by decide +kernel
theorem dX5_beginAnew_1 : decode cX5_beginAnew 1 = .ok (.iconst 0, 1) := by decide +kernel
theorem dX5_beginAnew_2 : decode cX5_beginAnew 2 = .ok (.putfield 22, 3) := by decide +kernel
theorem dX5_beginAnew_5 : decode cX5_beginAnew 5 = .ok (.aload_n 0, 1) := by decide +kernel
theorem dX5_beginAnew_6 : decode cX5_beginAnew 6 = .ok (.iconst 0, 1) := by decide +kernel
theorem dX5_beginAnew_7 : decode cX5_beginAnew 7 = .ok (.putfield 26, 3) := by decide +kernel
theorem dX5_beginAnew_10 : decode cX5_beginAnew 10 = .ok (.aload_n 0, 1) := by decide +kernel
theorem dX5_beginAnew_11 : decode cX5_beginAnew 11 = .ok (.getfield 18, 3) := by decide +kernel
theorem dX5_beginAnew_14 : decode cX5_beginAnew 14 = .ok (.invokevirtual 29, 3) := by decide +kernel
theorem dX5_beginAnew_17 : decode cX5_beginAnew 17 = .ok (.return_, 1) := by decide +kernel
theorem dX5_forgetDoubtful_0 : decode cX5_forgetDoubtful 0 = .ok (.aload_n 0, 1) := by decide +kernel
theorem dX5_forgetDoubtful_1 : decode cX5_forgetDoubtful 1 = .ok (.iconst 0, 1) := by decide +kernel
theorem dX5_forgetDoubtful_2 : decode cX5_forgetDoubtful 2 = .ok (.putfield 22, 3) := by decide +kernel
theorem dX5_forgetDoubtful_5 : decode cX5_forgetDoubtful 5 = .ok (.return_, 1) := by decide +kernel
theorem dX5_take_0 : decode cX5_take 0 = .ok (.aload_n 0, 1) := by decide +kernel
theorem dX5_take_1 : decode cX5_take 1 = .ok (.getfield 22, 3) := by decide +kernel
theorem dX5_take_4 : decode cX5_take 4 = .ok (.iconst 5, 1) := by decide +kernel
theorem dX5_take_5 : decode cX5_take 5 = .ok (.if_icmp .lt 5, 3) := by decide +kernel
theorem dX5_take_8 : decode cX5_take 8 = .ok (.iconst (-1), 1) := by decide +kernel
theorem dX5_take_9 : decode cX5_take 9 = .ok (.ireturn, 1) := by decide +kernel
theorem dX5_take_10 : decode cX5_take 10 = .ok (.aload_n 0, 1) := by decide +kernel
theorem dX5_take_11 : decode cX5_take 11 = .ok (.getfield 11, 3) := by decide +kernel
theorem dX5_take_14 : decode cX5_take 14 = .ok (.aload_n 0, 1) := by decide +kernel
theorem dX5_take_15 : decode cX5_take 15 = .ok (.getfield 22, 3) := by decide +kernel
theorem dX5_take_18 : decode cX5_take 18 = .ok (.aaload, 1) := by decide +kernel
theorem dX5_take_19 : decode cX5_take 19 = .ok (.astore_n 3, 1) := by decide +kernel
theorem dX5_take_20 : decode cX5_take 20 = .ok (.aload_n 3, 1) := by decide +kernel
theorem dX5_take_21 : decode cX5_take 21 = .ok (.aload_n 1, 1) := by decide +kernel
theorem dX5_take_22 : decode cX5_take 22 = .ok (.invokevirtual 32, 3) := by decide +kernel
theorem dX5_take_25 : decode cX5_take 25 = .ok (.aload_n 3, 1) := by decide +kernel
theorem dX5_take_26 : decode cX5_take 26 = .ok (.iload_n 2, 1) := by decide +kernel
theorem dX5_take_27 : decode cX5_take 27 = .ok (.putfield 36, 3) := by decide +kernel
theorem dX5_take_30 : decode cX5_take 30 = .ok (.aload_n 3, 1) := by decide +kernel
theorem dX5_take_31 : decode cX5_take 31 = .ok (.aload_n 0, 1) := by decide +kernel
theorem dX5_take_32 : decode cX5_take 32 = .ok (.getfield 26, 3) := by decide +kernel
theorem dX5_take_35 : decode cX5_take 35 = .ok (.putfield 39, 3) := by decide +kernel
theorem dX5_take_38 : decode cX5_take 38 = .ok (.aload_n 0, 1) := by decide +kernel
theorem dX5_take_39 : decode cX5_take 39 = .ok (.dup, 1) := by decide +kernel
theorem dX5_take_40 : decode cX5_take 40 = .ok (.getfield 22, 3) := by decide +kernel
theorem dX5_take_43 : decode cX5_take 43 = .ok (.iconst 1, 1) := by decide +kernel
theorem dX5_take_44 : decode cX5_take 44 = .ok (.iadd, 1) := by decide +kernel
theorem dX5_take_45 : decode cX5_take 45 = .ok (.putfield 22, 3) := by decide +kernel
theorem dX5_take_48 : decode cX5_take 48 = .ok (.aload_n 0, 1) := by decide +kernel
theorem dX5_take_49 : decode cX5_take 49 = .ok (.dup, 1) := by decide +kernel
theorem dX5_take_50 : decode cX5_take 50 = .ok (.getfield 26, 3) := by decide +kernel
theorem dX5_take_53 : decode cX5_take 53 = .ok (.iconst 1, 1) := by decide +kernel
theorem dX5_take_54 : decode cX5_take 54 = .ok (.iadd, 1) := by decide +kernel
theorem dX5_take_55 : decode cX5_take 55 = .ok (.putfield 26, 3) := by decide +kernel
theorem dX5_take_58 : decode cX5_take 58 = .ok (.aload_n 3, 1) := by decide +kernel
theorem dX5_take_59 : decode cX5_take 59 = .ok (.getfield 39, 3) := by decide +kernel
theorem dX5_take_62 : decode cX5_take 62 = .ok (.ireturn, 1) := by decide +kernel
theorem dX5_placeOf_0 : decode cX5_placeOf 0 = .ok (.iconst 0, 1) := by decide +kernel
theorem dX5_placeOf_1 : decode cX5_placeOf 1 = .ok (.istore_n 2, 1) := by decide +kernel
theorem dX5_placeOf_2 : decode cX5_placeOf 2 = .ok (.iload_n 2, 1) := by decide +kernel
theorem dX5_placeOf_3 : decode cX5_placeOf 3 = .ok (.aload_n 0, 1) := by decide +kernel
theorem dX5_placeOf_4 : decode cX5_placeOf 4 = .ok (.getfield 22, 3) := by decide +kernel
theorem dX5_placeOf_7 : decode cX5_placeOf 7 = .ok (.if_icmp .ge 24, 3) := by decide +kernel
theorem dX5_placeOf_10 : decode cX5_placeOf 10 = .ok (.aload_n 0, 1) := by decide +kernel
theorem dX5_placeOf_11 : decode cX5_placeOf 11 = .ok (.getfield 11, 3) := by decide +kernel
theorem dX5_placeOf_14 : decode cX5_placeOf 14 = .ok (.iload_n 2, 1) := by decide +kernel
theorem dX5_placeOf_15 : decode cX5_placeOf 15 = .ok (.aaload, 1) := by decide +kernel
theorem dX5_placeOf_16 : decode cX5_placeOf 16 = .ok (.getfield 39, 3) := by decide +kernel
theorem dX5_placeOf_19 : decode cX5_placeOf 19 = .ok (.iload_n 1, 1) := by decide +kernel
theorem dX5_placeOf_20 : decode cX5_placeOf 20 = .ok (.if_icmp .ne 5, 3) := by decide +kernel
theorem dX5_placeOf_23 : decode cX5_placeOf 23 = .ok (.iload_n 2, 1) := by decide +kernel
theorem dX5_placeOf_24 : decode cX5_placeOf 24 = .ok (.ireturn, 1) := by decide +kernel
theorem dX5_placeOf_25 : decode cX5_placeOf 25 = .ok (.iinc 2 1, 3) := by decide +kernel
theorem dX5_placeOf_28 : decode cX5_placeOf 28 = .ok (.goto (-26), 3) := by decide +kernel
theorem dX5_placeOf_31 : decode cX5_placeOf 31 = .ok (.iconst (-1), 1) := by decide +kernel
theorem dX5_placeOf_32 : decode cX5_placeOf 32 = .ok (.ireturn, 1) := by decide +kernel
theorem dX5_completeAt_0 : decode cX5_completeAt 0 = .ok (.iload_n 1, 1) := by decide +kernel
theorem dX5_completeAt_1 : decode cX5_completeAt 1 = .ok (.ifCond .lt 11, 3) := by decide +kernel
theorem dX5_completeAt_4 : decode cX5_completeAt 4 = .ok (.iload_n 1, 1) := by decide +kernel
theorem dX5_completeAt_5 : decode cX5_completeAt 5 = .ok (.aload_n 0, 1) := by decide +kernel
theorem dX5_completeAt_6 : decode cX5_completeAt 6 = .ok (.getfield 22, 3) := by decide +kernel
theorem dX5_completeAt_9 : decode cX5_completeAt 9 = .ok (.if_icmp .lt 4, 3) := by decide +kernel
theorem dX5_completeAt_12 : decode cX5_completeAt 12 = .ok (.return_, 1) := by decide +kernel
theorem dX5_completeAt_13 : decode cX5_completeAt 13 = .ok (.aload_n 0, 1) := by decide +kernel
theorem dX5_completeAt_14 : decode cX5_completeAt 14 = .ok (.getfield 18, 3) := by decide +kernel
theorem dX5_completeAt_17 : decode cX5_completeAt 17 = .ok (.aload_n 0, 1) := by decide +kernel
theorem dX5_completeAt_18 : decode cX5_completeAt 18 = .ok (.getfield 11, 3) := by decide +kernel
theorem dX5_completeAt_21 : decode cX5_completeAt 21 = .ok (.iload_n 1, 1) := by decide +kernel
theorem dX5_completeAt_22 : decode cX5_completeAt 22 = .ok (.aaload, 1) := by decide +kernel
theorem dX5_completeAt_23 : decode cX5_completeAt 23 = .ok (.invokevirtual 32, 3) := by decide +kernel
theorem dX5_completeAt_26 : decode cX5_completeAt 26 = .ok (.iload_n 1, 1) := by decide +kernel
theorem dX5_completeAt_27 : decode cX5_completeAt 27 = .ok (.iconst 1, 1) := by decide +kernel
theorem dX5_completeAt_28 : decode cX5_completeAt 28 = .ok (.iadd, 1) := by decide +kernel
theorem dX5_completeAt_29 : decode cX5_completeAt 29 = .ok (.istore_n 2, 1) := by decide +kernel
theorem dX5_completeAt_30 : decode cX5_completeAt 30 = .ok (.iconst 0, 1) := by decide +kernel
theorem dX5_completeAt_31 : decode cX5_completeAt 31 = .ok (.istore_n 3, 1) := by decide +kernel
theorem dX5_completeAt_32 : decode cX5_completeAt 32 = .ok (.iload_n 3, 1) := by decide +kernel
theorem dX5_completeAt_33 : decode cX5_completeAt 33 = .ok (.iload_n 2, 1) := by decide +kernel
theorem dX5_completeAt_34 : decode cX5_completeAt 34 = .ok (.iadd, 1) := by decide +kernel
theorem dX5_completeAt_35 : decode cX5_completeAt 35 = .ok (.aload_n 0, 1) := by decide +kernel
theorem dX5_completeAt_36 : decode cX5_completeAt 36 = .ok (.getfield 22, 3) := by decide +kernel
theorem dX5_completeAt_39 : decode cX5_completeAt 39 = .ok (.if_icmp .ge 41, 3) := by decide +kernel
theorem dX5_completeAt_42 : decode cX5_completeAt 42 = .ok (.aload_n 0, 1) := by decide +kernel
theorem dX5_completeAt_43 : decode cX5_completeAt 43 = .ok (.getfield 11, 3) := by decide +kernel
theorem dX5_completeAt_46 : decode cX5_completeAt 46 = .ok (.iload_n 3, 1) := by decide +kernel
theorem dX5_completeAt_47 : decode cX5_completeAt 47 = .ok (.aaload, 1) := by decide +kernel
theorem dX5_completeAt_48 : decode cX5_completeAt 48 = .ok (.astore 4, 2) := by decide +kernel
theorem dX5_completeAt_50 : decode cX5_completeAt 50 = .ok (.aload_n 0, 1) := by decide +kernel
theorem dX5_completeAt_51 : decode cX5_completeAt 51 = .ok (.getfield 11, 3) := by decide +kernel
theorem dX5_completeAt_54 : decode cX5_completeAt 54 = .ok (.iload_n 3, 1) := by decide +kernel
theorem dX5_completeAt_55 : decode cX5_completeAt 55 = .ok (.aload_n 0, 1) := by decide +kernel
theorem dX5_completeAt_56 : decode cX5_completeAt 56 = .ok (.getfield 11, 3) := by decide +kernel
theorem dX5_completeAt_59 : decode cX5_completeAt 59 = .ok (.iload_n 3, 1) := by decide +kernel
theorem dX5_completeAt_60 : decode cX5_completeAt 60 = .ok (.iload_n 2, 1) := by decide +kernel
theorem dX5_completeAt_61 : decode cX5_completeAt 61 = .ok (.iadd, 1) := by decide +kernel
theorem dX5_completeAt_62 : decode cX5_completeAt 62 = .ok (.aaload, 1) := by decide +kernel
theorem dX5_completeAt_63 : decode cX5_completeAt 63 = .ok (.aastore, 1) := by decide +kernel
theorem dX5_completeAt_64 : decode cX5_completeAt 64 = .ok (.aload_n 0, 1) := by decide +kernel
theorem dX5_completeAt_65 : decode cX5_completeAt 65 = .ok (.getfield 11, 3) := by decide +kernel
theorem dX5_completeAt_68 : decode cX5_completeAt 68 = .ok (.iload_n 3, 1) := by decide +kernel
theorem dX5_completeAt_69 : decode cX5_completeAt 69 = .ok (.iload_n 2, 1) := by decide +kernel
theorem dX5_completeAt_70 : decode cX5_completeAt 70 = .ok (.iadd, 1) := by decide +kernel
theorem dX5_completeAt_71 : decode cX5_completeAt 71 = .ok (.aload 4, 2) := by decide +kernel
theorem dX5_completeAt_73 : decode cX5_completeAt 73 = .ok (.aastore, 1) := by decide +kernel
theorem dX5_completeAt_74 : decode cX5_completeAt 74 = .ok (.iinc 3 1, 3) := by decide +kernel
theorem dX5_completeAt_77 : decode cX5_completeAt 77 = .ok (.goto (-45), 3) := by decide +kernel
theorem dX5_completeAt_80 : decode cX5_completeAt 80 = .ok (.aload_n 0, 1) := by decide +kernel
theorem dX5_completeAt_81 : decode cX5_completeAt 81 = .ok (.dup, 1) := by decide +kernel
theorem dX5_completeAt_82 : decode cX5_completeAt 82 = .ok (.getfield 22, 3) := by decide +kernel
theorem dX5_completeAt_85 : decode cX5_completeAt 85 = .ok (.iload_n 2, 1) := by decide +kernel
theorem dX5_completeAt_86 : decode cX5_completeAt 86 = .ok (.isub, 1) := by decide +kernel
theorem dX5_completeAt_87 : decode cX5_completeAt 87 = .ok (.putfield 22, 3) := by decide +kernel
theorem dX5_completeAt_90 : decode cX5_completeAt 90 = .ok (.return_, 1) := by decide +kernel
theorem dX5_closedResults_0 : decode cX5_closedResults 0 = .ok (.aload_n 0, 1) := by decide +kernel
theorem dX5_closedResults_1 : decode cX5_closedResults 1 = .ok (.getfield 22, 3) := by decide +kernel
theorem dX5_closedResults_4 : decode cX5_closedResults 4 = .ok (.ifCond .le 20, 3) := by decide +kernel
theorem dX5_closedResults_7 : decode cX5_closedResults 7 = .ok (.aload_n 0, 1) := by decide +kernel
theorem dX5_closedResults_8 : decode cX5_closedResults 8 = .ok (.getfield 11, 3) := by decide +kernel
theorem dX5_closedResults_11 : decode cX5_closedResults 11 = .ok (.aload_n 0, 1) := by decide +kernel
theorem dX5_closedResults_12 : decode cX5_closedResults 12 = .ok (.getfield 22, 3) := by decide +kernel
theorem dX5_closedResults_15 : decode cX5_closedResults 15 = .ok (.iconst 1, 1) := by decide +kernel
theorem dX5_closedResults_16 : decode cX5_closedResults 16 = .ok (.isub, 1) := by decide +kernel
theorem dX5_closedResults_17 : decode cX5_closedResults 17 = .ok (.aaload, 1) := by decide +kernel
theorem dX5_closedResults_18 : decode cX5_closedResults 18 = .ok (.getfield 36, 3) := by decide +kernel
theorem dX5_closedResults_21 : decode cX5_closedResults 21 = .ok (.goto 10, 3) := by decide +kernel
theorem dX5_closedResults_24 : decode cX5_closedResults 24 = .ok (.aload_n 0, 1) := by decide +kernel
theorem dX5_closedResults_25 : decode cX5_closedResults 25 = .ok (.getfield 18, 3) := by decide +kernel
theorem dX5_closedResults_28 : decode cX5_closedResults 28 = .ok (.getfield 36, 3) := by decide +kernel
theorem dX5_closedResults_31 : decode cX5_closedResults 31 = .ok (.ireturn, 1) := by decide +kernel
theorem dX6_init_0 : decode cX6_init 0 = .ok (.aload_n 0, 1) := by decide +kernel
theorem dX6_init_1 : decode cX6_init 1 = .ok (.invokespecial 3, 3) := by decide +kernel
theorem dX6_init_4 : decode cX6_init 4 = .ok (.aload_n 0, 1) := by decide +kernel
theorem dX6_init_5 : decode cX6_init 5 = .ok (.iconst 3, 1) := by decide +kernel
theorem dX6_init_6 : decode cX6_init 6 = .ok (.newarray .int, 2) := by decide +kernel
theorem dX6_init_8 : decode cX6_init 8 = .ok (.putfield 9, 3) := by decide +kernel
theorem dX6_init_11 : decode cX6_init 11 = .ok (.aload_n 0, 1) := by decide +kernel
theorem dX6_init_12 : decode cX6_init 12 = .ok (.iconst 3, 1) := by decide +kernel
theorem dX6_init_13 : decode cX6_init 13 = .ok (.newarray .int, 2) := by decide +kernel
theorem dX6_init_15 : decode cX6_init 15 = .ok (.putfield 15, 3) := by decide +kernel
theorem dX6_init_18 : decode cX6_init 18 = .ok (.aload_n 0, 1) := by decide +kernel
theorem dX6_init_19 : decode cX6_init 19 = .ok (.new 18, 3) := by decide +kernel
theorem dX6_init_22 : decode cX6_init 22 = .ok (.dup, 1) := by decide +kernel
theorem dX6_init_23 : decode cX6_init 23 = .ok (.bipush 6, 2) := by decide +kernel
theorem dX6_init_25 : decode cX6_init 25 = .ok (.invokespecial 20, 3) := by decide +kernel
theorem dX6_init_28 : decode cX6_init 28 = .ok (.putfield 23, 3) := by decide +kernel
theorem dX6_init_31 : decode cX6_init 31 = .ok (.aload_n 0, 1) := by decide +kernel
theorem dX6_init_32 : decode cX6_init 32 = .ok (.iconst (-1), 1) := by decide +kernel
theorem dX6_init_33 : decode cX6_init 33 = .ok (.putfield 27, 3) := by decide +kernel
theorem dX6_init_36 : decode cX6_init 36 = .ok (.aload_n 0, 1) := by decide +kernel
theorem dX6_init_37 : decode cX6_init 37 = .ok (.iconst 0, 1) := by decide +kernel
theorem dX6_init_38 : decode cX6_init 38 = .ok (.putfield 31, 3) := by decide +kernel
theorem dX6_init_41 : decode cX6_init 41 = .ok (.aload_n 0, 1) := by decide +kernel
theorem dX6_init_42 : decode cX6_init 42 = .ok (.iconst 0, 1) := by decide +kernel
theorem dX6_init_43 : decode cX6_init 43 = .ok (.putfield 34, 3) := by decide +kernel
theorem dX6_init_46 : decode cX6_init 46 = .ok (.aload_n 0, 1) := by decide +kernel
theorem dX6_init_47 : decode cX6_init 47 = .ok (.iconst (-1), 1) := by decide +kernel
theorem dX6_init_48 : decode cX6_init 48 = .ok (.putfield 37, 3) := by decide +kernel
theorem dX6_init_51 : decode cX6_init 51 = .ok (.return_, 1) := by decide +kernel
theorem dX6_beginAnew_0 : decode cX6_beginAnew 0 = .ok (.iconst 0, 1) := by decide +kernel
theorem dX6_beginAnew_1 : decode cX6_beginAnew 1 = .ok (.istore_n 1, 1) := by decide +kernel
theorem dX6_beginAnew_2 : decode cX6_beginAnew 2 = .ok (.iload_n 1, 1) := by decide +kernel
theorem dX6_beginAnew_3 : decode cX6_beginAnew 3 = .ok (.iconst 3, 1) := by decide +kernel
theorem dX6_beginAnew_4 : decode cX6_beginAnew 4 = .ok (.if_icmp .ge 23, 3) := by decide +kernel
theorem dX6_beginAnew_7 : decode cX6_beginAnew 7 = .ok (.aload_n 0, 1) := by decide +kernel
theorem dX6_beginAnew_8 : decode cX6_beginAnew 8 = .ok (.getfield 9, 3) := by decide +kernel
theorem dX6_beginAnew_11 : decode cX6_beginAnew 11 = .ok (.iload_n 1, 1) := by decide +kernel
theorem dX6_beginAnew_12 : decode cX6_beginAnew 12 = .ok (.iconst 0, 1) := by decide +kernel
theorem dX6_beginAnew_13 : decode cX6_beginAnew 13 = .ok (.iastore, 1) := by decide +kernel
theorem dX6_beginAnew_14 : decode cX6_beginAnew 14 = .ok (.aload_n 0, 1) := by decide +kernel
theorem dX6_beginAnew_15 : decode cX6_beginAnew 15 = .ok (.getfield 15, 3) := by decide +kernel
theorem dX6_beginAnew_18 : decode cX6_beginAnew 18 = .ok (.iload_n 1, 1) := by decide +kernel
theorem dX6_beginAnew_19 : decode cX6_beginAnew 19 = .ok (.iconst 0, 1) := by decide +kernel
theorem dX6_beginAnew_20 : decode cX6_beginAnew 20 = .ok (.iastore, 1) := by decide +kernel
theorem dX6_beginAnew_21 : decode cX6_beginAnew 21 = .ok (.iinc 1 1, 3) := by decide +kernel
theorem dX6_beginAnew_24 : decode cX6_beginAnew 24 = .ok (.goto (-22), 3) := by decide +kernel
theorem dX6_beginAnew_27 : decode cX6_beginAnew 27 = .ok (.aload_n 0, 1) := by decide +kernel
theorem dX6_beginAnew_28 : decode cX6_beginAnew 28 = .ok (.getfield 23, 3) := by decide +kernel
theorem dX6_beginAnew_31 : decode cX6_beginAnew 31 = .ok (.iconst 0, 1) := by decide +kernel
theorem dX6_beginAnew_32 : decode cX6_beginAnew 32 = .ok (.invokevirtual 40, 3) := by decide +kernel
theorem dX6_beginAnew_35 : decode cX6_beginAnew 35 = .ok (.aload_n 0, 1) := by decide +kernel
theorem dX6_beginAnew_36 : decode cX6_beginAnew 36 = .ok (.iconst (-1), 1) := by decide +kernel
theorem dX6_beginAnew_37 : decode cX6_beginAnew 37 = .ok (.putfield 27, 3) := by decide +kernel
theorem dX6_beginAnew_40 : decode cX6_beginAnew 40 = .ok (.aload_n 0, 1) := by decide +kernel
theorem dX6_beginAnew_41 : decode cX6_beginAnew 41 = .ok (.iconst 0, 1) := by decide +kernel
theorem dX6_beginAnew_42 : decode cX6_beginAnew 42 = .ok (.putfield 31, 3) := by decide +kernel
theorem dX6_beginAnew_45 : decode cX6_beginAnew 45 = .ok (.aload_n 0, 1) := by decide +kernel
theorem dX6_beginAnew_46 : decode cX6_beginAnew 46 = .ok (.iconst 0, 1) := by decide +kernel
theorem dX6_beginAnew_47 : decode cX6_beginAnew 47 = .ok (.putfield 34, 3) := by decide +kernel
theorem dX6_beginAnew_50 : decode cX6_beginAnew 50 = .ok (.aload_n 0, 1) := by decide +kernel
theorem dX6_beginAnew_51 : decode cX6_beginAnew 51 = .ok (.iconst (-1), 1) := by decide +kernel
theorem dX6_beginAnew_52 : decode cX6_beginAnew 52 = .ok (.putfield 37, 3) := by decide +kernel
theorem dX6_beginAnew_55 : decode cX6_beginAnew 55 = .ok (.return_, 1) := by decide +kernel
theorem dX6_copyFrom_0 : decode cX6_copyFrom 0 = .ok (.iconst 0, 1) := by decide +kernel
theorem dX6_copyFrom_1 : decode cX6_copyFrom 1 = .ok (.istore_n 2, 1) := by decide +kernel
theorem dX6_copyFrom_2 : decode cX6_copyFrom 2 = .ok (.iload_n 2, 1) := by decide +kernel
theorem dX6_copyFrom_3 : decode cX6_copyFrom 3 = .ok (.iconst 3, 1) := by decide +kernel
theorem dX6_copyFrom_4 : decode cX6_copyFrom 4 = .ok (.if_icmp .ge 33, 3) := by decide +kernel
theorem dX6_copyFrom_7 : decode cX6_copyFrom 7 = .ok (.aload_n 0, 1) := by decide +kernel
theorem dX6_copyFrom_8 : decode cX6_copyFrom 8 = .ok (.getfield 9, 3) := by decide +kernel
theorem dX6_copyFrom_11 : decode cX6_copyFrom 11 = .ok (.iload_n 2, 1) := by decide +kernel
theorem dX6_copyFrom_12 : decode cX6_copyFrom 12 = .ok (.aload_n 1, 1) := by decide +kernel
theorem dX6_copyFrom_13 : decode cX6_copyFrom 13 = .ok (.getfield 9, 3) := by decide +kernel
theorem dX6_copyFrom_16 : decode cX6_copyFrom 16 = .ok (.iload_n 2, 1) := by decide +kernel
theorem dX6_copyFrom_17 : decode cX6_copyFrom 17 = .ok (.iaload, 1) := by decide +kernel
theorem dX6_copyFrom_18 : decode cX6_copyFrom 18 = .ok (.iastore, 1) := by decide +kernel
theorem dX6_copyFrom_19 : decode cX6_copyFrom 19 = .ok (.aload_n 0, 1) := by decide +kernel
theorem dX6_copyFrom_20 : decode cX6_copyFrom 20 = .ok (.getfield 15, 3) := by decide +kernel
theorem dX6_copyFrom_23 : decode cX6_copyFrom 23 = .ok (.iload_n 2, 1) := by decide +kernel
theorem dX6_copyFrom_24 : decode cX6_copyFrom 24 = .ok (.aload_n 1, 1) := by decide +kernel
theorem dX6_copyFrom_25 : decode cX6_copyFrom 25 = .ok (.getfield 15, 3) := by decide +kernel
theorem dX6_copyFrom_28 : decode cX6_copyFrom 28 = .ok (.iload_n 2, 1) := by decide +kernel
theorem dX6_copyFrom_29 : decode cX6_copyFrom 29 = .ok (.iaload, 1) := by decide +kernel
theorem dX6_copyFrom_30 : decode cX6_copyFrom 30 = .ok (.iastore, 1) := by decide +kernel
theorem dX6_copyFrom_31 : decode cX6_copyFrom 31 = .ok (.iinc 2 1, 3) := by decide +kernel
theorem dX6_copyFrom_34 : decode cX6_copyFrom 34 = .ok (.goto (-32), 3) := by decide +kernel
theorem dX6_copyFrom_37 : decode cX6_copyFrom 37 = .ok (.aload_n 0, 1) := by decide +kernel
theorem dX6_copyFrom_38 : decode cX6_copyFrom 38 = .ok (.getfield 23, 3) := by decide +kernel
theorem dX6_copyFrom_41 : decode cX6_copyFrom 41 = .ok (.aload_n 1, 1) := by decide +kernel
theorem dX6_copyFrom_42 : decode cX6_copyFrom 42 = .ok (.getfield 23, 3) := by decide +kernel
theorem dX6_copyFrom_45 : decode cX6_copyFrom 45 = .ok (.invokevirtual 43, 3) := by decide +kernel
theorem dX6_copyFrom_48 : decode cX6_copyFrom 48 = .ok (.aload_n 0, 1) := by decide +kernel
theorem dX6_copyFrom_49 : decode cX6_copyFrom 49 = .ok (.aload_n 1, 1) := by decide +kernel
theorem dX6_copyFrom_50 : decode cX6_copyFrom 50 = .ok (.getfield 27, 3) := by decide +kernel
theorem dX6_copyFrom_53 : decode cX6_copyFrom 53 = .ok (.putfield 27, 3) := by decide +kernel
theorem dX6_copyFrom_56 : decode cX6_copyFrom 56 = .ok (.aload_n 0, 1) := by decide +kernel
theorem dX6_copyFrom_57 : decode cX6_copyFrom 57 = .ok (.aload_n 1, 1) := by decide +kernel
theorem dX6_copyFrom_58 : decode cX6_copyFrom 58 = .ok (.getfield 31, 3) := by decide +kernel
theorem dX6_copyFrom_61 : decode cX6_copyFrom 61 = .ok (.putfield 31, 3) := by decide +kernel
theorem dX6_copyFrom_64 : decode cX6_copyFrom 64 = .ok (.aload_n 0, 1) := by decide +kernel
theorem dX6_copyFrom_65 : decode cX6_copyFrom 65 = .ok (.aload_n 1, 1) := by decide +kernel
theorem dX6_copyFrom_66 : decode cX6_copyFrom 66 = .ok (.getfield 34, 3) := by decide +kernel
theorem dX6_copyFrom_69 : decode cX6_copyFrom 69 = .ok (.putfield 34, 3) := by decide +kernel
theorem dX6_copyFrom_72 : decode cX6_copyFrom 72 = .ok (.aload_n 0, 1) := by decide +kernel
theorem dX6_copyFrom_73 : decode cX6_copyFrom 73 = .ok (.aload_n 1, 1) := by decide +kernel
theorem dX6_copyFrom_74 : decode cX6_copyFrom 74 = .ok (.getfield 37, 3) := by decide +kernel
theorem dX6_copyFrom_77 : decode cX6_copyFrom 77 = .ok (.putfield 37, 3) := by decide +kernel
theorem dX6_copyFrom_80 : decode cX6_copyFrom 80 = .ok (.return_, 1) := by decide +kernel
theorem dX6_findWindow_0 : decode cX6_findWindow 0 = .ok (.iconst 0, 1) := by decide +kernel
theorem dX6_findWindow_1 : decode cX6_findWindow 1 = .ok (.istore_n 3, 1) := by decide +kernel
theorem dX6_findWindow_2 : decode cX6_findWindow 2 = .ok (.iload_n 3, 1) := by decide +kernel
theorem dX6_findWindow_3 : decode cX6_findWindow 3 = .ok (.aload_n 0, 1) := by decide +kernel
theorem dX6_findWindow_4 : decode cX6_findWindow 4 = .ok (.getfield 23, 3) := by decide +kernel
theorem dX6_findWindow_7 : decode cX6_findWindow 7 = .ok (.getfield 47, 3) := by decide +kernel
theorem dX6_findWindow_10 : decode cX6_findWindow 10 = .ok (.if_icmp .ge 37, 3) := by decide +kernel
theorem dX6_findWindow_13 : decode cX6_findWindow 13 = .ok (.aload_n 0, 1) := by decide +kernel
theorem dX6_findWindow_14 : decode cX6_findWindow 14 = .ok (.getfield 23, 3) := by decide +kernel
theorem dX6_findWindow_17 : decode cX6_findWindow 17 = .ok (.iload_n 3, 1) := by decide +kernel
theorem dX6_findWindow_18 : decode cX6_findWindow 18 = .ok (.iconst 0, 1) := by decide +kernel
theorem dX6_findWindow_19 : decode cX6_findWindow 19 = .ok (.invokevirtual 50, 3) := by decide +kernel
theorem dX6_findWindow_22 : decode cX6_findWindow 22 = .ok (.iload_n 1, 1) := by decide +kernel
theorem dX6_findWindow_23 : decode cX6_findWindow 23 = .ok (.if_icmp .ne 18, 3) := by decide +kernel
theorem dX6_findWindow_26 : decode cX6_findWindow 26 = .ok (.aload_n 0, 1) := by decide +kernel
theorem dX6_findWindow_27 : decode cX6_findWindow 27 = .ok (.getfield 23, 3) := by decide +kernel
theorem dX6_findWindow_30 : decode cX6_findWindow 30 = .ok (.iload_n 3, 1) := by decide +kernel
theorem dX6_findWindow_31 : decode cX6_findWindow 31 = .ok (.iconst 1, 1) := by decide +kernel
theorem dX6_findWindow_32 : decode cX6_findWindow 32 = .ok (.invokevirtual 50, 3) := by decide +kernel
theorem dX6_findWindow_35 : decode cX6_findWindow 35 = .ok (.iload_n 2, 1) := by decide +kernel
theorem dX6_findWindow_36 : decode cX6_findWindow 36 = .ok (.if_icmp .ne 5, 3) := by decide +kernel
theorem dX6_findWindow_39 : decode cX6_findWindow 39 = .ok (.iload_n 3, 1) := by decide +kernel
theorem dX6_findWindow_40 : decode cX6_findWindow 40 = .ok (.ireturn, 1) := by decide +kernel
theorem dX6_findWindow_41 : decode cX6_findWindow 41 = .ok (.iinc 3 1, 3) := by decide +kernel
theorem dX6_findWindow_44 : decode cX6_findWindow 44 = .ok (.goto (-42), 3) := by decide +kernel
theorem dX6_findWindow_47 : decode cX6_findWindow 47 = .ok (.iconst (-1), 1) := by decide +kernel
theorem dX6_findWindow_48 : decode cX6_findWindow 48 = .ok (.ireturn, 1) := by decide +kernel
theorem dX6_addWindow_0 : decode cX6_addWindow 0 = .ok (.iconst 0, 1) := by decide +kernel
theorem dX6_addWindow_1 : decode cX6_addWindow 1 = .ok (.istore 5, 2) := by decide +kernel
theorem dX6_addWindow_3 : decode cX6_addWindow 3 = .ok (.iload 5, 2) := by decide +kernel
theorem dX6_addWindow_5 : decode cX6_addWindow 5 = .ok (.aload_n 0, 1) := by decide +kernel
theorem dX6_addWindow_6 : decode cX6_addWindow 6 = .ok (.getfield 23, 3) := by decide +kernel
theorem dX6_addWindow_9 : decode cX6_addWindow 9 = .ok (.getfield 47, 3) := by decide +kernel
theorem dX6_addWindow_12 : decode cX6_addWindow 12 = .ok (.if_icmp .ge 21, 3) := by decide +kernel
theorem dX6_addWindow_15 : decode cX6_addWindow 15 = .ok (.aload_n 0, 1) := by decide +kernel
theorem dX6_addWindow_16 : decode cX6_addWindow 16 = .ok (.iload 5, 2) := by decide +kernel
theorem dX6_addWindow_18 : decode cX6_addWindow 18 = .ok (.iload_n 1, 1) := by decide +kernel
theorem dX6_addWindow_19 : decode cX6_addWindow 19 = .ok (.iload_n 2, 1) := by decide +kernel
theorem dX6_addWindow_20 : decode cX6_addWindow 20 = .ok (.iload_n 3, 1) := by decide +kernel
theorem dX6_addWindow_21 : decode cX6_addWindow 21 = .ok (.invokevirtual 54, 3) := by decide +kernel
theorem dX6_addWindow_24 : decode cX6_addWindow 24 = .ok (.ifCond .eq 9, 3) := by decide +kernel
theorem dX6_addWindow_27 : decode cX6_addWindow 27 = .ok (.iinc 5 1, 3) := by decide +kernel
theorem dX6_addWindow_30 : decode cX6_addWindow 30 = .ok (.goto (-27), 3) := by decide +kernel
theorem dX6_addWindow_33 : decode cX6_addWindow 33 = .ok (.aload_n 0, 1) := by decide +kernel
theorem dX6_addWindow_34 : decode cX6_addWindow 34 = .ok (.getfield 23, 3) := by decide +kernel
theorem dX6_addWindow_37 : decode cX6_addWindow 37 = .ok (.iload 5, 2) := by decide +kernel
theorem dX6_addWindow_39 : decode cX6_addWindow 39 = .ok (.invokevirtual 58, 3) := by decide +kernel
theorem dX6_addWindow_42 : decode cX6_addWindow 42 = .ok (.aload_n 0, 1) := by decide +kernel
theorem dX6_addWindow_43 : decode cX6_addWindow 43 = .ok (.getfield 23, 3) := by decide +kernel
theorem dX6_addWindow_46 : decode cX6_addWindow 46 = .ok (.iload 5, 2) := by decide +kernel
theorem dX6_addWindow_48 : decode cX6_addWindow 48 = .ok (.iconst 0, 1) := by decide +kernel
theorem dX6_addWindow_49 : decode cX6_addWindow 49 = .ok (.iload_n 1, 1) := by decide +kernel
theorem dX6_addWindow_50 : decode cX6_addWindow 50 = .ok (.invokevirtual 61, 3) := by decide +kernel
theorem dX6_addWindow_53 : decode cX6_addWindow 53 = .ok (.aload_n 0, 1) := by decide +kernel
theorem dX6_addWindow_54 : decode cX6_addWindow 54 = .ok (.getfield 23, 3) := by decide +kernel
theorem dX6_addWindow_57 : decode cX6_addWindow 57 = .ok (.iload 5, 2) := by decide +kernel
theorem dX6_addWindow_59 : decode cX6_addWindow 59 = .ok (.iconst 1, 1) := by decide +kernel
theorem dX6_addWindow_60 : decode cX6_addWindow 60 = .ok (.iload_n 2, 1) := by decide +kernel
theorem dX6_addWindow_61 : decode cX6_addWindow 61 = .ok (.invokevirtual 61, 3) := by decide +kernel
theorem dX6_addWindow_64 : decode cX6_addWindow 64 = .ok (.aload_n 0, 1) := by decide +kernel
theorem dX6_addWindow_65 : decode cX6_addWindow 65 = .ok (.getfield 23, 3) := by decide +kernel
theorem dX6_addWindow_68 : decode cX6_addWindow 68 = .ok (.iload 5, 2) := by decide +kernel
theorem dX6_addWindow_70 : decode cX6_addWindow 70 = .ok (.iconst 2, 1) := by decide +kernel
theorem dX6_addWindow_71 : decode cX6_addWindow 71 = .ok (.iload_n 3, 1) := by decide +kernel
theorem dX6_addWindow_72 : decode cX6_addWindow 72 = .ok (.invokevirtual 61, 3) := by decide +kernel
theorem dX6_addWindow_75 : decode cX6_addWindow 75 = .ok (.aload_n 0, 1) := by decide +kernel
theorem dX6_addWindow_76 : decode cX6_addWindow 76 = .ok (.getfield 23, 3) := by decide +kernel
theorem dX6_addWindow_79 : decode cX6_addWindow 79 = .ok (.iload 5, 2) := by decide +kernel
theorem dX6_addWindow_81 : decode cX6_addWindow 81 = .ok (.iconst 3, 1) := by decide +kernel
theorem dX6_addWindow_82 : decode cX6_addWindow 82 = .ok (.iload 4, 2) := by decide +kernel
theorem dX6_addWindow_84 : decode cX6_addWindow 84 = .ok (.invokevirtual 61, 3) := by decide +kernel
theorem dX6_addWindow_87 : decode cX6_addWindow 87 = .ok (.iload 5, 2) := by decide +kernel
theorem dX6_addWindow_89 : decode cX6_addWindow 89 = .ok (.ireturn, 1) := by decide +kernel
theorem dX6_isAhead_0 : decode cX6_isAhead 0 = .ok (.aload_n 0, 1) := by decide +kernel
theorem dX6_isAhead_1 : decode cX6_isAhead 1 = .ok (.getfield 23, 3) := by decide +kernel
theorem dX6_isAhead_4 : decode cX6_isAhead 4 = .ok (.iload_n 1, 1) := by decide +kernel
theorem dX6_isAhead_5 : decode cX6_isAhead 5 = .ok (.iconst 2, 1) := by decide +kernel
theorem dX6_isAhead_6 : decode cX6_isAhead 6 = .ok (.invokevirtual 50, 3) := by decide +kernel
theorem dX6_isAhead_9 : decode cX6_isAhead 9 = .ok (.iload 4, 2) := by decide +kernel
theorem dX6_isAhead_11 : decode cX6_isAhead 11 = .ok (.if_icmp .eq 23, 3) := by decide +kernel
theorem dX6_isAhead_14 : decode cX6_isAhead 14 = .ok (.aload_n 0, 1) := by decide +kernel
theorem dX6_isAhead_15 : decode cX6_isAhead 15 = .ok (.getfield 23, 3) := by decide +kernel
theorem dX6_isAhead_18 : decode cX6_isAhead 18 = .ok (.iload_n 1, 1) := by decide +kernel
theorem dX6_isAhead_19 : decode cX6_isAhead 19 = .ok (.iconst 2, 1) := by decide +kernel
theorem dX6_isAhead_20 : decode cX6_isAhead 20 = .ok (.invokevirtual 50, 3) := by decide +kernel
theorem dX6_isAhead_23 : decode cX6_isAhead 23 = .ok (.iload 4, 2) := by decide +kernel
theorem dX6_isAhead_25 : decode cX6_isAhead 25 = .ok (.if_icmp .ge 7, 3) := by decide +kernel
theorem dX6_isAhead_28 : decode cX6_isAhead 28 = .ok (.iconst 1, 1) := by decide +kernel
theorem dX6_isAhead_29 : decode cX6_isAhead 29 = .ok (.goto 4, 3) := by decide +kernel
theorem dX6_isAhead_32 : decode cX6_isAhead 32 = .ok (.iconst 0, 1) := by decide +kernel
theorem dX6_isAhead_33 : decode cX6_isAhead 33 = .ok (.ireturn, 1) := by decide +kernel
theorem dX6_isAhead_34 : decode cX6_isAhead 34 = .ok (.aload_n 0, 1) := by decide +kernel
theorem dX6_isAhead_35 : decode cX6_isAhead 35 = .ok (.getfield 23, 3) := by decide +kernel
theorem dX6_isAhead_38 : decode cX6_isAhead 38 = .ok (.iload_n 1, 1) := by decide +kernel
theorem dX6_isAhead_39 : decode cX6_isAhead 39 = .ok (.iconst 1, 1) := by decide +kernel
theorem dX6_isAhead_40 : decode cX6_isAhead 40 = .ok (.invokevirtual 50, 3) := by decide +kernel
theorem dX6_isAhead_43 : decode cX6_isAhead 43 = .ok (.iload_n 3, 1) := by decide +kernel
theorem dX6_isAhead_44 : decode cX6_isAhead 44 = .ok (.if_icmp .eq 22, 3) := by decide +kernel
theorem dX6_isAhead_47 : decode cX6_isAhead 47 = .ok (.aload_n 0, 1) := by decide +kernel
theorem dX6_isAhead_48 : decode cX6_isAhead 48 = .ok (.getfield 23, 3) := by decide +kernel
theorem dX6_isAhead_51 : decode cX6_isAhead 51 = .ok (.iload_n 1, 1) := by decide +kernel
theorem dX6_isAhead_52 : decode cX6_isAhead 52 = .ok (.iconst 1, 1) := by decide +kernel
theorem dX6_isAhead_53 : decode cX6_isAhead 53 = .ok (.invokevirtual 50, 3) := by decide +kernel
theorem dX6_isAhead_56 : decode cX6_isAhead 56 = .ok (.iload_n 3, 1) := by decide +kernel
theorem dX6_isAhead_57 : decode cX6_isAhead 57 = .ok (.if_icmp .ge 7, 3) := by decide +kernel
theorem dX6_isAhead_60 : decode cX6_isAhead 60 = .ok (.iconst 1, 1) := by decide +kernel
theorem dX6_isAhead_61 : decode cX6_isAhead 61 = .ok (.goto 4, 3) := by decide +kernel
theorem dX6_isAhead_64 : decode cX6_isAhead 64 = .ok (.iconst 0, 1) := by decide +kernel
theorem dX6_isAhead_65 : decode cX6_isAhead 65 = .ok (.ireturn, 1) := by decide +kernel
theorem dX6_isAhead_66 : decode cX6_isAhead 66 = .ok (.aload_n 0, 1) := by decide +kernel
theorem dX6_isAhead_67 : decode cX6_isAhead 67 = .ok (.getfield 23, 3) := by decide +kernel
theorem dX6_isAhead_70 : decode cX6_isAhead 70 = .ok (.iload_n 1, 1) := by decide +kernel
theorem dX6_isAhead_71 : decode cX6_isAhead 71 = .ok (.iconst 0, 1) := by decide +kernel
theorem dX6_isAhead_72 : decode cX6_isAhead 72 = .ok (.invokevirtual 50, 3) := by decide +kernel
theorem dX6_isAhead_75 : decode cX6_isAhead 75 = .ok (.iload_n 2, 1) := by decide +kernel
theorem dX6_isAhead_76 : decode cX6_isAhead 76 = .ok (.if_icmp .ge 7, 3) := by decide +kernel
theorem dX6_isAhead_79 : decode cX6_isAhead 79 = .ok (.iconst 1, 1) := by decide +kernel
theorem dX6_isAhead_80 : decode cX6_isAhead 80 = .ok (.goto 4, 3) := by decide +kernel
theorem dX6_isAhead_83 : decode cX6_isAhead 83 = .ok (.iconst 0, 1) := by decide +kernel
theorem dX6_isAhead_84 : decode cX6_isAhead 84 = .ok (.ireturn, 1) := by decide +kernel
theorem dX6_windowByKey_0 : decode cX6_windowByKey 0 = .ok (.iconst 0, 1) := by decide +kernel
theorem dX6_windowByKey_1 : decode cX6_windowByKey 1 = .ok (.istore_n 2, 1) := by decide +kernel
theorem dX6_windowByKey_2 : decode cX6_windowByKey 2 = .ok (.iconst 0, 1) := by decide +kernel
theorem dX6_windowByKey_3 : decode cX6_windowByKey 3 = .ok (.istore_n 3, 1) := by decide +kernel
theorem dX6_windowByKey_4 : decode cX6_windowByKey 4 = .ok (.iload_n 3, 1) := by decide +kernel
theorem dX6_windowByKey_5 : decode cX6_windowByKey 5 = .ok (.bipush 8, 2) := by decide +kernel
theorem dX6_windowByKey_7 : decode cX6_windowByKey 7 = .ok (.if_icmp .ge 55, 3) := by decide +kernel
theorem dX6_windowByKey_10 : decode cX6_windowByKey 10 = .ok (.iconst 0, 1) := by decide +kernel
theorem dX6_windowByKey_11 : decode cX6_windowByKey 11 = .ok (.istore 4, 2) := by decide +kernel
theorem dX6_windowByKey_13 : decode cX6_windowByKey 13 = .ok (.iload 4, 2) := by decide +kernel
theorem dX6_windowByKey_15 : decode cX6_windowByKey 15 = .ok (.aload_n 0, 1) := by decide +kernel
theorem dX6_windowByKey_16 : decode cX6_windowByKey 16 = .ok (.getfield 23, 3) := by decide +kernel
theorem dX6_windowByKey_19 : decode cX6_windowByKey 19 = .ok (.getfield 47, 3) := by decide +kernel
theorem dX6_windowByKey_22 : decode cX6_windowByKey 22 = .ok (.if_icmp .ge 34, 3) := by decide +kernel
theorem dX6_windowByKey_25 : decode cX6_windowByKey 25 = .ok (.aload_n 0, 1) := by decide +kernel
theorem dX6_windowByKey_26 : decode cX6_windowByKey 26 = .ok (.getfield 23, 3) := by decide +kernel
theorem dX6_windowByKey_29 : decode cX6_windowByKey 29 = .ok (.iload 4, 2) := by decide +kernel
theorem dX6_windowByKey_31 : decode cX6_windowByKey 31 = .ok (.iconst 0, 1) := by decide +kernel
theorem dX6_windowByKey_32 : decode cX6_windowByKey 32 = .ok (.invokevirtual 50, 3) := by decide +kernel
theorem dX6_windowByKey_35 : decode cX6_windowByKey 35 = .ok (.iload_n 3, 1) := by decide +kernel
theorem dX6_windowByKey_36 : decode cX6_windowByKey 36 = .ok (.if_icmp .ne 14, 3) := by decide +kernel
theorem dX6_windowByKey_39 : decode cX6_windowByKey 39 = .ok (.iload_n 2, 1) := by decide +kernel
theorem dX6_windowByKey_40 : decode cX6_windowByKey 40 = .ok (.iload_n 1, 1) := by decide +kernel
theorem dX6_windowByKey_41 : decode cX6_windowByKey 41 = .ok (.if_icmp .ne 6, 3) := by decide +kernel
theorem dX6_windowByKey_44 : decode cX6_windowByKey 44 = .ok (.iload 4, 2) := by decide +kernel
theorem dX6_windowByKey_46 : decode cX6_windowByKey 46 = .ok (.ireturn, 1) := by decide +kernel
theorem dX6_windowByKey_47 : decode cX6_windowByKey 47 = .ok (.iinc 2 1, 3) := by decide +kernel
theorem dX6_windowByKey_50 : decode cX6_windowByKey 50 = .ok (.iinc 4 1, 3) := by decide +kernel
theorem dX6_windowByKey_53 : decode cX6_windowByKey 53 = .ok (.goto (-40), 3) := by decide +kernel
theorem dX6_windowByKey_56 : decode cX6_windowByKey 56 = .ok (.iinc 3 1, 3) := by decide +kernel
theorem dX6_windowByKey_59 : decode cX6_windowByKey 59 = .ok (.goto (-55), 3) := by decide +kernel
theorem dX6_windowByKey_62 : decode cX6_windowByKey 62 = .ok (.iconst (-1), 1) := by decide +kernel
theorem dX6_windowByKey_63 : decode cX6_windowByKey 63 = .ok (.ireturn, 1) := by decide +kernel
theorem dX7_mayStandBehind_0 : decode cX7_mayStandBehind 0 = .ok (.aload_n 0, 1) := by decide +kernel
theorem dX7_mayStandBehind_1 : decode cX7_mayStandBehind 1 = .ok (.getfield 74, 3) := by decide +kernel
theorem dX7_mayStandBehind_4 : decode cX7_mayStandBehind 4 = .ok (.iload_n 1, 1) := by decide +kernel
theorem dX7_mayStandBehind_5 : decode cX7_mayStandBehind 5 = .ok (.ishr, 1) := by decide +kernel
theorem dX7_mayStandBehind_6 : decode cX7_mayStandBehind 6 = .ok (.iconst 1, 1) := by decide +kernel
theorem dX7_mayStandBehind_7 : decode cX7_mayStandBehind 7 = .ok (.iand, 1) := by decide +kernel
theorem dX7_mayStandBehind_8 : decode cX7_mayStandBehind 8 = .ok (.iconst 1, 1) := by decide +kernel
theorem dX7_mayStandBehind_9 : decode cX7_mayStandBehind 9 = .ok (.if_icmp .ne 7, 3) := by decide +kernel
theorem dX7_mayStandBehind_12 : decode cX7_mayStandBehind 12 = .ok (.iconst 1, 1) := by decide +kernel
theorem dX7_mayStandBehind_13 : decode cX7_mayStandBehind 13 = .ok (.goto 4, 3) := by decide +kernel
theorem dX7_mayStandBehind_16 : decode cX7_mayStandBehind 16 = .ok (.iconst 0, 1) := by decide +kernel
theorem dX7_mayStandBehind_17 : decode cX7_mayStandBehind 17 = .ok (.ireturn, 1) := by decide +kernel
theorem dX8_init_0 : decode cX8_init 0 = .ok (.aload_n 0, 1) := by decide +kernel
theorem dX8_init_1 : decode cX8_init 1 = .ok (.invokespecial 1, 3) := by decide +kernel
theorem dX8_init_4 : decode cX8_init 4 = .ok (.aload_n 0, 1) := by decide +kernel
theorem dX8_init_5 : decode cX8_init 5 = .ok (.new 7, 3) := by decide +kernel
theorem dX8_init_8 : decode cX8_init 8 = .ok (.dup, 1) := by decide +kernel
theorem dX8_init_9 : decode cX8_init 9 = .ok (.invokespecial 9, 3) := by decide +kernel
theorem dX8_init_12 : decode cX8_init 12 = .ok (.putfield 10, 3) := by decide +kernel
theorem dX8_init_15 : decode cX8_init 15 = .ok (.aload_n 0, 1) := by decide +kernel
theorem dX8_init_16 : decode cX8_init 16 = .ok (.new 16, 3) := by decide +kernel
theorem dX8_init_19 : decode cX8_init 19 = .ok (.dup, 1) := by decide +kernel
theorem dX8_init_20 : decode cX8_init 20 = .ok (.invokespecial 18, 3) := by decide +kernel
theorem dX8_init_23 : decode cX8_init 23 = .ok (.putfield 19, 3) := by decide +kernel
theorem dX8_init_26 : decode cX8_init 26 = .ok (.aload_n 0, 1) := by decide +kernel
theorem dX8_init_27 : decode cX8_init 27 = .ok (.new 23, 3) := by decide +kernel
theorem dX8_init_30 : decode cX8_init 30 = .ok (.dup, 1) := by decide +kernel
theorem dX8_init_31 : decode cX8_init 31 = .ok (.invokespecial 25, 3) := by decide +kernel
theorem dX8_init_34 : decode cX8_init 34 = .ok (.putfield 26, 3) := by decide +kernel
theorem dX8_init_37 : decode cX8_init 37 = .ok (.aload_n 0, 1) := by decide +kernel
theorem dX8_init_38 : decode cX8_init 38 = .ok (.iconst 0, 1) := by decide +kernel
theorem dX8_init_39 : decode cX8_init 39 = .ok (.putfield 30, 3) := by decide +kernel
theorem dX8_init_42 : decode cX8_init 42 = .ok (.aload_n 0, 1) := by decide +kernel
theorem dX8_init_43 : decode cX8_init 43 = .ok (.iconst 1, 1) := by decide +kernel
theorem dX8_init_44 : decode cX8_init 44 = .ok (.putfield 34, 3) := by decide +kernel
theorem dX8_init_47 : decode cX8_init 47 = .ok (.return_, 1) := by decide +kernel
theorem dX8_type_0 : decode cX8_type 0 = .ok (.iload_n 1, 1) := by decide +kernel
theorem dX8_type_1 : decode cX8_type 1 = .ok (.bipush 32, 2) := by decide +kernel
theorem dX8_type_3 : decode cX8_type 3 = .ok (.if_icmp .lt 9, 3) := by decide +kernel
theorem dX8_type_6 : decode cX8_type 6 = .ok (.iload_n 1, 1) := by decide +kernel
theorem dX8_type_7 : decode cX8_type 7 = .ok (.bipush 126, 2) := by decide +kernel
theorem dX8_type_9 : decode cX8_type 9 = .ok (.if_icmp .le 11, 3) := by decide +kernel
theorem dX8_type_12 : decode cX8_type 12 = .ok (.new 38, 3) := by decide +kernel
theorem dX8_type_15 : decode cX8_type 15 = .ok (.dup, 1) := by decide +kernel
theorem dX8_type_16 : decode cX8_type 16 = .ok (.invokespecial 40, 3) := by decide +kernel
theorem dX8_type_19 : decode cX8_type 19 = .ok (.athrow, 1) := by decide +kernel
theorem dX8_type_20 : decode cX8_type 20 = .ok (.aload_n 0, 1) := by decide +kernel
theorem dX8_type_21 : decode cX8_type 21 = .ok (.getfield 10, 3) := by decide +kernel
theorem dX8_type_24 : decode cX8_type 24 = .ok (.invokevirtual 41, 3) := by decide +kernel
theorem dX8_type_27 : decode cX8_type 27 = .ok (.bipush 60, 2) := by decide +kernel
theorem dX8_type_29 : decode cX8_type 29 = .ok (.if_icmp .lt 11, 3) := by decide +kernel
theorem dX8_type_32 : decode cX8_type 32 = .ok (.new 45, 3) := by decide +kernel
theorem dX8_type_35 : decode cX8_type 35 = .ok (.dup, 1) := by decide +kernel
theorem dX8_type_36 : decode cX8_type 36 = .ok (.invokespecial 47, 3) := by decide +kernel
theorem dX8_type_39 : decode cX8_type 39 = .ok (.athrow, 1) := by decide +kernel
theorem dX8_type_40 : decode cX8_type 40 = .ok (.aload_n 0, 1) := by decide +kernel
theorem dX8_type_41 : decode cX8_type 41 = .ok (.getfield 10, 3) := by decide +kernel
theorem dX8_type_44 : decode cX8_type 44 = .ok (.iload_n 1, 1) := by decide +kernel
theorem dX8_type_45 : decode cX8_type 45 = .ok (.invokevirtual 48, 3) := by decide +kernel
theorem dX8_type_48 : decode cX8_type 48 = .ok (.pop, 1) := by decide +kernel
theorem dX8_type_49 : decode cX8_type 49 = .ok (.aload_n 0, 1) := by decide +kernel
theorem dX8_type_50 : decode cX8_type 50 = .ok (.getfield 10, 3) := by decide +kernel
theorem dX8_type_53 : decode cX8_type 53 = .ok (.invokevirtual 41, 3) := by decide +kernel
theorem dX8_type_56 : decode cX8_type 56 = .ok (.ireturn, 1) := by decide +kernel
theorem dX8_wipe_0 : decode cX8_wipe 0 = .ok (.aload_n 0, 1) := by decide +kernel
theorem dX8_wipe_1 : decode cX8_wipe 1 = .ok (.getfield 10, 3) := by decide +kernel
theorem dX8_wipe_4 : decode cX8_wipe 4 = .ok (.invokevirtual 41, 3) := by decide +kernel
theorem dX8_wipe_7 : decode cX8_wipe 7 = .ok (.istore_n 1, 1) := by decide +kernel
theorem dX8_wipe_8 : decode cX8_wipe 8 = .ok (.aload_n 0, 1) := by decide +kernel
theorem dX8_wipe_9 : decode cX8_wipe 9 = .ok (.getfield 10, 3) := by decide +kernel
theorem dX8_wipe_12 : decode cX8_wipe 12 = .ok (.iconst 0, 1) := by decide +kernel
theorem dX8_wipe_13 : decode cX8_wipe 13 = .ok (.invokevirtual 52, 3) := by decide +kernel
theorem dX8_wipe_16 : decode cX8_wipe 16 = .ok (.iload_n 1, 1) := by decide +kernel
theorem dX8_wipe_17 : decode cX8_wipe 17 = .ok (.ireturn, 1) := by decide +kernel
theorem dX8_fault_0 : decode cX8_fault 0 = .ok (.new 56, 3) := by decide +kernel
theorem dX8_fault_3 : decode cX8_fault 3 = .ok (.dup, 1) := by decide +kernel
theorem dX8_fault_4 : decode cX8_fault 4 = .ok (.aload_n 0, 1) := by decide +kernel
theorem dX8_fault_5 : decode cX8_fault 5 = .ok (.getfield 10, 3) := by decide +kernel
theorem dX8_fault_8 : decode cX8_fault 8 = .ok (.new 58, 3) := by decide +kernel
theorem dX8_fault_11 : decode cX8_fault 11 = .ok (.dup, 1) := by decide +kernel
theorem dX8_fault_12 : decode cX8_fault 12 = .ok (.invokespecial 60, 3) := by decide +kernel
theorem dX8_fault_15 : decode cX8_fault 15 = .ok (.invokespecial 61, 3) := by decide +kernel
theorem dX8_fault_18 : decode cX8_fault 18 = .ok (.invokevirtual 64, 3) := by decide +kernel
theorem dX8_fault_21 : decode cX8_fault 21 = .ok (.ireturn, 1) := by decide +kernel
theorem dX8_plan_0 : decode cX8_plan 0 = .ok (.new 58, 3) := by decide +kernel
theorem dX8_plan_3 : decode cX8_plan 3 = .ok (.dup, 1) := by decide +kernel
theorem dX8_plan_4 : decode cX8_plan 4 = .ok (.invokespecial 60, 3) := by decide +kernel
theorem dX8_plan_7 : decode cX8_plan 7 = .ok (.astore_n 2, 1) := by decide +kernel
theorem dX8_plan_8 : decode cX8_plan 8 = .ok (.new 56, 3) := by decide +kernel
theorem dX8_plan_11 : decode cX8_plan 11 = .ok (.dup, 1) := by decide +kernel
theorem dX8_plan_12 : decode cX8_plan 12 = .ok (.aload_n 0, 1) := by decide +kernel
theorem dX8_plan_13 : decode cX8_plan 13 = .ok (.getfield 10, 3) := by decide +kernel
theorem dX8_plan_16 : decode cX8_plan 16 = .ok (.aload_n 2, 1) := by decide +kernel
theorem dX8_plan_17 : decode cX8_plan 17 = .ok (.invokespecial 61, 3) := by decide +kernel
theorem dX8_plan_20 : decode cX8_plan 20 = .ok (.invokevirtual 64, 3) := by decide +kernel
theorem dX8_plan_23 : decode cX8_plan 23 = .ok (.iconst (-1), 1) := by decide +kernel
theorem dX8_plan_24 : decode cX8_plan 24 = .ok (.if_icmp .ne 10, 3) := by decide +kernel
theorem dX8_plan_27 : decode cX8_plan 27 = .ok (.aload_n 2, 1) := by decide +kernel
theorem dX8_plan_28 : decode cX8_plan 28 = .ok (.invokevirtual 67, 3) := by decide +kernel
theorem dX8_plan_31 : decode cX8_plan 31 = .ok (.ifCond .ne 11, 3) := by decide +kernel
theorem dX8_plan_34 : decode cX8_plan 34 = .ok (.new 38, 3) := by decide +kernel
theorem dX8_plan_37 : decode cX8_plan 37 = .ok (.dup, 1) := by decide +kernel
theorem dX8_plan_38 : decode cX8_plan 38 = .ok (.invokespecial 40, 3) := by decide +kernel
theorem dX8_plan_41 : decode cX8_plan 41 = .ok (.athrow, 1) := by decide +kernel
theorem dX8_plan_42 : decode cX8_plan 42 = .ok (.iload_n 1, 1) := by decide +kernel
theorem dX8_plan_43 : decode cX8_plan 43 = .ok (.ifCond .eq 32, 3) := by decide +kernel
theorem dX8_plan_46 : decode cX8_plan 46 = .ok (.aload_n 0, 1) := by decide +kernel
theorem dX8_plan_47 : decode cX8_plan 47 = .ok (.getfield 30, 3) := by decide +kernel
theorem dX8_plan_50 : decode cX8_plan 50 = .ok (.ifCond .eq 17, 3) := by decide +kernel
theorem dX8_plan_53 : decode cX8_plan 53 = .ok (.aload_n 2, 1) := by decide +kernel
theorem dX8_plan_54 : decode cX8_plan 54 = .ok (.aload_n 0, 1) := by decide +kernel
theorem dX8_plan_55 : decode cX8_plan 55 = .ok (.getfield 19, 3) := by decide +kernel
theorem dX8_plan_58 : decode cX8_plan 58 = .ok (.getfield 71, 3) := by decide +kernel
theorem dX8_plan_61 : decode cX8_plan 61 = .ok (.invokevirtual 75, 3) := by decide +kernel
theorem dX8_plan_64 : decode cX8_plan 64 = .ok (.ifCond .ne 11, 3) := by decide +kernel
theorem dX8_plan_67 : decode cX8_plan 67 = .ok (.new 45, 3) := by decide +kernel
theorem dX8_plan_70 : decode cX8_plan 70 = .ok (.dup, 1) := by decide +kernel
theorem dX8_plan_71 : decode cX8_plan 71 = .ok (.invokespecial 47, 3) := by decide +kernel
theorem dX8_plan_74 : decode cX8_plan 74 = .ok (.athrow, 1) := by decide +kernel
theorem dX8_plan_75 : decode cX8_plan 75 = .ok (.aload_n 0, 1) := by decide +kernel
theorem dX8_plan_76 : decode cX8_plan 76 = .ok (.getfield 10, 3) := by decide +kernel
theorem dX8_plan_79 : decode cX8_plan 79 = .ok (.iconst 0, 1) := by decide +kernel
theorem dX8_plan_80 : decode cX8_plan 80 = .ok (.invokevirtual 52, 3) := by decide +kernel
theorem dX8_plan_83 : decode cX8_plan 83 = .ok (.aload_n 0, 1) := by decide +kernel
theorem dX8_plan_84 : decode cX8_plan 84 = .ok (.getfield 19, 3) := by decide +kernel
theorem dX8_plan_87 : decode cX8_plan 87 = .ok (.aload_n 2, 1) := by decide +kernel
theorem dX8_plan_88 : decode cX8_plan 88 = .ok (.putfield 71, 3) := by decide +kernel
theorem dX8_plan_91 : decode cX8_plan 91 = .ok (.iload_n 1, 1) := by decide +kernel
theorem dX8_plan_92 : decode cX8_plan 92 = .ok (.ifCond .ne 22, 3) := by decide +kernel
theorem dX8_plan_95 : decode cX8_plan 95 = .ok (.aload_n 0, 1) := by decide +kernel
theorem dX8_plan_96 : decode cX8_plan 96 = .ok (.iconst 1, 1) := by decide +kernel
theorem dX8_plan_97 : decode cX8_plan 97 = .ok (.putfield 30, 3) := by decide +kernel
theorem dX8_plan_100 : decode cX8_plan 100 = .ok (.aload_n 0, 1) := by decide +kernel
theorem dX8_plan_101 : decode cX8_plan 101 = .ok (.getfield 19, 3) := by decide +kernel
theorem dX8_plan_104 : decode cX8_plan 104 = .ok (.invokevirtual 79, 3) := by decide +kernel
theorem dX8_plan_107 : decode cX8_plan 107 = .ok (.aload_n 0, 1) := by decide +kernel
theorem dX8_plan_108 : decode cX8_plan 108 = .ok (.getfield 26, 3) := by decide +kernel
theorem dX8_plan_111 : decode cX8_plan 111 = .ok (.invokevirtual 82, 3) := by decide +kernel
theorem dX8_plan_114 : decode cX8_plan 114 = .ok (.aload_n 0, 1) := by decide +kernel
theorem dX8_plan_115 : decode cX8_plan 115 = .ok (.getfield 19, 3) := by decide +kernel
theorem dX8_plan_118 : decode cX8_plan 118 = .ok (.getfield 83, 3) := by decide +kernel
theorem dX8_plan_121 : decode cX8_plan 121 = .ok (.getfield 87, 3) := by decide +kernel
theorem dX8_plan_124 : decode cX8_plan 124 = .ok (.getfield 93, 3) := by decide +kernel
theorem dX8_plan_127 : decode cX8_plan 127 = .ok (.ireturn, 1) := by decide +kernel
theorem dX8_event_0 : decode cX8_event 0 = .ok (.iload_n 1, 1) := by decide +kernel
theorem dX8_event_1 : decode cX8_event 1 = .ok (.iconst 3, 1) := by decide +kernel
theorem dX8_event_2 : decode cX8_event 2 = .ok (.invokestatic 98, 3) := by decide +kernel
theorem dX8_event_5 : decode cX8_event 5 = .ok (.ifCond .ne 12, 3) := by decide +kernel
theorem dX8_event_8 : decode cX8_event 8 = .ok (.iload_n 2, 1) := by decide +kernel
theorem dX8_event_9 : decode cX8_event 9 = .ok (.bipush 8, 2) := by decide +kernel
theorem dX8_event_11 : decode cX8_event 11 = .ok (.invokestatic 98, 3) := by decide +kernel
theorem dX8_event_14 : decode cX8_event 14 = .ok (.ifCond .eq 11, 3) := by decide +kernel
theorem dX8_event_17 : decode cX8_event 17 = .ok (.new 102, 3) := by decide +kernel
theorem dX8_event_20 : decode cX8_event 20 = .ok (.dup, 1) := by decide +kernel
theorem dX8_event_21 : decode cX8_event 21 = .ok (.invokespecial 104, 3) := by decide +kernel
theorem dX8_event_24 : decode cX8_event 24 = .ok (.athrow, 1) := by decide +kernel
theorem dX8_event_25 : decode cX8_event 25 = .ok (.iload_n 3, 1) := by decide +kernel
theorem dX8_event_26 : decode cX8_event 26 = .ok (.invokestatic 105, 3) := by decide +kernel
theorem dX8_event_29 : decode cX8_event 29 = .ok (.ifCond .eq 11, 3) := by decide +kernel
theorem dX8_event_32 : decode cX8_event 32 = .ok (.iload 4, 2) := by decide +kernel
theorem dX8_event_34 : decode cX8_event 34 = .ok (.invokestatic 109, 3) := by decide +kernel
theorem dX8_event_37 : decode cX8_event 37 = .ok (.ifCond .ne 11, 3) := by decide +kernel
theorem dX8_event_40 : decode cX8_event 40 = .ok (.new 38, 3) := by decide +kernel
theorem dX8_event_43 : decode cX8_event 43 = .ok (.dup, 1) := by decide +kernel
theorem dX8_event_44 : decode cX8_event 44 = .ok (.invokespecial 40, 3) := by decide +kernel
theorem dX8_event_47 : decode cX8_event 47 = .ok (.athrow, 1) := by decide +kernel
theorem dX8_event_48 : decode cX8_event 48 = .ok (.aload_n 0, 1) := by decide +kernel
theorem dX8_event_49 : decode cX8_event 49 = .ok (.getfield 19, 3) := by decide +kernel
theorem dX8_event_52 : decode cX8_event 52 = .ok (.invokevirtual 112, 3) := by decide +kernel
theorem dX8_event_55 : decode cX8_event 55 = .ok (.sipush 300, 3) := by decide +kernel
theorem dX8_event_58 : decode cX8_event 58 = .ok (.if_icmp .lt 11, 3) := by decide +kernel
theorem dX8_event_61 : decode cX8_event 61 = .ok (.new 45, 3) := by decide +kernel
theorem dX8_event_64 : decode cX8_event 64 = .ok (.dup, 1) := by decide +kernel
theorem dX8_event_65 : decode cX8_event 65 = .ok (.invokespecial 47, 3) := by decide +kernel
theorem dX8_event_68 : decode cX8_event 68 = .ok (.athrow, 1) := by decide +kernel
theorem dX8_event_69 : decode cX8_event 69 = .ok (.aload_n 0, 1) := by decide +kernel
theorem dX8_event_70 : decode cX8_event 70 = .ok (.getfield 19, 3) := by decide +kernel
theorem dX8_event_73 : decode cX8_event 73 = .ok (.getfield 115, 3) := by decide +kernel
theorem dX8_event_76 : decode cX8_event 76 = .ok (.iload_n 1, 1) := by decide +kernel
theorem dX8_event_77 : decode cX8_event 77 = .ok (.aaload, 1) := by decide +kernel
theorem dX8_event_78 : decode cX8_event 78 = .ok (.getfield 119, 3) := by decide +kernel
theorem dX8_event_81 : decode cX8_event 81 = .ok (.astore 5, 2) := by decide +kernel
theorem dX8_event_83 : decode cX8_event 83 = .ok (.aload 5, 2) := by decide +kernel
theorem dX8_event_85 : decode cX8_event 85 = .ok (.iload_n 2, 1) := by decide +kernel
theorem dX8_event_86 : decode cX8_event 86 = .ok (.iload_n 3, 1) := by decide +kernel
theorem dX8_event_87 : decode cX8_event 87 = .ok (.iload 4, 2) := by decide +kernel
theorem dX8_event_89 : decode cX8_event 89 = .ok (.invokestatic 124, 3) := by decide +kernel
theorem dX8_event_92 : decode cX8_event 92 = .ok (.aload 5, 2) := by decide +kernel
theorem dX8_event_94 : decode cX8_event 94 = .ok (.getfield 93, 3) := by decide +kernel
theorem dX8_event_97 : decode cX8_event 97 = .ok (.ireturn, 1) := by decide +kernel
theorem dX8_bound_0 : decode cX8_bound 0 = .ok (.iload_n 1, 1) := by decide +kernel
theorem dX8_bound_1 : decode cX8_bound 1 = .ok (.iconst 3, 1) := by decide +kernel
theorem dX8_bound_2 : decode cX8_bound 2 = .ok (.invokestatic 98, 3) := by decide +kernel
theorem dX8_bound_5 : decode cX8_bound 5 = .ok (.ifCond .eq 11, 3) := by decide +kernel
theorem dX8_bound_8 : decode cX8_bound 8 = .ok (.new 102, 3) := by decide +kernel
theorem dX8_bound_11 : decode cX8_bound 11 = .ok (.dup, 1) := by decide +kernel
theorem dX8_bound_12 : decode cX8_bound 12 = .ok (.invokespecial 104, 3) := by decide +kernel
theorem dX8_bound_15 : decode cX8_bound 15 = .ok (.athrow, 1) := by decide +kernel
theorem dX8_bound_16 : decode cX8_bound 16 = .ok (.iload_n 2, 1) := by decide +kernel
theorem dX8_bound_17 : decode cX8_bound 17 = .ok (.ifCond .lt 9, 3) := by decide +kernel
theorem dX8_bound_20 : decode cX8_bound 20 = .ok (.iload_n 2, 1) := by decide +kernel
theorem dX8_bound_21 : decode cX8_bound 21 = .ok (.bipush 99, 2) := by decide +kernel
theorem dX8_bound_23 : decode cX8_bound 23 = .ok (.if_icmp .le 11, 3) := by decide +kernel
theorem dX8_bound_26 : decode cX8_bound 26 = .ok (.new 38, 3) := by decide +kernel
theorem dX8_bound_29 : decode cX8_bound 29 = .ok (.dup, 1) := by decide +kernel
theorem dX8_bound_30 : decode cX8_bound 30 = .ok (.invokespecial 40, 3) := by decide +kernel
theorem dX8_bound_33 : decode cX8_bound 33 = .ok (.athrow, 1) := by decide +kernel
theorem dX8_bound_34 : decode cX8_bound 34 = .ok (.aload_n 0, 1) := by decide +kernel
theorem dX8_bound_35 : decode cX8_bound 35 = .ok (.getfield 19, 3) := by decide +kernel
theorem dX8_bound_38 : decode cX8_bound 38 = .ok (.getfield 115, 3) := by decide +kernel
theorem dX8_bound_41 : decode cX8_bound 41 = .ok (.iload_n 1, 1) := by decide +kernel
theorem dX8_bound_42 : decode cX8_bound 42 = .ok (.aaload, 1) := by decide +kernel
theorem dX8_bound_43 : decode cX8_bound 43 = .ok (.getfield 128, 3) := by decide +kernel
theorem dX8_bound_46 : decode cX8_bound 46 = .ok (.istore_n 3, 1) := by decide +kernel
theorem dX8_bound_47 : decode cX8_bound 47 = .ok (.aload_n 0, 1) := by decide +kernel
theorem dX8_bound_48 : decode cX8_bound 48 = .ok (.getfield 19, 3) := by decide +kernel
theorem dX8_bound_51 : decode cX8_bound 51 = .ok (.getfield 115, 3) := by decide +kernel
theorem dX8_bound_54 : decode cX8_bound 54 = .ok (.iload_n 1, 1) := by decide +kernel
theorem dX8_bound_55 : decode cX8_bound 55 = .ok (.aaload, 1) := by decide +kernel
theorem dX8_bound_56 : decode cX8_bound 56 = .ok (.iload_n 2, 1) := by decide +kernel
theorem dX8_bound_57 : decode cX8_bound 57 = .ok (.putfield 128, 3) := by decide +kernel
theorem dX8_bound_60 : decode cX8_bound 60 = .ok (.iload_n 3, 1) := by decide +kernel
theorem dX8_bound_61 : decode cX8_bound 61 = .ok (.ireturn, 1) := by decide +kernel
theorem dX8_idle_0 : decode cX8_idle 0 = .ok (.iload_n 1, 1) := by decide +kernel
theorem dX8_idle_1 : decode cX8_idle 1 = .ok (.iconst 3, 1) := by decide +kernel
theorem dX8_idle_2 : decode cX8_idle 2 = .ok (.invokestatic 98, 3) := by decide +kernel
theorem dX8_idle_5 : decode cX8_idle 5 = .ok (.ifCond .eq 11, 3) := by decide +kernel
theorem dX8_idle_8 : decode cX8_idle 8 = .ok (.new 102, 3) := by decide +kernel
theorem dX8_idle_11 : decode cX8_idle 11 = .ok (.dup, 1) := by decide +kernel
theorem dX8_idle_12 : decode cX8_idle 12 = .ok (.invokespecial 104, 3) := by decide +kernel
theorem dX8_idle_15 : decode cX8_idle 15 = .ok (.athrow, 1) := by decide +kernel
theorem dX8_idle_16 : decode cX8_idle 16 = .ok (.aload_n 0, 1) := by decide +kernel
theorem dX8_idle_17 : decode cX8_idle 17 = .ok (.getfield 19, 3) := by decide +kernel
theorem dX8_idle_20 : decode cX8_idle 20 = .ok (.getfield 115, 3) := by decide +kernel
theorem dX8_idle_23 : decode cX8_idle 23 = .ok (.iload_n 1, 1) := by decide +kernel
theorem dX8_idle_24 : decode cX8_idle 24 = .ok (.aaload, 1) := by decide +kernel
theorem dX8_idle_25 : decode cX8_idle 25 = .ok (.iload_n 2, 1) := by decide +kernel
theorem dX8_idle_26 : decode cX8_idle 26 = .ok (.putfield 131, 3) := by decide +kernel
theorem dX8_idle_29 : decode cX8_idle 29 = .ok (.aload_n 0, 1) := by decide +kernel
theorem dX8_idle_30 : decode cX8_idle 30 = .ok (.getfield 30, 3) := by decide +kernel
theorem dX8_idle_33 : decode cX8_idle 33 = .ok (.ifCond .eq 10, 3) := by decide +kernel
theorem dX8_idle_36 : decode cX8_idle 36 = .ok (.aload_n 0, 1) := by decide +kernel
theorem dX8_idle_37 : decode cX8_idle 37 = .ok (.getfield 19, 3) := by decide +kernel
theorem dX8_idle_40 : decode cX8_idle 40 = .ok (.invokevirtual 134, 3) := by decide +kernel
theorem dX8_idle_43 : decode cX8_idle 43 = .ok (.aload_n 0, 1) := by decide +kernel
theorem dX8_idle_44 : decode cX8_idle 44 = .ok (.getfield 19, 3) := by decide +kernel
theorem dX8_idle_47 : decode cX8_idle 47 = .ok (.getfield 83, 3) := by decide +kernel
theorem dX8_idle_50 : decode cX8_idle 50 = .ok (.getfield 137, 3) := by decide +kernel
theorem dX8_idle_53 : decode cX8_idle 53 = .ok (.ireturn, 1) := by decide +kernel
theorem dX8_table_0 : decode cX8_table 0 = .ok (.iload_n 1, 1) := by decide +kernel
theorem dX8_table_1 : decode cX8_table 1 = .ok (.bipush 8, 2) := by decide +kernel
theorem dX8_table_3 : decode cX8_table 3 = .ok (.invokestatic 98, 3) := by decide +kernel
theorem dX8_table_6 : decode cX8_table 6 = .ok (.ifCond .eq 11, 3) := by decide +kernel
theorem dX8_table_9 : decode cX8_table 9 = .ok (.new 102, 3) := by decide +kernel
theorem dX8_table_12 : decode cX8_table 12 = .ok (.dup, 1) := by decide +kernel
theorem dX8_table_13 : decode cX8_table 13 = .ok (.invokespecial 104, 3) := by decide +kernel
theorem dX8_table_16 : decode cX8_table 16 = .ok (.athrow, 1) := by decide +kernel
theorem dX8_table_17 : decode cX8_table 17 = .ok (.iload_n 2, 1) := by decide +kernel
theorem dX8_table_18 : decode cX8_table 18 = .ok (.invokestatic 105, 3) := by decide +kernel
theorem dX8_table_21 : decode cX8_table 21 = .ok (.ifCond .eq 10, 3) := by decide +kernel
theorem dX8_table_24 : decode cX8_table 24 = .ok (.iload_n 3, 1) := by decide +kernel
theorem dX8_table_25 : decode cX8_table 25 = .ok (.invokestatic 109, 3) := by decide +kernel
theorem dX8_table_28 : decode cX8_table 28 = .ok (.ifCond .ne 11, 3) := by decide +kernel
theorem dX8_table_31 : decode cX8_table 31 = .ok (.new 38, 3) := by decide +kernel
theorem dX8_table_34 : decode cX8_table 34 = .ok (.dup, 1) := by decide +kernel
theorem dX8_table_35 : decode cX8_table 35 = .ok (.invokespecial 40, 3) := by decide +kernel
theorem dX8_table_38 : decode cX8_table 38 = .ok (.athrow, 1) := by decide +kernel
theorem dX8_table_39 : decode cX8_table 39 = .ok (.aload_n 0, 1) := by decide +kernel
theorem dX8_table_40 : decode cX8_table 40 = .ok (.getfield 19, 3) := by decide +kernel
theorem dX8_table_43 : decode cX8_table 43 = .ok (.getfield 140, 3) := by decide +kernel
theorem dX8_table_46 : decode cX8_table 46 = .ok (.getfield 93, 3) := by decide +kernel
theorem dX8_table_49 : decode cX8_table 49 = .ok (.bipush 60, 2) := by decide +kernel
theorem dX8_table_51 : decode cX8_table 51 = .ok (.if_icmp .lt 11, 3) := by decide +kernel
theorem dX8_table_54 : decode cX8_table 54 = .ok (.new 45, 3) := by decide +kernel
theorem dX8_table_57 : decode cX8_table 57 = .ok (.dup, 1) := by decide +kernel
theorem dX8_table_58 : decode cX8_table 58 = .ok (.invokespecial 47, 3) := by decide +kernel
theorem dX8_table_61 : decode cX8_table 61 = .ok (.athrow, 1) := by decide +kernel
theorem dX8_table_62 : decode cX8_table 62 = .ok (.aload_n 0, 1) := by decide +kernel
theorem dX8_table_63 : decode cX8_table 63 = .ok (.getfield 19, 3) := by decide +kernel
theorem dX8_table_66 : decode cX8_table 66 = .ok (.getfield 140, 3) := by decide +kernel
theorem dX8_table_69 : decode cX8_table 69 = .ok (.iload_n 1, 1) := by decide +kernel
theorem dX8_table_70 : decode cX8_table 70 = .ok (.iload_n 2, 1) := by decide +kernel
theorem dX8_table_71 : decode cX8_table 71 = .ok (.iload_n 3, 1) := by decide +kernel
theorem dX8_table_72 : decode cX8_table 72 = .ok (.invokestatic 124, 3) := by decide +kernel
theorem dX8_table_75 : decode cX8_table 75 = .ok (.aload_n 0, 1) := by decide +kernel
theorem dX8_table_76 : decode cX8_table 76 = .ok (.getfield 19, 3) := by decide +kernel
theorem dX8_table_79 : decode cX8_table 79 = .ok (.getfield 140, 3) := by decide +kernel
theorem dX8_table_82 : decode cX8_table 82 = .ok (.getfield 93, 3) := by decide +kernel
theorem dX8_table_85 : decode cX8_table 85 = .ok (.ireturn, 1) := by decide +kernel
theorem dX8_step_0 : decode cX8_step 0 = .ok (.iload_n 1, 1) := by decide +kernel
theorem dX8_step_1 : decode cX8_step 1 = .ok (.iconst 3, 1) := by decide +kernel
theorem dX8_step_2 : decode cX8_step 2 = .ok (.invokestatic 98, 3) := by decide +kernel
theorem dX8_step_5 : decode cX8_step 5 = .ok (.ifCond .eq 11, 3) := by decide +kernel
theorem dX8_step_8 : decode cX8_step 8 = .ok (.new 102, 3) := by decide +kernel
theorem dX8_step_11 : decode cX8_step 11 = .ok (.dup, 1) := by decide +kernel
theorem dX8_step_12 : decode cX8_step 12 = .ok (.invokespecial 104, 3) := by decide +kernel
theorem dX8_step_15 : decode cX8_step 15 = .ok (.athrow, 1) := by decide +kernel
theorem dX8_step_16 : decode cX8_step 16 = .ok (.aload_n 0, 1) := by decide +kernel
theorem dX8_step_17 : decode cX8_step 17 = .ok (.getfield 30, 3) := by decide +kernel
theorem dX8_step_20 : decode cX8_step 20 = .ok (.ifCond .eq 26, 3) := by decide +kernel
theorem dX8_step_23 : decode cX8_step 23 = .ok (.aload_n 0, 1) := by decide +kernel
theorem dX8_step_24 : decode cX8_step 24 = .ok (.getfield 19, 3) := by decide +kernel
theorem dX8_step_27 : decode cX8_step 27 = .ok (.getfield 143, 3) := by decide +kernel
theorem dX8_step_30 : decode cX8_step 30 = .ok (.getfield 93, 3) := by decide +kernel
theorem dX8_step_33 : decode cX8_step 33 = .ok (.aload_n 0, 1) := by decide +kernel
theorem dX8_step_34 : decode cX8_step 34 = .ok (.getfield 26, 3) := by decide +kernel
theorem dX8_step_37 : decode cX8_step 37 = .ok (.invokevirtual 146, 3) := by decide +kernel
theorem dX8_step_40 : decode cX8_step 40 = .ok (.isub, 1) := by decide +kernel
theorem dX8_step_41 : decode cX8_step 41 = .ok (.bipush 30, 2) := by decide +kernel
theorem dX8_step_43 : decode cX8_step 43 = .ok (.if_icmp .lt 11, 3) := by decide +kernel
theorem dX8_step_46 : decode cX8_step 46 = .ok (.new 45, 3) := by decide +kernel
theorem dX8_step_49 : decode cX8_step 49 = .ok (.dup, 1) := by decide +kernel
theorem dX8_step_50 : decode cX8_step 50 = .ok (.invokespecial 47, 3) := by decide +kernel
theorem dX8_step_53 : decode cX8_step 53 = .ok (.athrow, 1) := by decide +kernel
theorem dX8_step_54 : decode cX8_step 54 = .ok (.aload_n 0, 1) := by decide +kernel
theorem dX8_step_55 : decode cX8_step 55 = .ok (.getfield 19, 3) := by decide +kernel
theorem dX8_step_58 : decode cX8_step 58 = .ok (.getfield 83, 3) := by decide +kernel
theorem dX8_step_61 : decode cX8_step 61 = .ok (.getfield 149, 3) := by decide +kernel
theorem dX8_step_64 : decode cX8_step 64 = .ok (.iload_n 1, 1) := by decide +kernel
theorem dX8_step_65 : decode cX8_step 65 = .ok (.iaload, 1) := by decide +kernel
theorem dX8_step_66 : decode cX8_step 66 = .ok (.aload_n 0, 1) := by decide +kernel
theorem dX8_step_67 : decode cX8_step 67 = .ok (.getfield 19, 3) := by decide +kernel
theorem dX8_step_70 : decode cX8_step 70 = .ok (.getfield 115, 3) := by decide +kernel
theorem dX8_step_73 : decode cX8_step 73 = .ok (.iload_n 1, 1) := by decide +kernel
theorem dX8_step_74 : decode cX8_step 74 = .ok (.aaload, 1) := by decide +kernel
theorem dX8_step_75 : decode cX8_step 75 = .ok (.getfield 119, 3) := by decide +kernel
theorem dX8_step_78 : decode cX8_step 78 = .ok (.getfield 93, 3) := by decide +kernel
theorem dX8_step_81 : decode cX8_step 81 = .ok (.if_icmp .lt 11, 3) := by decide +kernel
theorem dX8_step_84 : decode cX8_step 84 = .ok (.new 153, 3) := by decide +kernel
theorem dX8_step_87 : decode cX8_step 87 = .ok (.dup, 1) := by decide +kernel
theorem dX8_step_88 : decode cX8_step 88 = .ok (.invokespecial 155, 3) := by decide +kernel
theorem dX8_step_91 : decode cX8_step 91 = .ok (.athrow, 1) := by decide +kernel
theorem dX8_step_92 : decode cX8_step 92 = .ok (.aload_n 0, 1) := by decide +kernel
theorem dX8_step_93 : decode cX8_step 93 = .ok (.getfield 19, 3) := by decide +kernel
theorem dX8_step_96 : decode cX8_step 96 = .ok (.getfield 143, 3) := by decide +kernel
theorem dX8_step_99 : decode cX8_step 99 = .ok (.getfield 93, 3) := by decide +kernel
theorem dX8_step_102 : decode cX8_step 102 = .ok (.istore_n 2, 1) := by decide +kernel
theorem dX8_step_103 : decode cX8_step 103 = .ok (.aload_n 0, 1) := by decide +kernel
theorem dX8_step_104 : decode cX8_step 104 = .ok (.getfield 19, 3) := by decide +kernel
theorem dX8_step_107 : decode cX8_step 107 = .ok (.iload_n 1, 1) := by decide +kernel
theorem dX8_step_108 : decode cX8_step 108 = .ok (.invokevirtual 156, 3) := by decide +kernel
theorem dX8_step_111 : decode cX8_step 111 = .ok (.ifCond .eq 11, 3) := by decide +kernel
theorem dX8_step_114 : decode cX8_step 114 = .ok (.aload_n 0, 1) := by decide +kernel
theorem dX8_step_115 : decode cX8_step 115 = .ok (.getfield 19, 3) := by decide +kernel
theorem dX8_step_118 : decode cX8_step 118 = .ok (.iload_n 1, 1) := by decide +kernel
theorem dX8_step_119 : decode cX8_step 119 = .ok (.invokevirtual 159, 3) := by decide +kernel
theorem dX8_step_122 : decode cX8_step 122 = .ok (.aload_n 0, 1) := by decide +kernel
theorem dX8_step_123 : decode cX8_step 123 = .ok (.getfield 19, 3) := by decide +kernel
theorem dX8_step_126 : decode cX8_step 126 = .ok (.invokevirtual 134, 3) := by decide +kernel
theorem dX8_step_129 : decode cX8_step 129 = .ok (.aload_n 0, 1) := by decide +kernel
theorem dX8_step_130 : decode cX8_step 130 = .ok (.getfield 19, 3) := by decide +kernel
theorem dX8_step_133 : decode cX8_step 133 = .ok (.getfield 143, 3) := by decide +kernel
theorem dX8_step_136 : decode cX8_step 136 = .ok (.getfield 93, 3) := by decide +kernel
theorem dX8_step_139 : decode cX8_step 139 = .ok (.iload_n 2, 1) := by decide +kernel
theorem dX8_step_140 : decode cX8_step 140 = .ok (.isub, 1) := by decide +kernel
theorem dX8_step_141 : decode cX8_step 141 = .ok (.ireturn, 1) := by decide +kernel
theorem dX8_watermark_0 : decode cX8_watermark 0 = .ok (.aload_n 0, 1) := by decide +kernel
theorem dX8_watermark_1 : decode cX8_watermark 1 = .ok (.getfield 19, 3) := by decide +kernel
theorem dX8_watermark_4 : decode cX8_watermark 4 = .ok (.getfield 83, 3) := by decide +kernel
theorem dX8_watermark_7 : decode cX8_watermark 7 = .ok (.getfield 137, 3) := by decide +kernel
theorem dX8_watermark_10 : decode cX8_watermark 10 = .ok (.ireturn, 1) := by decide +kernel
theorem dX8_read_0 : decode cX8_read 0 = .ok (.iload_n 1, 1) := by decide +kernel
theorem dX8_read_1 : decode cX8_read 1 = .ok (.iconst 3, 1) := by decide +kernel
theorem dX8_read_2 : decode cX8_read 2 = .ok (.invokestatic 98, 3) := by decide +kernel
theorem dX8_read_5 : decode cX8_read 5 = .ok (.ifCond .eq 11, 3) := by decide +kernel
theorem dX8_read_8 : decode cX8_read 8 = .ok (.new 102, 3) := by decide +kernel
theorem dX8_read_11 : decode cX8_read 11 = .ok (.dup, 1) := by decide +kernel
theorem dX8_read_12 : decode cX8_read 12 = .ok (.invokespecial 104, 3) := by decide +kernel
theorem dX8_read_15 : decode cX8_read 15 = .ok (.athrow, 1) := by decide +kernel
theorem dX8_read_16 : decode cX8_read 16 = .ok (.aload_n 0, 1) := by decide +kernel
theorem dX8_read_17 : decode cX8_read 17 = .ok (.getfield 19, 3) := by decide +kernel
theorem dX8_read_20 : decode cX8_read 20 = .ok (.getfield 83, 3) := by decide +kernel
theorem dX8_read_23 : decode cX8_read 23 = .ok (.getfield 149, 3) := by decide +kernel
theorem dX8_read_26 : decode cX8_read 26 = .ok (.iload_n 1, 1) := by decide +kernel
theorem dX8_read_27 : decode cX8_read 27 = .ok (.iaload, 1) := by decide +kernel
theorem dX8_read_28 : decode cX8_read 28 = .ok (.ireturn, 1) := by decide +kernel
theorem dX8_tooLate_0 : decode cX8_tooLate 0 = .ok (.aload_n 0, 1) := by decide +kernel
theorem dX8_tooLate_1 : decode cX8_tooLate 1 = .ok (.getfield 19, 3) := by decide +kernel
theorem dX8_tooLate_4 : decode cX8_tooLate 4 = .ok (.getfield 83, 3) := by decide +kernel
theorem dX8_tooLate_7 : decode cX8_tooLate 7 = .ok (.getfield 162, 3) := by decide +kernel
theorem dX8_tooLate_10 : decode cX8_tooLate 10 = .ok (.ireturn, 1) := by decide +kernel
theorem dX8_windows_0 : decode cX8_windows 0 = .ok (.aload_n 0, 1) := by decide +kernel
theorem dX8_windows_1 : decode cX8_windows 1 = .ok (.getfield 19, 3) := by decide +kernel
theorem dX8_windows_4 : decode cX8_windows 4 = .ok (.getfield 83, 3) := by decide +kernel
theorem dX8_windows_7 : decode cX8_windows 7 = .ok (.getfield 87, 3) := by decide +kernel
theorem dX8_windows_10 : decode cX8_windows 10 = .ok (.getfield 93, 3) := by decide +kernel
theorem dX8_windows_13 : decode cX8_windows 13 = .ok (.ireturn, 1) := by decide +kernel
theorem dX8_window_0 : decode cX8_window 0 = .ok (.iload_n 1, 1) := by decide +kernel
theorem dX8_window_1 : decode cX8_window 1 = .ok (.aload_n 0, 1) := by decide +kernel
theorem dX8_window_2 : decode cX8_window 2 = .ok (.getfield 19, 3) := by decide +kernel
theorem dX8_window_5 : decode cX8_window 5 = .ok (.getfield 83, 3) := by decide +kernel
theorem dX8_window_8 : decode cX8_window 8 = .ok (.getfield 87, 3) := by decide +kernel
theorem dX8_window_11 : decode cX8_window 11 = .ok (.getfield 93, 3) := by decide +kernel
theorem dX8_window_14 : decode cX8_window 14 = .ok (.invokestatic 98, 3) := by decide +kernel
theorem dX8_window_17 : decode cX8_window 17 = .ok (.ifCond .eq 11, 3) := by decide +kernel
theorem dX8_window_20 : decode cX8_window 20 = .ok (.new 102, 3) := by decide +kernel
theorem dX8_window_23 : decode cX8_window 23 = .ok (.dup, 1) := by decide +kernel
theorem dX8_window_24 : decode cX8_window 24 = .ok (.invokespecial 104, 3) := by decide +kernel
theorem dX8_window_27 : decode cX8_window 27 = .ok (.athrow, 1) := by decide +kernel
theorem dX8_window_28 : decode cX8_window 28 = .ok (.iload_n 2, 1) := by decide +kernel
theorem dX8_window_29 : decode cX8_window 29 = .ok (.iconst 5, 1) := by decide +kernel
theorem dX8_window_30 : decode cX8_window 30 = .ok (.invokestatic 98, 3) := by decide +kernel
theorem dX8_window_33 : decode cX8_window 33 = .ok (.ifCond .eq 11, 3) := by decide +kernel
theorem dX8_window_36 : decode cX8_window 36 = .ok (.new 38, 3) := by decide +kernel
theorem dX8_window_39 : decode cX8_window 39 = .ok (.dup, 1) := by decide +kernel
theorem dX8_window_40 : decode cX8_window 40 = .ok (.invokespecial 40, 3) := by decide +kernel
theorem dX8_window_43 : decode cX8_window 43 = .ok (.athrow, 1) := by decide +kernel
theorem dX8_window_44 : decode cX8_window 44 = .ok (.aload_n 0, 1) := by decide +kernel
theorem dX8_window_45 : decode cX8_window 45 = .ok (.getfield 19, 3) := by decide +kernel
theorem dX8_window_48 : decode cX8_window 48 = .ok (.getfield 83, 3) := by decide +kernel
theorem dX8_window_51 : decode cX8_window 51 = .ok (.getfield 87, 3) := by decide +kernel
theorem dX8_window_54 : decode cX8_window 54 = .ok (.aload_n 0, 1) := by decide +kernel
theorem dX8_window_55 : decode cX8_window 55 = .ok (.getfield 19, 3) := by decide +kernel
theorem dX8_window_58 : decode cX8_window 58 = .ok (.getfield 83, 3) := by decide +kernel
theorem dX8_window_61 : decode cX8_window 61 = .ok (.iload_n 1, 1) := by decide +kernel
theorem dX8_window_62 : decode cX8_window 62 = .ok (.invokevirtual 165, 3) := by decide +kernel
theorem dX8_window_65 : decode cX8_window 65 = .ok (.iload_n 2, 1) := by decide +kernel
theorem dX8_window_66 : decode cX8_window 66 = .ok (.invokevirtual 169, 3) := by decide +kernel
theorem dX8_window_69 : decode cX8_window 69 = .ok (.ireturn, 1) := by decide +kernel
theorem dX8_results_0 : decode cX8_results 0 = .ok (.aload_n 0, 1) := by decide +kernel
theorem dX8_results_1 : decode cX8_results 1 = .ok (.getfield 19, 3) := by decide +kernel
theorem dX8_results_4 : decode cX8_results 4 = .ok (.getfield 143, 3) := by decide +kernel
theorem dX8_results_7 : decode cX8_results 7 = .ok (.getfield 93, 3) := by decide +kernel
theorem dX8_results_10 : decode cX8_results 10 = .ok (.ireturn, 1) := by decide +kernel
theorem dX8_committed_0 : decode cX8_committed 0 = .ok (.aload_n 0, 1) := by decide +kernel
theorem dX8_committed_1 : decode cX8_committed 1 = .ok (.getfield 26, 3) := by decide +kernel
theorem dX8_committed_4 : decode cX8_committed 4 = .ok (.getfield 173, 3) := by decide +kernel
theorem dX8_committed_7 : decode cX8_committed 7 = .ok (.getfield 176, 3) := by decide +kernel
theorem dX8_committed_10 : decode cX8_committed 10 = .ok (.ireturn, 1) := by decide +kernel
theorem dX8_result_0 : decode cX8_result 0 = .ok (.iload_n 1, 1) := by decide +kernel
theorem dX8_result_1 : decode cX8_result 1 = .ok (.aload_n 0, 1) := by decide +kernel
theorem dX8_result_2 : decode cX8_result 2 = .ok (.getfield 19, 3) := by decide +kernel
theorem dX8_result_5 : decode cX8_result 5 = .ok (.getfield 143, 3) := by decide +kernel
theorem dX8_result_8 : decode cX8_result 8 = .ok (.getfield 93, 3) := by decide +kernel
theorem dX8_result_11 : decode cX8_result 11 = .ok (.invokestatic 98, 3) := by decide +kernel
theorem dX8_result_14 : decode cX8_result 14 = .ok (.ifCond .eq 11, 3) := by decide +kernel
theorem dX8_result_17 : decode cX8_result 17 = .ok (.new 102, 3) := by decide +kernel
theorem dX8_result_20 : decode cX8_result 20 = .ok (.dup, 1) := by decide +kernel
theorem dX8_result_21 : decode cX8_result 21 = .ok (.invokespecial 104, 3) := by decide +kernel
theorem dX8_result_24 : decode cX8_result 24 = .ok (.athrow, 1) := by decide +kernel
theorem dX8_result_25 : decode cX8_result 25 = .ok (.iload_n 2, 1) := by decide +kernel
theorem dX8_result_26 : decode cX8_result 26 = .ok (.iconst 5, 1) := by decide +kernel
theorem dX8_result_27 : decode cX8_result 27 = .ok (.invokestatic 98, 3) := by decide +kernel
theorem dX8_result_30 : decode cX8_result 30 = .ok (.ifCond .eq 11, 3) := by decide +kernel
theorem dX8_result_33 : decode cX8_result 33 = .ok (.new 38, 3) := by decide +kernel
theorem dX8_result_36 : decode cX8_result 36 = .ok (.dup, 1) := by decide +kernel
theorem dX8_result_37 : decode cX8_result 37 = .ok (.invokespecial 40, 3) := by decide +kernel
theorem dX8_result_40 : decode cX8_result 40 = .ok (.athrow, 1) := by decide +kernel
theorem dX8_result_41 : decode cX8_result 41 = .ok (.aload_n 0, 1) := by decide +kernel
theorem dX8_result_42 : decode cX8_result 42 = .ok (.getfield 19, 3) := by decide +kernel
theorem dX8_result_45 : decode cX8_result 45 = .ok (.getfield 143, 3) := by decide +kernel
theorem dX8_result_48 : decode cX8_result 48 = .ok (.iload_n 1, 1) := by decide +kernel
theorem dX8_result_49 : decode cX8_result 49 = .ok (.iload_n 2, 1) := by decide +kernel
theorem dX8_result_50 : decode cX8_result 50 = .ok (.invokevirtual 169, 3) := by decide +kernel
theorem dX8_result_53 : decode cX8_result 53 = .ok (.ireturn, 1) := by decide +kernel
theorem dX8_total_0 : decode cX8_total 0 = .ok (.iload_n 1, 1) := by decide +kernel
theorem dX8_total_1 : decode cX8_total 1 = .ok (.bipush 8, 2) := by decide +kernel
theorem dX8_total_3 : decode cX8_total 3 = .ok (.invokestatic 98, 3) := by decide +kernel
theorem dX8_total_6 : decode cX8_total 6 = .ok (.ifCond .eq 11, 3) := by decide +kernel
theorem dX8_total_9 : decode cX8_total 9 = .ok (.new 102, 3) := by decide +kernel
theorem dX8_total_12 : decode cX8_total 12 = .ok (.dup, 1) := by decide +kernel
theorem dX8_total_13 : decode cX8_total 13 = .ok (.invokespecial 104, 3) := by decide +kernel
theorem dX8_total_16 : decode cX8_total 16 = .ok (.athrow, 1) := by decide +kernel
theorem dX8_total_17 : decode cX8_total 17 = .ok (.aload_n 0, 1) := by decide +kernel
theorem dX8_total_18 : decode cX8_total 18 = .ok (.getfield 19, 3) := by decide +kernel
theorem dX8_total_21 : decode cX8_total 21 = .ok (.iload_n 1, 1) := by decide +kernel
theorem dX8_total_22 : decode cX8_total 22 = .ok (.iload_n 2, 1) := by decide +kernel
theorem dX8_total_23 : decode cX8_total 23 = .ok (.invokevirtual 179, 3) := by decide +kernel
theorem dX8_total_26 : decode cX8_total 26 = .ok (.ireturn, 1) := by decide +kernel
theorem dX8_totalAnew_0 : decode cX8_totalAnew 0 = .ok (.iload_n 1, 1) := by decide +kernel
theorem dX8_totalAnew_1 : decode cX8_totalAnew 1 = .ok (.bipush 8, 2) := by decide +kernel
theorem dX8_totalAnew_3 : decode cX8_totalAnew 3 = .ok (.invokestatic 98, 3) := by decide +kernel
theorem dX8_totalAnew_6 : decode cX8_totalAnew 6 = .ok (.ifCond .eq 11, 3) := by decide +kernel
theorem dX8_totalAnew_9 : decode cX8_totalAnew 9 = .ok (.new 102, 3) := by decide +kernel
theorem dX8_totalAnew_12 : decode cX8_totalAnew 12 = .ok (.dup, 1) := by decide +kernel
theorem dX8_totalAnew_13 : decode cX8_totalAnew 13 = .ok (.invokespecial 104, 3) := by decide +kernel
theorem dX8_totalAnew_16 : decode cX8_totalAnew 16 = .ok (.athrow, 1) := by decide +kernel
theorem dX8_totalAnew_17 : decode cX8_totalAnew 17 = .ok (.aload_n 0, 1) := by decide +kernel
theorem dX8_totalAnew_18 : decode cX8_totalAnew 18 = .ok (.getfield 30, 3) := by decide +kernel
theorem dX8_totalAnew_21 : decode cX8_totalAnew 21 = .ok (.ifCond .eq 19, 3) := by decide +kernel
theorem dX8_totalAnew_24 : decode cX8_totalAnew 24 = .ok (.aload_n 0, 1) := by decide +kernel
theorem dX8_totalAnew_25 : decode cX8_totalAnew 25 = .ok (.getfield 19, 3) := by decide +kernel
theorem dX8_totalAnew_28 : decode cX8_totalAnew 28 = .ok (.getfield 71, 3) := by decide +kernel
theorem dX8_totalAnew_31 : decode cX8_totalAnew 31 = .ok (.getfield 182, 3) := by decide +kernel
theorem dX8_totalAnew_34 : decode cX8_totalAnew 34 = .ok (.getstatic 186, 3) := by decide +kernel
theorem dX8_totalAnew_37 : decode cX8_totalAnew 37 = .ok (.if_acmp .ne 11, 3) := by decide +kernel
theorem dX8_totalAnew_40 : decode cX8_totalAnew 40 = .ok (.new 45, 3) := by decide +kernel
theorem dX8_totalAnew_43 : decode cX8_totalAnew 43 = .ok (.dup, 1) := by decide +kernel
theorem dX8_totalAnew_44 : decode cX8_totalAnew 44 = .ok (.invokespecial 47, 3) := by decide +kernel
theorem dX8_totalAnew_47 : decode cX8_totalAnew 47 = .ok (.athrow, 1) := by decide +kernel
theorem dX8_totalAnew_48 : decode cX8_totalAnew 48 = .ok (.aload_n 0, 1) := by decide +kernel
theorem dX8_totalAnew_49 : decode cX8_totalAnew 49 = .ok (.getfield 19, 3) := by decide +kernel
theorem dX8_totalAnew_52 : decode cX8_totalAnew 52 = .ok (.iload_n 1, 1) := by decide +kernel
theorem dX8_totalAnew_53 : decode cX8_totalAnew 53 = .ok (.iload_n 2, 1) := by decide +kernel
theorem dX8_totalAnew_54 : decode cX8_totalAnew 54 = .ok (.invokevirtual 191, 3) := by decide +kernel
theorem dX8_totalAnew_57 : decode cX8_totalAnew 57 = .ok (.ireturn, 1) := by decide +kernel
theorem dX8_barrier_0 : decode cX8_barrier 0 = .ok (.aload_n 0, 1) := by decide +kernel
theorem dX8_barrier_1 : decode cX8_barrier 1 = .ok (.getfield 30, 3) := by decide +kernel
theorem dX8_barrier_4 : decode cX8_barrier 4 = .ok (.ifCond .eq 14, 3) := by decide +kernel
theorem dX8_barrier_7 : decode cX8_barrier 7 = .ok (.aload_n 0, 1) := by decide +kernel
theorem dX8_barrier_8 : decode cX8_barrier 8 = .ok (.getfield 26, 3) := by decide +kernel
theorem dX8_barrier_11 : decode cX8_barrier 11 = .ok (.getfield 194, 3) := by decide +kernel
theorem dX8_barrier_14 : decode cX8_barrier 14 = .ok (.iconst 5, 1) := by decide +kernel
theorem dX8_barrier_15 : decode cX8_barrier 15 = .ok (.if_icmp .lt 11, 3) := by decide +kernel
theorem dX8_barrier_18 : decode cX8_barrier 18 = .ok (.new 45, 3) := by decide +kernel
theorem dX8_barrier_21 : decode cX8_barrier 21 = .ok (.dup, 1) := by decide +kernel
theorem dX8_barrier_22 : decode cX8_barrier 22 = .ok (.invokespecial 47, 3) := by decide +kernel
theorem dX8_barrier_25 : decode cX8_barrier 25 = .ok (.athrow, 1) := by decide +kernel
theorem dX8_barrier_26 : decode cX8_barrier 26 = .ok (.aload_n 0, 1) := by decide +kernel
theorem dX8_barrier_27 : decode cX8_barrier 27 = .ok (.getfield 26, 3) := by decide +kernel
theorem dX8_barrier_30 : decode cX8_barrier 30 = .ok (.aload_n 0, 1) := by decide +kernel
theorem dX8_barrier_31 : decode cX8_barrier 31 = .ok (.getfield 19, 3) := by decide +kernel
theorem dX8_barrier_34 : decode cX8_barrier 34 = .ok (.getfield 83, 3) := by decide +kernel
theorem dX8_barrier_37 : decode cX8_barrier 37 = .ok (.aload_n 0, 1) := by decide +kernel
theorem dX8_barrier_38 : decode cX8_barrier 38 = .ok (.getfield 19, 3) := by decide +kernel
theorem dX8_barrier_41 : decode cX8_barrier 41 = .ok (.getfield 143, 3) := by decide +kernel
theorem dX8_barrier_44 : decode cX8_barrier 44 = .ok (.getfield 93, 3) := by decide +kernel
theorem dX8_barrier_47 : decode cX8_barrier 47 = .ok (.invokevirtual 195, 3) := by decide +kernel
theorem dX8_barrier_50 : decode cX8_barrier 50 = .ok (.ireturn, 1) := by decide +kernel
theorem dX8_complete_0 : decode cX8_complete 0 = .ok (.aload_n 0, 1) := by decide +kernel
theorem dX8_complete_1 : decode cX8_complete 1 = .ok (.getfield 26, 3) := by decide +kernel
theorem dX8_complete_4 : decode cX8_complete 4 = .ok (.iload_n 1, 1) := by decide +kernel
theorem dX8_complete_5 : decode cX8_complete 5 = .ok (.invokevirtual 199, 3) := by decide +kernel
theorem dX8_complete_8 : decode cX8_complete 8 = .ok (.istore_n 2, 1) := by decide +kernel
theorem dX8_complete_9 : decode cX8_complete 9 = .ok (.iload_n 2, 1) := by decide +kernel
theorem dX8_complete_10 : decode cX8_complete 10 = .ok (.iconst (-1), 1) := by decide +kernel
theorem dX8_complete_11 : decode cX8_complete 11 = .ok (.if_icmp .ne 11, 3) := by decide +kernel
theorem dX8_complete_14 : decode cX8_complete 14 = .ok (.new 102, 3) := by decide +kernel
theorem dX8_complete_17 : decode cX8_complete 17 = .ok (.dup, 1) := by decide +kernel
theorem dX8_complete_18 : decode cX8_complete 18 = .ok (.invokespecial 104, 3) := by decide +kernel
theorem dX8_complete_21 : decode cX8_complete 21 = .ok (.athrow, 1) := by decide +kernel
theorem dX8_complete_22 : decode cX8_complete 22 = .ok (.aload_n 0, 1) := by decide +kernel
theorem dX8_complete_23 : decode cX8_complete 23 = .ok (.getfield 26, 3) := by decide +kernel
theorem dX8_complete_26 : decode cX8_complete 26 = .ok (.getfield 173, 3) := by decide +kernel
theorem dX8_complete_29 : decode cX8_complete 29 = .ok (.getfield 176, 3) := by decide +kernel
theorem dX8_complete_32 : decode cX8_complete 32 = .ok (.istore_n 3, 1) := by decide +kernel
theorem dX8_complete_33 : decode cX8_complete 33 = .ok (.aload_n 0, 1) := by decide +kernel
theorem dX8_complete_34 : decode cX8_complete 34 = .ok (.getfield 26, 3) := by decide +kernel
theorem dX8_complete_37 : decode cX8_complete 37 = .ok (.iload_n 2, 1) := by decide +kernel
theorem dX8_complete_38 : decode cX8_complete 38 = .ok (.invokevirtual 202, 3) := by decide +kernel
theorem dX8_complete_41 : decode cX8_complete 41 = .ok (.aload_n 0, 1) := by decide +kernel
theorem dX8_complete_42 : decode cX8_complete 42 = .ok (.getfield 26, 3) := by decide +kernel
theorem dX8_complete_45 : decode cX8_complete 45 = .ok (.getfield 173, 3) := by decide +kernel
theorem dX8_complete_48 : decode cX8_complete 48 = .ok (.getfield 176, 3) := by decide +kernel
theorem dX8_complete_51 : decode cX8_complete 51 = .ok (.iload_n 3, 1) := by decide +kernel
theorem dX8_complete_52 : decode cX8_complete 52 = .ok (.isub, 1) := by decide +kernel
theorem dX8_complete_53 : decode cX8_complete 53 = .ok (.ireturn, 1) := by decide +kernel
theorem dX8_doubtful_0 : decode cX8_doubtful 0 = .ok (.aload_n 0, 1) := by decide +kernel
theorem dX8_doubtful_1 : decode cX8_doubtful 1 = .ok (.getfield 26, 3) := by decide +kernel
theorem dX8_doubtful_4 : decode cX8_doubtful 4 = .ok (.getfield 194, 3) := by decide +kernel
theorem dX8_doubtful_7 : decode cX8_doubtful 7 = .ok (.ireturn, 1) := by decide +kernel
theorem dX8_crash_0 : decode cX8_crash 0 = .ok (.aload_n 0, 1) := by decide +kernel
theorem dX8_crash_1 : decode cX8_crash 1 = .ok (.getfield 30, 3) := by decide +kernel
theorem dX8_crash_4 : decode cX8_crash 4 = .ok (.ifCond .ne 11, 3) := by decide +kernel
theorem dX8_crash_7 : decode cX8_crash 7 = .ok (.new 45, 3) := by decide +kernel
theorem dX8_crash_10 : decode cX8_crash 10 = .ok (.dup, 1) := by decide +kernel
theorem dX8_crash_11 : decode cX8_crash 11 = .ok (.invokespecial 47, 3) := by decide +kernel
theorem dX8_crash_14 : decode cX8_crash 14 = .ok (.athrow, 1) := by decide +kernel
theorem dX8_crash_15 : decode cX8_crash 15 = .ok (.aload_n 0, 1) := by decide +kernel
theorem dX8_crash_16 : decode cX8_crash 16 = .ok (.getfield 19, 3) := by decide +kernel
theorem dX8_crash_19 : decode cX8_crash 19 = .ok (.getfield 143, 3) := by decide +kernel
theorem dX8_crash_22 : decode cX8_crash 22 = .ok (.getfield 93, 3) := by decide +kernel
theorem dX8_crash_25 : decode cX8_crash 25 = .ok (.istore_n 1, 1) := by decide +kernel
theorem dX8_crash_26 : decode cX8_crash 26 = .ok (.aload_n 0, 1) := by decide +kernel
theorem dX8_crash_27 : decode cX8_crash 27 = .ok (.getfield 26, 3) := by decide +kernel
theorem dX8_crash_30 : decode cX8_crash 30 = .ok (.invokevirtual 205, 3) := by decide +kernel
theorem dX8_crash_33 : decode cX8_crash 33 = .ok (.aload_n 0, 1) := by decide +kernel
theorem dX8_crash_34 : decode cX8_crash 34 = .ok (.getfield 19, 3) := by decide +kernel
theorem dX8_crash_37 : decode cX8_crash 37 = .ok (.getfield 83, 3) := by decide +kernel
theorem dX8_crash_40 : decode cX8_crash 40 = .ok (.aload_n 0, 1) := by decide +kernel
theorem dX8_crash_41 : decode cX8_crash 41 = .ok (.getfield 26, 3) := by decide +kernel
theorem dX8_crash_44 : decode cX8_crash 44 = .ok (.getfield 173, 3) := by decide +kernel
theorem dX8_crash_47 : decode cX8_crash 47 = .ok (.invokevirtual 208, 3) := by decide +kernel
theorem dX8_crash_50 : decode cX8_crash 50 = .ok (.aload_n 0, 1) := by decide +kernel
theorem dX8_crash_51 : decode cX8_crash 51 = .ok (.getfield 19, 3) := by decide +kernel
theorem dX8_crash_54 : decode cX8_crash 54 = .ok (.getfield 143, 3) := by decide +kernel
theorem dX8_crash_57 : decode cX8_crash 57 = .ok (.aload_n 0, 1) := by decide +kernel
theorem dX8_crash_58 : decode cX8_crash 58 = .ok (.getfield 26, 3) := by decide +kernel
theorem dX8_crash_61 : decode cX8_crash 61 = .ok (.getfield 173, 3) := by decide +kernel
theorem dX8_crash_64 : decode cX8_crash 64 = .ok (.getfield 176, 3) := by decide +kernel
theorem dX8_crash_67 : decode cX8_crash 67 = .ok (.invokevirtual 212, 3) := by decide +kernel
theorem dX8_crash_70 : decode cX8_crash 70 = .ok (.iload_n 1, 1) := by decide +kernel
theorem dX8_crash_71 : decode cX8_crash 71 = .ok (.aload_n 0, 1) := by decide +kernel
theorem dX8_crash_72 : decode cX8_crash 72 = .ok (.getfield 19, 3) := by decide +kernel
theorem dX8_crash_75 : decode cX8_crash 75 = .ok (.getfield 143, 3) := by decide +kernel
theorem dX8_crash_78 : decode cX8_crash 78 = .ok (.getfield 93, 3) := by decide +kernel
theorem dX8_crash_81 : decode cX8_crash 81 = .ok (.isub, 1) := by decide +kernel
theorem dX8_crash_82 : decode cX8_crash 82 = .ok (.ireturn, 1) := by decide +kernel
theorem dX8_workers_0 : decode cX8_workers 0 = .ok (.iload_n 1, 1) := by decide +kernel
theorem dX8_workers_1 : decode cX8_workers 1 = .ok (.iconst 1, 1) := by decide +kernel
theorem dX8_workers_2 : decode cX8_workers 2 = .ok (.if_icmp .lt 8, 3) := by decide +kernel
theorem dX8_workers_5 : decode cX8_workers 5 = .ok (.iload_n 1, 1) := by decide +kernel
theorem dX8_workers_6 : decode cX8_workers 6 = .ok (.iconst 4, 1) := by decide +kernel
theorem dX8_workers_7 : decode cX8_workers 7 = .ok (.if_icmp .le 11, 3) := by decide +kernel
theorem dX8_workers_10 : decode cX8_workers 10 = .ok (.new 38, 3) := by decide +kernel
theorem dX8_workers_13 : decode cX8_workers 13 = .ok (.dup, 1) := by decide +kernel
theorem dX8_workers_14 : decode cX8_workers 14 = .ok (.invokespecial 40, 3) := by decide +kernel
theorem dX8_workers_17 : decode cX8_workers 17 = .ok (.athrow, 1) := by decide +kernel
theorem dX8_workers_18 : decode cX8_workers 18 = .ok (.iconst 0, 1) := by decide +kernel
theorem dX8_workers_19 : decode cX8_workers 19 = .ok (.istore_n 2, 1) := by decide +kernel
theorem dX8_workers_20 : decode cX8_workers 20 = .ok (.iconst 0, 1) := by decide +kernel
theorem dX8_workers_21 : decode cX8_workers 21 = .ok (.istore_n 3, 1) := by decide +kernel
theorem dX8_workers_22 : decode cX8_workers 22 = .ok (.iload_n 3, 1) := by decide +kernel
theorem dX8_workers_23 : decode cX8_workers 23 = .ok (.aload_n 0, 1) := by decide +kernel
theorem dX8_workers_24 : decode cX8_workers 24 = .ok (.getfield 19, 3) := by decide +kernel
theorem dX8_workers_27 : decode cX8_workers 27 = .ok (.getfield 83, 3) := by decide +kernel
theorem dX8_workers_30 : decode cX8_workers 30 = .ok (.getfield 87, 3) := by decide +kernel
theorem dX8_workers_33 : decode cX8_workers 33 = .ok (.getfield 93, 3) := by decide +kernel
theorem dX8_workers_36 : decode cX8_workers 36 = .ok (.if_icmp .ge 47, 3) := by decide +kernel
theorem dX8_workers_39 : decode cX8_workers 39 = .ok (.aload_n 0, 1) := by decide +kernel
theorem dX8_workers_40 : decode cX8_workers 40 = .ok (.getfield 19, 3) := by decide +kernel
theorem dX8_workers_43 : decode cX8_workers 43 = .ok (.getfield 83, 3) := by decide +kernel
theorem dX8_workers_46 : decode cX8_workers 46 = .ok (.getfield 87, 3) := by decide +kernel
theorem dX8_workers_49 : decode cX8_workers 49 = .ok (.iload_n 3, 1) := by decide +kernel
theorem dX8_workers_50 : decode cX8_workers 50 = .ok (.iconst 0, 1) := by decide +kernel
theorem dX8_workers_51 : decode cX8_workers 51 = .ok (.invokevirtual 169, 3) := by decide +kernel
theorem dX8_workers_54 : decode cX8_workers 54 = .ok (.istore 4, 2) := by decide +kernel
theorem dX8_workers_56 : decode cX8_workers 56 = .ok (.iload 4, 2) := by decide +kernel
theorem dX8_workers_58 : decode cX8_workers 58 = .ok (.iload_n 1, 1) := by decide +kernel
theorem dX8_workers_59 : decode cX8_workers 59 = .ok (.invokestatic 215, 3) := by decide +kernel
theorem dX8_workers_62 : decode cX8_workers 62 = .ok (.iload 4, 2) := by decide +kernel
theorem dX8_workers_64 : decode cX8_workers 64 = .ok (.aload_n 0, 1) := by decide +kernel
theorem dX8_workers_65 : decode cX8_workers 65 = .ok (.getfield 34, 3) := by decide +kernel
theorem dX8_workers_68 : decode cX8_workers 68 = .ok (.invokestatic 215, 3) := by decide +kernel
theorem dX8_workers_71 : decode cX8_workers 71 = .ok (.if_icmp .eq 6, 3) := by decide +kernel
theorem dX8_workers_74 : decode cX8_workers 74 = .ok (.iinc 2 1, 3) := by decide +kernel
theorem dX8_workers_77 : decode cX8_workers 77 = .ok (.iinc 3 1, 3) := by decide +kernel
theorem dX8_workers_80 : decode cX8_workers 80 = .ok (.goto (-58), 3) := by decide +kernel
theorem dX8_workers_83 : decode cX8_workers 83 = .ok (.aload_n 0, 1) := by decide +kernel
theorem dX8_workers_84 : decode cX8_workers 84 = .ok (.iload_n 1, 1) := by decide +kernel
theorem dX8_workers_85 : decode cX8_workers 85 = .ok (.putfield 34, 3) := by decide +kernel
theorem dX8_workers_88 : decode cX8_workers 88 = .ok (.iload_n 2, 1) := by decide +kernel
theorem dX8_workers_89 : decode cX8_workers 89 = .ok (.ireturn, 1) := by decide +kernel
theorem dX8_load_0 : decode cX8_load 0 = .ok (.iload_n 1, 1) := by decide +kernel
theorem dX8_load_1 : decode cX8_load 1 = .ok (.aload_n 0, 1) := by decide +kernel
theorem dX8_load_2 : decode cX8_load 2 = .ok (.getfield 34, 3) := by decide +kernel
theorem dX8_load_5 : decode cX8_load 5 = .ok (.invokestatic 98, 3) := by decide +kernel
theorem dX8_load_8 : decode cX8_load 8 = .ok (.ifCond .eq 11, 3) := by decide +kernel
theorem dX8_load_11 : decode cX8_load 11 = .ok (.new 102, 3) := by decide +kernel
theorem dX8_load_14 : decode cX8_load 14 = .ok (.dup, 1) := by decide +kernel
theorem dX8_load_15 : decode cX8_load 15 = .ok (.invokespecial 104, 3) := by decide +kernel
theorem dX8_load_18 : decode cX8_load 18 = .ok (.athrow, 1) := by decide +kernel
theorem dX8_load_19 : decode cX8_load 19 = .ok (.iconst 0, 1) := by decide +kernel
theorem dX8_load_20 : decode cX8_load 20 = .ok (.istore_n 2, 1) := by decide +kernel
theorem dX8_load_21 : decode cX8_load 21 = .ok (.iconst 0, 1) := by decide +kernel
theorem dX8_load_22 : decode cX8_load 22 = .ok (.istore_n 3, 1) := by decide +kernel
theorem dX8_load_23 : decode cX8_load 23 = .ok (.iload_n 3, 1) := by decide +kernel
theorem dX8_load_24 : decode cX8_load 24 = .ok (.aload_n 0, 1) := by decide +kernel
theorem dX8_load_25 : decode cX8_load 25 = .ok (.getfield 19, 3) := by decide +kernel
theorem dX8_load_28 : decode cX8_load 28 = .ok (.getfield 83, 3) := by decide +kernel
theorem dX8_load_31 : decode cX8_load 31 = .ok (.getfield 87, 3) := by decide +kernel
theorem dX8_load_34 : decode cX8_load 34 = .ok (.getfield 93, 3) := by decide +kernel
theorem dX8_load_37 : decode cX8_load 37 = .ok (.if_icmp .ge 38, 3) := by decide +kernel
theorem dX8_load_40 : decode cX8_load 40 = .ok (.aload_n 0, 1) := by decide +kernel
theorem dX8_load_41 : decode cX8_load 41 = .ok (.getfield 19, 3) := by decide +kernel
theorem dX8_load_44 : decode cX8_load 44 = .ok (.getfield 83, 3) := by decide +kernel
theorem dX8_load_47 : decode cX8_load 47 = .ok (.getfield 87, 3) := by decide +kernel
theorem dX8_load_50 : decode cX8_load 50 = .ok (.iload_n 3, 1) := by decide +kernel
theorem dX8_load_51 : decode cX8_load 51 = .ok (.iconst 0, 1) := by decide +kernel
theorem dX8_load_52 : decode cX8_load 52 = .ok (.invokevirtual 169, 3) := by decide +kernel
theorem dX8_load_55 : decode cX8_load 55 = .ok (.aload_n 0, 1) := by decide +kernel
theorem dX8_load_56 : decode cX8_load 56 = .ok (.getfield 34, 3) := by decide +kernel
theorem dX8_load_59 : decode cX8_load 59 = .ok (.invokestatic 215, 3) := by decide +kernel
theorem dX8_load_62 : decode cX8_load 62 = .ok (.iload_n 1, 1) := by decide +kernel
theorem dX8_load_63 : decode cX8_load 63 = .ok (.if_icmp .ne 6, 3) := by decide +kernel
theorem dX8_load_66 : decode cX8_load 66 = .ok (.iinc 2 1, 3) := by decide +kernel
theorem dX8_load_69 : decode cX8_load 69 = .ok (.iinc 3 1, 3) := by decide +kernel
theorem dX8_load_72 : decode cX8_load 72 = .ok (.goto (-49), 3) := by decide +kernel
theorem dX8_load_75 : decode cX8_load 75 = .ok (.iload_n 2, 1) := by decide +kernel
theorem dX8_load_76 : decode cX8_load 76 = .ok (.ireturn, 1) := by decide +kernel
theorem dX8_isOutside_0 : decode cX8_isOutside 0 = .ok (.iload_n 0, 1) := by decide +kernel
theorem dX8_isOutside_1 : decode cX8_isOutside 1 = .ok (.ifCond .lt 8, 3) := by decide +kernel
theorem dX8_isOutside_4 : decode cX8_isOutside 4 = .ok (.iload_n 0, 1) := by decide +kernel
theorem dX8_isOutside_5 : decode cX8_isOutside 5 = .ok (.iload_n 1, 1) := by decide +kernel
theorem dX8_isOutside_6 : decode cX8_isOutside 6 = .ok (.if_icmp .lt 7, 3) := by decide +kernel
theorem dX8_isOutside_9 : decode cX8_isOutside 9 = .ok (.iconst 1, 1) := by decide +kernel
theorem dX8_isOutside_10 : decode cX8_isOutside 10 = .ok (.goto 4, 3) := by decide +kernel
theorem dX8_isOutside_13 : decode cX8_isOutside 13 = .ok (.iconst 0, 1) := by decide +kernel
theorem dX8_isOutside_14 : decode cX8_isOutside 14 = .ok (.ireturn, 1) := by decide +kernel
theorem dX8_isTime_0 : decode cX8_isTime 0 = .ok (.iload_n 0, 1) := by decide +kernel
theorem dX8_isTime_1 : decode cX8_isTime 1 = .ok (.ifCond .lt 14, 3) := by decide +kernel
theorem dX8_isTime_4 : decode cX8_isTime 4 = .ok (.iload_n 0, 1) := by decide +kernel
theorem dX8_isTime_5 : decode cX8_isTime 5 = .ok (.sipush 999, 3) := by decide +kernel
theorem dX8_isTime_8 : decode cX8_isTime 8 = .ok (.if_icmp .gt 7, 3) := by decide +kernel
theorem dX8_isTime_11 : decode cX8_isTime 11 = .ok (.iconst 1, 1) := by decide +kernel
theorem dX8_isTime_12 : decode cX8_isTime 12 = .ok (.goto 4, 3) := by decide +kernel
theorem dX8_isTime_15 : decode cX8_isTime 15 = .ok (.iconst 0, 1) := by decide +kernel
theorem dX8_isTime_16 : decode cX8_isTime 16 = .ok (.ireturn, 1) := by decide +kernel
theorem dX8_isValue_0 : decode cX8_isValue 0 = .ok (.iload_n 0, 1) := by decide +kernel
theorem dX8_isValue_1 : decode cX8_isValue 1 = .ok (.bipush (-99), 2) := by decide +kernel
theorem dX8_isValue_3 : decode cX8_isValue 3 = .ok (.if_icmp .lt 13, 3) := by decide +kernel
theorem dX8_isValue_6 : decode cX8_isValue 6 = .ok (.iload_n 0, 1) := by decide +kernel
theorem dX8_isValue_7 : decode cX8_isValue 7 = .ok (.bipush 99, 2) := by decide +kernel
theorem dX8_isValue_9 : decode cX8_isValue 9 = .ok (.if_icmp .gt 7, 3) := by decide +kernel
theorem dX8_isValue_12 : decode cX8_isValue 12 = .ok (.iconst 1, 1) := by decide +kernel
theorem dX8_isValue_13 : decode cX8_isValue 13 = .ok (.goto 4, 3) := by decide +kernel
theorem dX8_isValue_16 : decode cX8_isValue 16 = .ok (.iconst 0, 1) := by decide +kernel
theorem dX8_isValue_17 : decode cX8_isValue 17 = .ok (.ireturn, 1) := by decide +kernel
theorem dX8_workerOf_0 : decode cX8_workerOf 0 = .ok (.iload_n 0, 1) := by decide +kernel
theorem dX8_workerOf_1 : decode cX8_workerOf 1 = .ok (.iload_n 1, 1) := by decide +kernel
theorem dX8_workerOf_2 : decode cX8_workerOf 2 = .ok (.imul, 1) := by decide +kernel
theorem dX8_workerOf_3 : decode cX8_workerOf 3 = .ok (.bipush 8, 2) := by decide +kernel
theorem dX8_workerOf_5 : decode cX8_workerOf 5 = .ok (.idiv, 1) := by decide +kernel
theorem dX8_workerOf_6 : decode cX8_workerOf 6 = .ok (.ireturn, 1) := by decide +kernel
theorem dX8_putTold_0 : decode cX8_putTold 0 = .ok (.aload_n 0, 1) := by decide +kernel
theorem dX8_putTold_1 : decode cX8_putTold 1 = .ok (.getfield 93, 3) := by decide +kernel
theorem dX8_putTold_4 : decode cX8_putTold 4 = .ok (.istore 4, 2) := by decide +kernel
theorem dX8_putTold_6 : decode cX8_putTold 6 = .ok (.aload_n 0, 1) := by decide +kernel
theorem dX8_putTold_7 : decode cX8_putTold 7 = .ok (.iload 4, 2) := by decide +kernel
theorem dX8_putTold_9 : decode cX8_putTold 9 = .ok (.invokevirtual 218, 3) := by decide +kernel
theorem dX8_putTold_12 : decode cX8_putTold 12 = .ok (.aload_n 0, 1) := by decide +kernel
theorem dX8_putTold_13 : decode cX8_putTold 13 = .ok (.iload 4, 2) := by decide +kernel
theorem dX8_putTold_15 : decode cX8_putTold 15 = .ok (.iconst 0, 1) := by decide +kernel
theorem dX8_putTold_16 : decode cX8_putTold 16 = .ok (.iload_n 1, 1) := by decide +kernel
theorem dX8_putTold_17 : decode cX8_putTold 17 = .ok (.invokevirtual 221, 3) := by decide +kernel
theorem dX8_putTold_20 : decode cX8_putTold 20 = .ok (.aload_n 0, 1) := by decide +kernel
theorem dX8_putTold_21 : decode cX8_putTold 21 = .ok (.iload 4, 2) := by decide +kernel
theorem dX8_putTold_23 : decode cX8_putTold 23 = .ok (.iconst 1, 1) := by decide +kernel
theorem dX8_putTold_24 : decode cX8_putTold 24 = .ok (.iload_n 2, 1) := by decide +kernel
theorem dX8_putTold_25 : decode cX8_putTold 25 = .ok (.invokevirtual 221, 3) := by decide +kernel
theorem dX8_putTold_28 : decode cX8_putTold 28 = .ok (.aload_n 0, 1) := by decide +kernel
theorem dX8_putTold_29 : decode cX8_putTold 29 = .ok (.iload 4, 2) := by decide +kernel
theorem dX8_putTold_31 : decode cX8_putTold 31 = .ok (.iconst 2, 1) := by decide +kernel
theorem dX8_putTold_32 : decode cX8_putTold 32 = .ok (.iload_n 3, 1) := by decide +kernel
theorem dX8_putTold_33 : decode cX8_putTold 33 = .ok (.invokevirtual 221, 3) := by decide +kernel
theorem dX8_putTold_36 : decode cX8_putTold 36 = .ok (.return_, 1) := by decide +kernel
