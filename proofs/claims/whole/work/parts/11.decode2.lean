theorem dX8_init_65 : decode cX8_init 65 = .ok (.bipush 16, 2) := by decide +kernel
theorem dX8_init_67 : decode cX8_init 67 = .ok (.newarray .int, 2) := by decide +kernel
theorem dX8_init_69 : decode cX8_init 69 = .ok (.putfield 38, 3) := by decide +kernel
theorem dX8_init_72 : decode cX8_init 72 = .ok (.aload_n 0, 1) := by decide +kernel
theorem dX8_init_73 : decode cX8_init 73 = .ok (.bipush 16, 2) := by decide +kernel
theorem dX8_init_75 : decode cX8_init 75 = .ok (.newarray .int, 2) := by decide +kernel
theorem dX8_init_77 : decode cX8_init 77 = .ok (.putfield 41, 3) := by decide +kernel
theorem dX8_init_80 : decode cX8_init 80 = .ok (.aload_n 0, 1) := by decide +kernel
theorem dX8_init_81 : decode cX8_init 81 = .ok (.aload_n 1, 1) := by decide +kernel
theorem dX8_init_82 : decode cX8_init 82 = .ok (.putfield 44, 3) := by decide +kernel
theorem dX8_init_85 : decode cX8_init 85 = .ok (.return_, 1) := by decide +kernel
theorem dX8_clear_0 : decode cX8_clear 0 = .ok (.aload_n 0, 1) := by decide +kernel
theorem dX8_clear_1 : decode cX8_clear 1 = .ok (.iconst 0, 1) := by decide +kernel
theorem dX8_clear_2 : decode cX8_clear 2 = .ok (.putfield 48, 3) := by decide +kernel
theorem dX8_clear_5 : decode cX8_clear 5 = .ok (.aload_n 0, 1) := by decide +kernel
theorem dX8_clear_6 : decode cX8_clear 6 = .ok (.getfield 16, 3) := by decide +kernel
theorem dX8_clear_9 : decode cX8_clear 9 = .ok (.iconst (-1), 1) := by decide +kernel
theorem dX8_clear_10 : decode cX8_clear 10 = .ok (.invokestatic 52, 3) := by decide +kernel
theorem dX8_clear_13 : decode cX8_clear 13 = .ok (.return_, 1) := by decide +kernel
theorem dX8_choose_0 : decode cX8_choose 0 = .ok (.aload_n 0, 1) := by decide +kernel
theorem dX8_choose_1 : decode cX8_choose 1 = .ok (.aload_n 1, 1) := by decide +kernel
theorem dX8_choose_2 : decode cX8_choose 2 = .ok (.aload_n 2, 1) := by decide +kernel
theorem dX8_choose_3 : decode cX8_choose 3 = .ok (.invokevirtual 58, 3) := by decide +kernel
theorem dX8_choose_6 : decode cX8_choose 6 = .ok (.iconst 0, 1) := by decide +kernel
theorem dX8_choose_7 : decode cX8_choose 7 = .ok (.istore 4, 2) := by decide +kernel
theorem dX8_choose_9 : decode cX8_choose 9 = .ok (.iconst 0, 1) := by decide +kernel
theorem dX8_choose_10 : decode cX8_choose 10 = .ok (.istore 5, 2) := by decide +kernel
theorem dX8_choose_12 : decode cX8_choose 12 = .ok (.iload 5, 2) := by decide +kernel
theorem dX8_choose_14 : decode cX8_choose 14 = .ok (.aload_n 1, 1) := by decide +kernel
theorem dX8_choose_15 : decode cX8_choose 15 = .ok (.getfield 62, 3) := by decide +kernel
theorem dX8_choose_18 : decode cX8_choose 18 = .ok (.if_icmp .ge 57, 3) := by decide +kernel
theorem dX8_choose_21 : decode cX8_choose 21 = .ok (.aload_n 0, 1) := by decide +kernel
theorem dX8_choose_22 : decode cX8_choose 22 = .ok (.getfield 26, 3) := by decide +kernel
theorem dX8_choose_25 : decode cX8_choose 25 = .ok (.iload 5, 2) := by decide +kernel
theorem dX8_choose_27 : decode cX8_choose 27 = .ok (.aload_n 1, 1) := by decide +kernel
theorem dX8_choose_28 : decode cX8_choose 28 = .ok (.getfield 63, 3) := by decide +kernel
theorem dX8_choose_31 : decode cX8_choose 31 = .ok (.iload 5, 2) := by decide +kernel
theorem dX8_choose_33 : decode cX8_choose 33 = .ok (.baload, 1) := by decide +kernel
theorem dX8_choose_34 : decode cX8_choose 34 = .ok (.ifCond .eq 20, 3) := by decide +kernel
theorem dX8_choose_37 : decode cX8_choose 37 = .ok (.aload_n 2, 1) := by decide +kernel
theorem dX8_choose_38 : decode cX8_choose 38 = .ok (.aload_n 1, 1) := by decide +kernel
theorem dX8_choose_39 : decode cX8_choose 39 = .ok (.getfield 66, 3) := by decide +kernel
theorem dX8_choose_42 : decode cX8_choose 42 = .ok (.iload 5, 2) := by decide +kernel
theorem dX8_choose_44 : decode cX8_choose 44 = .ok (.iaload, 1) := by decide +kernel
theorem dX8_choose_45 : decode cX8_choose 45 = .ok (.iaload, 1) := by decide +kernel
theorem dX8_choose_46 : decode cX8_choose 46 = .ok (.iload_n 3, 1) := by decide +kernel
theorem dX8_choose_47 : decode cX8_choose 47 = .ok (.if_icmp .lt 7, 3) := by decide +kernel
theorem dX8_choose_50 : decode cX8_choose 50 = .ok (.iconst 1, 1) := by decide +kernel
theorem dX8_choose_51 : decode cX8_choose 51 = .ok (.goto 4, 3) := by decide +kernel
theorem dX8_choose_54 : decode cX8_choose 54 = .ok (.iconst 0, 1) := by decide +kernel
theorem dX8_choose_55 : decode cX8_choose 55 = .ok (.bastore, 1) := by decide +kernel
theorem dX8_choose_56 : decode cX8_choose 56 = .ok (.aload_n 0, 1) := by decide +kernel
theorem dX8_choose_57 : decode cX8_choose 57 = .ok (.getfield 26, 3) := by decide +kernel
theorem dX8_choose_60 : decode cX8_choose 60 = .ok (.iload 5, 2) := by decide +kernel
theorem dX8_choose_62 : decode cX8_choose 62 = .ok (.baload, 1) := by decide +kernel
theorem dX8_choose_63 : decode cX8_choose 63 = .ok (.ifCond .eq 6, 3) := by decide +kernel
theorem dX8_choose_66 : decode cX8_choose 66 = .ok (.iinc 4 1, 3) := by decide +kernel
theorem dX8_choose_69 : decode cX8_choose 69 = .ok (.iinc 5 1, 3) := by decide +kernel
theorem dX8_choose_72 : decode cX8_choose 72 = .ok (.goto (-60), 3) := by decide +kernel
theorem dX8_choose_75 : decode cX8_choose 75 = .ok (.iload 4, 2) := by decide +kernel
theorem dX8_choose_77 : decode cX8_choose 77 = .ok (.istore 5, 2) := by decide +kernel
theorem dX8_choose_79 : decode cX8_choose 79 = .ok (.iload 5, 2) := by decide +kernel
theorem dX8_choose_81 : decode cX8_choose 81 = .ok (.bipush 6, 2) := by decide +kernel
theorem dX8_choose_83 : decode cX8_choose 83 = .ok (.if_icmp .le 17, 3) := by decide +kernel
theorem dX8_choose_86 : decode cX8_choose 86 = .ok (.aload_n 0, 1) := by decide +kernel
theorem dX8_choose_87 : decode cX8_choose 87 = .ok (.aload_n 1, 1) := by decide +kernel
theorem dX8_choose_88 : decode cX8_choose 88 = .ok (.getfield 62, 3) := by decide +kernel
theorem dX8_choose_91 : decode cX8_choose 91 = .ok (.invokevirtual 69, 3) := by decide +kernel
theorem dX8_choose_94 : decode cX8_choose 94 = .ok (.iinc 5 (-1), 3) := by decide +kernel
theorem dX8_choose_97 : decode cX8_choose 97 = .ok (.goto (-18), 3) := by decide +kernel
theorem dX8_choose_100 : decode cX8_choose 100 = .ok (.aload_n 0, 1) := by decide +kernel
theorem dX8_choose_101 : decode cX8_choose 101 = .ok (.aload_n 1, 1) := by decide +kernel
theorem dX8_choose_102 : decode cX8_choose 102 = .ok (.invokevirtual 73, 3) := by decide +kernel
theorem dX8_choose_105 : decode cX8_choose 105 = .ok (.aload_n 0, 1) := by decide +kernel
theorem dX8_choose_106 : decode cX8_choose 106 = .ok (.aload_n 1, 1) := by decide +kernel
theorem dX8_choose_107 : decode cX8_choose 107 = .ok (.getfield 77, 3) := by decide +kernel
theorem dX8_choose_110 : decode cX8_choose 110 = .ok (.invokevirtual 80, 3) := by decide +kernel
theorem dX8_choose_113 : decode cX8_choose 113 = .ok (.return_, 1) := by decide +kernel
theorem dX8_weigh_0 : decode cX8_weigh 0 = .ok (.iconst 0, 1) := by decide +kernel
theorem dX8_weigh_1 : decode cX8_weigh 1 = .ok (.istore_n 3, 1) := by decide +kernel
theorem dX8_weigh_2 : decode cX8_weigh 2 = .ok (.iload_n 3, 1) := by decide +kernel
theorem dX8_weigh_3 : decode cX8_weigh 3 = .ok (.aload_n 1, 1) := by decide +kernel
theorem dX8_weigh_4 : decode cX8_weigh 4 = .ok (.getfield 62, 3) := by decide +kernel
theorem dX8_weigh_7 : decode cX8_weigh 7 = .ok (.if_icmp .ge 37, 3) := by decide +kernel
theorem dX8_weigh_10 : decode cX8_weigh 10 = .ok (.aload_n 0, 1) := by decide +kernel
theorem dX8_weigh_11 : decode cX8_weigh 11 = .ok (.getfield 32, 3) := by decide +kernel
theorem dX8_weigh_14 : decode cX8_weigh 14 = .ok (.iload_n 3, 1) := by decide +kernel
theorem dX8_weigh_15 : decode cX8_weigh 15 = .ok (.iconst 0, 1) := by decide +kernel
theorem dX8_weigh_16 : decode cX8_weigh 16 = .ok (.iastore, 1) := by decide +kernel
theorem dX8_weigh_17 : decode cX8_weigh 17 = .ok (.aload_n 0, 1) := by decide +kernel
theorem dX8_weigh_18 : decode cX8_weigh 18 = .ok (.getfield 35, 3) := by decide +kernel
theorem dX8_weigh_21 : decode cX8_weigh 21 = .ok (.iload_n 3, 1) := by decide +kernel
theorem dX8_weigh_22 : decode cX8_weigh 22 = .ok (.iconst 0, 1) := by decide +kernel
theorem dX8_weigh_23 : decode cX8_weigh 23 = .ok (.iastore, 1) := by decide +kernel
theorem dX8_weigh_24 : decode cX8_weigh 24 = .ok (.aload_n 0, 1) := by decide +kernel
theorem dX8_weigh_25 : decode cX8_weigh 25 = .ok (.getfield 38, 3) := by decide +kernel
theorem dX8_weigh_28 : decode cX8_weigh 28 = .ok (.iload_n 3, 1) := by decide +kernel
theorem dX8_weigh_29 : decode cX8_weigh 29 = .ok (.iconst 0, 1) := by decide +kernel
theorem dX8_weigh_30 : decode cX8_weigh 30 = .ok (.iastore, 1) := by decide +kernel
theorem dX8_weigh_31 : decode cX8_weigh 31 = .ok (.aload_n 0, 1) := by decide +kernel
theorem dX8_weigh_32 : decode cX8_weigh 32 = .ok (.getfield 41, 3) := by decide +kernel
theorem dX8_weigh_35 : decode cX8_weigh 35 = .ok (.iload_n 3, 1) := by decide +kernel
theorem dX8_weigh_36 : decode cX8_weigh 36 = .ok (.iconst 0, 1) := by decide +kernel
theorem dX8_weigh_37 : decode cX8_weigh 37 = .ok (.iastore, 1) := by decide +kernel
theorem dX8_weigh_38 : decode cX8_weigh 38 = .ok (.iinc 3 1, 3) := by decide +kernel
theorem dX8_weigh_41 : decode cX8_weigh 41 = .ok (.goto (-39), 3) := by decide +kernel
theorem dX8_weigh_44 : decode cX8_weigh 44 = .ok (.iconst 0, 1) := by decide +kernel
theorem dX8_weigh_45 : decode cX8_weigh 45 = .ok (.istore_n 3, 1) := by decide +kernel
theorem dX8_weigh_46 : decode cX8_weigh 46 = .ok (.iload_n 3, 1) := by decide +kernel
theorem dX8_weigh_47 : decode cX8_weigh 47 = .ok (.aload_n 0, 1) := by decide +kernel
theorem dX8_weigh_48 : decode cX8_weigh 48 = .ok (.getfield 44, 3) := by decide +kernel
theorem dX8_weigh_51 : decode cX8_weigh 51 = .ok (.getfield 84, 3) := by decide +kernel
theorem dX8_weigh_54 : decode cX8_weigh 54 = .ok (.if_icmp .ge 99, 3) := by decide +kernel
theorem dX8_weigh_57 : decode cX8_weigh 57 = .ok (.aload_n 1, 1) := by decide +kernel
theorem dX8_weigh_58 : decode cX8_weigh 58 = .ok (.getfield 77, 3) := by decide +kernel
theorem dX8_weigh_61 : decode cX8_weigh 61 = .ok (.iload_n 3, 1) := by decide +kernel
theorem dX8_weigh_62 : decode cX8_weigh 62 = .ok (.iaload, 1) := by decide +kernel
theorem dX8_weigh_63 : decode cX8_weigh 63 = .ok (.istore 4, 2) := by decide +kernel
theorem dX8_weigh_65 : decode cX8_weigh 65 = .ok (.iload 4, 2) := by decide +kernel
theorem dX8_weigh_67 : decode cX8_weigh 67 = .ok (.iconst (-1), 1) := by decide +kernel
theorem dX8_weigh_68 : decode cX8_weigh 68 = .ok (.if_icmp .eq 79, 3) := by decide +kernel
theorem dX8_weigh_71 : decode cX8_weigh 71 = .ok (.aload_n 0, 1) := by decide +kernel
theorem dX8_weigh_72 : decode cX8_weigh 72 = .ok (.getfield 32, 3) := by decide +kernel
theorem dX8_weigh_75 : decode cX8_weigh 75 = .ok (.iload 4, 2) := by decide +kernel
theorem dX8_weigh_77 : decode cX8_weigh 77 = .ok (.dup2, 1) := by decide +kernel
theorem dX8_weigh_78 : decode cX8_weigh 78 = .ok (.iaload, 1) := by decide +kernel
theorem dX8_weigh_79 : decode cX8_weigh 79 = .ok (.iconst 1, 1) := by decide +kernel
theorem dX8_weigh_80 : decode cX8_weigh 80 = .ok (.iadd, 1) := by decide +kernel
theorem dX8_weigh_81 : decode cX8_weigh 81 = .ok (.iastore, 1) := by decide +kernel
theorem dX8_weigh_82 : decode cX8_weigh 82 = .ok (.aload_n 0, 1) := by decide +kernel
theorem dX8_weigh_83 : decode cX8_weigh 83 = .ok (.getfield 35, 3) := by decide +kernel
theorem dX8_weigh_86 : decode cX8_weigh 86 = .ok (.iload 4, 2) := by decide +kernel
theorem dX8_weigh_88 : decode cX8_weigh 88 = .ok (.dup2, 1) := by decide +kernel
theorem dX8_weigh_89 : decode cX8_weigh 89 = .ok (.iaload, 1) := by decide +kernel
theorem dX8_weigh_90 : decode cX8_weigh 90 = .ok (.aload_n 2, 1) := by decide +kernel
theorem dX8_weigh_91 : decode cX8_weigh 91 = .ok (.iload_n 3, 1) := by decide +kernel
theorem dX8_weigh_92 : decode cX8_weigh 92 = .ok (.iaload, 1) := by decide +kernel
theorem dX8_weigh_93 : decode cX8_weigh 93 = .ok (.iadd, 1) := by decide +kernel
theorem dX8_weigh_94 : decode cX8_weigh 94 = .ok (.iastore, 1) := by decide +kernel
theorem dX8_weigh_95 : decode cX8_weigh 95 = .ok (.aload_n 0, 1) := by decide +kernel
theorem dX8_weigh_96 : decode cX8_weigh 96 = .ok (.getfield 38, 3) := by decide +kernel
theorem dX8_weigh_99 : decode cX8_weigh 99 = .ok (.iload 4, 2) := by decide +kernel
theorem dX8_weigh_101 : decode cX8_weigh 101 = .ok (.dup2, 1) := by decide +kernel
theorem dX8_weigh_102 : decode cX8_weigh 102 = .ok (.iaload, 1) := by decide +kernel
theorem dX8_weigh_103 : decode cX8_weigh 103 = .ok (.bipush 16, 2) := by decide +kernel
theorem dX8_weigh_105 : decode cX8_weigh 105 = .ok (.aload_n 0, 1) := by decide +kernel
theorem dX8_weigh_106 : decode cX8_weigh 106 = .ok (.getfield 44, 3) := by decide +kernel
theorem dX8_weigh_109 : decode cX8_weigh 109 = .ok (.getfield 89, 3) := by decide +kernel
theorem dX8_weigh_112 : decode cX8_weigh 112 = .ok (.iload_n 3, 1) := by decide +kernel
theorem dX8_weigh_113 : decode cX8_weigh 113 = .ok (.iaload, 1) := by decide +kernel
theorem dX8_weigh_114 : decode cX8_weigh 114 = .ok (.imul, 1) := by decide +kernel
theorem dX8_weigh_115 : decode cX8_weigh 115 = .ok (.aload_n 2, 1) := by decide +kernel
theorem dX8_weigh_116 : decode cX8_weigh 116 = .ok (.iload_n 3, 1) := by decide +kernel
theorem dX8_weigh_117 : decode cX8_weigh 117 = .ok (.iaload, 1) := by decide +kernel
theorem dX8_weigh_118 : decode cX8_weigh 118 = .ok (.imul, 1) := by decide +kernel
theorem dX8_weigh_119 : decode cX8_weigh 119 = .ok (.iadd, 1) := by decide +kernel
theorem dX8_weigh_120 : decode cX8_weigh 120 = .ok (.iastore, 1) := by decide +kernel
theorem dX8_weigh_121 : decode cX8_weigh 121 = .ok (.aload_n 0, 1) := by decide +kernel
theorem dX8_weigh_122 : decode cX8_weigh 122 = .ok (.getfield 41, 3) := by decide +kernel
theorem dX8_weigh_125 : decode cX8_weigh 125 = .ok (.iload 4, 2) := by decide +kernel
theorem dX8_weigh_127 : decode cX8_weigh 127 = .ok (.dup2, 1) := by decide +kernel
theorem dX8_weigh_128 : decode cX8_weigh 128 = .ok (.iaload, 1) := by decide +kernel
theorem dX8_weigh_129 : decode cX8_weigh 129 = .ok (.bipush 16, 2) := by decide +kernel
theorem dX8_weigh_131 : decode cX8_weigh 131 = .ok (.aload_n 0, 1) := by decide +kernel
theorem dX8_weigh_132 : decode cX8_weigh 132 = .ok (.getfield 44, 3) := by decide +kernel
theorem dX8_weigh_135 : decode cX8_weigh 135 = .ok (.getfield 92, 3) := by decide +kernel
theorem dX8_weigh_138 : decode cX8_weigh 138 = .ok (.iload_n 3, 1) := by decide +kernel
theorem dX8_weigh_139 : decode cX8_weigh 139 = .ok (.iaload, 1) := by decide +kernel
theorem dX8_weigh_140 : decode cX8_weigh 140 = .ok (.imul, 1) := by decide +kernel
theorem dX8_weigh_141 : decode cX8_weigh 141 = .ok (.aload_n 2, 1) := by decide +kernel
theorem dX8_weigh_142 : decode cX8_weigh 142 = .ok (.iload_n 3, 1) := by decide +kernel
theorem dX8_weigh_143 : decode cX8_weigh 143 = .ok (.iaload, 1) := by decide +kernel
theorem dX8_weigh_144 : decode cX8_weigh 144 = .ok (.imul, 1) := by decide +kernel
theorem dX8_weigh_145 : decode cX8_weigh 145 = .ok (.iadd, 1) := by decide +kernel
theorem dX8_weigh_146 : decode cX8_weigh 146 = .ok (.iastore, 1) := by decide +kernel
theorem dX8_weigh_147 : decode cX8_weigh 147 = .ok (.iinc 3 1, 3) := by decide +kernel
theorem dX8_weigh_150 : decode cX8_weigh 150 = .ok (.goto (-104), 3) := by decide +kernel
theorem dX8_weigh_153 : decode cX8_weigh 153 = .ok (.return_, 1) := by decide +kernel
theorem dX8_dropLightest_0 : decode cX8_dropLightest 0 = .ok (.iconst (-1), 1) := by decide +kernel
theorem dX8_dropLightest_1 : decode cX8_dropLightest 1 = .ok (.istore_n 2, 1) := by decide +kernel
theorem dX8_dropLightest_2 : decode cX8_dropLightest 2 = .ok (.iconst 0, 1) := by decide +kernel
theorem dX8_dropLightest_3 : decode cX8_dropLightest 3 = .ok (.istore_n 3, 1) := by decide +kernel
theorem dX8_dropLightest_4 : decode cX8_dropLightest 4 = .ok (.iload_n 3, 1) := by decide +kernel
theorem dX8_dropLightest_5 : decode cX8_dropLightest 5 = .ok (.iload_n 1, 1) := by decide +kernel
theorem dX8_dropLightest_6 : decode cX8_dropLightest 6 = .ok (.if_icmp .ge 40, 3) := by decide +kernel
theorem dX8_dropLightest_9 : decode cX8_dropLightest 9 = .ok (.aload_n 0, 1) := by decide +kernel
theorem dX8_dropLightest_10 : decode cX8_dropLightest 10 = .ok (.getfield 26, 3) := by decide +kernel
theorem dX8_dropLightest_13 : decode cX8_dropLightest 13 = .ok (.iload_n 3, 1) := by decide +kernel
theorem dX8_dropLightest_14 : decode cX8_dropLightest 14 = .ok (.baload, 1) := by decide +kernel
theorem dX8_dropLightest_15 : decode cX8_dropLightest 15 = .ok (.ifCond .eq 25, 3) := by decide +kernel
theorem dX8_dropLightest_18 : decode cX8_dropLightest 18 = .ok (.iload_n 2, 1) := by decide +kernel
theorem dX8_dropLightest_19 : decode cX8_dropLightest 19 = .ok (.iconst (-1), 1) := by decide +kernel
theorem dX8_dropLightest_20 : decode cX8_dropLightest 20 = .ok (.if_icmp .eq 18, 3) := by decide +kernel
theorem dX8_dropLightest_23 : decode cX8_dropLightest 23 = .ok (.aload_n 0, 1) := by decide +kernel
theorem dX8_dropLightest_24 : decode cX8_dropLightest 24 = .ok (.getfield 35, 3) := by decide +kernel
theorem dX8_dropLightest_27 : decode cX8_dropLightest 27 = .ok (.iload_n 3, 1) := by decide +kernel
theorem dX8_dropLightest_28 : decode cX8_dropLightest 28 = .ok (.iaload, 1) := by decide +kernel
theorem dX8_dropLightest_29 : decode cX8_dropLightest 29 = .ok (.aload_n 0, 1) := by decide +kernel
theorem dX8_dropLightest_30 : decode cX8_dropLightest 30 = .ok (.getfield 35, 3) := by decide +kernel
theorem dX8_dropLightest_33 : decode cX8_dropLightest 33 = .ok (.iload_n 2, 1) := by decide +kernel
theorem dX8_dropLightest_34 : decode cX8_dropLightest 34 = .ok (.iaload, 1) := by decide +kernel
theorem dX8_dropLightest_35 : decode cX8_dropLightest 35 = .ok (.if_icmp .gt 5, 3) := by decide +kernel
theorem dX8_dropLightest_38 : decode cX8_dropLightest 38 = .ok (.iload_n 3, 1) := by decide +kernel
theorem dX8_dropLightest_39 : decode cX8_dropLightest 39 = .ok (.istore_n 2, 1) := by decide +kernel
theorem dX8_dropLightest_40 : decode cX8_dropLightest 40 = .ok (.iinc 3 1, 3) := by decide +kernel
theorem dX8_dropLightest_43 : decode cX8_dropLightest 43 = .ok (.goto (-39), 3) := by decide +kernel
theorem dX8_dropLightest_46 : decode cX8_dropLightest 46 = .ok (.iload_n 2, 1) := by decide +kernel
theorem dX8_dropLightest_47 : decode cX8_dropLightest 47 = .ok (.iconst (-1), 1) := by decide +kernel
theorem dX8_dropLightest_48 : decode cX8_dropLightest 48 = .ok (.if_icmp .eq 10, 3) := by decide +kernel
theorem dX8_dropLightest_51 : decode cX8_dropLightest 51 = .ok (.aload_n 0, 1) := by decide +kernel
theorem dX8_dropLightest_52 : decode cX8_dropLightest 52 = .ok (.getfield 26, 3) := by decide +kernel
theorem dX8_dropLightest_55 : decode cX8_dropLightest 55 = .ok (.iload_n 2, 1) := by decide +kernel
theorem dX8_dropLightest_56 : decode cX8_dropLightest 56 = .ok (.iconst 0, 1) := by decide +kernel
theorem dX8_dropLightest_57 : decode cX8_dropLightest 57 = .ok (.bastore, 1) := by decide +kernel
theorem dX8_dropLightest_58 : decode cX8_dropLightest 58 = .ok (.return_, 1) := by decide +kernel
theorem dX8_numberHills_0 : decode cX8_numberHills 0 = .ok (.aload_n 0, 1) := by decide +kernel
theorem dX8_numberHills_1 : decode cX8_numberHills 1 = .ok (.iconst 0, 1) := by decide +kernel
theorem dX8_numberHills_2 : decode cX8_numberHills 2 = .ok (.putfield 48, 3) := by decide +kernel
theorem dX8_numberHills_5 : decode cX8_numberHills 5 = .ok (.iconst 0, 1) := by decide +kernel
theorem dX8_numberHills_6 : decode cX8_numberHills 6 = .ok (.istore_n 2, 1) := by decide +kernel
theorem dX8_numberHills_7 : decode cX8_numberHills 7 = .ok (.iload_n 2, 1) := by decide +kernel
theorem dX8_numberHills_8 : decode cX8_numberHills 8 = .ok (.aload_n 1, 1) := by decide +kernel
theorem dX8_numberHills_9 : decode cX8_numberHills 9 = .ok (.getfield 62, 3) := by decide +kernel
theorem dX8_numberHills_12 : decode cX8_numberHills 12 = .ok (.if_icmp .ge 74, 3) := by decide +kernel
theorem dX8_numberHills_15 : decode cX8_numberHills 15 = .ok (.aload_n 0, 1) := by decide +kernel
theorem dX8_numberHills_16 : decode cX8_numberHills 16 = .ok (.getfield 29, 3) := by decide +kernel
theorem dX8_numberHills_19 : decode cX8_numberHills 19 = .ok (.iload_n 2, 1) := by decide +kernel
theorem dX8_numberHills_20 : decode cX8_numberHills 20 = .ok (.iconst (-1), 1) := by decide +kernel
theorem dX8_numberHills_21 : decode cX8_numberHills 21 = .ok (.iastore, 1) := by decide +kernel
theorem dX8_numberHills_22 : decode cX8_numberHills 22 = .ok (.aload_n 0, 1) := by decide +kernel
theorem dX8_numberHills_23 : decode cX8_numberHills 23 = .ok (.getfield 26, 3) := by decide +kernel
theorem dX8_numberHills_26 : decode cX8_numberHills 26 = .ok (.iload_n 2, 1) := by decide +kernel
theorem dX8_numberHills_27 : decode cX8_numberHills 27 = .ok (.baload, 1) := by decide +kernel
theorem dX8_numberHills_28 : decode cX8_numberHills 28 = .ok (.ifCond .eq 52, 3) := by decide +kernel
theorem dX8_numberHills_31 : decode cX8_numberHills 31 = .ok (.aload_n 0, 1) := by decide +kernel
theorem dX8_numberHills_32 : decode cX8_numberHills 32 = .ok (.getfield 48, 3) := by decide +kernel
theorem dX8_numberHills_35 : decode cX8_numberHills 35 = .ok (.bipush 6, 2) := by decide +kernel
theorem dX8_numberHills_37 : decode cX8_numberHills 37 = .ok (.if_icmp .ge 43, 3) := by decide +kernel
theorem dX8_numberHills_40 : decode cX8_numberHills 40 = .ok (.aload_n 0, 1) := by decide +kernel
theorem dX8_numberHills_41 : decode cX8_numberHills 41 = .ok (.getfield 29, 3) := by decide +kernel
theorem dX8_numberHills_44 : decode cX8_numberHills 44 = .ok (.iload_n 2, 1) := by decide +kernel
theorem dX8_numberHills_45 : decode cX8_numberHills 45 = .ok (.aload_n 0, 1) := by decide +kernel
theorem dX8_numberHills_46 : decode cX8_numberHills 46 = .ok (.getfield 48, 3) := by decide +kernel
theorem dX8_numberHills_49 : decode cX8_numberHills 49 = .ok (.iastore, 1) := by decide +kernel
theorem dX8_numberHills_50 : decode cX8_numberHills 50 = .ok (.aload_n 0, 1) := by decide +kernel
theorem dX8_numberHills_51 : decode cX8_numberHills 51 = .ok (.aload_n 0, 1) := by decide +kernel
theorem dX8_numberHills_52 : decode cX8_numberHills 52 = .ok (.getfield 11, 3) := by decide +kernel
theorem dX8_numberHills_55 : decode cX8_numberHills 55 = .ok (.aload_n 0, 1) := by decide +kernel
theorem dX8_numberHills_56 : decode cX8_numberHills 56 = .ok (.getfield 48, 3) := by decide +kernel
theorem dX8_numberHills_59 : decode cX8_numberHills 59 = .ok (.aaload, 1) := by decide +kernel
theorem dX8_numberHills_60 : decode cX8_numberHills 60 = .ok (.iload_n 2, 1) := by decide +kernel
theorem dX8_numberHills_61 : decode cX8_numberHills 61 = .ok (.aload_n 1, 1) := by decide +kernel
theorem dX8_numberHills_62 : decode cX8_numberHills 62 = .ok (.getfield 66, 3) := by decide +kernel
theorem dX8_numberHills_65 : decode cX8_numberHills 65 = .ok (.iload_n 2, 1) := by decide +kernel
theorem dX8_numberHills_66 : decode cX8_numberHills 66 = .ok (.iaload, 1) := by decide +kernel
theorem dX8_numberHills_67 : decode cX8_numberHills 67 = .ok (.invokevirtual 94, 3) := by decide +kernel
theorem dX8_numberHills_70 : decode cX8_numberHills 70 = .ok (.aload_n 0, 1) := by decide +kernel
theorem dX8_numberHills_71 : decode cX8_numberHills 71 = .ok (.dup, 1) := by decide +kernel
theorem dX8_numberHills_72 : decode cX8_numberHills 72 = .ok (.getfield 48, 3) := by decide +kernel
theorem dX8_numberHills_75 : decode cX8_numberHills 75 = .ok (.iconst 1, 1) := by decide +kernel
theorem dX8_numberHills_76 : decode cX8_numberHills 76 = .ok (.iadd, 1) := by decide +kernel
theorem dX8_numberHills_77 : decode cX8_numberHills 77 = .ok (.putfield 48, 3) := by decide +kernel
theorem dX8_numberHills_80 : decode cX8_numberHills 80 = .ok (.iinc 2 1, 3) := by decide +kernel
theorem dX8_numberHills_83 : decode cX8_numberHills 83 = .ok (.goto (-76), 3) := by decide +kernel
theorem dX8_numberHills_86 : decode cX8_numberHills 86 = .ok (.return_, 1) := by decide +kernel
theorem dX8_fillRow_0 : decode cX8_fillRow 0 = .ok (.aload_n 0, 1) := by decide +kernel
theorem dX8_fillRow_1 : decode cX8_fillRow 1 = .ok (.getfield 35, 3) := by decide +kernel
theorem dX8_fillRow_4 : decode cX8_fillRow 4 = .ok (.iload_n 2, 1) := by decide +kernel
theorem dX8_fillRow_5 : decode cX8_fillRow 5 = .ok (.iaload, 1) := by decide +kernel
theorem dX8_fillRow_6 : decode cX8_fillRow 6 = .ok (.istore 4, 2) := by decide +kernel
theorem dX8_fillRow_8 : decode cX8_fillRow 8 = .ok (.aload_n 1, 1) := by decide +kernel
theorem dX8_fillRow_9 : decode cX8_fillRow 9 = .ok (.iconst 0, 1) := by decide +kernel
theorem dX8_fillRow_10 : decode cX8_fillRow 10 = .ok (.iload_n 3, 1) := by decide +kernel
theorem dX8_fillRow_11 : decode cX8_fillRow 11 = .ok (.iastore, 1) := by decide +kernel
theorem dX8_fillRow_12 : decode cX8_fillRow 12 = .ok (.aload_n 1, 1) := by decide +kernel
theorem dX8_fillRow_13 : decode cX8_fillRow 13 = .ok (.iconst 1, 1) := by decide +kernel
theorem dX8_fillRow_14 : decode cX8_fillRow 14 = .ok (.aload_n 0, 1) := by decide +kernel
theorem dX8_fillRow_15 : decode cX8_fillRow 15 = .ok (.getfield 32, 3) := by decide +kernel
theorem dX8_fillRow_18 : decode cX8_fillRow 18 = .ok (.iload_n 2, 1) := by decide +kernel
theorem dX8_fillRow_19 : decode cX8_fillRow 19 = .ok (.iaload, 1) := by decide +kernel
theorem dX8_fillRow_20 : decode cX8_fillRow 20 = .ok (.iastore, 1) := by decide +kernel
theorem dX8_fillRow_21 : decode cX8_fillRow 21 = .ok (.aload_n 1, 1) := by decide +kernel
theorem dX8_fillRow_22 : decode cX8_fillRow 22 = .ok (.iconst 2, 1) := by decide +kernel
theorem dX8_fillRow_23 : decode cX8_fillRow 23 = .ok (.iload 4, 2) := by decide +kernel
theorem dX8_fillRow_25 : decode cX8_fillRow 25 = .ok (.iastore, 1) := by decide +kernel
theorem dX8_fillRow_26 : decode cX8_fillRow 26 = .ok (.aload_n 1, 1) := by decide +kernel
theorem dX8_fillRow_27 : decode cX8_fillRow 27 = .ok (.iconst 3, 1) := by decide +kernel
theorem dX8_fillRow_28 : decode cX8_fillRow 28 = .ok (.iload 4, 2) := by decide +kernel
theorem dX8_fillRow_30 : decode cX8_fillRow 30 = .ok (.ifCond .le 15, 3) := by decide +kernel
theorem dX8_fillRow_33 : decode cX8_fillRow 33 = .ok (.aload_n 0, 1) := by decide +kernel
theorem dX8_fillRow_34 : decode cX8_fillRow 34 = .ok (.getfield 38, 3) := by decide +kernel
theorem dX8_fillRow_37 : decode cX8_fillRow 37 = .ok (.iload_n 2, 1) := by decide +kernel
theorem dX8_fillRow_38 : decode cX8_fillRow 38 = .ok (.iaload, 1) := by decide +kernel
theorem dX8_fillRow_39 : decode cX8_fillRow 39 = .ok (.iload 4, 2) := by decide +kernel
theorem dX8_fillRow_41 : decode cX8_fillRow 41 = .ok (.idiv, 1) := by decide +kernel
theorem dX8_fillRow_42 : decode cX8_fillRow 42 = .ok (.goto 4, 3) := by decide +kernel
theorem dX8_fillRow_45 : decode cX8_fillRow 45 = .ok (.iconst 0, 1) := by decide +kernel
theorem dX8_fillRow_46 : decode cX8_fillRow 46 = .ok (.iastore, 1) := by decide +kernel
theorem dX8_fillRow_47 : decode cX8_fillRow 47 = .ok (.aload_n 1, 1) := by decide +kernel
theorem dX8_fillRow_48 : decode cX8_fillRow 48 = .ok (.iconst 4, 1) := by decide +kernel
theorem dX8_fillRow_49 : decode cX8_fillRow 49 = .ok (.iload 4, 2) := by decide +kernel
theorem dX8_fillRow_51 : decode cX8_fillRow 51 = .ok (.ifCond .le 15, 3) := by decide +kernel
theorem dX8_fillRow_54 : decode cX8_fillRow 54 = .ok (.aload_n 0, 1) := by decide +kernel
theorem dX8_fillRow_55 : decode cX8_fillRow 55 = .ok (.getfield 41, 3) := by decide +kernel
theorem dX8_fillRow_58 : decode cX8_fillRow 58 = .ok (.iload_n 2, 1) := by decide +kernel
theorem dX8_fillRow_59 : decode cX8_fillRow 59 = .ok (.iaload, 1) := by decide +kernel
theorem dX8_fillRow_60 : decode cX8_fillRow 60 = .ok (.iload 4, 2) := by decide +kernel
theorem dX8_fillRow_62 : decode cX8_fillRow 62 = .ok (.idiv, 1) := by decide +kernel
theorem dX8_fillRow_63 : decode cX8_fillRow 63 = .ok (.goto 4, 3) := by decide +kernel
theorem dX8_fillRow_66 : decode cX8_fillRow 66 = .ok (.iconst 0, 1) := by decide +kernel
theorem dX8_fillRow_67 : decode cX8_fillRow 67 = .ok (.iastore, 1) := by decide +kernel
theorem dX8_fillRow_68 : decode cX8_fillRow 68 = .ok (.aload_n 1, 1) := by decide +kernel
theorem dX8_fillRow_69 : decode cX8_fillRow 69 = .ok (.iconst 5, 1) := by decide +kernel
theorem dX8_fillRow_70 : decode cX8_fillRow 70 = .ok (.iconst (-1), 1) := by decide +kernel
theorem dX8_fillRow_71 : decode cX8_fillRow 71 = .ok (.iastore, 1) := by decide +kernel
theorem dX8_fillRow_72 : decode cX8_fillRow 72 = .ok (.return_, 1) := by decide +kernel
theorem dX8_markCells_0 : decode cX8_markCells 0 = .ok (.iconst 0, 1) := by decide +kernel
theorem dX8_markCells_1 : decode cX8_markCells 1 = .ok (.istore_n 2, 1) := by decide +kernel
theorem dX8_markCells_2 : decode cX8_markCells 2 = .ok (.iload_n 2, 1) := by decide +kernel
theorem dX8_markCells_3 : decode cX8_markCells 3 = .ok (.aload_n 0, 1) := by decide +kernel
theorem dX8_markCells_4 : decode cX8_markCells 4 = .ok (.getfield 44, 3) := by decide +kernel
theorem dX8_markCells_7 : decode cX8_markCells 7 = .ok (.getfield 84, 3) := by decide +kernel
theorem dX8_markCells_10 : decode cX8_markCells 10 = .ok (.if_icmp .ge 55, 3) := by decide +kernel
theorem dX8_markCells_13 : decode cX8_markCells 13 = .ok (.aload_n 0, 1) := by decide +kernel
theorem dX8_markCells_14 : decode cX8_markCells 14 = .ok (.getfield 16, 3) := by decide +kernel
theorem dX8_markCells_17 : decode cX8_markCells 17 = .ok (.iload_n 2, 1) := by decide +kernel
theorem dX8_markCells_18 : decode cX8_markCells 18 = .ok (.aload_n 1, 1) := by decide +kernel
theorem dX8_markCells_19 : decode cX8_markCells 19 = .ok (.iload_n 2, 1) := by decide +kernel
theorem dX8_markCells_20 : decode cX8_markCells 20 = .ok (.iaload, 1) := by decide +kernel
theorem dX8_markCells_21 : decode cX8_markCells 21 = .ok (.iconst (-1), 1) := by decide +kernel
theorem dX8_markCells_22 : decode cX8_markCells 22 = .ok (.if_icmp .ne 7, 3) := by decide +kernel
theorem dX8_markCells_25 : decode cX8_markCells 25 = .ok (.iconst (-1), 1) := by decide +kernel
theorem dX8_markCells_26 : decode cX8_markCells 26 = .ok (.goto 11, 3) := by decide +kernel
theorem dX8_markCells_29 : decode cX8_markCells 29 = .ok (.aload_n 0, 1) := by decide +kernel
theorem dX8_markCells_30 : decode cX8_markCells 30 = .ok (.getfield 29, 3) := by decide +kernel
theorem dX8_markCells_33 : decode cX8_markCells 33 = .ok (.aload_n 1, 1) := by decide +kernel
theorem dX8_markCells_34 : decode cX8_markCells 34 = .ok (.iload_n 2, 1) := by decide +kernel
theorem dX8_markCells_35 : decode cX8_markCells 35 = .ok (.iaload, 1) := by decide +kernel
theorem dX8_markCells_36 : decode cX8_markCells 36 = .ok (.iaload, 1) := by decide +kernel
theorem dX8_markCells_37 : decode cX8_markCells 37 = .ok (.iastore, 1) := by decide +kernel
theorem dX8_markCells_38 : decode cX8_markCells 38 = .ok (.aload_n 0, 1) := by decide +kernel
theorem dX8_markCells_39 : decode cX8_markCells 39 = .ok (.getfield 20, 3) := by decide +kernel
theorem dX8_markCells_42 : decode cX8_markCells 42 = .ok (.iload_n 2, 1) := by decide +kernel
theorem dX8_markCells_43 : decode cX8_markCells 43 = .ok (.aload_n 0, 1) := by decide +kernel
theorem dX8_markCells_44 : decode cX8_markCells 44 = .ok (.getfield 16, 3) := by decide +kernel
theorem dX8_markCells_47 : decode cX8_markCells 47 = .ok (.iload_n 2, 1) := by decide +kernel
theorem dX8_markCells_48 : decode cX8_markCells 48 = .ok (.iaload, 1) := by decide +kernel
theorem dX8_markCells_49 : decode cX8_markCells 49 = .ok (.iconst (-1), 1) := by decide +kernel
theorem dX8_markCells_50 : decode cX8_markCells 50 = .ok (.if_icmp .eq 7, 3) := by decide +kernel
theorem dX8_markCells_53 : decode cX8_markCells 53 = .ok (.iconst 1, 1) := by decide +kernel
theorem dX8_markCells_54 : decode cX8_markCells 54 = .ok (.goto 4, 3) := by decide +kernel
theorem dX8_markCells_57 : decode cX8_markCells 57 = .ok (.iconst 0, 1) := by decide +kernel
theorem dX8_markCells_58 : decode cX8_markCells 58 = .ok (.bastore, 1) := by decide +kernel
theorem dX8_markCells_59 : decode cX8_markCells 59 = .ok (.iinc 2 1, 3) := by decide +kernel
theorem dX8_markCells_62 : decode cX8_markCells 62 = .ok (.goto (-60), 3) := by decide +kernel
theorem dX8_markCells_65 : decode cX8_markCells 65 = .ok (.return_, 1) := by decide +kernel
theorem dX9_init_0 : decode cX9_init 0 = .ok (.aload_n 0, 1) := by decide +kernel
theorem dX9_init_1 : decode cX9_init 1 = .ok (.invokespecial 3, 3) := by decide +kernel
theorem dX9_init_4 : decode cX9_init 4 = .ok (.aload_n 0, 1) := by decide +kernel
theorem dX9_init_5 : decode cX9_init 5 = .ok (.bipush 64, 2) := by decide +kernel
theorem dX9_init_7 : decode cX9_init 7 = .ok (.newarray .int, 2) := by decide +kernel
theorem dX9_init_9 : decode cX9_init 9 = .ok (.putfield 9, 3) := by decide +kernel
theorem dX9_init_12 : decode cX9_init 12 = .ok (.aload_n 0, 1) := by decide +kernel
theorem dX9_init_13 : decode cX9_init 13 = .ok (.bipush 64, 2) := by decide +kernel
theorem dX9_init_15 : decode cX9_init 15 = .ok (.newarray .int, 2) := by decide +kernel
theorem dX9_init_17 : decode cX9_init 17 = .ok (.putfield 15, 3) := by decide +kernel
theorem dX9_init_20 : decode cX9_init 20 = .ok (.aload_n 0, 1) := by decide +kernel
theorem dX9_init_21 : decode cX9_init 21 = .ok (.bipush 64, 2) := by decide +kernel
theorem dX9_init_23 : decode cX9_init 23 = .ok (.newarray .int, 2) := by decide +kernel
theorem dX9_init_25 : decode cX9_init 25 = .ok (.putfield 18, 3) := by decide +kernel
theorem dX9_init_28 : decode cX9_init 28 = .ok (.aload_n 0, 1) := by decide +kernel
theorem dX9_init_29 : decode cX9_init 29 = .ok (.bipush 64, 2) := by decide +kernel
theorem dX9_init_31 : decode cX9_init 31 = .ok (.newarray .int, 2) := by decide +kernel
theorem dX9_init_33 : decode cX9_init 33 = .ok (.putfield 21, 3) := by decide +kernel
theorem dX9_init_36 : decode cX9_init 36 = .ok (.aload_n 0, 1) := by decide +kernel
theorem dX9_init_37 : decode cX9_init 37 = .ok (.bipush 64, 2) := by decide +kernel
theorem dX9_init_39 : decode cX9_init 39 = .ok (.newarray .int, 2) := by decide +kernel
theorem dX9_init_41 : decode cX9_init 41 = .ok (.putfield 24, 3) := by decide +kernel
theorem dX9_init_44 : decode cX9_init 44 = .ok (.aload_n 0, 1) := by decide +kernel
theorem dX9_init_45 : decode cX9_init 45 = .ok (.bipush 64, 2) := by decide +kernel
theorem dX9_init_47 : decode cX9_init 47 = .ok (.newarray .boolean, 2) := by decide +kernel
theorem dX9_init_49 : decode cX9_init 49 = .ok (.putfield 27, 3) := by decide +kernel
theorem dX9_init_52 : decode cX9_init 52 = .ok (.aload_n 0, 1) := by decide +kernel
theorem dX9_init_53 : decode cX9_init 53 = .ok (.aload_n 1, 1) := by decide +kernel
theorem dX9_init_54 : decode cX9_init 54 = .ok (.putfield 31, 3) := by decide +kernel
theorem dX9_init_57 : decode cX9_init 57 = .ok (.return_, 1) := by decide +kernel
theorem dX9_renew_0 : decode cX9_renew 0 = .ok (.aload_n 0, 1) := by decide +kernel
theorem dX9_renew_1 : decode cX9_renew 1 = .ok (.getfield 9, 3) := by decide +kernel
theorem dX9_renew_4 : decode cX9_renew 4 = .ok (.bipush 100, 2) := by decide +kernel
theorem dX9_renew_6 : decode cX9_renew 6 = .ok (.invokestatic 35, 3) := by decide +kernel
theorem dX9_renew_9 : decode cX9_renew 9 = .ok (.aload_n 0, 1) := by decide +kernel
theorem dX9_renew_10 : decode cX9_renew 10 = .ok (.getfield 15, 3) := by decide +kernel
theorem dX9_renew_13 : decode cX9_renew 13 = .ok (.bipush 100, 2) := by decide +kernel
theorem dX9_renew_15 : decode cX9_renew 15 = .ok (.invokestatic 35, 3) := by decide +kernel
theorem dX9_renew_18 : decode cX9_renew 18 = .ok (.aload_n 0, 1) := by decide +kernel
theorem dX9_renew_19 : decode cX9_renew 19 = .ok (.getfield 18, 3) := by decide +kernel
theorem dX9_renew_22 : decode cX9_renew 22 = .ok (.iconst 0, 1) := by decide +kernel
theorem dX9_renew_23 : decode cX9_renew 23 = .ok (.invokestatic 35, 3) := by decide +kernel
theorem dX9_renew_26 : decode cX9_renew 26 = .ok (.aload_n 0, 1) := by decide +kernel
theorem dX9_renew_27 : decode cX9_renew 27 = .ok (.getfield 21, 3) := by decide +kernel
theorem dX9_renew_30 : decode cX9_renew 30 = .ok (.iconst 0, 1) := by decide +kernel
theorem dX9_renew_31 : decode cX9_renew 31 = .ok (.invokestatic 35, 3) := by decide +kernel
theorem dX9_renew_34 : decode cX9_renew 34 = .ok (.aload_n 0, 1) := by decide +kernel
theorem dX9_renew_35 : decode cX9_renew 35 = .ok (.getfield 24, 3) := by decide +kernel
theorem dX9_renew_38 : decode cX9_renew 38 = .ok (.iconst 0, 1) := by decide +kernel
theorem dX9_renew_39 : decode cX9_renew 39 = .ok (.invokestatic 35, 3) := by decide +kernel
theorem dX9_renew_42 : decode cX9_renew 42 = .ok (.return_, 1) := by decide +kernel
theorem dX9_feel_0 : decode cX9_feel 0 = .ok (.iconst 0, 1) := by decide +kernel
theorem dX9_feel_1 : decode cX9_feel 1 = .ok (.istore_n 2, 1) := by decide +kernel
theorem dX9_feel_2 : decode cX9_feel 2 = .ok (.iload_n 2, 1) := by decide +kernel
theorem dX9_feel_3 : decode cX9_feel 3 = .ok (.aload_n 0, 1) := by decide +kernel
theorem dX9_feel_4 : decode cX9_feel 4 = .ok (.getfield 31, 3) := by decide +kernel
theorem dX9_feel_7 : decode cX9_feel 7 = .ok (.getfield 41, 3) := by decide +kernel
theorem dX9_feel_10 : decode cX9_feel 10 = .ok (.if_icmp .ge 37, 3) := by decide +kernel
theorem dX9_feel_13 : decode cX9_feel 13 = .ok (.aload_n 0, 1) := by decide +kernel
theorem dX9_feel_14 : decode cX9_feel 14 = .ok (.getfield 18, 3) := by decide +kernel
theorem dX9_feel_17 : decode cX9_feel 17 = .ok (.iload_n 2, 1) := by decide +kernel
theorem dX9_feel_18 : decode cX9_feel 18 = .ok (.aload_n 1, 1) := by decide +kernel
theorem dX9_feel_19 : decode cX9_feel 19 = .ok (.aload_n 0, 1) := by decide +kernel
theorem dX9_feel_20 : decode cX9_feel 20 = .ok (.getfield 31, 3) := by decide +kernel
theorem dX9_feel_23 : decode cX9_feel 23 = .ok (.getfield 47, 3) := by decide +kernel
theorem dX9_feel_26 : decode cX9_feel 26 = .ok (.iload_n 2, 1) := by decide +kernel
theorem dX9_feel_27 : decode cX9_feel 27 = .ok (.iaload, 1) := by decide +kernel
theorem dX9_feel_28 : decode cX9_feel 28 = .ok (.aload_n 0, 1) := by decide +kernel
theorem dX9_feel_29 : decode cX9_feel 29 = .ok (.getfield 31, 3) := by decide +kernel
theorem dX9_feel_32 : decode cX9_feel 32 = .ok (.getfield 50, 3) := by decide +kernel
theorem dX9_feel_35 : decode cX9_feel 35 = .ok (.iload_n 2, 1) := by decide +kernel
theorem dX9_feel_36 : decode cX9_feel 36 = .ok (.iaload, 1) := by decide +kernel
theorem dX9_feel_37 : decode cX9_feel 37 = .ok (.invokevirtual 53, 3) := by decide +kernel
theorem dX9_feel_40 : decode cX9_feel 40 = .ok (.iastore, 1) := by decide +kernel
theorem dX9_feel_41 : decode cX9_feel 41 = .ok (.iinc 2 1, 3) := by decide +kernel
theorem dX9_feel_44 : decode cX9_feel 44 = .ok (.goto (-42), 3) := by decide +kernel
theorem dX9_feel_47 : decode cX9_feel 47 = .ok (.return_, 1) := by decide +kernel
theorem dX9_addToBackgrounds_0 : decode cX9_addToBackgrounds 0 = .ok (.iconst 0, 1) := by decide +kernel
theorem dX9_addToBackgrounds_1 : decode cX9_addToBackgrounds 1 = .ok (.istore_n 2, 1) := by decide +kernel
theorem dX9_addToBackgrounds_2 : decode cX9_addToBackgrounds 2 = .ok (.iconst 0, 1) := by decide +kernel
theorem dX9_addToBackgrounds_3 : decode cX9_addToBackgrounds 3 = .ok (.istore_n 3, 1) := by decide +kernel
theorem dX9_addToBackgrounds_4 : decode cX9_addToBackgrounds 4 = .ok (.iload_n 3, 1) := by decide +kernel
theorem dX9_addToBackgrounds_5 : decode cX9_addToBackgrounds 5 = .ok (.aload_n 0, 1) := by decide +kernel
theorem dX9_addToBackgrounds_6 : decode cX9_addToBackgrounds 6 = .ok (.getfield 31, 3) := by decide +kernel
theorem dX9_addToBackgrounds_9 : decode cX9_addToBackgrounds 9 = .ok (.getfield 41, 3) := by decide +kernel
theorem dX9_addToBackgrounds_12 : decode cX9_addToBackgrounds 12 = .ok (.if_icmp .ge 51, 3) := by decide +kernel
theorem dX9_addToBackgrounds_15 : decode cX9_addToBackgrounds 15 = .ok (.iconst 0, 1) := by decide +kernel
theorem dX9_addToBackgrounds_16 : decode cX9_addToBackgrounds 16 = .ok (.sipush 999, 3) := by decide +kernel
theorem dX9_addToBackgrounds_19 : decode cX9_addToBackgrounds 19 = .ok (.aload_n 0, 1) := by decide +kernel
theorem dX9_addToBackgrounds_20 : decode cX9_addToBackgrounds 20 = .ok (.getfield 9, 3) := by decide +kernel
theorem dX9_addToBackgrounds_23 : decode cX9_addToBackgrounds 23 = .ok (.iload_n 3, 1) := by decide +kernel
theorem dX9_addToBackgrounds_24 : decode cX9_addToBackgrounds 24 = .ok (.iaload, 1) := by decide +kernel
theorem dX9_addToBackgrounds_25 : decode cX9_addToBackgrounds 25 = .ok (.iload_n 1, 1) := by decide +kernel
theorem dX9_addToBackgrounds_26 : decode cX9_addToBackgrounds 26 = .ok (.iadd, 1) := by decide +kernel
theorem dX9_addToBackgrounds_27 : decode cX9_addToBackgrounds 27 = .ok (.invokestatic 59, 3) := by decide +kernel
theorem dX9_addToBackgrounds_30 : decode cX9_addToBackgrounds 30 = .ok (.invokestatic 64, 3) := by decide +kernel
theorem dX9_addToBackgrounds_33 : decode cX9_addToBackgrounds 33 = .ok (.istore 4, 2) := by decide +kernel
theorem dX9_addToBackgrounds_35 : decode cX9_addToBackgrounds 35 = .ok (.iload 4, 2) := by decide +kernel
theorem dX9_addToBackgrounds_37 : decode cX9_addToBackgrounds 37 = .ok (.aload_n 0, 1) := by decide +kernel
theorem dX9_addToBackgrounds_38 : decode cX9_addToBackgrounds 38 = .ok (.getfield 9, 3) := by decide +kernel
theorem dX9_addToBackgrounds_41 : decode cX9_addToBackgrounds 41 = .ok (.iload_n 3, 1) := by decide +kernel
theorem dX9_addToBackgrounds_42 : decode cX9_addToBackgrounds 42 = .ok (.iaload, 1) := by decide +kernel
theorem dX9_addToBackgrounds_43 : decode cX9_addToBackgrounds 43 = .ok (.if_icmp .eq 14, 3) := by decide +kernel
theorem dX9_addToBackgrounds_46 : decode cX9_addToBackgrounds 46 = .ok (.aload_n 0, 1) := by decide +kernel
theorem dX9_addToBackgrounds_47 : decode cX9_addToBackgrounds 47 = .ok (.getfield 9, 3) := by decide +kernel
theorem dX9_addToBackgrounds_50 : decode cX9_addToBackgrounds 50 = .ok (.iload_n 3, 1) := by decide +kernel
theorem dX9_addToBackgrounds_51 : decode cX9_addToBackgrounds 51 = .ok (.iload 4, 2) := by decide +kernel
theorem dX9_addToBackgrounds_53 : decode cX9_addToBackgrounds 53 = .ok (.iastore, 1) := by decide +kernel
theorem dX9_addToBackgrounds_54 : decode cX9_addToBackgrounds 54 = .ok (.iinc 2 1, 3) := by decide +kernel
theorem dX9_addToBackgrounds_57 : decode cX9_addToBackgrounds 57 = .ok (.iinc 3 1, 3) := by decide +kernel
theorem dX9_addToBackgrounds_60 : decode cX9_addToBackgrounds 60 = .ok (.goto (-56), 3) := by decide +kernel
theorem dX9_addToBackgrounds_63 : decode cX9_addToBackgrounds 63 = .ok (.iload_n 2, 1) := by decide +kernel
theorem dX9_addToBackgrounds_64 : decode cX9_addToBackgrounds 64 = .ok (.ireturn, 1) := by decide +kernel
theorem dX9_baselinesToBackgrounds_0 : decode cX9_baselinesToBackgrounds 0 = .ok (.iconst 0, 1) := by decide +kernel
theorem dX9_baselinesToBackgrounds_1 : decode cX9_baselinesToBackgrounds 1 = .ok (.istore_n 1, 1) := by decide +kernel
theorem dX9_baselinesToBackgrounds_2 : decode cX9_baselinesToBackgrounds 2 = .ok (.iconst 0, 1) := by decide +kernel
theorem dX9_baselinesToBackgrounds_3 : decode cX9_baselinesToBackgrounds 3 = .ok (.istore_n 2, 1) := by decide +kernel
theorem dX9_baselinesToBackgrounds_4 : decode cX9_baselinesToBackgrounds 4 = .ok (.iload_n 2, 1) := by decide +kernel
theorem dX9_baselinesToBackgrounds_5 : decode cX9_baselinesToBackgrounds 5 = .ok (.aload_n 0, 1) := by decide +kernel
theorem dX9_baselinesToBackgrounds_6 : decode cX9_baselinesToBackgrounds 6 = .ok (.getfield 31, 3) := by decide +kernel
theorem dX9_baselinesToBackgrounds_9 : decode cX9_baselinesToBackgrounds 9 = .ok (.getfield 41, 3) := by decide +kernel
theorem dX9_baselinesToBackgrounds_12 : decode cX9_baselinesToBackgrounds 12 = .ok (.if_icmp .ge 39, 3) := by decide +kernel
theorem dX9_baselinesToBackgrounds_15 : decode cX9_baselinesToBackgrounds 15 = .ok (.aload_n 0, 1) := by decide +kernel
theorem dX9_baselinesToBackgrounds_16 : decode cX9_baselinesToBackgrounds 16 = .ok (.getfield 15, 3) := by decide +kernel
theorem dX9_baselinesToBackgrounds_19 : decode cX9_baselinesToBackgrounds 19 = .ok (.iload_n 2, 1) := by decide +kernel
theorem dX9_baselinesToBackgrounds_20 : decode cX9_baselinesToBackgrounds 20 = .ok (.iaload, 1) := by decide +kernel
theorem dX9_baselinesToBackgrounds_21 : decode cX9_baselinesToBackgrounds 21 = .ok (.aload_n 0, 1) := by decide +kernel
theorem dX9_baselinesToBackgrounds_22 : decode cX9_baselinesToBackgrounds 22 = .ok (.getfield 9, 3) := by decide +kernel
theorem dX9_baselinesToBackgrounds_25 : decode cX9_baselinesToBackgrounds 25 = .ok (.iload_n 2, 1) := by decide +kernel
theorem dX9_baselinesToBackgrounds_26 : decode cX9_baselinesToBackgrounds 26 = .ok (.iaload, 1) := by decide +kernel
theorem dX9_baselinesToBackgrounds_27 : decode cX9_baselinesToBackgrounds 27 = .ok (.if_icmp .eq 18, 3) := by decide +kernel
theorem dX9_baselinesToBackgrounds_30 : decode cX9_baselinesToBackgrounds 30 = .ok (.aload_n 0, 1) := by decide +kernel
theorem dX9_baselinesToBackgrounds_31 : decode cX9_baselinesToBackgrounds 31 = .ok (.getfield 15, 3) := by decide +kernel
theorem dX9_baselinesToBackgrounds_34 : decode cX9_baselinesToBackgrounds 34 = .ok (.iload_n 2, 1) := by decide +kernel
theorem dX9_baselinesToBackgrounds_35 : decode cX9_baselinesToBackgrounds 35 = .ok (.aload_n 0, 1) := by decide +kernel
theorem dX9_baselinesToBackgrounds_36 : decode cX9_baselinesToBackgrounds 36 = .ok (.getfield 9, 3) := by decide +kernel
theorem dX9_baselinesToBackgrounds_39 : decode cX9_baselinesToBackgrounds 39 = .ok (.iload_n 2, 1) := by decide +kernel
theorem dX9_baselinesToBackgrounds_40 : decode cX9_baselinesToBackgrounds 40 = .ok (.iaload, 1) := by decide +kernel
theorem dX9_baselinesToBackgrounds_41 : decode cX9_baselinesToBackgrounds 41 = .ok (.iastore, 1) := by decide +kernel
theorem dX9_baselinesToBackgrounds_42 : decode cX9_baselinesToBackgrounds 42 = .ok (.iinc 1 1, 3) := by decide +kernel
theorem dX9_baselinesToBackgrounds_45 : decode cX9_baselinesToBackgrounds 45 = .ok (.iinc 2 1, 3) := by decide +kernel
theorem dX9_baselinesToBackgrounds_48 : decode cX9_baselinesToBackgrounds 48 = .ok (.goto (-44), 3) := by decide +kernel
theorem dX9_baselinesToBackgrounds_51 : decode cX9_baselinesToBackgrounds 51 = .ok (.iload_n 1, 1) := by decide +kernel
theorem dX9_baselinesToBackgrounds_52 : decode cX9_baselinesToBackgrounds 52 = .ok (.ireturn, 1) := by decide +kernel
theorem dX9_sense_0 : decode cX9_sense 0 = .ok (.aload_n 1, 1) := by decide +kernel
theorem dX9_sense_1 : decode cX9_sense 1 = .ok (.invokevirtual 67, 3) := by decide +kernel
theorem dX9_sense_4 : decode cX9_sense 4 = .ok (.istore_n 3, 1) := by decide +kernel
theorem dX9_sense_5 : decode cX9_sense 5 = .ok (.iconst 0, 1) := by decide +kernel
theorem dX9_sense_6 : decode cX9_sense 6 = .ok (.istore 4, 2) := by decide +kernel
theorem dX9_sense_8 : decode cX9_sense 8 = .ok (.iload 4, 2) := by decide +kernel
theorem dX9_sense_10 : decode cX9_sense 10 = .ok (.aload_n 0, 1) := by decide +kernel
theorem dX9_sense_11 : decode cX9_sense 11 = .ok (.getfield 31, 3) := by decide +kernel
theorem dX9_sense_14 : decode cX9_sense 14 = .ok (.getfield 41, 3) := by decide +kernel
theorem dX9_sense_17 : decode cX9_sense 17 = .ok (.if_icmp .ge 94, 3) := by decide +kernel
theorem dX9_sense_20 : decode cX9_sense 20 = .ok (.iload_n 3, 1) := by decide +kernel
theorem dX9_sense_21 : decode cX9_sense 21 = .ok (.ifCond .le 11, 3) := by decide +kernel
theorem dX9_sense_24 : decode cX9_sense 24 = .ok (.aload_n 1, 1) := by decide +kernel
theorem dX9_sense_25 : decode cX9_sense 25 = .ok (.iload_n 3, 1) := by decide +kernel
theorem dX9_sense_26 : decode cX9_sense 26 = .ok (.invokevirtual 73, 3) := by decide +kernel
theorem dX9_sense_29 : decode cX9_sense 29 = .ok (.goto 4, 3) := by decide +kernel
theorem dX9_sense_32 : decode cX9_sense 32 = .ok (.iconst 0, 1) := by decide +kernel
theorem dX9_sense_33 : decode cX9_sense 33 = .ok (.istore 5, 2) := by decide +kernel
theorem dX9_sense_35 : decode cX9_sense 35 = .ok (.aload_n 0, 1) := by decide +kernel
theorem dX9_sense_36 : decode cX9_sense 36 = .ok (.getfield 21, 3) := by decide +kernel
theorem dX9_sense_39 : decode cX9_sense 39 = .ok (.iload 4, 2) := by decide +kernel
theorem dX9_sense_41 : decode cX9_sense 41 = .ok (.aload_n 0, 1) := by decide +kernel
theorem dX9_sense_42 : decode cX9_sense 42 = .ok (.getfield 9, 3) := by decide +kernel
theorem dX9_sense_45 : decode cX9_sense 45 = .ok (.iload 4, 2) := by decide +kernel
theorem dX9_sense_47 : decode cX9_sense 47 = .ok (.iaload, 1) := by decide +kernel
theorem dX9_sense_48 : decode cX9_sense 48 = .ok (.aload_n 0, 1) := by decide +kernel
theorem dX9_sense_49 : decode cX9_sense 49 = .ok (.getfield 18, 3) := by decide +kernel
theorem dX9_sense_52 : decode cX9_sense 52 = .ok (.iload 4, 2) := by decide +kernel
theorem dX9_sense_54 : decode cX9_sense 54 = .ok (.iaload, 1) := by decide +kernel
theorem dX9_sense_55 : decode cX9_sense 55 = .ok (.iadd, 1) := by decide +kernel
theorem dX9_sense_56 : decode cX9_sense 56 = .ok (.iload 5, 2) := by decide +kernel
theorem dX9_sense_58 : decode cX9_sense 58 = .ok (.iadd, 1) := by decide +kernel
theorem dX9_sense_59 : decode cX9_sense 59 = .ok (.iastore, 1) := by decide +kernel
theorem dX9_sense_60 : decode cX9_sense 60 = .ok (.aload_n 0, 1) := by decide +kernel
theorem dX9_sense_61 : decode cX9_sense 61 = .ok (.getfield 24, 3) := by decide +kernel
theorem dX9_sense_64 : decode cX9_sense 64 = .ok (.iload 4, 2) := by decide +kernel
theorem dX9_sense_66 : decode cX9_sense 66 = .ok (.aload_n 0, 1) := by decide +kernel
theorem dX9_sense_67 : decode cX9_sense 67 = .ok (.getfield 21, 3) := by decide +kernel
theorem dX9_sense_70 : decode cX9_sense 70 = .ok (.iload 4, 2) := by decide +kernel
theorem dX9_sense_72 : decode cX9_sense 72 = .ok (.iaload, 1) := by decide +kernel
theorem dX9_sense_73 : decode cX9_sense 73 = .ok (.aload_n 0, 1) := by decide +kernel
theorem dX9_sense_74 : decode cX9_sense 74 = .ok (.getfield 15, 3) := by decide +kernel
theorem dX9_sense_77 : decode cX9_sense 77 = .ok (.iload 4, 2) := by decide +kernel
theorem dX9_sense_79 : decode cX9_sense 79 = .ok (.iaload, 1) := by decide +kernel
theorem dX9_sense_80 : decode cX9_sense 80 = .ok (.isub, 1) := by decide +kernel
theorem dX9_sense_81 : decode cX9_sense 81 = .ok (.iastore, 1) := by decide +kernel
theorem dX9_sense_82 : decode cX9_sense 82 = .ok (.aload_n 0, 1) := by decide +kernel
theorem dX9_sense_83 : decode cX9_sense 83 = .ok (.getfield 27, 3) := by decide +kernel
theorem dX9_sense_86 : decode cX9_sense 86 = .ok (.iload 4, 2) := by decide +kernel
theorem dX9_sense_88 : decode cX9_sense 88 = .ok (.aload_n 0, 1) := by decide +kernel
theorem dX9_sense_89 : decode cX9_sense 89 = .ok (.getfield 24, 3) := by decide +kernel
theorem dX9_sense_92 : decode cX9_sense 92 = .ok (.iload 4, 2) := by decide +kernel
theorem dX9_sense_94 : decode cX9_sense 94 = .ok (.iaload, 1) := by decide +kernel
theorem dX9_sense_95 : decode cX9_sense 95 = .ok (.iload_n 2, 1) := by decide +kernel
theorem dX9_sense_96 : decode cX9_sense 96 = .ok (.if_icmp .lt 7, 3) := by decide +kernel
theorem dX9_sense_99 : decode cX9_sense 99 = .ok (.iconst 1, 1) := by decide +kernel
theorem dX9_sense_100 : decode cX9_sense 100 = .ok (.goto 4, 3) := by decide +kernel
theorem dX9_sense_103 : decode cX9_sense 103 = .ok (.iconst 0, 1) := by decide +kernel
theorem dX9_sense_104 : decode cX9_sense 104 = .ok (.bastore, 1) := by decide +kernel
theorem dX9_sense_105 : decode cX9_sense 105 = .ok (.iinc 4 1, 3) := by decide +kernel
theorem dX9_sense_108 : decode cX9_sense 108 = .ok (.goto (-100), 3) := by decide +kernel
theorem dX9_sense_111 : decode cX9_sense 111 = .ok (.return_, 1) := by decide +kernel
theorem dX9_quietSpread_0 : decode cX9_quietSpread 0 = .ok (.iconst 0, 1) := by decide +kernel
theorem dX9_quietSpread_1 : decode cX9_quietSpread 1 = .ok (.istore_n 1, 1) := by decide +kernel
theorem dX9_quietSpread_2 : decode cX9_quietSpread 2 = .ok (.iconst 0, 1) := by decide +kernel
theorem dX9_quietSpread_3 : decode cX9_quietSpread 3 = .ok (.istore_n 2, 1) := by decide +kernel
theorem dX9_quietSpread_4 : decode cX9_quietSpread 4 = .ok (.iconst 0, 1) := by decide +kernel
theorem dX9_quietSpread_5 : decode cX9_quietSpread 5 = .ok (.istore_n 3, 1) := by decide +kernel
theorem dX9_quietSpread_6 : decode cX9_quietSpread 6 = .ok (.iconst 0, 1) := by decide +kernel
theorem dX9_quietSpread_7 : decode cX9_quietSpread 7 = .ok (.istore 4, 2) := by decide +kernel
theorem dX9_quietSpread_9 : decode cX9_quietSpread 9 = .ok (.iload 4, 2) := by decide +kernel
theorem dX9_quietSpread_11 : decode cX9_quietSpread 11 = .ok (.aload_n 0, 1) := by decide +kernel
theorem dX9_quietSpread_12 : decode cX9_quietSpread 12 = .ok (.getfield 31, 3) := by decide +kernel
theorem dX9_quietSpread_15 : decode cX9_quietSpread 15 = .ok (.getfield 41, 3) := by decide +kernel
theorem dX9_quietSpread_18 : decode cX9_quietSpread 18 = .ok (.if_icmp .ge 79, 3) := by decide +kernel
theorem dX9_quietSpread_21 : decode cX9_quietSpread 21 = .ok (.aload_n 0, 1) := by decide +kernel
theorem dX9_quietSpread_22 : decode cX9_quietSpread 22 = .ok (.getfield 31, 3) := by decide +kernel
theorem dX9_quietSpread_25 : decode cX9_quietSpread 25 = .ok (.iload 4, 2) := by decide +kernel
theorem dX9_quietSpread_27 : decode cX9_quietSpread 27 = .ok (.aload_n 0, 1) := by decide +kernel
theorem dX9_quietSpread_28 : decode cX9_quietSpread 28 = .ok (.getfield 27, 3) := by decide +kernel
theorem dX9_quietSpread_31 : decode cX9_quietSpread 31 = .ok (.invokevirtual 77, 3) := by decide +kernel
theorem dX9_quietSpread_34 : decode cX9_quietSpread 34 = .ok (.ifCond .ne 57, 3) := by decide +kernel
theorem dX9_quietSpread_37 : decode cX9_quietSpread 37 = .ok (.iload_n 1, 1) := by decide +kernel
theorem dX9_quietSpread_38 : decode cX9_quietSpread 38 = .ok (.ifCond .eq 17, 3) := by decide +kernel
theorem dX9_quietSpread_41 : decode cX9_quietSpread 41 = .ok (.iload_n 2, 1) := by decide +kernel
theorem dX9_quietSpread_42 : decode cX9_quietSpread 42 = .ok (.aload_n 0, 1) := by decide +kernel
theorem dX9_quietSpread_43 : decode cX9_quietSpread 43 = .ok (.getfield 24, 3) := by decide +kernel
theorem dX9_quietSpread_46 : decode cX9_quietSpread 46 = .ok (.iload 4, 2) := by decide +kernel
theorem dX9_quietSpread_48 : decode cX9_quietSpread 48 = .ok (.iaload, 1) := by decide +kernel
theorem dX9_quietSpread_49 : decode cX9_quietSpread 49 = .ok (.invokestatic 59, 3) := by decide +kernel
theorem dX9_quietSpread_52 : decode cX9_quietSpread 52 = .ok (.goto 10, 3) := by decide +kernel
theorem dX9_quietSpread_55 : decode cX9_quietSpread 55 = .ok (.aload_n 0, 1) := by decide +kernel
theorem dX9_quietSpread_56 : decode cX9_quietSpread 56 = .ok (.getfield 24, 3) := by decide +kernel
theorem dX9_quietSpread_59 : decode cX9_quietSpread 59 = .ok (.iload 4, 2) := by decide +kernel
theorem dX9_quietSpread_61 : decode cX9_quietSpread 61 = .ok (.iaload, 1) := by decide +kernel
theorem dX9_quietSpread_62 : decode cX9_quietSpread 62 = .ok (.istore_n 2, 1) := by decide +kernel
theorem dX9_quietSpread_63 : decode cX9_quietSpread 63 = .ok (.iload_n 1, 1) := by decide +kernel
theorem dX9_quietSpread_64 : decode cX9_quietSpread 64 = .ok (.ifCond .eq 17, 3) := by decide +kernel
theorem dX9_quietSpread_67 : decode cX9_quietSpread 67 = .ok (.iload_n 3, 1) := by decide +kernel
theorem dX9_quietSpread_68 : decode cX9_quietSpread 68 = .ok (.aload_n 0, 1) := by decide +kernel
theorem dX9_quietSpread_69 : decode cX9_quietSpread 69 = .ok (.getfield 24, 3) := by decide +kernel
theorem dX9_quietSpread_72 : decode cX9_quietSpread 72 = .ok (.iload 4, 2) := by decide +kernel
theorem dX9_quietSpread_74 : decode cX9_quietSpread 74 = .ok (.iaload, 1) := by decide +kernel
theorem dX9_quietSpread_75 : decode cX9_quietSpread 75 = .ok (.invokestatic 64, 3) := by decide +kernel
theorem dX9_quietSpread_78 : decode cX9_quietSpread 78 = .ok (.goto 10, 3) := by decide +kernel
theorem dX9_quietSpread_81 : decode cX9_quietSpread 81 = .ok (.aload_n 0, 1) := by decide +kernel
theorem dX9_quietSpread_82 : decode cX9_quietSpread 82 = .ok (.getfield 24, 3) := by decide +kernel
theorem dX9_quietSpread_85 : decode cX9_quietSpread 85 = .ok (.iload 4, 2) := by decide +kernel
theorem dX9_quietSpread_87 : decode cX9_quietSpread 87 = .ok (.iaload, 1) := by decide +kernel
theorem dX9_quietSpread_88 : decode cX9_quietSpread 88 = .ok (.istore_n 3, 1) := by decide +kernel
theorem dX9_quietSpread_89 : decode cX9_quietSpread 89 = .ok (.iconst 1, 1) := by decide +kernel
theorem dX9_quietSpread_90 : decode cX9_quietSpread 90 = .ok (.istore_n 1, 1) := by decide +kernel
theorem dX9_quietSpread_91 : decode cX9_quietSpread 91 = .ok (.iinc 4 1, 3) := by decide +kernel
theorem dX9_quietSpread_94 : decode cX9_quietSpread 94 = .ok (.goto (-85), 3) := by decide +kernel
theorem dX9_quietSpread_97 : decode cX9_quietSpread 97 = .ok (.iload_n 3, 1) := by decide +kernel
theorem dX9_quietSpread_98 : decode cX9_quietSpread 98 = .ok (.iload_n 2, 1) := by decide +kernel
theorem dX9_quietSpread_99 : decode cX9_quietSpread 99 = .ok (.isub, 1) := by decide +kernel
theorem dX9_quietSpread_100 : decode cX9_quietSpread 100 = .ok (.ireturn, 1) := by decide +kernel
theorem dX9_driftBaselines_0 : decode cX9_driftBaselines 0 = .ok (.iconst 0, 1) := by decide +kernel
theorem dX9_driftBaselines_1 : decode cX9_driftBaselines 1 = .ok (.istore_n 3, 1) := by decide +kernel
theorem dX9_driftBaselines_2 : decode cX9_driftBaselines 2 = .ok (.iload_n 3, 1) := by decide +kernel
theorem dX9_driftBaselines_3 : decode cX9_driftBaselines 3 = .ok (.aload_n 0, 1) := by decide +kernel
theorem dX9_driftBaselines_4 : decode cX9_driftBaselines 4 = .ok (.getfield 31, 3) := by decide +kernel
theorem dX9_driftBaselines_7 : decode cX9_driftBaselines 7 = .ok (.getfield 41, 3) := by decide +kernel
theorem dX9_driftBaselines_10 : decode cX9_driftBaselines 10 = .ok (.if_icmp .ge 56, 3) := by decide +kernel
theorem dX9_driftBaselines_13 : decode cX9_driftBaselines 13 = .ok (.aload_n 0, 1) := by decide +kernel
theorem dX9_driftBaselines_14 : decode cX9_driftBaselines 14 = .ok (.getfield 31, 3) := by decide +kernel
theorem dX9_driftBaselines_17 : decode cX9_driftBaselines 17 = .ok (.iload_n 3, 1) := by decide +kernel
theorem dX9_driftBaselines_18 : decode cX9_driftBaselines 18 = .ok (.aload_n 1, 1) := by decide +kernel
theorem dX9_driftBaselines_19 : decode cX9_driftBaselines 19 = .ok (.invokevirtual 77, 3) := by decide +kernel
theorem dX9_driftBaselines_22 : decode cX9_driftBaselines 22 = .ok (.ifCond .ne 38, 3) := by decide +kernel
theorem dX9_driftBaselines_25 : decode cX9_driftBaselines 25 = .ok (.aload_n 0, 1) := by decide +kernel
theorem dX9_driftBaselines_26 : decode cX9_driftBaselines 26 = .ok (.getfield 21, 3) := by decide +kernel
theorem dX9_driftBaselines_29 : decode cX9_driftBaselines 29 = .ok (.iload_n 3, 1) := by decide +kernel
theorem dX9_driftBaselines_30 : decode cX9_driftBaselines 30 = .ok (.iaload, 1) := by decide +kernel
theorem dX9_driftBaselines_31 : decode cX9_driftBaselines 31 = .ok (.aload_n 0, 1) := by decide +kernel
theorem dX9_driftBaselines_32 : decode cX9_driftBaselines 32 = .ok (.getfield 15, 3) := by decide +kernel
theorem dX9_driftBaselines_35 : decode cX9_driftBaselines 35 = .ok (.iload_n 3, 1) := by decide +kernel
theorem dX9_driftBaselines_36 : decode cX9_driftBaselines 36 = .ok (.iaload, 1) := by decide +kernel
theorem dX9_driftBaselines_37 : decode cX9_driftBaselines 37 = .ok (.isub, 1) := by decide +kernel
theorem dX9_driftBaselines_38 : decode cX9_driftBaselines 38 = .ok (.istore 4, 2) := by decide +kernel
theorem dX9_driftBaselines_40 : decode cX9_driftBaselines 40 = .ok (.aload_n 0, 1) := by decide +kernel
theorem dX9_driftBaselines_41 : decode cX9_driftBaselines 41 = .ok (.getfield 15, 3) := by decide +kernel
theorem dX9_driftBaselines_44 : decode cX9_driftBaselines 44 = .ok (.iload_n 3, 1) := by decide +kernel
theorem dX9_driftBaselines_45 : decode cX9_driftBaselines 45 = .ok (.dup2, 1) := by decide +kernel
theorem dX9_driftBaselines_46 : decode cX9_driftBaselines 46 = .ok (.iaload, 1) := by decide +kernel
theorem dX9_driftBaselines_47 : decode cX9_driftBaselines 47 = .ok (.iload_n 2, 1) := by decide +kernel
theorem dX9_driftBaselines_48 : decode cX9_driftBaselines 48 = .ok (.ineg, 1) := by decide +kernel
theorem dX9_driftBaselines_49 : decode cX9_driftBaselines 49 = .ok (.iload_n 2, 1) := by decide +kernel
theorem dX9_driftBaselines_50 : decode cX9_driftBaselines 50 = .ok (.iload 4, 2) := by decide +kernel
theorem dX9_driftBaselines_52 : decode cX9_driftBaselines 52 = .ok (.invokestatic 59, 3) := by decide +kernel
theorem dX9_driftBaselines_55 : decode cX9_driftBaselines 55 = .ok (.invokestatic 64, 3) := by decide +kernel
theorem dX9_driftBaselines_58 : decode cX9_driftBaselines 58 = .ok (.iadd, 1) := by decide +kernel
theorem dX9_driftBaselines_59 : decode cX9_driftBaselines 59 = .ok (.iastore, 1) := by decide +kernel
theorem dX9_driftBaselines_60 : decode cX9_driftBaselines 60 = .ok (.iinc 3 1, 3) := by decide +kernel
theorem dX9_driftBaselines_63 : decode cX9_driftBaselines 63 = .ok (.goto (-61), 3) := by decide +kernel
theorem dX9_driftBaselines_66 : decode cX9_driftBaselines 66 = .ok (.return_, 1) := by decide +kernel
theorem dX10_init_0 : decode cX10_init 0 = .ok (.aload_n 0, 1) := by decide +kernel
theorem dX10_init_1 : decode cX10_init 1 = .ok (.invokespecial 3, 3) := by decide +kernel
theorem dX10_init_4 : decode cX10_init 4 = .ok (.aload_n 0, 1) := by decide +kernel
theorem dX10_init_5 : decode cX10_init 5 = .ok (.bipush 6, 2) := by decide +kernel
theorem dX10_init_7 : decode cX10_init 7 = .ok (.bipush 9, 2) := by decide +kernel
theorem dX10_init_9 : decode cX10_init 9 = .ok (.multianewarray 9 2, 4) := by decide +kernel
theorem dX10_init_13 : decode cX10_init 13 = .ok (.putfield 11, 3) := by decide +kernel
theorem dX10_init_16 : decode cX10_init 16 = .ok (.aload_n 0, 1) := by decide +kernel
theorem dX10_init_17 : decode cX10_init 17 = .ok (.aload_n 1, 1) := by decide +kernel
theorem dX10_init_18 : decode cX10_init 18 = .ok (.putfield 16, 3) := by decide +kernel
theorem dX10_init_21 : decode cX10_init 21 = .ok (.aload_n 0, 1) := by decide +kernel
theorem dX10_init_22 : decode cX10_init 22 = .ok (.aload_n 2, 1) := by decide +kernel
theorem dX10_init_23 : decode cX10_init 23 = .ok (.putfield 20, 3) := by decide +kernel
theorem dX10_init_26 : decode cX10_init 26 = .ok (.return_, 1) := by decide +kernel
theorem dX10_follow_0 : decode cX10_follow 0 = .ok (.iconst 0, 1) := by decide +kernel
theorem dX10_follow_1 : decode cX10_follow 1 = .ok (.istore 4, 2) := by decide +kernel
theorem dX10_follow_3 : decode cX10_follow 3 = .ok (.iconst 0, 1) := by decide +kernel
theorem dX10_follow_4 : decode cX10_follow 4 = .ok (.istore 5, 2) := by decide +kernel
theorem dX10_follow_6 : decode cX10_follow 6 = .ok (.iload 5, 2) := by decide +kernel
theorem dX10_follow_8 : decode cX10_follow 8 = .ok (.aload_n 0, 1) := by decide +kernel
theorem dX10_follow_9 : decode cX10_follow 9 = .ok (.getfield 24, 3) := by decide +kernel
theorem dX10_follow_12 : decode cX10_follow 12 = .ok (.if_icmp .ge 90, 3) := by decide +kernel
theorem dX10_follow_15 : decode cX10_follow 15 = .ok (.aload_n 0, 1) := by decide +kernel
theorem dX10_follow_16 : decode cX10_follow 16 = .ok (.getfield 11, 3) := by decide +kernel
theorem dX10_follow_19 : decode cX10_follow 19 = .ok (.iload 5, 2) := by decide +kernel
theorem dX10_follow_21 : decode cX10_follow 21 = .ok (.aaload, 1) := by decide +kernel
theorem dX10_follow_22 : decode cX10_follow 22 = .ok (.astore 6, 2) := by decide +kernel
theorem dX10_follow_24 : decode cX10_follow 24 = .ok (.aload_n 2, 1) := by decide +kernel
theorem dX10_follow_25 : decode cX10_follow 25 = .ok (.iload 5, 2) := by decide +kernel
theorem dX10_follow_27 : decode cX10_follow 27 = .ok (.iaload, 1) := by decide +kernel
theorem dX10_follow_28 : decode cX10_follow 28 = .ok (.istore 7, 2) := by decide +kernel
theorem dX10_follow_30 : decode cX10_follow 30 = .ok (.iconst 1, 1) := by decide +kernel
theorem dX10_follow_31 : decode cX10_follow 31 = .ok (.istore 8, 2) := by decide +kernel
theorem dX10_follow_33 : decode cX10_follow 33 = .ok (.iload 7, 2) := by decide +kernel
theorem dX10_follow_35 : decode cX10_follow 35 = .ok (.iconst (-1), 1) := by decide +kernel
theorem dX10_follow_36 : decode cX10_follow 36 = .ok (.if_icmp .ne 15, 3) := by decide +kernel
theorem dX10_follow_39 : decode cX10_follow 39 = .ok (.aload_n 0, 1) := by decide +kernel
theorem dX10_follow_40 : decode cX10_follow 40 = .ok (.aload 6, 2) := by decide +kernel
theorem dX10_follow_42 : decode cX10_follow 42 = .ok (.iload_n 3, 1) := by decide +kernel
theorem dX10_follow_43 : decode cX10_follow 43 = .ok (.invokevirtual 28, 3) := by decide +kernel
theorem dX10_follow_46 : decode cX10_follow 46 = .ok (.istore 8, 2) := by decide +kernel
theorem dX10_follow_48 : decode cX10_follow 48 = .ok (.goto 17, 3) := by decide +kernel
theorem dX10_follow_51 : decode cX10_follow 51 = .ok (.aload_n 0, 1) := by decide +kernel
theorem dX10_follow_52 : decode cX10_follow 52 = .ok (.aload 6, 2) := by decide +kernel
theorem dX10_follow_54 : decode cX10_follow 54 = .ok (.aload_n 1, 1) := by decide +kernel
theorem dX10_follow_55 : decode cX10_follow 55 = .ok (.getfield 32, 3) := by decide +kernel
theorem dX10_follow_58 : decode cX10_follow 58 = .ok (.iload 7, 2) := by decide +kernel
theorem dX10_follow_60 : decode cX10_follow 60 = .ok (.aaload, 1) := by decide +kernel
theorem dX10_follow_61 : decode cX10_follow 61 = .ok (.iload_n 3, 1) := by decide +kernel
theorem dX10_follow_62 : decode cX10_follow 62 = .ok (.invokevirtual 35, 3) := by decide +kernel
theorem dX10_follow_65 : decode cX10_follow 65 = .ok (.iload 8, 2) := by decide +kernel
theorem dX10_follow_67 : decode cX10_follow 67 = .ok (.ifCond .eq 29, 3) := by decide +kernel
theorem dX10_follow_70 : decode cX10_follow 70 = .ok (.aload_n 0, 1) := by decide +kernel
theorem dX10_follow_71 : decode cX10_follow 71 = .ok (.getfield 11, 3) := by decide +kernel
theorem dX10_follow_74 : decode cX10_follow 74 = .ok (.iload 5, 2) := by decide +kernel
theorem dX10_follow_76 : decode cX10_follow 76 = .ok (.aload_n 0, 1) := by decide +kernel
theorem dX10_follow_77 : decode cX10_follow 77 = .ok (.getfield 11, 3) := by decide +kernel
theorem dX10_follow_80 : decode cX10_follow 80 = .ok (.iload 4, 2) := by decide +kernel
theorem dX10_follow_82 : decode cX10_follow 82 = .ok (.aaload, 1) := by decide +kernel
theorem dX10_follow_83 : decode cX10_follow 83 = .ok (.aastore, 1) := by decide +kernel
theorem dX10_follow_84 : decode cX10_follow 84 = .ok (.aload_n 0, 1) := by decide +kernel
theorem dX10_follow_85 : decode cX10_follow 85 = .ok (.getfield 11, 3) := by decide +kernel
theorem dX10_follow_88 : decode cX10_follow 88 = .ok (.iload 4, 2) := by decide +kernel
theorem dX10_follow_90 : decode cX10_follow 90 = .ok (.aload 6, 2) := by decide +kernel
theorem dX10_follow_92 : decode cX10_follow 92 = .ok (.aastore, 1) := by decide +kernel
theorem dX10_follow_93 : decode cX10_follow 93 = .ok (.iinc 4 1, 3) := by decide +kernel
theorem dX10_follow_96 : decode cX10_follow 96 = .ok (.iinc 5 1, 3) := by decide +kernel
theorem dX10_follow_99 : decode cX10_follow 99 = .ok (.goto (-93), 3) := by decide +kernel
theorem dX10_follow_102 : decode cX10_follow 102 = .ok (.aload_n 0, 1) := by decide +kernel
theorem dX10_follow_103 : decode cX10_follow 103 = .ok (.iload 4, 2) := by decide +kernel
theorem dX10_follow_105 : decode cX10_follow 105 = .ok (.putfield 24, 3) := by decide +kernel
theorem dX10_follow_108 : decode cX10_follow 108 = .ok (.return_, 1) := by decide +kernel
theorem dX10_move_0 : decode cX10_move 0 = .ok (.aload_n 1, 1) := by decide +kernel
theorem dX10_move_1 : decode cX10_move 1 = .ok (.bipush 7, 2) := by decide +kernel
theorem dX10_move_3 : decode cX10_move 3 = .ok (.dup2, 1) := by decide +kernel
theorem dX10_move_4 : decode cX10_move 4 = .ok (.iaload, 1) := by decide +kernel
theorem dX10_move_5 : decode cX10_move 5 = .ok (.aload_n 2, 1) := by decide +kernel
theorem dX10_move_6 : decode cX10_move 6 = .ok (.iconst 3, 1) := by decide +kernel
theorem dX10_move_7 : decode cX10_move 7 = .ok (.iaload, 1) := by decide +kernel
theorem dX10_move_8 : decode cX10_move 8 = .ok (.aload_n 1, 1) := by decide +kernel
theorem dX10_move_9 : decode cX10_move 9 = .ok (.iconst 1, 1) := by decide +kernel
theorem dX10_move_10 : decode cX10_move 10 = .ok (.iaload, 1) := by decide +kernel
theorem dX10_move_11 : decode cX10_move 11 = .ok (.isub, 1) := by decide +kernel
theorem dX10_move_12 : decode cX10_move 12 = .ok (.invokestatic 39, 3) := by decide +kernel
theorem dX10_move_15 : decode cX10_move 15 = .ok (.aload_n 2, 1) := by decide +kernel
theorem dX10_move_16 : decode cX10_move 16 = .ok (.iconst 4, 1) := by decide +kernel
theorem dX10_move_17 : decode cX10_move 17 = .ok (.iaload, 1) := by decide +kernel
theorem dX10_move_18 : decode cX10_move 18 = .ok (.aload_n 1, 1) := by decide +kernel
theorem dX10_move_19 : decode cX10_move 19 = .ok (.iconst 2, 1) := by decide +kernel
theorem dX10_move_20 : decode cX10_move 20 = .ok (.iaload, 1) := by decide +kernel
theorem dX10_move_21 : decode cX10_move 21 = .ok (.isub, 1) := by decide +kernel
theorem dX10_move_22 : decode cX10_move 22 = .ok (.invokestatic 39, 3) := by decide +kernel
theorem dX10_move_25 : decode cX10_move 25 = .ok (.iadd, 1) := by decide +kernel
theorem dX10_move_26 : decode cX10_move 26 = .ok (.iadd, 1) := by decide +kernel
theorem dX10_move_27 : decode cX10_move 27 = .ok (.iastore, 1) := by decide +kernel
theorem dX10_move_28 : decode cX10_move 28 = .ok (.aload_n 0, 1) := by decide +kernel
theorem dX10_move_29 : decode cX10_move 29 = .ok (.aload_n 1, 1) := by decide +kernel
theorem dX10_move_30 : decode cX10_move 30 = .ok (.aload_n 2, 1) := by decide +kernel
theorem dX10_move_31 : decode cX10_move 31 = .ok (.invokevirtual 45, 3) := by decide +kernel
theorem dX10_move_34 : decode cX10_move 34 = .ok (.aload_n 1, 1) := by decide +kernel
theorem dX10_move_35 : decode cX10_move 35 = .ok (.iconst 5, 1) := by decide +kernel
theorem dX10_move_36 : decode cX10_move 36 = .ok (.dup2, 1) := by decide +kernel
theorem dX10_move_37 : decode cX10_move 37 = .ok (.iaload, 1) := by decide +kernel
theorem dX10_move_38 : decode cX10_move 38 = .ok (.iconst 1, 1) := by decide +kernel
theorem dX10_move_39 : decode cX10_move 39 = .ok (.iadd, 1) := by decide +kernel
theorem dX10_move_40 : decode cX10_move 40 = .ok (.iastore, 1) := by decide +kernel
theorem dX10_move_41 : decode cX10_move 41 = .ok (.aload_n 1, 1) := by decide +kernel
theorem dX10_move_42 : decode cX10_move 42 = .ok (.bipush 6, 2) := by decide +kernel
theorem dX10_move_44 : decode cX10_move 44 = .ok (.iconst 0, 1) := by decide +kernel
theorem dX10_move_45 : decode cX10_move 45 = .ok (.iastore, 1) := by decide +kernel
theorem dX10_move_46 : decode cX10_move 46 = .ok (.aload_n 1, 1) := by decide +kernel
theorem dX10_move_47 : decode cX10_move 47 = .ok (.bipush 8, 2) := by decide +kernel
theorem dX10_move_49 : decode cX10_move 49 = .ok (.iaload, 1) := by decide +kernel
theorem dX10_move_50 : decode cX10_move 50 = .ok (.ifCond .ne 35, 3) := by decide +kernel
theorem dX10_move_53 : decode cX10_move 53 = .ok (.aload_n 0, 1) := by decide +kernel
theorem dX10_move_54 : decode cX10_move 54 = .ok (.aload_n 2, 1) := by decide +kernel
theorem dX10_move_55 : decode cX10_move 55 = .ok (.invokevirtual 49, 3) := by decide +kernel
theorem dX10_move_58 : decode cX10_move 58 = .ok (.ifCond .eq 27, 3) := by decide +kernel
theorem dX10_move_61 : decode cX10_move 61 = .ok (.aload_n 1, 1) := by decide +kernel
theorem dX10_move_62 : decode cX10_move 62 = .ok (.bipush 8, 2) := by decide +kernel
theorem dX10_move_64 : decode cX10_move 64 = .ok (.iconst 1, 1) := by decide +kernel
theorem dX10_move_65 : decode cX10_move 65 = .ok (.iastore, 1) := by decide +kernel
theorem dX10_move_66 : decode cX10_move 66 = .ok (.aload_n 1, 1) := by decide +kernel
theorem dX10_move_67 : decode cX10_move 67 = .ok (.iconst 5, 1) := by decide +kernel
theorem dX10_move_68 : decode cX10_move 68 = .ok (.iaload, 1) := by decide +kernel
theorem dX10_move_69 : decode cX10_move 69 = .ok (.iconst 2, 1) := by decide +kernel
theorem dX10_move_70 : decode cX10_move 70 = .ok (.if_icmp .le 15, 3) := by decide +kernel
theorem dX10_move_73 : decode cX10_move 73 = .ok (.aload_n 0, 1) := by decide +kernel
theorem dX10_move_74 : decode cX10_move 74 = .ok (.getfield 20, 3) := by decide +kernel
theorem dX10_move_77 : decode cX10_move 77 = .ok (.iconst 3, 1) := by decide +kernel
theorem dX10_move_78 : decode cX10_move 78 = .ok (.aload_n 1, 1) := by decide +kernel
theorem dX10_move_79 : decode cX10_move 79 = .ok (.iconst 0, 1) := by decide +kernel
theorem dX10_move_80 : decode cX10_move 80 = .ok (.iaload, 1) := by decide +kernel
theorem dX10_move_81 : decode cX10_move 81 = .ok (.iload_n 3, 1) := by decide +kernel
theorem dX10_move_82 : decode cX10_move 82 = .ok (.invokevirtual 53, 3) := by decide +kernel
theorem dX10_move_85 : decode cX10_move 85 = .ok (.aload_n 1, 1) := by decide +kernel
theorem dX10_move_86 : decode cX10_move 86 = .ok (.iconst 5, 1) := by decide +kernel
theorem dX10_move_87 : decode cX10_move 87 = .ok (.iaload, 1) := by decide +kernel
theorem dX10_move_88 : decode cX10_move 88 = .ok (.iconst 2, 1) := by decide +kernel
theorem dX10_move_89 : decode cX10_move 89 = .ok (.if_icmp .ne 22, 3) := by decide +kernel
theorem dX10_move_92 : decode cX10_move 92 = .ok (.aload_n 1, 1) := by decide +kernel
theorem dX10_move_93 : decode cX10_move 93 = .ok (.bipush 8, 2) := by decide +kernel
theorem dX10_move_95 : decode cX10_move 95 = .ok (.iaload, 1) := by decide +kernel
theorem dX10_move_96 : decode cX10_move 96 = .ok (.ifCond .ne 15, 3) := by decide +kernel
theorem dX10_move_99 : decode cX10_move 99 = .ok (.aload_n 0, 1) := by decide +kernel
theorem dX10_move_100 : decode cX10_move 100 = .ok (.getfield 20, 3) := by decide +kernel
theorem dX10_move_103 : decode cX10_move 103 = .ok (.iconst 1, 1) := by decide +kernel
theorem dX10_move_104 : decode cX10_move 104 = .ok (.aload_n 1, 1) := by decide +kernel
theorem dX10_move_105 : decode cX10_move 105 = .ok (.iconst 0, 1) := by decide +kernel
theorem dX10_move_106 : decode cX10_move 106 = .ok (.iaload, 1) := by decide +kernel
theorem dX10_move_107 : decode cX10_move 107 = .ok (.iload_n 3, 1) := by decide +kernel
theorem dX10_move_108 : decode cX10_move 108 = .ok (.invokevirtual 53, 3) := by decide +kernel
theorem dX10_move_111 : decode cX10_move 111 = .ok (.return_, 1) := by decide +kernel
theorem dX10_miss_0 : decode cX10_miss 0 = .ok (.aload_n 1, 1) := by decide +kernel
theorem dX10_miss_1 : decode cX10_miss 1 = .ok (.bipush 6, 2) := by decide +kernel
theorem dX10_miss_3 : decode cX10_miss 3 = .ok (.dup2, 1) := by decide +kernel
theorem dX10_miss_4 : decode cX10_miss 4 = .ok (.iaload, 1) := by decide +kernel
theorem dX10_miss_5 : decode cX10_miss 5 = .ok (.iconst 1, 1) := by decide +kernel
theorem dX10_miss_6 : decode cX10_miss 6 = .ok (.iadd, 1) := by decide +kernel
theorem dX10_miss_7 : decode cX10_miss 7 = .ok (.iastore, 1) := by decide +kernel
theorem dX10_miss_8 : decode cX10_miss 8 = .ok (.aload_n 1, 1) := by decide +kernel
theorem dX10_miss_9 : decode cX10_miss 9 = .ok (.bipush 6, 2) := by decide +kernel
theorem dX10_miss_11 : decode cX10_miss 11 = .ok (.iaload, 1) := by decide +kernel
theorem dX10_miss_12 : decode cX10_miss 12 = .ok (.aload_n 0, 1) := by decide +kernel
theorem dX10_miss_13 : decode cX10_miss 13 = .ok (.getfield 16, 3) := by decide +kernel
theorem dX10_miss_16 : decode cX10_miss 16 = .ok (.iconst 5, 1) := by decide +kernel
theorem dX10_miss_17 : decode cX10_miss 17 = .ok (.iaload, 1) := by decide +kernel
theorem dX10_miss_18 : decode cX10_miss 18 = .ok (.if_icmp .gt 5, 3) := by decide +kernel
theorem dX10_miss_21 : decode cX10_miss 21 = .ok (.iconst 1, 1) := by decide +kernel
theorem dX10_miss_22 : decode cX10_miss 22 = .ok (.ireturn, 1) := by decide +kernel
theorem dX10_miss_23 : decode cX10_miss 23 = .ok (.aload_n 1, 1) := by decide +kernel
theorem dX10_miss_24 : decode cX10_miss 24 = .ok (.bipush 8, 2) := by decide +kernel
theorem dX10_miss_26 : decode cX10_miss 26 = .ok (.iaload, 1) := by decide +kernel
theorem dX10_miss_27 : decode cX10_miss 27 = .ok (.ifCond .ne 58, 3) := by decide +kernel
theorem dX10_miss_30 : decode cX10_miss 30 = .ok (.aload_n 1, 1) := by decide +kernel
theorem dX10_miss_31 : decode cX10_miss 31 = .ok (.iconst 5, 1) := by decide +kernel
theorem dX10_miss_32 : decode cX10_miss 32 = .ok (.iaload, 1) := by decide +kernel
theorem dX10_miss_33 : decode cX10_miss 33 = .ok (.iconst 2, 1) := by decide +kernel
theorem dX10_miss_34 : decode cX10_miss 34 = .ok (.if_icmp .lt 51, 3) := by decide +kernel
theorem dX10_miss_37 : decode cX10_miss 37 = .ok (.aload_n 1, 1) := by decide +kernel
theorem dX10_miss_38 : decode cX10_miss 38 = .ok (.iconst 5, 1) := by decide +kernel
theorem dX10_miss_39 : decode cX10_miss 39 = .ok (.iaload, 1) := by decide +kernel
theorem dX10_miss_40 : decode cX10_miss 40 = .ok (.aload_n 0, 1) := by decide +kernel
theorem dX10_miss_41 : decode cX10_miss 41 = .ok (.getfield 16, 3) := by decide +kernel
theorem dX10_miss_44 : decode cX10_miss 44 = .ok (.bipush 6, 2) := by decide +kernel
theorem dX10_miss_46 : decode cX10_miss 46 = .ok (.iaload, 1) := by decide +kernel
theorem dX10_miss_47 : decode cX10_miss 47 = .ok (.if_icmp .gt 16, 3) := by decide +kernel
theorem dX10_miss_50 : decode cX10_miss 50 = .ok (.aload_n 1, 1) := by decide +kernel
theorem dX10_miss_51 : decode cX10_miss 51 = .ok (.bipush 7, 2) := by decide +kernel
theorem dX10_miss_53 : decode cX10_miss 53 = .ok (.iaload, 1) := by decide +kernel
theorem dX10_miss_54 : decode cX10_miss 54 = .ok (.bipush 16, 2) := by decide +kernel
theorem dX10_miss_56 : decode cX10_miss 56 = .ok (.if_icmp .gt 7, 3) := by decide +kernel
theorem dX10_miss_59 : decode cX10_miss 59 = .ok (.iconst 1, 1) := by decide +kernel
theorem dX10_miss_60 : decode cX10_miss 60 = .ok (.goto 4, 3) := by decide +kernel
theorem dX10_miss_63 : decode cX10_miss 63 = .ok (.iconst 0, 1) := by decide +kernel
theorem dX10_miss_64 : decode cX10_miss 64 = .ok (.istore_n 3, 1) := by decide +kernel
theorem dX10_miss_65 : decode cX10_miss 65 = .ok (.aload_n 0, 1) := by decide +kernel
theorem dX10_miss_66 : decode cX10_miss 66 = .ok (.getfield 20, 3) := by decide +kernel
theorem dX10_miss_69 : decode cX10_miss 69 = .ok (.iload_n 3, 1) := by decide +kernel
theorem dX10_miss_70 : decode cX10_miss 70 = .ok (.ifCond .eq 7, 3) := by decide +kernel
theorem dX10_miss_73 : decode cX10_miss 73 = .ok (.iconst 4, 1) := by decide +kernel
theorem dX10_miss_74 : decode cX10_miss 74 = .ok (.goto 4, 3) := by decide +kernel
theorem dX10_miss_77 : decode cX10_miss 77 = .ok (.iconst 2, 1) := by decide +kernel
theorem dX10_miss_78 : decode cX10_miss 78 = .ok (.aload_n 1, 1) := by decide +kernel
theorem dX10_miss_79 : decode cX10_miss 79 = .ok (.iconst 0, 1) := by decide +kernel
theorem dX10_miss_80 : decode cX10_miss 80 = .ok (.iaload, 1) := by decide +kernel
theorem dX10_miss_81 : decode cX10_miss 81 = .ok (.iload_n 2, 1) := by decide +kernel
theorem dX10_miss_82 : decode cX10_miss 82 = .ok (.invokevirtual 53, 3) := by decide +kernel
theorem dX10_miss_85 : decode cX10_miss 85 = .ok (.iconst 0, 1) := by decide +kernel
theorem dX10_miss_86 : decode cX10_miss 86 = .ok (.ireturn, 1) := by decide +kernel
theorem dX10_beginNew_0 : decode cX10_beginNew 0 = .ok (.iconst 0, 1) := by decide +kernel
theorem dX10_beginNew_1 : decode cX10_beginNew 1 = .ok (.istore_n 2, 1) := by decide +kernel
theorem dX10_beginNew_2 : decode cX10_beginNew 2 = .ok (.iload_n 2, 1) := by decide +kernel
theorem dX10_beginNew_3 : decode cX10_beginNew 3 = .ok (.aload_n 1, 1) := by decide +kernel
theorem dX10_beginNew_4 : decode cX10_beginNew 4 = .ok (.getfield 59, 3) := by decide +kernel
theorem dX10_beginNew_7 : decode cX10_beginNew 7 = .ok (.if_icmp .ge 59, 3) := by decide +kernel
theorem dX10_beginNew_10 : decode cX10_beginNew 10 = .ok (.aload_n 1, 1) := by decide +kernel
theorem dX10_beginNew_11 : decode cX10_beginNew 11 = .ok (.getfield 32, 3) := by decide +kernel
theorem dX10_beginNew_14 : decode cX10_beginNew 14 = .ok (.iload_n 2, 1) := by decide +kernel
theorem dX10_beginNew_15 : decode cX10_beginNew 15 = .ok (.aaload, 1) := by decide +kernel
theorem dX10_beginNew_16 : decode cX10_beginNew 16 = .ok (.iconst 5, 1) := by decide +kernel
theorem dX10_beginNew_17 : decode cX10_beginNew 17 = .ok (.iaload, 1) := by decide +kernel
theorem dX10_beginNew_18 : decode cX10_beginNew 18 = .ok (.iconst (-1), 1) := by decide +kernel
theorem dX10_beginNew_19 : decode cX10_beginNew 19 = .ok (.if_icmp .ne 41, 3) := by decide +kernel
theorem dX10_beginNew_22 : decode cX10_beginNew 22 = .ok (.aload_n 0, 1) := by decide +kernel
theorem dX10_beginNew_23 : decode cX10_beginNew 23 = .ok (.getfield 24, 3) := by decide +kernel
theorem dX10_beginNew_26 : decode cX10_beginNew 26 = .ok (.bipush 6, 2) := by decide +kernel
theorem dX10_beginNew_28 : decode cX10_beginNew 28 = .ok (.if_icmp .ge 32, 3) := by decide +kernel
theorem dX10_beginNew_31 : decode cX10_beginNew 31 = .ok (.aload_n 0, 1) := by decide +kernel
theorem dX10_beginNew_32 : decode cX10_beginNew 32 = .ok (.aload_n 0, 1) := by decide +kernel
theorem dX10_beginNew_33 : decode cX10_beginNew 33 = .ok (.getfield 11, 3) := by decide +kernel
theorem dX10_beginNew_36 : decode cX10_beginNew 36 = .ok (.aload_n 0, 1) := by decide +kernel
theorem dX10_beginNew_37 : decode cX10_beginNew 37 = .ok (.getfield 24, 3) := by decide +kernel
theorem dX10_beginNew_40 : decode cX10_beginNew 40 = .ok (.aaload, 1) := by decide +kernel
theorem dX10_beginNew_41 : decode cX10_beginNew 41 = .ok (.aload_n 1, 1) := by decide +kernel
theorem dX10_beginNew_42 : decode cX10_beginNew 42 = .ok (.getfield 32, 3) := by decide +kernel
theorem dX10_beginNew_45 : decode cX10_beginNew 45 = .ok (.iload_n 2, 1) := by decide +kernel
theorem dX10_beginNew_46 : decode cX10_beginNew 46 = .ok (.aaload, 1) := by decide +kernel
theorem dX10_beginNew_47 : decode cX10_beginNew 47 = .ok (.invokevirtual 60, 3) := by decide +kernel
theorem dX10_beginNew_50 : decode cX10_beginNew 50 = .ok (.aload_n 0, 1) := by decide +kernel
theorem dX10_beginNew_51 : decode cX10_beginNew 51 = .ok (.dup, 1) := by decide +kernel
theorem dX10_beginNew_52 : decode cX10_beginNew 52 = .ok (.getfield 24, 3) := by decide +kernel
theorem dX10_beginNew_55 : decode cX10_beginNew 55 = .ok (.iconst 1, 1) := by decide +kernel
theorem dX10_beginNew_56 : decode cX10_beginNew 56 = .ok (.iadd, 1) := by decide +kernel
theorem dX10_beginNew_57 : decode cX10_beginNew 57 = .ok (.putfield 24, 3) := by decide +kernel
theorem dX10_beginNew_60 : decode cX10_beginNew 60 = .ok (.iinc 2 1, 3) := by decide +kernel
theorem dX10_beginNew_63 : decode cX10_beginNew 63 = .ok (.goto (-61), 3) := by decide +kernel
theorem dX10_beginNew_66 : decode cX10_beginNew 66 = .ok (.return_, 1) := by decide +kernel
theorem dX10_begin_0 : decode cX10_begin 0 = .ok (.aload_n 0, 1) := by decide +kernel
theorem dX10_begin_1 : decode cX10_begin 1 = .ok (.dup, 1) := by decide +kernel
theorem dX10_begin_2 : decode cX10_begin 2 = .ok (.getfield 63, 3) := by decide +kernel
theorem dX10_begin_5 : decode cX10_begin 5 = .ok (.iconst 1, 1) := by decide +kernel
theorem dX10_begin_6 : decode cX10_begin 6 = .ok (.iadd, 1) := by decide +kernel
theorem dX10_begin_7 : decode cX10_begin 7 = .ok (.putfield 63, 3) := by decide +kernel
theorem dX10_begin_10 : decode cX10_begin 10 = .ok (.aload_n 1, 1) := by decide +kernel
theorem dX10_begin_11 : decode cX10_begin 11 = .ok (.iconst 0, 1) := by decide +kernel
theorem dX10_begin_12 : decode cX10_begin 12 = .ok (.aload_n 0, 1) := by decide +kernel
theorem dX10_begin_13 : decode cX10_begin 13 = .ok (.getfield 63, 3) := by decide +kernel
theorem dX10_begin_16 : decode cX10_begin 16 = .ok (.iastore, 1) := by decide +kernel
theorem dX10_begin_17 : decode cX10_begin 17 = .ok (.aload_n 0, 1) := by decide +kernel
theorem dX10_begin_18 : decode cX10_begin 18 = .ok (.aload_n 1, 1) := by decide +kernel
theorem dX10_begin_19 : decode cX10_begin 19 = .ok (.aload_n 2, 1) := by decide +kernel
theorem dX10_begin_20 : decode cX10_begin 20 = .ok (.invokevirtual 45, 3) := by decide +kernel
theorem dX10_begin_23 : decode cX10_begin 23 = .ok (.aload_n 1, 1) := by decide +kernel
theorem dX10_begin_24 : decode cX10_begin 24 = .ok (.iconst 5, 1) := by decide +kernel
theorem dX10_begin_25 : decode cX10_begin 25 = .ok (.iconst 1, 1) := by decide +kernel
theorem dX10_begin_26 : decode cX10_begin 26 = .ok (.iastore, 1) := by decide +kernel
theorem dX10_begin_27 : decode cX10_begin 27 = .ok (.aload_n 1, 1) := by decide +kernel
theorem dX10_begin_28 : decode cX10_begin 28 = .ok (.bipush 6, 2) := by decide +kernel
theorem dX10_begin_30 : decode cX10_begin 30 = .ok (.iconst 0, 1) := by decide +kernel
theorem dX10_begin_31 : decode cX10_begin 31 = .ok (.iastore, 1) := by decide +kernel
theorem dX10_begin_32 : decode cX10_begin 32 = .ok (.aload_n 1, 1) := by decide +kernel
theorem dX10_begin_33 : decode cX10_begin 33 = .ok (.bipush 7, 2) := by decide +kernel
theorem dX10_begin_35 : decode cX10_begin 35 = .ok (.iconst 0, 1) := by decide +kernel
theorem dX10_begin_36 : decode cX10_begin 36 = .ok (.iastore, 1) := by decide +kernel
theorem dX10_begin_37 : decode cX10_begin 37 = .ok (.aload_n 1, 1) := by decide +kernel
theorem dX10_begin_38 : decode cX10_begin 38 = .ok (.bipush 8, 2) := by decide +kernel
theorem dX10_begin_40 : decode cX10_begin 40 = .ok (.aload_n 0, 1) := by decide +kernel
theorem dX10_begin_41 : decode cX10_begin 41 = .ok (.aload_n 2, 1) := by decide +kernel
theorem dX10_begin_42 : decode cX10_begin 42 = .ok (.invokevirtual 49, 3) := by decide +kernel
theorem dX10_begin_45 : decode cX10_begin 45 = .ok (.ifCond .eq 7, 3) := by decide +kernel
theorem dX10_begin_48 : decode cX10_begin 48 = .ok (.iconst 1, 1) := by decide +kernel
theorem dX10_begin_49 : decode cX10_begin 49 = .ok (.goto 4, 3) := by decide +kernel
theorem dX10_begin_52 : decode cX10_begin 52 = .ok (.iconst 0, 1) := by decide +kernel
theorem dX10_begin_53 : decode cX10_begin 53 = .ok (.iastore, 1) := by decide +kernel
theorem dX10_begin_54 : decode cX10_begin 54 = .ok (.return_, 1) := by decide +kernel
theorem dX10_takeOver_0 : decode cX10_takeOver 0 = .ok (.aload_n 1, 1) := by decide +kernel
theorem dX10_takeOver_1 : decode cX10_takeOver 1 = .ok (.iconst 1, 1) := by decide +kernel
theorem dX10_takeOver_2 : decode cX10_takeOver 2 = .ok (.aload_n 2, 1) := by decide +kernel
theorem dX10_takeOver_3 : decode cX10_takeOver 3 = .ok (.iconst 3, 1) := by decide +kernel
theorem dX10_takeOver_4 : decode cX10_takeOver 4 = .ok (.iaload, 1) := by decide +kernel
theorem dX10_takeOver_5 : decode cX10_takeOver 5 = .ok (.iastore, 1) := by decide +kernel
theorem dX10_takeOver_6 : decode cX10_takeOver 6 = .ok (.aload_n 1, 1) := by decide +kernel
theorem dX10_takeOver_7 : decode cX10_takeOver 7 = .ok (.iconst 2, 1) := by decide +kernel
theorem dX10_takeOver_8 : decode cX10_takeOver 8 = .ok (.aload_n 2, 1) := by decide +kernel
theorem dX10_takeOver_9 : decode cX10_takeOver 9 = .ok (.iconst 4, 1) := by decide +kernel
theorem dX10_takeOver_10 : decode cX10_takeOver 10 = .ok (.iaload, 1) := by decide +kernel
theorem dX10_takeOver_11 : decode cX10_takeOver 11 = .ok (.iastore, 1) := by decide +kernel
theorem dX10_takeOver_12 : decode cX10_takeOver 12 = .ok (.aload_n 1, 1) := by decide +kernel
theorem dX10_takeOver_13 : decode cX10_takeOver 13 = .ok (.iconst 3, 1) := by decide +kernel
theorem dX10_takeOver_14 : decode cX10_takeOver 14 = .ok (.aload_n 2, 1) := by decide +kernel
theorem dX10_takeOver_15 : decode cX10_takeOver 15 = .ok (.iconst 1, 1) := by decide +kernel
theorem dX10_takeOver_16 : decode cX10_takeOver 16 = .ok (.iaload, 1) := by decide +kernel
theorem dX10_takeOver_17 : decode cX10_takeOver 17 = .ok (.iastore, 1) := by decide +kernel
theorem dX10_takeOver_18 : decode cX10_takeOver 18 = .ok (.aload_n 1, 1) := by decide +kernel
theorem dX10_takeOver_19 : decode cX10_takeOver 19 = .ok (.iconst 4, 1) := by decide +kernel
theorem dX10_takeOver_20 : decode cX10_takeOver 20 = .ok (.aload_n 2, 1) := by decide +kernel
theorem dX10_takeOver_21 : decode cX10_takeOver 21 = .ok (.iconst 2, 1) := by decide +kernel
theorem dX10_takeOver_22 : decode cX10_takeOver 22 = .ok (.iaload, 1) := by decide +kernel
theorem dX10_takeOver_23 : decode cX10_takeOver 23 = .ok (.iastore, 1) := by decide +kernel
theorem dX10_takeOver_24 : decode cX10_takeOver 24 = .ok (.aload_n 2, 1) := by decide +kernel
theorem dX10_takeOver_25 : decode cX10_takeOver 25 = .ok (.iconst 5, 1) := by decide +kernel
theorem dX10_takeOver_26 : decode cX10_takeOver 26 = .ok (.aload_n 1, 1) := by decide +kernel
theorem dX10_takeOver_27 : decode cX10_takeOver 27 = .ok (.iconst 0, 1) := by decide +kernel
theorem dX10_takeOver_28 : decode cX10_takeOver 28 = .ok (.iaload, 1) := by decide +kernel
theorem dX10_takeOver_29 : decode cX10_takeOver 29 = .ok (.iastore, 1) := by decide +kernel
theorem dX10_takeOver_30 : decode cX10_takeOver 30 = .ok (.return_, 1) := by decide +kernel
theorem dX10_isPalm_0 : decode cX10_isPalm 0 = .ok (.aload_n 1, 1) := by decide +kernel
theorem dX10_isPalm_1 : decode cX10_isPalm 1 = .ok (.iconst 1, 1) := by decide +kernel
theorem dX10_isPalm_2 : decode cX10_isPalm 2 = .ok (.iaload, 1) := by decide +kernel
theorem dX10_isPalm_3 : decode cX10_isPalm 3 = .ok (.aload_n 0, 1) := by decide +kernel
theorem dX10_isPalm_4 : decode cX10_isPalm 4 = .ok (.getfield 16, 3) := by decide +kernel
theorem dX10_isPalm_7 : decode cX10_isPalm 7 = .ok (.iconst 3, 1) := by decide +kernel
theorem dX10_isPalm_8 : decode cX10_isPalm 8 = .ok (.iaload, 1) := by decide +kernel
theorem dX10_isPalm_9 : decode cX10_isPalm 9 = .ok (.if_icmp .lt 7, 3) := by decide +kernel
theorem dX10_isPalm_12 : decode cX10_isPalm 12 = .ok (.iconst 1, 1) := by decide +kernel
theorem dX10_isPalm_13 : decode cX10_isPalm 13 = .ok (.goto 4, 3) := by decide +kernel
theorem dX10_isPalm_16 : decode cX10_isPalm 16 = .ok (.iconst 0, 1) := by decide +kernel
theorem dX10_isPalm_17 : decode cX10_isPalm 17 = .ok (.ireturn, 1) := by decide +kernel
theorem dX11_init_0 : decode cX11_init 0 = .ok (.aload_n 0, 1) := by decide +kernel
theorem dX11_init_1 : decode cX11_init 1 = .ok (.invokespecial 1, 3) := by decide +kernel
theorem dX11_init_4 : decode cX11_init 4 = .ok (.aload_n 0, 1) := by decide +kernel
theorem dX11_init_5 : decode cX11_init 5 = .ok (.new 7, 3) := by decide +kernel
theorem dX11_init_8 : decode cX11_init 8 = .ok (.dup, 1) := by decide +kernel
theorem dX11_init_9 : decode cX11_init 9 = .ok (.invokespecial 9, 3) := by decide +kernel
theorem dX11_init_12 : decode cX11_init 12 = .ok (.putfield 10, 3) := by decide +kernel
theorem dX11_init_15 : decode cX11_init 15 = .ok (.aload_n 0, 1) := by decide +kernel
theorem dX11_init_16 : decode cX11_init 16 = .ok (.new 16, 3) := by decide +kernel
theorem dX11_init_19 : decode cX11_init 19 = .ok (.dup, 1) := by decide +kernel
theorem dX11_init_20 : decode cX11_init 20 = .ok (.invokespecial 18, 3) := by decide +kernel
theorem dX11_init_23 : decode cX11_init 23 = .ok (.putfield 19, 3) := by decide +kernel
theorem dX11_init_26 : decode cX11_init 26 = .ok (.aload_n 0, 1) := by decide +kernel
theorem dX11_init_27 : decode cX11_init 27 = .ok (.new 23, 3) := by decide +kernel
theorem dX11_init_30 : decode cX11_init 30 = .ok (.dup, 1) := by decide +kernel
theorem dX11_init_31 : decode cX11_init 31 = .ok (.aload_n 0, 1) := by decide +kernel
theorem dX11_init_32 : decode cX11_init 32 = .ok (.getfield 19, 3) := by decide +kernel
theorem dX11_init_35 : decode cX11_init 35 = .ok (.invokespecial 25, 3) := by decide +kernel
theorem dX11_init_38 : decode cX11_init 38 = .ok (.putfield 28, 3) := by decide +kernel
theorem dX11_init_41 : decode cX11_init 41 = .ok (.return_, 1) := by decide +kernel
theorem dX11_letter_0 : decode cX11_letter 0 = .ok (.iload_n 1, 1) := by decide +kernel
theorem dX11_letter_1 : decode cX11_letter 1 = .ok (.bipush 32, 2) := by decide +kernel
theorem dX11_letter_3 : decode cX11_letter 3 = .ok (.bipush 126, 2) := by decide +kernel
theorem dX11_letter_5 : decode cX11_letter 5 = .ok (.invokestatic 32, 3) := by decide +kernel
theorem dX11_letter_8 : decode cX11_letter 8 = .ok (.ifCond .ne 7, 3) := by decide +kernel
theorem dX11_letter_11 : decode cX11_letter 11 = .ok (.sipush (-10002), 3) := by decide +kernel
theorem dX11_letter_14 : decode cX11_letter 14 = .ok (.ireturn, 1) := by decide +kernel
theorem dX11_letter_15 : decode cX11_letter 15 = .ok (.aload_n 0, 1) := by decide +kernel
theorem dX11_letter_16 : decode cX11_letter 16 = .ok (.getfield 10, 3) := by decide +kernel
theorem dX11_letter_19 : decode cX11_letter 19 = .ok (.getfield 36, 3) := by decide +kernel
theorem dX11_letter_22 : decode cX11_letter 22 = .ok (.bipush 40, 2) := by decide +kernel
theorem dX11_letter_24 : decode cX11_letter 24 = .ok (.if_icmp .lt 7, 3) := by decide +kernel
theorem dX11_letter_27 : decode cX11_letter 27 = .ok (.sipush (-10004), 3) := by decide +kernel
theorem dX11_letter_30 : decode cX11_letter 30 = .ok (.ireturn, 1) := by decide +kernel
theorem dX11_letter_31 : decode cX11_letter 31 = .ok (.aload_n 0, 1) := by decide +kernel
theorem dX11_letter_32 : decode cX11_letter 32 = .ok (.getfield 10, 3) := by decide +kernel
theorem dX11_letter_35 : decode cX11_letter 35 = .ok (.iload_n 1, 1) := by decide +kernel
theorem dX11_letter_36 : decode cX11_letter 36 = .ok (.invokevirtual 40, 3) := by decide +kernel
theorem dX11_letter_39 : decode cX11_letter 39 = .ok (.aload_n 0, 1) := by decide +kernel
theorem dX11_letter_40 : decode cX11_letter 40 = .ok (.getfield 10, 3) := by decide +kernel
theorem dX11_letter_43 : decode cX11_letter 43 = .ok (.getfield 36, 3) := by decide +kernel
theorem dX11_letter_46 : decode cX11_letter 46 = .ok (.ireturn, 1) := by decide +kernel
theorem dX11_blank_0 : decode cX11_blank 0 = .ok (.aload_n 0, 1) := by decide +kernel
theorem dX11_blank_1 : decode cX11_blank 1 = .ok (.getfield 10, 3) := by decide +kernel
theorem dX11_blank_4 : decode cX11_blank 4 = .ok (.getfield 36, 3) := by decide +kernel
theorem dX11_blank_7 : decode cX11_blank 7 = .ok (.istore_n 1, 1) := by decide +kernel
theorem dX11_blank_8 : decode cX11_blank 8 = .ok (.aload_n 0, 1) := by decide +kernel
theorem dX11_blank_9 : decode cX11_blank 9 = .ok (.getfield 10, 3) := by decide +kernel
theorem dX11_blank_12 : decode cX11_blank 12 = .ok (.iconst 0, 1) := by decide +kernel
theorem dX11_blank_13 : decode cX11_blank 13 = .ok (.putfield 36, 3) := by decide +kernel
theorem dX11_blank_16 : decode cX11_blank 16 = .ok (.iload_n 1, 1) := by decide +kernel
theorem dX11_blank_17 : decode cX11_blank 17 = .ok (.ireturn, 1) := by decide +kernel
theorem dX11_fault_0 : decode cX11_fault 0 = .ok (.aload_n 0, 1) := by decide +kernel
theorem dX11_fault_1 : decode cX11_fault 1 = .ok (.getfield 28, 3) := by decide +kernel
theorem dX11_fault_4 : decode cX11_fault 4 = .ok (.getfield 44, 3) := by decide +kernel
theorem dX11_fault_7 : decode cX11_fault 7 = .ok (.ifCond .ne 7, 3) := by decide +kernel
theorem dX11_fault_10 : decode cX11_fault 10 = .ok (.sipush (-10003), 3) := by decide +kernel
theorem dX11_fault_13 : decode cX11_fault 13 = .ok (.ireturn, 1) := by decide +kernel
theorem dX11_fault_14 : decode cX11_fault 14 = .ok (.aload_n 0, 1) := by decide +kernel
theorem dX11_fault_15 : decode cX11_fault 15 = .ok (.getfield 10, 3) := by decide +kernel
theorem dX11_fault_18 : decode cX11_fault 18 = .ok (.aload_n 0, 1) := by decide +kernel
theorem dX11_fault_19 : decode cX11_fault 19 = .ok (.getfield 28, 3) := by decide +kernel
theorem dX11_fault_22 : decode cX11_fault 22 = .ok (.getfield 48, 3) := by decide +kernel
theorem dX11_fault_25 : decode cX11_fault 25 = .ok (.aload_n 0, 1) := by decide +kernel
theorem dX11_fault_26 : decode cX11_fault 26 = .ok (.getfield 28, 3) := by decide +kernel
theorem dX11_fault_29 : decode cX11_fault 29 = .ok (.getfield 52, 3) := by decide +kernel
theorem dX11_fault_32 : decode cX11_fault 32 = .ok (.invokevirtual 56, 3) := by decide +kernel
theorem dX11_fault_35 : decode cX11_fault 35 = .ok (.pop, 1) := by decide +kernel
theorem dX11_fault_36 : decode cX11_fault 36 = .ok (.aload_n 0, 1) := by decide +kernel
theorem dX11_fault_37 : decode cX11_fault 37 = .ok (.getfield 10, 3) := by decide +kernel
theorem dX11_fault_40 : decode cX11_fault 40 = .ok (.getfield 60, 3) := by decide +kernel
theorem dX11_fault_43 : decode cX11_fault 43 = .ok (.ireturn, 1) := by decide +kernel
theorem dX11_fingers_0 : decode cX11_fingers 0 = .ok (.aload_n 0, 1) := by decide +kernel
theorem dX11_fingers_1 : decode cX11_fingers 1 = .ok (.getfield 28, 3) := by decide +kernel
theorem dX11_fingers_4 : decode cX11_fingers 4 = .ok (.getfield 44, 3) := by decide +kernel
theorem dX11_fingers_7 : decode cX11_fingers 7 = .ok (.ifCond .ne 7, 3) := by decide +kernel
theorem dX11_fingers_10 : decode cX11_fingers 10 = .ok (.sipush (-10003), 3) := by decide +kernel
theorem dX11_fingers_13 : decode cX11_fingers 13 = .ok (.ireturn, 1) := by decide +kernel
theorem dX11_fingers_14 : decode cX11_fingers 14 = .ok (.aload_n 0, 1) := by decide +kernel
theorem dX11_fingers_15 : decode cX11_fingers 15 = .ok (.getfield 10, 3) := by decide +kernel
theorem dX11_fingers_18 : decode cX11_fingers 18 = .ok (.aload_n 0, 1) := by decide +kernel
theorem dX11_fingers_19 : decode cX11_fingers 19 = .ok (.getfield 28, 3) := by decide +kernel
theorem dX11_fingers_22 : decode cX11_fingers 22 = .ok (.getfield 48, 3) := by decide +kernel
theorem dX11_fingers_25 : decode cX11_fingers 25 = .ok (.aload_n 0, 1) := by decide +kernel
theorem dX11_fingers_26 : decode cX11_fingers 26 = .ok (.getfield 28, 3) := by decide +kernel
theorem dX11_fingers_29 : decode cX11_fingers 29 = .ok (.getfield 52, 3) := by decide +kernel
theorem dX11_fingers_32 : decode cX11_fingers 32 = .ok (.invokevirtual 56, 3) := by decide +kernel
theorem dX11_fingers_35 : decode cX11_fingers 35 = .ok (.ifCond .ne 7, 3) := by decide +kernel
theorem dX11_fingers_38 : decode cX11_fingers 38 = .ok (.sipush (-10003), 3) := by decide +kernel
theorem dX11_fingers_41 : decode cX11_fingers 41 = .ok (.ireturn, 1) := by decide +kernel
theorem dX11_fingers_42 : decode cX11_fingers 42 = .ok (.aload_n 0, 1) := by decide +kernel
theorem dX11_fingers_43 : decode cX11_fingers 43 = .ok (.getfield 28, 3) := by decide +kernel
theorem dX11_fingers_46 : decode cX11_fingers 46 = .ok (.getfield 52, 3) := by decide +kernel
theorem dX11_fingers_49 : decode cX11_fingers 49 = .ok (.aload_n 0, 1) := by decide +kernel
theorem dX11_fingers_50 : decode cX11_fingers 50 = .ok (.getfield 10, 3) := by decide +kernel
theorem dX11_fingers_53 : decode cX11_fingers 53 = .ok (.getfield 63, 3) := by decide +kernel
theorem dX11_fingers_56 : decode cX11_fingers 56 = .ok (.invokevirtual 66, 3) := by decide +kernel
theorem dX11_fingers_59 : decode cX11_fingers 59 = .ok (.aload_n 0, 1) := by decide +kernel
theorem dX11_fingers_60 : decode cX11_fingers 60 = .ok (.getfield 28, 3) := by decide +kernel
theorem dX11_fingers_63 : decode cX11_fingers 63 = .ok (.getfield 72, 3) := by decide +kernel
theorem dX11_fingers_66 : decode cX11_fingers 66 = .ok (.aload_n 0, 1) := by decide +kernel
theorem dX11_fingers_67 : decode cX11_fingers 67 = .ok (.getfield 28, 3) := by decide +kernel
theorem dX11_fingers_70 : decode cX11_fingers 70 = .ok (.getfield 52, 3) := by decide +kernel
theorem dX11_fingers_73 : decode cX11_fingers 73 = .ok (.invokevirtual 76, 3) := by decide +kernel
theorem dX11_fingers_76 : decode cX11_fingers 76 = .ok (.aload_n 0, 1) := by decide +kernel
theorem dX11_fingers_77 : decode cX11_fingers 77 = .ok (.getfield 10, 3) := by decide +kernel
theorem dX11_fingers_80 : decode cX11_fingers 80 = .ok (.iconst 0, 1) := by decide +kernel
theorem dX11_fingers_81 : decode cX11_fingers 81 = .ok (.putfield 36, 3) := by decide +kernel
theorem dX11_fingers_84 : decode cX11_fingers 84 = .ok (.aload_n 0, 1) := by decide +kernel
theorem dX11_fingers_85 : decode cX11_fingers 85 = .ok (.dup, 1) := by decide +kernel
theorem dX11_fingers_86 : decode cX11_fingers 86 = .ok (.getfield 81, 3) := by decide +kernel
theorem dX11_fingers_89 : decode cX11_fingers 89 = .ok (.iconst 1, 1) := by decide +kernel
theorem dX11_fingers_90 : decode cX11_fingers 90 = .ok (.iadd, 1) := by decide +kernel
theorem dX11_fingers_91 : decode cX11_fingers 91 = .ok (.putfield 81, 3) := by decide +kernel
theorem dX11_fingers_94 : decode cX11_fingers 94 = .ok (.aload_n 0, 1) := by decide +kernel
theorem dX11_fingers_95 : decode cX11_fingers 95 = .ok (.getfield 28, 3) := by decide +kernel
theorem dX11_fingers_98 : decode cX11_fingers 98 = .ok (.getfield 52, 3) := by decide +kernel
theorem dX11_fingers_101 : decode cX11_fingers 101 = .ok (.invokevirtual 84, 3) := by decide +kernel
theorem dX11_fingers_104 : decode cX11_fingers 104 = .ok (.ireturn, 1) := by decide +kernel
theorem dX11_glass_0 : decode cX11_glass 0 = .ok (.iload_n 1, 1) := by decide +kernel
theorem dX11_glass_1 : decode cX11_glass 1 = .ok (.iconst 3, 1) := by decide +kernel
theorem dX11_glass_2 : decode cX11_glass 2 = .ok (.bipush 8, 2) := by decide +kernel
theorem dX11_glass_4 : decode cX11_glass 4 = .ok (.invokestatic 32, 3) := by decide +kernel
theorem dX11_glass_7 : decode cX11_glass 7 = .ok (.ifCond .eq 13, 3) := by decide +kernel
theorem dX11_glass_10 : decode cX11_glass 10 = .ok (.iload_n 2, 1) := by decide +kernel
theorem dX11_glass_11 : decode cX11_glass 11 = .ok (.iconst 3, 1) := by decide +kernel
theorem dX11_glass_12 : decode cX11_glass 12 = .ok (.bipush 8, 2) := by decide +kernel
theorem dX11_glass_14 : decode cX11_glass 14 = .ok (.invokestatic 32, 3) := by decide +kernel
theorem dX11_glass_17 : decode cX11_glass 17 = .ok (.ifCond .ne 7, 3) := by decide +kernel
theorem dX11_glass_20 : decode cX11_glass 20 = .ok (.sipush (-10002), 3) := by decide +kernel
theorem dX11_glass_23 : decode cX11_glass 23 = .ok (.ireturn, 1) := by decide +kernel
theorem dX11_glass_24 : decode cX11_glass 24 = .ok (.aload_n 0, 1) := by decide +kernel
theorem dX11_glass_25 : decode cX11_glass 25 = .ok (.getfield 28, 3) := by decide +kernel
theorem dX11_glass_28 : decode cX11_glass 28 = .ok (.iload_n 1, 1) := by decide +kernel
theorem dX11_glass_29 : decode cX11_glass 29 = .ok (.iload_n 2, 1) := by decide +kernel
theorem dX11_glass_30 : decode cX11_glass 30 = .ok (.invokevirtual 88, 3) := by decide +kernel
theorem dX11_glass_33 : decode cX11_glass 33 = .ok (.aload_n 0, 1) := by decide +kernel
theorem dX11_glass_34 : decode cX11_glass 34 = .ok (.dup, 1) := by decide +kernel
theorem dX11_glass_35 : decode cX11_glass 35 = .ok (.getfield 92, 3) := by decide +kernel
theorem dX11_glass_38 : decode cX11_glass 38 = .ok (.iconst 1, 1) := by decide +kernel
theorem dX11_glass_39 : decode cX11_glass 39 = .ok (.iadd, 1) := by decide +kernel
theorem dX11_glass_40 : decode cX11_glass 40 = .ok (.putfield 92, 3) := by decide +kernel
theorem dX11_glass_43 : decode cX11_glass 43 = .ok (.aload_n 0, 1) := by decide +kernel
theorem dX11_glass_44 : decode cX11_glass 44 = .ok (.getfield 28, 3) := by decide +kernel
theorem dX11_glass_47 : decode cX11_glass 47 = .ok (.getfield 48, 3) := by decide +kernel
theorem dX11_glass_50 : decode cX11_glass 50 = .ok (.getfield 95, 3) := by decide +kernel
theorem dX11_glass_53 : decode cX11_glass 53 = .ok (.ireturn, 1) := by decide +kernel
theorem dX11_air_0 : decode cX11_air 0 = .ok (.aload_n 0, 1) := by decide +kernel
theorem dX11_air_1 : decode cX11_air 1 = .ok (.getfield 28, 3) := by decide +kernel
theorem dX11_air_4 : decode cX11_air 4 = .ok (.iload_n 1, 1) := by decide +kernel
theorem dX11_air_5 : decode cX11_air 5 = .ok (.invokevirtual 100, 3) := by decide +kernel
theorem dX11_air_8 : decode cX11_air 8 = .ok (.ifCond .ne 7, 3) := by decide +kernel
theorem dX11_air_11 : decode cX11_air 11 = .ok (.sipush (-10001), 3) := by decide +kernel
theorem dX11_air_14 : decode cX11_air 14 = .ok (.ireturn, 1) := by decide +kernel
theorem dX11_air_15 : decode cX11_air 15 = .ok (.iload_n 2, 1) := by decide +kernel
theorem dX11_air_16 : decode cX11_air 16 = .ok (.iconst 0, 1) := by decide +kernel
theorem dX11_air_17 : decode cX11_air 17 = .ok (.sipush 999, 3) := by decide +kernel
theorem dX11_air_20 : decode cX11_air 20 = .ok (.invokestatic 32, 3) := by decide +kernel
theorem dX11_air_23 : decode cX11_air 23 = .ok (.ifCond .ne 7, 3) := by decide +kernel
theorem dX11_air_26 : decode cX11_air 26 = .ok (.sipush (-10002), 3) := by decide +kernel
theorem dX11_air_29 : decode cX11_air 29 = .ok (.ireturn, 1) := by decide +kernel
theorem dX11_air_30 : decode cX11_air 30 = .ok (.aload_n 0, 1) := by decide +kernel
theorem dX11_air_31 : decode cX11_air 31 = .ok (.getfield 28, 3) := by decide +kernel
theorem dX11_air_34 : decode cX11_air 34 = .ok (.getfield 72, 3) := by decide +kernel
theorem dX11_air_37 : decode cX11_air 37 = .ok (.getfield 104, 3) := by decide +kernel
theorem dX11_air_40 : decode cX11_air 40 = .ok (.iload_n 1, 1) := by decide +kernel
theorem dX11_air_41 : decode cX11_air 41 = .ok (.iaload, 1) := by decide +kernel
theorem dX11_air_42 : decode cX11_air 42 = .ok (.istore_n 3, 1) := by decide +kernel
theorem dX11_air_43 : decode cX11_air 43 = .ok (.aload_n 0, 1) := by decide +kernel
theorem dX11_air_44 : decode cX11_air 44 = .ok (.getfield 28, 3) := by decide +kernel
theorem dX11_air_47 : decode cX11_air 47 = .ok (.getfield 72, 3) := by decide +kernel
theorem dX11_air_50 : decode cX11_air 50 = .ok (.getfield 104, 3) := by decide +kernel
theorem dX11_air_53 : decode cX11_air 53 = .ok (.iload_n 1, 1) := by decide +kernel
theorem dX11_air_54 : decode cX11_air 54 = .ok (.iload_n 2, 1) := by decide +kernel
theorem dX11_air_55 : decode cX11_air 55 = .ok (.iastore, 1) := by decide +kernel
theorem dX11_air_56 : decode cX11_air 56 = .ok (.iload_n 3, 1) := by decide +kernel
theorem dX11_air_57 : decode cX11_air 57 = .ok (.ireturn, 1) := by decide +kernel
theorem dX11_warm_0 : decode cX11_warm 0 = .ok (.aload_n 0, 1) := by decide +kernel
theorem dX11_warm_1 : decode cX11_warm 1 = .ok (.getfield 28, 3) := by decide +kernel
theorem dX11_warm_4 : decode cX11_warm 4 = .ok (.getfield 44, 3) := by decide +kernel
theorem dX11_warm_7 : decode cX11_warm 7 = .ok (.ifCond .ne 7, 3) := by decide +kernel
theorem dX11_warm_10 : decode cX11_warm 10 = .ok (.sipush (-10003), 3) := by decide +kernel
theorem dX11_warm_13 : decode cX11_warm 13 = .ok (.ireturn, 1) := by decide +kernel
theorem dX11_warm_14 : decode cX11_warm 14 = .ok (.iload_n 1, 1) := by decide +kernel
theorem dX11_warm_15 : decode cX11_warm 15 = .ok (.bipush (-99), 2) := by decide +kernel
theorem dX11_warm_17 : decode cX11_warm 17 = .ok (.bipush 99, 2) := by decide +kernel
theorem dX11_warm_19 : decode cX11_warm 19 = .ok (.invokestatic 32, 3) := by decide +kernel
theorem dX11_warm_22 : decode cX11_warm 22 = .ok (.ifCond .ne 7, 3) := by decide +kernel
theorem dX11_warm_25 : decode cX11_warm 25 = .ok (.sipush (-10002), 3) := by decide +kernel
theorem dX11_warm_28 : decode cX11_warm 28 = .ok (.ireturn, 1) := by decide +kernel
theorem dX11_warm_29 : decode cX11_warm 29 = .ok (.aload_n 0, 1) := by decide +kernel
theorem dX11_warm_30 : decode cX11_warm 30 = .ok (.getfield 28, 3) := by decide +kernel
theorem dX11_warm_33 : decode cX11_warm 33 = .ok (.getfield 72, 3) := by decide +kernel
theorem dX11_warm_36 : decode cX11_warm 36 = .ok (.iload_n 1, 1) := by decide +kernel
theorem dX11_warm_37 : decode cX11_warm 37 = .ok (.invokevirtual 108, 3) := by decide +kernel
theorem dX11_warm_40 : decode cX11_warm 40 = .ok (.ireturn, 1) := by decide +kernel
theorem dX11_noise_0 : decode cX11_noise 0 = .ok (.aload_n 0, 1) := by decide +kernel
theorem dX11_noise_1 : decode cX11_noise 1 = .ok (.getfield 28, 3) := by decide +kernel
theorem dX11_noise_4 : decode cX11_noise 4 = .ok (.getfield 44, 3) := by decide +kernel
theorem dX11_noise_7 : decode cX11_noise 7 = .ok (.ifCond .ne 7, 3) := by decide +kernel
theorem dX11_noise_10 : decode cX11_noise 10 = .ok (.sipush (-10003), 3) := by decide +kernel
theorem dX11_noise_13 : decode cX11_noise 13 = .ok (.ireturn, 1) := by decide +kernel
theorem dX11_noise_14 : decode cX11_noise 14 = .ok (.iload_n 1, 1) := by decide +kernel
theorem dX11_noise_15 : decode cX11_noise 15 = .ok (.iconst 0, 1) := by decide +kernel
theorem dX11_noise_16 : decode cX11_noise 16 = .ok (.iconst 2, 1) := by decide +kernel
theorem dX11_noise_17 : decode cX11_noise 17 = .ok (.invokestatic 32, 3) := by decide +kernel
theorem dX11_noise_20 : decode cX11_noise 20 = .ok (.ifCond .eq 13, 3) := by decide +kernel
theorem dX11_noise_23 : decode cX11_noise 23 = .ok (.iload_n 2, 1) := by decide +kernel
theorem dX11_noise_24 : decode cX11_noise 24 = .ok (.iconst 0, 1) := by decide +kernel
theorem dX11_noise_25 : decode cX11_noise 25 = .ok (.bipush 60, 2) := by decide +kernel
theorem dX11_noise_27 : decode cX11_noise 27 = .ok (.invokestatic 32, 3) := by decide +kernel
theorem dX11_noise_30 : decode cX11_noise 30 = .ok (.ifCond .ne 7, 3) := by decide +kernel
theorem dX11_noise_33 : decode cX11_noise 33 = .ok (.sipush (-10002), 3) := by decide +kernel
theorem dX11_noise_36 : decode cX11_noise 36 = .ok (.ireturn, 1) := by decide +kernel
theorem dX11_noise_37 : decode cX11_noise 37 = .ok (.aload_n 0, 1) := by decide +kernel
theorem dX11_noise_38 : decode cX11_noise 38 = .ok (.getfield 28, 3) := by decide +kernel
theorem dX11_noise_41 : decode cX11_noise 41 = .ok (.getfield 112, 3) := by decide +kernel
theorem dX11_noise_44 : decode cX11_noise 44 = .ok (.getfield 116, 3) := by decide +kernel
theorem dX11_noise_47 : decode cX11_noise 47 = .ok (.iload_n 1, 1) := by decide +kernel
theorem dX11_noise_48 : decode cX11_noise 48 = .ok (.iaload, 1) := by decide +kernel
theorem dX11_noise_49 : decode cX11_noise 49 = .ok (.istore_n 3, 1) := by decide +kernel
theorem dX11_noise_50 : decode cX11_noise 50 = .ok (.aload_n 0, 1) := by decide +kernel
theorem dX11_noise_51 : decode cX11_noise 51 = .ok (.getfield 28, 3) := by decide +kernel
theorem dX11_noise_54 : decode cX11_noise 54 = .ok (.getfield 112, 3) := by decide +kernel
theorem dX11_noise_57 : decode cX11_noise 57 = .ok (.getfield 116, 3) := by decide +kernel
theorem dX11_noise_60 : decode cX11_noise 60 = .ok (.iload_n 1, 1) := by decide +kernel
theorem dX11_noise_61 : decode cX11_noise 61 = .ok (.iload_n 2, 1) := by decide +kernel
theorem dX11_noise_62 : decode cX11_noise 62 = .ok (.iastore, 1) := by decide +kernel
theorem dX11_noise_63 : decode cX11_noise 63 = .ok (.iload_n 3, 1) := by decide +kernel
theorem dX11_noise_64 : decode cX11_noise 64 = .ok (.ireturn, 1) := by decide +kernel
theorem dX11_seed_0 : decode cX11_seed 0 = .ok (.aload_n 0, 1) := by decide +kernel
theorem dX11_seed_1 : decode cX11_seed 1 = .ok (.getfield 28, 3) := by decide +kernel
theorem dX11_seed_4 : decode cX11_seed 4 = .ok (.getfield 44, 3) := by decide +kernel
theorem dX11_seed_7 : decode cX11_seed 7 = .ok (.ifCond .ne 7, 3) := by decide +kernel
theorem dX11_seed_10 : decode cX11_seed 10 = .ok (.sipush (-10003), 3) := by decide +kernel
theorem dX11_seed_13 : decode cX11_seed 13 = .ok (.ireturn, 1) := by decide +kernel
theorem dX11_seed_14 : decode cX11_seed 14 = .ok (.iload_n 1, 1) := by decide +kernel
theorem dX11_seed_15 : decode cX11_seed 15 = .ok (.ifCond .ge 7, 3) := by decide +kernel
theorem dX11_seed_18 : decode cX11_seed 18 = .ok (.sipush (-10002), 3) := by decide +kernel
theorem dX11_seed_21 : decode cX11_seed 21 = .ok (.ireturn, 1) := by decide +kernel
theorem dX11_seed_22 : decode cX11_seed 22 = .ok (.aload_n 0, 1) := by decide +kernel
theorem dX11_seed_23 : decode cX11_seed 23 = .ok (.getfield 28, 3) := by decide +kernel
theorem dX11_seed_26 : decode cX11_seed 26 = .ok (.getfield 112, 3) := by decide +kernel
theorem dX11_seed_29 : decode cX11_seed 29 = .ok (.getfield 121, 3) := by decide +kernel
theorem dX11_seed_32 : decode cX11_seed 32 = .ok (.istore_n 2, 1) := by decide +kernel
theorem dX11_seed_33 : decode cX11_seed 33 = .ok (.aload_n 0, 1) := by decide +kernel
theorem dX11_seed_34 : decode cX11_seed 34 = .ok (.getfield 28, 3) := by decide +kernel
theorem dX11_seed_37 : decode cX11_seed 37 = .ok (.getfield 112, 3) := by decide +kernel
theorem dX11_seed_40 : decode cX11_seed 40 = .ok (.iload_n 1, 1) := by decide +kernel
theorem dX11_seed_41 : decode cX11_seed 41 = .ok (.putfield 121, 3) := by decide +kernel
theorem dX11_seed_44 : decode cX11_seed 44 = .ok (.iload_n 2, 1) := by decide +kernel
theorem dX11_seed_45 : decode cX11_seed 45 = .ok (.ireturn, 1) := by decide +kernel
theorem dX11_bound_0 : decode cX11_bound 0 = .ok (.aload_n 0, 1) := by decide +kernel
theorem dX11_bound_1 : decode cX11_bound 1 = .ok (.getfield 28, 3) := by decide +kernel
theorem dX11_bound_4 : decode cX11_bound 4 = .ok (.getfield 44, 3) := by decide +kernel
theorem dX11_bound_7 : decode cX11_bound 7 = .ok (.ifCond .ne 7, 3) := by decide +kernel
theorem dX11_bound_10 : decode cX11_bound 10 = .ok (.sipush (-10003), 3) := by decide +kernel
theorem dX11_bound_13 : decode cX11_bound 13 = .ok (.ireturn, 1) := by decide +kernel
theorem dX11_bound_14 : decode cX11_bound 14 = .ok (.iload_n 1, 1) := by decide +kernel
theorem dX11_bound_15 : decode cX11_bound 15 = .ok (.iconst 0, 1) := by decide +kernel
theorem dX11_bound_16 : decode cX11_bound 16 = .ok (.bipush 8, 2) := by decide +kernel
theorem dX11_bound_18 : decode cX11_bound 18 = .ok (.invokestatic 32, 3) := by decide +kernel
theorem dX11_bound_21 : decode cX11_bound 21 = .ok (.ifCond .eq 20, 3) := by decide +kernel
theorem dX11_bound_24 : decode cX11_bound 24 = .ok (.iload_n 2, 1) := by decide +kernel
theorem dX11_bound_25 : decode cX11_bound 25 = .ok (.getstatic 124, 3) := by decide +kernel
theorem dX11_bound_28 : decode cX11_bound 28 = .ok (.iload_n 1, 1) := by decide +kernel
theorem dX11_bound_29 : decode cX11_bound 29 = .ok (.iaload, 1) := by decide +kernel
theorem dX11_bound_30 : decode cX11_bound 30 = .ok (.getstatic 127, 3) := by decide +kernel
theorem dX11_bound_33 : decode cX11_bound 33 = .ok (.iload_n 1, 1) := by decide +kernel
theorem dX11_bound_34 : decode cX11_bound 34 = .ok (.iaload, 1) := by decide +kernel
theorem dX11_bound_35 : decode cX11_bound 35 = .ok (.invokestatic 32, 3) := by decide +kernel
theorem dX11_bound_38 : decode cX11_bound 38 = .ok (.ifCond .ne 7, 3) := by decide +kernel
theorem dX11_bound_41 : decode cX11_bound 41 = .ok (.sipush (-10002), 3) := by decide +kernel
theorem dX11_bound_44 : decode cX11_bound 44 = .ok (.ireturn, 1) := by decide +kernel
theorem dX11_bound_45 : decode cX11_bound 45 = .ok (.aload_n 0, 1) := by decide +kernel
theorem dX11_bound_46 : decode cX11_bound 46 = .ok (.getfield 28, 3) := by decide +kernel
theorem dX11_bound_49 : decode cX11_bound 49 = .ok (.getfield 130, 3) := by decide +kernel
theorem dX11_bound_52 : decode cX11_bound 52 = .ok (.iload_n 1, 1) := by decide +kernel
theorem dX11_bound_53 : decode cX11_bound 53 = .ok (.iaload, 1) := by decide +kernel
theorem dX11_bound_54 : decode cX11_bound 54 = .ok (.istore_n 3, 1) := by decide +kernel
theorem dX11_bound_55 : decode cX11_bound 55 = .ok (.aload_n 0, 1) := by decide +kernel
theorem dX11_bound_56 : decode cX11_bound 56 = .ok (.getfield 28, 3) := by decide +kernel
theorem dX11_bound_59 : decode cX11_bound 59 = .ok (.getfield 130, 3) := by decide +kernel
theorem dX11_bound_62 : decode cX11_bound 62 = .ok (.iload_n 1, 1) := by decide +kernel
theorem dX11_bound_63 : decode cX11_bound 63 = .ok (.iload_n 2, 1) := by decide +kernel
theorem dX11_bound_64 : decode cX11_bound 64 = .ok (.iastore, 1) := by decide +kernel
theorem dX11_bound_65 : decode cX11_bound 65 = .ok (.iload_n 3, 1) := by decide +kernel
theorem dX11_bound_66 : decode cX11_bound 66 = .ok (.ireturn, 1) := by decide +kernel
theorem dX11_settle_0 : decode cX11_settle 0 = .ok (.aload_n 0, 1) := by decide +kernel
theorem dX11_settle_1 : decode cX11_settle 1 = .ok (.getfield 28, 3) := by decide +kernel
theorem dX11_settle_4 : decode cX11_settle 4 = .ok (.getfield 44, 3) := by decide +kernel
theorem dX11_settle_7 : decode cX11_settle 7 = .ok (.ifCond .ne 7, 3) := by decide +kernel
theorem dX11_settle_10 : decode cX11_settle 10 = .ok (.sipush (-10003), 3) := by decide +kernel
theorem dX11_settle_13 : decode cX11_settle 13 = .ok (.ireturn, 1) := by decide +kernel
theorem dX11_settle_14 : decode cX11_settle 14 = .ok (.aload_n 0, 1) := by decide +kernel
theorem dX11_settle_15 : decode cX11_settle 15 = .ok (.getfield 28, 3) := by decide +kernel
theorem dX11_settle_18 : decode cX11_settle 18 = .ok (.getfield 72, 3) := by decide +kernel
theorem dX11_settle_21 : decode cX11_settle 21 = .ok (.invokevirtual 133, 3) := by decide +kernel
theorem dX11_settle_24 : decode cX11_settle 24 = .ok (.ireturn, 1) := by decide +kernel
theorem dX11_frames_0 : decode cX11_frames 0 = .ok (.aload_n 0, 1) := by decide +kernel
theorem dX11_frames_1 : decode cX11_frames 1 = .ok (.getfield 28, 3) := by decide +kernel
theorem dX11_frames_4 : decode cX11_frames 4 = .ok (.getfield 44, 3) := by decide +kernel
theorem dX11_frames_7 : decode cX11_frames 7 = .ok (.ifCond .ne 7, 3) := by decide +kernel
theorem dX11_frames_10 : decode cX11_frames 10 = .ok (.sipush (-10003), 3) := by decide +kernel
theorem dX11_frames_13 : decode cX11_frames 13 = .ok (.ireturn, 1) := by decide +kernel
theorem dX11_frames_14 : decode cX11_frames 14 = .ok (.iload_n 1, 1) := by decide +kernel
theorem dX11_frames_15 : decode cX11_frames 15 = .ok (.iconst 1, 1) := by decide +kernel
theorem dX11_frames_16 : decode cX11_frames 16 = .ok (.bipush 20, 2) := by decide +kernel
theorem dX11_frames_18 : decode cX11_frames 18 = .ok (.invokestatic 32, 3) := by decide +kernel
theorem dX11_frames_21 : decode cX11_frames 21 = .ok (.ifCond .ne 7, 3) := by decide +kernel
theorem dX11_frames_24 : decode cX11_frames 24 = .ok (.sipush (-10002), 3) := by decide +kernel
theorem dX11_frames_27 : decode cX11_frames 27 = .ok (.ireturn, 1) := by decide +kernel
theorem dX11_frames_28 : decode cX11_frames 28 = .ok (.aload_n 0, 1) := by decide +kernel
theorem dX11_frames_29 : decode cX11_frames 29 = .ok (.getfield 19, 3) := by decide +kernel
theorem dX11_frames_32 : decode cX11_frames 32 = .ok (.getfield 136, 3) := by decide +kernel
theorem dX11_frames_35 : decode cX11_frames 35 = .ok (.istore_n 2, 1) := by decide +kernel
theorem dX11_frames_36 : decode cX11_frames 36 = .ok (.iconst 0, 1) := by decide +kernel
theorem dX11_frames_37 : decode cX11_frames 37 = .ok (.istore_n 3, 1) := by decide +kernel
theorem dX11_frames_38 : decode cX11_frames 38 = .ok (.iload_n 3, 1) := by decide +kernel
theorem dX11_frames_39 : decode cX11_frames 39 = .ok (.iload_n 1, 1) := by decide +kernel
theorem dX11_frames_40 : decode cX11_frames 40 = .ok (.if_icmp .ge 16, 3) := by decide +kernel
theorem dX11_frames_43 : decode cX11_frames 43 = .ok (.aload_n 0, 1) := by decide +kernel
theorem dX11_frames_44 : decode cX11_frames 44 = .ok (.getfield 28, 3) := by decide +kernel
theorem dX11_frames_47 : decode cX11_frames 47 = .ok (.invokevirtual 139, 3) := by decide +kernel
theorem dX11_frames_50 : decode cX11_frames 50 = .ok (.iinc 3 1, 3) := by decide +kernel
theorem dX11_frames_53 : decode cX11_frames 53 = .ok (.goto (-15), 3) := by decide +kernel
theorem dX11_frames_56 : decode cX11_frames 56 = .ok (.aload_n 0, 1) := by decide +kernel
theorem dX11_frames_57 : decode cX11_frames 57 = .ok (.getfield 19, 3) := by decide +kernel
theorem dX11_frames_60 : decode cX11_frames 60 = .ok (.getfield 136, 3) := by decide +kernel
theorem dX11_frames_63 : decode cX11_frames 63 = .ok (.iload_n 2, 1) := by decide +kernel
theorem dX11_frames_64 : decode cX11_frames 64 = .ok (.isub, 1) := by decide +kernel
theorem dX11_frames_65 : decode cX11_frames 65 = .ok (.ireturn, 1) := by decide +kernel
theorem dX11_finger_0 : decode cX11_finger 0 = .ok (.aload_n 0, 1) := by decide +kernel
theorem dX11_finger_1 : decode cX11_finger 1 = .ok (.getfield 28, 3) := by decide +kernel
theorem dX11_finger_4 : decode cX11_finger 4 = .ok (.getfield 44, 3) := by decide +kernel
theorem dX11_finger_7 : decode cX11_finger 7 = .ok (.ifCond .ne 7, 3) := by decide +kernel
theorem dX11_finger_10 : decode cX11_finger 10 = .ok (.sipush (-10003), 3) := by decide +kernel
theorem dX11_finger_13 : decode cX11_finger 13 = .ok (.ireturn, 1) := by decide +kernel
theorem dX11_finger_14 : decode cX11_finger 14 = .ok (.iload_n 1, 1) := by decide +kernel
theorem dX11_finger_15 : decode cX11_finger 15 = .ok (.iconst 0, 1) := by decide +kernel
theorem dX11_finger_16 : decode cX11_finger 16 = .ok (.iconst 4, 1) := by decide +kernel
theorem dX11_finger_17 : decode cX11_finger 17 = .ok (.invokestatic 32, 3) := by decide +kernel
theorem dX11_finger_20 : decode cX11_finger 20 = .ok (.ifCond .ne 7, 3) := by decide +kernel
theorem dX11_finger_23 : decode cX11_finger 23 = .ok (.sipush (-10001), 3) := by decide +kernel
theorem dX11_finger_26 : decode cX11_finger 26 = .ok (.ireturn, 1) := by decide +kernel
theorem dX11_finger_27 : decode cX11_finger 27 = .ok (.iload_n 2, 1) := by decide +kernel
theorem dX11_finger_28 : decode cX11_finger 28 = .ok (.iconst 0, 1) := by decide +kernel
theorem dX11_finger_29 : decode cX11_finger 29 = .ok (.iconst 3, 1) := by decide +kernel
theorem dX11_finger_30 : decode cX11_finger 30 = .ok (.invokestatic 32, 3) := by decide +kernel
theorem dX11_finger_33 : decode cX11_finger 33 = .ok (.ifCond .ne 7, 3) := by decide +kernel
theorem dX11_finger_36 : decode cX11_finger 36 = .ok (.sipush (-10002), 3) := by decide +kernel
theorem dX11_finger_39 : decode cX11_finger 39 = .ok (.ireturn, 1) := by decide +kernel
theorem dX11_finger_40 : decode cX11_finger 40 = .ok (.aload_n 0, 1) := by decide +kernel
theorem dX11_finger_41 : decode cX11_finger 41 = .ok (.getfield 28, 3) := by decide +kernel
theorem dX11_finger_44 : decode cX11_finger 44 = .ok (.getfield 52, 3) := by decide +kernel
theorem dX11_finger_47 : decode cX11_finger 47 = .ok (.iload_n 1, 1) := by decide +kernel
theorem dX11_finger_48 : decode cX11_finger 48 = .ok (.iload_n 2, 1) := by decide +kernel
theorem dX11_finger_49 : decode cX11_finger 49 = .ok (.invokevirtual 142, 3) := by decide +kernel
theorem dX11_finger_52 : decode cX11_finger 52 = .ok (.ireturn, 1) := by decide +kernel
theorem dX11_cell_0 : decode cX11_cell 0 = .ok (.aload_n 0, 1) := by decide +kernel
theorem dX11_cell_1 : decode cX11_cell 1 = .ok (.getfield 28, 3) := by decide +kernel
theorem dX11_cell_4 : decode cX11_cell 4 = .ok (.iload_n 1, 1) := by decide +kernel
theorem dX11_cell_5 : decode cX11_cell 5 = .ok (.invokevirtual 100, 3) := by decide +kernel
theorem dX11_cell_8 : decode cX11_cell 8 = .ok (.ifCond .ne 7, 3) := by decide +kernel
theorem dX11_cell_11 : decode cX11_cell 11 = .ok (.sipush (-10001), 3) := by decide +kernel
theorem dX11_cell_14 : decode cX11_cell 14 = .ok (.ireturn, 1) := by decide +kernel
theorem dX11_cell_15 : decode cX11_cell 15 = .ok (.iload_n 2, 1) := by decide +kernel
theorem dX11_cell_16 : decode cX11_cell 16 = .ok (.iconst 0, 1) := by decide +kernel
theorem dX11_cell_17 : decode cX11_cell 17 = .ok (.iconst 5, 1) := by decide +kernel
theorem dX11_cell_18 : decode cX11_cell 18 = .ok (.invokestatic 32, 3) := by decide +kernel
theorem dX11_cell_21 : decode cX11_cell 21 = .ok (.ifCond .ne 7, 3) := by decide +kernel
theorem dX11_cell_24 : decode cX11_cell 24 = .ok (.sipush (-10002), 3) := by decide +kernel
theorem dX11_cell_27 : decode cX11_cell 27 = .ok (.ireturn, 1) := by decide +kernel
theorem dX11_cell_28 : decode cX11_cell 28 = .ok (.aload_n 0, 1) := by decide +kernel
theorem dX11_cell_29 : decode cX11_cell 29 = .ok (.getfield 28, 3) := by decide +kernel
theorem dX11_cell_32 : decode cX11_cell 32 = .ok (.iload_n 1, 1) := by decide +kernel
theorem dX11_cell_33 : decode cX11_cell 33 = .ok (.iload_n 2, 1) := by decide +kernel
theorem dX11_cell_34 : decode cX11_cell 34 = .ok (.invokevirtual 146, 3) := by decide +kernel
theorem dX11_cell_37 : decode cX11_cell 37 = .ok (.ireturn, 1) := by decide +kernel
theorem dX11_about_0 : decode cX11_about 0 = .ok (.aload_n 0, 1) := by decide +kernel
theorem dX11_about_1 : decode cX11_about 1 = .ok (.getfield 28, 3) := by decide +kernel
theorem dX11_about_4 : decode cX11_about 4 = .ok (.getfield 44, 3) := by decide +kernel
theorem dX11_about_7 : decode cX11_about 7 = .ok (.ifCond .ne 7, 3) := by decide +kernel
theorem dX11_about_10 : decode cX11_about 10 = .ok (.sipush (-10003), 3) := by decide +kernel
theorem dX11_about_13 : decode cX11_about 13 = .ok (.ireturn, 1) := by decide +kernel
theorem dX11_about_14 : decode cX11_about 14 = .ok (.iload_n 1, 1) := by decide +kernel
theorem dX11_about_15 : decode cX11_about 15 = .ok (.iconst 0, 1) := by decide +kernel
theorem dX11_about_16 : decode cX11_about 16 = .ok (.bipush 8, 2) := by decide +kernel
theorem dX11_about_18 : decode cX11_about 18 = .ok (.invokestatic 32, 3) := by decide +kernel
theorem dX11_about_21 : decode cX11_about 21 = .ok (.ifCond .ne 7, 3) := by decide +kernel
theorem dX11_about_24 : decode cX11_about 24 = .ok (.sipush (-10002), 3) := by decide +kernel
theorem dX11_about_27 : decode cX11_about 27 = .ok (.ireturn, 1) := by decide +kernel
theorem dX11_about_28 : decode cX11_about 28 = .ok (.aload_n 0, 1) := by decide +kernel
theorem dX11_about_29 : decode cX11_about 29 = .ok (.getfield 28, 3) := by decide +kernel
theorem dX11_about_32 : decode cX11_about 32 = .ok (.iload_n 1, 1) := by decide +kernel
theorem dX11_about_33 : decode cX11_about 33 = .ok (.invokevirtual 149, 3) := by decide +kernel
theorem dX11_about_36 : decode cX11_about 36 = .ok (.ireturn, 1) := by decide +kernel
theorem dX11_spot_0 : decode cX11_spot 0 = .ok (.aload_n 0, 1) := by decide +kernel
theorem dX11_spot_1 : decode cX11_spot 1 = .ok (.getfield 28, 3) := by decide +kernel
theorem dX11_spot_4 : decode cX11_spot 4 = .ok (.iload_n 1, 1) := by decide +kernel
theorem dX11_spot_5 : decode cX11_spot 5 = .ok (.invokevirtual 151, 3) := by decide +kernel
theorem dX11_spot_8 : decode cX11_spot 8 = .ok (.ifCond .ne 7, 3) := by decide +kernel
theorem dX11_spot_11 : decode cX11_spot 11 = .ok (.sipush (-10001), 3) := by decide +kernel
theorem dX11_spot_14 : decode cX11_spot 14 = .ok (.ireturn, 1) := by decide +kernel
theorem dX11_spot_15 : decode cX11_spot 15 = .ok (.iload_n 2, 1) := by decide +kernel
theorem dX11_spot_16 : decode cX11_spot 16 = .ok (.iconst 0, 1) := by decide +kernel
theorem dX11_spot_17 : decode cX11_spot 17 = .ok (.iconst 5, 1) := by decide +kernel
theorem dX11_spot_18 : decode cX11_spot 18 = .ok (.invokestatic 32, 3) := by decide +kernel
theorem dX11_spot_21 : decode cX11_spot 21 = .ok (.ifCond .ne 7, 3) := by decide +kernel
theorem dX11_spot_24 : decode cX11_spot 24 = .ok (.sipush (-10002), 3) := by decide +kernel
theorem dX11_spot_27 : decode cX11_spot 27 = .ok (.ireturn, 1) := by decide +kernel
theorem dX11_spot_28 : decode cX11_spot 28 = .ok (.aload_n 0, 1) := by decide +kernel
theorem dX11_spot_29 : decode cX11_spot 29 = .ok (.getfield 28, 3) := by decide +kernel
theorem dX11_spot_32 : decode cX11_spot 32 = .ok (.getfield 154, 3) := by decide +kernel
theorem dX11_spot_35 : decode cX11_spot 35 = .ok (.getfield 158, 3) := by decide +kernel
theorem dX11_spot_38 : decode cX11_spot 38 = .ok (.iload_n 1, 1) := by decide +kernel
theorem dX11_spot_39 : decode cX11_spot 39 = .ok (.aaload, 1) := by decide +kernel
theorem dX11_spot_40 : decode cX11_spot 40 = .ok (.iload_n 2, 1) := by decide +kernel
theorem dX11_spot_41 : decode cX11_spot 41 = .ok (.iaload, 1) := by decide +kernel
theorem dX11_spot_42 : decode cX11_spot 42 = .ok (.ireturn, 1) := by decide +kernel
theorem dX11_track_0 : decode cX11_track 0 = .ok (.aload_n 0, 1) := by decide +kernel
theorem dX11_track_1 : decode cX11_track 1 = .ok (.getfield 28, 3) := by decide +kernel
theorem dX11_track_4 : decode cX11_track 4 = .ok (.iload_n 1, 1) := by decide +kernel
theorem dX11_track_5 : decode cX11_track 5 = .ok (.invokevirtual 164, 3) := by decide +kernel
theorem dX11_track_8 : decode cX11_track 8 = .ok (.ifCond .ne 7, 3) := by decide +kernel
theorem dX11_track_11 : decode cX11_track 11 = .ok (.sipush (-10001), 3) := by decide +kernel
theorem dX11_track_14 : decode cX11_track 14 = .ok (.ireturn, 1) := by decide +kernel
theorem dX11_track_15 : decode cX11_track 15 = .ok (.iload_n 2, 1) := by decide +kernel
theorem dX11_track_16 : decode cX11_track 16 = .ok (.iconst 0, 1) := by decide +kernel
theorem dX11_track_17 : decode cX11_track 17 = .ok (.bipush 8, 2) := by decide +kernel
theorem dX11_track_19 : decode cX11_track 19 = .ok (.invokestatic 32, 3) := by decide +kernel
theorem dX11_track_22 : decode cX11_track 22 = .ok (.ifCond .ne 7, 3) := by decide +kernel
theorem dX11_track_25 : decode cX11_track 25 = .ok (.sipush (-10002), 3) := by decide +kernel
theorem dX11_track_28 : decode cX11_track 28 = .ok (.ireturn, 1) := by decide +kernel
theorem dX11_track_29 : decode cX11_track 29 = .ok (.aload_n 0, 1) := by decide +kernel
theorem dX11_track_30 : decode cX11_track 30 = .ok (.getfield 28, 3) := by decide +kernel
theorem dX11_track_33 : decode cX11_track 33 = .ok (.getfield 167, 3) := by decide +kernel
theorem dX11_track_36 : decode cX11_track 36 = .ok (.getfield 171, 3) := by decide +kernel
theorem dX11_track_39 : decode cX11_track 39 = .ok (.iload_n 1, 1) := by decide +kernel
theorem dX11_track_40 : decode cX11_track 40 = .ok (.aaload, 1) := by decide +kernel
theorem dX11_track_41 : decode cX11_track 41 = .ok (.iload_n 2, 1) := by decide +kernel
theorem dX11_track_42 : decode cX11_track 42 = .ok (.iaload, 1) := by decide +kernel
theorem dX11_track_43 : decode cX11_track 43 = .ok (.ireturn, 1) := by decide +kernel
theorem dX11_as_0 : decode cX11_as 0 = .ok (.aload_n 0, 1) := by decide +kernel
theorem dX11_as_1 : decode cX11_as 1 = .ok (.getfield 28, 3) := by decide +kernel
theorem dX11_as_4 : decode cX11_as 4 = .ok (.iload_n 1, 1) := by decide +kernel
theorem dX11_as_5 : decode cX11_as 5 = .ok (.invokevirtual 164, 3) := by decide +kernel
theorem dX11_as_8 : decode cX11_as 8 = .ok (.ifCond .ne 7, 3) := by decide +kernel
theorem dX11_as_11 : decode cX11_as 11 = .ok (.sipush (-10001), 3) := by decide +kernel
theorem dX11_as_14 : decode cX11_as 14 = .ok (.ireturn, 1) := by decide +kernel
theorem dX11_as_15 : decode cX11_as 15 = .ok (.iload_n 2, 1) := by decide +kernel
theorem dX11_as_16 : decode cX11_as 16 = .ok (.iconst 0, 1) := by decide +kernel
theorem dX11_as_17 : decode cX11_as 17 = .ok (.iconst 1, 1) := by decide +kernel
theorem dX11_as_18 : decode cX11_as 18 = .ok (.invokestatic 32, 3) := by decide +kernel
theorem dX11_as_21 : decode cX11_as 21 = .ok (.ifCond .ne 7, 3) := by decide +kernel
theorem dX11_as_24 : decode cX11_as 24 = .ok (.sipush (-10002), 3) := by decide +kernel
theorem dX11_as_27 : decode cX11_as 27 = .ok (.ireturn, 1) := by decide +kernel
theorem dX11_as_28 : decode cX11_as 28 = .ok (.aload_n 0, 1) := by decide +kernel
theorem dX11_as_29 : decode cX11_as 29 = .ok (.getfield 28, 3) := by decide +kernel
theorem dX11_as_32 : decode cX11_as 32 = .ok (.getfield 167, 3) := by decide +kernel
theorem dX11_as_35 : decode cX11_as 35 = .ok (.getfield 171, 3) := by decide +kernel
theorem dX11_as_38 : decode cX11_as 38 = .ok (.iload_n 1, 1) := by decide +kernel
theorem dX11_as_39 : decode cX11_as 39 = .ok (.aaload, 1) := by decide +kernel
theorem dX11_as_40 : decode cX11_as 40 = .ok (.astore_n 3, 1) := by decide +kernel
theorem dX11_as_41 : decode cX11_as 41 = .ok (.aload_n 3, 1) := by decide +kernel
theorem dX11_as_42 : decode cX11_as 42 = .ok (.bipush 8, 2) := by decide +kernel
theorem dX11_as_44 : decode cX11_as 44 = .ok (.iaload, 1) := by decide +kernel
theorem dX11_as_45 : decode cX11_as 45 = .ok (.iload_n 2, 1) := by decide +kernel
theorem dX11_as_46 : decode cX11_as 46 = .ok (.if_icmp .ne 9, 3) := by decide +kernel
theorem dX11_as_49 : decode cX11_as 49 = .ok (.aload_n 3, 1) := by decide +kernel
theorem dX11_as_50 : decode cX11_as 50 = .ok (.iconst 0, 1) := by decide +kernel
theorem dX11_as_51 : decode cX11_as 51 = .ok (.iaload, 1) := by decide +kernel
theorem dX11_as_52 : decode cX11_as 52 = .ok (.goto 4, 3) := by decide +kernel
theorem dX11_as_55 : decode cX11_as 55 = .ok (.iconst (-1), 1) := by decide +kernel
theorem dX11_as_56 : decode cX11_as 56 = .ok (.ireturn, 1) := by decide +kernel
theorem dX11_event_0 : decode cX11_event 0 = .ok (.iload_n 1, 1) := by decide +kernel
theorem dX11_event_1 : decode cX11_event 1 = .ok (.iconst 0, 1) := by decide +kernel
theorem dX11_event_2 : decode cX11_event 2 = .ok (.aload_n 0, 1) := by decide +kernel
theorem dX11_event_3 : decode cX11_event 3 = .ok (.getfield 19, 3) := by decide +kernel
theorem dX11_event_6 : decode cX11_event 6 = .ok (.invokevirtual 174, 3) := by decide +kernel
theorem dX11_event_9 : decode cX11_event 9 = .ok (.iconst 1, 1) := by decide +kernel
theorem dX11_event_10 : decode cX11_event 10 = .ok (.isub, 1) := by decide +kernel
theorem dX11_event_11 : decode cX11_event 11 = .ok (.invokestatic 32, 3) := by decide +kernel
theorem dX11_event_14 : decode cX11_event 14 = .ok (.ifCond .ne 7, 3) := by decide +kernel
theorem dX11_event_17 : decode cX11_event 17 = .ok (.sipush (-10001), 3) := by decide +kernel
theorem dX11_event_20 : decode cX11_event 20 = .ok (.ireturn, 1) := by decide +kernel
theorem dX11_event_21 : decode cX11_event 21 = .ok (.iload_n 2, 1) := by decide +kernel
theorem dX11_event_22 : decode cX11_event 22 = .ok (.iconst 0, 1) := by decide +kernel
theorem dX11_event_23 : decode cX11_event 23 = .ok (.iconst 2, 1) := by decide +kernel
theorem dX11_event_24 : decode cX11_event 24 = .ok (.invokestatic 32, 3) := by decide +kernel
theorem dX11_event_27 : decode cX11_event 27 = .ok (.ifCond .ne 7, 3) := by decide +kernel
theorem dX11_event_30 : decode cX11_event 30 = .ok (.sipush (-10002), 3) := by decide +kernel
theorem dX11_event_33 : decode cX11_event 33 = .ok (.ireturn, 1) := by decide +kernel
theorem dX11_event_34 : decode cX11_event 34 = .ok (.aload_n 0, 1) := by decide +kernel
theorem dX11_event_35 : decode cX11_event 35 = .ok (.getfield 19, 3) := by decide +kernel
theorem dX11_event_38 : decode cX11_event 38 = .ok (.iload_n 1, 1) := by decide +kernel
theorem dX11_event_39 : decode cX11_event 39 = .ok (.iload_n 2, 1) := by decide +kernel
theorem dX11_event_40 : decode cX11_event 40 = .ok (.invokevirtual 177, 3) := by decide +kernel
theorem dX11_event_43 : decode cX11_event 43 = .ok (.ireturn, 1) := by decide +kernel
theorem dX11_count_0 : decode cX11_count 0 = .ok (.iload_n 1, 1) := by decide +kernel
theorem dX11_count_1 : decode cX11_count 1 = .ok (.tableswitch 84 0 5 #[39, 47, 55, 63, 74, 79], 39) := by decide +kernel
theorem dX11_count_40 : decode cX11_count 40 = .ok (.aload_n 0, 1) := by decide +kernel
theorem dX11_count_41 : decode cX11_count 41 = .ok (.getfield 10, 3) := by decide +kernel
theorem dX11_count_44 : decode cX11_count 44 = .ok (.getfield 36, 3) := by decide +kernel
theorem dX11_count_47 : decode cX11_count 47 = .ok (.ireturn, 1) := by decide +kernel
theorem dX11_count_48 : decode cX11_count 48 = .ok (.aload_n 0, 1) := by decide +kernel
theorem dX11_count_49 : decode cX11_count 49 = .ok (.getfield 28, 3) := by decide +kernel
theorem dX11_count_52 : decode cX11_count 52 = .ok (.getfield 178, 3) := by decide +kernel
theorem dX11_count_55 : decode cX11_count 55 = .ok (.ireturn, 1) := by decide +kernel
theorem dX11_count_56 : decode cX11_count 56 = .ok (.aload_n 0, 1) := by decide +kernel
theorem dX11_count_57 : decode cX11_count 57 = .ok (.getfield 28, 3) := by decide +kernel
theorem dX11_count_60 : decode cX11_count 60 = .ok (.getfield 181, 3) := by decide +kernel
theorem dX11_count_63 : decode cX11_count 63 = .ok (.ireturn, 1) := by decide +kernel
theorem dX11_count_64 : decode cX11_count 64 = .ok (.aload_n 0, 1) := by decide +kernel
theorem dX11_count_65 : decode cX11_count 65 = .ok (.getfield 28, 3) := by decide +kernel
theorem dX11_count_68 : decode cX11_count 68 = .ok (.getfield 167, 3) := by decide +kernel
theorem dX11_count_71 : decode cX11_count 71 = .ok (.getfield 184, 3) := by decide +kernel
theorem dX11_count_74 : decode cX11_count 74 = .ok (.ireturn, 1) := by decide +kernel
theorem dX11_count_75 : decode cX11_count 75 = .ok (.aload_n 0, 1) := by decide +kernel
theorem dX11_count_76 : decode cX11_count 76 = .ok (.getfield 81, 3) := by decide +kernel
theorem dX11_count_79 : decode cX11_count 79 = .ok (.ireturn, 1) := by decide +kernel
theorem dX11_count_80 : decode cX11_count 80 = .ok (.aload_n 0, 1) := by decide +kernel
theorem dX11_count_81 : decode cX11_count 81 = .ok (.getfield 92, 3) := by decide +kernel
theorem dX11_count_84 : decode cX11_count 84 = .ok (.ireturn, 1) := by decide +kernel
theorem dX11_count_85 : decode cX11_count 85 = .ok (.sipush (-10002), 3) := by decide +kernel
theorem dX11_count_88 : decode cX11_count 88 = .ok (.ireturn, 1) := by decide +kernel
theorem dX11_events_0 : decode cX11_events 0 = .ok (.iload_n 1, 1) := by decide +kernel
theorem dX11_events_1 : decode cX11_events 1 = .ok (.iconst 1, 1) := by decide +kernel
theorem dX11_events_2 : decode cX11_events 2 = .ok (.iconst 4, 1) := by decide +kernel
theorem dX11_events_3 : decode cX11_events 3 = .ok (.invokestatic 32, 3) := by decide +kernel
theorem dX11_events_6 : decode cX11_events 6 = .ok (.ifCond .ne 7, 3) := by decide +kernel
theorem dX11_events_9 : decode cX11_events 9 = .ok (.sipush (-10002), 3) := by decide +kernel
theorem dX11_events_12 : decode cX11_events 12 = .ok (.ireturn, 1) := by decide +kernel
theorem dX11_events_13 : decode cX11_events 13 = .ok (.aload_n 0, 1) := by decide +kernel
theorem dX11_events_14 : decode cX11_events 14 = .ok (.getfield 19, 3) := by decide +kernel
theorem dX11_events_17 : decode cX11_events 17 = .ok (.getfield 187, 3) := by decide +kernel
theorem dX11_events_20 : decode cX11_events 20 = .ok (.iload_n 1, 1) := by decide +kernel
theorem dX11_events_21 : decode cX11_events 21 = .ok (.iaload, 1) := by decide +kernel
theorem dX11_events_22 : decode cX11_events 22 = .ok (.ireturn, 1) := by decide +kernel
theorem dX11_digest_0 : decode cX11_digest 0 = .ok (.ldc2_w 190, 3) := by decide +kernel
theorem dX11_digest_3 : decode cX11_digest 3 = .ok (.lstore_n 1, 1) := by decide +kernel
theorem dX11_digest_4 : decode cX11_digest 4 = .ok (.aload_n 0, 1) := by decide +kernel
theorem dX11_digest_5 : decode cX11_digest 5 = .ok (.getfield 28, 3) := by decide +kernel
theorem dX11_digest_8 : decode cX11_digest 8 = .ok (.getfield 44, 3) := by decide +kernel
theorem dX11_digest_11 : decode cX11_digest 11 = .ok (.ifCond .eq 27, 3) := by decide +kernel
theorem dX11_digest_14 : decode cX11_digest 14 = .ok (.aload_n 0, 1) := by decide +kernel
theorem dX11_digest_15 : decode cX11_digest 15 = .ok (.lload_n 1, 1) := by decide +kernel
theorem dX11_digest_16 : decode cX11_digest 16 = .ok (.invokevirtual 192, 3) := by decide +kernel
theorem dX11_digest_19 : decode cX11_digest 19 = .ok (.lstore_n 1, 1) := by decide +kernel
theorem dX11_digest_20 : decode cX11_digest 20 = .ok (.aload_n 0, 1) := by decide +kernel
theorem dX11_digest_21 : decode cX11_digest 21 = .ok (.lload_n 1, 1) := by decide +kernel
theorem dX11_digest_22 : decode cX11_digest 22 = .ok (.invokevirtual 196, 3) := by decide +kernel
theorem dX11_digest_25 : decode cX11_digest 25 = .ok (.lstore_n 1, 1) := by decide +kernel
theorem dX11_digest_26 : decode cX11_digest 26 = .ok (.aload_n 0, 1) := by decide +kernel
theorem dX11_digest_27 : decode cX11_digest 27 = .ok (.lload_n 1, 1) := by decide +kernel
theorem dX11_digest_28 : decode cX11_digest 28 = .ok (.invokevirtual 199, 3) := by decide +kernel
theorem dX11_digest_31 : decode cX11_digest 31 = .ok (.lstore_n 1, 1) := by decide +kernel
theorem dX11_digest_32 : decode cX11_digest 32 = .ok (.aload_n 0, 1) := by decide +kernel
theorem dX11_digest_33 : decode cX11_digest 33 = .ok (.lload_n 1, 1) := by decide +kernel
theorem dX11_digest_34 : decode cX11_digest 34 = .ok (.invokevirtual 202, 3) := by decide +kernel
theorem dX11_digest_37 : decode cX11_digest 37 = .ok (.lstore_n 1, 1) := by decide +kernel
theorem dX11_digest_38 : decode cX11_digest 38 = .ok (.aload_n 0, 1) := by decide +kernel
theorem dX11_digest_39 : decode cX11_digest 39 = .ok (.lload_n 1, 1) := by decide +kernel
theorem dX11_digest_40 : decode cX11_digest 40 = .ok (.invokevirtual 205, 3) := by decide +kernel
theorem dX11_digest_43 : decode cX11_digest 43 = .ok (.lstore_n 1, 1) := by decide +kernel
theorem dX11_digest_44 : decode cX11_digest 44 = .ok (.iconst 0, 1) := by decide +kernel
theorem dX11_digest_45 : decode cX11_digest 45 = .ok (.istore_n 3, 1) := by decide +kernel
theorem dX11_digest_46 : decode cX11_digest 46 = .ok (.iload_n 3, 1) := by decide +kernel
theorem dX11_digest_47 : decode cX11_digest 47 = .ok (.aload_n 0, 1) := by decide +kernel
theorem dX11_digest_48 : decode cX11_digest 48 = .ok (.getfield 10, 3) := by decide +kernel
theorem dX11_digest_51 : decode cX11_digest 51 = .ok (.getfield 36, 3) := by decide +kernel
theorem dX11_digest_54 : decode cX11_digest 54 = .ok (.if_icmp .ge 26, 3) := by decide +kernel
theorem dX11_digest_57 : decode cX11_digest 57 = .ok (.ldc2_w 208, 3) := by decide +kernel
theorem dX11_digest_60 : decode cX11_digest 60 = .ok (.lload_n 1, 1) := by decide +kernel
theorem dX11_digest_61 : decode cX11_digest 61 = .ok (.lmul, 1) := by decide +kernel
theorem dX11_digest_62 : decode cX11_digest 62 = .ok (.aload_n 0, 1) := by decide +kernel
theorem dX11_digest_63 : decode cX11_digest 63 = .ok (.getfield 10, 3) := by decide +kernel
theorem dX11_digest_66 : decode cX11_digest 66 = .ok (.getfield 210, 3) := by decide +kernel
theorem dX11_digest_69 : decode cX11_digest 69 = .ok (.iload_n 3, 1) := by decide +kernel
theorem dX11_digest_70 : decode cX11_digest 70 = .ok (.iaload, 1) := by decide +kernel
theorem dX11_digest_71 : decode cX11_digest 71 = .ok (.i2l, 1) := by decide +kernel
theorem dX11_digest_72 : decode cX11_digest 72 = .ok (.ladd, 1) := by decide +kernel
theorem dX11_digest_73 : decode cX11_digest 73 = .ok (.lstore_n 1, 1) := by decide +kernel
theorem dX11_digest_74 : decode cX11_digest 74 = .ok (.iinc 3 1, 3) := by decide +kernel
theorem dX11_digest_77 : decode cX11_digest 77 = .ok (.goto (-31), 3) := by decide +kernel
theorem dX11_digest_80 : decode cX11_digest 80 = .ok (.iconst 0, 1) := by decide +kernel
theorem dX11_digest_81 : decode cX11_digest 81 = .ok (.istore_n 3, 1) := by decide +kernel
theorem dX11_digest_82 : decode cX11_digest 82 = .ok (.iload_n 3, 1) := by decide +kernel
theorem dX11_digest_83 : decode cX11_digest 83 = .ok (.bipush 6, 2) := by decide +kernel
theorem dX11_digest_85 : decode cX11_digest 85 = .ok (.if_icmp .ge 22, 3) := by decide +kernel
theorem dX11_digest_88 : decode cX11_digest 88 = .ok (.ldc2_w 208, 3) := by decide +kernel
theorem dX11_digest_91 : decode cX11_digest 91 = .ok (.lload_n 1, 1) := by decide +kernel
theorem dX11_digest_92 : decode cX11_digest 92 = .ok (.lmul, 1) := by decide +kernel
theorem dX11_digest_93 : decode cX11_digest 93 = .ok (.aload_n 0, 1) := by decide +kernel
theorem dX11_digest_94 : decode cX11_digest 94 = .ok (.iload_n 3, 1) := by decide +kernel
theorem dX11_digest_95 : decode cX11_digest 95 = .ok (.invokevirtual 213, 3) := by decide +kernel
theorem dX11_digest_98 : decode cX11_digest 98 = .ok (.i2l, 1) := by decide +kernel
theorem dX11_digest_99 : decode cX11_digest 99 = .ok (.ladd, 1) := by decide +kernel
theorem dX11_digest_100 : decode cX11_digest 100 = .ok (.lstore_n 1, 1) := by decide +kernel
theorem dX11_digest_101 : decode cX11_digest 101 = .ok (.iinc 3 1, 3) := by decide +kernel
theorem dX11_digest_104 : decode cX11_digest 104 = .ok (.goto (-22), 3) := by decide +kernel
theorem dX11_digest_107 : decode cX11_digest 107 = .ok (.iconst 1, 1) := by decide +kernel
theorem dX11_digest_108 : decode cX11_digest 108 = .ok (.istore_n 3, 1) := by decide +kernel
theorem dX11_digest_109 : decode cX11_digest 109 = .ok (.iload_n 3, 1) := by decide +kernel
theorem dX11_digest_110 : decode cX11_digest 110 = .ok (.iconst 4, 1) := by decide +kernel
theorem dX11_digest_111 : decode cX11_digest 111 = .ok (.if_icmp .gt 22, 3) := by decide +kernel
theorem dX11_digest_114 : decode cX11_digest 114 = .ok (.ldc2_w 208, 3) := by decide +kernel
theorem dX11_digest_117 : decode cX11_digest 117 = .ok (.lload_n 1, 1) := by decide +kernel
theorem dX11_digest_118 : decode cX11_digest 118 = .ok (.lmul, 1) := by decide +kernel
theorem dX11_digest_119 : decode cX11_digest 119 = .ok (.aload_n 0, 1) := by decide +kernel
theorem dX11_digest_120 : decode cX11_digest 120 = .ok (.iload_n 3, 1) := by decide +kernel
theorem dX11_digest_121 : decode cX11_digest 121 = .ok (.invokevirtual 216, 3) := by decide +kernel
theorem dX11_digest_124 : decode cX11_digest 124 = .ok (.i2l, 1) := by decide +kernel
theorem dX11_digest_125 : decode cX11_digest 125 = .ok (.ladd, 1) := by decide +kernel
theorem dX11_digest_126 : decode cX11_digest 126 = .ok (.lstore_n 1, 1) := by decide +kernel
theorem dX11_digest_127 : decode cX11_digest 127 = .ok (.iinc 3 1, 3) := by decide +kernel
theorem dX11_digest_130 : decode cX11_digest 130 = .ok (.goto (-21), 3) := by decide +kernel
theorem dX11_digest_133 : decode cX11_digest 133 = .ok (.lload_n 1, 1) := by decide +kernel
theorem dX11_digest_134 : decode cX11_digest 134 = .ok (.lreturn, 1) := by decide +kernel
theorem dX11_hashPanelAndFingers_0 : decode cX11_hashPanelAndFingers 0 = .ok (.lload_n 1, 1) := by decide +kernel
theorem dX11_hashPanelAndFingers_1 : decode cX11_hashPanelAndFingers 1 = .ok (.lstore_n 3, 1) := by decide +kernel
theorem dX11_hashPanelAndFingers_2 : decode cX11_hashPanelAndFingers 2 = .ok (.iconst 0, 1) := by decide +kernel
theorem dX11_hashPanelAndFingers_3 : decode cX11_hashPanelAndFingers 3 = .ok (.istore 5, 2) := by decide +kernel
theorem dX11_hashPanelAndFingers_5 : decode cX11_hashPanelAndFingers 5 = .ok (.iload 5, 2) := by decide +kernel
theorem dX11_hashPanelAndFingers_7 : decode cX11_hashPanelAndFingers 7 = .ok (.bipush 9, 2) := by decide +kernel
theorem dX11_hashPanelAndFingers_9 : decode cX11_hashPanelAndFingers 9 = .ok (.if_icmp .ge 23, 3) := by decide +kernel
theorem dX11_hashPanelAndFingers_12 : decode cX11_hashPanelAndFingers 12 = .ok (.ldc2_w 208, 3) := by decide +kernel
theorem dX11_hashPanelAndFingers_15 : decode cX11_hashPanelAndFingers 15 = .ok (.lload_n 3, 1) := by decide +kernel
theorem dX11_hashPanelAndFingers_16 : decode cX11_hashPanelAndFingers 16 = .ok (.lmul, 1) := by decide +kernel
theorem dX11_hashPanelAndFingers_17 : decode cX11_hashPanelAndFingers 17 = .ok (.aload_n 0, 1) := by decide +kernel
theorem dX11_hashPanelAndFingers_18 : decode cX11_hashPanelAndFingers 18 = .ok (.iload 5, 2) := by decide +kernel
theorem dX11_hashPanelAndFingers_20 : decode cX11_hashPanelAndFingers 20 = .ok (.invokevirtual 219, 3) := by decide +kernel
theorem dX11_hashPanelAndFingers_23 : decode cX11_hashPanelAndFingers 23 = .ok (.i2l, 1) := by decide +kernel
theorem dX11_hashPanelAndFingers_24 : decode cX11_hashPanelAndFingers 24 = .ok (.ladd, 1) := by decide +kernel
theorem dX11_hashPanelAndFingers_25 : decode cX11_hashPanelAndFingers 25 = .ok (.lstore_n 3, 1) := by decide +kernel
theorem dX11_hashPanelAndFingers_26 : decode cX11_hashPanelAndFingers 26 = .ok (.iinc 5 1, 3) := by decide +kernel
theorem dX11_hashPanelAndFingers_29 : decode cX11_hashPanelAndFingers 29 = .ok (.goto (-24), 3) := by decide +kernel
theorem dX11_hashPanelAndFingers_32 : decode cX11_hashPanelAndFingers 32 = .ok (.iconst 0, 1) := by decide +kernel
theorem dX11_hashPanelAndFingers_33 : decode cX11_hashPanelAndFingers 33 = .ok (.istore 5, 2) := by decide +kernel
theorem dX11_hashPanelAndFingers_35 : decode cX11_hashPanelAndFingers 35 = .ok (.iload 5, 2) := by decide +kernel
theorem dX11_hashPanelAndFingers_37 : decode cX11_hashPanelAndFingers 37 = .ok (.iconst 5, 1) := by decide +kernel
theorem dX11_hashPanelAndFingers_38 : decode cX11_hashPanelAndFingers 38 = .ok (.if_icmp .ge 40, 3) := by decide +kernel
theorem dX11_hashPanelAndFingers_41 : decode cX11_hashPanelAndFingers 41 = .ok (.iconst 0, 1) := by decide +kernel
theorem dX11_hashPanelAndFingers_42 : decode cX11_hashPanelAndFingers 42 = .ok (.istore 6, 2) := by decide +kernel
theorem dX11_hashPanelAndFingers_44 : decode cX11_hashPanelAndFingers 44 = .ok (.iload 6, 2) := by decide +kernel
theorem dX11_hashPanelAndFingers_46 : decode cX11_hashPanelAndFingers 46 = .ok (.iconst 4, 1) := by decide +kernel
theorem dX11_hashPanelAndFingers_47 : decode cX11_hashPanelAndFingers 47 = .ok (.if_icmp .ge 25, 3) := by decide +kernel
theorem dX11_hashPanelAndFingers_50 : decode cX11_hashPanelAndFingers 50 = .ok (.ldc2_w 208, 3) := by decide +kernel
theorem dX11_hashPanelAndFingers_53 : decode cX11_hashPanelAndFingers 53 = .ok (.lload_n 3, 1) := by decide +kernel
theorem dX11_hashPanelAndFingers_54 : decode cX11_hashPanelAndFingers 54 = .ok (.lmul, 1) := by decide +kernel
theorem dX11_hashPanelAndFingers_55 : decode cX11_hashPanelAndFingers 55 = .ok (.aload_n 0, 1) := by decide +kernel
theorem dX11_hashPanelAndFingers_56 : decode cX11_hashPanelAndFingers 56 = .ok (.iload 5, 2) := by decide +kernel
theorem dX11_hashPanelAndFingers_58 : decode cX11_hashPanelAndFingers 58 = .ok (.iload 6, 2) := by decide +kernel
theorem dX11_hashPanelAndFingers_60 : decode cX11_hashPanelAndFingers 60 = .ok (.invokevirtual 222, 3) := by decide +kernel
theorem dX11_hashPanelAndFingers_63 : decode cX11_hashPanelAndFingers 63 = .ok (.i2l, 1) := by decide +kernel
theorem dX11_hashPanelAndFingers_64 : decode cX11_hashPanelAndFingers 64 = .ok (.ladd, 1) := by decide +kernel
theorem dX11_hashPanelAndFingers_65 : decode cX11_hashPanelAndFingers 65 = .ok (.lstore_n 3, 1) := by decide +kernel
theorem dX11_hashPanelAndFingers_66 : decode cX11_hashPanelAndFingers 66 = .ok (.iinc 6 1, 3) := by decide +kernel
theorem dX11_hashPanelAndFingers_69 : decode cX11_hashPanelAndFingers 69 = .ok (.goto (-25), 3) := by decide +kernel
theorem dX11_hashPanelAndFingers_72 : decode cX11_hashPanelAndFingers 72 = .ok (.iinc 5 1, 3) := by decide +kernel
theorem dX11_hashPanelAndFingers_75 : decode cX11_hashPanelAndFingers 75 = .ok (.goto (-40), 3) := by decide +kernel
theorem dX11_hashPanelAndFingers_78 : decode cX11_hashPanelAndFingers 78 = .ok (.lload_n 3, 1) := by decide +kernel
theorem dX11_hashPanelAndFingers_79 : decode cX11_hashPanelAndFingers 79 = .ok (.lreturn, 1) := by decide +kernel
theorem dX11_hashCells_0 : decode cX11_hashCells 0 = .ok (.lload_n 1, 1) := by decide +kernel
theorem dX11_hashCells_1 : decode cX11_hashCells 1 = .ok (.lstore_n 3, 1) := by decide +kernel
theorem dX11_hashCells_2 : decode cX11_hashCells 2 = .ok (.iconst 0, 1) := by decide +kernel
theorem dX11_hashCells_3 : decode cX11_hashCells 3 = .ok (.istore 5, 2) := by decide +kernel
theorem dX11_hashCells_5 : decode cX11_hashCells 5 = .ok (.iload 5, 2) := by decide +kernel
theorem dX11_hashCells_7 : decode cX11_hashCells 7 = .ok (.aload_n 0, 1) := by decide +kernel
theorem dX11_hashCells_8 : decode cX11_hashCells 8 = .ok (.getfield 28, 3) := by decide +kernel
theorem dX11_hashCells_11 : decode cX11_hashCells 11 = .ok (.getfield 48, 3) := by decide +kernel
theorem dX11_hashCells_14 : decode cX11_hashCells 14 = .ok (.getfield 95, 3) := by decide +kernel
theorem dX11_hashCells_17 : decode cX11_hashCells 17 = .ok (.if_icmp .ge 41, 3) := by decide +kernel
theorem dX11_hashCells_20 : decode cX11_hashCells 20 = .ok (.iconst 0, 1) := by decide +kernel
theorem dX11_hashCells_21 : decode cX11_hashCells 21 = .ok (.istore 6, 2) := by decide +kernel
theorem dX11_hashCells_23 : decode cX11_hashCells 23 = .ok (.iload 6, 2) := by decide +kernel
theorem dX11_hashCells_25 : decode cX11_hashCells 25 = .ok (.bipush 6, 2) := by decide +kernel
theorem dX11_hashCells_27 : decode cX11_hashCells 27 = .ok (.if_icmp .ge 25, 3) := by decide +kernel
theorem dX11_hashCells_30 : decode cX11_hashCells 30 = .ok (.ldc2_w 208, 3) := by decide +kernel
theorem dX11_hashCells_33 : decode cX11_hashCells 33 = .ok (.lload_n 3, 1) := by decide +kernel
theorem dX11_hashCells_34 : decode cX11_hashCells 34 = .ok (.lmul, 1) := by decide +kernel
theorem dX11_hashCells_35 : decode cX11_hashCells 35 = .ok (.aload_n 0, 1) := by decide +kernel
theorem dX11_hashCells_36 : decode cX11_hashCells 36 = .ok (.iload 5, 2) := by decide +kernel
theorem dX11_hashCells_38 : decode cX11_hashCells 38 = .ok (.iload 6, 2) := by decide +kernel
theorem dX11_hashCells_40 : decode cX11_hashCells 40 = .ok (.invokevirtual 225, 3) := by decide +kernel
theorem dX11_hashCells_43 : decode cX11_hashCells 43 = .ok (.i2l, 1) := by decide +kernel
theorem dX11_hashCells_44 : decode cX11_hashCells 44 = .ok (.ladd, 1) := by decide +kernel
theorem dX11_hashCells_45 : decode cX11_hashCells 45 = .ok (.lstore_n 3, 1) := by decide +kernel
theorem dX11_hashCells_46 : decode cX11_hashCells 46 = .ok (.iinc 6 1, 3) := by decide +kernel
theorem dX11_hashCells_49 : decode cX11_hashCells 49 = .ok (.goto (-26), 3) := by decide +kernel
theorem dX11_hashCells_52 : decode cX11_hashCells 52 = .ok (.iinc 5 1, 3) := by decide +kernel
theorem dX11_hashCells_55 : decode cX11_hashCells 55 = .ok (.goto (-50), 3) := by decide +kernel
theorem dX11_hashCells_58 : decode cX11_hashCells 58 = .ok (.lload_n 3, 1) := by decide +kernel
theorem dX11_hashCells_59 : decode cX11_hashCells 59 = .ok (.lreturn, 1) := by decide +kernel
theorem dX11_hashSpots_0 : decode cX11_hashSpots 0 = .ok (.lload_n 1, 1) := by decide +kernel
theorem dX11_hashSpots_1 : decode cX11_hashSpots 1 = .ok (.lstore_n 3, 1) := by decide +kernel
theorem dX11_hashSpots_2 : decode cX11_hashSpots 2 = .ok (.iconst 0, 1) := by decide +kernel
theorem dX11_hashSpots_3 : decode cX11_hashSpots 3 = .ok (.istore 5, 2) := by decide +kernel
theorem dX11_hashSpots_5 : decode cX11_hashSpots 5 = .ok (.iload 5, 2) := by decide +kernel
theorem dX11_hashSpots_7 : decode cX11_hashSpots 7 = .ok (.aload_n 0, 1) := by decide +kernel
theorem dX11_hashSpots_8 : decode cX11_hashSpots 8 = .ok (.getfield 28, 3) := by decide +kernel
theorem dX11_hashSpots_11 : decode cX11_hashSpots 11 = .ok (.getfield 154, 3) := by decide +kernel
theorem dX11_hashSpots_14 : decode cX11_hashSpots 14 = .ok (.getfield 228, 3) := by decide +kernel
theorem dX11_hashSpots_17 : decode cX11_hashSpots 17 = .ok (.if_icmp .ge 41, 3) := by decide +kernel
theorem dX11_hashSpots_20 : decode cX11_hashSpots 20 = .ok (.iconst 0, 1) := by decide +kernel
theorem dX11_hashSpots_21 : decode cX11_hashSpots 21 = .ok (.istore 6, 2) := by decide +kernel
theorem dX11_hashSpots_23 : decode cX11_hashSpots 23 = .ok (.iload 6, 2) := by decide +kernel
theorem dX11_hashSpots_25 : decode cX11_hashSpots 25 = .ok (.bipush 6, 2) := by decide +kernel
theorem dX11_hashSpots_27 : decode cX11_hashSpots 27 = .ok (.if_icmp .ge 25, 3) := by decide +kernel
theorem dX11_hashSpots_30 : decode cX11_hashSpots 30 = .ok (.ldc2_w 208, 3) := by decide +kernel
theorem dX11_hashSpots_33 : decode cX11_hashSpots 33 = .ok (.lload_n 3, 1) := by decide +kernel
theorem dX11_hashSpots_34 : decode cX11_hashSpots 34 = .ok (.lmul, 1) := by decide +kernel
theorem dX11_hashSpots_35 : decode cX11_hashSpots 35 = .ok (.aload_n 0, 1) := by decide +kernel
theorem dX11_hashSpots_36 : decode cX11_hashSpots 36 = .ok (.iload 5, 2) := by decide +kernel
theorem dX11_hashSpots_38 : decode cX11_hashSpots 38 = .ok (.iload 6, 2) := by decide +kernel
theorem dX11_hashSpots_40 : decode cX11_hashSpots 40 = .ok (.invokevirtual 231, 3) := by decide +kernel
theorem dX11_hashSpots_43 : decode cX11_hashSpots 43 = .ok (.i2l, 1) := by decide +kernel
theorem dX11_hashSpots_44 : decode cX11_hashSpots 44 = .ok (.ladd, 1) := by decide +kernel
theorem dX11_hashSpots_45 : decode cX11_hashSpots 45 = .ok (.lstore_n 3, 1) := by decide +kernel
theorem dX11_hashSpots_46 : decode cX11_hashSpots 46 = .ok (.iinc 6 1, 3) := by decide +kernel
theorem dX11_hashSpots_49 : decode cX11_hashSpots 49 = .ok (.goto (-26), 3) := by decide +kernel
theorem dX11_hashSpots_52 : decode cX11_hashSpots 52 = .ok (.iinc 5 1, 3) := by decide +kernel
theorem dX11_hashSpots_55 : decode cX11_hashSpots 55 = .ok (.goto (-50), 3) := by decide +kernel
theorem dX11_hashSpots_58 : decode cX11_hashSpots 58 = .ok (.lload_n 3, 1) := by decide +kernel
theorem dX11_hashSpots_59 : decode cX11_hashSpots 59 = .ok (.lreturn, 1) := by decide +kernel
theorem dX11_hashTracks_0 : decode cX11_hashTracks 0 = .ok (.lload_n 1, 1) := by decide +kernel
theorem dX11_hashTracks_1 : decode cX11_hashTracks 1 = .ok (.lstore_n 3, 1) := by decide +kernel
theorem dX11_hashTracks_2 : decode cX11_hashTracks 2 = .ok (.iconst 0, 1) := by decide +kernel
theorem dX11_hashTracks_3 : decode cX11_hashTracks 3 = .ok (.istore 5, 2) := by decide +kernel
theorem dX11_hashTracks_5 : decode cX11_hashTracks 5 = .ok (.iload 5, 2) := by decide +kernel
theorem dX11_hashTracks_7 : decode cX11_hashTracks 7 = .ok (.aload_n 0, 1) := by decide +kernel
theorem dX11_hashTracks_8 : decode cX11_hashTracks 8 = .ok (.getfield 28, 3) := by decide +kernel
theorem dX11_hashTracks_11 : decode cX11_hashTracks 11 = .ok (.getfield 167, 3) := by decide +kernel
theorem dX11_hashTracks_14 : decode cX11_hashTracks 14 = .ok (.getfield 234, 3) := by decide +kernel
theorem dX11_hashTracks_17 : decode cX11_hashTracks 17 = .ok (.if_icmp .ge 41, 3) := by decide +kernel
theorem dX11_hashTracks_20 : decode cX11_hashTracks 20 = .ok (.iconst 0, 1) := by decide +kernel
theorem dX11_hashTracks_21 : decode cX11_hashTracks 21 = .ok (.istore 6, 2) := by decide +kernel
theorem dX11_hashTracks_23 : decode cX11_hashTracks 23 = .ok (.iload 6, 2) := by decide +kernel
theorem dX11_hashTracks_25 : decode cX11_hashTracks 25 = .ok (.bipush 9, 2) := by decide +kernel
theorem dX11_hashTracks_27 : decode cX11_hashTracks 27 = .ok (.if_icmp .ge 25, 3) := by decide +kernel
theorem dX11_hashTracks_30 : decode cX11_hashTracks 30 = .ok (.ldc2_w 208, 3) := by decide +kernel
theorem dX11_hashTracks_33 : decode cX11_hashTracks 33 = .ok (.lload_n 3, 1) := by decide +kernel
theorem dX11_hashTracks_34 : decode cX11_hashTracks 34 = .ok (.lmul, 1) := by decide +kernel
theorem dX11_hashTracks_35 : decode cX11_hashTracks 35 = .ok (.aload_n 0, 1) := by decide +kernel
theorem dX11_hashTracks_36 : decode cX11_hashTracks 36 = .ok (.iload 5, 2) := by decide +kernel
theorem dX11_hashTracks_38 : decode cX11_hashTracks 38 = .ok (.iload 6, 2) := by decide +kernel
theorem dX11_hashTracks_40 : decode cX11_hashTracks 40 = .ok (.invokevirtual 235, 3) := by decide +kernel
theorem dX11_hashTracks_43 : decode cX11_hashTracks 43 = .ok (.i2l, 1) := by decide +kernel
theorem dX11_hashTracks_44 : decode cX11_hashTracks 44 = .ok (.ladd, 1) := by decide +kernel
theorem dX11_hashTracks_45 : decode cX11_hashTracks 45 = .ok (.lstore_n 3, 1) := by decide +kernel
theorem dX11_hashTracks_46 : decode cX11_hashTracks 46 = .ok (.iinc 6 1, 3) := by decide +kernel
theorem dX11_hashTracks_49 : decode cX11_hashTracks 49 = .ok (.goto (-26), 3) := by decide +kernel
theorem dX11_hashTracks_52 : decode cX11_hashTracks 52 = .ok (.iinc 5 1, 3) := by decide +kernel
theorem dX11_hashTracks_55 : decode cX11_hashTracks 55 = .ok (.goto (-50), 3) := by decide +kernel
theorem dX11_hashTracks_58 : decode cX11_hashTracks 58 = .ok (.lload_n 3, 1) := by decide +kernel
theorem dX11_hashTracks_59 : decode cX11_hashTracks 59 = .ok (.lreturn, 1) := by decide +kernel
theorem dX11_hashJournal_0 : decode cX11_hashJournal 0 = .ok (.lload_n 1, 1) := by decide +kernel
theorem dX11_hashJournal_1 : decode cX11_hashJournal 1 = .ok (.lstore_n 3, 1) := by decide +kernel
theorem dX11_hashJournal_2 : decode cX11_hashJournal 2 = .ok (.iconst 0, 1) := by decide +kernel
theorem dX11_hashJournal_3 : decode cX11_hashJournal 3 = .ok (.istore 5, 2) := by decide +kernel
theorem dX11_hashJournal_5 : decode cX11_hashJournal 5 = .ok (.iload 5, 2) := by decide +kernel
theorem dX11_hashJournal_7 : decode cX11_hashJournal 7 = .ok (.aload_n 0, 1) := by decide +kernel
theorem dX11_hashJournal_8 : decode cX11_hashJournal 8 = .ok (.getfield 19, 3) := by decide +kernel
theorem dX11_hashJournal_11 : decode cX11_hashJournal 11 = .ok (.invokevirtual 174, 3) := by decide +kernel
theorem dX11_hashJournal_14 : decode cX11_hashJournal 14 = .ok (.if_icmp .ge 40, 3) := by decide +kernel
theorem dX11_hashJournal_17 : decode cX11_hashJournal 17 = .ok (.iconst 0, 1) := by decide +kernel
theorem dX11_hashJournal_18 : decode cX11_hashJournal 18 = .ok (.istore 6, 2) := by decide +kernel
theorem dX11_hashJournal_20 : decode cX11_hashJournal 20 = .ok (.iload 6, 2) := by decide +kernel
theorem dX11_hashJournal_22 : decode cX11_hashJournal 22 = .ok (.iconst 3, 1) := by decide +kernel
theorem dX11_hashJournal_23 : decode cX11_hashJournal 23 = .ok (.if_icmp .ge 25, 3) := by decide +kernel
theorem dX11_hashJournal_26 : decode cX11_hashJournal 26 = .ok (.ldc2_w 208, 3) := by decide +kernel
theorem dX11_hashJournal_29 : decode cX11_hashJournal 29 = .ok (.lload_n 3, 1) := by decide +kernel
theorem dX11_hashJournal_30 : decode cX11_hashJournal 30 = .ok (.lmul, 1) := by decide +kernel
theorem dX11_hashJournal_31 : decode cX11_hashJournal 31 = .ok (.aload_n 0, 1) := by decide +kernel
theorem dX11_hashJournal_32 : decode cX11_hashJournal 32 = .ok (.iload 5, 2) := by decide +kernel
theorem dX11_hashJournal_34 : decode cX11_hashJournal 34 = .ok (.iload 6, 2) := by decide +kernel
theorem dX11_hashJournal_36 : decode cX11_hashJournal 36 = .ok (.invokevirtual 238, 3) := by decide +kernel
theorem dX11_hashJournal_39 : decode cX11_hashJournal 39 = .ok (.i2l, 1) := by decide +kernel
theorem dX11_hashJournal_40 : decode cX11_hashJournal 40 = .ok (.ladd, 1) := by decide +kernel
theorem dX11_hashJournal_41 : decode cX11_hashJournal 41 = .ok (.lstore_n 3, 1) := by decide +kernel
theorem dX11_hashJournal_42 : decode cX11_hashJournal 42 = .ok (.iinc 6 1, 3) := by decide +kernel
theorem dX11_hashJournal_45 : decode cX11_hashJournal 45 = .ok (.goto (-25), 3) := by decide +kernel
theorem dX11_hashJournal_48 : decode cX11_hashJournal 48 = .ok (.iinc 5 1, 3) := by decide +kernel
theorem dX11_hashJournal_51 : decode cX11_hashJournal 51 = .ok (.goto (-46), 3) := by decide +kernel
theorem dX11_hashJournal_54 : decode cX11_hashJournal 54 = .ok (.lload_n 3, 1) := by decide +kernel
theorem dX11_hashJournal_55 : decode cX11_hashJournal 55 = .ok (.lreturn, 1) := by decide +kernel
theorem dX11_within_0 : decode cX11_within 0 = .ok (.iload_n 0, 1) := by decide +kernel
theorem dX11_within_1 : decode cX11_within 1 = .ok (.iload_n 1, 1) := by decide +kernel
theorem dX11_within_2 : decode cX11_within 2 = .ok (.if_icmp .lt 12, 3) := by decide +kernel
theorem dX11_within_5 : decode cX11_within 5 = .ok (.iload_n 0, 1) := by decide +kernel
theorem dX11_within_6 : decode cX11_within 6 = .ok (.iload_n 2, 1) := by decide +kernel
theorem dX11_within_7 : decode cX11_within 7 = .ok (.if_icmp .gt 7, 3) := by decide +kernel
theorem dX11_within_10 : decode cX11_within 10 = .ok (.iconst 1, 1) := by decide +kernel
theorem dX11_within_11 : decode cX11_within 11 = .ok (.goto 4, 3) := by decide +kernel
theorem dX11_within_14 : decode cX11_within 14 = .ok (.iconst 0, 1) := by decide +kernel
theorem dX11_within_15 : decode cX11_within 15 = .ok (.ireturn, 1) := by decide +kernel
theorem dX12_init_0 : decode cX12_init 0 = .ok (.aload_n 0, 1) := by decide +kernel
theorem dX12_init_1 : decode cX12_init 1 = .ok (.invokespecial 1, 3) := by decide +kernel
theorem dX12_init_4 : decode cX12_init 4 = .ok (.aload_n 0, 1) := by decide +kernel
theorem dX12_init_5 : decode cX12_init 5 = .ok (.bipush 40, 2) := by decide +kernel
theorem dX12_init_7 : decode cX12_init 7 = .ok (.newarray .int, 2) := by decide +kernel
theorem dX12_init_9 : decode cX12_init 9 = .ok (.putfield 7, 3) := by decide +kernel
theorem dX12_init_12 : decode cX12_init 12 = .ok (.aload_n 0, 1) := by decide +kernel
theorem dX12_init_13 : decode cX12_init 13 = .ok (.bipush 64, 2) := by decide +kernel
theorem dX12_init_15 : decode cX12_init 15 = .ok (.newarray .int, 2) := by decide +kernel
theorem dX12_init_17 : decode cX12_init 17 = .ok (.putfield 13, 3) := by decide +kernel
theorem dX12_init_20 : decode cX12_init 20 = .ok (.aload_n 0, 1) := by decide +kernel
theorem dX12_init_21 : decode cX12_init 21 = .ok (.bipush 64, 2) := by decide +kernel
theorem dX12_init_23 : decode cX12_init 23 = .ok (.newarray .int, 2) := by decide +kernel
theorem dX12_init_25 : decode cX12_init 25 = .ok (.putfield 16, 3) := by decide +kernel
theorem dX12_init_28 : decode cX12_init 28 = .ok (.aload_n 0, 1) := by decide +kernel
theorem dX12_init_29 : decode cX12_init 29 = .ok (.bipush 64, 2) := by decide +kernel
theorem dX12_init_31 : decode cX12_init 31 = .ok (.newarray .int, 2) := by decide +kernel
theorem dX12_init_33 : decode cX12_init 33 = .ok (.putfield 19, 3) := by decide +kernel
theorem dX12_init_36 : decode cX12_init 36 = .ok (.aload_n 0, 1) := by decide +kernel
theorem dX12_init_37 : decode cX12_init 37 = .ok (.bipush 64, 2) := by decide +kernel
theorem dX12_init_39 : decode cX12_init 39 = .ok (.newarray .int, 2) := by decide +kernel
theorem dX12_init_41 : decode cX12_init 41 = .ok (.putfield 22, 3) := by decide +kernel
theorem dX12_init_44 : decode cX12_init 44 = .ok (.aload_n 0, 1) := by decide +kernel
theorem dX12_init_45 : decode cX12_init 45 = .ok (.bipush 64, 2) := by decide +kernel
theorem dX12_init_47 : decode cX12_init 47 = .ok (.newarray .int, 2) := by decide +kernel
theorem dX12_init_49 : decode cX12_init 49 = .ok (.putfield 25, 3) := by decide +kernel
theorem dX12_init_52 : decode cX12_init 52 = .ok (.aload_n 0, 1) := by decide +kernel
theorem dX12_init_53 : decode cX12_init 53 = .ok (.iconst 5, 1) := by decide +kernel
theorem dX12_init_54 : decode cX12_init 54 = .ok (.newarray .boolean, 2) := by decide +kernel
theorem dX12_init_56 : decode cX12_init 56 = .ok (.putfield 28, 3) := by decide +kernel
theorem dX12_init_59 : decode cX12_init 59 = .ok (.aload_n 0, 1) := by decide +kernel
theorem dX12_init_60 : decode cX12_init 60 = .ok (.iconst 5, 1) := by decide +kernel
theorem dX12_init_61 : decode cX12_init 61 = .ok (.newarray .int, 2) := by decide +kernel
theorem dX12_init_63 : decode cX12_init 63 = .ok (.putfield 32, 3) := by decide +kernel
theorem dX12_init_66 : decode cX12_init 66 = .ok (.aload_n 0, 1) := by decide +kernel
theorem dX12_init_67 : decode cX12_init 67 = .ok (.iconst 5, 1) := by decide +kernel
theorem dX12_init_68 : decode cX12_init 68 = .ok (.newarray .int, 2) := by decide +kernel
theorem dX12_init_70 : decode cX12_init 70 = .ok (.putfield 35, 3) := by decide +kernel
theorem dX12_init_73 : decode cX12_init 73 = .ok (.aload_n 0, 1) := by decide +kernel
theorem dX12_init_74 : decode cX12_init 74 = .ok (.iconst 5, 1) := by decide +kernel
theorem dX12_init_75 : decode cX12_init 75 = .ok (.newarray .int, 2) := by decide +kernel
theorem dX12_init_77 : decode cX12_init 77 = .ok (.putfield 38, 3) := by decide +kernel
theorem dX12_init_80 : decode cX12_init 80 = .ok (.aload_n 0, 1) := by decide +kernel
theorem dX12_init_81 : decode cX12_init 81 = .ok (.iconst 3, 1) := by decide +kernel
theorem dX12_init_82 : decode cX12_init 82 = .ok (.newarray .int, 2) := by decide +kernel
theorem dX12_init_84 : decode cX12_init 84 = .ok (.putfield 41, 3) := by decide +kernel
theorem dX12_init_87 : decode cX12_init 87 = .ok (.aload_n 0, 1) := by decide +kernel
theorem dX12_init_88 : decode cX12_init 88 = .ok (.bipush 9, 2) := by decide +kernel
theorem dX12_init_90 : decode cX12_init 90 = .ok (.newarray .int, 2) := by decide +kernel
theorem dX12_init_92 : decode cX12_init 92 = .ok (.putfield 44, 3) := by decide +kernel
theorem dX12_init_95 : decode cX12_init 95 = .ok (.aload_n 0, 1) := by decide +kernel
theorem dX12_init_96 : decode cX12_init 96 = .ok (.bipush 6, 2) := by decide +kernel
theorem dX12_init_98 : decode cX12_init 98 = .ok (.newarray .int, 2) := by decide +kernel
theorem dX12_init_100 : decode cX12_init 100 = .ok (.putfield 47, 3) := by decide +kernel
theorem dX12_init_103 : decode cX12_init 103 = .ok (.aload_n 0, 1) := by decide +kernel
theorem dX12_init_104 : decode cX12_init 104 = .ok (.bipush 6, 2) := by decide +kernel
theorem dX12_init_106 : decode cX12_init 106 = .ok (.newarray .int, 2) := by decide +kernel
theorem dX12_init_108 : decode cX12_init 108 = .ok (.putfield 50, 3) := by decide +kernel
theorem dX12_init_111 : decode cX12_init 111 = .ok (.aload_n 0, 1) := by decide +kernel
theorem dX12_init_112 : decode cX12_init 112 = .ok (.bipush 6, 2) := by decide +kernel
theorem dX12_init_114 : decode cX12_init 114 = .ok (.newarray .int, 2) := by decide +kernel
theorem dX12_init_116 : decode cX12_init 116 = .ok (.putfield 53, 3) := by decide +kernel
theorem dX12_init_119 : decode cX12_init 119 = .ok (.aload_n 0, 1) := by decide +kernel
theorem dX12_init_120 : decode cX12_init 120 = .ok (.bipush 6, 2) := by decide +kernel
theorem dX12_init_122 : decode cX12_init 122 = .ok (.newarray .int, 2) := by decide +kernel
theorem dX12_init_124 : decode cX12_init 124 = .ok (.putfield 56, 3) := by decide +kernel
theorem dX12_init_127 : decode cX12_init 127 = .ok (.aload_n 0, 1) := by decide +kernel
theorem dX12_init_128 : decode cX12_init 128 = .ok (.bipush 6, 2) := by decide +kernel
theorem dX12_init_130 : decode cX12_init 130 = .ok (.newarray .int, 2) := by decide +kernel
theorem dX12_init_132 : decode cX12_init 132 = .ok (.putfield 59, 3) := by decide +kernel
theorem dX12_init_135 : decode cX12_init 135 = .ok (.aload_n 0, 1) := by decide +kernel
theorem dX12_init_136 : decode cX12_init 136 = .ok (.bipush 6, 2) := by decide +kernel
theorem dX12_init_138 : decode cX12_init 138 = .ok (.newarray .int, 2) := by decide +kernel
theorem dX12_init_140 : decode cX12_init 140 = .ok (.putfield 62, 3) := by decide +kernel
theorem dX12_init_143 : decode cX12_init 143 = .ok (.aload_n 0, 1) := by decide +kernel
theorem dX12_init_144 : decode cX12_init 144 = .ok (.bipush 6, 2) := by decide +kernel
theorem dX12_init_146 : decode cX12_init 146 = .ok (.newarray .int, 2) := by decide +kernel
theorem dX12_init_148 : decode cX12_init 148 = .ok (.putfield 65, 3) := by decide +kernel
theorem dX12_init_151 : decode cX12_init 151 = .ok (.aload_n 0, 1) := by decide +kernel
theorem dX12_init_152 : decode cX12_init 152 = .ok (.bipush 6, 2) := by decide +kernel
theorem dX12_init_154 : decode cX12_init 154 = .ok (.newarray .int, 2) := by decide +kernel
theorem dX12_init_156 : decode cX12_init 156 = .ok (.putfield 68, 3) := by decide +kernel
theorem dX12_init_159 : decode cX12_init 159 = .ok (.aload_n 0, 1) := by decide +kernel
theorem dX12_init_160 : decode cX12_init 160 = .ok (.bipush 6, 2) := by decide +kernel
theorem dX12_init_162 : decode cX12_init 162 = .ok (.newarray .int, 2) := by decide +kernel
theorem dX12_init_164 : decode cX12_init 164 = .ok (.putfield 71, 3) := by decide +kernel
theorem dX12_init_167 : decode cX12_init 167 = .ok (.aload_n 0, 1) := by decide +kernel
theorem dX12_init_168 : decode cX12_init 168 = .ok (.bipush 6, 2) := by decide +kernel
theorem dX12_init_170 : decode cX12_init 170 = .ok (.newarray .int, 2) := by decide +kernel
theorem dX12_init_172 : decode cX12_init 172 = .ok (.putfield 74, 3) := by decide +kernel
theorem dX12_init_175 : decode cX12_init 175 = .ok (.aload_n 0, 1) := by decide +kernel
theorem dX12_init_176 : decode cX12_init 176 = .ok (.bipush 6, 2) := by decide +kernel
theorem dX12_init_178 : decode cX12_init 178 = .ok (.newarray .int, 2) := by decide +kernel
theorem dX12_init_180 : decode cX12_init 180 = .ok (.putfield 77, 3) := by decide +kernel
theorem dX12_init_183 : decode cX12_init 183 = .ok (.aload_n 0, 1) := by decide +kernel
theorem dX12_init_184 : decode cX12_init 184 = .ok (.bipush 6, 2) := by decide +kernel
theorem dX12_init_186 : decode cX12_init 186 = .ok (.newarray .int, 2) := by decide +kernel
theorem dX12_init_188 : decode cX12_init 188 = .ok (.putfield 80, 3) := by decide +kernel
theorem dX12_init_191 : decode cX12_init 191 = .ok (.aload_n 0, 1) := by decide +kernel
theorem dX12_init_192 : decode cX12_init 192 = .ok (.bipush 6, 2) := by decide +kernel
theorem dX12_init_194 : decode cX12_init 194 = .ok (.newarray .int, 2) := by decide +kernel
theorem dX12_init_196 : decode cX12_init 196 = .ok (.putfield 83, 3) := by decide +kernel
theorem dX12_init_199 : decode cX12_init 199 = .ok (.aload_n 0, 1) := by decide +kernel
theorem dX12_init_200 : decode cX12_init 200 = .ok (.bipush 6, 2) := by decide +kernel
theorem dX12_init_202 : decode cX12_init 202 = .ok (.newarray .int, 2) := by decide +kernel
theorem dX12_init_204 : decode cX12_init 204 = .ok (.putfield 86, 3) := by decide +kernel
theorem dX12_init_207 : decode cX12_init 207 = .ok (.aload_n 0, 1) := by decide +kernel
theorem dX12_init_208 : decode cX12_init 208 = .ok (.bipush 6, 2) := by decide +kernel
theorem dX12_init_210 : decode cX12_init 210 = .ok (.newarray .boolean, 2) := by decide +kernel
theorem dX12_init_212 : decode cX12_init 212 = .ok (.putfield 89, 3) := by decide +kernel
theorem dX12_init_215 : decode cX12_init 215 = .ok (.aload_n 0, 1) := by decide +kernel
theorem dX12_init_216 : decode cX12_init 216 = .ok (.bipush 12, 2) := by decide +kernel
theorem dX12_init_218 : decode cX12_init 218 = .ok (.newarray .int, 2) := by decide +kernel
theorem dX12_init_220 : decode cX12_init 220 = .ok (.putfield 92, 3) := by decide +kernel
theorem dX12_init_223 : decode cX12_init 223 = .ok (.aload_n 0, 1) := by decide +kernel
theorem dX12_init_224 : decode cX12_init 224 = .ok (.bipush 12, 2) := by decide +kernel
theorem dX12_init_226 : decode cX12_init 226 = .ok (.newarray .int, 2) := by decide +kernel
theorem dX12_init_228 : decode cX12_init 228 = .ok (.putfield 95, 3) := by decide +kernel
theorem dX12_init_231 : decode cX12_init 231 = .ok (.aload_n 0, 1) := by decide +kernel
theorem dX12_init_232 : decode cX12_init 232 = .ok (.bipush 12, 2) := by decide +kernel
theorem dX12_init_234 : decode cX12_init 234 = .ok (.newarray .int, 2) := by decide +kernel
theorem dX12_init_236 : decode cX12_init 236 = .ok (.putfield 98, 3) := by decide +kernel
theorem dX12_init_239 : decode cX12_init 239 = .ok (.aload_n 0, 1) := by decide +kernel
theorem dX12_init_240 : decode cX12_init 240 = .ok (.iconst 5, 1) := by decide +kernel
