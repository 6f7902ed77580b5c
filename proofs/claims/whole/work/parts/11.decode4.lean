theorem dX12_isBestPair_35 : decode cX12_isBestPair 35 = .ok (.iconst 1, 1) := by decide +kernel
theorem dX12_isBestPair_36 : decode cX12_isBestPair 36 = .ok (.iload_n 2, 1) := by decide +kernel
theorem dX12_isBestPair_37 : decode cX12_isBestPair 37 = .ok (.ishl, 1) := by decide +kernel
theorem dX12_isBestPair_38 : decode cX12_isBestPair 38 = .ok (.ior, 1) := by decide +kernel
theorem dX12_isBestPair_39 : decode cX12_isBestPair 39 = .ok (.iadd, 1) := by decide +kernel
theorem dX12_isBestPair_40 : decode cX12_isBestPair 40 = .ok (.istore 5, 2) := by decide +kernel
theorem dX12_isBestPair_42 : decode cX12_isBestPair 42 = .ok (.aload_n 0, 1) := by decide +kernel
theorem dX12_isBestPair_43 : decode cX12_isBestPair 43 = .ok (.getfield 107, 3) := by decide +kernel
theorem dX12_isBestPair_46 : decode cX12_isBestPair 46 = .ok (.iload 5, 2) := by decide +kernel
theorem dX12_isBestPair_48 : decode cX12_isBestPair 48 = .ok (.iaload, 1) := by decide +kernel
theorem dX12_isBestPair_49 : decode cX12_isBestPair 49 = .ok (.iconst 1, 1) := by decide +kernel
theorem dX12_isBestPair_50 : decode cX12_isBestPair 50 = .ok (.iadd, 1) := by decide +kernel
theorem dX12_isBestPair_51 : decode cX12_isBestPair 51 = .ok (.aload_n 0, 1) := by decide +kernel
theorem dX12_isBestPair_52 : decode cX12_isBestPair 52 = .ok (.getfield 107, 3) := by decide +kernel
theorem dX12_isBestPair_55 : decode cX12_isBestPair 55 = .ok (.iload 4, 2) := by decide +kernel
theorem dX12_isBestPair_57 : decode cX12_isBestPair 57 = .ok (.iaload, 1) := by decide +kernel
theorem dX12_isBestPair_58 : decode cX12_isBestPair 58 = .ok (.if_icmp .ne 31, 3) := by decide +kernel
theorem dX12_isBestPair_61 : decode cX12_isBestPair 61 = .ok (.aload_n 0, 1) := by decide +kernel
theorem dX12_isBestPair_62 : decode cX12_isBestPair 62 = .ok (.getfield 110, 3) := by decide +kernel
theorem dX12_isBestPair_65 : decode cX12_isBestPair 65 = .ok (.iload 5, 2) := by decide +kernel
theorem dX12_isBestPair_67 : decode cX12_isBestPair 67 = .ok (.iaload, 1) := by decide +kernel
theorem dX12_isBestPair_68 : decode cX12_isBestPair 68 = .ok (.aload_n 0, 1) := by decide +kernel
theorem dX12_isBestPair_69 : decode cX12_isBestPair 69 = .ok (.iload_n 1, 1) := by decide +kernel
theorem dX12_isBestPair_70 : decode cX12_isBestPair 70 = .ok (.iload_n 2, 1) := by decide +kernel
theorem dX12_isBestPair_71 : decode cX12_isBestPair 71 = .ok (.invokevirtual 303, 3) := by decide +kernel
theorem dX12_isBestPair_74 : decode cX12_isBestPair 74 = .ok (.iadd, 1) := by decide +kernel
theorem dX12_isBestPair_75 : decode cX12_isBestPair 75 = .ok (.aload_n 0, 1) := by decide +kernel
theorem dX12_isBestPair_76 : decode cX12_isBestPair 76 = .ok (.getfield 110, 3) := by decide +kernel
theorem dX12_isBestPair_79 : decode cX12_isBestPair 79 = .ok (.iload 4, 2) := by decide +kernel
theorem dX12_isBestPair_81 : decode cX12_isBestPair 81 = .ok (.iaload, 1) := by decide +kernel
theorem dX12_isBestPair_82 : decode cX12_isBestPair 82 = .ok (.if_icmp .ne 7, 3) := by decide +kernel
theorem dX12_isBestPair_85 : decode cX12_isBestPair 85 = .ok (.iconst 1, 1) := by decide +kernel
theorem dX12_isBestPair_86 : decode cX12_isBestPair 86 = .ok (.goto 4, 3) := by decide +kernel
theorem dX12_isBestPair_89 : decode cX12_isBestPair 89 = .ok (.iconst 0, 1) := by decide +kernel
theorem dX12_isBestPair_90 : decode cX12_isBestPair 90 = .ok (.ireturn, 1) := by decide +kernel
theorem dX12_layPairs_0 : decode cX12_layPairs 0 = .ok (.iconst 0, 1) := by decide +kernel
theorem dX12_layPairs_1 : decode cX12_layPairs 1 = .ok (.istore_n 1, 1) := by decide +kernel
theorem dX12_layPairs_2 : decode cX12_layPairs 2 = .ok (.iload_n 1, 1) := by decide +kernel
theorem dX12_layPairs_3 : decode cX12_layPairs 3 = .ok (.bipush 64, 2) := by decide +kernel
theorem dX12_layPairs_5 : decode cX12_layPairs 5 = .ok (.if_icmp .ge 39, 3) := by decide +kernel
theorem dX12_layPairs_8 : decode cX12_layPairs 8 = .ok (.aload_n 0, 1) := by decide +kernel
theorem dX12_layPairs_9 : decode cX12_layPairs 9 = .ok (.getfield 107, 3) := by decide +kernel
theorem dX12_layPairs_12 : decode cX12_layPairs 12 = .ok (.bipush 64, 2) := by decide +kernel
theorem dX12_layPairs_14 : decode cX12_layPairs 14 = .ok (.aload_n 0, 1) := by decide +kernel
theorem dX12_layPairs_15 : decode cX12_layPairs 15 = .ok (.getfield 212, 3) := by decide +kernel
theorem dX12_layPairs_18 : decode cX12_layPairs 18 = .ok (.imul, 1) := by decide +kernel
theorem dX12_layPairs_19 : decode cX12_layPairs 19 = .ok (.iload_n 1, 1) := by decide +kernel
theorem dX12_layPairs_20 : decode cX12_layPairs 20 = .ok (.iadd, 1) := by decide +kernel
theorem dX12_layPairs_21 : decode cX12_layPairs 21 = .ok (.iconst 0, 1) := by decide +kernel
theorem dX12_layPairs_22 : decode cX12_layPairs 22 = .ok (.iastore, 1) := by decide +kernel
theorem dX12_layPairs_23 : decode cX12_layPairs 23 = .ok (.aload_n 0, 1) := by decide +kernel
theorem dX12_layPairs_24 : decode cX12_layPairs 24 = .ok (.getfield 110, 3) := by decide +kernel
theorem dX12_layPairs_27 : decode cX12_layPairs 27 = .ok (.bipush 64, 2) := by decide +kernel
theorem dX12_layPairs_29 : decode cX12_layPairs 29 = .ok (.aload_n 0, 1) := by decide +kernel
theorem dX12_layPairs_30 : decode cX12_layPairs 30 = .ok (.getfield 212, 3) := by decide +kernel
theorem dX12_layPairs_33 : decode cX12_layPairs 33 = .ok (.imul, 1) := by decide +kernel
theorem dX12_layPairs_34 : decode cX12_layPairs 34 = .ok (.iload_n 1, 1) := by decide +kernel
theorem dX12_layPairs_35 : decode cX12_layPairs 35 = .ok (.iadd, 1) := by decide +kernel
theorem dX12_layPairs_36 : decode cX12_layPairs 36 = .ok (.iconst 0, 1) := by decide +kernel
theorem dX12_layPairs_37 : decode cX12_layPairs 37 = .ok (.iastore, 1) := by decide +kernel
theorem dX12_layPairs_38 : decode cX12_layPairs 38 = .ok (.iinc 1 1, 3) := by decide +kernel
theorem dX12_layPairs_41 : decode cX12_layPairs 41 = .ok (.goto (-39), 3) := by decide +kernel
theorem dX12_layPairs_44 : decode cX12_layPairs 44 = .ok (.aload_n 0, 1) := by decide +kernel
theorem dX12_layPairs_45 : decode cX12_layPairs 45 = .ok (.getfield 212, 3) := by decide +kernel
theorem dX12_layPairs_48 : decode cX12_layPairs 48 = .ok (.iconst 1, 1) := by decide +kernel
theorem dX12_layPairs_49 : decode cX12_layPairs 49 = .ok (.isub, 1) := by decide +kernel
theorem dX12_layPairs_50 : decode cX12_layPairs 50 = .ok (.istore_n 1, 1) := by decide +kernel
theorem dX12_layPairs_51 : decode cX12_layPairs 51 = .ok (.iload_n 1, 1) := by decide +kernel
theorem dX12_layPairs_52 : decode cX12_layPairs 52 = .ok (.ifCond .lt 29, 3) := by decide +kernel
theorem dX12_layPairs_55 : decode cX12_layPairs 55 = .ok (.iconst 0, 1) := by decide +kernel
theorem dX12_layPairs_56 : decode cX12_layPairs 56 = .ok (.istore_n 2, 1) := by decide +kernel
theorem dX12_layPairs_57 : decode cX12_layPairs 57 = .ok (.iload_n 2, 1) := by decide +kernel
theorem dX12_layPairs_58 : decode cX12_layPairs 58 = .ok (.bipush 64, 2) := by decide +kernel
theorem dX12_layPairs_60 : decode cX12_layPairs 60 = .ok (.if_icmp .ge 15, 3) := by decide +kernel
theorem dX12_layPairs_63 : decode cX12_layPairs 63 = .ok (.aload_n 0, 1) := by decide +kernel
theorem dX12_layPairs_64 : decode cX12_layPairs 64 = .ok (.iload_n 1, 1) := by decide +kernel
theorem dX12_layPairs_65 : decode cX12_layPairs 65 = .ok (.iload_n 2, 1) := by decide +kernel
theorem dX12_layPairs_66 : decode cX12_layPairs 66 = .ok (.invokevirtual 309, 3) := by decide +kernel
theorem dX12_layPairs_69 : decode cX12_layPairs 69 = .ok (.iinc 2 1, 3) := by decide +kernel
theorem dX12_layPairs_72 : decode cX12_layPairs 72 = .ok (.goto (-15), 3) := by decide +kernel
theorem dX12_layPairs_75 : decode cX12_layPairs 75 = .ok (.iinc 1 (-1), 3) := by decide +kernel
theorem dX12_layPairs_78 : decode cX12_layPairs 78 = .ok (.goto (-27), 3) := by decide +kernel
theorem dX12_layPairs_81 : decode cX12_layPairs 81 = .ok (.iconst 0, 1) := by decide +kernel
theorem dX12_layPairs_82 : decode cX12_layPairs 82 = .ok (.istore_n 1, 1) := by decide +kernel
theorem dX12_layPairs_83 : decode cX12_layPairs 83 = .ok (.iconst 0, 1) := by decide +kernel
theorem dX12_layPairs_84 : decode cX12_layPairs 84 = .ok (.istore_n 2, 1) := by decide +kernel
theorem dX12_layPairs_85 : decode cX12_layPairs 85 = .ok (.iload_n 2, 1) := by decide +kernel
theorem dX12_layPairs_86 : decode cX12_layPairs 86 = .ok (.aload_n 0, 1) := by decide +kernel
theorem dX12_layPairs_87 : decode cX12_layPairs 87 = .ok (.getfield 212, 3) := by decide +kernel
theorem dX12_layPairs_90 : decode cX12_layPairs 90 = .ok (.if_icmp .ge 72, 3) := by decide +kernel
theorem dX12_layPairs_93 : decode cX12_layPairs 93 = .ok (.iconst 0, 1) := by decide +kernel
theorem dX12_layPairs_94 : decode cX12_layPairs 94 = .ok (.istore_n 3, 1) := by decide +kernel
theorem dX12_layPairs_95 : decode cX12_layPairs 95 = .ok (.iload_n 3, 1) := by decide +kernel
theorem dX12_layPairs_96 : decode cX12_layPairs 96 = .ok (.aload_n 0, 1) := by decide +kernel
theorem dX12_layPairs_97 : decode cX12_layPairs 97 = .ok (.getfield 209, 3) := by decide +kernel
theorem dX12_layPairs_100 : decode cX12_layPairs 100 = .ok (.if_icmp .ge 19, 3) := by decide +kernel
theorem dX12_layPairs_103 : decode cX12_layPairs 103 = .ok (.aload_n 0, 1) := by decide +kernel
theorem dX12_layPairs_104 : decode cX12_layPairs 104 = .ok (.iload_n 2, 1) := by decide +kernel
theorem dX12_layPairs_105 : decode cX12_layPairs 105 = .ok (.iload_n 3, 1) := by decide +kernel
theorem dX12_layPairs_106 : decode cX12_layPairs 106 = .ok (.iload_n 1, 1) := by decide +kernel
theorem dX12_layPairs_107 : decode cX12_layPairs 107 = .ok (.invokevirtual 313, 3) := by decide +kernel
theorem dX12_layPairs_110 : decode cX12_layPairs 110 = .ok (.ifCond .ne 9, 3) := by decide +kernel
theorem dX12_layPairs_113 : decode cX12_layPairs 113 = .ok (.iinc 3 1, 3) := by decide +kernel
theorem dX12_layPairs_116 : decode cX12_layPairs 116 = .ok (.goto (-21), 3) := by decide +kernel
theorem dX12_layPairs_119 : decode cX12_layPairs 119 = .ok (.aload_n 0, 1) := by decide +kernel
theorem dX12_layPairs_120 : decode cX12_layPairs 120 = .ok (.getfield 113, 3) := by decide +kernel
theorem dX12_layPairs_123 : decode cX12_layPairs 123 = .ok (.iload_n 2, 1) := by decide +kernel
theorem dX12_layPairs_124 : decode cX12_layPairs 124 = .ok (.iload_n 3, 1) := by decide +kernel
theorem dX12_layPairs_125 : decode cX12_layPairs 125 = .ok (.aload_n 0, 1) := by decide +kernel
theorem dX12_layPairs_126 : decode cX12_layPairs 126 = .ok (.getfield 209, 3) := by decide +kernel
theorem dX12_layPairs_129 : decode cX12_layPairs 129 = .ok (.if_icmp .ge 7, 3) := by decide +kernel
theorem dX12_layPairs_132 : decode cX12_layPairs 132 = .ok (.iload_n 3, 1) := by decide +kernel
theorem dX12_layPairs_133 : decode cX12_layPairs 133 = .ok (.goto 4, 3) := by decide +kernel
theorem dX12_layPairs_136 : decode cX12_layPairs 136 = .ok (.iconst (-1), 1) := by decide +kernel
theorem dX12_layPairs_137 : decode cX12_layPairs 137 = .ok (.iastore, 1) := by decide +kernel
theorem dX12_layPairs_138 : decode cX12_layPairs 138 = .ok (.iload_n 1, 1) := by decide +kernel
theorem dX12_layPairs_139 : decode cX12_layPairs 139 = .ok (.iload_n 3, 1) := by decide +kernel
theorem dX12_layPairs_140 : decode cX12_layPairs 140 = .ok (.aload_n 0, 1) := by decide +kernel
theorem dX12_layPairs_141 : decode cX12_layPairs 141 = .ok (.getfield 209, 3) := by decide +kernel
theorem dX12_layPairs_144 : decode cX12_layPairs 144 = .ok (.if_icmp .ge 9, 3) := by decide +kernel
theorem dX12_layPairs_147 : decode cX12_layPairs 147 = .ok (.iconst 1, 1) := by decide +kernel
theorem dX12_layPairs_148 : decode cX12_layPairs 148 = .ok (.iload_n 3, 1) := by decide +kernel
theorem dX12_layPairs_149 : decode cX12_layPairs 149 = .ok (.ishl, 1) := by decide +kernel
theorem dX12_layPairs_150 : decode cX12_layPairs 150 = .ok (.goto 4, 3) := by decide +kernel
theorem dX12_layPairs_153 : decode cX12_layPairs 153 = .ok (.iconst 0, 1) := by decide +kernel
theorem dX12_layPairs_154 : decode cX12_layPairs 154 = .ok (.ior, 1) := by decide +kernel
theorem dX12_layPairs_155 : decode cX12_layPairs 155 = .ok (.istore_n 1, 1) := by decide +kernel
theorem dX12_layPairs_156 : decode cX12_layPairs 156 = .ok (.iinc 2 1, 3) := by decide +kernel
theorem dX12_layPairs_159 : decode cX12_layPairs 159 = .ok (.goto (-74), 3) := by decide +kernel
theorem dX12_layPairs_162 : decode cX12_layPairs 162 = .ok (.return_, 1) := by decide +kernel
theorem dX12_happens_0 : decode cX12_happens 0 = .ok (.aload_n 0, 1) := by decide +kernel
theorem dX12_happens_1 : decode cX12_happens 1 = .ok (.dup, 1) := by decide +kernel
theorem dX12_happens_2 : decode cX12_happens 2 = .ok (.getfield 316, 3) := by decide +kernel
theorem dX12_happens_5 : decode cX12_happens 5 = .ok (.aload_n 0, 1) := by decide +kernel
theorem dX12_happens_6 : decode cX12_happens 6 = .ok (.getfield 316, 3) := by decide +kernel
theorem dX12_happens_9 : decode cX12_happens 9 = .ok (.bipush 12, 2) := by decide +kernel
theorem dX12_happens_11 : decode cX12_happens 11 = .ok (.if_icmp .ge 7, 3) := by decide +kernel
theorem dX12_happens_14 : decode cX12_happens 14 = .ok (.iconst 1, 1) := by decide +kernel
theorem dX12_happens_15 : decode cX12_happens 15 = .ok (.goto 4, 3) := by decide +kernel
theorem dX12_happens_18 : decode cX12_happens 18 = .ok (.iconst 0, 1) := by decide +kernel
theorem dX12_happens_19 : decode cX12_happens 19 = .ok (.iadd, 1) := by decide +kernel
theorem dX12_happens_20 : decode cX12_happens 20 = .ok (.putfield 316, 3) := by decide +kernel
theorem dX12_happens_23 : decode cX12_happens 23 = .ok (.aload_n 0, 1) := by decide +kernel
theorem dX12_happens_24 : decode cX12_happens 24 = .ok (.getfield 316, 3) := by decide +kernel
theorem dX12_happens_27 : decode cX12_happens 27 = .ok (.iconst 1, 1) := by decide +kernel
theorem dX12_happens_28 : decode cX12_happens 28 = .ok (.isub, 1) := by decide +kernel
theorem dX12_happens_29 : decode cX12_happens 29 = .ok (.istore_n 3, 1) := by decide +kernel
theorem dX12_happens_30 : decode cX12_happens 30 = .ok (.iload_n 3, 1) := by decide +kernel
theorem dX12_happens_31 : decode cX12_happens 31 = .ok (.ifCond .le 51, 3) := by decide +kernel
theorem dX12_happens_34 : decode cX12_happens 34 = .ok (.aload_n 0, 1) := by decide +kernel
theorem dX12_happens_35 : decode cX12_happens 35 = .ok (.getfield 92, 3) := by decide +kernel
theorem dX12_happens_38 : decode cX12_happens 38 = .ok (.iload_n 3, 1) := by decide +kernel
theorem dX12_happens_39 : decode cX12_happens 39 = .ok (.aload_n 0, 1) := by decide +kernel
theorem dX12_happens_40 : decode cX12_happens 40 = .ok (.getfield 92, 3) := by decide +kernel
theorem dX12_happens_43 : decode cX12_happens 43 = .ok (.iload_n 3, 1) := by decide +kernel
theorem dX12_happens_44 : decode cX12_happens 44 = .ok (.iconst 1, 1) := by decide +kernel
theorem dX12_happens_45 : decode cX12_happens 45 = .ok (.isub, 1) := by decide +kernel
theorem dX12_happens_46 : decode cX12_happens 46 = .ok (.iaload, 1) := by decide +kernel
theorem dX12_happens_47 : decode cX12_happens 47 = .ok (.iastore, 1) := by decide +kernel
theorem dX12_happens_48 : decode cX12_happens 48 = .ok (.aload_n 0, 1) := by decide +kernel
theorem dX12_happens_49 : decode cX12_happens 49 = .ok (.getfield 95, 3) := by decide +kernel
theorem dX12_happens_52 : decode cX12_happens 52 = .ok (.iload_n 3, 1) := by decide +kernel
theorem dX12_happens_53 : decode cX12_happens 53 = .ok (.aload_n 0, 1) := by decide +kernel
theorem dX12_happens_54 : decode cX12_happens 54 = .ok (.getfield 95, 3) := by decide +kernel
theorem dX12_happens_57 : decode cX12_happens 57 = .ok (.iload_n 3, 1) := by decide +kernel
theorem dX12_happens_58 : decode cX12_happens 58 = .ok (.iconst 1, 1) := by decide +kernel
theorem dX12_happens_59 : decode cX12_happens 59 = .ok (.isub, 1) := by decide +kernel
theorem dX12_happens_60 : decode cX12_happens 60 = .ok (.iaload, 1) := by decide +kernel
theorem dX12_happens_61 : decode cX12_happens 61 = .ok (.iastore, 1) := by decide +kernel
theorem dX12_happens_62 : decode cX12_happens 62 = .ok (.aload_n 0, 1) := by decide +kernel
theorem dX12_happens_63 : decode cX12_happens 63 = .ok (.getfield 98, 3) := by decide +kernel
theorem dX12_happens_66 : decode cX12_happens 66 = .ok (.iload_n 3, 1) := by decide +kernel
theorem dX12_happens_67 : decode cX12_happens 67 = .ok (.aload_n 0, 1) := by decide +kernel
theorem dX12_happens_68 : decode cX12_happens 68 = .ok (.getfield 98, 3) := by decide +kernel
theorem dX12_happens_71 : decode cX12_happens 71 = .ok (.iload_n 3, 1) := by decide +kernel
theorem dX12_happens_72 : decode cX12_happens 72 = .ok (.iconst 1, 1) := by decide +kernel
theorem dX12_happens_73 : decode cX12_happens 73 = .ok (.isub, 1) := by decide +kernel
theorem dX12_happens_74 : decode cX12_happens 74 = .ok (.iaload, 1) := by decide +kernel
theorem dX12_happens_75 : decode cX12_happens 75 = .ok (.iastore, 1) := by decide +kernel
theorem dX12_happens_76 : decode cX12_happens 76 = .ok (.iinc 3 (-1), 3) := by decide +kernel
theorem dX12_happens_79 : decode cX12_happens 79 = .ok (.goto (-49), 3) := by decide +kernel
theorem dX12_happens_82 : decode cX12_happens 82 = .ok (.aload_n 0, 1) := by decide +kernel
theorem dX12_happens_83 : decode cX12_happens 83 = .ok (.getfield 92, 3) := by decide +kernel
theorem dX12_happens_86 : decode cX12_happens 86 = .ok (.iconst 0, 1) := by decide +kernel
theorem dX12_happens_87 : decode cX12_happens 87 = .ok (.iload_n 1, 1) := by decide +kernel
theorem dX12_happens_88 : decode cX12_happens 88 = .ok (.iastore, 1) := by decide +kernel
theorem dX12_happens_89 : decode cX12_happens 89 = .ok (.aload_n 0, 1) := by decide +kernel
theorem dX12_happens_90 : decode cX12_happens 90 = .ok (.getfield 95, 3) := by decide +kernel
theorem dX12_happens_93 : decode cX12_happens 93 = .ok (.iconst 0, 1) := by decide +kernel
theorem dX12_happens_94 : decode cX12_happens 94 = .ok (.iload_n 2, 1) := by decide +kernel
theorem dX12_happens_95 : decode cX12_happens 95 = .ok (.iastore, 1) := by decide +kernel
theorem dX12_happens_96 : decode cX12_happens 96 = .ok (.aload_n 0, 1) := by decide +kernel
theorem dX12_happens_97 : decode cX12_happens 97 = .ok (.getfield 98, 3) := by decide +kernel
theorem dX12_happens_100 : decode cX12_happens 100 = .ok (.iconst 0, 1) := by decide +kernel
theorem dX12_happens_101 : decode cX12_happens 101 = .ok (.aload_n 0, 1) := by decide +kernel
theorem dX12_happens_102 : decode cX12_happens 102 = .ok (.getfield 200, 3) := by decide +kernel
theorem dX12_happens_105 : decode cX12_happens 105 = .ok (.iastore, 1) := by decide +kernel
theorem dX12_happens_106 : decode cX12_happens 106 = .ok (.aload_n 0, 1) := by decide +kernel
theorem dX12_happens_107 : decode cX12_happens 107 = .ok (.getfield 101, 3) := by decide +kernel
theorem dX12_happens_110 : decode cX12_happens 110 = .ok (.iload_n 1, 1) := by decide +kernel
theorem dX12_happens_111 : decode cX12_happens 111 = .ok (.dup2, 1) := by decide +kernel
theorem dX12_happens_112 : decode cX12_happens 112 = .ok (.iaload, 1) := by decide +kernel
theorem dX12_happens_113 : decode cX12_happens 113 = .ok (.iconst 1, 1) := by decide +kernel
theorem dX12_happens_114 : decode cX12_happens 114 = .ok (.iadd, 1) := by decide +kernel
theorem dX12_happens_115 : decode cX12_happens 115 = .ok (.iastore, 1) := by decide +kernel
theorem dX12_happens_116 : decode cX12_happens 116 = .ok (.return_, 1) := by decide +kernel
theorem dX12_follow_0 : decode cX12_follow 0 = .ok (.aload_n 0, 1) := by decide +kernel
theorem dX12_follow_1 : decode cX12_follow 1 = .ok (.getfield 86, 3) := by decide +kernel
theorem dX12_follow_4 : decode cX12_follow 4 = .ok (.iload_n 1, 1) := by decide +kernel
theorem dX12_follow_5 : decode cX12_follow 5 = .ok (.dup2, 1) := by decide +kernel
theorem dX12_follow_6 : decode cX12_follow 6 = .ok (.iaload, 1) := by decide +kernel
theorem dX12_follow_7 : decode cX12_follow 7 = .ok (.aload_n 0, 1) := by decide +kernel
theorem dX12_follow_8 : decode cX12_follow 8 = .ok (.getfield 68, 3) := by decide +kernel
theorem dX12_follow_11 : decode cX12_follow 11 = .ok (.iload_n 1, 1) := by decide +kernel
theorem dX12_follow_12 : decode cX12_follow 12 = .ok (.iaload, 1) := by decide +kernel
theorem dX12_follow_13 : decode cX12_follow 13 = .ok (.aload_n 0, 1) := by decide +kernel
theorem dX12_follow_14 : decode cX12_follow 14 = .ok (.getfield 56, 3) := by decide +kernel
theorem dX12_follow_17 : decode cX12_follow 17 = .ok (.iload_n 2, 1) := by decide +kernel
theorem dX12_follow_18 : decode cX12_follow 18 = .ok (.iaload, 1) := by decide +kernel
theorem dX12_follow_19 : decode cX12_follow 19 = .ok (.isub, 1) := by decide +kernel
theorem dX12_follow_20 : decode cX12_follow 20 = .ok (.invokestatic 297, 3) := by decide +kernel
theorem dX12_follow_23 : decode cX12_follow 23 = .ok (.aload_n 0, 1) := by decide +kernel
theorem dX12_follow_24 : decode cX12_follow 24 = .ok (.getfield 71, 3) := by decide +kernel
theorem dX12_follow_27 : decode cX12_follow 27 = .ok (.iload_n 1, 1) := by decide +kernel
theorem dX12_follow_28 : decode cX12_follow 28 = .ok (.iaload, 1) := by decide +kernel
theorem dX12_follow_29 : decode cX12_follow 29 = .ok (.aload_n 0, 1) := by decide +kernel
theorem dX12_follow_30 : decode cX12_follow 30 = .ok (.getfield 59, 3) := by decide +kernel
theorem dX12_follow_33 : decode cX12_follow 33 = .ok (.iload_n 2, 1) := by decide +kernel
theorem dX12_follow_34 : decode cX12_follow 34 = .ok (.iaload, 1) := by decide +kernel
theorem dX12_follow_35 : decode cX12_follow 35 = .ok (.isub, 1) := by decide +kernel
theorem dX12_follow_36 : decode cX12_follow 36 = .ok (.invokestatic 297, 3) := by decide +kernel
theorem dX12_follow_39 : decode cX12_follow 39 = .ok (.iadd, 1) := by decide +kernel
theorem dX12_follow_40 : decode cX12_follow 40 = .ok (.iadd, 1) := by decide +kernel
theorem dX12_follow_41 : decode cX12_follow 41 = .ok (.iastore, 1) := by decide +kernel
theorem dX12_follow_42 : decode cX12_follow 42 = .ok (.aload_n 0, 1) := by decide +kernel
theorem dX12_follow_43 : decode cX12_follow 43 = .ok (.iload_n 1, 1) := by decide +kernel
theorem dX12_follow_44 : decode cX12_follow 44 = .ok (.iload_n 2, 1) := by decide +kernel
theorem dX12_follow_45 : decode cX12_follow 45 = .ok (.invokevirtual 319, 3) := by decide +kernel
theorem dX12_follow_48 : decode cX12_follow 48 = .ok (.aload_n 0, 1) := by decide +kernel
theorem dX12_follow_49 : decode cX12_follow 49 = .ok (.getfield 80, 3) := by decide +kernel
theorem dX12_follow_52 : decode cX12_follow 52 = .ok (.iload_n 1, 1) := by decide +kernel
theorem dX12_follow_53 : decode cX12_follow 53 = .ok (.dup2, 1) := by decide +kernel
theorem dX12_follow_54 : decode cX12_follow 54 = .ok (.iaload, 1) := by decide +kernel
theorem dX12_follow_55 : decode cX12_follow 55 = .ok (.iconst 1, 1) := by decide +kernel
theorem dX12_follow_56 : decode cX12_follow 56 = .ok (.iadd, 1) := by decide +kernel
theorem dX12_follow_57 : decode cX12_follow 57 = .ok (.iastore, 1) := by decide +kernel
theorem dX12_follow_58 : decode cX12_follow 58 = .ok (.aload_n 0, 1) := by decide +kernel
theorem dX12_follow_59 : decode cX12_follow 59 = .ok (.getfield 83, 3) := by decide +kernel
theorem dX12_follow_62 : decode cX12_follow 62 = .ok (.iload_n 1, 1) := by decide +kernel
theorem dX12_follow_63 : decode cX12_follow 63 = .ok (.iconst 0, 1) := by decide +kernel
theorem dX12_follow_64 : decode cX12_follow 64 = .ok (.iastore, 1) := by decide +kernel
theorem dX12_follow_65 : decode cX12_follow 65 = .ok (.aload_n 0, 1) := by decide +kernel
theorem dX12_follow_66 : decode cX12_follow 66 = .ok (.getfield 62, 3) := by decide +kernel
theorem dX12_follow_69 : decode cX12_follow 69 = .ok (.iload_n 2, 1) := by decide +kernel
theorem dX12_follow_70 : decode cX12_follow 70 = .ok (.aload_n 0, 1) := by decide +kernel
theorem dX12_follow_71 : decode cX12_follow 71 = .ok (.getfield 65, 3) := by decide +kernel
theorem dX12_follow_74 : decode cX12_follow 74 = .ok (.iload_n 1, 1) := by decide +kernel
theorem dX12_follow_75 : decode cX12_follow 75 = .ok (.iaload, 1) := by decide +kernel
theorem dX12_follow_76 : decode cX12_follow 76 = .ok (.iastore, 1) := by decide +kernel
theorem dX12_follow_77 : decode cX12_follow 77 = .ok (.aload_n 0, 1) := by decide +kernel
theorem dX12_follow_78 : decode cX12_follow 78 = .ok (.getfield 74, 3) := by decide +kernel
theorem dX12_follow_81 : decode cX12_follow 81 = .ok (.iload_n 1, 1) := by decide +kernel
theorem dX12_follow_82 : decode cX12_follow 82 = .ok (.iaload, 1) := by decide +kernel
theorem dX12_follow_83 : decode cX12_follow 83 = .ok (.aload_n 0, 1) := by decide +kernel
theorem dX12_follow_84 : decode cX12_follow 84 = .ok (.getfield 44, 3) := by decide +kernel
theorem dX12_follow_87 : decode cX12_follow 87 = .ok (.iconst 3, 1) := by decide +kernel
theorem dX12_follow_88 : decode cX12_follow 88 = .ok (.iaload, 1) := by decide +kernel
theorem dX12_follow_89 : decode cX12_follow 89 = .ok (.if_icmp .lt 40, 3) := by decide +kernel
theorem dX12_follow_92 : decode cX12_follow 92 = .ok (.aload_n 0, 1) := by decide +kernel
theorem dX12_follow_93 : decode cX12_follow 93 = .ok (.getfield 89, 3) := by decide +kernel
theorem dX12_follow_96 : decode cX12_follow 96 = .ok (.iload_n 1, 1) := by decide +kernel
theorem dX12_follow_97 : decode cX12_follow 97 = .ok (.baload, 1) := by decide +kernel
theorem dX12_follow_98 : decode cX12_follow 98 = .ok (.ifCond .ne 31, 3) := by decide +kernel
theorem dX12_follow_101 : decode cX12_follow 101 = .ok (.aload_n 0, 1) := by decide +kernel
theorem dX12_follow_102 : decode cX12_follow 102 = .ok (.getfield 89, 3) := by decide +kernel
theorem dX12_follow_105 : decode cX12_follow 105 = .ok (.iload_n 1, 1) := by decide +kernel
theorem dX12_follow_106 : decode cX12_follow 106 = .ok (.iconst 1, 1) := by decide +kernel
theorem dX12_follow_107 : decode cX12_follow 107 = .ok (.bastore, 1) := by decide +kernel
theorem dX12_follow_108 : decode cX12_follow 108 = .ok (.aload_n 0, 1) := by decide +kernel
theorem dX12_follow_109 : decode cX12_follow 109 = .ok (.getfield 80, 3) := by decide +kernel
theorem dX12_follow_112 : decode cX12_follow 112 = .ok (.iload_n 1, 1) := by decide +kernel
theorem dX12_follow_113 : decode cX12_follow 113 = .ok (.iaload, 1) := by decide +kernel
theorem dX12_follow_114 : decode cX12_follow 114 = .ok (.iconst 2, 1) := by decide +kernel
theorem dX12_follow_115 : decode cX12_follow 115 = .ok (.if_icmp .le 14, 3) := by decide +kernel
theorem dX12_follow_118 : decode cX12_follow 118 = .ok (.aload_n 0, 1) := by decide +kernel
theorem dX12_follow_119 : decode cX12_follow 119 = .ok (.iconst 3, 1) := by decide +kernel
theorem dX12_follow_120 : decode cX12_follow 120 = .ok (.aload_n 0, 1) := by decide +kernel
theorem dX12_follow_121 : decode cX12_follow 121 = .ok (.getfield 65, 3) := by decide +kernel
theorem dX12_follow_124 : decode cX12_follow 124 = .ok (.iload_n 1, 1) := by decide +kernel
theorem dX12_follow_125 : decode cX12_follow 125 = .ok (.iaload, 1) := by decide +kernel
theorem dX12_follow_126 : decode cX12_follow 126 = .ok (.invokevirtual 322, 3) := by decide +kernel
theorem dX12_follow_129 : decode cX12_follow 129 = .ok (.aload_n 0, 1) := by decide +kernel
theorem dX12_follow_130 : decode cX12_follow 130 = .ok (.getfield 80, 3) := by decide +kernel
theorem dX12_follow_133 : decode cX12_follow 133 = .ok (.iload_n 1, 1) := by decide +kernel
theorem dX12_follow_134 : decode cX12_follow 134 = .ok (.iaload, 1) := by decide +kernel
theorem dX12_follow_135 : decode cX12_follow 135 = .ok (.iconst 2, 1) := by decide +kernel
theorem dX12_follow_136 : decode cX12_follow 136 = .ok (.if_icmp .ne 23, 3) := by decide +kernel
theorem dX12_follow_139 : decode cX12_follow 139 = .ok (.aload_n 0, 1) := by decide +kernel
theorem dX12_follow_140 : decode cX12_follow 140 = .ok (.getfield 89, 3) := by decide +kernel
theorem dX12_follow_143 : decode cX12_follow 143 = .ok (.iload_n 1, 1) := by decide +kernel
theorem dX12_follow_144 : decode cX12_follow 144 = .ok (.baload, 1) := by decide +kernel
theorem dX12_follow_145 : decode cX12_follow 145 = .ok (.ifCond .ne 14, 3) := by decide +kernel
theorem dX12_follow_148 : decode cX12_follow 148 = .ok (.aload_n 0, 1) := by decide +kernel
theorem dX12_follow_149 : decode cX12_follow 149 = .ok (.iconst 1, 1) := by decide +kernel
theorem dX12_follow_150 : decode cX12_follow 150 = .ok (.aload_n 0, 1) := by decide +kernel
theorem dX12_follow_151 : decode cX12_follow 151 = .ok (.getfield 65, 3) := by decide +kernel
theorem dX12_follow_154 : decode cX12_follow 154 = .ok (.iload_n 1, 1) := by decide +kernel
theorem dX12_follow_155 : decode cX12_follow 155 = .ok (.iaload, 1) := by decide +kernel
theorem dX12_follow_156 : decode cX12_follow 156 = .ok (.invokevirtual 322, 3) := by decide +kernel
theorem dX12_follow_159 : decode cX12_follow 159 = .ok (.return_, 1) := by decide +kernel
theorem dX12_lay_0 : decode cX12_lay 0 = .ok (.aload_n 0, 1) := by decide +kernel
theorem dX12_lay_1 : decode cX12_lay 1 = .ok (.getfield 68, 3) := by decide +kernel
theorem dX12_lay_4 : decode cX12_lay 4 = .ok (.iload_n 1, 1) := by decide +kernel
theorem dX12_lay_5 : decode cX12_lay 5 = .ok (.aload_n 0, 1) := by decide +kernel
theorem dX12_lay_6 : decode cX12_lay 6 = .ok (.getfield 56, 3) := by decide +kernel
theorem dX12_lay_9 : decode cX12_lay 9 = .ok (.iload_n 2, 1) := by decide +kernel
theorem dX12_lay_10 : decode cX12_lay 10 = .ok (.iaload, 1) := by decide +kernel
theorem dX12_lay_11 : decode cX12_lay 11 = .ok (.iastore, 1) := by decide +kernel
theorem dX12_lay_12 : decode cX12_lay 12 = .ok (.aload_n 0, 1) := by decide +kernel
theorem dX12_lay_13 : decode cX12_lay 13 = .ok (.getfield 71, 3) := by decide +kernel
theorem dX12_lay_16 : decode cX12_lay 16 = .ok (.iload_n 1, 1) := by decide +kernel
theorem dX12_lay_17 : decode cX12_lay 17 = .ok (.aload_n 0, 1) := by decide +kernel
theorem dX12_lay_18 : decode cX12_lay 18 = .ok (.getfield 59, 3) := by decide +kernel
theorem dX12_lay_21 : decode cX12_lay 21 = .ok (.iload_n 2, 1) := by decide +kernel
theorem dX12_lay_22 : decode cX12_lay 22 = .ok (.iaload, 1) := by decide +kernel
theorem dX12_lay_23 : decode cX12_lay 23 = .ok (.iastore, 1) := by decide +kernel
theorem dX12_lay_24 : decode cX12_lay 24 = .ok (.aload_n 0, 1) := by decide +kernel
theorem dX12_lay_25 : decode cX12_lay 25 = .ok (.getfield 74, 3) := by decide +kernel
theorem dX12_lay_28 : decode cX12_lay 28 = .ok (.iload_n 1, 1) := by decide +kernel
theorem dX12_lay_29 : decode cX12_lay 29 = .ok (.aload_n 0, 1) := by decide +kernel
theorem dX12_lay_30 : decode cX12_lay 30 = .ok (.getfield 50, 3) := by decide +kernel
theorem dX12_lay_33 : decode cX12_lay 33 = .ok (.iload_n 2, 1) := by decide +kernel
theorem dX12_lay_34 : decode cX12_lay 34 = .ok (.iaload, 1) := by decide +kernel
theorem dX12_lay_35 : decode cX12_lay 35 = .ok (.iastore, 1) := by decide +kernel
theorem dX12_lay_36 : decode cX12_lay 36 = .ok (.aload_n 0, 1) := by decide +kernel
theorem dX12_lay_37 : decode cX12_lay 37 = .ok (.getfield 77, 3) := by decide +kernel
theorem dX12_lay_40 : decode cX12_lay 40 = .ok (.iload_n 1, 1) := by decide +kernel
theorem dX12_lay_41 : decode cX12_lay 41 = .ok (.aload_n 0, 1) := by decide +kernel
theorem dX12_lay_42 : decode cX12_lay 42 = .ok (.getfield 53, 3) := by decide +kernel
theorem dX12_lay_45 : decode cX12_lay 45 = .ok (.iload_n 2, 1) := by decide +kernel
theorem dX12_lay_46 : decode cX12_lay 46 = .ok (.iaload, 1) := by decide +kernel
theorem dX12_lay_47 : decode cX12_lay 47 = .ok (.iastore, 1) := by decide +kernel
theorem dX12_lay_48 : decode cX12_lay 48 = .ok (.return_, 1) := by decide +kernel
theorem dX12_isLost_0 : decode cX12_isLost 0 = .ok (.aload_n 0, 1) := by decide +kernel
theorem dX12_isLost_1 : decode cX12_isLost 1 = .ok (.getfield 83, 3) := by decide +kernel
theorem dX12_isLost_4 : decode cX12_isLost 4 = .ok (.iload_n 1, 1) := by decide +kernel
theorem dX12_isLost_5 : decode cX12_isLost 5 = .ok (.dup2, 1) := by decide +kernel
theorem dX12_isLost_6 : decode cX12_isLost 6 = .ok (.iaload, 1) := by decide +kernel
theorem dX12_isLost_7 : decode cX12_isLost 7 = .ok (.iconst 1, 1) := by decide +kernel
theorem dX12_isLost_8 : decode cX12_isLost 8 = .ok (.iadd, 1) := by decide +kernel
theorem dX12_isLost_9 : decode cX12_isLost 9 = .ok (.iastore, 1) := by decide +kernel
theorem dX12_isLost_10 : decode cX12_isLost 10 = .ok (.aload_n 0, 1) := by decide +kernel
theorem dX12_isLost_11 : decode cX12_isLost 11 = .ok (.getfield 83, 3) := by decide +kernel
theorem dX12_isLost_14 : decode cX12_isLost 14 = .ok (.iload_n 1, 1) := by decide +kernel
theorem dX12_isLost_15 : decode cX12_isLost 15 = .ok (.iaload, 1) := by decide +kernel
theorem dX12_isLost_16 : decode cX12_isLost 16 = .ok (.aload_n 0, 1) := by decide +kernel
theorem dX12_isLost_17 : decode cX12_isLost 17 = .ok (.getfield 44, 3) := by decide +kernel
theorem dX12_isLost_20 : decode cX12_isLost 20 = .ok (.iconst 5, 1) := by decide +kernel
theorem dX12_isLost_21 : decode cX12_isLost 21 = .ok (.iaload, 1) := by decide +kernel
theorem dX12_isLost_22 : decode cX12_isLost 22 = .ok (.if_icmp .gt 5, 3) := by decide +kernel
theorem dX12_isLost_25 : decode cX12_isLost 25 = .ok (.iconst 0, 1) := by decide +kernel
theorem dX12_isLost_26 : decode cX12_isLost 26 = .ok (.ireturn, 1) := by decide +kernel
theorem dX12_isLost_27 : decode cX12_isLost 27 = .ok (.aload_n 0, 1) := by decide +kernel
theorem dX12_isLost_28 : decode cX12_isLost 28 = .ok (.getfield 89, 3) := by decide +kernel
theorem dX12_isLost_31 : decode cX12_isLost 31 = .ok (.iload_n 1, 1) := by decide +kernel
theorem dX12_isLost_32 : decode cX12_isLost 32 = .ok (.baload, 1) := by decide +kernel
theorem dX12_isLost_33 : decode cX12_isLost 33 = .ok (.ifCond .ne 55, 3) := by decide +kernel
theorem dX12_isLost_36 : decode cX12_isLost 36 = .ok (.aload_n 0, 1) := by decide +kernel
theorem dX12_isLost_37 : decode cX12_isLost 37 = .ok (.getfield 80, 3) := by decide +kernel
theorem dX12_isLost_40 : decode cX12_isLost 40 = .ok (.iload_n 1, 1) := by decide +kernel
theorem dX12_isLost_41 : decode cX12_isLost 41 = .ok (.iaload, 1) := by decide +kernel
theorem dX12_isLost_42 : decode cX12_isLost 42 = .ok (.iconst 1, 1) := by decide +kernel
theorem dX12_isLost_43 : decode cX12_isLost 43 = .ok (.if_icmp .le 45, 3) := by decide +kernel
theorem dX12_isLost_46 : decode cX12_isLost 46 = .ok (.aload_n 0, 1) := by decide +kernel
theorem dX12_isLost_47 : decode cX12_isLost 47 = .ok (.aload_n 0, 1) := by decide +kernel
theorem dX12_isLost_48 : decode cX12_isLost 48 = .ok (.getfield 80, 3) := by decide +kernel
theorem dX12_isLost_51 : decode cX12_isLost 51 = .ok (.iload_n 1, 1) := by decide +kernel
theorem dX12_isLost_52 : decode cX12_isLost 52 = .ok (.iaload, 1) := by decide +kernel
theorem dX12_isLost_53 : decode cX12_isLost 53 = .ok (.aload_n 0, 1) := by decide +kernel
theorem dX12_isLost_54 : decode cX12_isLost 54 = .ok (.getfield 44, 3) := by decide +kernel
theorem dX12_isLost_57 : decode cX12_isLost 57 = .ok (.bipush 6, 2) := by decide +kernel
theorem dX12_isLost_59 : decode cX12_isLost 59 = .ok (.iaload, 1) := by decide +kernel
theorem dX12_isLost_60 : decode cX12_isLost 60 = .ok (.if_icmp .gt 18, 3) := by decide +kernel
theorem dX12_isLost_63 : decode cX12_isLost 63 = .ok (.aload_n 0, 1) := by decide +kernel
theorem dX12_isLost_64 : decode cX12_isLost 64 = .ok (.getfield 86, 3) := by decide +kernel
theorem dX12_isLost_67 : decode cX12_isLost 67 = .ok (.iload_n 1, 1) := by decide +kernel
theorem dX12_isLost_68 : decode cX12_isLost 68 = .ok (.iaload, 1) := by decide +kernel
theorem dX12_isLost_69 : decode cX12_isLost 69 = .ok (.bipush 16, 2) := by decide +kernel
theorem dX12_isLost_71 : decode cX12_isLost 71 = .ok (.if_icmp .gt 7, 3) := by decide +kernel
theorem dX12_isLost_74 : decode cX12_isLost 74 = .ok (.iconst 4, 1) := by decide +kernel
theorem dX12_isLost_75 : decode cX12_isLost 75 = .ok (.goto 4, 3) := by decide +kernel
theorem dX12_isLost_78 : decode cX12_isLost 78 = .ok (.iconst 2, 1) := by decide +kernel
theorem dX12_isLost_79 : decode cX12_isLost 79 = .ok (.aload_n 0, 1) := by decide +kernel
theorem dX12_isLost_80 : decode cX12_isLost 80 = .ok (.getfield 65, 3) := by decide +kernel
theorem dX12_isLost_83 : decode cX12_isLost 83 = .ok (.iload_n 1, 1) := by decide +kernel
theorem dX12_isLost_84 : decode cX12_isLost 84 = .ok (.iaload, 1) := by decide +kernel
theorem dX12_isLost_85 : decode cX12_isLost 85 = .ok (.invokevirtual 322, 3) := by decide +kernel
theorem dX12_isLost_88 : decode cX12_isLost 88 = .ok (.iconst 1, 1) := by decide +kernel
theorem dX12_isLost_89 : decode cX12_isLost 89 = .ok (.ireturn, 1) := by decide +kernel
theorem dX12_keepAs_0 : decode cX12_keepAs 0 = .ok (.aload_n 0, 1) := by decide +kernel
theorem dX12_keepAs_1 : decode cX12_keepAs 1 = .ok (.getfield 65, 3) := by decide +kernel
theorem dX12_keepAs_4 : decode cX12_keepAs 4 = .ok (.iload_n 2, 1) := by decide +kernel
theorem dX12_keepAs_5 : decode cX12_keepAs 5 = .ok (.aload_n 0, 1) := by decide +kernel
theorem dX12_keepAs_6 : decode cX12_keepAs 6 = .ok (.getfield 65, 3) := by decide +kernel
theorem dX12_keepAs_9 : decode cX12_keepAs 9 = .ok (.iload_n 1, 1) := by decide +kernel
theorem dX12_keepAs_10 : decode cX12_keepAs 10 = .ok (.iaload, 1) := by decide +kernel
theorem dX12_keepAs_11 : decode cX12_keepAs 11 = .ok (.iastore, 1) := by decide +kernel
theorem dX12_keepAs_12 : decode cX12_keepAs 12 = .ok (.aload_n 0, 1) := by decide +kernel
theorem dX12_keepAs_13 : decode cX12_keepAs 13 = .ok (.getfield 68, 3) := by decide +kernel
theorem dX12_keepAs_16 : decode cX12_keepAs 16 = .ok (.iload_n 2, 1) := by decide +kernel
theorem dX12_keepAs_17 : decode cX12_keepAs 17 = .ok (.aload_n 0, 1) := by decide +kernel
theorem dX12_keepAs_18 : decode cX12_keepAs 18 = .ok (.getfield 68, 3) := by decide +kernel
theorem dX12_keepAs_21 : decode cX12_keepAs 21 = .ok (.iload_n 1, 1) := by decide +kernel
theorem dX12_keepAs_22 : decode cX12_keepAs 22 = .ok (.iaload, 1) := by decide +kernel
theorem dX12_keepAs_23 : decode cX12_keepAs 23 = .ok (.iastore, 1) := by decide +kernel
theorem dX12_keepAs_24 : decode cX12_keepAs 24 = .ok (.aload_n 0, 1) := by decide +kernel
theorem dX12_keepAs_25 : decode cX12_keepAs 25 = .ok (.getfield 71, 3) := by decide +kernel
theorem dX12_keepAs_28 : decode cX12_keepAs 28 = .ok (.iload_n 2, 1) := by decide +kernel
theorem dX12_keepAs_29 : decode cX12_keepAs 29 = .ok (.aload_n 0, 1) := by decide +kernel
theorem dX12_keepAs_30 : decode cX12_keepAs 30 = .ok (.getfield 71, 3) := by decide +kernel
theorem dX12_keepAs_33 : decode cX12_keepAs 33 = .ok (.iload_n 1, 1) := by decide +kernel
theorem dX12_keepAs_34 : decode cX12_keepAs 34 = .ok (.iaload, 1) := by decide +kernel
theorem dX12_keepAs_35 : decode cX12_keepAs 35 = .ok (.iastore, 1) := by decide +kernel
theorem dX12_keepAs_36 : decode cX12_keepAs 36 = .ok (.aload_n 0, 1) := by decide +kernel
theorem dX12_keepAs_37 : decode cX12_keepAs 37 = .ok (.getfield 74, 3) := by decide +kernel
theorem dX12_keepAs_40 : decode cX12_keepAs 40 = .ok (.iload_n 2, 1) := by decide +kernel
theorem dX12_keepAs_41 : decode cX12_keepAs 41 = .ok (.aload_n 0, 1) := by decide +kernel
theorem dX12_keepAs_42 : decode cX12_keepAs 42 = .ok (.getfield 74, 3) := by decide +kernel
theorem dX12_keepAs_45 : decode cX12_keepAs 45 = .ok (.iload_n 1, 1) := by decide +kernel
theorem dX12_keepAs_46 : decode cX12_keepAs 46 = .ok (.iaload, 1) := by decide +kernel
theorem dX12_keepAs_47 : decode cX12_keepAs 47 = .ok (.iastore, 1) := by decide +kernel
theorem dX12_keepAs_48 : decode cX12_keepAs 48 = .ok (.aload_n 0, 1) := by decide +kernel
theorem dX12_keepAs_49 : decode cX12_keepAs 49 = .ok (.getfield 77, 3) := by decide +kernel
theorem dX12_keepAs_52 : decode cX12_keepAs 52 = .ok (.iload_n 2, 1) := by decide +kernel
theorem dX12_keepAs_53 : decode cX12_keepAs 53 = .ok (.aload_n 0, 1) := by decide +kernel
theorem dX12_keepAs_54 : decode cX12_keepAs 54 = .ok (.getfield 77, 3) := by decide +kernel
theorem dX12_keepAs_57 : decode cX12_keepAs 57 = .ok (.iload_n 1, 1) := by decide +kernel
theorem dX12_keepAs_58 : decode cX12_keepAs 58 = .ok (.iaload, 1) := by decide +kernel
theorem dX12_keepAs_59 : decode cX12_keepAs 59 = .ok (.iastore, 1) := by decide +kernel
theorem dX12_keepAs_60 : decode cX12_keepAs 60 = .ok (.aload_n 0, 1) := by decide +kernel
theorem dX12_keepAs_61 : decode cX12_keepAs 61 = .ok (.getfield 80, 3) := by decide +kernel
theorem dX12_keepAs_64 : decode cX12_keepAs 64 = .ok (.iload_n 2, 1) := by decide +kernel
theorem dX12_keepAs_65 : decode cX12_keepAs 65 = .ok (.aload_n 0, 1) := by decide +kernel
theorem dX12_keepAs_66 : decode cX12_keepAs 66 = .ok (.getfield 80, 3) := by decide +kernel
theorem dX12_keepAs_69 : decode cX12_keepAs 69 = .ok (.iload_n 1, 1) := by decide +kernel
theorem dX12_keepAs_70 : decode cX12_keepAs 70 = .ok (.iaload, 1) := by decide +kernel
theorem dX12_keepAs_71 : decode cX12_keepAs 71 = .ok (.iastore, 1) := by decide +kernel
theorem dX12_keepAs_72 : decode cX12_keepAs 72 = .ok (.aload_n 0, 1) := by decide +kernel
theorem dX12_keepAs_73 : decode cX12_keepAs 73 = .ok (.getfield 83, 3) := by decide +kernel
theorem dX12_keepAs_76 : decode cX12_keepAs 76 = .ok (.iload_n 2, 1) := by decide +kernel
theorem dX12_keepAs_77 : decode cX12_keepAs 77 = .ok (.aload_n 0, 1) := by decide +kernel
theorem dX12_keepAs_78 : decode cX12_keepAs 78 = .ok (.getfield 83, 3) := by decide +kernel
theorem dX12_keepAs_81 : decode cX12_keepAs 81 = .ok (.iload_n 1, 1) := by decide +kernel
theorem dX12_keepAs_82 : decode cX12_keepAs 82 = .ok (.iaload, 1) := by decide +kernel
theorem dX12_keepAs_83 : decode cX12_keepAs 83 = .ok (.iastore, 1) := by decide +kernel
theorem dX12_keepAs_84 : decode cX12_keepAs 84 = .ok (.aload_n 0, 1) := by decide +kernel
theorem dX12_keepAs_85 : decode cX12_keepAs 85 = .ok (.getfield 86, 3) := by decide +kernel
theorem dX12_keepAs_88 : decode cX12_keepAs 88 = .ok (.iload_n 2, 1) := by decide +kernel
theorem dX12_keepAs_89 : decode cX12_keepAs 89 = .ok (.aload_n 0, 1) := by decide +kernel
theorem dX12_keepAs_90 : decode cX12_keepAs 90 = .ok (.getfield 86, 3) := by decide +kernel
theorem dX12_keepAs_93 : decode cX12_keepAs 93 = .ok (.iload_n 1, 1) := by decide +kernel
theorem dX12_keepAs_94 : decode cX12_keepAs 94 = .ok (.iaload, 1) := by decide +kernel
theorem dX12_keepAs_95 : decode cX12_keepAs 95 = .ok (.iastore, 1) := by decide +kernel
theorem dX12_keepAs_96 : decode cX12_keepAs 96 = .ok (.aload_n 0, 1) := by decide +kernel
theorem dX12_keepAs_97 : decode cX12_keepAs 97 = .ok (.getfield 89, 3) := by decide +kernel
theorem dX12_keepAs_100 : decode cX12_keepAs 100 = .ok (.iload_n 2, 1) := by decide +kernel
theorem dX12_keepAs_101 : decode cX12_keepAs 101 = .ok (.aload_n 0, 1) := by decide +kernel
theorem dX12_keepAs_102 : decode cX12_keepAs 102 = .ok (.getfield 89, 3) := by decide +kernel
theorem dX12_keepAs_105 : decode cX12_keepAs 105 = .ok (.iload_n 1, 1) := by decide +kernel
theorem dX12_keepAs_106 : decode cX12_keepAs 106 = .ok (.baload, 1) := by decide +kernel
theorem dX12_keepAs_107 : decode cX12_keepAs 107 = .ok (.bastore, 1) := by decide +kernel
theorem dX12_keepAs_108 : decode cX12_keepAs 108 = .ok (.return_, 1) := by decide +kernel
theorem dX12_followAll_0 : decode cX12_followAll 0 = .ok (.iconst 0, 1) := by decide +kernel
theorem dX12_followAll_1 : decode cX12_followAll 1 = .ok (.istore_n 1, 1) := by decide +kernel
theorem dX12_followAll_2 : decode cX12_followAll 2 = .ok (.iconst 0, 1) := by decide +kernel
theorem dX12_followAll_3 : decode cX12_followAll 3 = .ok (.istore_n 2, 1) := by decide +kernel
theorem dX12_followAll_4 : decode cX12_followAll 4 = .ok (.iload_n 2, 1) := by decide +kernel
theorem dX12_followAll_5 : decode cX12_followAll 5 = .ok (.aload_n 0, 1) := by decide +kernel
theorem dX12_followAll_6 : decode cX12_followAll 6 = .ok (.getfield 212, 3) := by decide +kernel
theorem dX12_followAll_9 : decode cX12_followAll 9 = .ok (.if_icmp .ge 54, 3) := by decide +kernel
theorem dX12_followAll_12 : decode cX12_followAll 12 = .ok (.iconst 0, 1) := by decide +kernel
theorem dX12_followAll_13 : decode cX12_followAll 13 = .ok (.istore_n 3, 1) := by decide +kernel
theorem dX12_followAll_14 : decode cX12_followAll 14 = .ok (.aload_n 0, 1) := by decide +kernel
theorem dX12_followAll_15 : decode cX12_followAll 15 = .ok (.getfield 113, 3) := by decide +kernel
theorem dX12_followAll_18 : decode cX12_followAll 18 = .ok (.iload_n 2, 1) := by decide +kernel
theorem dX12_followAll_19 : decode cX12_followAll 19 = .ok (.iaload, 1) := by decide +kernel
theorem dX12_followAll_20 : decode cX12_followAll 20 = .ok (.iconst (-1), 1) := by decide +kernel
theorem dX12_followAll_21 : decode cX12_followAll 21 = .ok (.if_icmp .eq 17, 3) := by decide +kernel
theorem dX12_followAll_24 : decode cX12_followAll 24 = .ok (.aload_n 0, 1) := by decide +kernel
theorem dX12_followAll_25 : decode cX12_followAll 25 = .ok (.iload_n 2, 1) := by decide +kernel
theorem dX12_followAll_26 : decode cX12_followAll 26 = .ok (.aload_n 0, 1) := by decide +kernel
theorem dX12_followAll_27 : decode cX12_followAll 27 = .ok (.getfield 113, 3) := by decide +kernel
theorem dX12_followAll_30 : decode cX12_followAll 30 = .ok (.iload_n 2, 1) := by decide +kernel
theorem dX12_followAll_31 : decode cX12_followAll 31 = .ok (.iaload, 1) := by decide +kernel
theorem dX12_followAll_32 : decode cX12_followAll 32 = .ok (.invokevirtual 325, 3) := by decide +kernel
theorem dX12_followAll_35 : decode cX12_followAll 35 = .ok (.goto 9, 3) := by decide +kernel
theorem dX12_followAll_38 : decode cX12_followAll 38 = .ok (.aload_n 0, 1) := by decide +kernel
theorem dX12_followAll_39 : decode cX12_followAll 39 = .ok (.iload_n 2, 1) := by decide +kernel
theorem dX12_followAll_40 : decode cX12_followAll 40 = .ok (.invokevirtual 328, 3) := by decide +kernel
theorem dX12_followAll_43 : decode cX12_followAll 43 = .ok (.istore_n 3, 1) := by decide +kernel
theorem dX12_followAll_44 : decode cX12_followAll 44 = .ok (.iload_n 3, 1) := by decide +kernel
theorem dX12_followAll_45 : decode cX12_followAll 45 = .ok (.ifCond .ne 12, 3) := by decide +kernel
theorem dX12_followAll_48 : decode cX12_followAll 48 = .ok (.aload_n 0, 1) := by decide +kernel
theorem dX12_followAll_49 : decode cX12_followAll 49 = .ok (.iload_n 2, 1) := by decide +kernel
theorem dX12_followAll_50 : decode cX12_followAll 50 = .ok (.iload_n 1, 1) := by decide +kernel
theorem dX12_followAll_51 : decode cX12_followAll 51 = .ok (.invokevirtual 331, 3) := by decide +kernel
theorem dX12_followAll_54 : decode cX12_followAll 54 = .ok (.iinc 1 1, 3) := by decide +kernel
theorem dX12_followAll_57 : decode cX12_followAll 57 = .ok (.iinc 2 1, 3) := by decide +kernel
theorem dX12_followAll_60 : decode cX12_followAll 60 = .ok (.goto (-56), 3) := by decide +kernel
theorem dX12_followAll_63 : decode cX12_followAll 63 = .ok (.aload_n 0, 1) := by decide +kernel
theorem dX12_followAll_64 : decode cX12_followAll 64 = .ok (.iload_n 1, 1) := by decide +kernel
theorem dX12_followAll_65 : decode cX12_followAll 65 = .ok (.putfield 212, 3) := by decide +kernel
theorem dX12_followAll_68 : decode cX12_followAll 68 = .ok (.return_, 1) := by decide +kernel
theorem dX12_beginAll_0 : decode cX12_beginAll 0 = .ok (.iconst 0, 1) := by decide +kernel
theorem dX12_beginAll_1 : decode cX12_beginAll 1 = .ok (.istore_n 1, 1) := by decide +kernel
theorem dX12_beginAll_2 : decode cX12_beginAll 2 = .ok (.iload_n 1, 1) := by decide +kernel
theorem dX12_beginAll_3 : decode cX12_beginAll 3 = .ok (.aload_n 0, 1) := by decide +kernel
theorem dX12_beginAll_4 : decode cX12_beginAll 4 = .ok (.getfield 209, 3) := by decide +kernel
theorem dX12_beginAll_7 : decode cX12_beginAll 7 = .ok (.if_icmp .ge 139, 3) := by decide +kernel
theorem dX12_beginAll_10 : decode cX12_beginAll 10 = .ok (.aload_n 0, 1) := by decide +kernel
theorem dX12_beginAll_11 : decode cX12_beginAll 11 = .ok (.getfield 62, 3) := by decide +kernel
theorem dX12_beginAll_14 : decode cX12_beginAll 14 = .ok (.iload_n 1, 1) := by decide +kernel
theorem dX12_beginAll_15 : decode cX12_beginAll 15 = .ok (.iaload, 1) := by decide +kernel
theorem dX12_beginAll_16 : decode cX12_beginAll 16 = .ok (.iconst (-1), 1) := by decide +kernel
theorem dX12_beginAll_17 : decode cX12_beginAll 17 = .ok (.if_icmp .ne 123, 3) := by decide +kernel
theorem dX12_beginAll_20 : decode cX12_beginAll 20 = .ok (.aload_n 0, 1) := by decide +kernel
theorem dX12_beginAll_21 : decode cX12_beginAll 21 = .ok (.getfield 212, 3) := by decide +kernel
theorem dX12_beginAll_24 : decode cX12_beginAll 24 = .ok (.bipush 6, 2) := by decide +kernel
theorem dX12_beginAll_26 : decode cX12_beginAll 26 = .ok (.if_icmp .ge 114, 3) := by decide +kernel
theorem dX12_beginAll_29 : decode cX12_beginAll 29 = .ok (.aload_n 0, 1) := by decide +kernel
theorem dX12_beginAll_30 : decode cX12_beginAll 30 = .ok (.dup, 1) := by decide +kernel
theorem dX12_beginAll_31 : decode cX12_beginAll 31 = .ok (.getfield 334, 3) := by decide +kernel
theorem dX12_beginAll_34 : decode cX12_beginAll 34 = .ok (.iconst 1, 1) := by decide +kernel
theorem dX12_beginAll_35 : decode cX12_beginAll 35 = .ok (.iadd, 1) := by decide +kernel
theorem dX12_beginAll_36 : decode cX12_beginAll 36 = .ok (.putfield 334, 3) := by decide +kernel
theorem dX12_beginAll_39 : decode cX12_beginAll 39 = .ok (.aload_n 0, 1) := by decide +kernel
theorem dX12_beginAll_40 : decode cX12_beginAll 40 = .ok (.getfield 65, 3) := by decide +kernel
theorem dX12_beginAll_43 : decode cX12_beginAll 43 = .ok (.aload_n 0, 1) := by decide +kernel
theorem dX12_beginAll_44 : decode cX12_beginAll 44 = .ok (.getfield 212, 3) := by decide +kernel
theorem dX12_beginAll_47 : decode cX12_beginAll 47 = .ok (.aload_n 0, 1) := by decide +kernel
theorem dX12_beginAll_48 : decode cX12_beginAll 48 = .ok (.getfield 334, 3) := by decide +kernel
theorem dX12_beginAll_51 : decode cX12_beginAll 51 = .ok (.iastore, 1) := by decide +kernel
theorem dX12_beginAll_52 : decode cX12_beginAll 52 = .ok (.aload_n 0, 1) := by decide +kernel
theorem dX12_beginAll_53 : decode cX12_beginAll 53 = .ok (.aload_n 0, 1) := by decide +kernel
theorem dX12_beginAll_54 : decode cX12_beginAll 54 = .ok (.getfield 212, 3) := by decide +kernel
theorem dX12_beginAll_57 : decode cX12_beginAll 57 = .ok (.iload_n 1, 1) := by decide +kernel
theorem dX12_beginAll_58 : decode cX12_beginAll 58 = .ok (.invokevirtual 319, 3) := by decide +kernel
theorem dX12_beginAll_61 : decode cX12_beginAll 61 = .ok (.aload_n 0, 1) := by decide +kernel
theorem dX12_beginAll_62 : decode cX12_beginAll 62 = .ok (.getfield 80, 3) := by decide +kernel
theorem dX12_beginAll_65 : decode cX12_beginAll 65 = .ok (.aload_n 0, 1) := by decide +kernel
theorem dX12_beginAll_66 : decode cX12_beginAll 66 = .ok (.getfield 212, 3) := by decide +kernel
theorem dX12_beginAll_69 : decode cX12_beginAll 69 = .ok (.iconst 1, 1) := by decide +kernel
theorem dX12_beginAll_70 : decode cX12_beginAll 70 = .ok (.iastore, 1) := by decide +kernel
theorem dX12_beginAll_71 : decode cX12_beginAll 71 = .ok (.aload_n 0, 1) := by decide +kernel
theorem dX12_beginAll_72 : decode cX12_beginAll 72 = .ok (.getfield 83, 3) := by decide +kernel
theorem dX12_beginAll_75 : decode cX12_beginAll 75 = .ok (.aload_n 0, 1) := by decide +kernel
theorem dX12_beginAll_76 : decode cX12_beginAll 76 = .ok (.getfield 212, 3) := by decide +kernel
theorem dX12_beginAll_79 : decode cX12_beginAll 79 = .ok (.iconst 0, 1) := by decide +kernel
theorem dX12_beginAll_80 : decode cX12_beginAll 80 = .ok (.iastore, 1) := by decide +kernel
theorem dX12_beginAll_81 : decode cX12_beginAll 81 = .ok (.aload_n 0, 1) := by decide +kernel
theorem dX12_beginAll_82 : decode cX12_beginAll 82 = .ok (.getfield 86, 3) := by decide +kernel
theorem dX12_beginAll_85 : decode cX12_beginAll 85 = .ok (.aload_n 0, 1) := by decide +kernel
theorem dX12_beginAll_86 : decode cX12_beginAll 86 = .ok (.getfield 212, 3) := by decide +kernel
theorem dX12_beginAll_89 : decode cX12_beginAll 89 = .ok (.iconst 0, 1) := by decide +kernel
theorem dX12_beginAll_90 : decode cX12_beginAll 90 = .ok (.iastore, 1) := by decide +kernel
theorem dX12_beginAll_91 : decode cX12_beginAll 91 = .ok (.aload_n 0, 1) := by decide +kernel
theorem dX12_beginAll_92 : decode cX12_beginAll 92 = .ok (.getfield 89, 3) := by decide +kernel
theorem dX12_beginAll_95 : decode cX12_beginAll 95 = .ok (.aload_n 0, 1) := by decide +kernel
theorem dX12_beginAll_96 : decode cX12_beginAll 96 = .ok (.getfield 212, 3) := by decide +kernel
theorem dX12_beginAll_99 : decode cX12_beginAll 99 = .ok (.aload_n 0, 1) := by decide +kernel
theorem dX12_beginAll_100 : decode cX12_beginAll 100 = .ok (.getfield 50, 3) := by decide +kernel
theorem dX12_beginAll_103 : decode cX12_beginAll 103 = .ok (.iload_n 1, 1) := by decide +kernel
theorem dX12_beginAll_104 : decode cX12_beginAll 104 = .ok (.iaload, 1) := by decide +kernel
theorem dX12_beginAll_105 : decode cX12_beginAll 105 = .ok (.aload_n 0, 1) := by decide +kernel
theorem dX12_beginAll_106 : decode cX12_beginAll 106 = .ok (.getfield 44, 3) := by decide +kernel
theorem dX12_beginAll_109 : decode cX12_beginAll 109 = .ok (.iconst 3, 1) := by decide +kernel
theorem dX12_beginAll_110 : decode cX12_beginAll 110 = .ok (.iaload, 1) := by decide +kernel
theorem dX12_beginAll_111 : decode cX12_beginAll 111 = .ok (.if_icmp .lt 7, 3) := by decide +kernel
theorem dX12_beginAll_114 : decode cX12_beginAll 114 = .ok (.iconst 1, 1) := by decide +kernel
theorem dX12_beginAll_115 : decode cX12_beginAll 115 = .ok (.goto 4, 3) := by decide +kernel
theorem dX12_beginAll_118 : decode cX12_beginAll 118 = .ok (.iconst 0, 1) := by decide +kernel
theorem dX12_beginAll_119 : decode cX12_beginAll 119 = .ok (.bastore, 1) := by decide +kernel
theorem dX12_beginAll_120 : decode cX12_beginAll 120 = .ok (.aload_n 0, 1) := by decide +kernel
theorem dX12_beginAll_121 : decode cX12_beginAll 121 = .ok (.getfield 62, 3) := by decide +kernel
theorem dX12_beginAll_124 : decode cX12_beginAll 124 = .ok (.iload_n 1, 1) := by decide +kernel
theorem dX12_beginAll_125 : decode cX12_beginAll 125 = .ok (.aload_n 0, 1) := by decide +kernel
theorem dX12_beginAll_126 : decode cX12_beginAll 126 = .ok (.getfield 334, 3) := by decide +kernel
theorem dX12_beginAll_129 : decode cX12_beginAll 129 = .ok (.iastore, 1) := by decide +kernel
theorem dX12_beginAll_130 : decode cX12_beginAll 130 = .ok (.aload_n 0, 1) := by decide +kernel
theorem dX12_beginAll_131 : decode cX12_beginAll 131 = .ok (.dup, 1) := by decide +kernel
theorem dX12_beginAll_132 : decode cX12_beginAll 132 = .ok (.getfield 212, 3) := by decide +kernel
theorem dX12_beginAll_135 : decode cX12_beginAll 135 = .ok (.iconst 1, 1) := by decide +kernel
theorem dX12_beginAll_136 : decode cX12_beginAll 136 = .ok (.iadd, 1) := by decide +kernel
theorem dX12_beginAll_137 : decode cX12_beginAll 137 = .ok (.putfield 212, 3) := by decide +kernel
theorem dX12_beginAll_140 : decode cX12_beginAll 140 = .ok (.iinc 1 1, 3) := by decide +kernel
theorem dX12_beginAll_143 : decode cX12_beginAll 143 = .ok (.goto (-141), 3) := by decide +kernel
theorem dX12_beginAll_146 : decode cX12_beginAll 146 = .ok (.return_, 1) := by decide +kernel
theorem dX12_isNearSpot_0 : decode cX12_isNearSpot 0 = .ok (.aload_n 0, 1) := by decide +kernel
theorem dX12_isNearSpot_1 : decode cX12_isNearSpot 1 = .ok (.getfield 25, 3) := by decide +kernel
theorem dX12_isNearSpot_4 : decode cX12_isNearSpot 4 = .ok (.iload_n 1, 1) := by decide +kernel
theorem dX12_isNearSpot_5 : decode cX12_isNearSpot 5 = .ok (.iaload, 1) := by decide +kernel
theorem dX12_isNearSpot_6 : decode cX12_isNearSpot 6 = .ok (.iconst (-1), 1) := by decide +kernel
theorem dX12_isNearSpot_7 : decode cX12_isNearSpot 7 = .ok (.if_icmp .eq 7, 3) := by decide +kernel
theorem dX12_isNearSpot_10 : decode cX12_isNearSpot 10 = .ok (.iconst 1, 1) := by decide +kernel
theorem dX12_isNearSpot_11 : decode cX12_isNearSpot 11 = .ok (.goto 4, 3) := by decide +kernel
theorem dX12_isNearSpot_14 : decode cX12_isNearSpot 14 = .ok (.iconst 0, 1) := by decide +kernel
theorem dX12_isNearSpot_15 : decode cX12_isNearSpot 15 = .ok (.istore_n 2, 1) := by decide +kernel
theorem dX12_isNearSpot_16 : decode cX12_isNearSpot 16 = .ok (.iconst 0, 1) := by decide +kernel
theorem dX12_isNearSpot_17 : decode cX12_isNearSpot 17 = .ok (.istore_n 3, 1) := by decide +kernel
theorem dX12_isNearSpot_18 : decode cX12_isNearSpot 18 = .ok (.iload_n 3, 1) := by decide +kernel
theorem dX12_isNearSpot_19 : decode cX12_isNearSpot 19 = .ok (.bipush 8, 2) := by decide +kernel
theorem dX12_isNearSpot_21 : decode cX12_isNearSpot 21 = .ok (.if_icmp .ge 44, 3) := by decide +kernel
theorem dX12_isNearSpot_24 : decode cX12_isNearSpot 24 = .ok (.aload_n 0, 1) := by decide +kernel
theorem dX12_isNearSpot_25 : decode cX12_isNearSpot 25 = .ok (.iload_n 1, 1) := by decide +kernel
theorem dX12_isNearSpot_26 : decode cX12_isNearSpot 26 = .ok (.iload_n 3, 1) := by decide +kernel
theorem dX12_isNearSpot_27 : decode cX12_isNearSpot 27 = .ok (.invokevirtual 253, 3) := by decide +kernel
theorem dX12_isNearSpot_30 : decode cX12_isNearSpot 30 = .ok (.istore 4, 2) := by decide +kernel
theorem dX12_isNearSpot_32 : decode cX12_isNearSpot 32 = .ok (.iload_n 2, 1) := by decide +kernel
theorem dX12_isNearSpot_33 : decode cX12_isNearSpot 33 = .ok (.ifCond .ne 20, 3) := by decide +kernel
theorem dX12_isNearSpot_36 : decode cX12_isNearSpot 36 = .ok (.iload 4, 2) := by decide +kernel
theorem dX12_isNearSpot_38 : decode cX12_isNearSpot 38 = .ok (.iconst (-1), 1) := by decide +kernel
theorem dX12_isNearSpot_39 : decode cX12_isNearSpot 39 = .ok (.if_icmp .eq 18, 3) := by decide +kernel
theorem dX12_isNearSpot_42 : decode cX12_isNearSpot 42 = .ok (.aload_n 0, 1) := by decide +kernel
theorem dX12_isNearSpot_43 : decode cX12_isNearSpot 43 = .ok (.getfield 25, 3) := by decide +kernel
theorem dX12_isNearSpot_46 : decode cX12_isNearSpot 46 = .ok (.iload 4, 2) := by decide +kernel
theorem dX12_isNearSpot_48 : decode cX12_isNearSpot 48 = .ok (.iaload, 1) := by decide +kernel
theorem dX12_isNearSpot_49 : decode cX12_isNearSpot 49 = .ok (.iconst (-1), 1) := by decide +kernel
theorem dX12_isNearSpot_50 : decode cX12_isNearSpot 50 = .ok (.if_icmp .eq 7, 3) := by decide +kernel
theorem dX12_isNearSpot_53 : decode cX12_isNearSpot 53 = .ok (.iconst 1, 1) := by decide +kernel
theorem dX12_isNearSpot_54 : decode cX12_isNearSpot 54 = .ok (.goto 4, 3) := by decide +kernel
theorem dX12_isNearSpot_57 : decode cX12_isNearSpot 57 = .ok (.iconst 0, 1) := by decide +kernel
theorem dX12_isNearSpot_58 : decode cX12_isNearSpot 58 = .ok (.istore_n 2, 1) := by decide +kernel
theorem dX12_isNearSpot_59 : decode cX12_isNearSpot 59 = .ok (.iinc 3 1, 3) := by decide +kernel
theorem dX12_isNearSpot_62 : decode cX12_isNearSpot 62 = .ok (.goto (-44), 3) := by decide +kernel
theorem dX12_isNearSpot_65 : decode cX12_isNearSpot 65 = .ok (.iload_n 2, 1) := by decide +kernel
theorem dX12_isNearSpot_66 : decode cX12_isNearSpot 66 = .ok (.ireturn, 1) := by decide +kernel
theorem dX12_drift_0 : decode cX12_drift 0 = .ok (.iconst 0, 1) := by decide +kernel
theorem dX12_drift_1 : decode cX12_drift 1 = .ok (.istore_n 1, 1) := by decide +kernel
theorem dX12_drift_2 : decode cX12_drift 2 = .ok (.iload_n 1, 1) := by decide +kernel
theorem dX12_drift_3 : decode cX12_drift 3 = .ok (.aload_n 0, 1) := by decide +kernel
theorem dX12_drift_4 : decode cX12_drift 4 = .ok (.invokevirtual 218, 3) := by decide +kernel
theorem dX12_drift_7 : decode cX12_drift 7 = .ok (.if_icmp .ge 85, 3) := by decide +kernel
theorem dX12_drift_10 : decode cX12_drift 10 = .ok (.aload_n 0, 1) := by decide +kernel
theorem dX12_drift_11 : decode cX12_drift 11 = .ok (.iload_n 1, 1) := by decide +kernel
theorem dX12_drift_12 : decode cX12_drift 12 = .ok (.invokevirtual 337, 3) := by decide +kernel
theorem dX12_drift_15 : decode cX12_drift 15 = .ok (.ifCond .ne 71, 3) := by decide +kernel
theorem dX12_drift_18 : decode cX12_drift 18 = .ok (.aload_n 0, 1) := by decide +kernel
theorem dX12_drift_19 : decode cX12_drift 19 = .ok (.getfield 19, 3) := by decide +kernel
theorem dX12_drift_22 : decode cX12_drift 22 = .ok (.iload_n 1, 1) := by decide +kernel
theorem dX12_drift_23 : decode cX12_drift 23 = .ok (.iaload, 1) := by decide +kernel
theorem dX12_drift_24 : decode cX12_drift 24 = .ok (.aload_n 0, 1) := by decide +kernel
theorem dX12_drift_25 : decode cX12_drift 25 = .ok (.getfield 16, 3) := by decide +kernel
theorem dX12_drift_28 : decode cX12_drift 28 = .ok (.iload_n 1, 1) := by decide +kernel
theorem dX12_drift_29 : decode cX12_drift 29 = .ok (.iaload, 1) := by decide +kernel
theorem dX12_drift_30 : decode cX12_drift 30 = .ok (.isub, 1) := by decide +kernel
theorem dX12_drift_31 : decode cX12_drift 31 = .ok (.istore_n 2, 1) := by decide +kernel
theorem dX12_drift_32 : decode cX12_drift 32 = .ok (.aload_n 0, 1) := by decide +kernel
theorem dX12_drift_33 : decode cX12_drift 33 = .ok (.getfield 16, 3) := by decide +kernel
theorem dX12_drift_36 : decode cX12_drift 36 = .ok (.iload_n 1, 1) := by decide +kernel
theorem dX12_drift_37 : decode cX12_drift 37 = .ok (.dup2, 1) := by decide +kernel
theorem dX12_drift_38 : decode cX12_drift 38 = .ok (.iaload, 1) := by decide +kernel
theorem dX12_drift_39 : decode cX12_drift 39 = .ok (.iload_n 2, 1) := by decide +kernel
theorem dX12_drift_40 : decode cX12_drift 40 = .ok (.aload_n 0, 1) := by decide +kernel
theorem dX12_drift_41 : decode cX12_drift 41 = .ok (.getfield 44, 3) := by decide +kernel
theorem dX12_drift_44 : decode cX12_drift 44 = .ok (.bipush 7, 2) := by decide +kernel
theorem dX12_drift_46 : decode cX12_drift 46 = .ok (.iaload, 1) := by decide +kernel
theorem dX12_drift_47 : decode cX12_drift 47 = .ok (.if_icmp .le 13, 3) := by decide +kernel
theorem dX12_drift_50 : decode cX12_drift 50 = .ok (.aload_n 0, 1) := by decide +kernel
theorem dX12_drift_51 : decode cX12_drift 51 = .ok (.getfield 44, 3) := by decide +kernel
theorem dX12_drift_54 : decode cX12_drift 54 = .ok (.bipush 7, 2) := by decide +kernel
theorem dX12_drift_56 : decode cX12_drift 56 = .ok (.iaload, 1) := by decide +kernel
theorem dX12_drift_57 : decode cX12_drift 57 = .ok (.goto 27, 3) := by decide +kernel
theorem dX12_drift_60 : decode cX12_drift 60 = .ok (.iload_n 2, 1) := by decide +kernel
theorem dX12_drift_61 : decode cX12_drift 61 = .ok (.aload_n 0, 1) := by decide +kernel
theorem dX12_drift_62 : decode cX12_drift 62 = .ok (.getfield 44, 3) := by decide +kernel
theorem dX12_drift_65 : decode cX12_drift 65 = .ok (.bipush 7, 2) := by decide +kernel
theorem dX12_drift_67 : decode cX12_drift 67 = .ok (.iaload, 1) := by decide +kernel
theorem dX12_drift_68 : decode cX12_drift 68 = .ok (.ineg, 1) := by decide +kernel
theorem dX12_drift_69 : decode cX12_drift 69 = .ok (.if_icmp .ge 14, 3) := by decide +kernel
theorem dX12_drift_72 : decode cX12_drift 72 = .ok (.aload_n 0, 1) := by decide +kernel
theorem dX12_drift_73 : decode cX12_drift 73 = .ok (.getfield 44, 3) := by decide +kernel
theorem dX12_drift_76 : decode cX12_drift 76 = .ok (.bipush 7, 2) := by decide +kernel
theorem dX12_drift_78 : decode cX12_drift 78 = .ok (.iaload, 1) := by decide +kernel
theorem dX12_drift_79 : decode cX12_drift 79 = .ok (.ineg, 1) := by decide +kernel
theorem dX12_drift_80 : decode cX12_drift 80 = .ok (.goto 4, 3) := by decide +kernel
theorem dX12_drift_83 : decode cX12_drift 83 = .ok (.iload_n 2, 1) := by decide +kernel
theorem dX12_drift_84 : decode cX12_drift 84 = .ok (.iadd, 1) := by decide +kernel
theorem dX12_drift_85 : decode cX12_drift 85 = .ok (.iastore, 1) := by decide +kernel
theorem dX12_drift_86 : decode cX12_drift 86 = .ok (.iinc 1 1, 3) := by decide +kernel
theorem dX12_drift_89 : decode cX12_drift 89 = .ok (.goto (-87), 3) := by decide +kernel
theorem dX12_drift_92 : decode cX12_drift 92 = .ok (.return_, 1) := by decide +kernel
theorem dX12_frame_0 : decode cX12_frame 0 = .ok (.aload_n 0, 1) := by decide +kernel
theorem dX12_frame_1 : decode cX12_frame 1 = .ok (.dup, 1) := by decide +kernel
theorem dX12_frame_2 : decode cX12_frame 2 = .ok (.getfield 200, 3) := by decide +kernel
theorem dX12_frame_5 : decode cX12_frame 5 = .ok (.iconst 1, 1) := by decide +kernel
theorem dX12_frame_6 : decode cX12_frame 6 = .ok (.iadd, 1) := by decide +kernel
theorem dX12_frame_7 : decode cX12_frame 7 = .ok (.putfield 200, 3) := by decide +kernel
theorem dX12_frame_10 : decode cX12_frame 10 = .ok (.aload_n 0, 1) := by decide +kernel
theorem dX12_frame_11 : decode cX12_frame 11 = .ok (.dup, 1) := by decide +kernel
theorem dX12_frame_12 : decode cX12_frame 12 = .ok (.getfield 340, 3) := by decide +kernel
theorem dX12_frame_15 : decode cX12_frame 15 = .ok (.iconst 1, 1) := by decide +kernel
theorem dX12_frame_16 : decode cX12_frame 16 = .ok (.iadd, 1) := by decide +kernel
theorem dX12_frame_17 : decode cX12_frame 17 = .ok (.putfield 340, 3) := by decide +kernel
theorem dX12_frame_20 : decode cX12_frame 20 = .ok (.aload_n 0, 1) := by decide +kernel
theorem dX12_frame_21 : decode cX12_frame 21 = .ok (.invokevirtual 343, 3) := by decide +kernel
theorem dX12_frame_24 : decode cX12_frame 24 = .ok (.aload_n 0, 1) := by decide +kernel
theorem dX12_frame_25 : decode cX12_frame 25 = .ok (.iconst 0, 1) := by decide +kernel
theorem dX12_frame_26 : decode cX12_frame 26 = .ok (.putfield 209, 3) := by decide +kernel
theorem dX12_frame_29 : decode cX12_frame 29 = .ok (.aload_n 0, 1) := by decide +kernel
theorem dX12_frame_30 : decode cX12_frame 30 = .ok (.aload_n 0, 1) := by decide +kernel
theorem dX12_frame_31 : decode cX12_frame 31 = .ok (.invokevirtual 346, 3) := by decide +kernel
theorem dX12_frame_34 : decode cX12_frame 34 = .ok (.putfield 203, 3) := by decide +kernel
theorem dX12_frame_37 : decode cX12_frame 37 = .ok (.aload_n 0, 1) := by decide +kernel
theorem dX12_frame_38 : decode cX12_frame 38 = .ok (.aload_n 0, 1) := by decide +kernel
theorem dX12_frame_39 : decode cX12_frame 39 = .ok (.getfield 203, 3) := by decide +kernel
theorem dX12_frame_42 : decode cX12_frame 42 = .ok (.aload_n 0, 1) := by decide +kernel
theorem dX12_frame_43 : decode cX12_frame 43 = .ok (.getfield 44, 3) := by decide +kernel
theorem dX12_frame_46 : decode cX12_frame 46 = .ok (.bipush 8, 2) := by decide +kernel
theorem dX12_frame_48 : decode cX12_frame 48 = .ok (.iaload, 1) := by decide +kernel
theorem dX12_frame_49 : decode cX12_frame 49 = .ok (.if_icmp .le 7, 3) := by decide +kernel
theorem dX12_frame_52 : decode cX12_frame 52 = .ok (.iconst 1, 1) := by decide +kernel
theorem dX12_frame_53 : decode cX12_frame 53 = .ok (.goto 4, 3) := by decide +kernel
theorem dX12_frame_56 : decode cX12_frame 56 = .ok (.iconst 0, 1) := by decide +kernel
theorem dX12_frame_57 : decode cX12_frame 57 = .ok (.putfield 206, 3) := by decide +kernel
theorem dX12_frame_60 : decode cX12_frame 60 = .ok (.aload_n 0, 1) := by decide +kernel
theorem dX12_frame_61 : decode cX12_frame 61 = .ok (.getfield 206, 3) := by decide +kernel
theorem dX12_frame_64 : decode cX12_frame 64 = .ok (.ifCond .eq 26, 3) := by decide +kernel
theorem dX12_frame_67 : decode cX12_frame 67 = .ok (.aload_n 0, 1) := by decide +kernel
theorem dX12_frame_68 : decode cX12_frame 68 = .ok (.dup, 1) := by decide +kernel
theorem dX12_frame_69 : decode cX12_frame 69 = .ok (.getfield 349, 3) := by decide +kernel
theorem dX12_frame_72 : decode cX12_frame 72 = .ok (.iconst 1, 1) := by decide +kernel
theorem dX12_frame_73 : decode cX12_frame 73 = .ok (.iadd, 1) := by decide +kernel
theorem dX12_frame_74 : decode cX12_frame 74 = .ok (.putfield 349, 3) := by decide +kernel
theorem dX12_frame_77 : decode cX12_frame 77 = .ok (.aload_n 0, 1) := by decide +kernel
theorem dX12_frame_78 : decode cX12_frame 78 = .ok (.aload_n 0, 1) := by decide +kernel
theorem dX12_frame_79 : decode cX12_frame 79 = .ok (.getfield 194, 3) := by decide +kernel
theorem dX12_frame_82 : decode cX12_frame 82 = .ok (.iconst 1, 1) := by decide +kernel
theorem dX12_frame_83 : decode cX12_frame 83 = .ok (.iadd, 1) := by decide +kernel
theorem dX12_frame_84 : decode cX12_frame 84 = .ok (.iconst 3, 1) := by decide +kernel
theorem dX12_frame_85 : decode cX12_frame 85 = .ok (.irem, 1) := by decide +kernel
theorem dX12_frame_86 : decode cX12_frame 86 = .ok (.putfield 194, 3) := by decide +kernel
theorem dX12_frame_89 : decode cX12_frame 89 = .ok (.return_, 1) := by decide +kernel
theorem dX12_frame_90 : decode cX12_frame 90 = .ok (.aload_n 0, 1) := by decide +kernel
theorem dX12_frame_91 : decode cX12_frame 91 = .ok (.invokevirtual 352, 3) := by decide +kernel
theorem dX12_frame_94 : decode cX12_frame 94 = .ok (.aload_n 0, 1) := by decide +kernel
theorem dX12_frame_95 : decode cX12_frame 95 = .ok (.invokevirtual 355, 3) := by decide +kernel
theorem dX12_frame_98 : decode cX12_frame 98 = .ok (.aload_n 0, 1) := by decide +kernel
theorem dX12_frame_99 : decode cX12_frame 99 = .ok (.invokevirtual 358, 3) := by decide +kernel
theorem dX12_frame_102 : decode cX12_frame 102 = .ok (.aload_n 0, 1) := by decide +kernel
theorem dX12_frame_103 : decode cX12_frame 103 = .ok (.invokevirtual 361, 3) := by decide +kernel
theorem dX12_frame_106 : decode cX12_frame 106 = .ok (.aload_n 0, 1) := by decide +kernel
theorem dX12_frame_107 : decode cX12_frame 107 = .ok (.invokevirtual 364, 3) := by decide +kernel
theorem dX12_frame_110 : decode cX12_frame 110 = .ok (.aload_n 0, 1) := by decide +kernel
theorem dX12_frame_111 : decode cX12_frame 111 = .ok (.invokevirtual 367, 3) := by decide +kernel
theorem dX12_frame_114 : decode cX12_frame 114 = .ok (.return_, 1) := by decide +kernel
theorem dX12_eventsAll_0 : decode cX12_eventsAll 0 = .ok (.aload_n 0, 1) := by decide +kernel
theorem dX12_eventsAll_1 : decode cX12_eventsAll 1 = .ok (.getfield 101, 3) := by decide +kernel
theorem dX12_eventsAll_4 : decode cX12_eventsAll 4 = .ok (.iconst 1, 1) := by decide +kernel
theorem dX12_eventsAll_5 : decode cX12_eventsAll 5 = .ok (.iaload, 1) := by decide +kernel
theorem dX12_eventsAll_6 : decode cX12_eventsAll 6 = .ok (.aload_n 0, 1) := by decide +kernel
theorem dX12_eventsAll_7 : decode cX12_eventsAll 7 = .ok (.getfield 101, 3) := by decide +kernel
theorem dX12_eventsAll_10 : decode cX12_eventsAll 10 = .ok (.iconst 2, 1) := by decide +kernel
theorem dX12_eventsAll_11 : decode cX12_eventsAll 11 = .ok (.iaload, 1) := by decide +kernel
theorem dX12_eventsAll_12 : decode cX12_eventsAll 12 = .ok (.iadd, 1) := by decide +kernel
theorem dX12_eventsAll_13 : decode cX12_eventsAll 13 = .ok (.aload_n 0, 1) := by decide +kernel
theorem dX12_eventsAll_14 : decode cX12_eventsAll 14 = .ok (.getfield 101, 3) := by decide +kernel
theorem dX12_eventsAll_17 : decode cX12_eventsAll 17 = .ok (.iconst 3, 1) := by decide +kernel
theorem dX12_eventsAll_18 : decode cX12_eventsAll 18 = .ok (.iaload, 1) := by decide +kernel
theorem dX12_eventsAll_19 : decode cX12_eventsAll 19 = .ok (.iadd, 1) := by decide +kernel
theorem dX12_eventsAll_20 : decode cX12_eventsAll 20 = .ok (.aload_n 0, 1) := by decide +kernel
theorem dX12_eventsAll_21 : decode cX12_eventsAll 21 = .ok (.getfield 101, 3) := by decide +kernel
theorem dX12_eventsAll_24 : decode cX12_eventsAll 24 = .ok (.iconst 4, 1) := by decide +kernel
theorem dX12_eventsAll_25 : decode cX12_eventsAll 25 = .ok (.iaload, 1) := by decide +kernel
theorem dX12_eventsAll_26 : decode cX12_eventsAll 26 = .ok (.iadd, 1) := by decide +kernel
theorem dX12_eventsAll_27 : decode cX12_eventsAll 27 = .ok (.ireturn, 1) := by decide +kernel
theorem dX12_frames_0 : decode cX12_frames 0 = .ok (.aload_n 0, 1) := by decide +kernel
theorem dX12_frames_1 : decode cX12_frames 1 = .ok (.invokevirtual 177, 3) := by decide +kernel
theorem dX12_frames_4 : decode cX12_frames 4 = .ok (.ifCond .ne 7, 3) := by decide +kernel
theorem dX12_frames_7 : decode cX12_frames 7 = .ok (.sipush (-10003), 3) := by decide +kernel
theorem dX12_frames_10 : decode cX12_frames 10 = .ok (.ireturn, 1) := by decide +kernel
theorem dX12_frames_11 : decode cX12_frames 11 = .ok (.iload_n 1, 1) := by decide +kernel
theorem dX12_frames_12 : decode cX12_frames 12 = .ok (.iconst 1, 1) := by decide +kernel
theorem dX12_frames_13 : decode cX12_frames 13 = .ok (.bipush 20, 2) := by decide +kernel
theorem dX12_frames_15 : decode cX12_frames 15 = .ok (.invokestatic 123, 3) := by decide +kernel
theorem dX12_frames_18 : decode cX12_frames 18 = .ok (.ifCond .ne 7, 3) := by decide +kernel
theorem dX12_frames_21 : decode cX12_frames 21 = .ok (.sipush (-10002), 3) := by decide +kernel
theorem dX12_frames_24 : decode cX12_frames 24 = .ok (.ireturn, 1) := by decide +kernel
theorem dX12_frames_25 : decode cX12_frames 25 = .ok (.aload_n 0, 1) := by decide +kernel
theorem dX12_frames_26 : decode cX12_frames 26 = .ok (.invokevirtual 370, 3) := by decide +kernel
theorem dX12_frames_29 : decode cX12_frames 29 = .ok (.istore_n 2, 1) := by decide +kernel
theorem dX12_frames_30 : decode cX12_frames 30 = .ok (.iconst 0, 1) := by decide +kernel
theorem dX12_frames_31 : decode cX12_frames 31 = .ok (.istore_n 3, 1) := by decide +kernel
theorem dX12_frames_32 : decode cX12_frames 32 = .ok (.iload_n 3, 1) := by decide +kernel
theorem dX12_frames_33 : decode cX12_frames 33 = .ok (.iload_n 1, 1) := by decide +kernel
theorem dX12_frames_34 : decode cX12_frames 34 = .ok (.if_icmp .ge 13, 3) := by decide +kernel
theorem dX12_frames_37 : decode cX12_frames 37 = .ok (.aload_n 0, 1) := by decide +kernel
theorem dX12_frames_38 : decode cX12_frames 38 = .ok (.invokevirtual 373, 3) := by decide +kernel
theorem dX12_frames_41 : decode cX12_frames 41 = .ok (.iinc 3 1, 3) := by decide +kernel
theorem dX12_frames_44 : decode cX12_frames 44 = .ok (.goto (-12), 3) := by decide +kernel
theorem dX12_frames_47 : decode cX12_frames 47 = .ok (.aload_n 0, 1) := by decide +kernel
theorem dX12_frames_48 : decode cX12_frames 48 = .ok (.invokevirtual 370, 3) := by decide +kernel
theorem dX12_frames_51 : decode cX12_frames 51 = .ok (.iload_n 2, 1) := by decide +kernel
theorem dX12_frames_52 : decode cX12_frames 52 = .ok (.isub, 1) := by decide +kernel
theorem dX12_frames_53 : decode cX12_frames 53 = .ok (.ireturn, 1) := by decide +kernel
theorem dX12_fingerNow_0 : decode cX12_fingerNow 0 = .ok (.iload_n 2, 1) := by decide +kernel
theorem dX12_fingerNow_1 : decode cX12_fingerNow 1 = .ok (.tableswitch 82 0 2 #[27, 42, 62], 27) := by decide +kernel
theorem dX12_fingerNow_28 : decode cX12_fingerNow 28 = .ok (.aload_n 0, 1) := by decide +kernel
theorem dX12_fingerNow_29 : decode cX12_fingerNow 29 = .ok (.getfield 28, 3) := by decide +kernel
theorem dX12_fingerNow_32 : decode cX12_fingerNow 32 = .ok (.iload_n 1, 1) := by decide +kernel
theorem dX12_fingerNow_33 : decode cX12_fingerNow 33 = .ok (.baload, 1) := by decide +kernel
theorem dX12_fingerNow_34 : decode cX12_fingerNow 34 = .ok (.ifCond .eq 7, 3) := by decide +kernel
theorem dX12_fingerNow_37 : decode cX12_fingerNow 37 = .ok (.iconst 1, 1) := by decide +kernel
theorem dX12_fingerNow_38 : decode cX12_fingerNow 38 = .ok (.goto 4, 3) := by decide +kernel
theorem dX12_fingerNow_41 : decode cX12_fingerNow 41 = .ok (.iconst 0, 1) := by decide +kernel
theorem dX12_fingerNow_42 : decode cX12_fingerNow 42 = .ok (.ireturn, 1) := by decide +kernel
theorem dX12_fingerNow_43 : decode cX12_fingerNow 43 = .ok (.aload_n 0, 1) := by decide +kernel
theorem dX12_fingerNow_44 : decode cX12_fingerNow 44 = .ok (.getfield 28, 3) := by decide +kernel
theorem dX12_fingerNow_47 : decode cX12_fingerNow 47 = .ok (.iload_n 1, 1) := by decide +kernel
theorem dX12_fingerNow_48 : decode cX12_fingerNow 48 = .ok (.baload, 1) := by decide +kernel
theorem dX12_fingerNow_49 : decode cX12_fingerNow 49 = .ok (.ifCond .eq 12, 3) := by decide +kernel
theorem dX12_fingerNow_52 : decode cX12_fingerNow 52 = .ok (.aload_n 0, 1) := by decide +kernel
theorem dX12_fingerNow_53 : decode cX12_fingerNow 53 = .ok (.getfield 32, 3) := by decide +kernel
theorem dX12_fingerNow_56 : decode cX12_fingerNow 56 = .ok (.iload_n 1, 1) := by decide +kernel
theorem dX12_fingerNow_57 : decode cX12_fingerNow 57 = .ok (.iaload, 1) := by decide +kernel
theorem dX12_fingerNow_58 : decode cX12_fingerNow 58 = .ok (.goto 4, 3) := by decide +kernel
theorem dX12_fingerNow_61 : decode cX12_fingerNow 61 = .ok (.iconst (-1), 1) := by decide +kernel
theorem dX12_fingerNow_62 : decode cX12_fingerNow 62 = .ok (.ireturn, 1) := by decide +kernel
theorem dX12_fingerNow_63 : decode cX12_fingerNow 63 = .ok (.aload_n 0, 1) := by decide +kernel
theorem dX12_fingerNow_64 : decode cX12_fingerNow 64 = .ok (.getfield 28, 3) := by decide +kernel
theorem dX12_fingerNow_67 : decode cX12_fingerNow 67 = .ok (.iload_n 1, 1) := by decide +kernel
theorem dX12_fingerNow_68 : decode cX12_fingerNow 68 = .ok (.baload, 1) := by decide +kernel
theorem dX12_fingerNow_69 : decode cX12_fingerNow 69 = .ok (.ifCond .eq 12, 3) := by decide +kernel
theorem dX12_fingerNow_72 : decode cX12_fingerNow 72 = .ok (.aload_n 0, 1) := by decide +kernel
theorem dX12_fingerNow_73 : decode cX12_fingerNow 73 = .ok (.getfield 35, 3) := by decide +kernel
theorem dX12_fingerNow_76 : decode cX12_fingerNow 76 = .ok (.iload_n 1, 1) := by decide +kernel
theorem dX12_fingerNow_77 : decode cX12_fingerNow 77 = .ok (.iaload, 1) := by decide +kernel
theorem dX12_fingerNow_78 : decode cX12_fingerNow 78 = .ok (.goto 4, 3) := by decide +kernel
theorem dX12_fingerNow_81 : decode cX12_fingerNow 81 = .ok (.iconst (-1), 1) := by decide +kernel
theorem dX12_fingerNow_82 : decode cX12_fingerNow 82 = .ok (.ireturn, 1) := by decide +kernel
theorem dX12_fingerNow_83 : decode cX12_fingerNow 83 = .ok (.aload_n 0, 1) := by decide +kernel
theorem dX12_fingerNow_84 : decode cX12_fingerNow 84 = .ok (.getfield 28, 3) := by decide +kernel
theorem dX12_fingerNow_87 : decode cX12_fingerNow 87 = .ok (.iload_n 1, 1) := by decide +kernel
theorem dX12_fingerNow_88 : decode cX12_fingerNow 88 = .ok (.baload, 1) := by decide +kernel
theorem dX12_fingerNow_89 : decode cX12_fingerNow 89 = .ok (.ifCond .eq 12, 3) := by decide +kernel
theorem dX12_fingerNow_92 : decode cX12_fingerNow 92 = .ok (.aload_n 0, 1) := by decide +kernel
theorem dX12_fingerNow_93 : decode cX12_fingerNow 93 = .ok (.getfield 38, 3) := by decide +kernel
theorem dX12_fingerNow_96 : decode cX12_fingerNow 96 = .ok (.iload_n 1, 1) := by decide +kernel
theorem dX12_fingerNow_97 : decode cX12_fingerNow 97 = .ok (.iaload, 1) := by decide +kernel
theorem dX12_fingerNow_98 : decode cX12_fingerNow 98 = .ok (.goto 4, 3) := by decide +kernel
theorem dX12_fingerNow_101 : decode cX12_fingerNow 101 = .ok (.iconst (-1), 1) := by decide +kernel
theorem dX12_fingerNow_102 : decode cX12_fingerNow 102 = .ok (.ireturn, 1) := by decide +kernel
theorem dX12_finger_0 : decode cX12_finger 0 = .ok (.aload_n 0, 1) := by decide +kernel
theorem dX12_finger_1 : decode cX12_finger 1 = .ok (.invokevirtual 177, 3) := by decide +kernel
theorem dX12_finger_4 : decode cX12_finger 4 = .ok (.ifCond .ne 7, 3) := by decide +kernel
theorem dX12_finger_7 : decode cX12_finger 7 = .ok (.sipush (-10003), 3) := by decide +kernel
theorem dX12_finger_10 : decode cX12_finger 10 = .ok (.ireturn, 1) := by decide +kernel
theorem dX12_finger_11 : decode cX12_finger 11 = .ok (.iload_n 1, 1) := by decide +kernel
theorem dX12_finger_12 : decode cX12_finger 12 = .ok (.iconst 0, 1) := by decide +kernel
theorem dX12_finger_13 : decode cX12_finger 13 = .ok (.iconst 4, 1) := by decide +kernel
theorem dX12_finger_14 : decode cX12_finger 14 = .ok (.invokestatic 123, 3) := by decide +kernel
theorem dX12_finger_17 : decode cX12_finger 17 = .ok (.ifCond .ne 7, 3) := by decide +kernel
theorem dX12_finger_20 : decode cX12_finger 20 = .ok (.sipush (-10001), 3) := by decide +kernel
theorem dX12_finger_23 : decode cX12_finger 23 = .ok (.ireturn, 1) := by decide +kernel
theorem dX12_finger_24 : decode cX12_finger 24 = .ok (.iload_n 2, 1) := by decide +kernel
theorem dX12_finger_25 : decode cX12_finger 25 = .ok (.iconst 0, 1) := by decide +kernel
theorem dX12_finger_26 : decode cX12_finger 26 = .ok (.iconst 3, 1) := by decide +kernel
theorem dX12_finger_27 : decode cX12_finger 27 = .ok (.invokestatic 123, 3) := by decide +kernel
theorem dX12_finger_30 : decode cX12_finger 30 = .ok (.ifCond .eq 12, 3) := by decide +kernel
theorem dX12_finger_33 : decode cX12_finger 33 = .ok (.aload_n 0, 1) := by decide +kernel
theorem dX12_finger_34 : decode cX12_finger 34 = .ok (.iload_n 1, 1) := by decide +kernel
theorem dX12_finger_35 : decode cX12_finger 35 = .ok (.iload_n 2, 1) := by decide +kernel
theorem dX12_finger_36 : decode cX12_finger 36 = .ok (.invokevirtual 376, 3) := by decide +kernel
theorem dX12_finger_39 : decode cX12_finger 39 = .ok (.goto 6, 3) := by decide +kernel
theorem dX12_finger_42 : decode cX12_finger 42 = .ok (.sipush (-10002), 3) := by decide +kernel
theorem dX12_finger_45 : decode cX12_finger 45 = .ok (.ireturn, 1) := by decide +kernel
theorem dX12_cellNow_0 : decode cX12_cellNow 0 = .ok (.iload_n 2, 1) := by decide +kernel
theorem dX12_cellNow_1 : decode cX12_cellNow 1 = .ok (.tableswitch 70 0 4 #[35, 42, 49, 56, 63], 35) := by decide +kernel
theorem dX12_cellNow_36 : decode cX12_cellNow 36 = .ok (.aload_n 0, 1) := by decide +kernel
theorem dX12_cellNow_37 : decode cX12_cellNow 37 = .ok (.getfield 13, 3) := by decide +kernel
theorem dX12_cellNow_40 : decode cX12_cellNow 40 = .ok (.iload_n 1, 1) := by decide +kernel
theorem dX12_cellNow_41 : decode cX12_cellNow 41 = .ok (.iaload, 1) := by decide +kernel
theorem dX12_cellNow_42 : decode cX12_cellNow 42 = .ok (.ireturn, 1) := by decide +kernel
theorem dX12_cellNow_43 : decode cX12_cellNow 43 = .ok (.aload_n 0, 1) := by decide +kernel
theorem dX12_cellNow_44 : decode cX12_cellNow 44 = .ok (.getfield 16, 3) := by decide +kernel
theorem dX12_cellNow_47 : decode cX12_cellNow 47 = .ok (.iload_n 1, 1) := by decide +kernel
theorem dX12_cellNow_48 : decode cX12_cellNow 48 = .ok (.iaload, 1) := by decide +kernel
theorem dX12_cellNow_49 : decode cX12_cellNow 49 = .ok (.ireturn, 1) := by decide +kernel
theorem dX12_cellNow_50 : decode cX12_cellNow 50 = .ok (.aload_n 0, 1) := by decide +kernel
theorem dX12_cellNow_51 : decode cX12_cellNow 51 = .ok (.getfield 19, 3) := by decide +kernel
theorem dX12_cellNow_54 : decode cX12_cellNow 54 = .ok (.iload_n 1, 1) := by decide +kernel
theorem dX12_cellNow_55 : decode cX12_cellNow 55 = .ok (.iaload, 1) := by decide +kernel
theorem dX12_cellNow_56 : decode cX12_cellNow 56 = .ok (.ireturn, 1) := by decide +kernel
theorem dX12_cellNow_57 : decode cX12_cellNow 57 = .ok (.aload_n 0, 1) := by decide +kernel
theorem dX12_cellNow_58 : decode cX12_cellNow 58 = .ok (.getfield 22, 3) := by decide +kernel
theorem dX12_cellNow_61 : decode cX12_cellNow 61 = .ok (.iload_n 1, 1) := by decide +kernel
theorem dX12_cellNow_62 : decode cX12_cellNow 62 = .ok (.iaload, 1) := by decide +kernel
theorem dX12_cellNow_63 : decode cX12_cellNow 63 = .ok (.ireturn, 1) := by decide +kernel
theorem dX12_cellNow_64 : decode cX12_cellNow 64 = .ok (.aload_n 0, 1) := by decide +kernel
theorem dX12_cellNow_65 : decode cX12_cellNow 65 = .ok (.getfield 25, 3) := by decide +kernel
theorem dX12_cellNow_68 : decode cX12_cellNow 68 = .ok (.iload_n 1, 1) := by decide +kernel
theorem dX12_cellNow_69 : decode cX12_cellNow 69 = .ok (.iaload, 1) := by decide +kernel
theorem dX12_cellNow_70 : decode cX12_cellNow 70 = .ok (.ireturn, 1) := by decide +kernel
theorem dX12_cellNow_71 : decode cX12_cellNow 71 = .ok (.aload_n 0, 1) := by decide +kernel
theorem dX12_cellNow_72 : decode cX12_cellNow 72 = .ok (.iload_n 1, 1) := by decide +kernel
theorem dX12_cellNow_73 : decode cX12_cellNow 73 = .ok (.invokevirtual 244, 3) := by decide +kernel
theorem dX12_cellNow_76 : decode cX12_cellNow 76 = .ok (.ireturn, 1) := by decide +kernel
theorem dX12_cell_0 : decode cX12_cell 0 = .ok (.aload_n 0, 1) := by decide +kernel
theorem dX12_cell_1 : decode cX12_cell 1 = .ok (.iload_n 1, 1) := by decide +kernel
theorem dX12_cell_2 : decode cX12_cell 2 = .ok (.invokevirtual 221, 3) := by decide +kernel
theorem dX12_cell_5 : decode cX12_cell 5 = .ok (.ifCond .ne 9, 3) := by decide +kernel
theorem dX12_cell_8 : decode cX12_cell 8 = .ok (.sipush (-10001), 3) := by decide +kernel
theorem dX12_cell_11 : decode cX12_cell 11 = .ok (.goto 24, 3) := by decide +kernel
theorem dX12_cell_14 : decode cX12_cell 14 = .ok (.iload_n 2, 1) := by decide +kernel
theorem dX12_cell_15 : decode cX12_cell 15 = .ok (.iconst 0, 1) := by decide +kernel
theorem dX12_cell_16 : decode cX12_cell 16 = .ok (.iconst 5, 1) := by decide +kernel
theorem dX12_cell_17 : decode cX12_cell 17 = .ok (.invokestatic 123, 3) := by decide +kernel
theorem dX12_cell_20 : decode cX12_cell 20 = .ok (.ifCond .eq 12, 3) := by decide +kernel
theorem dX12_cell_23 : decode cX12_cell 23 = .ok (.aload_n 0, 1) := by decide +kernel
theorem dX12_cell_24 : decode cX12_cell 24 = .ok (.iload_n 1, 1) := by decide +kernel
theorem dX12_cell_25 : decode cX12_cell 25 = .ok (.iload_n 2, 1) := by decide +kernel
theorem dX12_cell_26 : decode cX12_cell 26 = .ok (.invokevirtual 379, 3) := by decide +kernel
theorem dX12_cell_29 : decode cX12_cell 29 = .ok (.goto 6, 3) := by decide +kernel
theorem dX12_cell_32 : decode cX12_cell 32 = .ok (.sipush (-10002), 3) := by decide +kernel
theorem dX12_cell_35 : decode cX12_cell 35 = .ok (.ireturn, 1) := by decide +kernel
theorem dX12_aboutNow_0 : decode cX12_aboutNow 0 = .ok (.iload_n 1, 1) := by decide +kernel
theorem dX12_aboutNow_1 : decode cX12_aboutNow 1 = .ok (.tableswitch 95 0 7 #[47, 52, 57, 62, 67, 80, 85, 90], 47) := by decide +kernel
theorem dX12_aboutNow_48 : decode cX12_aboutNow 48 = .ok (.aload_n 0, 1) := by decide +kernel
theorem dX12_aboutNow_49 : decode cX12_aboutNow 49 = .ok (.getfield 116, 3) := by decide +kernel
theorem dX12_aboutNow_52 : decode cX12_aboutNow 52 = .ok (.ireturn, 1) := by decide +kernel
theorem dX12_aboutNow_53 : decode cX12_aboutNow 53 = .ok (.aload_n 0, 1) := by decide +kernel
theorem dX12_aboutNow_54 : decode cX12_aboutNow 54 = .ok (.getfield 120, 3) := by decide +kernel
theorem dX12_aboutNow_57 : decode cX12_aboutNow 57 = .ok (.ireturn, 1) := by decide +kernel
theorem dX12_aboutNow_58 : decode cX12_aboutNow 58 = .ok (.aload_n 0, 1) := by decide +kernel
theorem dX12_aboutNow_59 : decode cX12_aboutNow 59 = .ok (.getfield 194, 3) := by decide +kernel
theorem dX12_aboutNow_62 : decode cX12_aboutNow 62 = .ok (.ireturn, 1) := by decide +kernel
theorem dX12_aboutNow_63 : decode cX12_aboutNow 63 = .ok (.aload_n 0, 1) := by decide +kernel
theorem dX12_aboutNow_64 : decode cX12_aboutNow 64 = .ok (.getfield 203, 3) := by decide +kernel
theorem dX12_aboutNow_67 : decode cX12_aboutNow 67 = .ok (.ireturn, 1) := by decide +kernel
theorem dX12_aboutNow_68 : decode cX12_aboutNow 68 = .ok (.aload_n 0, 1) := by decide +kernel
theorem dX12_aboutNow_69 : decode cX12_aboutNow 69 = .ok (.getfield 206, 3) := by decide +kernel
theorem dX12_aboutNow_72 : decode cX12_aboutNow 72 = .ok (.ifCond .eq 7, 3) := by decide +kernel
theorem dX12_aboutNow_75 : decode cX12_aboutNow 75 = .ok (.iconst 1, 1) := by decide +kernel
theorem dX12_aboutNow_76 : decode cX12_aboutNow 76 = .ok (.goto 4, 3) := by decide +kernel
theorem dX12_aboutNow_79 : decode cX12_aboutNow 79 = .ok (.iconst 0, 1) := by decide +kernel
theorem dX12_aboutNow_80 : decode cX12_aboutNow 80 = .ok (.ireturn, 1) := by decide +kernel
theorem dX12_aboutNow_81 : decode cX12_aboutNow 81 = .ok (.aload_n 0, 1) := by decide +kernel
theorem dX12_aboutNow_82 : decode cX12_aboutNow 82 = .ok (.getfield 209, 3) := by decide +kernel
theorem dX12_aboutNow_85 : decode cX12_aboutNow 85 = .ok (.ireturn, 1) := by decide +kernel
theorem dX12_aboutNow_86 : decode cX12_aboutNow 86 = .ok (.aload_n 0, 1) := by decide +kernel
theorem dX12_aboutNow_87 : decode cX12_aboutNow 87 = .ok (.getfield 212, 3) := by decide +kernel
theorem dX12_aboutNow_90 : decode cX12_aboutNow 90 = .ok (.ireturn, 1) := by decide +kernel
theorem dX12_aboutNow_91 : decode cX12_aboutNow 91 = .ok (.aload_n 0, 1) := by decide +kernel
theorem dX12_aboutNow_92 : decode cX12_aboutNow 92 = .ok (.getfield 197, 3) := by decide +kernel
theorem dX12_aboutNow_95 : decode cX12_aboutNow 95 = .ok (.ireturn, 1) := by decide +kernel
theorem dX12_aboutNow_96 : decode cX12_aboutNow 96 = .ok (.aload_n 0, 1) := by decide +kernel
theorem dX12_aboutNow_97 : decode cX12_aboutNow 97 = .ok (.getfield 200, 3) := by decide +kernel
theorem dX12_aboutNow_100 : decode cX12_aboutNow 100 = .ok (.ireturn, 1) := by decide +kernel
theorem dX12_about_0 : decode cX12_about 0 = .ok (.aload_n 0, 1) := by decide +kernel
theorem dX12_about_1 : decode cX12_about 1 = .ok (.invokevirtual 177, 3) := by decide +kernel
theorem dX12_about_4 : decode cX12_about 4 = .ok (.ifCond .ne 7, 3) := by decide +kernel
theorem dX12_about_7 : decode cX12_about 7 = .ok (.sipush (-10003), 3) := by decide +kernel
theorem dX12_about_10 : decode cX12_about 10 = .ok (.ireturn, 1) := by decide +kernel
theorem dX12_about_11 : decode cX12_about 11 = .ok (.iload_n 1, 1) := by decide +kernel
theorem dX12_about_12 : decode cX12_about 12 = .ok (.iconst 0, 1) := by decide +kernel
theorem dX12_about_13 : decode cX12_about 13 = .ok (.bipush 8, 2) := by decide +kernel
theorem dX12_about_15 : decode cX12_about 15 = .ok (.invokestatic 123, 3) := by decide +kernel
theorem dX12_about_18 : decode cX12_about 18 = .ok (.ifCond .eq 11, 3) := by decide +kernel
theorem dX12_about_21 : decode cX12_about 21 = .ok (.aload_n 0, 1) := by decide +kernel
theorem dX12_about_22 : decode cX12_about 22 = .ok (.iload_n 1, 1) := by decide +kernel
theorem dX12_about_23 : decode cX12_about 23 = .ok (.invokevirtual 382, 3) := by decide +kernel
theorem dX12_about_26 : decode cX12_about 26 = .ok (.goto 6, 3) := by decide +kernel
theorem dX12_about_29 : decode cX12_about 29 = .ok (.sipush (-10002), 3) := by decide +kernel
theorem dX12_about_32 : decode cX12_about 32 = .ok (.ireturn, 1) := by decide +kernel
theorem dX12_spotNow_0 : decode cX12_spotNow 0 = .ok (.iload_n 2, 1) := by decide +kernel
theorem dX12_spotNow_1 : decode cX12_spotNow 1 = .ok (.tableswitch 70 0 4 #[35, 42, 49, 56, 63], 35) := by decide +kernel
theorem dX12_spotNow_36 : decode cX12_spotNow 36 = .ok (.aload_n 0, 1) := by decide +kernel
theorem dX12_spotNow_37 : decode cX12_spotNow 37 = .ok (.getfield 47, 3) := by decide +kernel
theorem dX12_spotNow_40 : decode cX12_spotNow 40 = .ok (.iload_n 1, 1) := by decide +kernel
theorem dX12_spotNow_41 : decode cX12_spotNow 41 = .ok (.iaload, 1) := by decide +kernel
theorem dX12_spotNow_42 : decode cX12_spotNow 42 = .ok (.ireturn, 1) := by decide +kernel
theorem dX12_spotNow_43 : decode cX12_spotNow 43 = .ok (.aload_n 0, 1) := by decide +kernel
theorem dX12_spotNow_44 : decode cX12_spotNow 44 = .ok (.getfield 50, 3) := by decide +kernel
theorem dX12_spotNow_47 : decode cX12_spotNow 47 = .ok (.iload_n 1, 1) := by decide +kernel
theorem dX12_spotNow_48 : decode cX12_spotNow 48 = .ok (.iaload, 1) := by decide +kernel
theorem dX12_spotNow_49 : decode cX12_spotNow 49 = .ok (.ireturn, 1) := by decide +kernel
theorem dX12_spotNow_50 : decode cX12_spotNow 50 = .ok (.aload_n 0, 1) := by decide +kernel
theorem dX12_spotNow_51 : decode cX12_spotNow 51 = .ok (.getfield 53, 3) := by decide +kernel
theorem dX12_spotNow_54 : decode cX12_spotNow 54 = .ok (.iload_n 1, 1) := by decide +kernel
theorem dX12_spotNow_55 : decode cX12_spotNow 55 = .ok (.iaload, 1) := by decide +kernel
theorem dX12_spotNow_56 : decode cX12_spotNow 56 = .ok (.ireturn, 1) := by decide +kernel
theorem dX12_spotNow_57 : decode cX12_spotNow 57 = .ok (.aload_n 0, 1) := by decide +kernel
theorem dX12_spotNow_58 : decode cX12_spotNow 58 = .ok (.getfield 56, 3) := by decide +kernel
theorem dX12_spotNow_61 : decode cX12_spotNow 61 = .ok (.iload_n 1, 1) := by decide +kernel
theorem dX12_spotNow_62 : decode cX12_spotNow 62 = .ok (.iaload, 1) := by decide +kernel
theorem dX12_spotNow_63 : decode cX12_spotNow 63 = .ok (.ireturn, 1) := by decide +kernel
theorem dX12_spotNow_64 : decode cX12_spotNow 64 = .ok (.aload_n 0, 1) := by decide +kernel
theorem dX12_spotNow_65 : decode cX12_spotNow 65 = .ok (.getfield 59, 3) := by decide +kernel
theorem dX12_spotNow_68 : decode cX12_spotNow 68 = .ok (.iload_n 1, 1) := by decide +kernel
theorem dX12_spotNow_69 : decode cX12_spotNow 69 = .ok (.iaload, 1) := by decide +kernel
theorem dX12_spotNow_70 : decode cX12_spotNow 70 = .ok (.ireturn, 1) := by decide +kernel
theorem dX12_spotNow_71 : decode cX12_spotNow 71 = .ok (.aload_n 0, 1) := by decide +kernel
theorem dX12_spotNow_72 : decode cX12_spotNow 72 = .ok (.getfield 62, 3) := by decide +kernel
theorem dX12_spotNow_75 : decode cX12_spotNow 75 = .ok (.iload_n 1, 1) := by decide +kernel
theorem dX12_spotNow_76 : decode cX12_spotNow 76 = .ok (.iaload, 1) := by decide +kernel
theorem dX12_spotNow_77 : decode cX12_spotNow 77 = .ok (.ireturn, 1) := by decide +kernel
theorem dX12_spot_0 : decode cX12_spot 0 = .ok (.aload_n 0, 1) := by decide +kernel
theorem dX12_spot_1 : decode cX12_spot 1 = .ok (.invokevirtual 177, 3) := by decide +kernel
theorem dX12_spot_4 : decode cX12_spot 4 = .ok (.ifCond .eq 17, 3) := by decide +kernel
theorem dX12_spot_7 : decode cX12_spot 7 = .ok (.iload_n 1, 1) := by decide +kernel
theorem dX12_spot_8 : decode cX12_spot 8 = .ok (.iconst 0, 1) := by decide +kernel
theorem dX12_spot_9 : decode cX12_spot 9 = .ok (.aload_n 0, 1) := by decide +kernel
theorem dX12_spot_10 : decode cX12_spot 10 = .ok (.getfield 209, 3) := by decide +kernel
theorem dX12_spot_13 : decode cX12_spot 13 = .ok (.iconst 1, 1) := by decide +kernel
theorem dX12_spot_14 : decode cX12_spot 14 = .ok (.isub, 1) := by decide +kernel
theorem dX12_spot_15 : decode cX12_spot 15 = .ok (.invokestatic 123, 3) := by decide +kernel
theorem dX12_spot_18 : decode cX12_spot 18 = .ok (.ifCond .ne 7, 3) := by decide +kernel
theorem dX12_spot_21 : decode cX12_spot 21 = .ok (.sipush (-10001), 3) := by decide +kernel
theorem dX12_spot_24 : decode cX12_spot 24 = .ok (.ireturn, 1) := by decide +kernel
theorem dX12_spot_25 : decode cX12_spot 25 = .ok (.iload_n 2, 1) := by decide +kernel
theorem dX12_spot_26 : decode cX12_spot 26 = .ok (.iconst 0, 1) := by decide +kernel
theorem dX12_spot_27 : decode cX12_spot 27 = .ok (.iconst 5, 1) := by decide +kernel
theorem dX12_spot_28 : decode cX12_spot 28 = .ok (.invokestatic 123, 3) := by decide +kernel
theorem dX12_spot_31 : decode cX12_spot 31 = .ok (.ifCond .eq 12, 3) := by decide +kernel
theorem dX12_spot_34 : decode cX12_spot 34 = .ok (.aload_n 0, 1) := by decide +kernel
theorem dX12_spot_35 : decode cX12_spot 35 = .ok (.iload_n 1, 1) := by decide +kernel
theorem dX12_spot_36 : decode cX12_spot 36 = .ok (.iload_n 2, 1) := by decide +kernel
theorem dX12_spot_37 : decode cX12_spot 37 = .ok (.invokevirtual 385, 3) := by decide +kernel
theorem dX12_spot_40 : decode cX12_spot 40 = .ok (.goto 6, 3) := by decide +kernel
theorem dX12_spot_43 : decode cX12_spot 43 = .ok (.sipush (-10002), 3) := by decide +kernel
theorem dX12_spot_46 : decode cX12_spot 46 = .ok (.ireturn, 1) := by decide +kernel
theorem dX12_trackNow_0 : decode cX12_trackNow 0 = .ok (.iload_n 2, 1) := by decide +kernel
theorem dX12_trackNow_1 : decode cX12_trackNow 1 = .ok (.tableswitch 103 0 7 #[47, 54, 61, 68, 75, 82, 89, 96], 47) := by decide +kernel
theorem dX12_trackNow_48 : decode cX12_trackNow 48 = .ok (.aload_n 0, 1) := by decide +kernel
theorem dX12_trackNow_49 : decode cX12_trackNow 49 = .ok (.getfield 65, 3) := by decide +kernel
theorem dX12_trackNow_52 : decode cX12_trackNow 52 = .ok (.iload_n 1, 1) := by decide +kernel
theorem dX12_trackNow_53 : decode cX12_trackNow 53 = .ok (.iaload, 1) := by decide +kernel
theorem dX12_trackNow_54 : decode cX12_trackNow 54 = .ok (.ireturn, 1) := by decide +kernel
theorem dX12_trackNow_55 : decode cX12_trackNow 55 = .ok (.aload_n 0, 1) := by decide +kernel
theorem dX12_trackNow_56 : decode cX12_trackNow 56 = .ok (.getfield 68, 3) := by decide +kernel
theorem dX12_trackNow_59 : decode cX12_trackNow 59 = .ok (.iload_n 1, 1) := by decide +kernel
theorem dX12_trackNow_60 : decode cX12_trackNow 60 = .ok (.iaload, 1) := by decide +kernel
theorem dX12_trackNow_61 : decode cX12_trackNow 61 = .ok (.ireturn, 1) := by decide +kernel
theorem dX12_trackNow_62 : decode cX12_trackNow 62 = .ok (.aload_n 0, 1) := by decide +kernel
theorem dX12_trackNow_63 : decode cX12_trackNow 63 = .ok (.getfield 71, 3) := by decide +kernel
theorem dX12_trackNow_66 : decode cX12_trackNow 66 = .ok (.iload_n 1, 1) := by decide +kernel
theorem dX12_trackNow_67 : decode cX12_trackNow 67 = .ok (.iaload, 1) := by decide +kernel
theorem dX12_trackNow_68 : decode cX12_trackNow 68 = .ok (.ireturn, 1) := by decide +kernel
theorem dX12_trackNow_69 : decode cX12_trackNow 69 = .ok (.aload_n 0, 1) := by decide +kernel
theorem dX12_trackNow_70 : decode cX12_trackNow 70 = .ok (.getfield 74, 3) := by decide +kernel
theorem dX12_trackNow_73 : decode cX12_trackNow 73 = .ok (.iload_n 1, 1) := by decide +kernel
theorem dX12_trackNow_74 : decode cX12_trackNow 74 = .ok (.iaload, 1) := by decide +kernel
theorem dX12_trackNow_75 : decode cX12_trackNow 75 = .ok (.ireturn, 1) := by decide +kernel
theorem dX12_trackNow_76 : decode cX12_trackNow 76 = .ok (.aload_n 0, 1) := by decide +kernel
theorem dX12_trackNow_77 : decode cX12_trackNow 77 = .ok (.getfield 77, 3) := by decide +kernel
theorem dX12_trackNow_80 : decode cX12_trackNow 80 = .ok (.iload_n 1, 1) := by decide +kernel
theorem dX12_trackNow_81 : decode cX12_trackNow 81 = .ok (.iaload, 1) := by decide +kernel
theorem dX12_trackNow_82 : decode cX12_trackNow 82 = .ok (.ireturn, 1) := by decide +kernel
theorem dX12_trackNow_83 : decode cX12_trackNow 83 = .ok (.aload_n 0, 1) := by decide +kernel
theorem dX12_trackNow_84 : decode cX12_trackNow 84 = .ok (.getfield 80, 3) := by decide +kernel
theorem dX12_trackNow_87 : decode cX12_trackNow 87 = .ok (.iload_n 1, 1) := by decide +kernel
theorem dX12_trackNow_88 : decode cX12_trackNow 88 = .ok (.iaload, 1) := by decide +kernel
theorem dX12_trackNow_89 : decode cX12_trackNow 89 = .ok (.ireturn, 1) := by decide +kernel
theorem dX12_trackNow_90 : decode cX12_trackNow 90 = .ok (.aload_n 0, 1) := by decide +kernel
theorem dX12_trackNow_91 : decode cX12_trackNow 91 = .ok (.getfield 83, 3) := by decide +kernel
theorem dX12_trackNow_94 : decode cX12_trackNow 94 = .ok (.iload_n 1, 1) := by decide +kernel
theorem dX12_trackNow_95 : decode cX12_trackNow 95 = .ok (.iaload, 1) := by decide +kernel
theorem dX12_trackNow_96 : decode cX12_trackNow 96 = .ok (.ireturn, 1) := by decide +kernel
theorem dX12_trackNow_97 : decode cX12_trackNow 97 = .ok (.aload_n 0, 1) := by decide +kernel
theorem dX12_trackNow_98 : decode cX12_trackNow 98 = .ok (.getfield 86, 3) := by decide +kernel
theorem dX12_trackNow_101 : decode cX12_trackNow 101 = .ok (.iload_n 1, 1) := by decide +kernel
theorem dX12_trackNow_102 : decode cX12_trackNow 102 = .ok (.iaload, 1) := by decide +kernel
theorem dX12_trackNow_103 : decode cX12_trackNow 103 = .ok (.ireturn, 1) := by decide +kernel
theorem dX12_trackNow_104 : decode cX12_trackNow 104 = .ok (.aload_n 0, 1) := by decide +kernel
theorem dX12_trackNow_105 : decode cX12_trackNow 105 = .ok (.getfield 89, 3) := by decide +kernel
theorem dX12_trackNow_108 : decode cX12_trackNow 108 = .ok (.iload_n 1, 1) := by decide +kernel
theorem dX12_trackNow_109 : decode cX12_trackNow 109 = .ok (.baload, 1) := by decide +kernel
theorem dX12_trackNow_110 : decode cX12_trackNow 110 = .ok (.ifCond .eq 7, 3) := by decide +kernel
theorem dX12_trackNow_113 : decode cX12_trackNow 113 = .ok (.iconst 1, 1) := by decide +kernel
theorem dX12_trackNow_114 : decode cX12_trackNow 114 = .ok (.goto 4, 3) := by decide +kernel
theorem dX12_trackNow_117 : decode cX12_trackNow 117 = .ok (.iconst 0, 1) := by decide +kernel
theorem dX12_trackNow_118 : decode cX12_trackNow 118 = .ok (.ireturn, 1) := by decide +kernel
theorem dX12_isTrack_0 : decode cX12_isTrack 0 = .ok (.aload_n 0, 1) := by decide +kernel
theorem dX12_isTrack_1 : decode cX12_isTrack 1 = .ok (.invokevirtual 177, 3) := by decide +kernel
theorem dX12_isTrack_4 : decode cX12_isTrack 4 = .ok (.ifCond .eq 21, 3) := by decide +kernel
theorem dX12_isTrack_7 : decode cX12_isTrack 7 = .ok (.iload_n 1, 1) := by decide +kernel
theorem dX12_isTrack_8 : decode cX12_isTrack 8 = .ok (.iconst 0, 1) := by decide +kernel
theorem dX12_isTrack_9 : decode cX12_isTrack 9 = .ok (.aload_n 0, 1) := by decide +kernel
theorem dX12_isTrack_10 : decode cX12_isTrack 10 = .ok (.getfield 212, 3) := by decide +kernel
theorem dX12_isTrack_13 : decode cX12_isTrack 13 = .ok (.iconst 1, 1) := by decide +kernel
theorem dX12_isTrack_14 : decode cX12_isTrack 14 = .ok (.isub, 1) := by decide +kernel
theorem dX12_isTrack_15 : decode cX12_isTrack 15 = .ok (.invokestatic 123, 3) := by decide +kernel
theorem dX12_isTrack_18 : decode cX12_isTrack 18 = .ok (.ifCond .eq 7, 3) := by decide +kernel
theorem dX12_isTrack_21 : decode cX12_isTrack 21 = .ok (.iconst 1, 1) := by decide +kernel
theorem dX12_isTrack_22 : decode cX12_isTrack 22 = .ok (.goto 4, 3) := by decide +kernel
theorem dX12_isTrack_25 : decode cX12_isTrack 25 = .ok (.iconst 0, 1) := by decide +kernel
theorem dX12_isTrack_26 : decode cX12_isTrack 26 = .ok (.ireturn, 1) := by decide +kernel
theorem dX12_track_0 : decode cX12_track 0 = .ok (.aload_n 0, 1) := by decide +kernel
theorem dX12_track_1 : decode cX12_track 1 = .ok (.iload_n 1, 1) := by decide +kernel
theorem dX12_track_2 : decode cX12_track 2 = .ok (.invokevirtual 388, 3) := by decide +kernel
theorem dX12_track_5 : decode cX12_track 5 = .ok (.ifCond .ne 9, 3) := by decide +kernel
theorem dX12_track_8 : decode cX12_track 8 = .ok (.sipush (-10001), 3) := by decide +kernel
theorem dX12_track_11 : decode cX12_track 11 = .ok (.goto 25, 3) := by decide +kernel
theorem dX12_track_14 : decode cX12_track 14 = .ok (.iload_n 2, 1) := by decide +kernel
theorem dX12_track_15 : decode cX12_track 15 = .ok (.iconst 0, 1) := by decide +kernel
theorem dX12_track_16 : decode cX12_track 16 = .ok (.bipush 8, 2) := by decide +kernel
theorem dX12_track_18 : decode cX12_track 18 = .ok (.invokestatic 123, 3) := by decide +kernel
theorem dX12_track_21 : decode cX12_track 21 = .ok (.ifCond .eq 12, 3) := by decide +kernel
theorem dX12_track_24 : decode cX12_track 24 = .ok (.aload_n 0, 1) := by decide +kernel
theorem dX12_track_25 : decode cX12_track 25 = .ok (.iload_n 1, 1) := by decide +kernel
theorem dX12_track_26 : decode cX12_track 26 = .ok (.iload_n 2, 1) := by decide +kernel
theorem dX12_track_27 : decode cX12_track 27 = .ok (.invokevirtual 391, 3) := by decide +kernel
theorem dX12_track_30 : decode cX12_track 30 = .ok (.goto 6, 3) := by decide +kernel
theorem dX12_track_33 : decode cX12_track 33 = .ok (.sipush (-10002), 3) := by decide +kernel
theorem dX12_track_36 : decode cX12_track 36 = .ok (.ireturn, 1) := by decide +kernel
theorem dX12_as_0 : decode cX12_as 0 = .ok (.aload_n 0, 1) := by decide +kernel
theorem dX12_as_1 : decode cX12_as 1 = .ok (.iload_n 1, 1) := by decide +kernel
theorem dX12_as_2 : decode cX12_as 2 = .ok (.invokevirtual 388, 3) := by decide +kernel
theorem dX12_as_5 : decode cX12_as 5 = .ok (.ifCond .ne 7, 3) := by decide +kernel
theorem dX12_as_8 : decode cX12_as 8 = .ok (.sipush (-10001), 3) := by decide +kernel
theorem dX12_as_11 : decode cX12_as 11 = .ok (.ireturn, 1) := by decide +kernel
theorem dX12_as_12 : decode cX12_as 12 = .ok (.iload_n 2, 1) := by decide +kernel
theorem dX12_as_13 : decode cX12_as 13 = .ok (.iconst 0, 1) := by decide +kernel
theorem dX12_as_14 : decode cX12_as 14 = .ok (.iconst 1, 1) := by decide +kernel
theorem dX12_as_15 : decode cX12_as 15 = .ok (.invokestatic 123, 3) := by decide +kernel
theorem dX12_as_18 : decode cX12_as 18 = .ok (.ifCond .ne 7, 3) := by decide +kernel
theorem dX12_as_21 : decode cX12_as 21 = .ok (.sipush (-10002), 3) := by decide +kernel
theorem dX12_as_24 : decode cX12_as 24 = .ok (.ireturn, 1) := by decide +kernel
theorem dX12_as_25 : decode cX12_as 25 = .ok (.aload_n 0, 1) := by decide +kernel
theorem dX12_as_26 : decode cX12_as 26 = .ok (.getfield 89, 3) := by decide +kernel
theorem dX12_as_29 : decode cX12_as 29 = .ok (.iload_n 1, 1) := by decide +kernel
theorem dX12_as_30 : decode cX12_as 30 = .ok (.baload, 1) := by decide +kernel
theorem dX12_as_31 : decode cX12_as 31 = .ok (.iload_n 2, 1) := by decide +kernel
theorem dX12_as_32 : decode cX12_as 32 = .ok (.iconst 1, 1) := by decide +kernel
theorem dX12_as_33 : decode cX12_as 33 = .ok (.if_icmp .ne 7, 3) := by decide +kernel
theorem dX12_as_36 : decode cX12_as 36 = .ok (.iconst 1, 1) := by decide +kernel
theorem dX12_as_37 : decode cX12_as 37 = .ok (.goto 4, 3) := by decide +kernel
theorem dX12_as_40 : decode cX12_as 40 = .ok (.iconst 0, 1) := by decide +kernel
theorem dX12_as_41 : decode cX12_as 41 = .ok (.if_icmp .ne 12, 3) := by decide +kernel
theorem dX12_as_44 : decode cX12_as 44 = .ok (.aload_n 0, 1) := by decide +kernel
theorem dX12_as_45 : decode cX12_as 45 = .ok (.getfield 65, 3) := by decide +kernel
theorem dX12_as_48 : decode cX12_as 48 = .ok (.iload_n 1, 1) := by decide +kernel
theorem dX12_as_49 : decode cX12_as 49 = .ok (.iaload, 1) := by decide +kernel
theorem dX12_as_50 : decode cX12_as 50 = .ok (.goto 4, 3) := by decide +kernel
theorem dX12_as_53 : decode cX12_as 53 = .ok (.iconst (-1), 1) := by decide +kernel
theorem dX12_as_54 : decode cX12_as 54 = .ok (.ireturn, 1) := by decide +kernel
theorem dX12_event_0 : decode cX12_event 0 = .ok (.iload_n 1, 1) := by decide +kernel
theorem dX12_event_1 : decode cX12_event 1 = .ok (.iconst 0, 1) := by decide +kernel
theorem dX12_event_2 : decode cX12_event 2 = .ok (.aload_n 0, 1) := by decide +kernel
theorem dX12_event_3 : decode cX12_event 3 = .ok (.getfield 316, 3) := by decide +kernel
theorem dX12_event_6 : decode cX12_event 6 = .ok (.iconst 1, 1) := by decide +kernel
theorem dX12_event_7 : decode cX12_event 7 = .ok (.isub, 1) := by decide +kernel
theorem dX12_event_8 : decode cX12_event 8 = .ok (.invokestatic 123, 3) := by decide +kernel
theorem dX12_event_11 : decode cX12_event 11 = .ok (.ifCond .ne 7, 3) := by decide +kernel
theorem dX12_event_14 : decode cX12_event 14 = .ok (.sipush (-10001), 3) := by decide +kernel
theorem dX12_event_17 : decode cX12_event 17 = .ok (.ireturn, 1) := by decide +kernel
theorem dX12_event_18 : decode cX12_event 18 = .ok (.iload_n 2, 1) := by decide +kernel
theorem dX12_event_19 : decode cX12_event 19 = .ok (.iconst 0, 1) := by decide +kernel
theorem dX12_event_20 : decode cX12_event 20 = .ok (.iconst 2, 1) := by decide +kernel
theorem dX12_event_21 : decode cX12_event 21 = .ok (.invokestatic 123, 3) := by decide +kernel
theorem dX12_event_24 : decode cX12_event 24 = .ok (.ifCond .eq 12, 3) := by decide +kernel
theorem dX12_event_27 : decode cX12_event 27 = .ok (.aload_n 0, 1) := by decide +kernel
theorem dX12_event_28 : decode cX12_event 28 = .ok (.iload_n 1, 1) := by decide +kernel
theorem dX12_event_29 : decode cX12_event 29 = .ok (.iload_n 2, 1) := by decide +kernel
theorem dX12_event_30 : decode cX12_event 30 = .ok (.invokevirtual 394, 3) := by decide +kernel
theorem dX12_event_33 : decode cX12_event 33 = .ok (.goto 6, 3) := by decide +kernel
theorem dX12_event_36 : decode cX12_event 36 = .ok (.sipush (-10002), 3) := by decide +kernel
theorem dX12_event_39 : decode cX12_event 39 = .ok (.ireturn, 1) := by decide +kernel
theorem dX12_eventNow_0 : decode cX12_eventNow 0 = .ok (.iload_n 2, 1) := by decide +kernel
theorem dX12_eventNow_1 : decode cX12_eventNow 1 = .ok (.ifCond .ne 12, 3) := by decide +kernel
theorem dX12_eventNow_4 : decode cX12_eventNow 4 = .ok (.aload_n 0, 1) := by decide +kernel
theorem dX12_eventNow_5 : decode cX12_eventNow 5 = .ok (.getfield 92, 3) := by decide +kernel
theorem dX12_eventNow_8 : decode cX12_eventNow 8 = .ok (.iload_n 1, 1) := by decide +kernel
theorem dX12_eventNow_9 : decode cX12_eventNow 9 = .ok (.iaload, 1) := by decide +kernel
theorem dX12_eventNow_10 : decode cX12_eventNow 10 = .ok (.goto 23, 3) := by decide +kernel
theorem dX12_eventNow_13 : decode cX12_eventNow 13 = .ok (.iload_n 2, 1) := by decide +kernel
theorem dX12_eventNow_14 : decode cX12_eventNow 14 = .ok (.iconst 1, 1) := by decide +kernel
theorem dX12_eventNow_15 : decode cX12_eventNow 15 = .ok (.if_icmp .ne 12, 3) := by decide +kernel
theorem dX12_eventNow_18 : decode cX12_eventNow 18 = .ok (.aload_n 0, 1) := by decide +kernel
theorem dX12_eventNow_19 : decode cX12_eventNow 19 = .ok (.getfield 95, 3) := by decide +kernel
theorem dX12_eventNow_22 : decode cX12_eventNow 22 = .ok (.iload_n 1, 1) := by decide +kernel
theorem dX12_eventNow_23 : decode cX12_eventNow 23 = .ok (.iaload, 1) := by decide +kernel
theorem dX12_eventNow_24 : decode cX12_eventNow 24 = .ok (.goto 9, 3) := by decide +kernel
theorem dX12_eventNow_27 : decode cX12_eventNow 27 = .ok (.aload_n 0, 1) := by decide +kernel
theorem dX12_eventNow_28 : decode cX12_eventNow 28 = .ok (.getfield 98, 3) := by decide +kernel
theorem dX12_eventNow_31 : decode cX12_eventNow 31 = .ok (.iload_n 1, 1) := by decide +kernel
theorem dX12_eventNow_32 : decode cX12_eventNow 32 = .ok (.iaload, 1) := by decide +kernel
theorem dX12_eventNow_33 : decode cX12_eventNow 33 = .ok (.ireturn, 1) := by decide +kernel
theorem dX12_howMany_0 : decode cX12_howMany 0 = .ok (.iload_n 1, 1) := by decide +kernel
theorem dX12_howMany_1 : decode cX12_howMany 1 = .ok (.tableswitch 69 0 5 #[39, 44, 49, 54, 59, 64], 39) := by decide +kernel
theorem dX12_howMany_40 : decode cX12_howMany 40 = .ok (.aload_n 0, 1) := by decide +kernel
theorem dX12_howMany_41 : decode cX12_howMany 41 = .ok (.getfield 127, 3) := by decide +kernel
theorem dX12_howMany_44 : decode cX12_howMany 44 = .ok (.ireturn, 1) := by decide +kernel
theorem dX12_howMany_45 : decode cX12_howMany 45 = .ok (.aload_n 0, 1) := by decide +kernel
theorem dX12_howMany_46 : decode cX12_howMany 46 = .ok (.getfield 340, 3) := by decide +kernel
theorem dX12_howMany_49 : decode cX12_howMany 49 = .ok (.ireturn, 1) := by decide +kernel
theorem dX12_howMany_50 : decode cX12_howMany 50 = .ok (.aload_n 0, 1) := by decide +kernel
theorem dX12_howMany_51 : decode cX12_howMany 51 = .ok (.getfield 349, 3) := by decide +kernel
theorem dX12_howMany_54 : decode cX12_howMany 54 = .ok (.ireturn, 1) := by decide +kernel
theorem dX12_howMany_55 : decode cX12_howMany 55 = .ok (.aload_n 0, 1) := by decide +kernel
theorem dX12_howMany_56 : decode cX12_howMany 56 = .ok (.getfield 334, 3) := by decide +kernel
theorem dX12_howMany_59 : decode cX12_howMany 59 = .ok (.ireturn, 1) := by decide +kernel
theorem dX12_howMany_60 : decode cX12_howMany 60 = .ok (.aload_n 0, 1) := by decide +kernel
theorem dX12_howMany_61 : decode cX12_howMany 61 = .ok (.getfield 185, 3) := by decide +kernel
theorem dX12_howMany_64 : decode cX12_howMany 64 = .ok (.ireturn, 1) := by decide +kernel
theorem dX12_howMany_65 : decode cX12_howMany 65 = .ok (.aload_n 0, 1) := by decide +kernel
theorem dX12_howMany_66 : decode cX12_howMany 66 = .ok (.getfield 215, 3) := by decide +kernel
theorem dX12_howMany_69 : decode cX12_howMany 69 = .ok (.ireturn, 1) := by decide +kernel
theorem dX12_howMany_70 : decode cX12_howMany 70 = .ok (.sipush (-10002), 3) := by decide +kernel
theorem dX12_howMany_73 : decode cX12_howMany 73 = .ok (.ireturn, 1) := by decide +kernel
theorem dX12_count_0 : decode cX12_count 0 = .ok (.aload_n 0, 1) := by decide +kernel
theorem dX12_count_1 : decode cX12_count 1 = .ok (.iload_n 1, 1) := by decide +kernel
theorem dX12_count_2 : decode cX12_count 2 = .ok (.invokevirtual 397, 3) := by decide +kernel
theorem dX12_count_5 : decode cX12_count 5 = .ok (.ireturn, 1) := by decide +kernel
theorem dX12_events_0 : decode cX12_events 0 = .ok (.iload_n 1, 1) := by decide +kernel
theorem dX12_events_1 : decode cX12_events 1 = .ok (.iconst 1, 1) := by decide +kernel
theorem dX12_events_2 : decode cX12_events 2 = .ok (.iconst 4, 1) := by decide +kernel
theorem dX12_events_3 : decode cX12_events 3 = .ok (.invokestatic 123, 3) := by decide +kernel
theorem dX12_events_6 : decode cX12_events 6 = .ok (.ifCond .eq 12, 3) := by decide +kernel
theorem dX12_events_9 : decode cX12_events 9 = .ok (.aload_n 0, 1) := by decide +kernel
theorem dX12_events_10 : decode cX12_events 10 = .ok (.getfield 101, 3) := by decide +kernel
theorem dX12_events_13 : decode cX12_events 13 = .ok (.iload_n 1, 1) := by decide +kernel
theorem dX12_events_14 : decode cX12_events 14 = .ok (.iaload, 1) := by decide +kernel
theorem dX12_events_15 : decode cX12_events 15 = .ok (.goto 6, 3) := by decide +kernel
theorem dX12_events_18 : decode cX12_events 18 = .ok (.sipush (-10002), 3) := by decide +kernel
theorem dX12_events_21 : decode cX12_events 21 = .ok (.ireturn, 1) := by decide +kernel
theorem dX12_mix_0 : decode cX12_mix 0 = .ok (.aload_n 0, 1) := by decide +kernel
theorem dX12_mix_1 : decode cX12_mix 1 = .ok (.ldc2_w 400, 3) := by decide +kernel
theorem dX12_mix_4 : decode cX12_mix 4 = .ok (.aload_n 0, 1) := by decide +kernel
theorem dX12_mix_5 : decode cX12_mix 5 = .ok (.getfield 402, 3) := by decide +kernel
theorem dX12_mix_8 : decode cX12_mix 8 = .ok (.lmul, 1) := by decide +kernel
theorem dX12_mix_9 : decode cX12_mix 9 = .ok (.lload_n 1, 1) := by decide +kernel
theorem dX12_mix_10 : decode cX12_mix 10 = .ok (.ladd, 1) := by decide +kernel
theorem dX12_mix_11 : decode cX12_mix 11 = .ok (.putfield 402, 3) := by decide +kernel
theorem dX12_mix_14 : decode cX12_mix 14 = .ok (.return_, 1) := by decide +kernel
theorem dX12_mixGlass_0 : decode cX12_mixGlass 0 = .ok (.iconst 0, 1) := by decide +kernel
theorem dX12_mixGlass_1 : decode cX12_mixGlass 1 = .ok (.istore_n 1, 1) := by decide +kernel
theorem dX12_mixGlass_2 : decode cX12_mixGlass 2 = .ok (.iload_n 1, 1) := by decide +kernel
theorem dX12_mixGlass_3 : decode cX12_mixGlass 3 = .ok (.bipush 9, 2) := by decide +kernel
theorem dX12_mixGlass_5 : decode cX12_mixGlass 5 = .ok (.if_icmp .ge 19, 3) := by decide +kernel
theorem dX12_mixGlass_8 : decode cX12_mixGlass 8 = .ok (.aload_n 0, 1) := by decide +kernel
theorem dX12_mixGlass_9 : decode cX12_mixGlass 9 = .ok (.aload_n 0, 1) := by decide +kernel
theorem dX12_mixGlass_10 : decode cX12_mixGlass 10 = .ok (.iload_n 1, 1) := by decide +kernel
theorem dX12_mixGlass_11 : decode cX12_mixGlass 11 = .ok (.invokevirtual 382, 3) := by decide +kernel
theorem dX12_mixGlass_14 : decode cX12_mixGlass 14 = .ok (.i2l, 1) := by decide +kernel
theorem dX12_mixGlass_15 : decode cX12_mixGlass 15 = .ok (.invokevirtual 406, 3) := by decide +kernel
theorem dX12_mixGlass_18 : decode cX12_mixGlass 18 = .ok (.iinc 1 1, 3) := by decide +kernel
theorem dX12_mixGlass_21 : decode cX12_mixGlass 21 = .ok (.goto (-19), 3) := by decide +kernel
theorem dX12_mixGlass_24 : decode cX12_mixGlass 24 = .ok (.iconst 0, 1) := by decide +kernel
theorem dX12_mixGlass_25 : decode cX12_mixGlass 25 = .ok (.istore_n 1, 1) := by decide +kernel
theorem dX12_mixGlass_26 : decode cX12_mixGlass 26 = .ok (.iload_n 1, 1) := by decide +kernel
theorem dX12_mixGlass_27 : decode cX12_mixGlass 27 = .ok (.bipush 20, 2) := by decide +kernel
theorem dX12_mixGlass_29 : decode cX12_mixGlass 29 = .ok (.if_icmp .ge 24, 3) := by decide +kernel
theorem dX12_mixGlass_32 : decode cX12_mixGlass 32 = .ok (.aload_n 0, 1) := by decide +kernel
theorem dX12_mixGlass_33 : decode cX12_mixGlass 33 = .ok (.aload_n 0, 1) := by decide +kernel
theorem dX12_mixGlass_34 : decode cX12_mixGlass 34 = .ok (.iload_n 1, 1) := by decide +kernel
theorem dX12_mixGlass_35 : decode cX12_mixGlass 35 = .ok (.iconst 4, 1) := by decide +kernel
theorem dX12_mixGlass_36 : decode cX12_mixGlass 36 = .ok (.idiv, 1) := by decide +kernel
theorem dX12_mixGlass_37 : decode cX12_mixGlass 37 = .ok (.iload_n 1, 1) := by decide +kernel
theorem dX12_mixGlass_38 : decode cX12_mixGlass 38 = .ok (.iconst 4, 1) := by decide +kernel
theorem dX12_mixGlass_39 : decode cX12_mixGlass 39 = .ok (.irem, 1) := by decide +kernel
theorem dX12_mixGlass_40 : decode cX12_mixGlass 40 = .ok (.invokevirtual 376, 3) := by decide +kernel
theorem dX12_mixGlass_43 : decode cX12_mixGlass 43 = .ok (.i2l, 1) := by decide +kernel
theorem dX12_mixGlass_44 : decode cX12_mixGlass 44 = .ok (.invokevirtual 406, 3) := by decide +kernel
theorem dX12_mixGlass_47 : decode cX12_mixGlass 47 = .ok (.iinc 1 1, 3) := by decide +kernel
theorem dX12_mixGlass_50 : decode cX12_mixGlass 50 = .ok (.goto (-24), 3) := by decide +kernel
theorem dX12_mixGlass_53 : decode cX12_mixGlass 53 = .ok (.iconst 0, 1) := by decide +kernel
theorem dX12_mixGlass_54 : decode cX12_mixGlass 54 = .ok (.istore_n 1, 1) := by decide +kernel
theorem dX12_mixGlass_55 : decode cX12_mixGlass 55 = .ok (.iload_n 1, 1) := by decide +kernel
theorem dX12_mixGlass_56 : decode cX12_mixGlass 56 = .ok (.bipush 6, 2) := by decide +kernel
theorem dX12_mixGlass_58 : decode cX12_mixGlass 58 = .ok (.aload_n 0, 1) := by decide +kernel
theorem dX12_mixGlass_59 : decode cX12_mixGlass 59 = .ok (.invokevirtual 218, 3) := by decide +kernel
theorem dX12_mixGlass_62 : decode cX12_mixGlass 62 = .ok (.imul, 1) := by decide +kernel
theorem dX12_mixGlass_63 : decode cX12_mixGlass 63 = .ok (.if_icmp .ge 26, 3) := by decide +kernel
theorem dX12_mixGlass_66 : decode cX12_mixGlass 66 = .ok (.aload_n 0, 1) := by decide +kernel
theorem dX12_mixGlass_67 : decode cX12_mixGlass 67 = .ok (.aload_n 0, 1) := by decide +kernel
theorem dX12_mixGlass_68 : decode cX12_mixGlass 68 = .ok (.iload_n 1, 1) := by decide +kernel
theorem dX12_mixGlass_69 : decode cX12_mixGlass 69 = .ok (.bipush 6, 2) := by decide +kernel
theorem dX12_mixGlass_71 : decode cX12_mixGlass 71 = .ok (.idiv, 1) := by decide +kernel
theorem dX12_mixGlass_72 : decode cX12_mixGlass 72 = .ok (.iload_n 1, 1) := by decide +kernel
theorem dX12_mixGlass_73 : decode cX12_mixGlass 73 = .ok (.bipush 6, 2) := by decide +kernel
theorem dX12_mixGlass_75 : decode cX12_mixGlass 75 = .ok (.irem, 1) := by decide +kernel
theorem dX12_mixGlass_76 : decode cX12_mixGlass 76 = .ok (.invokevirtual 379, 3) := by decide +kernel
theorem dX12_mixGlass_79 : decode cX12_mixGlass 79 = .ok (.i2l, 1) := by decide +kernel
theorem dX12_mixGlass_80 : decode cX12_mixGlass 80 = .ok (.invokevirtual 406, 3) := by decide +kernel
theorem dX12_mixGlass_83 : decode cX12_mixGlass 83 = .ok (.iinc 1 1, 3) := by decide +kernel
theorem dX12_mixGlass_86 : decode cX12_mixGlass 86 = .ok (.goto (-31), 3) := by decide +kernel
theorem dX12_mixGlass_89 : decode cX12_mixGlass 89 = .ok (.iconst 0, 1) := by decide +kernel
theorem dX12_mixGlass_90 : decode cX12_mixGlass 90 = .ok (.istore_n 1, 1) := by decide +kernel
theorem dX12_mixGlass_91 : decode cX12_mixGlass 91 = .ok (.iload_n 1, 1) := by decide +kernel
theorem dX12_mixGlass_92 : decode cX12_mixGlass 92 = .ok (.bipush 6, 2) := by decide +kernel
theorem dX12_mixGlass_94 : decode cX12_mixGlass 94 = .ok (.aload_n 0, 1) := by decide +kernel
theorem dX12_mixGlass_95 : decode cX12_mixGlass 95 = .ok (.getfield 209, 3) := by decide +kernel
theorem dX12_mixGlass_98 : decode cX12_mixGlass 98 = .ok (.imul, 1) := by decide +kernel
theorem dX12_mixGlass_99 : decode cX12_mixGlass 99 = .ok (.if_icmp .ge 26, 3) := by decide +kernel
theorem dX12_mixGlass_102 : decode cX12_mixGlass 102 = .ok (.aload_n 0, 1) := by decide +kernel
theorem dX12_mixGlass_103 : decode cX12_mixGlass 103 = .ok (.aload_n 0, 1) := by decide +kernel
theorem dX12_mixGlass_104 : decode cX12_mixGlass 104 = .ok (.iload_n 1, 1) := by decide +kernel
theorem dX12_mixGlass_105 : decode cX12_mixGlass 105 = .ok (.bipush 6, 2) := by decide +kernel
theorem dX12_mixGlass_107 : decode cX12_mixGlass 107 = .ok (.idiv, 1) := by decide +kernel
theorem dX12_mixGlass_108 : decode cX12_mixGlass 108 = .ok (.iload_n 1, 1) := by decide +kernel
theorem dX12_mixGlass_109 : decode cX12_mixGlass 109 = .ok (.bipush 6, 2) := by decide +kernel
theorem dX12_mixGlass_111 : decode cX12_mixGlass 111 = .ok (.irem, 1) := by decide +kernel
theorem dX12_mixGlass_112 : decode cX12_mixGlass 112 = .ok (.invokevirtual 385, 3) := by decide +kernel
theorem dX12_mixGlass_115 : decode cX12_mixGlass 115 = .ok (.i2l, 1) := by decide +kernel
theorem dX12_mixGlass_116 : decode cX12_mixGlass 116 = .ok (.invokevirtual 406, 3) := by decide +kernel
theorem dX12_mixGlass_119 : decode cX12_mixGlass 119 = .ok (.iinc 1 1, 3) := by decide +kernel
theorem dX12_mixGlass_122 : decode cX12_mixGlass 122 = .ok (.goto (-31), 3) := by decide +kernel
theorem dX12_mixGlass_125 : decode cX12_mixGlass 125 = .ok (.iconst 0, 1) := by decide +kernel
theorem dX12_mixGlass_126 : decode cX12_mixGlass 126 = .ok (.istore_n 1, 1) := by decide +kernel
theorem dX12_mixGlass_127 : decode cX12_mixGlass 127 = .ok (.iload_n 1, 1) := by decide +kernel
theorem dX12_mixGlass_128 : decode cX12_mixGlass 128 = .ok (.bipush 9, 2) := by decide +kernel
theorem dX12_mixGlass_130 : decode cX12_mixGlass 130 = .ok (.aload_n 0, 1) := by decide +kernel
theorem dX12_mixGlass_131 : decode cX12_mixGlass 131 = .ok (.getfield 212, 3) := by decide +kernel
theorem dX12_mixGlass_134 : decode cX12_mixGlass 134 = .ok (.imul, 1) := by decide +kernel
theorem dX12_mixGlass_135 : decode cX12_mixGlass 135 = .ok (.if_icmp .ge 26, 3) := by decide +kernel
theorem dX12_mixGlass_138 : decode cX12_mixGlass 138 = .ok (.aload_n 0, 1) := by decide +kernel
theorem dX12_mixGlass_139 : decode cX12_mixGlass 139 = .ok (.aload_n 0, 1) := by decide +kernel
theorem dX12_mixGlass_140 : decode cX12_mixGlass 140 = .ok (.iload_n 1, 1) := by decide +kernel
theorem dX12_mixGlass_141 : decode cX12_mixGlass 141 = .ok (.bipush 9, 2) := by decide +kernel
theorem dX12_mixGlass_143 : decode cX12_mixGlass 143 = .ok (.idiv, 1) := by decide +kernel
theorem dX12_mixGlass_144 : decode cX12_mixGlass 144 = .ok (.iload_n 1, 1) := by decide +kernel
theorem dX12_mixGlass_145 : decode cX12_mixGlass 145 = .ok (.bipush 9, 2) := by decide +kernel
theorem dX12_mixGlass_147 : decode cX12_mixGlass 147 = .ok (.irem, 1) := by decide +kernel
theorem dX12_mixGlass_148 : decode cX12_mixGlass 148 = .ok (.invokevirtual 391, 3) := by decide +kernel
theorem dX12_mixGlass_151 : decode cX12_mixGlass 151 = .ok (.i2l, 1) := by decide +kernel
theorem dX12_mixGlass_152 : decode cX12_mixGlass 152 = .ok (.invokevirtual 406, 3) := by decide +kernel
theorem dX12_mixGlass_155 : decode cX12_mixGlass 155 = .ok (.iinc 1 1, 3) := by decide +kernel
theorem dX12_mixGlass_158 : decode cX12_mixGlass 158 = .ok (.goto (-31), 3) := by decide +kernel
theorem dX12_mixGlass_161 : decode cX12_mixGlass 161 = .ok (.return_, 1) := by decide +kernel
theorem dX12_digest_0 : decode cX12_digest 0 = .ok (.aload_n 0, 1) := by decide +kernel
theorem dX12_digest_1 : decode cX12_digest 1 = .ok (.ldc2_w 410, 3) := by decide +kernel
theorem dX12_digest_4 : decode cX12_digest 4 = .ok (.putfield 402, 3) := by decide +kernel
theorem dX12_digest_7 : decode cX12_digest 7 = .ok (.aload_n 0, 1) := by decide +kernel
theorem dX12_digest_8 : decode cX12_digest 8 = .ok (.invokevirtual 177, 3) := by decide +kernel
theorem dX12_digest_11 : decode cX12_digest 11 = .ok (.ifCond .eq 7, 3) := by decide +kernel
theorem dX12_digest_14 : decode cX12_digest 14 = .ok (.aload_n 0, 1) := by decide +kernel
theorem dX12_digest_15 : decode cX12_digest 15 = .ok (.invokevirtual 412, 3) := by decide +kernel
theorem dX12_digest_18 : decode cX12_digest 18 = .ok (.iconst 0, 1) := by decide +kernel
theorem dX12_digest_19 : decode cX12_digest 19 = .ok (.istore_n 1, 1) := by decide +kernel
theorem dX12_digest_20 : decode cX12_digest 20 = .ok (.iload_n 1, 1) := by decide +kernel
theorem dX12_digest_21 : decode cX12_digest 21 = .ok (.iconst 3, 1) := by decide +kernel
theorem dX12_digest_22 : decode cX12_digest 22 = .ok (.aload_n 0, 1) := by decide +kernel
theorem dX12_digest_23 : decode cX12_digest 23 = .ok (.getfield 316, 3) := by decide +kernel
theorem dX12_digest_26 : decode cX12_digest 26 = .ok (.imul, 1) := by decide +kernel
theorem dX12_digest_27 : decode cX12_digest 27 = .ok (.if_icmp .ge 24, 3) := by decide +kernel
theorem dX12_digest_30 : decode cX12_digest 30 = .ok (.aload_n 0, 1) := by decide +kernel
theorem dX12_digest_31 : decode cX12_digest 31 = .ok (.aload_n 0, 1) := by decide +kernel
theorem dX12_digest_32 : decode cX12_digest 32 = .ok (.iload_n 1, 1) := by decide +kernel
theorem dX12_digest_33 : decode cX12_digest 33 = .ok (.iconst 3, 1) := by decide +kernel
theorem dX12_digest_34 : decode cX12_digest 34 = .ok (.idiv, 1) := by decide +kernel
theorem dX12_digest_35 : decode cX12_digest 35 = .ok (.iload_n 1, 1) := by decide +kernel
theorem dX12_digest_36 : decode cX12_digest 36 = .ok (.iconst 3, 1) := by decide +kernel
theorem dX12_digest_37 : decode cX12_digest 37 = .ok (.irem, 1) := by decide +kernel
theorem dX12_digest_38 : decode cX12_digest 38 = .ok (.invokevirtual 394, 3) := by decide +kernel
theorem dX12_digest_41 : decode cX12_digest 41 = .ok (.i2l, 1) := by decide +kernel
theorem dX12_digest_42 : decode cX12_digest 42 = .ok (.invokevirtual 406, 3) := by decide +kernel
theorem dX12_digest_45 : decode cX12_digest 45 = .ok (.iinc 1 1, 3) := by decide +kernel
theorem dX12_digest_48 : decode cX12_digest 48 = .ok (.goto (-28), 3) := by decide +kernel
theorem dX12_digest_51 : decode cX12_digest 51 = .ok (.iconst 0, 1) := by decide +kernel
theorem dX12_digest_52 : decode cX12_digest 52 = .ok (.istore_n 1, 1) := by decide +kernel
theorem dX12_digest_53 : decode cX12_digest 53 = .ok (.iload_n 1, 1) := by decide +kernel
theorem dX12_digest_54 : decode cX12_digest 54 = .ok (.aload_n 0, 1) := by decide +kernel
theorem dX12_digest_55 : decode cX12_digest 55 = .ok (.getfield 127, 3) := by decide +kernel
theorem dX12_digest_58 : decode cX12_digest 58 = .ok (.if_icmp .ge 20, 3) := by decide +kernel
theorem dX12_digest_61 : decode cX12_digest 61 = .ok (.aload_n 0, 1) := by decide +kernel
theorem dX12_digest_62 : decode cX12_digest 62 = .ok (.aload_n 0, 1) := by decide +kernel
theorem dX12_digest_63 : decode cX12_digest 63 = .ok (.getfield 7, 3) := by decide +kernel
theorem dX12_digest_66 : decode cX12_digest 66 = .ok (.iload_n 1, 1) := by decide +kernel
theorem dX12_digest_67 : decode cX12_digest 67 = .ok (.iaload, 1) := by decide +kernel
theorem dX12_digest_68 : decode cX12_digest 68 = .ok (.i2l, 1) := by decide +kernel
theorem dX12_digest_69 : decode cX12_digest 69 = .ok (.invokevirtual 406, 3) := by decide +kernel
theorem dX12_digest_72 : decode cX12_digest 72 = .ok (.iinc 1 1, 3) := by decide +kernel
theorem dX12_digest_75 : decode cX12_digest 75 = .ok (.goto (-22), 3) := by decide +kernel
theorem dX12_digest_78 : decode cX12_digest 78 = .ok (.iconst 0, 1) := by decide +kernel
theorem dX12_digest_79 : decode cX12_digest 79 = .ok (.istore_n 1, 1) := by decide +kernel
theorem dX12_digest_80 : decode cX12_digest 80 = .ok (.iload_n 1, 1) := by decide +kernel
theorem dX12_digest_81 : decode cX12_digest 81 = .ok (.bipush 6, 2) := by decide +kernel
theorem dX12_digest_83 : decode cX12_digest 83 = .ok (.if_icmp .ge 19, 3) := by decide +kernel
theorem dX12_digest_86 : decode cX12_digest 86 = .ok (.aload_n 0, 1) := by decide +kernel
theorem dX12_digest_87 : decode cX12_digest 87 = .ok (.aload_n 0, 1) := by decide +kernel
theorem dX12_digest_88 : decode cX12_digest 88 = .ok (.iload_n 1, 1) := by decide +kernel
theorem dX12_digest_89 : decode cX12_digest 89 = .ok (.invokevirtual 397, 3) := by decide +kernel
theorem dX12_digest_92 : decode cX12_digest 92 = .ok (.i2l, 1) := by decide +kernel
theorem dX12_digest_93 : decode cX12_digest 93 = .ok (.invokevirtual 406, 3) := by decide +kernel
theorem dX12_digest_96 : decode cX12_digest 96 = .ok (.iinc 1 1, 3) := by decide +kernel
theorem dX12_digest_99 : decode cX12_digest 99 = .ok (.goto (-19), 3) := by decide +kernel
theorem dX12_digest_102 : decode cX12_digest 102 = .ok (.iconst 1, 1) := by decide +kernel
theorem dX12_digest_103 : decode cX12_digest 103 = .ok (.istore_n 1, 1) := by decide +kernel
theorem dX12_digest_104 : decode cX12_digest 104 = .ok (.iload_n 1, 1) := by decide +kernel
theorem dX12_digest_105 : decode cX12_digest 105 = .ok (.iconst 5, 1) := by decide +kernel
theorem dX12_digest_106 : decode cX12_digest 106 = .ok (.if_icmp .ge 20, 3) := by decide +kernel
theorem dX12_digest_109 : decode cX12_digest 109 = .ok (.aload_n 0, 1) := by decide +kernel
theorem dX12_digest_110 : decode cX12_digest 110 = .ok (.aload_n 0, 1) := by decide +kernel
theorem dX12_digest_111 : decode cX12_digest 111 = .ok (.getfield 101, 3) := by decide +kernel
theorem dX12_digest_114 : decode cX12_digest 114 = .ok (.iload_n 1, 1) := by decide +kernel
theorem dX12_digest_115 : decode cX12_digest 115 = .ok (.iaload, 1) := by decide +kernel
theorem dX12_digest_116 : decode cX12_digest 116 = .ok (.i2l, 1) := by decide +kernel
theorem dX12_digest_117 : decode cX12_digest 117 = .ok (.invokevirtual 406, 3) := by decide +kernel
theorem dX12_digest_120 : decode cX12_digest 120 = .ok (.iinc 1 1, 3) := by decide +kernel
theorem dX12_digest_123 : decode cX12_digest 123 = .ok (.goto (-19), 3) := by decide +kernel
theorem dX12_digest_126 : decode cX12_digest 126 = .ok (.aload_n 0, 1) := by decide +kernel
theorem dX12_digest_127 : decode cX12_digest 127 = .ok (.getfield 402, 3) := by decide +kernel
theorem dX12_digest_130 : decode cX12_digest 130 = .ok (.lreturn, 1) := by decide +kernel
theorem dJ9_floorMod_7cf53_0 : decode cJ9_floorMod_7cf53 0 = .ok (.iload_n 0, 1) := by decide +kernel
theorem dJ9_floorMod_7cf53_1 : decode cJ9_floorMod_7cf53 1 = .ok (.iload_n 1, 1) := by decide +kernel
theorem dJ9_floorMod_7cf53_2 : decode cJ9_floorMod_7cf53 2 = .ok (.irem, 1) := by decide +kernel
theorem dJ9_floorMod_7cf53_3 : decode cJ9_floorMod_7cf53 3 = .ok (.istore_n 2, 1) := by decide +kernel
theorem dJ9_floorMod_7cf53_4 : decode cJ9_floorMod_7cf53 4 = .ok (.iload_n 0, 1) := by decide +kernel
theorem dJ9_floorMod_7cf53_5 : decode cJ9_floorMod_7cf53 5 = .ok (.iload_n 1, 1) := by decide +kernel
theorem dJ9_floorMod_7cf53_6 : decode cJ9_floorMod_7cf53 6 = .ok (.ixor, 1) := by decide +kernel
theorem dJ9_floorMod_7cf53_7 : decode cJ9_floorMod_7cf53 7 = .ok (.ifCond .ge 11, 3) := by decide +kernel
theorem dJ9_floorMod_7cf53_10 : decode cJ9_floorMod_7cf53 10 = .ok (.iload_n 2, 1) := by decide +kernel
theorem dJ9_floorMod_7cf53_11 : decode cJ9_floorMod_7cf53 11 = .ok (.ifCond .eq 7, 3) := by decide +kernel
theorem dJ9_floorMod_7cf53_14 : decode cJ9_floorMod_7cf53 14 = .ok (.iload_n 2, 1) := by decide +kernel
theorem dJ9_floorMod_7cf53_15 : decode cJ9_floorMod_7cf53 15 = .ok (.iload_n 1, 1) := by decide +kernel
theorem dJ9_floorMod_7cf53_16 : decode cJ9_floorMod_7cf53 16 = .ok (.iadd, 1) := by decide +kernel
theorem dJ9_floorMod_7cf53_17 : decode cJ9_floorMod_7cf53 17 = .ok (.ireturn, 1) := by decide +kernel
theorem dJ9_floorMod_7cf53_18 : decode cJ9_floorMod_7cf53 18 = .ok (.iload_n 2, 1) := by decide +kernel
theorem dJ9_floorMod_7cf53_19 : decode cJ9_floorMod_7cf53 19 = .ok (.ireturn, 1) := by decide +kernel
theorem dJ9_abs_0f7a4_0 : decode cJ9_abs_0f7a4 0 = .ok (.iload_n 0, 1) := by decide +kernel
theorem dJ9_abs_0f7a4_1 : decode cJ9_abs_0f7a4 1 = .ok (.ifCond .ge 8, 3) := by decide +kernel
theorem dJ9_abs_0f7a4_4 : decode cJ9_abs_0f7a4 4 = .ok (.iload_n 0, 1) := by decide +kernel
theorem dJ9_abs_0f7a4_5 : decode cJ9_abs_0f7a4 5 = .ok (.ineg, 1) := by decide +kernel
theorem dJ9_abs_0f7a4_6 : decode cJ9_abs_0f7a4 6 = .ok (.goto 4, 3) := by decide +kernel
theorem dJ9_abs_0f7a4_9 : decode cJ9_abs_0f7a4 9 = .ok (.iload_n 0, 1) := by decide +kernel
theorem dJ9_abs_0f7a4_10 : decode cJ9_abs_0f7a4 10 = .ok (.ireturn, 1) := by decide +kernel
theorem dJ9_max_7cf53_0 : decode cJ9_max_7cf53 0 = .ok (.iload_n 0, 1) := by decide +kernel
theorem dJ9_max_7cf53_1 : decode cJ9_max_7cf53 1 = .ok (.iload_n 1, 1) := by decide +kernel
theorem dJ9_max_7cf53_2 : decode cJ9_max_7cf53 2 = .ok (.if_icmp .lt 7, 3) := by decide +kernel
theorem dJ9_max_7cf53_5 : decode cJ9_max_7cf53 5 = .ok (.iload_n 0, 1) := by decide +kernel
theorem dJ9_max_7cf53_6 : decode cJ9_max_7cf53 6 = .ok (.goto 4, 3) := by decide +kernel
theorem dJ9_max_7cf53_9 : decode cJ9_max_7cf53 9 = .ok (.iload_n 1, 1) := by decide +kernel
theorem dJ9_max_7cf53_10 : decode cJ9_max_7cf53 10 = .ok (.ireturn, 1) := by decide +kernel
theorem dJ9_min_7cf53_0 : decode cJ9_min_7cf53 0 = .ok (.iload_n 0, 1) := by decide +kernel
theorem dJ9_min_7cf53_1 : decode cJ9_min_7cf53 1 = .ok (.iload_n 1, 1) := by decide +kernel
theorem dJ9_min_7cf53_2 : decode cJ9_min_7cf53 2 = .ok (.if_icmp .gt 7, 3) := by decide +kernel
theorem dJ9_min_7cf53_5 : decode cJ9_min_7cf53 5 = .ok (.iload_n 0, 1) := by decide +kernel
theorem dJ9_min_7cf53_6 : decode cJ9_min_7cf53 6 = .ok (.goto 4, 3) := by decide +kernel
theorem dJ9_min_7cf53_9 : decode cJ9_min_7cf53 9 = .ok (.iload_n 1, 1) := by decide +kernel
theorem dJ9_min_7cf53_10 : decode cJ9_min_7cf53 10 = .ok (.ireturn, 1) := by decide +kernel
theorem dJ7_fill_53178_0 : decode cJ7_fill_53178 0 = .ok (.iconst 0, 1) := by decide +kernel
theorem dJ7_fill_53178_1 : decode cJ7_fill_53178 1 = .ok (.istore_n 2, 1) := by decide +kernel
theorem dJ7_fill_53178_2 : decode cJ7_fill_53178 2 = .ok (.aload_n 0, 1) := by decide +kernel
theorem dJ7_fill_53178_3 : decode cJ7_fill_53178 3 = .ok (.arraylength, 1) := by decide +kernel
theorem dJ7_fill_53178_4 : decode cJ7_fill_53178 4 = .ok (.istore_n 3, 1) := by decide +kernel
theorem dJ7_fill_53178_5 : decode cJ7_fill_53178 5 = .ok (.iload_n 2, 1) := by decide +kernel
theorem dJ7_fill_53178_6 : decode cJ7_fill_53178 6 = .ok (.iload_n 3, 1) := by decide +kernel
theorem dJ7_fill_53178_7 : decode cJ7_fill_53178 7 = .ok (.if_icmp .ge 13, 3) := by decide +kernel
theorem dJ7_fill_53178_10 : decode cJ7_fill_53178 10 = .ok (.aload_n 0, 1) := by decide +kernel
theorem dJ7_fill_53178_11 : decode cJ7_fill_53178 11 = .ok (.iload_n 2, 1) := by decide +kernel
theorem dJ7_fill_53178_12 : decode cJ7_fill_53178 12 = .ok (.iload_n 1, 1) := by decide +kernel
theorem dJ7_fill_53178_13 : decode cJ7_fill_53178 13 = .ok (.iastore, 1) := by decide +kernel
theorem dJ7_fill_53178_14 : decode cJ7_fill_53178 14 = .ok (.iinc 2 1, 3) := by decide +kernel
theorem dJ7_fill_53178_17 : decode cJ7_fill_53178 17 = .ok (.goto (-12), 3) := by decide +kernel
theorem dJ7_fill_53178_20 : decode cJ7_fill_53178 20 = .ok (.return_, 1) := by decide +kernel
theorem dL_law_0 : decode cL_law 0 = .ok (.new 7, 3) := by decide +kernel
theorem dL_law_3 : decode cL_law 3 = .ok (.dup, 1) := by decide +kernel
theorem dL_law_4 : decode cL_law 4 = .ok (.invokespecial 9, 3) := by decide +kernel
theorem dL_law_7 : decode cL_law 7 = .ok (.astore_n 1, 1) := by decide +kernel
theorem dL_law_8 : decode cL_law 8 = .ok (.new 10, 3) := by decide +kernel
theorem dL_law_11 : decode cL_law 11 = .ok (.dup, 1) := by decide +kernel
theorem dL_law_12 : decode cL_law 12 = .ok (.invokespecial 12, 3) := by decide +kernel
theorem dL_law_15 : decode cL_law 15 = .ok (.astore_n 2, 1) := by decide +kernel
theorem dL_law_16 : decode cL_law 16 = .ok (.iconst 0, 1) := by decide +kernel
theorem dL_law_17 : decode cL_law 17 = .ok (.istore_n 3, 1) := by decide +kernel
theorem dL_law_18 : decode cL_law 18 = .ok (.iload_n 3, 1) := by decide +kernel
theorem dL_law_19 : decode cL_law 19 = .ok (.aload_n 0, 1) := by decide +kernel
theorem dL_law_20 : decode cL_law 20 = .ok (.arraylength, 1) := by decide +kernel
theorem dL_law_21 : decode cL_law 21 = .ok (.iconst 3, 1) := by decide +kernel
theorem dL_law_22 : decode cL_law 22 = .ok (.isub, 1) := by decide +kernel
theorem dL_law_23 : decode cL_law 23 = .ok (.if_icmp .gt 676, 3) := by decide +kernel
theorem dL_law_26 : decode cL_law 26 = .ok (.aload_n 0, 1) := by decide +kernel
theorem dL_law_27 : decode cL_law 27 = .ok (.iload_n 3, 1) := by decide +kernel
theorem dL_law_28 : decode cL_law 28 = .ok (.iaload, 1) := by decide +kernel
theorem dL_law_29 : decode cL_law 29 = .ok (.bipush 31, 2) := by decide +kernel
theorem dL_law_31 : decode cL_law 31 = .ok (.iand, 1) := by decide +kernel
theorem dL_law_32 : decode cL_law 32 = .ok (.tableswitch 661 0 21 #[104, 127, 140, 153, 166, 199, 232, 255, 288, 311, 344, 357, 380, 413, 446, 469, 502, 535, 568, 601, 624, 647], 104) := by decide +kernel
theorem dL_law_136 : decode cL_law 136 = .ok (.aload_n 1, 1) := by decide +kernel
theorem dL_law_137 : decode cL_law 137 = .ok (.aload_n 0, 1) := by decide +kernel
theorem dL_law_138 : decode cL_law 138 = .ok (.iload_n 3, 1) := by decide +kernel
theorem dL_law_139 : decode cL_law 139 = .ok (.iconst 1, 1) := by decide +kernel
theorem dL_law_140 : decode cL_law 140 = .ok (.iadd, 1) := by decide +kernel
theorem dL_law_141 : decode cL_law 141 = .ok (.iaload, 1) := by decide +kernel
theorem dL_law_142 : decode cL_law 142 = .ok (.invokevirtual 13, 3) := by decide +kernel
theorem dL_law_145 : decode cL_law 145 = .ok (.aload_n 2, 1) := by decide +kernel
theorem dL_law_146 : decode cL_law 146 = .ok (.aload_n 0, 1) := by decide +kernel
theorem dL_law_147 : decode cL_law 147 = .ok (.iload_n 3, 1) := by decide +kernel
theorem dL_law_148 : decode cL_law 148 = .ok (.iconst 1, 1) := by decide +kernel
theorem dL_law_149 : decode cL_law 149 = .ok (.iadd, 1) := by decide +kernel
theorem dL_law_150 : decode cL_law 150 = .ok (.iaload, 1) := by decide +kernel
theorem dL_law_151 : decode cL_law 151 = .ok (.invokevirtual 17, 3) := by decide +kernel
theorem dL_law_154 : decode cL_law 154 = .ok (.if_icmp .eq 539, 3) := by decide +kernel
theorem dL_law_157 : decode cL_law 157 = .ok (.iconst 0, 1) := by decide +kernel
theorem dL_law_158 : decode cL_law 158 = .ok (.ireturn, 1) := by decide +kernel
theorem dL_law_159 : decode cL_law 159 = .ok (.aload_n 1, 1) := by decide +kernel
theorem dL_law_160 : decode cL_law 160 = .ok (.invokevirtual 18, 3) := by decide +kernel
theorem dL_law_163 : decode cL_law 163 = .ok (.aload_n 2, 1) := by decide +kernel
theorem dL_law_164 : decode cL_law 164 = .ok (.invokevirtual 22, 3) := by decide +kernel
theorem dL_law_167 : decode cL_law 167 = .ok (.if_icmp .eq 526, 3) := by decide +kernel
theorem dL_law_170 : decode cL_law 170 = .ok (.iconst 0, 1) := by decide +kernel
theorem dL_law_171 : decode cL_law 171 = .ok (.ireturn, 1) := by decide +kernel
theorem dL_law_172 : decode cL_law 172 = .ok (.aload_n 1, 1) := by decide +kernel
theorem dL_law_173 : decode cL_law 173 = .ok (.invokevirtual 23, 3) := by decide +kernel
theorem dL_law_176 : decode cL_law 176 = .ok (.aload_n 2, 1) := by decide +kernel
theorem dL_law_177 : decode cL_law 177 = .ok (.invokevirtual 26, 3) := by decide +kernel
theorem dL_law_180 : decode cL_law 180 = .ok (.if_icmp .eq 513, 3) := by decide +kernel
theorem dL_law_183 : decode cL_law 183 = .ok (.iconst 0, 1) := by decide +kernel
theorem dL_law_184 : decode cL_law 184 = .ok (.ireturn, 1) := by decide +kernel
theorem dL_law_185 : decode cL_law 185 = .ok (.aload_n 1, 1) := by decide +kernel
theorem dL_law_186 : decode cL_law 186 = .ok (.invokevirtual 27, 3) := by decide +kernel
theorem dL_law_189 : decode cL_law 189 = .ok (.aload_n 2, 1) := by decide +kernel
theorem dL_law_190 : decode cL_law 190 = .ok (.invokevirtual 30, 3) := by decide +kernel
theorem dL_law_193 : decode cL_law 193 = .ok (.if_icmp .eq 500, 3) := by decide +kernel
theorem dL_law_196 : decode cL_law 196 = .ok (.iconst 0, 1) := by decide +kernel
theorem dL_law_197 : decode cL_law 197 = .ok (.ireturn, 1) := by decide +kernel
theorem dL_law_198 : decode cL_law 198 = .ok (.aload_n 1, 1) := by decide +kernel
theorem dL_law_199 : decode cL_law 199 = .ok (.aload_n 0, 1) := by decide +kernel
theorem dL_law_200 : decode cL_law 200 = .ok (.iload_n 3, 1) := by decide +kernel
theorem dL_law_201 : decode cL_law 201 = .ok (.iconst 1, 1) := by decide +kernel
theorem dL_law_202 : decode cL_law 202 = .ok (.iadd, 1) := by decide +kernel
theorem dL_law_203 : decode cL_law 203 = .ok (.iaload, 1) := by decide +kernel
theorem dL_law_204 : decode cL_law 204 = .ok (.aload_n 0, 1) := by decide +kernel
theorem dL_law_205 : decode cL_law 205 = .ok (.iload_n 3, 1) := by decide +kernel
theorem dL_law_206 : decode cL_law 206 = .ok (.iconst 2, 1) := by decide +kernel
theorem dL_law_207 : decode cL_law 207 = .ok (.iadd, 1) := by decide +kernel
theorem dL_law_208 : decode cL_law 208 = .ok (.iaload, 1) := by decide +kernel
theorem dL_law_209 : decode cL_law 209 = .ok (.invokevirtual 31, 3) := by decide +kernel
theorem dL_law_212 : decode cL_law 212 = .ok (.aload_n 2, 1) := by decide +kernel
theorem dL_law_213 : decode cL_law 213 = .ok (.aload_n 0, 1) := by decide +kernel
theorem dL_law_214 : decode cL_law 214 = .ok (.iload_n 3, 1) := by decide +kernel
theorem dL_law_215 : decode cL_law 215 = .ok (.iconst 1, 1) := by decide +kernel
theorem dL_law_216 : decode cL_law 216 = .ok (.iadd, 1) := by decide +kernel
theorem dL_law_217 : decode cL_law 217 = .ok (.iaload, 1) := by decide +kernel
theorem dL_law_218 : decode cL_law 218 = .ok (.aload_n 0, 1) := by decide +kernel
theorem dL_law_219 : decode cL_law 219 = .ok (.iload_n 3, 1) := by decide +kernel
theorem dL_law_220 : decode cL_law 220 = .ok (.iconst 2, 1) := by decide +kernel
theorem dL_law_221 : decode cL_law 221 = .ok (.iadd, 1) := by decide +kernel
theorem dL_law_222 : decode cL_law 222 = .ok (.iaload, 1) := by decide +kernel
theorem dL_law_223 : decode cL_law 223 = .ok (.invokevirtual 35, 3) := by decide +kernel
theorem dL_law_226 : decode cL_law 226 = .ok (.if_icmp .eq 467, 3) := by decide +kernel
theorem dL_law_229 : decode cL_law 229 = .ok (.iconst 0, 1) := by decide +kernel
theorem dL_law_230 : decode cL_law 230 = .ok (.ireturn, 1) := by decide +kernel
theorem dL_law_231 : decode cL_law 231 = .ok (.aload_n 1, 1) := by decide +kernel
theorem dL_law_232 : decode cL_law 232 = .ok (.aload_n 0, 1) := by decide +kernel
theorem dL_law_233 : decode cL_law 233 = .ok (.iload_n 3, 1) := by decide +kernel
theorem dL_law_234 : decode cL_law 234 = .ok (.iconst 1, 1) := by decide +kernel
theorem dL_law_235 : decode cL_law 235 = .ok (.iadd, 1) := by decide +kernel
theorem dL_law_236 : decode cL_law 236 = .ok (.iaload, 1) := by decide +kernel
theorem dL_law_237 : decode cL_law 237 = .ok (.aload_n 0, 1) := by decide +kernel
theorem dL_law_238 : decode cL_law 238 = .ok (.iload_n 3, 1) := by decide +kernel
theorem dL_law_239 : decode cL_law 239 = .ok (.iconst 2, 1) := by decide +kernel
theorem dL_law_240 : decode cL_law 240 = .ok (.iadd, 1) := by decide +kernel
theorem dL_law_241 : decode cL_law 241 = .ok (.iaload, 1) := by decide +kernel
theorem dL_law_242 : decode cL_law 242 = .ok (.invokevirtual 36, 3) := by decide +kernel
theorem dL_law_245 : decode cL_law 245 = .ok (.aload_n 2, 1) := by decide +kernel
theorem dL_law_246 : decode cL_law 246 = .ok (.aload_n 0, 1) := by decide +kernel
theorem dL_law_247 : decode cL_law 247 = .ok (.iload_n 3, 1) := by decide +kernel
theorem dL_law_248 : decode cL_law 248 = .ok (.iconst 1, 1) := by decide +kernel
theorem dL_law_249 : decode cL_law 249 = .ok (.iadd, 1) := by decide +kernel
theorem dL_law_250 : decode cL_law 250 = .ok (.iaload, 1) := by decide +kernel
theorem dL_law_251 : decode cL_law 251 = .ok (.aload_n 0, 1) := by decide +kernel
theorem dL_law_252 : decode cL_law 252 = .ok (.iload_n 3, 1) := by decide +kernel
theorem dL_law_253 : decode cL_law 253 = .ok (.iconst 2, 1) := by decide +kernel
theorem dL_law_254 : decode cL_law 254 = .ok (.iadd, 1) := by decide +kernel
theorem dL_law_255 : decode cL_law 255 = .ok (.iaload, 1) := by decide +kernel
theorem dL_law_256 : decode cL_law 256 = .ok (.invokevirtual 39, 3) := by decide +kernel
theorem dL_law_259 : decode cL_law 259 = .ok (.if_icmp .eq 434, 3) := by decide +kernel
theorem dL_law_262 : decode cL_law 262 = .ok (.iconst 0, 1) := by decide +kernel
theorem dL_law_263 : decode cL_law 263 = .ok (.ireturn, 1) := by decide +kernel
theorem dL_law_264 : decode cL_law 264 = .ok (.aload_n 1, 1) := by decide +kernel
theorem dL_law_265 : decode cL_law 265 = .ok (.aload_n 0, 1) := by decide +kernel
theorem dL_law_266 : decode cL_law 266 = .ok (.iload_n 3, 1) := by decide +kernel
theorem dL_law_267 : decode cL_law 267 = .ok (.iconst 1, 1) := by decide +kernel
theorem dL_law_268 : decode cL_law 268 = .ok (.iadd, 1) := by decide +kernel
theorem dL_law_269 : decode cL_law 269 = .ok (.iaload, 1) := by decide +kernel
theorem dL_law_270 : decode cL_law 270 = .ok (.invokevirtual 40, 3) := by decide +kernel
theorem dL_law_273 : decode cL_law 273 = .ok (.aload_n 2, 1) := by decide +kernel
theorem dL_law_274 : decode cL_law 274 = .ok (.aload_n 0, 1) := by decide +kernel
theorem dL_law_275 : decode cL_law 275 = .ok (.iload_n 3, 1) := by decide +kernel
theorem dL_law_276 : decode cL_law 276 = .ok (.iconst 1, 1) := by decide +kernel
theorem dL_law_277 : decode cL_law 277 = .ok (.iadd, 1) := by decide +kernel
theorem dL_law_278 : decode cL_law 278 = .ok (.iaload, 1) := by decide +kernel
theorem dL_law_279 : decode cL_law 279 = .ok (.invokevirtual 43, 3) := by decide +kernel
theorem dL_law_282 : decode cL_law 282 = .ok (.if_icmp .eq 411, 3) := by decide +kernel
theorem dL_law_285 : decode cL_law 285 = .ok (.iconst 0, 1) := by decide +kernel
theorem dL_law_286 : decode cL_law 286 = .ok (.ireturn, 1) := by decide +kernel
theorem dL_law_287 : decode cL_law 287 = .ok (.aload_n 1, 1) := by decide +kernel
theorem dL_law_288 : decode cL_law 288 = .ok (.aload_n 0, 1) := by decide +kernel
theorem dL_law_289 : decode cL_law 289 = .ok (.iload_n 3, 1) := by decide +kernel
theorem dL_law_290 : decode cL_law 290 = .ok (.iconst 1, 1) := by decide +kernel
theorem dL_law_291 : decode cL_law 291 = .ok (.iadd, 1) := by decide +kernel
theorem dL_law_292 : decode cL_law 292 = .ok (.iaload, 1) := by decide +kernel
theorem dL_law_293 : decode cL_law 293 = .ok (.aload_n 0, 1) := by decide +kernel
theorem dL_law_294 : decode cL_law 294 = .ok (.iload_n 3, 1) := by decide +kernel
theorem dL_law_295 : decode cL_law 295 = .ok (.iconst 2, 1) := by decide +kernel
theorem dL_law_296 : decode cL_law 296 = .ok (.iadd, 1) := by decide +kernel
theorem dL_law_297 : decode cL_law 297 = .ok (.iaload, 1) := by decide +kernel
theorem dL_law_298 : decode cL_law 298 = .ok (.invokevirtual 44, 3) := by decide +kernel
theorem dL_law_301 : decode cL_law 301 = .ok (.aload_n 2, 1) := by decide +kernel
theorem dL_law_302 : decode cL_law 302 = .ok (.aload_n 0, 1) := by decide +kernel
theorem dL_law_303 : decode cL_law 303 = .ok (.iload_n 3, 1) := by decide +kernel
theorem dL_law_304 : decode cL_law 304 = .ok (.iconst 1, 1) := by decide +kernel
theorem dL_law_305 : decode cL_law 305 = .ok (.iadd, 1) := by decide +kernel
theorem dL_law_306 : decode cL_law 306 = .ok (.iaload, 1) := by decide +kernel
theorem dL_law_307 : decode cL_law 307 = .ok (.aload_n 0, 1) := by decide +kernel
theorem dL_law_308 : decode cL_law 308 = .ok (.iload_n 3, 1) := by decide +kernel
theorem dL_law_309 : decode cL_law 309 = .ok (.iconst 2, 1) := by decide +kernel
theorem dL_law_310 : decode cL_law 310 = .ok (.iadd, 1) := by decide +kernel
theorem dL_law_311 : decode cL_law 311 = .ok (.iaload, 1) := by decide +kernel
theorem dL_law_312 : decode cL_law 312 = .ok (.invokevirtual 47, 3) := by decide +kernel
theorem dL_law_315 : decode cL_law 315 = .ok (.if_icmp .eq 378, 3) := by decide +kernel
theorem dL_law_318 : decode cL_law 318 = .ok (.iconst 0, 1) := by decide +kernel
theorem dL_law_319 : decode cL_law 319 = .ok (.ireturn, 1) := by decide +kernel
theorem dL_law_320 : decode cL_law 320 = .ok (.aload_n 1, 1) := by decide +kernel
theorem dL_law_321 : decode cL_law 321 = .ok (.aload_n 0, 1) := by decide +kernel
theorem dL_law_322 : decode cL_law 322 = .ok (.iload_n 3, 1) := by decide +kernel
theorem dL_law_323 : decode cL_law 323 = .ok (.iconst 1, 1) := by decide +kernel
theorem dL_law_324 : decode cL_law 324 = .ok (.iadd, 1) := by decide +kernel
theorem dL_law_325 : decode cL_law 325 = .ok (.iaload, 1) := by decide +kernel
theorem dL_law_326 : decode cL_law 326 = .ok (.invokevirtual 48, 3) := by decide +kernel
theorem dL_law_329 : decode cL_law 329 = .ok (.aload_n 2, 1) := by decide +kernel
theorem dL_law_330 : decode cL_law 330 = .ok (.aload_n 0, 1) := by decide +kernel
theorem dL_law_331 : decode cL_law 331 = .ok (.iload_n 3, 1) := by decide +kernel
theorem dL_law_332 : decode cL_law 332 = .ok (.iconst 1, 1) := by decide +kernel
theorem dL_law_333 : decode cL_law 333 = .ok (.iadd, 1) := by decide +kernel
theorem dL_law_334 : decode cL_law 334 = .ok (.iaload, 1) := by decide +kernel
theorem dL_law_335 : decode cL_law 335 = .ok (.invokevirtual 51, 3) := by decide +kernel
theorem dL_law_338 : decode cL_law 338 = .ok (.if_icmp .eq 355, 3) := by decide +kernel
theorem dL_law_341 : decode cL_law 341 = .ok (.iconst 0, 1) := by decide +kernel
theorem dL_law_342 : decode cL_law 342 = .ok (.ireturn, 1) := by decide +kernel
theorem dL_law_343 : decode cL_law 343 = .ok (.aload_n 1, 1) := by decide +kernel
theorem dL_law_344 : decode cL_law 344 = .ok (.aload_n 0, 1) := by decide +kernel
theorem dL_law_345 : decode cL_law 345 = .ok (.iload_n 3, 1) := by decide +kernel
theorem dL_law_346 : decode cL_law 346 = .ok (.iconst 1, 1) := by decide +kernel
theorem dL_law_347 : decode cL_law 347 = .ok (.iadd, 1) := by decide +kernel
theorem dL_law_348 : decode cL_law 348 = .ok (.iaload, 1) := by decide +kernel
theorem dL_law_349 : decode cL_law 349 = .ok (.aload_n 0, 1) := by decide +kernel
theorem dL_law_350 : decode cL_law 350 = .ok (.iload_n 3, 1) := by decide +kernel
theorem dL_law_351 : decode cL_law 351 = .ok (.iconst 2, 1) := by decide +kernel
theorem dL_law_352 : decode cL_law 352 = .ok (.iadd, 1) := by decide +kernel
theorem dL_law_353 : decode cL_law 353 = .ok (.iaload, 1) := by decide +kernel
theorem dL_law_354 : decode cL_law 354 = .ok (.invokevirtual 52, 3) := by decide +kernel
theorem dL_law_357 : decode cL_law 357 = .ok (.aload_n 2, 1) := by decide +kernel
theorem dL_law_358 : decode cL_law 358 = .ok (.aload_n 0, 1) := by decide +kernel
theorem dL_law_359 : decode cL_law 359 = .ok (.iload_n 3, 1) := by decide +kernel
theorem dL_law_360 : decode cL_law 360 = .ok (.iconst 1, 1) := by decide +kernel
theorem dL_law_361 : decode cL_law 361 = .ok (.iadd, 1) := by decide +kernel
theorem dL_law_362 : decode cL_law 362 = .ok (.iaload, 1) := by decide +kernel
theorem dL_law_363 : decode cL_law 363 = .ok (.aload_n 0, 1) := by decide +kernel
theorem dL_law_364 : decode cL_law 364 = .ok (.iload_n 3, 1) := by decide +kernel
theorem dL_law_365 : decode cL_law 365 = .ok (.iconst 2, 1) := by decide +kernel
theorem dL_law_366 : decode cL_law 366 = .ok (.iadd, 1) := by decide +kernel
theorem dL_law_367 : decode cL_law 367 = .ok (.iaload, 1) := by decide +kernel
theorem dL_law_368 : decode cL_law 368 = .ok (.invokevirtual 55, 3) := by decide +kernel
theorem dL_law_371 : decode cL_law 371 = .ok (.if_icmp .eq 322, 3) := by decide +kernel
theorem dL_law_374 : decode cL_law 374 = .ok (.iconst 0, 1) := by decide +kernel
theorem dL_law_375 : decode cL_law 375 = .ok (.ireturn, 1) := by decide +kernel
theorem dL_law_376 : decode cL_law 376 = .ok (.aload_n 1, 1) := by decide +kernel
theorem dL_law_377 : decode cL_law 377 = .ok (.invokevirtual 56, 3) := by decide +kernel
theorem dL_law_380 : decode cL_law 380 = .ok (.aload_n 2, 1) := by decide +kernel
theorem dL_law_381 : decode cL_law 381 = .ok (.invokevirtual 59, 3) := by decide +kernel
theorem dL_law_384 : decode cL_law 384 = .ok (.if_icmp .eq 309, 3) := by decide +kernel
theorem dL_law_387 : decode cL_law 387 = .ok (.iconst 0, 1) := by decide +kernel
theorem dL_law_388 : decode cL_law 388 = .ok (.ireturn, 1) := by decide +kernel
theorem dL_law_389 : decode cL_law 389 = .ok (.aload_n 1, 1) := by decide +kernel
theorem dL_law_390 : decode cL_law 390 = .ok (.aload_n 0, 1) := by decide +kernel
theorem dL_law_391 : decode cL_law 391 = .ok (.iload_n 3, 1) := by decide +kernel
theorem dL_law_392 : decode cL_law 392 = .ok (.iconst 1, 1) := by decide +kernel
theorem dL_law_393 : decode cL_law 393 = .ok (.iadd, 1) := by decide +kernel
theorem dL_law_394 : decode cL_law 394 = .ok (.iaload, 1) := by decide +kernel
theorem dL_law_395 : decode cL_law 395 = .ok (.invokevirtual 60, 3) := by decide +kernel
theorem dL_law_398 : decode cL_law 398 = .ok (.aload_n 2, 1) := by decide +kernel
theorem dL_law_399 : decode cL_law 399 = .ok (.aload_n 0, 1) := by decide +kernel
theorem dL_law_400 : decode cL_law 400 = .ok (.iload_n 3, 1) := by decide +kernel
theorem dL_law_401 : decode cL_law 401 = .ok (.iconst 1, 1) := by decide +kernel
theorem dL_law_402 : decode cL_law 402 = .ok (.iadd, 1) := by decide +kernel
theorem dL_law_403 : decode cL_law 403 = .ok (.iaload, 1) := by decide +kernel
theorem dL_law_404 : decode cL_law 404 = .ok (.invokevirtual 63, 3) := by decide +kernel
theorem dL_law_407 : decode cL_law 407 = .ok (.if_icmp .eq 286, 3) := by decide +kernel
theorem dL_law_410 : decode cL_law 410 = .ok (.iconst 0, 1) := by decide +kernel
theorem dL_law_411 : decode cL_law 411 = .ok (.ireturn, 1) := by decide +kernel
theorem dL_law_412 : decode cL_law 412 = .ok (.aload_n 1, 1) := by decide +kernel
theorem dL_law_413 : decode cL_law 413 = .ok (.aload_n 0, 1) := by decide +kernel
theorem dL_law_414 : decode cL_law 414 = .ok (.iload_n 3, 1) := by decide +kernel
theorem dL_law_415 : decode cL_law 415 = .ok (.iconst 1, 1) := by decide +kernel
theorem dL_law_416 : decode cL_law 416 = .ok (.iadd, 1) := by decide +kernel
theorem dL_law_417 : decode cL_law 417 = .ok (.iaload, 1) := by decide +kernel
theorem dL_law_418 : decode cL_law 418 = .ok (.aload_n 0, 1) := by decide +kernel
theorem dL_law_419 : decode cL_law 419 = .ok (.iload_n 3, 1) := by decide +kernel
theorem dL_law_420 : decode cL_law 420 = .ok (.iconst 2, 1) := by decide +kernel
theorem dL_law_421 : decode cL_law 421 = .ok (.iadd, 1) := by decide +kernel
theorem dL_law_422 : decode cL_law 422 = .ok (.iaload, 1) := by decide +kernel
theorem dL_law_423 : decode cL_law 423 = .ok (.invokevirtual 64, 3) := by decide +kernel
theorem dL_law_426 : decode cL_law 426 = .ok (.aload_n 2, 1) := by decide +kernel
theorem dL_law_427 : decode cL_law 427 = .ok (.aload_n 0, 1) := by decide +kernel
theorem dL_law_428 : decode cL_law 428 = .ok (.iload_n 3, 1) := by decide +kernel
theorem dL_law_429 : decode cL_law 429 = .ok (.iconst 1, 1) := by decide +kernel
theorem dL_law_430 : decode cL_law 430 = .ok (.iadd, 1) := by decide +kernel
theorem dL_law_431 : decode cL_law 431 = .ok (.iaload, 1) := by decide +kernel
theorem dL_law_432 : decode cL_law 432 = .ok (.aload_n 0, 1) := by decide +kernel
theorem dL_law_433 : decode cL_law 433 = .ok (.iload_n 3, 1) := by decide +kernel
theorem dL_law_434 : decode cL_law 434 = .ok (.iconst 2, 1) := by decide +kernel
theorem dL_law_435 : decode cL_law 435 = .ok (.iadd, 1) := by decide +kernel
theorem dL_law_436 : decode cL_law 436 = .ok (.iaload, 1) := by decide +kernel
theorem dL_law_437 : decode cL_law 437 = .ok (.invokevirtual 67, 3) := by decide +kernel
theorem dL_law_440 : decode cL_law 440 = .ok (.if_icmp .eq 253, 3) := by decide +kernel
theorem dL_law_443 : decode cL_law 443 = .ok (.iconst 0, 1) := by decide +kernel
theorem dL_law_444 : decode cL_law 444 = .ok (.ireturn, 1) := by decide +kernel
theorem dL_law_445 : decode cL_law 445 = .ok (.aload_n 1, 1) := by decide +kernel
theorem dL_law_446 : decode cL_law 446 = .ok (.aload_n 0, 1) := by decide +kernel
theorem dL_law_447 : decode cL_law 447 = .ok (.iload_n 3, 1) := by decide +kernel
theorem dL_law_448 : decode cL_law 448 = .ok (.iconst 1, 1) := by decide +kernel
theorem dL_law_449 : decode cL_law 449 = .ok (.iadd, 1) := by decide +kernel
theorem dL_law_450 : decode cL_law 450 = .ok (.iaload, 1) := by decide +kernel
theorem dL_law_451 : decode cL_law 451 = .ok (.aload_n 0, 1) := by decide +kernel
theorem dL_law_452 : decode cL_law 452 = .ok (.iload_n 3, 1) := by decide +kernel
theorem dL_law_453 : decode cL_law 453 = .ok (.iconst 2, 1) := by decide +kernel
theorem dL_law_454 : decode cL_law 454 = .ok (.iadd, 1) := by decide +kernel
theorem dL_law_455 : decode cL_law 455 = .ok (.iaload, 1) := by decide +kernel
theorem dL_law_456 : decode cL_law 456 = .ok (.invokevirtual 68, 3) := by decide +kernel
theorem dL_law_459 : decode cL_law 459 = .ok (.aload_n 2, 1) := by decide +kernel
theorem dL_law_460 : decode cL_law 460 = .ok (.aload_n 0, 1) := by decide +kernel
theorem dL_law_461 : decode cL_law 461 = .ok (.iload_n 3, 1) := by decide +kernel
theorem dL_law_462 : decode cL_law 462 = .ok (.iconst 1, 1) := by decide +kernel
theorem dL_law_463 : decode cL_law 463 = .ok (.iadd, 1) := by decide +kernel
theorem dL_law_464 : decode cL_law 464 = .ok (.iaload, 1) := by decide +kernel
theorem dL_law_465 : decode cL_law 465 = .ok (.aload_n 0, 1) := by decide +kernel
theorem dL_law_466 : decode cL_law 466 = .ok (.iload_n 3, 1) := by decide +kernel
theorem dL_law_467 : decode cL_law 467 = .ok (.iconst 2, 1) := by decide +kernel
theorem dL_law_468 : decode cL_law 468 = .ok (.iadd, 1) := by decide +kernel
theorem dL_law_469 : decode cL_law 469 = .ok (.iaload, 1) := by decide +kernel
theorem dL_law_470 : decode cL_law 470 = .ok (.invokevirtual 71, 3) := by decide +kernel
theorem dL_law_473 : decode cL_law 473 = .ok (.if_icmp .eq 220, 3) := by decide +kernel
theorem dL_law_476 : decode cL_law 476 = .ok (.iconst 0, 1) := by decide +kernel
theorem dL_law_477 : decode cL_law 477 = .ok (.ireturn, 1) := by decide +kernel
theorem dL_law_478 : decode cL_law 478 = .ok (.aload_n 1, 1) := by decide +kernel
theorem dL_law_479 : decode cL_law 479 = .ok (.aload_n 0, 1) := by decide +kernel
theorem dL_law_480 : decode cL_law 480 = .ok (.iload_n 3, 1) := by decide +kernel
theorem dL_law_481 : decode cL_law 481 = .ok (.iconst 1, 1) := by decide +kernel
theorem dL_law_482 : decode cL_law 482 = .ok (.iadd, 1) := by decide +kernel
theorem dL_law_483 : decode cL_law 483 = .ok (.iaload, 1) := by decide +kernel
theorem dL_law_484 : decode cL_law 484 = .ok (.invokevirtual 72, 3) := by decide +kernel
theorem dL_law_487 : decode cL_law 487 = .ok (.aload_n 2, 1) := by decide +kernel
theorem dL_law_488 : decode cL_law 488 = .ok (.aload_n 0, 1) := by decide +kernel
theorem dL_law_489 : decode cL_law 489 = .ok (.iload_n 3, 1) := by decide +kernel
theorem dL_law_490 : decode cL_law 490 = .ok (.iconst 1, 1) := by decide +kernel
theorem dL_law_491 : decode cL_law 491 = .ok (.iadd, 1) := by decide +kernel
theorem dL_law_492 : decode cL_law 492 = .ok (.iaload, 1) := by decide +kernel
theorem dL_law_493 : decode cL_law 493 = .ok (.invokevirtual 75, 3) := by decide +kernel
theorem dL_law_496 : decode cL_law 496 = .ok (.if_icmp .eq 197, 3) := by decide +kernel
theorem dL_law_499 : decode cL_law 499 = .ok (.iconst 0, 1) := by decide +kernel
theorem dL_law_500 : decode cL_law 500 = .ok (.ireturn, 1) := by decide +kernel
theorem dL_law_501 : decode cL_law 501 = .ok (.aload_n 1, 1) := by decide +kernel
theorem dL_law_502 : decode cL_law 502 = .ok (.aload_n 0, 1) := by decide +kernel
theorem dL_law_503 : decode cL_law 503 = .ok (.iload_n 3, 1) := by decide +kernel
theorem dL_law_504 : decode cL_law 504 = .ok (.iconst 1, 1) := by decide +kernel
theorem dL_law_505 : decode cL_law 505 = .ok (.iadd, 1) := by decide +kernel
theorem dL_law_506 : decode cL_law 506 = .ok (.iaload, 1) := by decide +kernel
theorem dL_law_507 : decode cL_law 507 = .ok (.aload_n 0, 1) := by decide +kernel
theorem dL_law_508 : decode cL_law 508 = .ok (.iload_n 3, 1) := by decide +kernel
theorem dL_law_509 : decode cL_law 509 = .ok (.iconst 2, 1) := by decide +kernel
theorem dL_law_510 : decode cL_law 510 = .ok (.iadd, 1) := by decide +kernel
theorem dL_law_511 : decode cL_law 511 = .ok (.iaload, 1) := by decide +kernel
theorem dL_law_512 : decode cL_law 512 = .ok (.invokevirtual 76, 3) := by decide +kernel
theorem dL_law_515 : decode cL_law 515 = .ok (.aload_n 2, 1) := by decide +kernel
theorem dL_law_516 : decode cL_law 516 = .ok (.aload_n 0, 1) := by decide +kernel
theorem dL_law_517 : decode cL_law 517 = .ok (.iload_n 3, 1) := by decide +kernel
theorem dL_law_518 : decode cL_law 518 = .ok (.iconst 1, 1) := by decide +kernel
theorem dL_law_519 : decode cL_law 519 = .ok (.iadd, 1) := by decide +kernel
theorem dL_law_520 : decode cL_law 520 = .ok (.iaload, 1) := by decide +kernel
theorem dL_law_521 : decode cL_law 521 = .ok (.aload_n 0, 1) := by decide +kernel
theorem dL_law_522 : decode cL_law 522 = .ok (.iload_n 3, 1) := by decide +kernel
theorem dL_law_523 : decode cL_law 523 = .ok (.iconst 2, 1) := by decide +kernel
theorem dL_law_524 : decode cL_law 524 = .ok (.iadd, 1) := by decide +kernel
theorem dL_law_525 : decode cL_law 525 = .ok (.iaload, 1) := by decide +kernel
theorem dL_law_526 : decode cL_law 526 = .ok (.invokevirtual 79, 3) := by decide +kernel
theorem dL_law_529 : decode cL_law 529 = .ok (.if_icmp .eq 164, 3) := by decide +kernel
theorem dL_law_532 : decode cL_law 532 = .ok (.iconst 0, 1) := by decide +kernel
theorem dL_law_533 : decode cL_law 533 = .ok (.ireturn, 1) := by decide +kernel
theorem dL_law_534 : decode cL_law 534 = .ok (.aload_n 1, 1) := by decide +kernel
theorem dL_law_535 : decode cL_law 535 = .ok (.aload_n 0, 1) := by decide +kernel
theorem dL_law_536 : decode cL_law 536 = .ok (.iload_n 3, 1) := by decide +kernel
theorem dL_law_537 : decode cL_law 537 = .ok (.iconst 1, 1) := by decide +kernel
theorem dL_law_538 : decode cL_law 538 = .ok (.iadd, 1) := by decide +kernel
theorem dL_law_539 : decode cL_law 539 = .ok (.iaload, 1) := by decide +kernel
theorem dL_law_540 : decode cL_law 540 = .ok (.aload_n 0, 1) := by decide +kernel
theorem dL_law_541 : decode cL_law 541 = .ok (.iload_n 3, 1) := by decide +kernel
theorem dL_law_542 : decode cL_law 542 = .ok (.iconst 2, 1) := by decide +kernel
theorem dL_law_543 : decode cL_law 543 = .ok (.iadd, 1) := by decide +kernel
theorem dL_law_544 : decode cL_law 544 = .ok (.iaload, 1) := by decide +kernel
theorem dL_law_545 : decode cL_law 545 = .ok (.invokevirtual 80, 3) := by decide +kernel
theorem dL_law_548 : decode cL_law 548 = .ok (.aload_n 2, 1) := by decide +kernel
theorem dL_law_549 : decode cL_law 549 = .ok (.aload_n 0, 1) := by decide +kernel
theorem dL_law_550 : decode cL_law 550 = .ok (.iload_n 3, 1) := by decide +kernel
theorem dL_law_551 : decode cL_law 551 = .ok (.iconst 1, 1) := by decide +kernel
theorem dL_law_552 : decode cL_law 552 = .ok (.iadd, 1) := by decide +kernel
theorem dL_law_553 : decode cL_law 553 = .ok (.iaload, 1) := by decide +kernel
theorem dL_law_554 : decode cL_law 554 = .ok (.aload_n 0, 1) := by decide +kernel
theorem dL_law_555 : decode cL_law 555 = .ok (.iload_n 3, 1) := by decide +kernel
theorem dL_law_556 : decode cL_law 556 = .ok (.iconst 2, 1) := by decide +kernel
theorem dL_law_557 : decode cL_law 557 = .ok (.iadd, 1) := by decide +kernel
theorem dL_law_558 : decode cL_law 558 = .ok (.iaload, 1) := by decide +kernel
theorem dL_law_559 : decode cL_law 559 = .ok (.invokevirtual 83, 3) := by decide +kernel
theorem dL_law_562 : decode cL_law 562 = .ok (.if_icmp .eq 131, 3) := by decide +kernel
theorem dL_law_565 : decode cL_law 565 = .ok (.iconst 0, 1) := by decide +kernel
theorem dL_law_566 : decode cL_law 566 = .ok (.ireturn, 1) := by decide +kernel
theorem dL_law_567 : decode cL_law 567 = .ok (.aload_n 1, 1) := by decide +kernel
theorem dL_law_568 : decode cL_law 568 = .ok (.aload_n 0, 1) := by decide +kernel
theorem dL_law_569 : decode cL_law 569 = .ok (.iload_n 3, 1) := by decide +kernel
theorem dL_law_570 : decode cL_law 570 = .ok (.iconst 1, 1) := by decide +kernel
theorem dL_law_571 : decode cL_law 571 = .ok (.iadd, 1) := by decide +kernel
theorem dL_law_572 : decode cL_law 572 = .ok (.iaload, 1) := by decide +kernel
theorem dL_law_573 : decode cL_law 573 = .ok (.aload_n 0, 1) := by decide +kernel
theorem dL_law_574 : decode cL_law 574 = .ok (.iload_n 3, 1) := by decide +kernel
theorem dL_law_575 : decode cL_law 575 = .ok (.iconst 2, 1) := by decide +kernel
theorem dL_law_576 : decode cL_law 576 = .ok (.iadd, 1) := by decide +kernel
theorem dL_law_577 : decode cL_law 577 = .ok (.iaload, 1) := by decide +kernel
theorem dL_law_578 : decode cL_law 578 = .ok (.invokevirtual 84, 3) := by decide +kernel
theorem dL_law_581 : decode cL_law 581 = .ok (.aload_n 2, 1) := by decide +kernel
theorem dL_law_582 : decode cL_law 582 = .ok (.aload_n 0, 1) := by decide +kernel
theorem dL_law_583 : decode cL_law 583 = .ok (.iload_n 3, 1) := by decide +kernel
theorem dL_law_584 : decode cL_law 584 = .ok (.iconst 1, 1) := by decide +kernel
theorem dL_law_585 : decode cL_law 585 = .ok (.iadd, 1) := by decide +kernel
theorem dL_law_586 : decode cL_law 586 = .ok (.iaload, 1) := by decide +kernel
theorem dL_law_587 : decode cL_law 587 = .ok (.aload_n 0, 1) := by decide +kernel
theorem dL_law_588 : decode cL_law 588 = .ok (.iload_n 3, 1) := by decide +kernel
theorem dL_law_589 : decode cL_law 589 = .ok (.iconst 2, 1) := by decide +kernel
theorem dL_law_590 : decode cL_law 590 = .ok (.iadd, 1) := by decide +kernel
theorem dL_law_591 : decode cL_law 591 = .ok (.iaload, 1) := by decide +kernel
theorem dL_law_592 : decode cL_law 592 = .ok (.invokevirtual 87, 3) := by decide +kernel
theorem dL_law_595 : decode cL_law 595 = .ok (.if_icmp .eq 98, 3) := by decide +kernel
theorem dL_law_598 : decode cL_law 598 = .ok (.iconst 0, 1) := by decide +kernel
theorem dL_law_599 : decode cL_law 599 = .ok (.ireturn, 1) := by decide +kernel
theorem dL_law_600 : decode cL_law 600 = .ok (.aload_n 1, 1) := by decide +kernel
theorem dL_law_601 : decode cL_law 601 = .ok (.aload_n 0, 1) := by decide +kernel
theorem dL_law_602 : decode cL_law 602 = .ok (.iload_n 3, 1) := by decide +kernel
theorem dL_law_603 : decode cL_law 603 = .ok (.iconst 1, 1) := by decide +kernel
theorem dL_law_604 : decode cL_law 604 = .ok (.iadd, 1) := by decide +kernel
theorem dL_law_605 : decode cL_law 605 = .ok (.iaload, 1) := by decide +kernel
theorem dL_law_606 : decode cL_law 606 = .ok (.aload_n 0, 1) := by decide +kernel
theorem dL_law_607 : decode cL_law 607 = .ok (.iload_n 3, 1) := by decide +kernel
theorem dL_law_608 : decode cL_law 608 = .ok (.iconst 2, 1) := by decide +kernel
theorem dL_law_609 : decode cL_law 609 = .ok (.iadd, 1) := by decide +kernel
theorem dL_law_610 : decode cL_law 610 = .ok (.iaload, 1) := by decide +kernel
theorem dL_law_611 : decode cL_law 611 = .ok (.invokevirtual 88, 3) := by decide +kernel
theorem dL_law_614 : decode cL_law 614 = .ok (.aload_n 2, 1) := by decide +kernel
theorem dL_law_615 : decode cL_law 615 = .ok (.aload_n 0, 1) := by decide +kernel
theorem dL_law_616 : decode cL_law 616 = .ok (.iload_n 3, 1) := by decide +kernel
theorem dL_law_617 : decode cL_law 617 = .ok (.iconst 1, 1) := by decide +kernel
theorem dL_law_618 : decode cL_law 618 = .ok (.iadd, 1) := by decide +kernel
theorem dL_law_619 : decode cL_law 619 = .ok (.iaload, 1) := by decide +kernel
theorem dL_law_620 : decode cL_law 620 = .ok (.aload_n 0, 1) := by decide +kernel
theorem dL_law_621 : decode cL_law 621 = .ok (.iload_n 3, 1) := by decide +kernel
theorem dL_law_622 : decode cL_law 622 = .ok (.iconst 2, 1) := by decide +kernel
theorem dL_law_623 : decode cL_law 623 = .ok (.iadd, 1) := by decide +kernel
theorem dL_law_624 : decode cL_law 624 = .ok (.iaload, 1) := by decide +kernel
theorem dL_law_625 : decode cL_law 625 = .ok (.invokevirtual 91, 3) := by decide +kernel
theorem dL_law_628 : decode cL_law 628 = .ok (.if_icmp .eq 65, 3) := by decide +kernel
theorem dL_law_631 : decode cL_law 631 = .ok (.iconst 0, 1) := by decide +kernel
theorem dL_law_632 : decode cL_law 632 = .ok (.ireturn, 1) := by decide +kernel
theorem dL_law_633 : decode cL_law 633 = .ok (.aload_n 1, 1) := by decide +kernel
theorem dL_law_634 : decode cL_law 634 = .ok (.aload_n 0, 1) := by decide +kernel
theorem dL_law_635 : decode cL_law 635 = .ok (.iload_n 3, 1) := by decide +kernel
theorem dL_law_636 : decode cL_law 636 = .ok (.iconst 1, 1) := by decide +kernel
theorem dL_law_637 : decode cL_law 637 = .ok (.iadd, 1) := by decide +kernel
theorem dL_law_638 : decode cL_law 638 = .ok (.iaload, 1) := by decide +kernel
theorem dL_law_639 : decode cL_law 639 = .ok (.invokevirtual 92, 3) := by decide +kernel
theorem dL_law_642 : decode cL_law 642 = .ok (.aload_n 2, 1) := by decide +kernel
theorem dL_law_643 : decode cL_law 643 = .ok (.aload_n 0, 1) := by decide +kernel
theorem dL_law_644 : decode cL_law 644 = .ok (.iload_n 3, 1) := by decide +kernel
theorem dL_law_645 : decode cL_law 645 = .ok (.iconst 1, 1) := by decide +kernel
theorem dL_law_646 : decode cL_law 646 = .ok (.iadd, 1) := by decide +kernel
theorem dL_law_647 : decode cL_law 647 = .ok (.iaload, 1) := by decide +kernel
theorem dL_law_648 : decode cL_law 648 = .ok (.invokevirtual 95, 3) := by decide +kernel
theorem dL_law_651 : decode cL_law 651 = .ok (.if_icmp .eq 42, 3) := by decide +kernel
theorem dL_law_654 : decode cL_law 654 = .ok (.iconst 0, 1) := by decide +kernel
theorem dL_law_655 : decode cL_law 655 = .ok (.ireturn, 1) := by decide +kernel
theorem dL_law_656 : decode cL_law 656 = .ok (.aload_n 1, 1) := by decide +kernel
theorem dL_law_657 : decode cL_law 657 = .ok (.aload_n 0, 1) := by decide +kernel
theorem dL_law_658 : decode cL_law 658 = .ok (.iload_n 3, 1) := by decide +kernel
theorem dL_law_659 : decode cL_law 659 = .ok (.iconst 1, 1) := by decide +kernel
theorem dL_law_660 : decode cL_law 660 = .ok (.iadd, 1) := by decide +kernel
theorem dL_law_661 : decode cL_law 661 = .ok (.iaload, 1) := by decide +kernel
theorem dL_law_662 : decode cL_law 662 = .ok (.invokevirtual 96, 3) := by decide +kernel
theorem dL_law_665 : decode cL_law 665 = .ok (.aload_n 2, 1) := by decide +kernel
theorem dL_law_666 : decode cL_law 666 = .ok (.aload_n 0, 1) := by decide +kernel
theorem dL_law_667 : decode cL_law 667 = .ok (.iload_n 3, 1) := by decide +kernel
theorem dL_law_668 : decode cL_law 668 = .ok (.iconst 1, 1) := by decide +kernel
theorem dL_law_669 : decode cL_law 669 = .ok (.iadd, 1) := by decide +kernel
theorem dL_law_670 : decode cL_law 670 = .ok (.iaload, 1) := by decide +kernel
theorem dL_law_671 : decode cL_law 671 = .ok (.invokevirtual 99, 3) := by decide +kernel
theorem dL_law_674 : decode cL_law 674 = .ok (.if_icmp .eq 19, 3) := by decide +kernel
theorem dL_law_677 : decode cL_law 677 = .ok (.iconst 0, 1) := by decide +kernel
theorem dL_law_678 : decode cL_law 678 = .ok (.ireturn, 1) := by decide +kernel
theorem dL_law_679 : decode cL_law 679 = .ok (.aload_n 1, 1) := by decide +kernel
theorem dL_law_680 : decode cL_law 680 = .ok (.invokevirtual 100, 3) := by decide +kernel
theorem dL_law_683 : decode cL_law 683 = .ok (.aload_n 2, 1) := by decide +kernel
theorem dL_law_684 : decode cL_law 684 = .ok (.invokevirtual 104, 3) := by decide +kernel
theorem dL_law_687 : decode cL_law 687 = .ok (.lcmp, 1) := by decide +kernel
theorem dL_law_688 : decode cL_law 688 = .ok (.ifCond .eq 5, 3) := by decide +kernel
theorem dL_law_691 : decode cL_law 691 = .ok (.iconst 0, 1) := by decide +kernel
theorem dL_law_692 : decode cL_law 692 = .ok (.ireturn, 1) := by decide +kernel
theorem dL_law_693 : decode cL_law 693 = .ok (.iinc 3 3, 3) := by decide +kernel
theorem dL_law_696 : decode cL_law 696 = .ok (.goto (-678), 3) := by decide +kernel
theorem dL_law_699 : decode cL_law 699 = .ok (.iconst 1, 1) := by decide +kernel
theorem dL_law_700 : decode cL_law 700 = .ok (.ireturn, 1) := by decide +kernel
