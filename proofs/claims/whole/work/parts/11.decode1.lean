theorem dX0_init_0 : decode cX0_init 0 = .ok (.aload_n 0, 1) := by decide +kernel
theorem dX0_init_1 : decode cX0_init 1 = .ok (.invokespecial 3, 3) := by decide +kernel
theorem dX0_init_4 : decode cX0_init 4 = .ok (.aload_n 0, 1) := by decide +kernel
theorem dX0_init_5 : decode cX0_init 5 = .ok (.iconst 3, 1) := by decide +kernel
theorem dX0_init_6 : decode cX0_init 6 = .ok (.newarray .int, 2) := by decide +kernel
theorem dX0_init_8 : decode cX0_init 8 = .ok (.putfield 9, 3) := by decide +kernel
theorem dX0_init_11 : decode cX0_init 11 = .ok (.return_, 1) := by decide +kernel
theorem dX0_renew_0 : decode cX0_renew 0 = .ok (.aload_n 0, 1) := by decide +kernel
theorem dX0_renew_1 : decode cX0_renew 1 = .ok (.getfield 9, 3) := by decide +kernel
theorem dX0_renew_4 : decode cX0_renew 4 = .ok (.iconst 0, 1) := by decide +kernel
theorem dX0_renew_5 : decode cX0_renew 5 = .ok (.invokestatic 15, 3) := by decide +kernel
theorem dX0_renew_8 : decode cX0_renew 8 = .ok (.aload_n 0, 1) := by decide +kernel
theorem dX0_renew_9 : decode cX0_renew 9 = .ok (.iconst 0, 1) := by decide +kernel
theorem dX0_renew_10 : decode cX0_renew 10 = .ok (.putfield 21, 3) := by decide +kernel
theorem dX0_renew_13 : decode cX0_renew 13 = .ok (.aload_n 0, 1) := by decide +kernel
theorem dX0_renew_14 : decode cX0_renew 14 = .ok (.iconst 1, 1) := by decide +kernel
theorem dX0_renew_15 : decode cX0_renew 15 = .ok (.putfield 25, 3) := by decide +kernel
theorem dX0_renew_18 : decode cX0_renew 18 = .ok (.return_, 1) := by decide +kernel
theorem dX0_activateNext_0 : decode cX0_activateNext 0 = .ok (.aload_n 0, 1) := by decide +kernel
theorem dX0_activateNext_1 : decode cX0_activateNext 1 = .ok (.aload_n 0, 1) := by decide +kernel
theorem dX0_activateNext_2 : decode cX0_activateNext 2 = .ok (.getfield 21, 3) := by decide +kernel
theorem dX0_activateNext_5 : decode cX0_activateNext 5 = .ok (.iconst 2, 1) := by decide +kernel
theorem dX0_activateNext_6 : decode cX0_activateNext 6 = .ok (.if_icmp .ge 12, 3) := by decide +kernel
theorem dX0_activateNext_9 : decode cX0_activateNext 9 = .ok (.aload_n 0, 1) := by decide +kernel
theorem dX0_activateNext_10 : decode cX0_activateNext 10 = .ok (.getfield 21, 3) := by decide +kernel
theorem dX0_activateNext_13 : decode cX0_activateNext 13 = .ok (.iconst 1, 1) := by decide +kernel
theorem dX0_activateNext_14 : decode cX0_activateNext 14 = .ok (.iadd, 1) := by decide +kernel
theorem dX0_activateNext_15 : decode cX0_activateNext 15 = .ok (.goto 4, 3) := by decide +kernel
theorem dX0_activateNext_18 : decode cX0_activateNext 18 = .ok (.iconst 0, 1) := by decide +kernel
theorem dX0_activateNext_19 : decode cX0_activateNext 19 = .ok (.putfield 21, 3) := by decide +kernel
theorem dX0_activateNext_22 : decode cX0_activateNext 22 = .ok (.return_, 1) := by decide +kernel
theorem dX0_activeLevel_0 : decode cX0_activeLevel 0 = .ok (.aload_n 0, 1) := by decide +kernel
theorem dX0_activeLevel_1 : decode cX0_activeLevel 1 = .ok (.getfield 9, 3) := by decide +kernel
theorem dX0_activeLevel_4 : decode cX0_activeLevel 4 = .ok (.aload_n 0, 1) := by decide +kernel
theorem dX0_activeLevel_5 : decode cX0_activeLevel 5 = .ok (.getfield 21, 3) := by decide +kernel
theorem dX0_activeLevel_8 : decode cX0_activeLevel 8 = .ok (.iaload, 1) := by decide +kernel
theorem dX0_activeLevel_9 : decode cX0_activeLevel 9 = .ok (.ireturn, 1) := by decide +kernel
theorem dX0_drawNoise_0 : decode cX0_drawNoise 0 = .ok (.aload_n 0, 1) := by decide +kernel
theorem dX0_drawNoise_1 : decode cX0_drawNoise 1 = .ok (.iconst 2, 1) := by decide +kernel
theorem dX0_drawNoise_2 : decode cX0_drawNoise 2 = .ok (.iload_n 1, 1) := by decide +kernel
theorem dX0_drawNoise_3 : decode cX0_drawNoise 3 = .ok (.imul, 1) := by decide +kernel
theorem dX0_drawNoise_4 : decode cX0_drawNoise 4 = .ok (.iconst 1, 1) := by decide +kernel
theorem dX0_drawNoise_5 : decode cX0_drawNoise 5 = .ok (.iadd, 1) := by decide +kernel
theorem dX0_drawNoise_6 : decode cX0_drawNoise 6 = .ok (.invokevirtual 28, 3) := by decide +kernel
theorem dX0_drawNoise_9 : decode cX0_drawNoise 9 = .ok (.iload_n 1, 1) := by decide +kernel
theorem dX0_drawNoise_10 : decode cX0_drawNoise 10 = .ok (.isub, 1) := by decide +kernel
theorem dX0_drawNoise_11 : decode cX0_drawNoise 11 = .ok (.ireturn, 1) := by decide +kernel
theorem dX0_drawBelow_0 : decode cX0_drawBelow 0 = .ok (.aload_n 0, 1) := by decide +kernel
theorem dX0_drawBelow_1 : decode cX0_drawBelow 1 = .ok (.ldc2_w 32, 3) := by decide +kernel
theorem dX0_drawBelow_4 : decode cX0_drawBelow 4 = .ok (.aload_n 0, 1) := by decide +kernel
theorem dX0_drawBelow_5 : decode cX0_drawBelow 5 = .ok (.getfield 25, 3) := by decide +kernel
theorem dX0_drawBelow_8 : decode cX0_drawBelow 8 = .ok (.i2l, 1) := by decide +kernel
theorem dX0_drawBelow_9 : decode cX0_drawBelow 9 = .ok (.lmul, 1) := by decide +kernel
theorem dX0_drawBelow_10 : decode cX0_drawBelow 10 = .ok (.ldc2_w 34, 3) := by decide +kernel
theorem dX0_drawBelow_13 : decode cX0_drawBelow 13 = .ok (.ladd, 1) := by decide +kernel
theorem dX0_drawBelow_14 : decode cX0_drawBelow 14 = .ok (.ldc2_w 36, 3) := by decide +kernel
theorem dX0_drawBelow_17 : decode cX0_drawBelow 17 = .ok (.lrem, 1) := by decide +kernel
theorem dX0_drawBelow_18 : decode cX0_drawBelow 18 = .ok (.l2i, 1) := by decide +kernel
theorem dX0_drawBelow_19 : decode cX0_drawBelow 19 = .ok (.putfield 25, 3) := by decide +kernel
theorem dX0_drawBelow_22 : decode cX0_drawBelow 22 = .ok (.iload_n 1, 1) := by decide +kernel
theorem dX0_drawBelow_23 : decode cX0_drawBelow 23 = .ok (.ifCond .le 15, 3) := by decide +kernel
theorem dX0_drawBelow_26 : decode cX0_drawBelow 26 = .ok (.aload_n 0, 1) := by decide +kernel
theorem dX0_drawBelow_27 : decode cX0_drawBelow 27 = .ok (.getfield 25, 3) := by decide +kernel
theorem dX0_drawBelow_30 : decode cX0_drawBelow 30 = .ok (.ldc 38, 2) := by decide +kernel
theorem dX0_drawBelow_32 : decode cX0_drawBelow 32 = .ok (.idiv, 1) := by decide +kernel
theorem dX0_drawBelow_33 : decode cX0_drawBelow 33 = .ok (.iload_n 1, 1) := by decide +kernel
theorem dX0_drawBelow_34 : decode cX0_drawBelow 34 = .ok (.irem, 1) := by decide +kernel
theorem dX0_drawBelow_35 : decode cX0_drawBelow 35 = .ok (.goto 4, 3) := by decide +kernel
theorem dX0_drawBelow_38 : decode cX0_drawBelow 38 = .ok (.iconst 0, 1) := by decide +kernel
theorem dX0_drawBelow_39 : decode cX0_drawBelow 39 = .ok (.ireturn, 1) := by decide +kernel
theorem dX1_init_0 : decode cX1_init 0 = .ok (.aload_n 0, 1) := by decide +kernel
theorem dX1_init_1 : decode cX1_init 1 = .ok (.invokespecial 3, 3) := by decide +kernel
theorem dX1_init_4 : decode cX1_init 4 = .ok (.aload_n 0, 1) := by decide +kernel
theorem dX1_init_5 : decode cX1_init 5 = .ok (.bipush 64, 2) := by decide +kernel
theorem dX1_init_7 : decode cX1_init 7 = .ok (.newarray .int, 2) := by decide +kernel
theorem dX1_init_9 : decode cX1_init 9 = .ok (.putfield 9, 3) := by decide +kernel
theorem dX1_init_12 : decode cX1_init 12 = .ok (.aload_n 0, 1) := by decide +kernel
theorem dX1_init_13 : decode cX1_init 13 = .ok (.bipush 64, 2) := by decide +kernel
theorem dX1_init_15 : decode cX1_init 15 = .ok (.newarray .int, 2) := by decide +kernel
theorem dX1_init_17 : decode cX1_init 17 = .ok (.putfield 15, 3) := by decide +kernel
theorem dX1_init_20 : decode cX1_init 20 = .ok (.aload_n 0, 1) := by decide +kernel
theorem dX1_init_21 : decode cX1_init 21 = .ok (.bipush 64, 2) := by decide +kernel
theorem dX1_init_23 : decode cX1_init 23 = .ok (.newarray .int, 2) := by decide +kernel
theorem dX1_init_25 : decode cX1_init 25 = .ok (.putfield 18, 3) := by decide +kernel
theorem dX1_init_28 : decode cX1_init 28 = .ok (.aload_n 0, 1) := by decide +kernel
theorem dX1_init_29 : decode cX1_init 29 = .ok (.sipush 512, 3) := by decide +kernel
theorem dX1_init_32 : decode cX1_init 32 = .ok (.newarray .int, 2) := by decide +kernel
theorem dX1_init_34 : decode cX1_init 34 = .ok (.putfield 21, 3) := by decide +kernel
theorem dX1_init_37 : decode cX1_init 37 = .ok (.return_, 1) := by decide +kernel
theorem dX1_lay_0 : decode cX1_lay 0 = .ok (.aload_n 0, 1) := by decide +kernel
theorem dX1_lay_1 : decode cX1_lay 1 = .ok (.iload_n 1, 1) := by decide +kernel
theorem dX1_lay_2 : decode cX1_lay 2 = .ok (.putfield 24, 3) := by decide +kernel
theorem dX1_lay_5 : decode cX1_lay 5 = .ok (.aload_n 0, 1) := by decide +kernel
theorem dX1_lay_6 : decode cX1_lay 6 = .ok (.iload_n 2, 1) := by decide +kernel
theorem dX1_lay_7 : decode cX1_lay 7 = .ok (.putfield 28, 3) := by decide +kernel
theorem dX1_lay_10 : decode cX1_lay 10 = .ok (.aload_n 0, 1) := by decide +kernel
theorem dX1_lay_11 : decode cX1_lay 11 = .ok (.aload_n 0, 1) := by decide +kernel
theorem dX1_lay_12 : decode cX1_lay 12 = .ok (.getfield 24, 3) := by decide +kernel
theorem dX1_lay_15 : decode cX1_lay 15 = .ok (.aload_n 0, 1) := by decide +kernel
theorem dX1_lay_16 : decode cX1_lay 16 = .ok (.getfield 28, 3) := by decide +kernel
theorem dX1_lay_19 : decode cX1_lay 19 = .ok (.imul, 1) := by decide +kernel
theorem dX1_lay_20 : decode cX1_lay 20 = .ok (.putfield 31, 3) := by decide +kernel
theorem dX1_lay_23 : decode cX1_lay 23 = .ok (.iconst 0, 1) := by decide +kernel
theorem dX1_lay_24 : decode cX1_lay 24 = .ok (.istore_n 3, 1) := by decide +kernel
theorem dX1_lay_25 : decode cX1_lay 25 = .ok (.iload_n 3, 1) := by decide +kernel
theorem dX1_lay_26 : decode cX1_lay 26 = .ok (.aload_n 0, 1) := by decide +kernel
theorem dX1_lay_27 : decode cX1_lay 27 = .ok (.getfield 28, 3) := by decide +kernel
theorem dX1_lay_30 : decode cX1_lay 30 = .ok (.if_icmp .ge 65, 3) := by decide +kernel
theorem dX1_lay_33 : decode cX1_lay 33 = .ok (.iconst 0, 1) := by decide +kernel
theorem dX1_lay_34 : decode cX1_lay 34 = .ok (.istore 4, 2) := by decide +kernel
theorem dX1_lay_36 : decode cX1_lay 36 = .ok (.iload 4, 2) := by decide +kernel
theorem dX1_lay_38 : decode cX1_lay 38 = .ok (.aload_n 0, 1) := by decide +kernel
theorem dX1_lay_39 : decode cX1_lay 39 = .ok (.getfield 24, 3) := by decide +kernel
theorem dX1_lay_42 : decode cX1_lay 42 = .ok (.if_icmp .ge 47, 3) := by decide +kernel
theorem dX1_lay_45 : decode cX1_lay 45 = .ok (.aload_n 0, 1) := by decide +kernel
theorem dX1_lay_46 : decode cX1_lay 46 = .ok (.getfield 9, 3) := by decide +kernel
theorem dX1_lay_49 : decode cX1_lay 49 = .ok (.aload_n 0, 1) := by decide +kernel
theorem dX1_lay_50 : decode cX1_lay 50 = .ok (.getfield 24, 3) := by decide +kernel
theorem dX1_lay_53 : decode cX1_lay 53 = .ok (.iload_n 3, 1) := by decide +kernel
theorem dX1_lay_54 : decode cX1_lay 54 = .ok (.imul, 1) := by decide +kernel
theorem dX1_lay_55 : decode cX1_lay 55 = .ok (.iload 4, 2) := by decide +kernel
theorem dX1_lay_57 : decode cX1_lay 57 = .ok (.iadd, 1) := by decide +kernel
theorem dX1_lay_58 : decode cX1_lay 58 = .ok (.iload 4, 2) := by decide +kernel
theorem dX1_lay_60 : decode cX1_lay 60 = .ok (.iastore, 1) := by decide +kernel
theorem dX1_lay_61 : decode cX1_lay 61 = .ok (.aload_n 0, 1) := by decide +kernel
theorem dX1_lay_62 : decode cX1_lay 62 = .ok (.getfield 15, 3) := by decide +kernel
theorem dX1_lay_65 : decode cX1_lay 65 = .ok (.aload_n 0, 1) := by decide +kernel
theorem dX1_lay_66 : decode cX1_lay 66 = .ok (.getfield 24, 3) := by decide +kernel
theorem dX1_lay_69 : decode cX1_lay 69 = .ok (.iload_n 3, 1) := by decide +kernel
theorem dX1_lay_70 : decode cX1_lay 70 = .ok (.imul, 1) := by decide +kernel
theorem dX1_lay_71 : decode cX1_lay 71 = .ok (.iload 4, 2) := by decide +kernel
theorem dX1_lay_73 : decode cX1_lay 73 = .ok (.iadd, 1) := by decide +kernel
theorem dX1_lay_74 : decode cX1_lay 74 = .ok (.iload_n 3, 1) := by decide +kernel
theorem dX1_lay_75 : decode cX1_lay 75 = .ok (.iastore, 1) := by decide +kernel
theorem dX1_lay_76 : decode cX1_lay 76 = .ok (.aload_n 0, 1) := by decide +kernel
theorem dX1_lay_77 : decode cX1_lay 77 = .ok (.iload 4, 2) := by decide +kernel
theorem dX1_lay_79 : decode cX1_lay 79 = .ok (.iload_n 3, 1) := by decide +kernel
theorem dX1_lay_80 : decode cX1_lay 80 = .ok (.invokevirtual 34, 3) := by decide +kernel
theorem dX1_lay_83 : decode cX1_lay 83 = .ok (.iinc 4 1, 3) := by decide +kernel
theorem dX1_lay_86 : decode cX1_lay 86 = .ok (.goto (-50), 3) := by decide +kernel
theorem dX1_lay_89 : decode cX1_lay 89 = .ok (.iinc 3 1, 3) := by decide +kernel
theorem dX1_lay_92 : decode cX1_lay 92 = .ok (.goto (-67), 3) := by decide +kernel
theorem dX1_lay_95 : decode cX1_lay 95 = .ok (.return_, 1) := by decide +kernel
theorem dX1_listAround_0 : decode cX1_listAround 0 = .ok (.aload_n 0, 1) := by decide +kernel
theorem dX1_listAround_1 : decode cX1_listAround 1 = .ok (.getfield 24, 3) := by decide +kernel
theorem dX1_listAround_4 : decode cX1_listAround 4 = .ok (.iload_n 2, 1) := by decide +kernel
theorem dX1_listAround_5 : decode cX1_listAround 5 = .ok (.imul, 1) := by decide +kernel
theorem dX1_listAround_6 : decode cX1_listAround 6 = .ok (.iload_n 1, 1) := by decide +kernel
theorem dX1_listAround_7 : decode cX1_listAround 7 = .ok (.iadd, 1) := by decide +kernel
theorem dX1_listAround_8 : decode cX1_listAround 8 = .ok (.istore_n 3, 1) := by decide +kernel
theorem dX1_listAround_9 : decode cX1_listAround 9 = .ok (.iconst 0, 1) := by decide +kernel
theorem dX1_listAround_10 : decode cX1_listAround 10 = .ok (.istore 4, 2) := by decide +kernel
theorem dX1_listAround_12 : decode cX1_listAround 12 = .ok (.iconst 0, 1) := by decide +kernel
theorem dX1_listAround_13 : decode cX1_listAround 13 = .ok (.iload_n 2, 1) := by decide +kernel
theorem dX1_listAround_14 : decode cX1_listAround 14 = .ok (.iconst 1, 1) := by decide +kernel
theorem dX1_listAround_15 : decode cX1_listAround 15 = .ok (.isub, 1) := by decide +kernel
theorem dX1_listAround_16 : decode cX1_listAround 16 = .ok (.invokestatic 38, 3) := by decide +kernel
theorem dX1_listAround_19 : decode cX1_listAround 19 = .ok (.istore 5, 2) := by decide +kernel
theorem dX1_listAround_21 : decode cX1_listAround 21 = .ok (.iload 5, 2) := by decide +kernel
theorem dX1_listAround_23 : decode cX1_listAround 23 = .ok (.aload_n 0, 1) := by decide +kernel
theorem dX1_listAround_24 : decode cX1_listAround 24 = .ok (.getfield 28, 3) := by decide +kernel
theorem dX1_listAround_27 : decode cX1_listAround 27 = .ok (.iconst 1, 1) := by decide +kernel
theorem dX1_listAround_28 : decode cX1_listAround 28 = .ok (.isub, 1) := by decide +kernel
theorem dX1_listAround_29 : decode cX1_listAround 29 = .ok (.iload_n 2, 1) := by decide +kernel
theorem dX1_listAround_30 : decode cX1_listAround 30 = .ok (.iconst 1, 1) := by decide +kernel
theorem dX1_listAround_31 : decode cX1_listAround 31 = .ok (.iadd, 1) := by decide +kernel
theorem dX1_listAround_32 : decode cX1_listAround 32 = .ok (.invokestatic 44, 3) := by decide +kernel
theorem dX1_listAround_35 : decode cX1_listAround 35 = .ok (.if_icmp .gt 78, 3) := by decide +kernel
theorem dX1_listAround_38 : decode cX1_listAround 38 = .ok (.iconst 0, 1) := by decide +kernel
theorem dX1_listAround_39 : decode cX1_listAround 39 = .ok (.iload_n 1, 1) := by decide +kernel
theorem dX1_listAround_40 : decode cX1_listAround 40 = .ok (.iconst 1, 1) := by decide +kernel
theorem dX1_listAround_41 : decode cX1_listAround 41 = .ok (.isub, 1) := by decide +kernel
theorem dX1_listAround_42 : decode cX1_listAround 42 = .ok (.invokestatic 38, 3) := by decide +kernel
theorem dX1_listAround_45 : decode cX1_listAround 45 = .ok (.istore 6, 2) := by decide +kernel
theorem dX1_listAround_47 : decode cX1_listAround 47 = .ok (.iload 6, 2) := by decide +kernel
theorem dX1_listAround_49 : decode cX1_listAround 49 = .ok (.aload_n 0, 1) := by decide +kernel
theorem dX1_listAround_50 : decode cX1_listAround 50 = .ok (.getfield 24, 3) := by decide +kernel
theorem dX1_listAround_53 : decode cX1_listAround 53 = .ok (.iconst 1, 1) := by decide +kernel
theorem dX1_listAround_54 : decode cX1_listAround 54 = .ok (.isub, 1) := by decide +kernel
theorem dX1_listAround_55 : decode cX1_listAround 55 = .ok (.iload_n 1, 1) := by decide +kernel
theorem dX1_listAround_56 : decode cX1_listAround 56 = .ok (.iconst 1, 1) := by decide +kernel
theorem dX1_listAround_57 : decode cX1_listAround 57 = .ok (.iadd, 1) := by decide +kernel
theorem dX1_listAround_58 : decode cX1_listAround 58 = .ok (.invokestatic 44, 3) := by decide +kernel
theorem dX1_listAround_61 : decode cX1_listAround 61 = .ok (.if_icmp .gt 46, 3) := by decide +kernel
theorem dX1_listAround_64 : decode cX1_listAround 64 = .ok (.iload 6, 2) := by decide +kernel
theorem dX1_listAround_66 : decode cX1_listAround 66 = .ok (.iload_n 1, 1) := by decide +kernel
theorem dX1_listAround_67 : decode cX1_listAround 67 = .ok (.if_icmp .ne 9, 3) := by decide +kernel
theorem dX1_listAround_70 : decode cX1_listAround 70 = .ok (.iload 5, 2) := by decide +kernel
theorem dX1_listAround_72 : decode cX1_listAround 72 = .ok (.iload_n 2, 1) := by decide +kernel
theorem dX1_listAround_73 : decode cX1_listAround 73 = .ok (.if_icmp .eq 28, 3) := by decide +kernel
theorem dX1_listAround_76 : decode cX1_listAround 76 = .ok (.aload_n 0, 1) := by decide +kernel
theorem dX1_listAround_77 : decode cX1_listAround 77 = .ok (.getfield 21, 3) := by decide +kernel
theorem dX1_listAround_80 : decode cX1_listAround 80 = .ok (.bipush 8, 2) := by decide +kernel
theorem dX1_listAround_82 : decode cX1_listAround 82 = .ok (.iload_n 3, 1) := by decide +kernel
theorem dX1_listAround_83 : decode cX1_listAround 83 = .ok (.imul, 1) := by decide +kernel
theorem dX1_listAround_84 : decode cX1_listAround 84 = .ok (.iload 4, 2) := by decide +kernel
theorem dX1_listAround_86 : decode cX1_listAround 86 = .ok (.iadd, 1) := by decide +kernel
theorem dX1_listAround_87 : decode cX1_listAround 87 = .ok (.aload_n 0, 1) := by decide +kernel
theorem dX1_listAround_88 : decode cX1_listAround 88 = .ok (.getfield 24, 3) := by decide +kernel
theorem dX1_listAround_91 : decode cX1_listAround 91 = .ok (.iload 5, 2) := by decide +kernel
theorem dX1_listAround_93 : decode cX1_listAround 93 = .ok (.imul, 1) := by decide +kernel
theorem dX1_listAround_94 : decode cX1_listAround 94 = .ok (.iload 6, 2) := by decide +kernel
theorem dX1_listAround_96 : decode cX1_listAround 96 = .ok (.iadd, 1) := by decide +kernel
theorem dX1_listAround_97 : decode cX1_listAround 97 = .ok (.iastore, 1) := by decide +kernel
theorem dX1_listAround_98 : decode cX1_listAround 98 = .ok (.iinc 4 1, 3) := by decide +kernel
theorem dX1_listAround_101 : decode cX1_listAround 101 = .ok (.iinc 6 1, 3) := by decide +kernel
theorem dX1_listAround_104 : decode cX1_listAround 104 = .ok (.goto (-57), 3) := by decide +kernel
theorem dX1_listAround_107 : decode cX1_listAround 107 = .ok (.iinc 5 1, 3) := by decide +kernel
theorem dX1_listAround_110 : decode cX1_listAround 110 = .ok (.goto (-89), 3) := by decide +kernel
theorem dX1_listAround_113 : decode cX1_listAround 113 = .ok (.aload_n 0, 1) := by decide +kernel
theorem dX1_listAround_114 : decode cX1_listAround 114 = .ok (.getfield 18, 3) := by decide +kernel
theorem dX1_listAround_117 : decode cX1_listAround 117 = .ok (.iload_n 3, 1) := by decide +kernel
theorem dX1_listAround_118 : decode cX1_listAround 118 = .ok (.iload 4, 2) := by decide +kernel
theorem dX1_listAround_120 : decode cX1_listAround 120 = .ok (.iastore, 1) := by decide +kernel
theorem dX1_listAround_121 : decode cX1_listAround 121 = .ok (.return_, 1) := by decide +kernel
theorem dX1_neighbour_0 : decode cX1_neighbour 0 = .ok (.aload_n 0, 1) := by decide +kernel
theorem dX1_neighbour_1 : decode cX1_neighbour 1 = .ok (.getfield 21, 3) := by decide +kernel
theorem dX1_neighbour_4 : decode cX1_neighbour 4 = .ok (.bipush 8, 2) := by decide +kernel
theorem dX1_neighbour_6 : decode cX1_neighbour 6 = .ok (.iload_n 1, 1) := by decide +kernel
theorem dX1_neighbour_7 : decode cX1_neighbour 7 = .ok (.imul, 1) := by decide +kernel
theorem dX1_neighbour_8 : decode cX1_neighbour 8 = .ok (.iload_n 2, 1) := by decide +kernel
theorem dX1_neighbour_9 : decode cX1_neighbour 9 = .ok (.iadd, 1) := by decide +kernel
theorem dX1_neighbour_10 : decode cX1_neighbour 10 = .ok (.iaload, 1) := by decide +kernel
theorem dX1_neighbour_11 : decode cX1_neighbour 11 = .ok (.ireturn, 1) := by decide +kernel
theorem dX1_meets_0 : decode cX1_meets 0 = .ok (.aload_n 2, 1) := by decide +kernel
theorem dX1_meets_1 : decode cX1_meets 1 = .ok (.iload_n 1, 1) := by decide +kernel
theorem dX1_meets_2 : decode cX1_meets 2 = .ok (.baload, 1) := by decide +kernel
theorem dX1_meets_3 : decode cX1_meets 3 = .ok (.ifCond .eq 5, 3) := by decide +kernel
theorem dX1_meets_6 : decode cX1_meets 6 = .ok (.iconst 1, 1) := by decide +kernel
theorem dX1_meets_7 : decode cX1_meets 7 = .ok (.ireturn, 1) := by decide +kernel
theorem dX1_meets_8 : decode cX1_meets 8 = .ok (.iconst 0, 1) := by decide +kernel
theorem dX1_meets_9 : decode cX1_meets 9 = .ok (.istore_n 3, 1) := by decide +kernel
theorem dX1_meets_10 : decode cX1_meets 10 = .ok (.iload_n 3, 1) := by decide +kernel
theorem dX1_meets_11 : decode cX1_meets 11 = .ok (.aload_n 0, 1) := by decide +kernel
theorem dX1_meets_12 : decode cX1_meets 12 = .ok (.getfield 18, 3) := by decide +kernel
theorem dX1_meets_15 : decode cX1_meets 15 = .ok (.iload_n 1, 1) := by decide +kernel
theorem dX1_meets_16 : decode cX1_meets 16 = .ok (.iaload, 1) := by decide +kernel
theorem dX1_meets_17 : decode cX1_meets 17 = .ok (.if_icmp .ge 22, 3) := by decide +kernel
theorem dX1_meets_20 : decode cX1_meets 20 = .ok (.aload_n 2, 1) := by decide +kernel
theorem dX1_meets_21 : decode cX1_meets 21 = .ok (.aload_n 0, 1) := by decide +kernel
theorem dX1_meets_22 : decode cX1_meets 22 = .ok (.iload_n 1, 1) := by decide +kernel
theorem dX1_meets_23 : decode cX1_meets 23 = .ok (.iload_n 3, 1) := by decide +kernel
theorem dX1_meets_24 : decode cX1_meets 24 = .ok (.invokevirtual 47, 3) := by decide +kernel
theorem dX1_meets_27 : decode cX1_meets 27 = .ok (.baload, 1) := by decide +kernel
theorem dX1_meets_28 : decode cX1_meets 28 = .ok (.ifCond .eq 5, 3) := by decide +kernel
theorem dX1_meets_31 : decode cX1_meets 31 = .ok (.iconst 1, 1) := by decide +kernel
theorem dX1_meets_32 : decode cX1_meets 32 = .ok (.ireturn, 1) := by decide +kernel
theorem dX1_meets_33 : decode cX1_meets 33 = .ok (.iinc 3 1, 3) := by decide +kernel
theorem dX1_meets_36 : decode cX1_meets 36 = .ok (.goto (-26), 3) := by decide +kernel
theorem dX1_meets_39 : decode cX1_meets 39 = .ok (.iconst 0, 1) := by decide +kernel
theorem dX1_meets_40 : decode cX1_meets 40 = .ok (.ireturn, 1) := by decide +kernel
theorem dX2_init_0 : decode cX2_init 0 = .ok (.aload_n 0, 1) := by decide +kernel
theorem dX2_init_1 : decode cX2_init 1 = .ok (.invokespecial 3, 3) := by decide +kernel
theorem dX2_init_4 : decode cX2_init 4 = .ok (.aload_n 0, 1) := by decide +kernel
theorem dX2_init_5 : decode cX2_init 5 = .ok (.iconst 5, 1) := by decide +kernel
theorem dX2_init_6 : decode cX2_init 6 = .ok (.newarray .boolean, 2) := by decide +kernel
theorem dX2_init_8 : decode cX2_init 8 = .ok (.putfield 9, 3) := by decide +kernel
theorem dX2_init_11 : decode cX2_init 11 = .ok (.aload_n 0, 1) := by decide +kernel
theorem dX2_init_12 : decode cX2_init 12 = .ok (.iconst 5, 1) := by decide +kernel
theorem dX2_init_13 : decode cX2_init 13 = .ok (.newarray .int, 2) := by decide +kernel
theorem dX2_init_15 : decode cX2_init 15 = .ok (.putfield 15, 3) := by decide +kernel
theorem dX2_init_18 : decode cX2_init 18 = .ok (.aload_n 0, 1) := by decide +kernel
theorem dX2_init_19 : decode cX2_init 19 = .ok (.iconst 5, 1) := by decide +kernel
theorem dX2_init_20 : decode cX2_init 20 = .ok (.newarray .int, 2) := by decide +kernel
theorem dX2_init_22 : decode cX2_init 22 = .ok (.putfield 19, 3) := by decide +kernel
theorem dX2_init_25 : decode cX2_init 25 = .ok (.aload_n 0, 1) := by decide +kernel
theorem dX2_init_26 : decode cX2_init 26 = .ok (.iconst 5, 1) := by decide +kernel
theorem dX2_init_27 : decode cX2_init 27 = .ok (.newarray .int, 2) := by decide +kernel
theorem dX2_init_29 : decode cX2_init 29 = .ok (.putfield 22, 3) := by decide +kernel
theorem dX2_init_32 : decode cX2_init 32 = .ok (.return_, 1) := by decide +kernel
theorem dX2_liftAll_0 : decode cX2_liftAll 0 = .ok (.iconst 0, 1) := by decide +kernel
theorem dX2_liftAll_1 : decode cX2_liftAll 1 = .ok (.istore_n 1, 1) := by decide +kernel
theorem dX2_liftAll_2 : decode cX2_liftAll 2 = .ok (.iload_n 1, 1) := by decide +kernel
theorem dX2_liftAll_3 : decode cX2_liftAll 3 = .ok (.iconst 5, 1) := by decide +kernel
theorem dX2_liftAll_4 : decode cX2_liftAll 4 = .ok (.if_icmp .ge 16, 3) := by decide +kernel
theorem dX2_liftAll_7 : decode cX2_liftAll 7 = .ok (.aload_n 0, 1) := by decide +kernel
theorem dX2_liftAll_8 : decode cX2_liftAll 8 = .ok (.getfield 9, 3) := by decide +kernel
theorem dX2_liftAll_11 : decode cX2_liftAll 11 = .ok (.iload_n 1, 1) := by decide +kernel
theorem dX2_liftAll_12 : decode cX2_liftAll 12 = .ok (.iconst 0, 1) := by decide +kernel
theorem dX2_liftAll_13 : decode cX2_liftAll 13 = .ok (.bastore, 1) := by decide +kernel
theorem dX2_liftAll_14 : decode cX2_liftAll 14 = .ok (.iinc 1 1, 3) := by decide +kernel
theorem dX2_liftAll_17 : decode cX2_liftAll 17 = .ok (.goto (-15), 3) := by decide +kernel
theorem dX2_liftAll_20 : decode cX2_liftAll 20 = .ok (.return_, 1) := by decide +kernel
theorem dX2_put_0 : decode cX2_put 0 = .ok (.aload_n 0, 1) := by decide +kernel
theorem dX2_put_1 : decode cX2_put 1 = .ok (.getfield 9, 3) := by decide +kernel
theorem dX2_put_4 : decode cX2_put 4 = .ok (.iload_n 1, 1) := by decide +kernel
theorem dX2_put_5 : decode cX2_put 5 = .ok (.iconst 1, 1) := by decide +kernel
theorem dX2_put_6 : decode cX2_put 6 = .ok (.bastore, 1) := by decide +kernel
theorem dX2_put_7 : decode cX2_put 7 = .ok (.aload_n 0, 1) := by decide +kernel
theorem dX2_put_8 : decode cX2_put 8 = .ok (.getfield 15, 3) := by decide +kernel
theorem dX2_put_11 : decode cX2_put 11 = .ok (.iload_n 1, 1) := by decide +kernel
theorem dX2_put_12 : decode cX2_put 12 = .ok (.iload_n 2, 1) := by decide +kernel
theorem dX2_put_13 : decode cX2_put 13 = .ok (.iastore, 1) := by decide +kernel
theorem dX2_put_14 : decode cX2_put 14 = .ok (.aload_n 0, 1) := by decide +kernel
theorem dX2_put_15 : decode cX2_put 15 = .ok (.getfield 19, 3) := by decide +kernel
theorem dX2_put_18 : decode cX2_put 18 = .ok (.iload_n 1, 1) := by decide +kernel
theorem dX2_put_19 : decode cX2_put 19 = .ok (.iload_n 3, 1) := by decide +kernel
theorem dX2_put_20 : decode cX2_put 20 = .ok (.iastore, 1) := by decide +kernel
theorem dX2_put_21 : decode cX2_put 21 = .ok (.aload_n 0, 1) := by decide +kernel
theorem dX2_put_22 : decode cX2_put 22 = .ok (.getfield 22, 3) := by decide +kernel
theorem dX2_put_25 : decode cX2_put 25 = .ok (.iload_n 1, 1) := by decide +kernel
theorem dX2_put_26 : decode cX2_put 26 = .ok (.iload 4, 2) := by decide +kernel
theorem dX2_put_28 : decode cX2_put 28 = .ok (.iastore, 1) := by decide +kernel
theorem dX2_put_29 : decode cX2_put 29 = .ok (.return_, 1) := by decide +kernel
theorem dX2_copyFrom_0 : decode cX2_copyFrom 0 = .ok (.iconst 0, 1) := by decide +kernel
theorem dX2_copyFrom_1 : decode cX2_copyFrom 1 = .ok (.istore_n 2, 1) := by decide +kernel
theorem dX2_copyFrom_2 : decode cX2_copyFrom 2 = .ok (.iload_n 2, 1) := by decide +kernel
theorem dX2_copyFrom_3 : decode cX2_copyFrom 3 = .ok (.iconst 5, 1) := by decide +kernel
theorem dX2_copyFrom_4 : decode cX2_copyFrom 4 = .ok (.if_icmp .ge 57, 3) := by decide +kernel
theorem dX2_copyFrom_7 : decode cX2_copyFrom 7 = .ok (.aload_n 0, 1) := by decide +kernel
theorem dX2_copyFrom_8 : decode cX2_copyFrom 8 = .ok (.getfield 9, 3) := by decide +kernel
theorem dX2_copyFrom_11 : decode cX2_copyFrom 11 = .ok (.iload_n 2, 1) := by decide +kernel
theorem dX2_copyFrom_12 : decode cX2_copyFrom 12 = .ok (.aload_n 1, 1) := by decide +kernel
theorem dX2_copyFrom_13 : decode cX2_copyFrom 13 = .ok (.getfield 9, 3) := by decide +kernel
theorem dX2_copyFrom_16 : decode cX2_copyFrom 16 = .ok (.iload_n 2, 1) := by decide +kernel
theorem dX2_copyFrom_17 : decode cX2_copyFrom 17 = .ok (.baload, 1) := by decide +kernel
theorem dX2_copyFrom_18 : decode cX2_copyFrom 18 = .ok (.bastore, 1) := by decide +kernel
theorem dX2_copyFrom_19 : decode cX2_copyFrom 19 = .ok (.aload_n 0, 1) := by decide +kernel
theorem dX2_copyFrom_20 : decode cX2_copyFrom 20 = .ok (.getfield 15, 3) := by decide +kernel
theorem dX2_copyFrom_23 : decode cX2_copyFrom 23 = .ok (.iload_n 2, 1) := by decide +kernel
theorem dX2_copyFrom_24 : decode cX2_copyFrom 24 = .ok (.aload_n 1, 1) := by decide +kernel
theorem dX2_copyFrom_25 : decode cX2_copyFrom 25 = .ok (.getfield 15, 3) := by decide +kernel
theorem dX2_copyFrom_28 : decode cX2_copyFrom 28 = .ok (.iload_n 2, 1) := by decide +kernel
theorem dX2_copyFrom_29 : decode cX2_copyFrom 29 = .ok (.iaload, 1) := by decide +kernel
theorem dX2_copyFrom_30 : decode cX2_copyFrom 30 = .ok (.iastore, 1) := by decide +kernel
theorem dX2_copyFrom_31 : decode cX2_copyFrom 31 = .ok (.aload_n 0, 1) := by decide +kernel
theorem dX2_copyFrom_32 : decode cX2_copyFrom 32 = .ok (.getfield 19, 3) := by decide +kernel
theorem dX2_copyFrom_35 : decode cX2_copyFrom 35 = .ok (.iload_n 2, 1) := by decide +kernel
theorem dX2_copyFrom_36 : decode cX2_copyFrom 36 = .ok (.aload_n 1, 1) := by decide +kernel
theorem dX2_copyFrom_37 : decode cX2_copyFrom 37 = .ok (.getfield 19, 3) := by decide +kernel
theorem dX2_copyFrom_40 : decode cX2_copyFrom 40 = .ok (.iload_n 2, 1) := by decide +kernel
theorem dX2_copyFrom_41 : decode cX2_copyFrom 41 = .ok (.iaload, 1) := by decide +kernel
theorem dX2_copyFrom_42 : decode cX2_copyFrom 42 = .ok (.iastore, 1) := by decide +kernel
theorem dX2_copyFrom_43 : decode cX2_copyFrom 43 = .ok (.aload_n 0, 1) := by decide +kernel
theorem dX2_copyFrom_44 : decode cX2_copyFrom 44 = .ok (.getfield 22, 3) := by decide +kernel
theorem dX2_copyFrom_47 : decode cX2_copyFrom 47 = .ok (.iload_n 2, 1) := by decide +kernel
theorem dX2_copyFrom_48 : decode cX2_copyFrom 48 = .ok (.aload_n 1, 1) := by decide +kernel
theorem dX2_copyFrom_49 : decode cX2_copyFrom 49 = .ok (.getfield 22, 3) := by decide +kernel
theorem dX2_copyFrom_52 : decode cX2_copyFrom 52 = .ok (.iload_n 2, 1) := by decide +kernel
theorem dX2_copyFrom_53 : decode cX2_copyFrom 53 = .ok (.iaload, 1) := by decide +kernel
theorem dX2_copyFrom_54 : decode cX2_copyFrom 54 = .ok (.iastore, 1) := by decide +kernel
theorem dX2_copyFrom_55 : decode cX2_copyFrom 55 = .ok (.iinc 2 1, 3) := by decide +kernel
theorem dX2_copyFrom_58 : decode cX2_copyFrom 58 = .ok (.goto (-56), 3) := by decide +kernel
theorem dX2_copyFrom_61 : decode cX2_copyFrom 61 = .ok (.return_, 1) := by decide +kernel
theorem dX2_onCount_0 : decode cX2_onCount 0 = .ok (.iconst 0, 1) := by decide +kernel
theorem dX2_onCount_1 : decode cX2_onCount 1 = .ok (.istore_n 1, 1) := by decide +kernel
theorem dX2_onCount_2 : decode cX2_onCount 2 = .ok (.iconst 0, 1) := by decide +kernel
theorem dX2_onCount_3 : decode cX2_onCount 3 = .ok (.istore_n 2, 1) := by decide +kernel
theorem dX2_onCount_4 : decode cX2_onCount 4 = .ok (.iload_n 2, 1) := by decide +kernel
theorem dX2_onCount_5 : decode cX2_onCount 5 = .ok (.iconst 5, 1) := by decide +kernel
theorem dX2_onCount_6 : decode cX2_onCount 6 = .ok (.if_icmp .ge 21, 3) := by decide +kernel
theorem dX2_onCount_9 : decode cX2_onCount 9 = .ok (.aload_n 0, 1) := by decide +kernel
theorem dX2_onCount_10 : decode cX2_onCount 10 = .ok (.getfield 9, 3) := by decide +kernel
theorem dX2_onCount_13 : decode cX2_onCount 13 = .ok (.iload_n 2, 1) := by decide +kernel
theorem dX2_onCount_14 : decode cX2_onCount 14 = .ok (.baload, 1) := by decide +kernel
theorem dX2_onCount_15 : decode cX2_onCount 15 = .ok (.ifCond .eq 6, 3) := by decide +kernel
theorem dX2_onCount_18 : decode cX2_onCount 18 = .ok (.iinc 1 1, 3) := by decide +kernel
theorem dX2_onCount_21 : decode cX2_onCount 21 = .ok (.iinc 2 1, 3) := by decide +kernel
theorem dX2_onCount_24 : decode cX2_onCount 24 = .ok (.goto (-20), 3) := by decide +kernel
theorem dX2_onCount_27 : decode cX2_onCount 27 = .ok (.iload_n 1, 1) := by decide +kernel
theorem dX2_onCount_28 : decode cX2_onCount 28 = .ok (.ireturn, 1) := by decide +kernel
theorem dX2_sensedAt_0 : decode cX2_sensedAt 0 = .ok (.iconst 0, 1) := by decide +kernel
theorem dX2_sensedAt_1 : decode cX2_sensedAt 1 = .ok (.istore_n 3, 1) := by decide +kernel
theorem dX2_sensedAt_2 : decode cX2_sensedAt 2 = .ok (.iconst 0, 1) := by decide +kernel
theorem dX2_sensedAt_3 : decode cX2_sensedAt 3 = .ok (.istore 4, 2) := by decide +kernel
theorem dX2_sensedAt_5 : decode cX2_sensedAt 5 = .ok (.iload 4, 2) := by decide +kernel
theorem dX2_sensedAt_7 : decode cX2_sensedAt 7 = .ok (.iconst 5, 1) := by decide +kernel
theorem dX2_sensedAt_8 : decode cX2_sensedAt 8 = .ok (.if_icmp .ge 74, 3) := by decide +kernel
theorem dX2_sensedAt_11 : decode cX2_sensedAt 11 = .ok (.aload_n 0, 1) := by decide +kernel
theorem dX2_sensedAt_12 : decode cX2_sensedAt 12 = .ok (.getfield 9, 3) := by decide +kernel
theorem dX2_sensedAt_15 : decode cX2_sensedAt 15 = .ok (.iload 4, 2) := by decide +kernel
theorem dX2_sensedAt_17 : decode cX2_sensedAt 17 = .ok (.baload, 1) := by decide +kernel
theorem dX2_sensedAt_18 : decode cX2_sensedAt 18 = .ok (.ifCond .eq 58, 3) := by decide +kernel
theorem dX2_sensedAt_21 : decode cX2_sensedAt 21 = .ok (.iconst 2, 1) := by decide +kernel
theorem dX2_sensedAt_22 : decode cX2_sensedAt 22 = .ok (.iload_n 1, 1) := by decide +kernel
theorem dX2_sensedAt_23 : decode cX2_sensedAt 23 = .ok (.imul, 1) := by decide +kernel
theorem dX2_sensedAt_24 : decode cX2_sensedAt 24 = .ok (.aload_n 0, 1) := by decide +kernel
theorem dX2_sensedAt_25 : decode cX2_sensedAt 25 = .ok (.getfield 15, 3) := by decide +kernel
theorem dX2_sensedAt_28 : decode cX2_sensedAt 28 = .ok (.iload 4, 2) := by decide +kernel
theorem dX2_sensedAt_30 : decode cX2_sensedAt 30 = .ok (.iaload, 1) := by decide +kernel
theorem dX2_sensedAt_31 : decode cX2_sensedAt 31 = .ok (.isub, 1) := by decide +kernel
theorem dX2_sensedAt_32 : decode cX2_sensedAt 32 = .ok (.istore 5, 2) := by decide +kernel
theorem dX2_sensedAt_34 : decode cX2_sensedAt 34 = .ok (.iconst 2, 1) := by decide +kernel
theorem dX2_sensedAt_35 : decode cX2_sensedAt 35 = .ok (.iload_n 2, 1) := by decide +kernel
theorem dX2_sensedAt_36 : decode cX2_sensedAt 36 = .ok (.imul, 1) := by decide +kernel
theorem dX2_sensedAt_37 : decode cX2_sensedAt 37 = .ok (.aload_n 0, 1) := by decide +kernel
theorem dX2_sensedAt_38 : decode cX2_sensedAt 38 = .ok (.getfield 19, 3) := by decide +kernel
theorem dX2_sensedAt_41 : decode cX2_sensedAt 41 = .ok (.iload 4, 2) := by decide +kernel
theorem dX2_sensedAt_43 : decode cX2_sensedAt 43 = .ok (.iaload, 1) := by decide +kernel
theorem dX2_sensedAt_44 : decode cX2_sensedAt 44 = .ok (.isub, 1) := by decide +kernel
theorem dX2_sensedAt_45 : decode cX2_sensedAt 45 = .ok (.istore 6, 2) := by decide +kernel
theorem dX2_sensedAt_47 : decode cX2_sensedAt 47 = .ok (.iload_n 3, 1) := by decide +kernel
theorem dX2_sensedAt_48 : decode cX2_sensedAt 48 = .ok (.iconst 0, 1) := by decide +kernel
theorem dX2_sensedAt_49 : decode cX2_sensedAt 49 = .ok (.aload_n 0, 1) := by decide +kernel
theorem dX2_sensedAt_50 : decode cX2_sensedAt 50 = .ok (.getfield 22, 3) := by decide +kernel
theorem dX2_sensedAt_53 : decode cX2_sensedAt 53 = .ok (.iload 4, 2) := by decide +kernel
theorem dX2_sensedAt_55 : decode cX2_sensedAt 55 = .ok (.iaload, 1) := by decide +kernel
theorem dX2_sensedAt_56 : decode cX2_sensedAt 56 = .ok (.bipush 12, 2) := by decide +kernel
theorem dX2_sensedAt_58 : decode cX2_sensedAt 58 = .ok (.iload 5, 2) := by decide +kernel
theorem dX2_sensedAt_60 : decode cX2_sensedAt 60 = .ok (.iload 5, 2) := by decide +kernel
theorem dX2_sensedAt_62 : decode cX2_sensedAt 62 = .ok (.imul, 1) := by decide +kernel
theorem dX2_sensedAt_63 : decode cX2_sensedAt 63 = .ok (.iload 6, 2) := by decide +kernel
theorem dX2_sensedAt_65 : decode cX2_sensedAt 65 = .ok (.iload 6, 2) := by decide +kernel
theorem dX2_sensedAt_67 : decode cX2_sensedAt 67 = .ok (.imul, 1) := by decide +kernel
theorem dX2_sensedAt_68 : decode cX2_sensedAt 68 = .ok (.iadd, 1) := by decide +kernel
theorem dX2_sensedAt_69 : decode cX2_sensedAt 69 = .ok (.imul, 1) := by decide +kernel
theorem dX2_sensedAt_70 : decode cX2_sensedAt 70 = .ok (.isub, 1) := by decide +kernel
theorem dX2_sensedAt_71 : decode cX2_sensedAt 71 = .ok (.invokestatic 25, 3) := by decide +kernel
theorem dX2_sensedAt_74 : decode cX2_sensedAt 74 = .ok (.iadd, 1) := by decide +kernel
theorem dX2_sensedAt_75 : decode cX2_sensedAt 75 = .ok (.istore_n 3, 1) := by decide +kernel
theorem dX2_sensedAt_76 : decode cX2_sensedAt 76 = .ok (.iinc 4 1, 3) := by decide +kernel
theorem dX2_sensedAt_79 : decode cX2_sensedAt 79 = .ok (.goto (-74), 3) := by decide +kernel
theorem dX2_sensedAt_82 : decode cX2_sensedAt 82 = .ok (.iload_n 3, 1) := by decide +kernel
theorem dX2_sensedAt_83 : decode cX2_sensedAt 83 = .ok (.ireturn, 1) := by decide +kernel
theorem dX2_fact_0 : decode cX2_fact 0 = .ok (.iload_n 2, 1) := by decide +kernel
theorem dX2_fact_1 : decode cX2_fact 1 = .ok (.ifCond .ne 18, 3) := by decide +kernel
theorem dX2_fact_4 : decode cX2_fact 4 = .ok (.aload_n 0, 1) := by decide +kernel
theorem dX2_fact_5 : decode cX2_fact 5 = .ok (.getfield 9, 3) := by decide +kernel
theorem dX2_fact_8 : decode cX2_fact 8 = .ok (.iload_n 1, 1) := by decide +kernel
theorem dX2_fact_9 : decode cX2_fact 9 = .ok (.baload, 1) := by decide +kernel
theorem dX2_fact_10 : decode cX2_fact 10 = .ok (.ifCond .eq 7, 3) := by decide +kernel
theorem dX2_fact_13 : decode cX2_fact 13 = .ok (.iconst 1, 1) := by decide +kernel
theorem dX2_fact_14 : decode cX2_fact 14 = .ok (.goto 4, 3) := by decide +kernel
theorem dX2_fact_17 : decode cX2_fact 17 = .ok (.iconst 0, 1) := by decide +kernel
theorem dX2_fact_18 : decode cX2_fact 18 = .ok (.ireturn, 1) := by decide +kernel
theorem dX2_fact_19 : decode cX2_fact 19 = .ok (.aload_n 0, 1) := by decide +kernel
theorem dX2_fact_20 : decode cX2_fact 20 = .ok (.getfield 9, 3) := by decide +kernel
theorem dX2_fact_23 : decode cX2_fact 23 = .ok (.iload_n 1, 1) := by decide +kernel
theorem dX2_fact_24 : decode cX2_fact 24 = .ok (.baload, 1) := by decide +kernel
theorem dX2_fact_25 : decode cX2_fact 25 = .ok (.ifCond .ne 5, 3) := by decide +kernel
theorem dX2_fact_28 : decode cX2_fact 28 = .ok (.iconst (-1), 1) := by decide +kernel
theorem dX2_fact_29 : decode cX2_fact 29 = .ok (.ireturn, 1) := by decide +kernel
theorem dX2_fact_30 : decode cX2_fact 30 = .ok (.iload_n 2, 1) := by decide +kernel
theorem dX2_fact_31 : decode cX2_fact 31 = .ok (.iconst 1, 1) := by decide +kernel
theorem dX2_fact_32 : decode cX2_fact 32 = .ok (.if_icmp .ne 12, 3) := by decide +kernel
theorem dX2_fact_35 : decode cX2_fact 35 = .ok (.aload_n 0, 1) := by decide +kernel
theorem dX2_fact_36 : decode cX2_fact 36 = .ok (.getfield 15, 3) := by decide +kernel
theorem dX2_fact_39 : decode cX2_fact 39 = .ok (.iload_n 1, 1) := by decide +kernel
theorem dX2_fact_40 : decode cX2_fact 40 = .ok (.iaload, 1) := by decide +kernel
theorem dX2_fact_41 : decode cX2_fact 41 = .ok (.goto 23, 3) := by decide +kernel
theorem dX2_fact_44 : decode cX2_fact 44 = .ok (.iload_n 2, 1) := by decide +kernel
theorem dX2_fact_45 : decode cX2_fact 45 = .ok (.iconst 2, 1) := by decide +kernel
theorem dX2_fact_46 : decode cX2_fact 46 = .ok (.if_icmp .ne 12, 3) := by decide +kernel
theorem dX2_fact_49 : decode cX2_fact 49 = .ok (.aload_n 0, 1) := by decide +kernel
theorem dX2_fact_50 : decode cX2_fact 50 = .ok (.getfield 19, 3) := by decide +kernel
theorem dX2_fact_53 : decode cX2_fact 53 = .ok (.iload_n 1, 1) := by decide +kernel
theorem dX2_fact_54 : decode cX2_fact 54 = .ok (.iaload, 1) := by decide +kernel
theorem dX2_fact_55 : decode cX2_fact 55 = .ok (.goto 9, 3) := by decide +kernel
theorem dX2_fact_58 : decode cX2_fact 58 = .ok (.aload_n 0, 1) := by decide +kernel
theorem dX2_fact_59 : decode cX2_fact 59 = .ok (.getfield 22, 3) := by decide +kernel
theorem dX2_fact_62 : decode cX2_fact 62 = .ok (.iload_n 1, 1) := by decide +kernel
theorem dX2_fact_63 : decode cX2_fact 63 = .ok (.iaload, 1) := by decide +kernel
theorem dX2_fact_64 : decode cX2_fact 64 = .ok (.ireturn, 1) := by decide +kernel
theorem dX3_init_0 : decode cX3_init 0 = .ok (.aload_n 0, 1) := by decide +kernel
theorem dX3_init_1 : decode cX3_init 1 = .ok (.invokespecial 3, 3) := by decide +kernel
theorem dX3_init_4 : decode cX3_init 4 = .ok (.aload_n 0, 1) := by decide +kernel
theorem dX3_init_5 : decode cX3_init 5 = .ok (.bipush 16, 2) := by decide +kernel
theorem dX3_init_7 : decode cX3_init 7 = .ok (.newarray .int, 2) := by decide +kernel
theorem dX3_init_9 : decode cX3_init 9 = .ok (.putfield 11, 3) := by decide +kernel
theorem dX3_init_12 : decode cX3_init 12 = .ok (.aload_n 0, 1) := by decide +kernel
theorem dX3_init_13 : decode cX3_init 13 = .ok (.bipush 16, 2) := by decide +kernel
theorem dX3_init_15 : decode cX3_init 15 = .ok (.newarray .boolean, 2) := by decide +kernel
theorem dX3_init_17 : decode cX3_init 17 = .ok (.putfield 15, 3) := by decide +kernel
theorem dX3_init_20 : decode cX3_init 20 = .ok (.aload_n 0, 1) := by decide +kernel
theorem dX3_init_21 : decode cX3_init 21 = .ok (.bipush 64, 2) := by decide +kernel
theorem dX3_init_23 : decode cX3_init 23 = .ok (.newarray .int, 2) := by decide +kernel
theorem dX3_init_25 : decode cX3_init 25 = .ok (.putfield 19, 3) := by decide +kernel
theorem dX3_init_28 : decode cX3_init 28 = .ok (.aload_n 0, 1) := by decide +kernel
theorem dX3_init_29 : decode cX3_init 29 = .ok (.bipush 64, 2) := by decide +kernel
theorem dX3_init_31 : decode cX3_init 31 = .ok (.newarray .int, 2) := by decide +kernel
theorem dX3_init_33 : decode cX3_init 33 = .ok (.putfield 22, 3) := by decide +kernel
theorem dX3_init_36 : decode cX3_init 36 = .ok (.aload_n 0, 1) := by decide +kernel
theorem dX3_init_37 : decode cX3_init 37 = .ok (.sipush 256, 3) := by decide +kernel
theorem dX3_init_40 : decode cX3_init 40 = .ok (.newarray .int, 2) := by decide +kernel
theorem dX3_init_42 : decode cX3_init 42 = .ok (.putfield 25, 3) := by decide +kernel
theorem dX3_init_45 : decode cX3_init 45 = .ok (.aload_n 0, 1) := by decide +kernel
theorem dX3_init_46 : decode cX3_init 46 = .ok (.aload_n 1, 1) := by decide +kernel
theorem dX3_init_47 : decode cX3_init 47 = .ok (.putfield 28, 3) := by decide +kernel
theorem dX3_init_50 : decode cX3_init 50 = .ok (.return_, 1) := by decide +kernel
theorem dX3_form_0 : decode cX3_form 0 = .ok (.aload_n 0, 1) := by decide +kernel
theorem dX3_form_1 : decode cX3_form 1 = .ok (.aload_n 1, 1) := by decide +kernel
theorem dX3_form_2 : decode cX3_form 2 = .ok (.invokevirtual 32, 3) := by decide +kernel
theorem dX3_form_5 : decode cX3_form 5 = .ok (.aload_n 0, 1) := by decide +kernel
theorem dX3_form_6 : decode cX3_form 6 = .ok (.aload_n 1, 1) := by decide +kernel
theorem dX3_form_7 : decode cX3_form 7 = .ok (.getfield 36, 3) := by decide +kernel
theorem dX3_form_10 : decode cX3_form 10 = .ok (.invokevirtual 41, 3) := by decide +kernel
theorem dX3_form_13 : decode cX3_form 13 = .ok (.aload_n 0, 1) := by decide +kernel
theorem dX3_form_14 : decode cX3_form 14 = .ok (.aload_n 1, 1) := by decide +kernel
theorem dX3_form_15 : decode cX3_form 15 = .ok (.getfield 45, 3) := by decide +kernel
theorem dX3_form_18 : decode cX3_form 18 = .ok (.invokevirtual 48, 3) := by decide +kernel
theorem dX3_form_21 : decode cX3_form 21 = .ok (.iconst 0, 1) := by decide +kernel
theorem dX3_form_22 : decode cX3_form 22 = .ok (.istore_n 3, 1) := by decide +kernel
theorem dX3_form_23 : decode cX3_form 23 = .ok (.iload_n 3, 1) := by decide +kernel
theorem dX3_form_24 : decode cX3_form 24 = .ok (.bipush 16, 2) := by decide +kernel
theorem dX3_form_26 : decode cX3_form 26 = .ok (.if_icmp .ge 22, 3) := by decide +kernel
theorem dX3_form_29 : decode cX3_form 29 = .ok (.aload_n 0, 1) := by decide +kernel
theorem dX3_form_30 : decode cX3_form 30 = .ok (.aload_n 1, 1) := by decide +kernel
theorem dX3_form_31 : decode cX3_form 31 = .ok (.getfield 45, 3) := by decide +kernel
theorem dX3_form_34 : decode cX3_form 34 = .ok (.iload_n 2, 1) := by decide +kernel
theorem dX3_form_35 : decode cX3_form 35 = .ok (.invokevirtual 52, 3) := by decide +kernel
theorem dX3_form_38 : decode cX3_form 38 = .ok (.ifCond .ne 4, 3) := by decide +kernel
theorem dX3_form_41 : decode cX3_form 41 = .ok (.return_, 1) := by decide +kernel
theorem dX3_form_42 : decode cX3_form 42 = .ok (.iinc 3 1, 3) := by decide +kernel
theorem dX3_form_45 : decode cX3_form 45 = .ok (.goto (-22), 3) := by decide +kernel
theorem dX3_form_48 : decode cX3_form 48 = .ok (.return_, 1) := by decide +kernel
theorem dX3_findPeaks_0 : decode cX3_findPeaks 0 = .ok (.aload_n 0, 1) := by decide +kernel
theorem dX3_findPeaks_1 : decode cX3_findPeaks 1 = .ok (.iconst 0, 1) := by decide +kernel
theorem dX3_findPeaks_2 : decode cX3_findPeaks 2 = .ok (.putfield 56, 3) := by decide +kernel
theorem dX3_findPeaks_5 : decode cX3_findPeaks 5 = .ok (.iconst 0, 1) := by decide +kernel
theorem dX3_findPeaks_6 : decode cX3_findPeaks 6 = .ok (.istore_n 2, 1) := by decide +kernel
theorem dX3_findPeaks_7 : decode cX3_findPeaks 7 = .ok (.iload_n 2, 1) := by decide +kernel
theorem dX3_findPeaks_8 : decode cX3_findPeaks 8 = .ok (.aload_n 0, 1) := by decide +kernel
theorem dX3_findPeaks_9 : decode cX3_findPeaks 9 = .ok (.getfield 28, 3) := by decide +kernel
theorem dX3_findPeaks_12 : decode cX3_findPeaks 12 = .ok (.getfield 60, 3) := by decide +kernel
theorem dX3_findPeaks_15 : decode cX3_findPeaks 15 = .ok (.if_icmp .ge 99, 3) := by decide +kernel
theorem dX3_findPeaks_18 : decode cX3_findPeaks 18 = .ok (.aload_n 0, 1) := by decide +kernel
theorem dX3_findPeaks_19 : decode cX3_findPeaks 19 = .ok (.getfield 19, 3) := by decide +kernel
theorem dX3_findPeaks_22 : decode cX3_findPeaks 22 = .ok (.iload_n 2, 1) := by decide +kernel
theorem dX3_findPeaks_23 : decode cX3_findPeaks 23 = .ok (.iconst (-1), 1) := by decide +kernel
theorem dX3_findPeaks_24 : decode cX3_findPeaks 24 = .ok (.iastore, 1) := by decide +kernel
theorem dX3_findPeaks_25 : decode cX3_findPeaks 25 = .ok (.aload_n 1, 1) := by decide +kernel
theorem dX3_findPeaks_26 : decode cX3_findPeaks 26 = .ok (.getfield 36, 3) := by decide +kernel
theorem dX3_findPeaks_29 : decode cX3_findPeaks 29 = .ok (.iload_n 2, 1) := by decide +kernel
theorem dX3_findPeaks_30 : decode cX3_findPeaks 30 = .ok (.baload, 1) := by decide +kernel
theorem dX3_findPeaks_31 : decode cX3_findPeaks 31 = .ok (.ifCond .eq 77, 3) := by decide +kernel
theorem dX3_findPeaks_34 : decode cX3_findPeaks 34 = .ok (.aload_n 0, 1) := by decide +kernel
theorem dX3_findPeaks_35 : decode cX3_findPeaks 35 = .ok (.getfield 22, 3) := by decide +kernel
theorem dX3_findPeaks_38 : decode cX3_findPeaks 38 = .ok (.iload_n 2, 1) := by decide +kernel
theorem dX3_findPeaks_39 : decode cX3_findPeaks 39 = .ok (.aload_n 0, 1) := by decide +kernel
theorem dX3_findPeaks_40 : decode cX3_findPeaks 40 = .ok (.iload_n 2, 1) := by decide +kernel
theorem dX3_findPeaks_41 : decode cX3_findPeaks 41 = .ok (.aload_n 1, 1) := by decide +kernel
theorem dX3_findPeaks_42 : decode cX3_findPeaks 42 = .ok (.getfield 45, 3) := by decide +kernel
theorem dX3_findPeaks_45 : decode cX3_findPeaks 45 = .ok (.invokevirtual 65, 3) := by decide +kernel
theorem dX3_findPeaks_48 : decode cX3_findPeaks 48 = .ok (.iastore, 1) := by decide +kernel
theorem dX3_findPeaks_49 : decode cX3_findPeaks 49 = .ok (.aload_n 0, 1) := by decide +kernel
theorem dX3_findPeaks_50 : decode cX3_findPeaks 50 = .ok (.getfield 22, 3) := by decide +kernel
theorem dX3_findPeaks_53 : decode cX3_findPeaks 53 = .ok (.iload_n 2, 1) := by decide +kernel
theorem dX3_findPeaks_54 : decode cX3_findPeaks 54 = .ok (.iaload, 1) := by decide +kernel
theorem dX3_findPeaks_55 : decode cX3_findPeaks 55 = .ok (.iload_n 2, 1) := by decide +kernel
theorem dX3_findPeaks_56 : decode cX3_findPeaks 56 = .ok (.if_icmp .ne 52, 3) := by decide +kernel
theorem dX3_findPeaks_59 : decode cX3_findPeaks 59 = .ok (.aload_n 0, 1) := by decide +kernel
theorem dX3_findPeaks_60 : decode cX3_findPeaks 60 = .ok (.getfield 56, 3) := by decide +kernel
theorem dX3_findPeaks_63 : decode cX3_findPeaks 63 = .ok (.bipush 16, 2) := by decide +kernel
theorem dX3_findPeaks_65 : decode cX3_findPeaks 65 = .ok (.if_icmp .ge 43, 3) := by decide +kernel
theorem dX3_findPeaks_68 : decode cX3_findPeaks 68 = .ok (.aload_n 0, 1) := by decide +kernel
theorem dX3_findPeaks_69 : decode cX3_findPeaks 69 = .ok (.getfield 11, 3) := by decide +kernel
theorem dX3_findPeaks_72 : decode cX3_findPeaks 72 = .ok (.aload_n 0, 1) := by decide +kernel
theorem dX3_findPeaks_73 : decode cX3_findPeaks 73 = .ok (.getfield 56, 3) := by decide +kernel
theorem dX3_findPeaks_76 : decode cX3_findPeaks 76 = .ok (.iload_n 2, 1) := by decide +kernel
theorem dX3_findPeaks_77 : decode cX3_findPeaks 77 = .ok (.iastore, 1) := by decide +kernel
theorem dX3_findPeaks_78 : decode cX3_findPeaks 78 = .ok (.aload_n 0, 1) := by decide +kernel
theorem dX3_findPeaks_79 : decode cX3_findPeaks 79 = .ok (.getfield 15, 3) := by decide +kernel
theorem dX3_findPeaks_82 : decode cX3_findPeaks 82 = .ok (.aload_n 0, 1) := by decide +kernel
theorem dX3_findPeaks_83 : decode cX3_findPeaks 83 = .ok (.getfield 56, 3) := by decide +kernel
theorem dX3_findPeaks_86 : decode cX3_findPeaks 86 = .ok (.iconst 1, 1) := by decide +kernel
theorem dX3_findPeaks_87 : decode cX3_findPeaks 87 = .ok (.bastore, 1) := by decide +kernel
theorem dX3_findPeaks_88 : decode cX3_findPeaks 88 = .ok (.aload_n 0, 1) := by decide +kernel
theorem dX3_findPeaks_89 : decode cX3_findPeaks 89 = .ok (.getfield 19, 3) := by decide +kernel
theorem dX3_findPeaks_92 : decode cX3_findPeaks 92 = .ok (.iload_n 2, 1) := by decide +kernel
theorem dX3_findPeaks_93 : decode cX3_findPeaks 93 = .ok (.aload_n 0, 1) := by decide +kernel
theorem dX3_findPeaks_94 : decode cX3_findPeaks 94 = .ok (.getfield 56, 3) := by decide +kernel
theorem dX3_findPeaks_97 : decode cX3_findPeaks 97 = .ok (.iastore, 1) := by decide +kernel
theorem dX3_findPeaks_98 : decode cX3_findPeaks 98 = .ok (.aload_n 0, 1) := by decide +kernel
theorem dX3_findPeaks_99 : decode cX3_findPeaks 99 = .ok (.dup, 1) := by decide +kernel
theorem dX3_findPeaks_100 : decode cX3_findPeaks 100 = .ok (.getfield 56, 3) := by decide +kernel
theorem dX3_findPeaks_103 : decode cX3_findPeaks 103 = .ok (.iconst 1, 1) := by decide +kernel
theorem dX3_findPeaks_104 : decode cX3_findPeaks 104 = .ok (.iadd, 1) := by decide +kernel
theorem dX3_findPeaks_105 : decode cX3_findPeaks 105 = .ok (.putfield 56, 3) := by decide +kernel
theorem dX3_findPeaks_108 : decode cX3_findPeaks 108 = .ok (.iinc 2 1, 3) := by decide +kernel
theorem dX3_findPeaks_111 : decode cX3_findPeaks 111 = .ok (.goto (-104), 3) := by decide +kernel
theorem dX3_findPeaks_114 : decode cX3_findPeaks 114 = .ok (.return_, 1) := by decide +kernel
theorem dX3_steepest_0 : decode cX3_steepest 0 = .ok (.iload_n 1, 1) := by decide +kernel
theorem dX3_steepest_1 : decode cX3_steepest 1 = .ok (.istore_n 3, 1) := by decide +kernel
theorem dX3_steepest_2 : decode cX3_steepest 2 = .ok (.iconst 0, 1) := by decide +kernel
theorem dX3_steepest_3 : decode cX3_steepest 3 = .ok (.istore 4, 2) := by decide +kernel
theorem dX3_steepest_5 : decode cX3_steepest 5 = .ok (.iload 4, 2) := by decide +kernel
theorem dX3_steepest_7 : decode cX3_steepest 7 = .ok (.aload_n 0, 1) := by decide +kernel
theorem dX3_steepest_8 : decode cX3_steepest 8 = .ok (.getfield 28, 3) := by decide +kernel
theorem dX3_steepest_11 : decode cX3_steepest 11 = .ok (.getfield 69, 3) := by decide +kernel
theorem dX3_steepest_14 : decode cX3_steepest 14 = .ok (.iload_n 1, 1) := by decide +kernel
theorem dX3_steepest_15 : decode cX3_steepest 15 = .ok (.iaload, 1) := by decide +kernel
theorem dX3_steepest_16 : decode cX3_steepest 16 = .ok (.if_icmp .ge 50, 3) := by decide +kernel
theorem dX3_steepest_19 : decode cX3_steepest 19 = .ok (.aload_n 0, 1) := by decide +kernel
theorem dX3_steepest_20 : decode cX3_steepest 20 = .ok (.getfield 28, 3) := by decide +kernel
theorem dX3_steepest_23 : decode cX3_steepest 23 = .ok (.iload_n 1, 1) := by decide +kernel
theorem dX3_steepest_24 : decode cX3_steepest 24 = .ok (.iload 4, 2) := by decide +kernel
theorem dX3_steepest_26 : decode cX3_steepest 26 = .ok (.invokevirtual 72, 3) := by decide +kernel
theorem dX3_steepest_29 : decode cX3_steepest 29 = .ok (.istore 5, 2) := by decide +kernel
theorem dX3_steepest_31 : decode cX3_steepest 31 = .ok (.aload_n 2, 1) := by decide +kernel
theorem dX3_steepest_32 : decode cX3_steepest 32 = .ok (.iload 5, 2) := by decide +kernel
theorem dX3_steepest_34 : decode cX3_steepest 34 = .ok (.iaload, 1) := by decide +kernel
theorem dX3_steepest_35 : decode cX3_steepest 35 = .ok (.aload_n 2, 1) := by decide +kernel
theorem dX3_steepest_36 : decode cX3_steepest 36 = .ok (.iload_n 3, 1) := by decide +kernel
theorem dX3_steepest_37 : decode cX3_steepest 37 = .ok (.iaload, 1) := by decide +kernel
theorem dX3_steepest_38 : decode cX3_steepest 38 = .ok (.if_icmp .gt 19, 3) := by decide +kernel
theorem dX3_steepest_41 : decode cX3_steepest 41 = .ok (.aload_n 2, 1) := by decide +kernel
theorem dX3_steepest_42 : decode cX3_steepest 42 = .ok (.iload 5, 2) := by decide +kernel
theorem dX3_steepest_44 : decode cX3_steepest 44 = .ok (.iaload, 1) := by decide +kernel
theorem dX3_steepest_45 : decode cX3_steepest 45 = .ok (.aload_n 2, 1) := by decide +kernel
theorem dX3_steepest_46 : decode cX3_steepest 46 = .ok (.iload_n 3, 1) := by decide +kernel
theorem dX3_steepest_47 : decode cX3_steepest 47 = .ok (.iaload, 1) := by decide +kernel
theorem dX3_steepest_48 : decode cX3_steepest 48 = .ok (.if_icmp .ne 12, 3) := by decide +kernel
theorem dX3_steepest_51 : decode cX3_steepest 51 = .ok (.iload 5, 2) := by decide +kernel
theorem dX3_steepest_53 : decode cX3_steepest 53 = .ok (.iload_n 3, 1) := by decide +kernel
theorem dX3_steepest_54 : decode cX3_steepest 54 = .ok (.if_icmp .ge 6, 3) := by decide +kernel
theorem dX3_steepest_57 : decode cX3_steepest 57 = .ok (.iload 5, 2) := by decide +kernel
theorem dX3_steepest_59 : decode cX3_steepest 59 = .ok (.istore_n 3, 1) := by decide +kernel
theorem dX3_steepest_60 : decode cX3_steepest 60 = .ok (.iinc 4 1, 3) := by decide +kernel
theorem dX3_steepest_63 : decode cX3_steepest 63 = .ok (.goto (-58), 3) := by decide +kernel
theorem dX3_steepest_66 : decode cX3_steepest 66 = .ok (.iload_n 3, 1) := by decide +kernel
theorem dX3_steepest_67 : decode cX3_steepest 67 = .ok (.ireturn, 1) := by decide +kernel
theorem dX3_gatherCells_0 : decode cX3_gatherCells 0 = .ok (.iconst 0, 1) := by decide +kernel
theorem dX3_gatherCells_1 : decode cX3_gatherCells 1 = .ok (.istore_n 2, 1) := by decide +kernel
theorem dX3_gatherCells_2 : decode cX3_gatherCells 2 = .ok (.iload_n 2, 1) := by decide +kernel
theorem dX3_gatherCells_3 : decode cX3_gatherCells 3 = .ok (.aload_n 0, 1) := by decide +kernel
theorem dX3_gatherCells_4 : decode cX3_gatherCells 4 = .ok (.getfield 28, 3) := by decide +kernel
theorem dX3_gatherCells_7 : decode cX3_gatherCells 7 = .ok (.getfield 60, 3) := by decide +kernel
theorem dX3_gatherCells_10 : decode cX3_gatherCells 10 = .ok (.if_icmp .ge 62, 3) := by decide +kernel
theorem dX3_gatherCells_13 : decode cX3_gatherCells 13 = .ok (.aload_n 1, 1) := by decide +kernel
theorem dX3_gatherCells_14 : decode cX3_gatherCells 14 = .ok (.iload_n 2, 1) := by decide +kernel
theorem dX3_gatherCells_15 : decode cX3_gatherCells 15 = .ok (.baload, 1) := by decide +kernel
theorem dX3_gatherCells_16 : decode cX3_gatherCells 16 = .ok (.ifCond .eq 50, 3) := by decide +kernel
theorem dX3_gatherCells_19 : decode cX3_gatherCells 19 = .ok (.iload_n 2, 1) := by decide +kernel
theorem dX3_gatherCells_20 : decode cX3_gatherCells 20 = .ok (.istore_n 3, 1) := by decide +kernel
theorem dX3_gatherCells_21 : decode cX3_gatherCells 21 = .ok (.iconst 0, 1) := by decide +kernel
theorem dX3_gatherCells_22 : decode cX3_gatherCells 22 = .ok (.istore 4, 2) := by decide +kernel
theorem dX3_gatherCells_24 : decode cX3_gatherCells 24 = .ok (.iload 4, 2) := by decide +kernel
theorem dX3_gatherCells_26 : decode cX3_gatherCells 26 = .ok (.bipush 64, 2) := by decide +kernel
theorem dX3_gatherCells_28 : decode cX3_gatherCells 28 = .ok (.if_icmp .ge 26, 3) := by decide +kernel
theorem dX3_gatherCells_31 : decode cX3_gatherCells 31 = .ok (.aload_n 0, 1) := by decide +kernel
theorem dX3_gatherCells_32 : decode cX3_gatherCells 32 = .ok (.getfield 19, 3) := by decide +kernel
theorem dX3_gatherCells_35 : decode cX3_gatherCells 35 = .ok (.iload_n 3, 1) := by decide +kernel
theorem dX3_gatherCells_36 : decode cX3_gatherCells 36 = .ok (.iaload, 1) := by decide +kernel
theorem dX3_gatherCells_37 : decode cX3_gatherCells 37 = .ok (.iconst (-1), 1) := by decide +kernel
theorem dX3_gatherCells_38 : decode cX3_gatherCells 38 = .ok (.if_icmp .ne 16, 3) := by decide +kernel
theorem dX3_gatherCells_41 : decode cX3_gatherCells 41 = .ok (.aload_n 0, 1) := by decide +kernel
theorem dX3_gatherCells_42 : decode cX3_gatherCells 42 = .ok (.getfield 22, 3) := by decide +kernel
theorem dX3_gatherCells_45 : decode cX3_gatherCells 45 = .ok (.iload_n 3, 1) := by decide +kernel
theorem dX3_gatherCells_46 : decode cX3_gatherCells 46 = .ok (.iaload, 1) := by decide +kernel
theorem dX3_gatherCells_47 : decode cX3_gatherCells 47 = .ok (.istore_n 3, 1) := by decide +kernel
theorem dX3_gatherCells_48 : decode cX3_gatherCells 48 = .ok (.iinc 4 1, 3) := by decide +kernel
theorem dX3_gatherCells_51 : decode cX3_gatherCells 51 = .ok (.goto (-27), 3) := by decide +kernel
theorem dX3_gatherCells_54 : decode cX3_gatherCells 54 = .ok (.aload_n 0, 1) := by decide +kernel
theorem dX3_gatherCells_55 : decode cX3_gatherCells 55 = .ok (.getfield 19, 3) := by decide +kernel
theorem dX3_gatherCells_58 : decode cX3_gatherCells 58 = .ok (.iload_n 2, 1) := by decide +kernel
theorem dX3_gatherCells_59 : decode cX3_gatherCells 59 = .ok (.aload_n 0, 1) := by decide +kernel
theorem dX3_gatherCells_60 : decode cX3_gatherCells 60 = .ok (.getfield 19, 3) := by decide +kernel
theorem dX3_gatherCells_63 : decode cX3_gatherCells 63 = .ok (.iload_n 3, 1) := by decide +kernel
theorem dX3_gatherCells_64 : decode cX3_gatherCells 64 = .ok (.iaload, 1) := by decide +kernel
theorem dX3_gatherCells_65 : decode cX3_gatherCells 65 = .ok (.iastore, 1) := by decide +kernel
theorem dX3_gatherCells_66 : decode cX3_gatherCells 66 = .ok (.iinc 2 1, 3) := by decide +kernel
theorem dX3_gatherCells_69 : decode cX3_gatherCells 69 = .ok (.goto (-67), 3) := by decide +kernel
theorem dX3_gatherCells_72 : decode cX3_gatherCells 72 = .ok (.return_, 1) := by decide +kernel
theorem dX3_findPasses_0 : decode cX3_findPasses 0 = .ok (.aload_n 0, 1) := by decide +kernel
theorem dX3_findPasses_1 : decode cX3_findPasses 1 = .ok (.getfield 25, 3) := by decide +kernel
theorem dX3_findPasses_4 : decode cX3_findPasses 4 = .ok (.iconst (-1), 1) := by decide +kernel
theorem dX3_findPasses_5 : decode cX3_findPasses 5 = .ok (.invokestatic 76, 3) := by decide +kernel
theorem dX3_findPasses_8 : decode cX3_findPasses 8 = .ok (.iconst 0, 1) := by decide +kernel
theorem dX3_findPasses_9 : decode cX3_findPasses 9 = .ok (.istore_n 2, 1) := by decide +kernel
theorem dX3_findPasses_10 : decode cX3_findPasses 10 = .ok (.iload_n 2, 1) := by decide +kernel
theorem dX3_findPasses_11 : decode cX3_findPasses 11 = .ok (.aload_n 0, 1) := by decide +kernel
theorem dX3_findPasses_12 : decode cX3_findPasses 12 = .ok (.getfield 28, 3) := by decide +kernel
theorem dX3_findPasses_15 : decode cX3_findPasses 15 = .ok (.getfield 60, 3) := by decide +kernel
theorem dX3_findPasses_18 : decode cX3_findPasses 18 = .ok (.if_icmp .ge 89, 3) := by decide +kernel
theorem dX3_findPasses_21 : decode cX3_findPasses 21 = .ok (.aload_n 0, 1) := by decide +kernel
theorem dX3_findPasses_22 : decode cX3_findPasses 22 = .ok (.getfield 19, 3) := by decide +kernel
theorem dX3_findPasses_25 : decode cX3_findPasses 25 = .ok (.iload_n 2, 1) := by decide +kernel
theorem dX3_findPasses_26 : decode cX3_findPasses 26 = .ok (.iaload, 1) := by decide +kernel
theorem dX3_findPasses_27 : decode cX3_findPasses 27 = .ok (.iconst (-1), 1) := by decide +kernel
theorem dX3_findPasses_28 : decode cX3_findPasses 28 = .ok (.if_icmp .eq 73, 3) := by decide +kernel
theorem dX3_findPasses_31 : decode cX3_findPasses 31 = .ok (.iconst 0, 1) := by decide +kernel
theorem dX3_findPasses_32 : decode cX3_findPasses 32 = .ok (.istore_n 3, 1) := by decide +kernel
theorem dX3_findPasses_33 : decode cX3_findPasses 33 = .ok (.iload_n 3, 1) := by decide +kernel
theorem dX3_findPasses_34 : decode cX3_findPasses 34 = .ok (.aload_n 0, 1) := by decide +kernel
theorem dX3_findPasses_35 : decode cX3_findPasses 35 = .ok (.getfield 28, 3) := by decide +kernel
theorem dX3_findPasses_38 : decode cX3_findPasses 38 = .ok (.getfield 69, 3) := by decide +kernel
theorem dX3_findPasses_41 : decode cX3_findPasses 41 = .ok (.iload_n 2, 1) := by decide +kernel
theorem dX3_findPasses_42 : decode cX3_findPasses 42 = .ok (.iaload, 1) := by decide +kernel
theorem dX3_findPasses_43 : decode cX3_findPasses 43 = .ok (.if_icmp .ge 58, 3) := by decide +kernel
theorem dX3_findPasses_46 : decode cX3_findPasses 46 = .ok (.aload_n 0, 1) := by decide +kernel
theorem dX3_findPasses_47 : decode cX3_findPasses 47 = .ok (.getfield 28, 3) := by decide +kernel
theorem dX3_findPasses_50 : decode cX3_findPasses 50 = .ok (.iload_n 2, 1) := by decide +kernel
theorem dX3_findPasses_51 : decode cX3_findPasses 51 = .ok (.iload_n 3, 1) := by decide +kernel
theorem dX3_findPasses_52 : decode cX3_findPasses 52 = .ok (.invokevirtual 72, 3) := by decide +kernel
theorem dX3_findPasses_55 : decode cX3_findPasses 55 = .ok (.istore 4, 2) := by decide +kernel
theorem dX3_findPasses_57 : decode cX3_findPasses 57 = .ok (.aload_n 0, 1) := by decide +kernel
theorem dX3_findPasses_58 : decode cX3_findPasses 58 = .ok (.getfield 19, 3) := by decide +kernel
theorem dX3_findPasses_61 : decode cX3_findPasses 61 = .ok (.iload 4, 2) := by decide +kernel
theorem dX3_findPasses_63 : decode cX3_findPasses 63 = .ok (.iaload, 1) := by decide +kernel
theorem dX3_findPasses_64 : decode cX3_findPasses 64 = .ok (.iconst (-1), 1) := by decide +kernel
theorem dX3_findPasses_65 : decode cX3_findPasses 65 = .ok (.if_icmp .eq 30, 3) := by decide +kernel
theorem dX3_findPasses_68 : decode cX3_findPasses 68 = .ok (.aload_n 0, 1) := by decide +kernel
theorem dX3_findPasses_69 : decode cX3_findPasses 69 = .ok (.aload_n 0, 1) := by decide +kernel
theorem dX3_findPasses_70 : decode cX3_findPasses 70 = .ok (.getfield 19, 3) := by decide +kernel
theorem dX3_findPasses_73 : decode cX3_findPasses 73 = .ok (.iload_n 2, 1) := by decide +kernel
theorem dX3_findPasses_74 : decode cX3_findPasses 74 = .ok (.iaload, 1) := by decide +kernel
theorem dX3_findPasses_75 : decode cX3_findPasses 75 = .ok (.aload_n 0, 1) := by decide +kernel
theorem dX3_findPasses_76 : decode cX3_findPasses 76 = .ok (.getfield 19, 3) := by decide +kernel
theorem dX3_findPasses_79 : decode cX3_findPasses 79 = .ok (.iload 4, 2) := by decide +kernel
theorem dX3_findPasses_81 : decode cX3_findPasses 81 = .ok (.iaload, 1) := by decide +kernel
theorem dX3_findPasses_82 : decode cX3_findPasses 82 = .ok (.aload_n 1, 1) := by decide +kernel
theorem dX3_findPasses_83 : decode cX3_findPasses 83 = .ok (.iload_n 2, 1) := by decide +kernel
theorem dX3_findPasses_84 : decode cX3_findPasses 84 = .ok (.iaload, 1) := by decide +kernel
theorem dX3_findPasses_85 : decode cX3_findPasses 85 = .ok (.aload_n 1, 1) := by decide +kernel
theorem dX3_findPasses_86 : decode cX3_findPasses 86 = .ok (.iload 4, 2) := by decide +kernel
theorem dX3_findPasses_88 : decode cX3_findPasses 88 = .ok (.iaload, 1) := by decide +kernel
theorem dX3_findPasses_89 : decode cX3_findPasses 89 = .ok (.invokestatic 82, 3) := by decide +kernel
theorem dX3_findPasses_92 : decode cX3_findPasses 92 = .ok (.invokevirtual 87, 3) := by decide +kernel
theorem dX3_findPasses_95 : decode cX3_findPasses 95 = .ok (.iinc 3 1, 3) := by decide +kernel
theorem dX3_findPasses_98 : decode cX3_findPasses 98 = .ok (.goto (-65), 3) := by decide +kernel
theorem dX3_findPasses_101 : decode cX3_findPasses 101 = .ok (.iinc 2 1, 3) := by decide +kernel
theorem dX3_findPasses_104 : decode cX3_findPasses 104 = .ok (.goto (-94), 3) := by decide +kernel
theorem dX3_findPasses_107 : decode cX3_findPasses 107 = .ok (.return_, 1) := by decide +kernel
theorem dX3_raisePass_0 : decode cX3_raisePass 0 = .ok (.bipush 16, 2) := by decide +kernel
theorem dX3_raisePass_2 : decode cX3_raisePass 2 = .ok (.iload_n 1, 1) := by decide +kernel
theorem dX3_raisePass_3 : decode cX3_raisePass 3 = .ok (.imul, 1) := by decide +kernel
theorem dX3_raisePass_4 : decode cX3_raisePass 4 = .ok (.iload_n 2, 1) := by decide +kernel
theorem dX3_raisePass_5 : decode cX3_raisePass 5 = .ok (.iadd, 1) := by decide +kernel
theorem dX3_raisePass_6 : decode cX3_raisePass 6 = .ok (.istore 4, 2) := by decide +kernel
theorem dX3_raisePass_8 : decode cX3_raisePass 8 = .ok (.aload_n 0, 1) := by decide +kernel
theorem dX3_raisePass_9 : decode cX3_raisePass 9 = .ok (.getfield 25, 3) := by decide +kernel
theorem dX3_raisePass_12 : decode cX3_raisePass 12 = .ok (.iload 4, 2) := by decide +kernel
theorem dX3_raisePass_14 : decode cX3_raisePass 14 = .ok (.aload_n 0, 1) := by decide +kernel
theorem dX3_raisePass_15 : decode cX3_raisePass 15 = .ok (.getfield 25, 3) := by decide +kernel
theorem dX3_raisePass_18 : decode cX3_raisePass 18 = .ok (.iload 4, 2) := by decide +kernel
theorem dX3_raisePass_20 : decode cX3_raisePass 20 = .ok (.iaload, 1) := by decide +kernel
theorem dX3_raisePass_21 : decode cX3_raisePass 21 = .ok (.iload_n 3, 1) := by decide +kernel
theorem dX3_raisePass_22 : decode cX3_raisePass 22 = .ok (.invokestatic 91, 3) := by decide +kernel
theorem dX3_raisePass_25 : decode cX3_raisePass 25 = .ok (.iastore, 1) := by decide +kernel
theorem dX3_raisePass_26 : decode cX3_raisePass 26 = .ok (.return_, 1) := by decide +kernel
theorem dX3_mergeBestPair_0 : decode cX3_mergeBestPair 0 = .ok (.iconst (-1), 1) := by decide +kernel
theorem dX3_mergeBestPair_1 : decode cX3_mergeBestPair 1 = .ok (.istore_n 3, 1) := by decide +kernel
theorem dX3_mergeBestPair_2 : decode cX3_mergeBestPair 2 = .ok (.iconst (-1), 1) := by decide +kernel
theorem dX3_mergeBestPair_3 : decode cX3_mergeBestPair 3 = .ok (.istore 4, 2) := by decide +kernel
theorem dX3_mergeBestPair_5 : decode cX3_mergeBestPair 5 = .ok (.iconst (-1), 1) := by decide +kernel
theorem dX3_mergeBestPair_6 : decode cX3_mergeBestPair 6 = .ok (.istore 5, 2) := by decide +kernel
theorem dX3_mergeBestPair_8 : decode cX3_mergeBestPair 8 = .ok (.iconst 0, 1) := by decide +kernel
theorem dX3_mergeBestPair_9 : decode cX3_mergeBestPair 9 = .ok (.istore 6, 2) := by decide +kernel
theorem dX3_mergeBestPair_11 : decode cX3_mergeBestPair 11 = .ok (.iload 6, 2) := by decide +kernel
theorem dX3_mergeBestPair_13 : decode cX3_mergeBestPair 13 = .ok (.aload_n 0, 1) := by decide +kernel
theorem dX3_mergeBestPair_14 : decode cX3_mergeBestPair 14 = .ok (.getfield 56, 3) := by decide +kernel
theorem dX3_mergeBestPair_17 : decode cX3_mergeBestPair 17 = .ok (.if_icmp .ge 75, 3) := by decide +kernel
theorem dX3_mergeBestPair_20 : decode cX3_mergeBestPair 20 = .ok (.iload 6, 2) := by decide +kernel
theorem dX3_mergeBestPair_22 : decode cX3_mergeBestPair 22 = .ok (.iconst 1, 1) := by decide +kernel
theorem dX3_mergeBestPair_23 : decode cX3_mergeBestPair 23 = .ok (.iadd, 1) := by decide +kernel
theorem dX3_mergeBestPair_24 : decode cX3_mergeBestPair 24 = .ok (.istore 7, 2) := by decide +kernel
theorem dX3_mergeBestPair_26 : decode cX3_mergeBestPair 26 = .ok (.iload 7, 2) := by decide +kernel
theorem dX3_mergeBestPair_28 : decode cX3_mergeBestPair 28 = .ok (.aload_n 0, 1) := by decide +kernel
theorem dX3_mergeBestPair_29 : decode cX3_mergeBestPair 29 = .ok (.getfield 56, 3) := by decide +kernel
theorem dX3_mergeBestPair_32 : decode cX3_mergeBestPair 32 = .ok (.if_icmp .ge 54, 3) := by decide +kernel
theorem dX3_mergeBestPair_35 : decode cX3_mergeBestPair 35 = .ok (.aload_n 0, 1) := by decide +kernel
theorem dX3_mergeBestPair_36 : decode cX3_mergeBestPair 36 = .ok (.getfield 25, 3) := by decide +kernel
theorem dX3_mergeBestPair_39 : decode cX3_mergeBestPair 39 = .ok (.bipush 16, 2) := by decide +kernel
theorem dX3_mergeBestPair_41 : decode cX3_mergeBestPair 41 = .ok (.iload 6, 2) := by decide +kernel
theorem dX3_mergeBestPair_43 : decode cX3_mergeBestPair 43 = .ok (.imul, 1) := by decide +kernel
theorem dX3_mergeBestPair_44 : decode cX3_mergeBestPair 44 = .ok (.iload 7, 2) := by decide +kernel
theorem dX3_mergeBestPair_46 : decode cX3_mergeBestPair 46 = .ok (.iadd, 1) := by decide +kernel
theorem dX3_mergeBestPair_47 : decode cX3_mergeBestPair 47 = .ok (.iaload, 1) := by decide +kernel
theorem dX3_mergeBestPair_48 : decode cX3_mergeBestPair 48 = .ok (.istore 8, 2) := by decide +kernel
theorem dX3_mergeBestPair_50 : decode cX3_mergeBestPair 50 = .ok (.iload 8, 2) := by decide +kernel
theorem dX3_mergeBestPair_52 : decode cX3_mergeBestPair 52 = .ok (.iload_n 3, 1) := by decide +kernel
theorem dX3_mergeBestPair_53 : decode cX3_mergeBestPair 53 = .ok (.if_icmp .le 27, 3) := by decide +kernel
theorem dX3_mergeBestPair_56 : decode cX3_mergeBestPair 56 = .ok (.aload_n 0, 1) := by decide +kernel
theorem dX3_mergeBestPair_57 : decode cX3_mergeBestPair 57 = .ok (.iload 6, 2) := by decide +kernel
theorem dX3_mergeBestPair_59 : decode cX3_mergeBestPair 59 = .ok (.iload 7, 2) := by decide +kernel
theorem dX3_mergeBestPair_61 : decode cX3_mergeBestPair 61 = .ok (.aload_n 1, 1) := by decide +kernel
theorem dX3_mergeBestPair_62 : decode cX3_mergeBestPair 62 = .ok (.iload_n 2, 1) := by decide +kernel
theorem dX3_mergeBestPair_63 : decode cX3_mergeBestPair 63 = .ok (.invokevirtual 94, 3) := by decide +kernel
theorem dX3_mergeBestPair_66 : decode cX3_mergeBestPair 66 = .ok (.ifCond .eq 14, 3) := by decide +kernel
theorem dX3_mergeBestPair_69 : decode cX3_mergeBestPair 69 = .ok (.iload 8, 2) := by decide +kernel
theorem dX3_mergeBestPair_71 : decode cX3_mergeBestPair 71 = .ok (.istore_n 3, 1) := by decide +kernel
theorem dX3_mergeBestPair_72 : decode cX3_mergeBestPair 72 = .ok (.iload 6, 2) := by decide +kernel
theorem dX3_mergeBestPair_74 : decode cX3_mergeBestPair 74 = .ok (.istore 4, 2) := by decide +kernel
theorem dX3_mergeBestPair_76 : decode cX3_mergeBestPair 76 = .ok (.iload 7, 2) := by decide +kernel
theorem dX3_mergeBestPair_78 : decode cX3_mergeBestPair 78 = .ok (.istore 5, 2) := by decide +kernel
theorem dX3_mergeBestPair_80 : decode cX3_mergeBestPair 80 = .ok (.iinc 7 1, 3) := by decide +kernel
theorem dX3_mergeBestPair_83 : decode cX3_mergeBestPair 83 = .ok (.goto (-57), 3) := by decide +kernel
theorem dX3_mergeBestPair_86 : decode cX3_mergeBestPair 86 = .ok (.iinc 6 1, 3) := by decide +kernel
theorem dX3_mergeBestPair_89 : decode cX3_mergeBestPair 89 = .ok (.goto (-78), 3) := by decide +kernel
theorem dX3_mergeBestPair_92 : decode cX3_mergeBestPair 92 = .ok (.iload 4, 2) := by decide +kernel
theorem dX3_mergeBestPair_94 : decode cX3_mergeBestPair 94 = .ok (.iconst (-1), 1) := by decide +kernel
theorem dX3_mergeBestPair_95 : decode cX3_mergeBestPair 95 = .ok (.if_icmp .ne 5, 3) := by decide +kernel
theorem dX3_mergeBestPair_98 : decode cX3_mergeBestPair 98 = .ok (.iconst 0, 1) := by decide +kernel
theorem dX3_mergeBestPair_99 : decode cX3_mergeBestPair 99 = .ok (.ireturn, 1) := by decide +kernel
theorem dX3_mergeBestPair_100 : decode cX3_mergeBestPair 100 = .ok (.aload_n 1, 1) := by decide +kernel
theorem dX3_mergeBestPair_101 : decode cX3_mergeBestPair 101 = .ok (.aload_n 0, 1) := by decide +kernel
theorem dX3_mergeBestPair_102 : decode cX3_mergeBestPair 102 = .ok (.getfield 11, 3) := by decide +kernel
theorem dX3_mergeBestPair_105 : decode cX3_mergeBestPair 105 = .ok (.iload 4, 2) := by decide +kernel
theorem dX3_mergeBestPair_107 : decode cX3_mergeBestPair 107 = .ok (.iaload, 1) := by decide +kernel
theorem dX3_mergeBestPair_108 : decode cX3_mergeBestPair 108 = .ok (.iaload, 1) := by decide +kernel
theorem dX3_mergeBestPair_109 : decode cX3_mergeBestPair 109 = .ok (.aload_n 1, 1) := by decide +kernel
theorem dX3_mergeBestPair_110 : decode cX3_mergeBestPair 110 = .ok (.aload_n 0, 1) := by decide +kernel
theorem dX3_mergeBestPair_111 : decode cX3_mergeBestPair 111 = .ok (.getfield 11, 3) := by decide +kernel
theorem dX3_mergeBestPair_114 : decode cX3_mergeBestPair 114 = .ok (.iload 5, 2) := by decide +kernel
theorem dX3_mergeBestPair_116 : decode cX3_mergeBestPair 116 = .ok (.iaload, 1) := by decide +kernel
theorem dX3_mergeBestPair_117 : decode cX3_mergeBestPair 117 = .ok (.iaload, 1) := by decide +kernel
theorem dX3_mergeBestPair_118 : decode cX3_mergeBestPair 118 = .ok (.if_icmp .lt 14, 3) := by decide +kernel
theorem dX3_mergeBestPair_121 : decode cX3_mergeBestPair 121 = .ok (.aload_n 0, 1) := by decide +kernel
theorem dX3_mergeBestPair_122 : decode cX3_mergeBestPair 122 = .ok (.iload 4, 2) := by decide +kernel
theorem dX3_mergeBestPair_124 : decode cX3_mergeBestPair 124 = .ok (.iload 5, 2) := by decide +kernel
theorem dX3_mergeBestPair_126 : decode cX3_mergeBestPair 126 = .ok (.invokevirtual 98, 3) := by decide +kernel
theorem dX3_mergeBestPair_129 : decode cX3_mergeBestPair 129 = .ok (.goto 11, 3) := by decide +kernel
theorem dX3_mergeBestPair_132 : decode cX3_mergeBestPair 132 = .ok (.aload_n 0, 1) := by decide +kernel
theorem dX3_mergeBestPair_133 : decode cX3_mergeBestPair 133 = .ok (.iload 5, 2) := by decide +kernel
theorem dX3_mergeBestPair_135 : decode cX3_mergeBestPair 135 = .ok (.iload 4, 2) := by decide +kernel
theorem dX3_mergeBestPair_137 : decode cX3_mergeBestPair 137 = .ok (.invokevirtual 98, 3) := by decide +kernel
theorem dX3_mergeBestPair_140 : decode cX3_mergeBestPair 140 = .ok (.iconst 1, 1) := by decide +kernel
theorem dX3_mergeBestPair_141 : decode cX3_mergeBestPair 141 = .ok (.ireturn, 1) := by decide +kernel
theorem dX3_canMerge_0 : decode cX3_canMerge 0 = .ok (.aload_n 0, 1) := by decide +kernel
theorem dX3_canMerge_1 : decode cX3_canMerge 1 = .ok (.getfield 25, 3) := by decide +kernel
theorem dX3_canMerge_4 : decode cX3_canMerge 4 = .ok (.bipush 16, 2) := by decide +kernel
theorem dX3_canMerge_6 : decode cX3_canMerge 6 = .ok (.iload_n 1, 1) := by decide +kernel
theorem dX3_canMerge_7 : decode cX3_canMerge 7 = .ok (.imul, 1) := by decide +kernel
theorem dX3_canMerge_8 : decode cX3_canMerge 8 = .ok (.iload_n 2, 1) := by decide +kernel
theorem dX3_canMerge_9 : decode cX3_canMerge 9 = .ok (.iadd, 1) := by decide +kernel
theorem dX3_canMerge_10 : decode cX3_canMerge 10 = .ok (.iaload, 1) := by decide +kernel
theorem dX3_canMerge_11 : decode cX3_canMerge 11 = .ok (.istore 5, 2) := by decide +kernel
theorem dX3_canMerge_13 : decode cX3_canMerge 13 = .ok (.aload_n 3, 1) := by decide +kernel
theorem dX3_canMerge_14 : decode cX3_canMerge 14 = .ok (.aload_n 0, 1) := by decide +kernel
theorem dX3_canMerge_15 : decode cX3_canMerge 15 = .ok (.getfield 11, 3) := by decide +kernel
theorem dX3_canMerge_18 : decode cX3_canMerge 18 = .ok (.iload_n 1, 1) := by decide +kernel
theorem dX3_canMerge_19 : decode cX3_canMerge 19 = .ok (.iaload, 1) := by decide +kernel
theorem dX3_canMerge_20 : decode cX3_canMerge 20 = .ok (.iaload, 1) := by decide +kernel
theorem dX3_canMerge_21 : decode cX3_canMerge 21 = .ok (.aload_n 3, 1) := by decide +kernel
theorem dX3_canMerge_22 : decode cX3_canMerge 22 = .ok (.aload_n 0, 1) := by decide +kernel
theorem dX3_canMerge_23 : decode cX3_canMerge 23 = .ok (.getfield 11, 3) := by decide +kernel
theorem dX3_canMerge_26 : decode cX3_canMerge 26 = .ok (.iload_n 2, 1) := by decide +kernel
theorem dX3_canMerge_27 : decode cX3_canMerge 27 = .ok (.iaload, 1) := by decide +kernel
theorem dX3_canMerge_28 : decode cX3_canMerge 28 = .ok (.iaload, 1) := by decide +kernel
theorem dX3_canMerge_29 : decode cX3_canMerge 29 = .ok (.invokestatic 82, 3) := by decide +kernel
theorem dX3_canMerge_32 : decode cX3_canMerge 32 = .ok (.istore 6, 2) := by decide +kernel
theorem dX3_canMerge_34 : decode cX3_canMerge 34 = .ok (.aload_n 0, 1) := by decide +kernel
theorem dX3_canMerge_35 : decode cX3_canMerge 35 = .ok (.getfield 15, 3) := by decide +kernel
theorem dX3_canMerge_38 : decode cX3_canMerge 38 = .ok (.iload_n 1, 1) := by decide +kernel
theorem dX3_canMerge_39 : decode cX3_canMerge 39 = .ok (.baload, 1) := by decide +kernel
theorem dX3_canMerge_40 : decode cX3_canMerge 40 = .ok (.ifCond .eq 35, 3) := by decide +kernel
theorem dX3_canMerge_43 : decode cX3_canMerge 43 = .ok (.aload_n 0, 1) := by decide +kernel
theorem dX3_canMerge_44 : decode cX3_canMerge 44 = .ok (.getfield 15, 3) := by decide +kernel
theorem dX3_canMerge_47 : decode cX3_canMerge 47 = .ok (.iload_n 2, 1) := by decide +kernel
theorem dX3_canMerge_48 : decode cX3_canMerge 48 = .ok (.baload, 1) := by decide +kernel
theorem dX3_canMerge_49 : decode cX3_canMerge 49 = .ok (.ifCond .eq 26, 3) := by decide +kernel
theorem dX3_canMerge_52 : decode cX3_canMerge 52 = .ok (.iload 5, 2) := by decide +kernel
theorem dX3_canMerge_54 : decode cX3_canMerge 54 = .ok (.iconst (-1), 1) := by decide +kernel
theorem dX3_canMerge_55 : decode cX3_canMerge 55 = .ok (.if_icmp .eq 20, 3) := by decide +kernel
theorem dX3_canMerge_58 : decode cX3_canMerge 58 = .ok (.bipush 100, 2) := by decide +kernel
theorem dX3_canMerge_60 : decode cX3_canMerge 60 = .ok (.iload 5, 2) := by decide +kernel
theorem dX3_canMerge_62 : decode cX3_canMerge 62 = .ok (.imul, 1) := by decide +kernel
theorem dX3_canMerge_63 : decode cX3_canMerge 63 = .ok (.iload 4, 2) := by decide +kernel
theorem dX3_canMerge_65 : decode cX3_canMerge 65 = .ok (.iload 6, 2) := by decide +kernel
theorem dX3_canMerge_67 : decode cX3_canMerge 67 = .ok (.imul, 1) := by decide +kernel
theorem dX3_canMerge_68 : decode cX3_canMerge 68 = .ok (.if_icmp .lt 7, 3) := by decide +kernel
theorem dX3_canMerge_71 : decode cX3_canMerge 71 = .ok (.iconst 1, 1) := by decide +kernel
theorem dX3_canMerge_72 : decode cX3_canMerge 72 = .ok (.goto 4, 3) := by decide +kernel
theorem dX3_canMerge_75 : decode cX3_canMerge 75 = .ok (.iconst 0, 1) := by decide +kernel
theorem dX3_canMerge_76 : decode cX3_canMerge 76 = .ok (.ireturn, 1) := by decide +kernel
theorem dX3_merge_0 : decode cX3_merge 0 = .ok (.aload_n 0, 1) := by decide +kernel
theorem dX3_merge_1 : decode cX3_merge 1 = .ok (.getfield 15, 3) := by decide +kernel
theorem dX3_merge_4 : decode cX3_merge 4 = .ok (.iload_n 2, 1) := by decide +kernel
theorem dX3_merge_5 : decode cX3_merge 5 = .ok (.iconst 0, 1) := by decide +kernel
theorem dX3_merge_6 : decode cX3_merge 6 = .ok (.bastore, 1) := by decide +kernel
theorem dX3_merge_7 : decode cX3_merge 7 = .ok (.iconst 0, 1) := by decide +kernel
theorem dX3_merge_8 : decode cX3_merge 8 = .ok (.istore_n 3, 1) := by decide +kernel
theorem dX3_merge_9 : decode cX3_merge 9 = .ok (.iload_n 3, 1) := by decide +kernel
theorem dX3_merge_10 : decode cX3_merge 10 = .ok (.aload_n 0, 1) := by decide +kernel
theorem dX3_merge_11 : decode cX3_merge 11 = .ok (.getfield 56, 3) := by decide +kernel
theorem dX3_merge_14 : decode cX3_merge 14 = .ok (.if_icmp .ge 38, 3) := by decide +kernel
theorem dX3_merge_17 : decode cX3_merge 17 = .ok (.aload_n 0, 1) := by decide +kernel
theorem dX3_merge_18 : decode cX3_merge 18 = .ok (.getfield 25, 3) := by decide +kernel
theorem dX3_merge_21 : decode cX3_merge 21 = .ok (.bipush 16, 2) := by decide +kernel
theorem dX3_merge_23 : decode cX3_merge 23 = .ok (.iload_n 2, 1) := by decide +kernel
theorem dX3_merge_24 : decode cX3_merge 24 = .ok (.imul, 1) := by decide +kernel
theorem dX3_merge_25 : decode cX3_merge 25 = .ok (.iload_n 3, 1) := by decide +kernel
theorem dX3_merge_26 : decode cX3_merge 26 = .ok (.iadd, 1) := by decide +kernel
theorem dX3_merge_27 : decode cX3_merge 27 = .ok (.iaload, 1) := by decide +kernel
theorem dX3_merge_28 : decode cX3_merge 28 = .ok (.istore 4, 2) := by decide +kernel
theorem dX3_merge_30 : decode cX3_merge 30 = .ok (.aload_n 0, 1) := by decide +kernel
theorem dX3_merge_31 : decode cX3_merge 31 = .ok (.iload_n 1, 1) := by decide +kernel
theorem dX3_merge_32 : decode cX3_merge 32 = .ok (.iload_n 3, 1) := by decide +kernel
theorem dX3_merge_33 : decode cX3_merge 33 = .ok (.iload 4, 2) := by decide +kernel
theorem dX3_merge_35 : decode cX3_merge 35 = .ok (.invokevirtual 87, 3) := by decide +kernel
theorem dX3_merge_38 : decode cX3_merge 38 = .ok (.aload_n 0, 1) := by decide +kernel
theorem dX3_merge_39 : decode cX3_merge 39 = .ok (.iload_n 3, 1) := by decide +kernel
theorem dX3_merge_40 : decode cX3_merge 40 = .ok (.iload_n 1, 1) := by decide +kernel
theorem dX3_merge_41 : decode cX3_merge 41 = .ok (.iload 4, 2) := by decide +kernel
theorem dX3_merge_43 : decode cX3_merge 43 = .ok (.invokevirtual 87, 3) := by decide +kernel
theorem dX3_merge_46 : decode cX3_merge 46 = .ok (.iinc 3 1, 3) := by decide +kernel
theorem dX3_merge_49 : decode cX3_merge 49 = .ok (.goto (-40), 3) := by decide +kernel
theorem dX3_merge_52 : decode cX3_merge 52 = .ok (.iconst 0, 1) := by decide +kernel
theorem dX3_merge_53 : decode cX3_merge 53 = .ok (.istore_n 3, 1) := by decide +kernel
theorem dX3_merge_54 : decode cX3_merge 54 = .ok (.iload_n 3, 1) := by decide +kernel
theorem dX3_merge_55 : decode cX3_merge 55 = .ok (.aload_n 0, 1) := by decide +kernel
theorem dX3_merge_56 : decode cX3_merge 56 = .ok (.getfield 28, 3) := by decide +kernel
theorem dX3_merge_59 : decode cX3_merge 59 = .ok (.getfield 60, 3) := by decide +kernel
theorem dX3_merge_62 : decode cX3_merge 62 = .ok (.if_icmp .ge 26, 3) := by decide +kernel
theorem dX3_merge_65 : decode cX3_merge 65 = .ok (.aload_n 0, 1) := by decide +kernel
theorem dX3_merge_66 : decode cX3_merge 66 = .ok (.getfield 19, 3) := by decide +kernel
theorem dX3_merge_69 : decode cX3_merge 69 = .ok (.iload_n 3, 1) := by decide +kernel
theorem dX3_merge_70 : decode cX3_merge 70 = .ok (.iaload, 1) := by decide +kernel
theorem dX3_merge_71 : decode cX3_merge 71 = .ok (.iload_n 2, 1) := by decide +kernel
theorem dX3_merge_72 : decode cX3_merge 72 = .ok (.if_icmp .ne 10, 3) := by decide +kernel
theorem dX3_merge_75 : decode cX3_merge 75 = .ok (.aload_n 0, 1) := by decide +kernel
theorem dX3_merge_76 : decode cX3_merge 76 = .ok (.getfield 19, 3) := by decide +kernel
theorem dX3_merge_79 : decode cX3_merge 79 = .ok (.iload_n 3, 1) := by decide +kernel
theorem dX3_merge_80 : decode cX3_merge 80 = .ok (.iload_n 1, 1) := by decide +kernel
theorem dX3_merge_81 : decode cX3_merge 81 = .ok (.iastore, 1) := by decide +kernel
theorem dX3_merge_82 : decode cX3_merge 82 = .ok (.iinc 3 1, 3) := by decide +kernel
theorem dX3_merge_85 : decode cX3_merge 85 = .ok (.goto (-31), 3) := by decide +kernel
theorem dX3_merge_88 : decode cX3_merge 88 = .ok (.return_, 1) := by decide +kernel
theorem dX4_init_0 : decode cX4_init 0 = .ok (.aload_n 0, 1) := by decide +kernel
theorem dX4_init_1 : decode cX4_init 1 = .ok (.invokespecial 3, 3) := by decide +kernel
theorem dX4_init_4 : decode cX4_init 4 = .ok (.aload_n 0, 1) := by decide +kernel
theorem dX4_init_5 : decode cX4_init 5 = .ok (.bipush 12, 2) := by decide +kernel
theorem dX4_init_7 : decode cX4_init 7 = .ok (.newarray .int, 2) := by decide +kernel
theorem dX4_init_9 : decode cX4_init 9 = .ok (.putfield 9, 3) := by decide +kernel
theorem dX4_init_12 : decode cX4_init 12 = .ok (.aload_n 0, 1) := by decide +kernel
theorem dX4_init_13 : decode cX4_init 13 = .ok (.bipush 12, 2) := by decide +kernel
theorem dX4_init_15 : decode cX4_init 15 = .ok (.newarray .int, 2) := by decide +kernel
theorem dX4_init_17 : decode cX4_init 17 = .ok (.putfield 15, 3) := by decide +kernel
theorem dX4_init_20 : decode cX4_init 20 = .ok (.aload_n 0, 1) := by decide +kernel
theorem dX4_init_21 : decode cX4_init 21 = .ok (.bipush 12, 2) := by decide +kernel
theorem dX4_init_23 : decode cX4_init 23 = .ok (.newarray .int, 2) := by decide +kernel
theorem dX4_init_25 : decode cX4_init 25 = .ok (.putfield 18, 3) := by decide +kernel
theorem dX4_init_28 : decode cX4_init 28 = .ok (.aload_n 0, 1) := by decide +kernel
theorem dX4_init_29 : decode cX4_init 29 = .ok (.iconst 5, 1) := by decide +kernel
theorem dX4_init_30 : decode cX4_init 30 = .ok (.newarray .int, 2) := by decide +kernel
theorem dX4_init_32 : decode cX4_init 32 = .ok (.putfield 21, 3) := by decide +kernel
theorem dX4_init_35 : decode cX4_init 35 = .ok (.return_, 1) := by decide +kernel
theorem dX4_write_0 : decode cX4_write 0 = .ok (.aload_n 0, 1) := by decide +kernel
theorem dX4_write_1 : decode cX4_write 1 = .ok (.getfield 24, 3) := by decide +kernel
theorem dX4_write_4 : decode cX4_write 4 = .ok (.bipush 12, 2) := by decide +kernel
theorem dX4_write_6 : decode cX4_write 6 = .ok (.irem, 1) := by decide +kernel
theorem dX4_write_7 : decode cX4_write 7 = .ok (.istore 4, 2) := by decide +kernel
theorem dX4_write_9 : decode cX4_write 9 = .ok (.iload 4, 2) := by decide +kernel
theorem dX4_write_11 : decode cX4_write 11 = .ok (.ifCond .lt 56, 3) := by decide +kernel
theorem dX4_write_14 : decode cX4_write 14 = .ok (.iload_n 1, 1) := by decide +kernel
theorem dX4_write_15 : decode cX4_write 15 = .ok (.iconst 1, 1) := by decide +kernel
theorem dX4_write_16 : decode cX4_write 16 = .ok (.iconst 4, 1) := by decide +kernel
theorem dX4_write_17 : decode cX4_write 17 = .ok (.invokestatic 28, 3) := by decide +kernel
theorem dX4_write_20 : decode cX4_write 20 = .ok (.ifCond .eq 47, 3) := by decide +kernel
theorem dX4_write_23 : decode cX4_write 23 = .ok (.aload_n 0, 1) := by decide +kernel
theorem dX4_write_24 : decode cX4_write 24 = .ok (.getfield 9, 3) := by decide +kernel
theorem dX4_write_27 : decode cX4_write 27 = .ok (.iload 4, 2) := by decide +kernel
theorem dX4_write_29 : decode cX4_write 29 = .ok (.iload_n 1, 1) := by decide +kernel
theorem dX4_write_30 : decode cX4_write 30 = .ok (.iastore, 1) := by decide +kernel
theorem dX4_write_31 : decode cX4_write 31 = .ok (.aload_n 0, 1) := by decide +kernel
theorem dX4_write_32 : decode cX4_write 32 = .ok (.getfield 15, 3) := by decide +kernel
theorem dX4_write_35 : decode cX4_write 35 = .ok (.iload 4, 2) := by decide +kernel
theorem dX4_write_37 : decode cX4_write 37 = .ok (.iload_n 2, 1) := by decide +kernel
theorem dX4_write_38 : decode cX4_write 38 = .ok (.iastore, 1) := by decide +kernel
theorem dX4_write_39 : decode cX4_write 39 = .ok (.aload_n 0, 1) := by decide +kernel
theorem dX4_write_40 : decode cX4_write 40 = .ok (.getfield 18, 3) := by decide +kernel
theorem dX4_write_43 : decode cX4_write 43 = .ok (.iload 4, 2) := by decide +kernel
theorem dX4_write_45 : decode cX4_write 45 = .ok (.iload_n 3, 1) := by decide +kernel
theorem dX4_write_46 : decode cX4_write 46 = .ok (.iastore, 1) := by decide +kernel
theorem dX4_write_47 : decode cX4_write 47 = .ok (.aload_n 0, 1) := by decide +kernel
theorem dX4_write_48 : decode cX4_write 48 = .ok (.getfield 21, 3) := by decide +kernel
theorem dX4_write_51 : decode cX4_write 51 = .ok (.iload_n 1, 1) := by decide +kernel
theorem dX4_write_52 : decode cX4_write 52 = .ok (.dup2, 1) := by decide +kernel
theorem dX4_write_53 : decode cX4_write 53 = .ok (.iaload, 1) := by decide +kernel
theorem dX4_write_54 : decode cX4_write 54 = .ok (.iconst 1, 1) := by decide +kernel
theorem dX4_write_55 : decode cX4_write 55 = .ok (.iadd, 1) := by decide +kernel
theorem dX4_write_56 : decode cX4_write 56 = .ok (.iastore, 1) := by decide +kernel
theorem dX4_write_57 : decode cX4_write 57 = .ok (.aload_n 0, 1) := by decide +kernel
theorem dX4_write_58 : decode cX4_write 58 = .ok (.dup, 1) := by decide +kernel
theorem dX4_write_59 : decode cX4_write 59 = .ok (.getfield 24, 3) := by decide +kernel
theorem dX4_write_62 : decode cX4_write 62 = .ok (.iconst 1, 1) := by decide +kernel
theorem dX4_write_63 : decode cX4_write 63 = .ok (.iadd, 1) := by decide +kernel
theorem dX4_write_64 : decode cX4_write 64 = .ok (.putfield 24, 3) := by decide +kernel
theorem dX4_write_67 : decode cX4_write 67 = .ok (.return_, 1) := by decide +kernel
theorem dX4_kept_0 : decode cX4_kept 0 = .ok (.aload_n 0, 1) := by decide +kernel
theorem dX4_kept_1 : decode cX4_kept 1 = .ok (.getfield 24, 3) := by decide +kernel
theorem dX4_kept_4 : decode cX4_kept 4 = .ok (.bipush 12, 2) := by decide +kernel
theorem dX4_kept_6 : decode cX4_kept 6 = .ok (.invokestatic 32, 3) := by decide +kernel
theorem dX4_kept_9 : decode cX4_kept 9 = .ok (.ireturn, 1) := by decide +kernel
theorem dX4_fact_0 : decode cX4_fact 0 = .ok (.aload_n 0, 1) := by decide +kernel
theorem dX4_fact_1 : decode cX4_fact 1 = .ok (.getfield 24, 3) := by decide +kernel
theorem dX4_fact_4 : decode cX4_fact 4 = .ok (.iconst 1, 1) := by decide +kernel
theorem dX4_fact_5 : decode cX4_fact 5 = .ok (.isub, 1) := by decide +kernel
theorem dX4_fact_6 : decode cX4_fact 6 = .ok (.iload_n 1, 1) := by decide +kernel
theorem dX4_fact_7 : decode cX4_fact 7 = .ok (.isub, 1) := by decide +kernel
theorem dX4_fact_8 : decode cX4_fact 8 = .ok (.bipush 12, 2) := by decide +kernel
theorem dX4_fact_10 : decode cX4_fact 10 = .ok (.invokestatic 38, 3) := by decide +kernel
theorem dX4_fact_13 : decode cX4_fact 13 = .ok (.istore_n 3, 1) := by decide +kernel
theorem dX4_fact_14 : decode cX4_fact 14 = .ok (.iload_n 2, 1) := by decide +kernel
theorem dX4_fact_15 : decode cX4_fact 15 = .ok (.ifCond .ne 12, 3) := by decide +kernel
theorem dX4_fact_18 : decode cX4_fact 18 = .ok (.aload_n 0, 1) := by decide +kernel
theorem dX4_fact_19 : decode cX4_fact 19 = .ok (.getfield 9, 3) := by decide +kernel
theorem dX4_fact_22 : decode cX4_fact 22 = .ok (.iload_n 3, 1) := by decide +kernel
theorem dX4_fact_23 : decode cX4_fact 23 = .ok (.iaload, 1) := by decide +kernel
theorem dX4_fact_24 : decode cX4_fact 24 = .ok (.goto 23, 3) := by decide +kernel
theorem dX4_fact_27 : decode cX4_fact 27 = .ok (.iload_n 2, 1) := by decide +kernel
theorem dX4_fact_28 : decode cX4_fact 28 = .ok (.iconst 1, 1) := by decide +kernel
theorem dX4_fact_29 : decode cX4_fact 29 = .ok (.if_icmp .ne 12, 3) := by decide +kernel
theorem dX4_fact_32 : decode cX4_fact 32 = .ok (.aload_n 0, 1) := by decide +kernel
theorem dX4_fact_33 : decode cX4_fact 33 = .ok (.getfield 15, 3) := by decide +kernel
theorem dX4_fact_36 : decode cX4_fact 36 = .ok (.iload_n 3, 1) := by decide +kernel
theorem dX4_fact_37 : decode cX4_fact 37 = .ok (.iaload, 1) := by decide +kernel
theorem dX4_fact_38 : decode cX4_fact 38 = .ok (.goto 9, 3) := by decide +kernel
theorem dX4_fact_41 : decode cX4_fact 41 = .ok (.aload_n 0, 1) := by decide +kernel
theorem dX4_fact_42 : decode cX4_fact 42 = .ok (.getfield 18, 3) := by decide +kernel
theorem dX4_fact_45 : decode cX4_fact 45 = .ok (.iload_n 3, 1) := by decide +kernel
theorem dX4_fact_46 : decode cX4_fact 46 = .ok (.iaload, 1) := by decide +kernel
theorem dX4_fact_47 : decode cX4_fact 47 = .ok (.ireturn, 1) := by decide +kernel
theorem dX5_init_0 : decode cX5_init 0 = .ok (.aload_n 0, 1) := by decide +kernel
theorem dX5_init_1 : decode cX5_init 1 = .ok (.invokespecial 3, 3) := by decide +kernel
theorem dX5_init_4 : decode cX5_init 4 = .ok (.aload_n 0, 1) := by decide +kernel
theorem dX5_init_5 : decode cX5_init 5 = .ok (.bipush 40, 2) := by decide +kernel
theorem dX5_init_7 : decode cX5_init 7 = .ok (.newarray .int, 2) := by decide +kernel
theorem dX5_init_9 : decode cX5_init 9 = .ok (.putfield 9, 3) := by decide +kernel
theorem dX5_init_12 : decode cX5_init 12 = .ok (.aload_n 0, 1) := by decide +kernel
theorem dX5_init_13 : decode cX5_init 13 = .ok (.new 15, 3) := by decide +kernel
theorem dX5_init_16 : decode cX5_init 16 = .ok (.dup, 1) := by decide +kernel
theorem dX5_init_17 : decode cX5_init 17 = .ok (.invokespecial 17, 3) := by decide +kernel
theorem dX5_init_20 : decode cX5_init 20 = .ok (.putfield 18, 3) := by decide +kernel
theorem dX5_init_23 : decode cX5_init 23 = .ok (.return_, 1) := by decide +kernel
theorem dX5_append_0 : decode cX5_append 0 = .ok (.aload_n 0, 1) := by decide +kernel
theorem dX5_append_1 : decode cX5_append 1 = .ok (.getfield 22, 3) := by decide +kernel
theorem dX5_append_4 : decode cX5_append 4 = .ok (.bipush 40, 2) := by decide +kernel
theorem dX5_append_6 : decode cX5_append 6 = .ok (.if_icmp .ge 23, 3) := by decide +kernel
theorem dX5_append_9 : decode cX5_append 9 = .ok (.aload_n 0, 1) := by decide +kernel
theorem dX5_append_10 : decode cX5_append 10 = .ok (.getfield 9, 3) := by decide +kernel
theorem dX5_append_13 : decode cX5_append 13 = .ok (.aload_n 0, 1) := by decide +kernel
theorem dX5_append_14 : decode cX5_append 14 = .ok (.getfield 22, 3) := by decide +kernel
theorem dX5_append_17 : decode cX5_append 17 = .ok (.iload_n 1, 1) := by decide +kernel
theorem dX5_append_18 : decode cX5_append 18 = .ok (.iastore, 1) := by decide +kernel
theorem dX5_append_19 : decode cX5_append 19 = .ok (.aload_n 0, 1) := by decide +kernel
theorem dX5_append_20 : decode cX5_append 20 = .ok (.dup, 1) := by decide +kernel
theorem dX5_append_21 : decode cX5_append 21 = .ok (.getfield 22, 3) := by decide +kernel
theorem dX5_append_24 : decode cX5_append 24 = .ok (.iconst 1, 1) := by decide +kernel
theorem dX5_append_25 : decode cX5_append 25 = .ok (.iadd, 1) := by decide +kernel
theorem dX5_append_26 : decode cX5_append 26 = .ok (.putfield 22, 3) := by decide +kernel
theorem dX5_append_29 : decode cX5_append 29 = .ok (.return_, 1) := by decide +kernel
theorem dX5_read_0 : decode cX5_read 0 = .ok (.aload_n 0, 1) := by decide +kernel
theorem dX5_read_1 : decode cX5_read 1 = .ok (.iconst 2, 1) := by decide +kernel
theorem dX5_read_2 : decode cX5_read 2 = .ok (.aload_n 1, 1) := by decide +kernel
theorem dX5_read_3 : decode cX5_read 3 = .ok (.getfield 26, 3) := by decide +kernel
theorem dX5_read_6 : decode cX5_read 6 = .ok (.imul, 1) := by decide +kernel
theorem dX5_read_7 : decode cX5_read 7 = .ok (.iconst 2, 1) := by decide +kernel
theorem dX5_read_8 : decode cX5_read 8 = .ok (.isub, 1) := by decide +kernel
theorem dX5_read_9 : decode cX5_read 9 = .ok (.putfield 31, 3) := by decide +kernel
theorem dX5_read_12 : decode cX5_read 12 = .ok (.aload_n 0, 1) := by decide +kernel
theorem dX5_read_13 : decode cX5_read 13 = .ok (.iconst 2, 1) := by decide +kernel
theorem dX5_read_14 : decode cX5_read 14 = .ok (.aload_n 1, 1) := by decide +kernel
theorem dX5_read_15 : decode cX5_read 15 = .ok (.getfield 34, 3) := by decide +kernel
theorem dX5_read_18 : decode cX5_read 18 = .ok (.imul, 1) := by decide +kernel
theorem dX5_read_19 : decode cX5_read 19 = .ok (.iconst 2, 1) := by decide +kernel
theorem dX5_read_20 : decode cX5_read 20 = .ok (.isub, 1) := by decide +kernel
theorem dX5_read_21 : decode cX5_read 21 = .ok (.putfield 37, 3) := by decide +kernel
theorem dX5_read_24 : decode cX5_read 24 = .ok (.aload_n 0, 1) := by decide +kernel
theorem dX5_read_25 : decode cX5_read 25 = .ok (.getfield 18, 3) := by decide +kernel
theorem dX5_read_28 : decode cX5_read 28 = .ok (.aload_n 2, 1) := by decide +kernel
theorem dX5_read_29 : decode cX5_read 29 = .ok (.invokevirtual 40, 3) := by decide +kernel
theorem dX5_read_32 : decode cX5_read 32 = .ok (.aload_n 0, 1) := by decide +kernel
theorem dX5_read_33 : decode cX5_read 33 = .ok (.iconst 0, 1) := by decide +kernel
theorem dX5_read_34 : decode cX5_read 34 = .ok (.putfield 44, 3) := by decide +kernel
theorem dX5_read_37 : decode cX5_read 37 = .ok (.iconst 0, 1) := by decide +kernel
theorem dX5_read_38 : decode cX5_read 38 = .ok (.istore_n 3, 1) := by decide +kernel
theorem dX5_read_39 : decode cX5_read 39 = .ok (.iload_n 3, 1) := by decide +kernel
theorem dX5_read_40 : decode cX5_read 40 = .ok (.bipush 40, 2) := by decide +kernel
theorem dX5_read_42 : decode cX5_read 42 = .ok (.if_icmp .ge 42, 3) := by decide +kernel
theorem dX5_read_45 : decode cX5_read 45 = .ok (.aload_n 0, 1) := by decide +kernel
theorem dX5_read_46 : decode cX5_read 46 = .ok (.invokevirtual 47, 3) := by decide +kernel
theorem dX5_read_49 : decode cX5_read 49 = .ok (.ifCond .ne 5, 3) := by decide +kernel
theorem dX5_read_52 : decode cX5_read 52 = .ok (.iconst 0, 1) := by decide +kernel
theorem dX5_read_53 : decode cX5_read 53 = .ok (.ireturn, 1) := by decide +kernel
theorem dX5_read_54 : decode cX5_read 54 = .ok (.aload_n 0, 1) := by decide +kernel
theorem dX5_read_55 : decode cX5_read 55 = .ok (.getfield 44, 3) := by decide +kernel
theorem dX5_read_58 : decode cX5_read 58 = .ok (.aload_n 0, 1) := by decide +kernel
theorem dX5_read_59 : decode cX5_read 59 = .ok (.getfield 22, 3) := by decide +kernel
theorem dX5_read_62 : decode cX5_read 62 = .ok (.if_icmp .lt 5, 3) := by decide +kernel
theorem dX5_read_65 : decode cX5_read 65 = .ok (.iconst 1, 1) := by decide +kernel
theorem dX5_read_66 : decode cX5_read 66 = .ok (.ireturn, 1) := by decide +kernel
theorem dX5_read_67 : decode cX5_read 67 = .ok (.aload_n 0, 1) := by decide +kernel
theorem dX5_read_68 : decode cX5_read 68 = .ok (.bipush 59, 2) := by decide +kernel
theorem dX5_read_70 : decode cX5_read 70 = .ok (.invokevirtual 51, 3) := by decide +kernel
theorem dX5_read_73 : decode cX5_read 73 = .ok (.ifCond .ne 5, 3) := by decide +kernel
theorem dX5_read_76 : decode cX5_read 76 = .ok (.iconst 0, 1) := by decide +kernel
theorem dX5_read_77 : decode cX5_read 77 = .ok (.ireturn, 1) := by decide +kernel
theorem dX5_read_78 : decode cX5_read 78 = .ok (.iinc 3 1, 3) := by decide +kernel
theorem dX5_read_81 : decode cX5_read 81 = .ok (.goto (-42), 3) := by decide +kernel
theorem dX5_read_84 : decode cX5_read 84 = .ok (.iconst 0, 1) := by decide +kernel
theorem dX5_read_85 : decode cX5_read 85 = .ok (.ireturn, 1) := by decide +kernel
theorem dX5_readPart_0 : decode cX5_readPart 0 = .ok (.aload_n 0, 1) := by decide +kernel
theorem dX5_readPart_1 : decode cX5_readPart 1 = .ok (.invokevirtual 55, 3) := by decide +kernel
theorem dX5_readPart_4 : decode cX5_readPart 4 = .ok (.istore_n 1, 1) := by decide +kernel
theorem dX5_readPart_5 : decode cX5_readPart 5 = .ok (.iload_n 1, 1) := by decide +kernel
theorem dX5_readPart_6 : decode cX5_readPart 6 = .ok (.iconst 0, 1) := by decide +kernel
theorem dX5_readPart_7 : decode cX5_readPart 7 = .ok (.iconst 4, 1) := by decide +kernel
theorem dX5_readPart_8 : decode cX5_readPart 8 = .ok (.invokestatic 59, 3) := by decide +kernel
theorem dX5_readPart_11 : decode cX5_readPart 11 = .ok (.ifCond .ne 5, 3) := by decide +kernel
theorem dX5_readPart_14 : decode cX5_readPart 14 = .ok (.iconst 0, 1) := by decide +kernel
theorem dX5_readPart_15 : decode cX5_readPart 15 = .ok (.ireturn, 1) := by decide +kernel
theorem dX5_readPart_16 : decode cX5_readPart 16 = .ok (.aload_n 0, 1) := by decide +kernel
theorem dX5_readPart_17 : decode cX5_readPart 17 = .ok (.dup, 1) := by decide +kernel
theorem dX5_readPart_18 : decode cX5_readPart 18 = .ok (.getfield 44, 3) := by decide +kernel
theorem dX5_readPart_21 : decode cX5_readPart 21 = .ok (.iconst 1, 1) := by decide +kernel
theorem dX5_readPart_22 : decode cX5_readPart 22 = .ok (.iadd, 1) := by decide +kernel
theorem dX5_readPart_23 : decode cX5_readPart 23 = .ok (.putfield 44, 3) := by decide +kernel
theorem dX5_readPart_26 : decode cX5_readPart 26 = .ok (.aload_n 0, 1) := by decide +kernel
theorem dX5_readPart_27 : decode cX5_readPart 27 = .ok (.bipush 45, 2) := by decide +kernel
theorem dX5_readPart_29 : decode cX5_readPart 29 = .ok (.invokevirtual 51, 3) := by decide +kernel
theorem dX5_readPart_32 : decode cX5_readPart 32 = .ok (.ifCond .eq 15, 3) := by decide +kernel
theorem dX5_readPart_35 : decode cX5_readPart 35 = .ok (.aload_n 0, 1) := by decide +kernel
theorem dX5_readPart_36 : decode cX5_readPart 36 = .ok (.getfield 18, 3) := by decide +kernel
theorem dX5_readPart_39 : decode cX5_readPart 39 = .ok (.getfield 63, 3) := by decide +kernel
theorem dX5_readPart_42 : decode cX5_readPart 42 = .ok (.iload_n 1, 1) := by decide +kernel
theorem dX5_readPart_43 : decode cX5_readPart 43 = .ok (.iconst 0, 1) := by decide +kernel
theorem dX5_readPart_44 : decode cX5_readPart 44 = .ok (.bastore, 1) := by decide +kernel
theorem dX5_readPart_45 : decode cX5_readPart 45 = .ok (.iconst 1, 1) := by decide +kernel
theorem dX5_readPart_46 : decode cX5_readPart 46 = .ok (.ireturn, 1) := by decide +kernel
theorem dX5_readPart_47 : decode cX5_readPart 47 = .ok (.aload_n 0, 1) := by decide +kernel
theorem dX5_readPart_48 : decode cX5_readPart 48 = .ok (.bipush 64, 2) := by decide +kernel
theorem dX5_readPart_50 : decode cX5_readPart 50 = .ok (.invokevirtual 51, 3) := by decide +kernel
theorem dX5_readPart_53 : decode cX5_readPart 53 = .ok (.ifCond .eq 15, 3) := by decide +kernel
theorem dX5_readPart_56 : decode cX5_readPart 56 = .ok (.aload_n 0, 1) := by decide +kernel
theorem dX5_readPart_57 : decode cX5_readPart 57 = .ok (.iload_n 1, 1) := by decide +kernel
theorem dX5_readPart_58 : decode cX5_readPart 58 = .ok (.invokevirtual 67, 3) := by decide +kernel
theorem dX5_readPart_61 : decode cX5_readPart 61 = .ok (.ifCond .eq 7, 3) := by decide +kernel
theorem dX5_readPart_64 : decode cX5_readPart 64 = .ok (.iconst 1, 1) := by decide +kernel
theorem dX5_readPart_65 : decode cX5_readPart 65 = .ok (.goto 4, 3) := by decide +kernel
theorem dX5_readPart_68 : decode cX5_readPart 68 = .ok (.iconst 0, 1) := by decide +kernel
theorem dX5_readPart_69 : decode cX5_readPart 69 = .ok (.ireturn, 1) := by decide +kernel
theorem dX5_readPlace_0 : decode cX5_readPlace 0 = .ok (.aload_n 0, 1) := by decide +kernel
theorem dX5_readPlace_1 : decode cX5_readPlace 1 = .ok (.iconst 0, 1) := by decide +kernel
theorem dX5_readPlace_2 : decode cX5_readPlace 2 = .ok (.aload_n 0, 1) := by decide +kernel
theorem dX5_readPlace_3 : decode cX5_readPlace 3 = .ok (.getfield 31, 3) := by decide +kernel
theorem dX5_readPlace_6 : decode cX5_readPlace 6 = .ok (.invokevirtual 71, 3) := by decide +kernel
theorem dX5_readPlace_9 : decode cX5_readPlace 9 = .ok (.istore_n 2, 1) := by decide +kernel
theorem dX5_readPlace_10 : decode cX5_readPlace 10 = .ok (.iload_n 2, 1) := by decide +kernel
theorem dX5_readPlace_11 : decode cX5_readPlace 11 = .ok (.iconst (-1), 1) := by decide +kernel
theorem dX5_readPlace_12 : decode cX5_readPlace 12 = .ok (.if_icmp .eq 12, 3) := by decide +kernel
theorem dX5_readPlace_15 : decode cX5_readPlace 15 = .ok (.aload_n 0, 1) := by decide +kernel
theorem dX5_readPlace_16 : decode cX5_readPlace 16 = .ok (.bipush 44, 2) := by decide +kernel
theorem dX5_readPlace_18 : decode cX5_readPlace 18 = .ok (.invokevirtual 51, 3) := by decide +kernel
theorem dX5_readPlace_21 : decode cX5_readPlace 21 = .ok (.ifCond .ne 5, 3) := by decide +kernel
theorem dX5_readPlace_24 : decode cX5_readPlace 24 = .ok (.iconst 0, 1) := by decide +kernel
theorem dX5_readPlace_25 : decode cX5_readPlace 25 = .ok (.ireturn, 1) := by decide +kernel
theorem dX5_readPlace_26 : decode cX5_readPlace 26 = .ok (.aload_n 0, 1) := by decide +kernel
theorem dX5_readPlace_27 : decode cX5_readPlace 27 = .ok (.iconst 0, 1) := by decide +kernel
theorem dX5_readPlace_28 : decode cX5_readPlace 28 = .ok (.aload_n 0, 1) := by decide +kernel
theorem dX5_readPlace_29 : decode cX5_readPlace 29 = .ok (.getfield 37, 3) := by decide +kernel
theorem dX5_readPlace_32 : decode cX5_readPlace 32 = .ok (.invokevirtual 71, 3) := by decide +kernel
theorem dX5_readPlace_35 : decode cX5_readPlace 35 = .ok (.istore_n 3, 1) := by decide +kernel
theorem dX5_readPlace_36 : decode cX5_readPlace 36 = .ok (.iload_n 3, 1) := by decide +kernel
theorem dX5_readPlace_37 : decode cX5_readPlace 37 = .ok (.iconst (-1), 1) := by decide +kernel
theorem dX5_readPlace_38 : decode cX5_readPlace 38 = .ok (.if_icmp .eq 12, 3) := by decide +kernel
theorem dX5_readPlace_41 : decode cX5_readPlace 41 = .ok (.aload_n 0, 1) := by decide +kernel
theorem dX5_readPlace_42 : decode cX5_readPlace 42 = .ok (.bipush 42, 2) := by decide +kernel
theorem dX5_readPlace_44 : decode cX5_readPlace 44 = .ok (.invokevirtual 51, 3) := by decide +kernel
theorem dX5_readPlace_47 : decode cX5_readPlace 47 = .ok (.ifCond .ne 5, 3) := by decide +kernel
theorem dX5_readPlace_50 : decode cX5_readPlace 50 = .ok (.iconst 0, 1) := by decide +kernel
theorem dX5_readPlace_51 : decode cX5_readPlace 51 = .ok (.ireturn, 1) := by decide +kernel
theorem dX5_readPlace_52 : decode cX5_readPlace 52 = .ok (.aload_n 0, 1) := by decide +kernel
theorem dX5_readPlace_53 : decode cX5_readPlace 53 = .ok (.bipush 10, 2) := by decide +kernel
theorem dX5_readPlace_55 : decode cX5_readPlace 55 = .ok (.sipush 250, 3) := by decide +kernel
theorem dX5_readPlace_58 : decode cX5_readPlace 58 = .ok (.invokevirtual 71, 3) := by decide +kernel
theorem dX5_readPlace_61 : decode cX5_readPlace 61 = .ok (.istore 4, 2) := by decide +kernel
theorem dX5_readPlace_63 : decode cX5_readPlace 63 = .ok (.iload 4, 2) := by decide +kernel
theorem dX5_readPlace_65 : decode cX5_readPlace 65 = .ok (.iconst (-1), 1) := by decide +kernel
theorem dX5_readPlace_66 : decode cX5_readPlace 66 = .ok (.if_icmp .ne 5, 3) := by decide +kernel
theorem dX5_readPlace_69 : decode cX5_readPlace 69 = .ok (.iconst 0, 1) := by decide +kernel
theorem dX5_readPlace_70 : decode cX5_readPlace 70 = .ok (.ireturn, 1) := by decide +kernel
theorem dX5_readPlace_71 : decode cX5_readPlace 71 = .ok (.aload_n 0, 1) := by decide +kernel
theorem dX5_readPlace_72 : decode cX5_readPlace 72 = .ok (.getfield 18, 3) := by decide +kernel
theorem dX5_readPlace_75 : decode cX5_readPlace 75 = .ok (.iload_n 1, 1) := by decide +kernel
theorem dX5_readPlace_76 : decode cX5_readPlace 76 = .ok (.iload_n 2, 1) := by decide +kernel
theorem dX5_readPlace_77 : decode cX5_readPlace 77 = .ok (.iload_n 3, 1) := by decide +kernel
theorem dX5_readPlace_78 : decode cX5_readPlace 78 = .ok (.iload 4, 2) := by decide +kernel
theorem dX5_readPlace_80 : decode cX5_readPlace 80 = .ok (.invokevirtual 75, 3) := by decide +kernel
theorem dX5_readPlace_83 : decode cX5_readPlace 83 = .ok (.iconst 1, 1) := by decide +kernel
theorem dX5_readPlace_84 : decode cX5_readPlace 84 = .ok (.ireturn, 1) := by decide +kernel
theorem dX5_readNumber_0 : decode cX5_readNumber 0 = .ok (.iconst (-1), 1) := by decide +kernel
theorem dX5_readNumber_1 : decode cX5_readNumber 1 = .ok (.istore_n 3, 1) := by decide +kernel
theorem dX5_readNumber_2 : decode cX5_readNumber 2 = .ok (.iconst 0, 1) := by decide +kernel
theorem dX5_readNumber_3 : decode cX5_readNumber 3 = .ok (.istore 4, 2) := by decide +kernel
theorem dX5_readNumber_5 : decode cX5_readNumber 5 = .ok (.iload 4, 2) := by decide +kernel
theorem dX5_readNumber_7 : decode cX5_readNumber 7 = .ok (.bipush 40, 2) := by decide +kernel
theorem dX5_readNumber_9 : decode cX5_readNumber 9 = .ok (.if_icmp .ge 68, 3) := by decide +kernel
theorem dX5_readNumber_12 : decode cX5_readNumber 12 = .ok (.aload_n 0, 1) := by decide +kernel
theorem dX5_readNumber_13 : decode cX5_readNumber 13 = .ok (.invokevirtual 55, 3) := by decide +kernel
theorem dX5_readNumber_16 : decode cX5_readNumber 16 = .ok (.istore 5, 2) := by decide +kernel
theorem dX5_readNumber_18 : decode cX5_readNumber 18 = .ok (.iload 5, 2) := by decide +kernel
theorem dX5_readNumber_20 : decode cX5_readNumber 20 = .ok (.iconst (-1), 1) := by decide +kernel
theorem dX5_readNumber_21 : decode cX5_readNumber 21 = .ok (.if_icmp .ne 6, 3) := by decide +kernel
theorem dX5_readNumber_24 : decode cX5_readNumber 24 = .ok (.goto 53, 3) := by decide +kernel
theorem dX5_readNumber_27 : decode cX5_readNumber 27 = .ok (.iload_n 3, 1) := by decide +kernel
theorem dX5_readNumber_28 : decode cX5_readNumber 28 = .ok (.iconst (-1), 1) := by decide +kernel
theorem dX5_readNumber_29 : decode cX5_readNumber 29 = .ok (.if_icmp .ne 8, 3) := by decide +kernel
theorem dX5_readNumber_32 : decode cX5_readNumber 32 = .ok (.iload 5, 2) := by decide +kernel
theorem dX5_readNumber_34 : decode cX5_readNumber 34 = .ok (.goto 10, 3) := by decide +kernel
theorem dX5_readNumber_37 : decode cX5_readNumber 37 = .ok (.bipush 10, 2) := by decide +kernel
theorem dX5_readNumber_39 : decode cX5_readNumber 39 = .ok (.iload_n 3, 1) := by decide +kernel
theorem dX5_readNumber_40 : decode cX5_readNumber 40 = .ok (.imul, 1) := by decide +kernel
theorem dX5_readNumber_41 : decode cX5_readNumber 41 = .ok (.iload 5, 2) := by decide +kernel
theorem dX5_readNumber_43 : decode cX5_readNumber 43 = .ok (.iadd, 1) := by decide +kernel
theorem dX5_readNumber_44 : decode cX5_readNumber 44 = .ok (.istore 6, 2) := by decide +kernel
theorem dX5_readNumber_46 : decode cX5_readNumber 46 = .ok (.iload_n 3, 1) := by decide +kernel
theorem dX5_readNumber_47 : decode cX5_readNumber 47 = .ok (.ifCond .eq 9, 3) := by decide +kernel
theorem dX5_readNumber_50 : decode cX5_readNumber 50 = .ok (.iload 6, 2) := by decide +kernel
theorem dX5_readNumber_52 : decode cX5_readNumber 52 = .ok (.iload_n 2, 1) := by decide +kernel
theorem dX5_readNumber_53 : decode cX5_readNumber 53 = .ok (.if_icmp .le 5, 3) := by decide +kernel
theorem dX5_readNumber_56 : decode cX5_readNumber 56 = .ok (.iconst (-1), 1) := by decide +kernel
theorem dX5_readNumber_57 : decode cX5_readNumber 57 = .ok (.ireturn, 1) := by decide +kernel
theorem dX5_readNumber_58 : decode cX5_readNumber 58 = .ok (.iload 6, 2) := by decide +kernel
theorem dX5_readNumber_60 : decode cX5_readNumber 60 = .ok (.istore_n 3, 1) := by decide +kernel
theorem dX5_readNumber_61 : decode cX5_readNumber 61 = .ok (.aload_n 0, 1) := by decide +kernel
theorem dX5_readNumber_62 : decode cX5_readNumber 62 = .ok (.dup, 1) := by decide +kernel
theorem dX5_readNumber_63 : decode cX5_readNumber 63 = .ok (.getfield 44, 3) := by decide +kernel
theorem dX5_readNumber_66 : decode cX5_readNumber 66 = .ok (.iconst 1, 1) := by decide +kernel
theorem dX5_readNumber_67 : decode cX5_readNumber 67 = .ok (.iadd, 1) := by decide +kernel
theorem dX5_readNumber_68 : decode cX5_readNumber 68 = .ok (.putfield 44, 3) := by decide +kernel
theorem dX5_readNumber_71 : decode cX5_readNumber 71 = .ok (.iinc 4 1, 3) := by decide +kernel
theorem dX5_readNumber_74 : decode cX5_readNumber 74 = .ok (.goto (-69), 3) := by decide +kernel
theorem dX5_readNumber_77 : decode cX5_readNumber 77 = .ok (.iload_n 3, 1) := by decide +kernel
theorem dX5_readNumber_78 : decode cX5_readNumber 78 = .ok (.iload_n 1, 1) := by decide +kernel
theorem dX5_readNumber_79 : decode cX5_readNumber 79 = .ok (.if_icmp .ge 7, 3) := by decide +kernel
theorem dX5_readNumber_82 : decode cX5_readNumber 82 = .ok (.iconst (-1), 1) := by decide +kernel
theorem dX5_readNumber_83 : decode cX5_readNumber 83 = .ok (.goto 4, 3) := by decide +kernel
theorem dX5_readNumber_86 : decode cX5_readNumber 86 = .ok (.iload_n 3, 1) := by decide +kernel
theorem dX5_readNumber_87 : decode cX5_readNumber 87 = .ok (.ireturn, 1) := by decide +kernel
theorem dX5_digitHere_0 : decode cX5_digitHere 0 = .ok (.aload_n 0, 1) := by decide +kernel
theorem dX5_digitHere_1 : decode cX5_digitHere 1 = .ok (.invokevirtual 79, 3) := by decide +kernel
theorem dX5_digitHere_4 : decode cX5_digitHere 4 = .ok (.istore_n 1, 1) := by decide +kernel
theorem dX5_digitHere_5 : decode cX5_digitHere 5 = .ok (.iload_n 1, 1) := by decide +kernel
theorem dX5_digitHere_6 : decode cX5_digitHere 6 = .ok (.bipush 48, 2) := by decide +kernel
theorem dX5_digitHere_8 : decode cX5_digitHere 8 = .ok (.bipush 57, 2) := by decide +kernel
theorem dX5_digitHere_10 : decode cX5_digitHere 10 = .ok (.invokestatic 59, 3) := by decide +kernel
theorem dX5_digitHere_13 : decode cX5_digitHere 13 = .ok (.ifCond .eq 10, 3) := by decide +kernel
theorem dX5_digitHere_16 : decode cX5_digitHere 16 = .ok (.iload_n 1, 1) := by decide +kernel
theorem dX5_digitHere_17 : decode cX5_digitHere 17 = .ok (.bipush 48, 2) := by decide +kernel
theorem dX5_digitHere_19 : decode cX5_digitHere 19 = .ok (.isub, 1) := by decide +kernel
theorem dX5_digitHere_20 : decode cX5_digitHere 20 = .ok (.goto 4, 3) := by decide +kernel
theorem dX5_digitHere_23 : decode cX5_digitHere 23 = .ok (.iconst (-1), 1) := by decide +kernel
theorem dX5_digitHere_24 : decode cX5_digitHere 24 = .ok (.ireturn, 1) := by decide +kernel
theorem dX5_take_0 : decode cX5_take 0 = .ok (.aload_n 0, 1) := by decide +kernel
theorem dX5_take_1 : decode cX5_take 1 = .ok (.invokevirtual 79, 3) := by decide +kernel
theorem dX5_take_4 : decode cX5_take 4 = .ok (.iload_n 1, 1) := by decide +kernel
theorem dX5_take_5 : decode cX5_take 5 = .ok (.if_icmp .eq 5, 3) := by decide +kernel
theorem dX5_take_8 : decode cX5_take 8 = .ok (.iconst 0, 1) := by decide +kernel
theorem dX5_take_9 : decode cX5_take 9 = .ok (.ireturn, 1) := by decide +kernel
theorem dX5_take_10 : decode cX5_take 10 = .ok (.aload_n 0, 1) := by decide +kernel
theorem dX5_take_11 : decode cX5_take 11 = .ok (.dup, 1) := by decide +kernel
theorem dX5_take_12 : decode cX5_take 12 = .ok (.getfield 44, 3) := by decide +kernel
theorem dX5_take_15 : decode cX5_take 15 = .ok (.iconst 1, 1) := by decide +kernel
theorem dX5_take_16 : decode cX5_take 16 = .ok (.iadd, 1) := by decide +kernel
theorem dX5_take_17 : decode cX5_take 17 = .ok (.putfield 44, 3) := by decide +kernel
theorem dX5_take_20 : decode cX5_take 20 = .ok (.iconst 1, 1) := by decide +kernel
theorem dX5_take_21 : decode cX5_take 21 = .ok (.ireturn, 1) := by decide +kernel
theorem dX5_codeHere_0 : decode cX5_codeHere 0 = .ok (.aload_n 0, 1) := by decide +kernel
theorem dX5_codeHere_1 : decode cX5_codeHere 1 = .ok (.getfield 44, 3) := by decide +kernel
theorem dX5_codeHere_4 : decode cX5_codeHere 4 = .ok (.aload_n 0, 1) := by decide +kernel
theorem dX5_codeHere_5 : decode cX5_codeHere 5 = .ok (.getfield 22, 3) := by decide +kernel
theorem dX5_codeHere_8 : decode cX5_codeHere 8 = .ok (.if_icmp .ge 15, 3) := by decide +kernel
theorem dX5_codeHere_11 : decode cX5_codeHere 11 = .ok (.aload_n 0, 1) := by decide +kernel
theorem dX5_codeHere_12 : decode cX5_codeHere 12 = .ok (.getfield 9, 3) := by decide +kernel
theorem dX5_codeHere_15 : decode cX5_codeHere 15 = .ok (.aload_n 0, 1) := by decide +kernel
theorem dX5_codeHere_16 : decode cX5_codeHere 16 = .ok (.getfield 44, 3) := by decide +kernel
theorem dX5_codeHere_19 : decode cX5_codeHere 19 = .ok (.iaload, 1) := by decide +kernel
theorem dX5_codeHere_20 : decode cX5_codeHere 20 = .ok (.goto 4, 3) := by decide +kernel
theorem dX5_codeHere_23 : decode cX5_codeHere 23 = .ok (.iconst (-1), 1) := by decide +kernel
theorem dX5_codeHere_24 : decode cX5_codeHere 24 = .ok (.ireturn, 1) := by decide +kernel
theorem dX6_init_0 : decode cX6_init 0 = .ok (.aload_n 0, 1) := by decide +kernel
theorem dX6_init_1 : decode cX6_init 1 = .ok (.invokespecial 3, 3) := by decide +kernel
theorem dX6_init_4 : decode cX6_init 4 = .ok (.aload_n 0, 1) := by decide +kernel
theorem dX6_init_5 : decode cX6_init 5 = .ok (.bipush 6, 2) := by decide +kernel
theorem dX6_init_7 : decode cX6_init 7 = .ok (.newarray .int, 2) := by decide +kernel
theorem dX6_init_9 : decode cX6_init 9 = .ok (.putfield 9, 3) := by decide +kernel
theorem dX6_init_12 : decode cX6_init 12 = .ok (.aload_n 0, 1) := by decide +kernel
theorem dX6_init_13 : decode cX6_init 13 = .ok (.bipush 36, 2) := by decide +kernel
theorem dX6_init_15 : decode cX6_init 15 = .ok (.newarray .int, 2) := by decide +kernel
theorem dX6_init_17 : decode cX6_init 17 = .ok (.putfield 15, 3) := by decide +kernel
theorem dX6_init_20 : decode cX6_init 20 = .ok (.aload_n 0, 1) := by decide +kernel
theorem dX6_init_21 : decode cX6_init 21 = .ok (.sipush 448, 3) := by decide +kernel
theorem dX6_init_24 : decode cX6_init 24 = .ok (.newarray .int, 2) := by decide +kernel
theorem dX6_init_26 : decode cX6_init 26 = .ok (.putfield 18, 3) := by decide +kernel
theorem dX6_init_29 : decode cX6_init 29 = .ok (.return_, 1) := by decide +kernel
theorem dX6_solve_0 : decode cX6_solve 0 = .ok (.aload_n 0, 1) := by decide +kernel
theorem dX6_solve_1 : decode cX6_solve 1 = .ok (.aload_n 2, 1) := by decide +kernel
theorem dX6_solve_2 : decode cX6_solve 2 = .ok (.getfield 21, 3) := by decide +kernel
theorem dX6_solve_5 : decode cX6_solve 5 = .ok (.putfield 27, 3) := by decide +kernel
theorem dX6_solve_8 : decode cX6_solve 8 = .ok (.aload_n 0, 1) := by decide +kernel
theorem dX6_solve_9 : decode cX6_solve 9 = .ok (.aload_n 1, 1) := by decide +kernel
theorem dX6_solve_10 : decode cX6_solve 10 = .ok (.aload_n 2, 1) := by decide +kernel
theorem dX6_solve_11 : decode cX6_solve 11 = .ok (.iload_n 3, 1) := by decide +kernel
theorem dX6_solve_12 : decode cX6_solve 12 = .ok (.invokevirtual 30, 3) := by decide +kernel
theorem dX6_solve_15 : decode cX6_solve 15 = .ok (.iconst 1, 1) := by decide +kernel
theorem dX6_solve_16 : decode cX6_solve 16 = .ok (.aload_n 0, 1) := by decide +kernel
theorem dX6_solve_17 : decode cX6_solve 17 = .ok (.getfield 27, 3) := by decide +kernel
theorem dX6_solve_20 : decode cX6_solve 20 = .ok (.ishl, 1) := by decide +kernel
theorem dX6_solve_21 : decode cX6_solve 21 = .ok (.istore 4, 2) := by decide +kernel
theorem dX6_solve_23 : decode cX6_solve 23 = .ok (.iconst 0, 1) := by decide +kernel
theorem dX6_solve_24 : decode cX6_solve 24 = .ok (.istore 5, 2) := by decide +kernel
theorem dX6_solve_26 : decode cX6_solve 26 = .ok (.iload 5, 2) := by decide +kernel
theorem dX6_solve_28 : decode cX6_solve 28 = .ok (.iload 4, 2) := by decide +kernel
theorem dX6_solve_30 : decode cX6_solve 30 = .ok (.if_icmp .ge 25, 3) := by decide +kernel
theorem dX6_solve_33 : decode cX6_solve 33 = .ok (.aload_n 0, 1) := by decide +kernel
theorem dX6_solve_34 : decode cX6_solve 34 = .ok (.getfield 18, 3) := by decide +kernel
theorem dX6_solve_37 : decode cX6_solve 37 = .ok (.bipush 64, 2) := by decide +kernel
theorem dX6_solve_39 : decode cX6_solve 39 = .ok (.aload_n 1, 1) := by decide +kernel
theorem dX6_solve_40 : decode cX6_solve 40 = .ok (.getfield 34, 3) := by decide +kernel
theorem dX6_solve_43 : decode cX6_solve 43 = .ok (.imul, 1) := by decide +kernel
theorem dX6_solve_44 : decode cX6_solve 44 = .ok (.iload 5, 2) := by decide +kernel
theorem dX6_solve_46 : decode cX6_solve 46 = .ok (.iadd, 1) := by decide +kernel
theorem dX6_solve_47 : decode cX6_solve 47 = .ok (.iconst 0, 1) := by decide +kernel
theorem dX6_solve_48 : decode cX6_solve 48 = .ok (.iastore, 1) := by decide +kernel
theorem dX6_solve_49 : decode cX6_solve 49 = .ok (.iinc 5 1, 3) := by decide +kernel
theorem dX6_solve_52 : decode cX6_solve 52 = .ok (.goto (-26), 3) := by decide +kernel
theorem dX6_solve_55 : decode cX6_solve 55 = .ok (.aload_n 1, 1) := by decide +kernel
theorem dX6_solve_56 : decode cX6_solve 56 = .ok (.getfield 34, 3) := by decide +kernel
theorem dX6_solve_59 : decode cX6_solve 59 = .ok (.iconst 1, 1) := by decide +kernel
theorem dX6_solve_60 : decode cX6_solve 60 = .ok (.isub, 1) := by decide +kernel
theorem dX6_solve_61 : decode cX6_solve 61 = .ok (.istore 5, 2) := by decide +kernel
theorem dX6_solve_63 : decode cX6_solve 63 = .ok (.iload 5, 2) := by decide +kernel
theorem dX6_solve_65 : decode cX6_solve 65 = .ok (.ifCond .lt 54, 3) := by decide +kernel
theorem dX6_solve_68 : decode cX6_solve 68 = .ok (.iconst 0, 1) := by decide +kernel
theorem dX6_solve_69 : decode cX6_solve 69 = .ok (.istore 6, 2) := by decide +kernel
theorem dX6_solve_71 : decode cX6_solve 71 = .ok (.iload 6, 2) := by decide +kernel
theorem dX6_solve_73 : decode cX6_solve 73 = .ok (.iload 4, 2) := by decide +kernel
theorem dX6_solve_75 : decode cX6_solve 75 = .ok (.if_icmp .ge 38, 3) := by decide +kernel
theorem dX6_solve_78 : decode cX6_solve 78 = .ok (.aload_n 0, 1) := by decide +kernel
theorem dX6_solve_79 : decode cX6_solve 79 = .ok (.getfield 18, 3) := by decide +kernel
theorem dX6_solve_82 : decode cX6_solve 82 = .ok (.bipush 64, 2) := by decide +kernel
theorem dX6_solve_84 : decode cX6_solve 84 = .ok (.iload 5, 2) := by decide +kernel
theorem dX6_solve_86 : decode cX6_solve 86 = .ok (.imul, 1) := by decide +kernel
theorem dX6_solve_87 : decode cX6_solve 87 = .ok (.iload 6, 2) := by decide +kernel
theorem dX6_solve_89 : decode cX6_solve 89 = .ok (.iadd, 1) := by decide +kernel
theorem dX6_solve_90 : decode cX6_solve 90 = .ok (.aload_n 0, 1) := by decide +kernel
theorem dX6_solve_91 : decode cX6_solve 91 = .ok (.iload 5, 2) := by decide +kernel
theorem dX6_solve_93 : decode cX6_solve 93 = .ok (.iload 6, 2) := by decide +kernel
theorem dX6_solve_95 : decode cX6_solve 95 = .ok (.aload_n 0, 1) := by decide +kernel
theorem dX6_solve_96 : decode cX6_solve 96 = .ok (.iload 5, 2) := by decide +kernel
theorem dX6_solve_98 : decode cX6_solve 98 = .ok (.iload 6, 2) := by decide +kernel
theorem dX6_solve_100 : decode cX6_solve 100 = .ok (.invokevirtual 37, 3) := by decide +kernel
theorem dX6_solve_103 : decode cX6_solve 103 = .ok (.invokevirtual 41, 3) := by decide +kernel
theorem dX6_solve_106 : decode cX6_solve 106 = .ok (.iastore, 1) := by decide +kernel
theorem dX6_solve_107 : decode cX6_solve 107 = .ok (.iinc 6 1, 3) := by decide +kernel
theorem dX6_solve_110 : decode cX6_solve 110 = .ok (.goto (-39), 3) := by decide +kernel
theorem dX6_solve_113 : decode cX6_solve 113 = .ok (.iinc 5 (-1), 3) := by decide +kernel
theorem dX6_solve_116 : decode cX6_solve 116 = .ok (.goto (-53), 3) := by decide +kernel
theorem dX6_solve_119 : decode cX6_solve 119 = .ok (.iconst 0, 1) := by decide +kernel
theorem dX6_solve_120 : decode cX6_solve 120 = .ok (.istore 5, 2) := by decide +kernel
theorem dX6_solve_122 : decode cX6_solve 122 = .ok (.iconst 0, 1) := by decide +kernel
theorem dX6_solve_123 : decode cX6_solve 123 = .ok (.istore 6, 2) := by decide +kernel
theorem dX6_solve_125 : decode cX6_solve 125 = .ok (.iload 6, 2) := by decide +kernel
theorem dX6_solve_127 : decode cX6_solve 127 = .ok (.aload_n 1, 1) := by decide +kernel
theorem dX6_solve_128 : decode cX6_solve 128 = .ok (.getfield 34, 3) := by decide +kernel
theorem dX6_solve_131 : decode cX6_solve 131 = .ok (.if_icmp .ge 37, 3) := by decide +kernel
theorem dX6_solve_134 : decode cX6_solve 134 = .ok (.aload_n 0, 1) := by decide +kernel
theorem dX6_solve_135 : decode cX6_solve 135 = .ok (.iload 6, 2) := by decide +kernel
theorem dX6_solve_137 : decode cX6_solve 137 = .ok (.iload 5, 2) := by decide +kernel
theorem dX6_solve_139 : decode cX6_solve 139 = .ok (.invokevirtual 37, 3) := by decide +kernel
theorem dX6_solve_142 : decode cX6_solve 142 = .ok (.istore 7, 2) := by decide +kernel
theorem dX6_solve_144 : decode cX6_solve 144 = .ok (.aload_n 0, 1) := by decide +kernel
theorem dX6_solve_145 : decode cX6_solve 145 = .ok (.getfield 9, 3) := by decide +kernel
theorem dX6_solve_148 : decode cX6_solve 148 = .ok (.iload 6, 2) := by decide +kernel
theorem dX6_solve_150 : decode cX6_solve 150 = .ok (.iload 7, 2) := by decide +kernel
theorem dX6_solve_152 : decode cX6_solve 152 = .ok (.iastore, 1) := by decide +kernel
theorem dX6_solve_153 : decode cX6_solve 153 = .ok (.iload 5, 2) := by decide +kernel
theorem dX6_solve_155 : decode cX6_solve 155 = .ok (.iload 7, 2) := by decide +kernel
theorem dX6_solve_157 : decode cX6_solve 157 = .ok (.invokestatic 45, 3) := by decide +kernel
theorem dX6_solve_160 : decode cX6_solve 160 = .ok (.istore 5, 2) := by decide +kernel
theorem dX6_solve_162 : decode cX6_solve 162 = .ok (.iinc 6 1, 3) := by decide +kernel
theorem dX6_solve_165 : decode cX6_solve 165 = .ok (.goto (-40), 3) := by decide +kernel
theorem dX6_solve_168 : decode cX6_solve 168 = .ok (.return_, 1) := by decide +kernel
theorem dX6_weighPairs_0 : decode cX6_weighPairs 0 = .ok (.iconst 0, 1) := by decide +kernel
theorem dX6_weighPairs_1 : decode cX6_weighPairs 1 = .ok (.istore 4, 2) := by decide +kernel
theorem dX6_weighPairs_3 : decode cX6_weighPairs 3 = .ok (.iload 4, 2) := by decide +kernel
theorem dX6_weighPairs_5 : decode cX6_weighPairs 5 = .ok (.aload_n 1, 1) := by decide +kernel
theorem dX6_weighPairs_6 : decode cX6_weighPairs 6 = .ok (.getfield 34, 3) := by decide +kernel
theorem dX6_weighPairs_9 : decode cX6_weighPairs 9 = .ok (.if_icmp .ge 130, 3) := by decide +kernel
theorem dX6_weighPairs_12 : decode cX6_weighPairs 12 = .ok (.iconst 0, 1) := by decide +kernel
theorem dX6_weighPairs_13 : decode cX6_weighPairs 13 = .ok (.istore 5, 2) := by decide +kernel
theorem dX6_weighPairs_15 : decode cX6_weighPairs 15 = .ok (.iload 5, 2) := by decide +kernel
theorem dX6_weighPairs_17 : decode cX6_weighPairs 17 = .ok (.aload_n 0, 1) := by decide +kernel
theorem dX6_weighPairs_18 : decode cX6_weighPairs 18 = .ok (.getfield 27, 3) := by decide +kernel
theorem dX6_weighPairs_21 : decode cX6_weighPairs 21 = .ok (.if_icmp .ge 112, 3) := by decide +kernel
theorem dX6_weighPairs_24 : decode cX6_weighPairs 24 = .ok (.aload_n 1, 1) := by decide +kernel
theorem dX6_weighPairs_25 : decode cX6_weighPairs 25 = .ok (.getfield 48, 3) := by decide +kernel
theorem dX6_weighPairs_28 : decode cX6_weighPairs 28 = .ok (.iload 4, 2) := by decide +kernel
theorem dX6_weighPairs_30 : decode cX6_weighPairs 30 = .ok (.aaload, 1) := by decide +kernel
theorem dX6_weighPairs_31 : decode cX6_weighPairs 31 = .ok (.iconst 1, 1) := by decide +kernel
theorem dX6_weighPairs_32 : decode cX6_weighPairs 32 = .ok (.iaload, 1) := by decide +kernel
theorem dX6_weighPairs_33 : decode cX6_weighPairs 33 = .ok (.aload_n 2, 1) := by decide +kernel
theorem dX6_weighPairs_34 : decode cX6_weighPairs 34 = .ok (.getfield 52, 3) := by decide +kernel
theorem dX6_weighPairs_37 : decode cX6_weighPairs 37 = .ok (.iload 5, 2) := by decide +kernel
theorem dX6_weighPairs_39 : decode cX6_weighPairs 39 = .ok (.aaload, 1) := by decide +kernel
theorem dX6_weighPairs_40 : decode cX6_weighPairs 40 = .ok (.iconst 3, 1) := by decide +kernel
theorem dX6_weighPairs_41 : decode cX6_weighPairs 41 = .ok (.iaload, 1) := by decide +kernel
theorem dX6_weighPairs_42 : decode cX6_weighPairs 42 = .ok (.isub, 1) := by decide +kernel
theorem dX6_weighPairs_43 : decode cX6_weighPairs 43 = .ok (.invokestatic 53, 3) := by decide +kernel
theorem dX6_weighPairs_46 : decode cX6_weighPairs 46 = .ok (.istore 6, 2) := by decide +kernel
theorem dX6_weighPairs_48 : decode cX6_weighPairs 48 = .ok (.aload_n 1, 1) := by decide +kernel
theorem dX6_weighPairs_49 : decode cX6_weighPairs 49 = .ok (.getfield 48, 3) := by decide +kernel
theorem dX6_weighPairs_52 : decode cX6_weighPairs 52 = .ok (.iload 4, 2) := by decide +kernel
theorem dX6_weighPairs_54 : decode cX6_weighPairs 54 = .ok (.aaload, 1) := by decide +kernel
theorem dX6_weighPairs_55 : decode cX6_weighPairs 55 = .ok (.iconst 2, 1) := by decide +kernel
theorem dX6_weighPairs_56 : decode cX6_weighPairs 56 = .ok (.iaload, 1) := by decide +kernel
theorem dX6_weighPairs_57 : decode cX6_weighPairs 57 = .ok (.aload_n 2, 1) := by decide +kernel
theorem dX6_weighPairs_58 : decode cX6_weighPairs 58 = .ok (.getfield 52, 3) := by decide +kernel
theorem dX6_weighPairs_61 : decode cX6_weighPairs 61 = .ok (.iload 5, 2) := by decide +kernel
theorem dX6_weighPairs_63 : decode cX6_weighPairs 63 = .ok (.aaload, 1) := by decide +kernel
theorem dX6_weighPairs_64 : decode cX6_weighPairs 64 = .ok (.iconst 4, 1) := by decide +kernel
theorem dX6_weighPairs_65 : decode cX6_weighPairs 65 = .ok (.iaload, 1) := by decide +kernel
theorem dX6_weighPairs_66 : decode cX6_weighPairs 66 = .ok (.isub, 1) := by decide +kernel
theorem dX6_weighPairs_67 : decode cX6_weighPairs 67 = .ok (.invokestatic 53, 3) := by decide +kernel
theorem dX6_weighPairs_70 : decode cX6_weighPairs 70 = .ok (.istore 7, 2) := by decide +kernel
theorem dX6_weighPairs_72 : decode cX6_weighPairs 72 = .ok (.iload 6, 2) := by decide +kernel
theorem dX6_weighPairs_74 : decode cX6_weighPairs 74 = .ok (.iload_n 3, 1) := by decide +kernel
theorem dX6_weighPairs_75 : decode cX6_weighPairs 75 = .ok (.if_icmp .gt 13, 3) := by decide +kernel
theorem dX6_weighPairs_78 : decode cX6_weighPairs 78 = .ok (.iload 7, 2) := by decide +kernel
theorem dX6_weighPairs_80 : decode cX6_weighPairs 80 = .ok (.iload_n 3, 1) := by decide +kernel
theorem dX6_weighPairs_81 : decode cX6_weighPairs 81 = .ok (.if_icmp .gt 7, 3) := by decide +kernel
theorem dX6_weighPairs_84 : decode cX6_weighPairs 84 = .ok (.iconst 1, 1) := by decide +kernel
theorem dX6_weighPairs_85 : decode cX6_weighPairs 85 = .ok (.goto 4, 3) := by decide +kernel
theorem dX6_weighPairs_88 : decode cX6_weighPairs 88 = .ok (.iconst 0, 1) := by decide +kernel
theorem dX6_weighPairs_89 : decode cX6_weighPairs 89 = .ok (.istore 8, 2) := by decide +kernel
theorem dX6_weighPairs_91 : decode cX6_weighPairs 91 = .ok (.aload_n 0, 1) := by decide +kernel
theorem dX6_weighPairs_92 : decode cX6_weighPairs 92 = .ok (.getfield 15, 3) := by decide +kernel
theorem dX6_weighPairs_95 : decode cX6_weighPairs 95 = .ok (.bipush 6, 2) := by decide +kernel
theorem dX6_weighPairs_97 : decode cX6_weighPairs 97 = .ok (.iload 4, 2) := by decide +kernel
theorem dX6_weighPairs_99 : decode cX6_weighPairs 99 = .ok (.imul, 1) := by decide +kernel
theorem dX6_weighPairs_100 : decode cX6_weighPairs 100 = .ok (.iload 5, 2) := by decide +kernel
theorem dX6_weighPairs_102 : decode cX6_weighPairs 102 = .ok (.iadd, 1) := by decide +kernel
theorem dX6_weighPairs_103 : decode cX6_weighPairs 103 = .ok (.iload 8, 2) := by decide +kernel
theorem dX6_weighPairs_105 : decode cX6_weighPairs 105 = .ok (.ifCond .eq 20, 3) := by decide +kernel
theorem dX6_weighPairs_108 : decode cX6_weighPairs 108 = .ok (.ldc 59, 2) := by decide +kernel
theorem dX6_weighPairs_110 : decode cX6_weighPairs 110 = .ok (.iload 6, 2) := by decide +kernel
theorem dX6_weighPairs_112 : decode cX6_weighPairs 112 = .ok (.iload 6, 2) := by decide +kernel
theorem dX6_weighPairs_114 : decode cX6_weighPairs 114 = .ok (.imul, 1) := by decide +kernel
theorem dX6_weighPairs_115 : decode cX6_weighPairs 115 = .ok (.isub, 1) := by decide +kernel
theorem dX6_weighPairs_116 : decode cX6_weighPairs 116 = .ok (.iload 7, 2) := by decide +kernel
theorem dX6_weighPairs_118 : decode cX6_weighPairs 118 = .ok (.iload 7, 2) := by decide +kernel
theorem dX6_weighPairs_120 : decode cX6_weighPairs 120 = .ok (.imul, 1) := by decide +kernel
theorem dX6_weighPairs_121 : decode cX6_weighPairs 121 = .ok (.isub, 1) := by decide +kernel
theorem dX6_weighPairs_122 : decode cX6_weighPairs 122 = .ok (.goto 4, 3) := by decide +kernel
theorem dX6_weighPairs_125 : decode cX6_weighPairs 125 = .ok (.iconst (-1), 1) := by decide +kernel
theorem dX6_weighPairs_126 : decode cX6_weighPairs 126 = .ok (.iastore, 1) := by decide +kernel
theorem dX6_weighPairs_127 : decode cX6_weighPairs 127 = .ok (.iinc 5 1, 3) := by decide +kernel
theorem dX6_weighPairs_130 : decode cX6_weighPairs 130 = .ok (.goto (-115), 3) := by decide +kernel
theorem dX6_weighPairs_133 : decode cX6_weighPairs 133 = .ok (.iinc 4 1, 3) := by decide +kernel
theorem dX6_weighPairs_136 : decode cX6_weighPairs 136 = .ok (.goto (-133), 3) := by decide +kernel
theorem dX6_weighPairs_139 : decode cX6_weighPairs 139 = .ok (.return_, 1) := by decide +kernel
theorem dX6_bestSpot_0 : decode cX6_bestSpot 0 = .ok (.iconst (-1), 1) := by decide +kernel
theorem dX6_bestSpot_1 : decode cX6_bestSpot 1 = .ok (.istore_n 3, 1) := by decide +kernel
theorem dX6_bestSpot_2 : decode cX6_bestSpot 2 = .ok (.iconst (-1), 1) := by decide +kernel
theorem dX6_bestSpot_3 : decode cX6_bestSpot 3 = .ok (.istore 4, 2) := by decide +kernel
theorem dX6_bestSpot_5 : decode cX6_bestSpot 5 = .ok (.iconst 0, 1) := by decide +kernel
theorem dX6_bestSpot_6 : decode cX6_bestSpot 6 = .ok (.istore 5, 2) := by decide +kernel
theorem dX6_bestSpot_8 : decode cX6_bestSpot 8 = .ok (.iload 5, 2) := by decide +kernel
theorem dX6_bestSpot_10 : decode cX6_bestSpot 10 = .ok (.aload_n 0, 1) := by decide +kernel
theorem dX6_bestSpot_11 : decode cX6_bestSpot 11 = .ok (.getfield 27, 3) := by decide +kernel
theorem dX6_bestSpot_14 : decode cX6_bestSpot 14 = .ok (.if_icmp .ge 70, 3) := by decide +kernel
theorem dX6_bestSpot_17 : decode cX6_bestSpot 17 = .ok (.iload_n 2, 1) := by decide +kernel
theorem dX6_bestSpot_18 : decode cX6_bestSpot 18 = .ok (.iload 5, 2) := by decide +kernel
theorem dX6_bestSpot_20 : decode cX6_bestSpot 20 = .ok (.ishr, 1) := by decide +kernel
theorem dX6_bestSpot_21 : decode cX6_bestSpot 21 = .ok (.iconst 1, 1) := by decide +kernel
theorem dX6_bestSpot_22 : decode cX6_bestSpot 22 = .ok (.iand, 1) := by decide +kernel
theorem dX6_bestSpot_23 : decode cX6_bestSpot 23 = .ok (.ifCond .ne 7, 3) := by decide +kernel
theorem dX6_bestSpot_26 : decode cX6_bestSpot 26 = .ok (.iconst 1, 1) := by decide +kernel
theorem dX6_bestSpot_27 : decode cX6_bestSpot 27 = .ok (.goto 4, 3) := by decide +kernel
theorem dX6_bestSpot_30 : decode cX6_bestSpot 30 = .ok (.iconst 0, 1) := by decide +kernel
theorem dX6_bestSpot_31 : decode cX6_bestSpot 31 = .ok (.istore 6, 2) := by decide +kernel
theorem dX6_bestSpot_33 : decode cX6_bestSpot 33 = .ok (.iload 6, 2) := by decide +kernel
theorem dX6_bestSpot_35 : decode cX6_bestSpot 35 = .ok (.ifCond .eq 43, 3) := by decide +kernel
theorem dX6_bestSpot_38 : decode cX6_bestSpot 38 = .ok (.aload_n 0, 1) := by decide +kernel
theorem dX6_bestSpot_39 : decode cX6_bestSpot 39 = .ok (.getfield 15, 3) := by decide +kernel
theorem dX6_bestSpot_42 : decode cX6_bestSpot 42 = .ok (.bipush 6, 2) := by decide +kernel
theorem dX6_bestSpot_44 : decode cX6_bestSpot 44 = .ok (.iload_n 1, 1) := by decide +kernel
theorem dX6_bestSpot_45 : decode cX6_bestSpot 45 = .ok (.imul, 1) := by decide +kernel
theorem dX6_bestSpot_46 : decode cX6_bestSpot 46 = .ok (.iload 5, 2) := by decide +kernel
theorem dX6_bestSpot_48 : decode cX6_bestSpot 48 = .ok (.iadd, 1) := by decide +kernel
theorem dX6_bestSpot_49 : decode cX6_bestSpot 49 = .ok (.iaload, 1) := by decide +kernel
theorem dX6_bestSpot_50 : decode cX6_bestSpot 50 = .ok (.iconst (-1), 1) := by decide +kernel
theorem dX6_bestSpot_51 : decode cX6_bestSpot 51 = .ok (.if_icmp .eq 27, 3) := by decide +kernel
theorem dX6_bestSpot_54 : decode cX6_bestSpot 54 = .ok (.aload_n 0, 1) := by decide +kernel
theorem dX6_bestSpot_55 : decode cX6_bestSpot 55 = .ok (.iload_n 1, 1) := by decide +kernel
theorem dX6_bestSpot_56 : decode cX6_bestSpot 56 = .ok (.iload_n 2, 1) := by decide +kernel
theorem dX6_bestSpot_57 : decode cX6_bestSpot 57 = .ok (.iload 5, 2) := by decide +kernel
theorem dX6_bestSpot_59 : decode cX6_bestSpot 59 = .ok (.invokevirtual 41, 3) := by decide +kernel
theorem dX6_bestSpot_62 : decode cX6_bestSpot 62 = .ok (.istore 7, 2) := by decide +kernel
theorem dX6_bestSpot_64 : decode cX6_bestSpot 64 = .ok (.iload 7, 2) := by decide +kernel
theorem dX6_bestSpot_66 : decode cX6_bestSpot 66 = .ok (.iload 4, 2) := by decide +kernel
theorem dX6_bestSpot_68 : decode cX6_bestSpot 68 = .ok (.if_icmp .le 10, 3) := by decide +kernel
theorem dX6_bestSpot_71 : decode cX6_bestSpot 71 = .ok (.iload 7, 2) := by decide +kernel
theorem dX6_bestSpot_73 : decode cX6_bestSpot 73 = .ok (.istore 4, 2) := by decide +kernel
theorem dX6_bestSpot_75 : decode cX6_bestSpot 75 = .ok (.iload 5, 2) := by decide +kernel
theorem dX6_bestSpot_77 : decode cX6_bestSpot 77 = .ok (.istore_n 3, 1) := by decide +kernel
theorem dX6_bestSpot_78 : decode cX6_bestSpot 78 = .ok (.iinc 5 1, 3) := by decide +kernel
theorem dX6_bestSpot_81 : decode cX6_bestSpot 81 = .ok (.goto (-73), 3) := by decide +kernel
theorem dX6_bestSpot_84 : decode cX6_bestSpot 84 = .ok (.aload_n 0, 1) := by decide +kernel
theorem dX6_bestSpot_85 : decode cX6_bestSpot 85 = .ok (.iload_n 1, 1) := by decide +kernel
theorem dX6_bestSpot_86 : decode cX6_bestSpot 86 = .ok (.iload_n 2, 1) := by decide +kernel
theorem dX6_bestSpot_87 : decode cX6_bestSpot 87 = .ok (.iconst (-1), 1) := by decide +kernel
theorem dX6_bestSpot_88 : decode cX6_bestSpot 88 = .ok (.invokevirtual 41, 3) := by decide +kernel
theorem dX6_bestSpot_91 : decode cX6_bestSpot 91 = .ok (.iload 4, 2) := by decide +kernel
theorem dX6_bestSpot_93 : decode cX6_bestSpot 93 = .ok (.if_icmp .le 7, 3) := by decide +kernel
theorem dX6_bestSpot_96 : decode cX6_bestSpot 96 = .ok (.iconst (-1), 1) := by decide +kernel
theorem dX6_bestSpot_97 : decode cX6_bestSpot 97 = .ok (.goto 4, 3) := by decide +kernel
theorem dX6_bestSpot_100 : decode cX6_bestSpot 100 = .ok (.iload_n 3, 1) := by decide +kernel
theorem dX6_bestSpot_101 : decode cX6_bestSpot 101 = .ok (.ireturn, 1) := by decide +kernel
theorem dX6_worthOf_0 : decode cX6_worthOf 0 = .ok (.aload_n 0, 1) := by decide +kernel
theorem dX6_worthOf_1 : decode cX6_worthOf 1 = .ok (.getfield 18, 3) := by decide +kernel
theorem dX6_worthOf_4 : decode cX6_worthOf 4 = .ok (.bipush 64, 2) := by decide +kernel
theorem dX6_worthOf_6 : decode cX6_worthOf 6 = .ok (.iload_n 1, 1) := by decide +kernel
theorem dX6_worthOf_7 : decode cX6_worthOf 7 = .ok (.iconst 1, 1) := by decide +kernel
theorem dX6_worthOf_8 : decode cX6_worthOf 8 = .ok (.iadd, 1) := by decide +kernel
theorem dX6_worthOf_9 : decode cX6_worthOf 9 = .ok (.imul, 1) := by decide +kernel
theorem dX6_worthOf_10 : decode cX6_worthOf 10 = .ok (.iload_n 2, 1) := by decide +kernel
theorem dX6_worthOf_11 : decode cX6_worthOf 11 = .ok (.iload_n 3, 1) := by decide +kernel
theorem dX6_worthOf_12 : decode cX6_worthOf 12 = .ok (.invokestatic 45, 3) := by decide +kernel
theorem dX6_worthOf_15 : decode cX6_worthOf 15 = .ok (.iadd, 1) := by decide +kernel
theorem dX6_worthOf_16 : decode cX6_worthOf 16 = .ok (.iaload, 1) := by decide +kernel
theorem dX6_worthOf_17 : decode cX6_worthOf 17 = .ok (.istore 4, 2) := by decide +kernel
theorem dX6_worthOf_19 : decode cX6_worthOf 19 = .ok (.iload_n 3, 1) := by decide +kernel
theorem dX6_worthOf_20 : decode cX6_worthOf 20 = .ok (.iconst (-1), 1) := by decide +kernel
theorem dX6_worthOf_21 : decode cX6_worthOf 21 = .ok (.if_icmp .ne 8, 3) := by decide +kernel
theorem dX6_worthOf_24 : decode cX6_worthOf 24 = .ok (.iload 4, 2) := by decide +kernel
theorem dX6_worthOf_26 : decode cX6_worthOf 26 = .ok (.goto 17, 3) := by decide +kernel
theorem dX6_worthOf_29 : decode cX6_worthOf 29 = .ok (.aload_n 0, 1) := by decide +kernel
theorem dX6_worthOf_30 : decode cX6_worthOf 30 = .ok (.getfield 15, 3) := by decide +kernel
theorem dX6_worthOf_33 : decode cX6_worthOf 33 = .ok (.bipush 6, 2) := by decide +kernel
theorem dX6_worthOf_35 : decode cX6_worthOf 35 = .ok (.iload_n 1, 1) := by decide +kernel
theorem dX6_worthOf_36 : decode cX6_worthOf 36 = .ok (.imul, 1) := by decide +kernel
theorem dX6_worthOf_37 : decode cX6_worthOf 37 = .ok (.iload_n 3, 1) := by decide +kernel
theorem dX6_worthOf_38 : decode cX6_worthOf 38 = .ok (.iadd, 1) := by decide +kernel
theorem dX6_worthOf_39 : decode cX6_worthOf 39 = .ok (.iaload, 1) := by decide +kernel
theorem dX6_worthOf_40 : decode cX6_worthOf 40 = .ok (.iload 4, 2) := by decide +kernel
theorem dX6_worthOf_42 : decode cX6_worthOf 42 = .ok (.iadd, 1) := by decide +kernel
theorem dX6_worthOf_43 : decode cX6_worthOf 43 = .ok (.ireturn, 1) := by decide +kernel
theorem dX6_withSpot_0 : decode cX6_withSpot 0 = .ok (.iload_n 1, 1) := by decide +kernel
theorem dX6_withSpot_1 : decode cX6_withSpot 1 = .ok (.iconst (-1), 1) := by decide +kernel
theorem dX6_withSpot_2 : decode cX6_withSpot 2 = .ok (.if_icmp .ne 7, 3) := by decide +kernel
theorem dX6_withSpot_5 : decode cX6_withSpot 5 = .ok (.iload_n 0, 1) := by decide +kernel
theorem dX6_withSpot_6 : decode cX6_withSpot 6 = .ok (.goto 8, 3) := by decide +kernel
theorem dX6_withSpot_9 : decode cX6_withSpot 9 = .ok (.iload_n 0, 1) := by decide +kernel
theorem dX6_withSpot_10 : decode cX6_withSpot 10 = .ok (.iconst 1, 1) := by decide +kernel
theorem dX6_withSpot_11 : decode cX6_withSpot 11 = .ok (.iload_n 1, 1) := by decide +kernel
theorem dX6_withSpot_12 : decode cX6_withSpot 12 = .ok (.ishl, 1) := by decide +kernel
theorem dX6_withSpot_13 : decode cX6_withSpot 13 = .ok (.ior, 1) := by decide +kernel
theorem dX6_withSpot_14 : decode cX6_withSpot 14 = .ok (.ireturn, 1) := by decide +kernel
theorem dX7_init_0 : decode cX7_init 0 = .ok (.aload_n 0, 1) := by decide +kernel
theorem dX7_init_1 : decode cX7_init 1 = .ok (.invokespecial 3, 3) := by decide +kernel
theorem dX7_init_4 : decode cX7_init 4 = .ok (.aload_n 0, 1) := by decide +kernel
theorem dX7_init_5 : decode cX7_init 5 = .ok (.new 9, 3) := by decide +kernel
theorem dX7_init_8 : decode cX7_init 8 = .ok (.dup, 1) := by decide +kernel
theorem dX7_init_9 : decode cX7_init 9 = .ok (.invokespecial 11, 3) := by decide +kernel
theorem dX7_init_12 : decode cX7_init 12 = .ok (.putfield 12, 3) := by decide +kernel
theorem dX7_init_15 : decode cX7_init 15 = .ok (.aload_n 0, 1) := by decide +kernel
theorem dX7_init_16 : decode cX7_init 16 = .ok (.new 18, 3) := by decide +kernel
theorem dX7_init_19 : decode cX7_init 19 = .ok (.dup, 1) := by decide +kernel
theorem dX7_init_20 : decode cX7_init 20 = .ok (.invokespecial 20, 3) := by decide +kernel
theorem dX7_init_23 : decode cX7_init 23 = .ok (.putfield 21, 3) := by decide +kernel
theorem dX7_init_26 : decode cX7_init 26 = .ok (.aload_n 0, 1) := by decide +kernel
theorem dX7_init_27 : decode cX7_init 27 = .ok (.new 25, 3) := by decide +kernel
theorem dX7_init_30 : decode cX7_init 30 = .ok (.dup, 1) := by decide +kernel
theorem dX7_init_31 : decode cX7_init 31 = .ok (.invokespecial 27, 3) := by decide +kernel
theorem dX7_init_34 : decode cX7_init 34 = .ok (.putfield 28, 3) := by decide +kernel
theorem dX7_init_37 : decode cX7_init 37 = .ok (.aload_n 0, 1) := by decide +kernel
theorem dX7_init_38 : decode cX7_init 38 = .ok (.bipush 9, 2) := by decide +kernel
theorem dX7_init_40 : decode cX7_init 40 = .ok (.newarray .int, 2) := by decide +kernel
theorem dX7_init_42 : decode cX7_init 42 = .ok (.putfield 32, 3) := by decide +kernel
theorem dX7_init_45 : decode cX7_init 45 = .ok (.aload_n 0, 1) := by decide +kernel
theorem dX7_init_46 : decode cX7_init 46 = .ok (.new 36, 3) := by decide +kernel
theorem dX7_init_49 : decode cX7_init 49 = .ok (.dup, 1) := by decide +kernel
theorem dX7_init_50 : decode cX7_init 50 = .ok (.invokespecial 38, 3) := by decide +kernel
theorem dX7_init_53 : decode cX7_init 53 = .ok (.putfield 39, 3) := by decide +kernel
theorem dX7_init_56 : decode cX7_init 56 = .ok (.aload_n 0, 1) := by decide +kernel
theorem dX7_init_57 : decode cX7_init 57 = .ok (.new 43, 3) := by decide +kernel
theorem dX7_init_60 : decode cX7_init 60 = .ok (.dup, 1) := by decide +kernel
theorem dX7_init_61 : decode cX7_init 61 = .ok (.aload_n 0, 1) := by decide +kernel
theorem dX7_init_62 : decode cX7_init 62 = .ok (.getfield 12, 3) := by decide +kernel
theorem dX7_init_65 : decode cX7_init 65 = .ok (.invokespecial 45, 3) := by decide +kernel
theorem dX7_init_68 : decode cX7_init 68 = .ok (.putfield 48, 3) := by decide +kernel
theorem dX7_init_71 : decode cX7_init 71 = .ok (.aload_n 0, 1) := by decide +kernel
theorem dX7_init_72 : decode cX7_init 72 = .ok (.new 52, 3) := by decide +kernel
theorem dX7_init_75 : decode cX7_init 75 = .ok (.dup, 1) := by decide +kernel
theorem dX7_init_76 : decode cX7_init 76 = .ok (.aload_n 0, 1) := by decide +kernel
theorem dX7_init_77 : decode cX7_init 77 = .ok (.getfield 12, 3) := by decide +kernel
theorem dX7_init_80 : decode cX7_init 80 = .ok (.invokespecial 54, 3) := by decide +kernel
theorem dX7_init_83 : decode cX7_init 83 = .ok (.putfield 55, 3) := by decide +kernel
theorem dX7_init_86 : decode cX7_init 86 = .ok (.aload_n 0, 1) := by decide +kernel
theorem dX7_init_87 : decode cX7_init 87 = .ok (.new 59, 3) := by decide +kernel
theorem dX7_init_90 : decode cX7_init 90 = .ok (.dup, 1) := by decide +kernel
theorem dX7_init_91 : decode cX7_init 91 = .ok (.aload_n 0, 1) := by decide +kernel
theorem dX7_init_92 : decode cX7_init 92 = .ok (.getfield 12, 3) := by decide +kernel
theorem dX7_init_95 : decode cX7_init 95 = .ok (.invokespecial 61, 3) := by decide +kernel
theorem dX7_init_98 : decode cX7_init 98 = .ok (.putfield 62, 3) := by decide +kernel
theorem dX7_init_101 : decode cX7_init 101 = .ok (.aload_n 0, 1) := by decide +kernel
theorem dX7_init_102 : decode cX7_init 102 = .ok (.new 66, 3) := by decide +kernel
theorem dX7_init_105 : decode cX7_init 105 = .ok (.dup, 1) := by decide +kernel
theorem dX7_init_106 : decode cX7_init 106 = .ok (.aload_n 0, 1) := by decide +kernel
theorem dX7_init_107 : decode cX7_init 107 = .ok (.getfield 32, 3) := by decide +kernel
theorem dX7_init_110 : decode cX7_init 110 = .ok (.aload_n 1, 1) := by decide +kernel
theorem dX7_init_111 : decode cX7_init 111 = .ok (.invokespecial 68, 3) := by decide +kernel
theorem dX7_init_114 : decode cX7_init 114 = .ok (.putfield 71, 3) := by decide +kernel
theorem dX7_init_117 : decode cX7_init 117 = .ok (.return_, 1) := by decide +kernel
theorem dX7_renew_0 : decode cX7_renew 0 = .ok (.aload_n 0, 1) := by decide +kernel
theorem dX7_renew_1 : decode cX7_renew 1 = .ok (.iconst 1, 1) := by decide +kernel
theorem dX7_renew_2 : decode cX7_renew 2 = .ok (.putfield 75, 3) := by decide +kernel
theorem dX7_renew_5 : decode cX7_renew 5 = .ok (.aload_n 0, 1) := by decide +kernel
theorem dX7_renew_6 : decode cX7_renew 6 = .ok (.getfield 12, 3) := by decide +kernel
theorem dX7_renew_9 : decode cX7_renew 9 = .ok (.iload_n 1, 1) := by decide +kernel
theorem dX7_renew_10 : decode cX7_renew 10 = .ok (.iload_n 2, 1) := by decide +kernel
theorem dX7_renew_11 : decode cX7_renew 11 = .ok (.invokevirtual 79, 3) := by decide +kernel
theorem dX7_renew_14 : decode cX7_renew 14 = .ok (.aload_n 0, 1) := by decide +kernel
theorem dX7_renew_15 : decode cX7_renew 15 = .ok (.getfield 21, 3) := by decide +kernel
theorem dX7_renew_18 : decode cX7_renew 18 = .ok (.invokevirtual 83, 3) := by decide +kernel
theorem dX7_renew_21 : decode cX7_renew 21 = .ok (.aload_n 0, 1) := by decide +kernel
theorem dX7_renew_22 : decode cX7_renew 22 = .ok (.getfield 28, 3) := by decide +kernel
theorem dX7_renew_25 : decode cX7_renew 25 = .ok (.invokevirtual 86, 3) := by decide +kernel
theorem dX7_renew_28 : decode cX7_renew 28 = .ok (.getstatic 89, 3) := by decide +kernel
theorem dX7_renew_31 : decode cX7_renew 31 = .ok (.iconst 0, 1) := by decide +kernel
theorem dX7_renew_32 : decode cX7_renew 32 = .ok (.aload_n 0, 1) := by decide +kernel
theorem dX7_renew_33 : decode cX7_renew 33 = .ok (.getfield 32, 3) := by decide +kernel
theorem dX7_renew_36 : decode cX7_renew 36 = .ok (.iconst 0, 1) := by decide +kernel
theorem dX7_renew_37 : decode cX7_renew 37 = .ok (.bipush 9, 2) := by decide +kernel
theorem dX7_renew_39 : decode cX7_renew 39 = .ok (.invokestatic 92, 3) := by decide +kernel
theorem dX7_renew_42 : decode cX7_renew 42 = .ok (.aload_n 0, 1) := by decide +kernel
theorem dX7_renew_43 : decode cX7_renew 43 = .ok (.getfield 48, 3) := by decide +kernel
theorem dX7_renew_46 : decode cX7_renew 46 = .ok (.invokevirtual 98, 3) := by decide +kernel
theorem dX7_renew_49 : decode cX7_renew 49 = .ok (.aload_n 0, 1) := by decide +kernel
theorem dX7_renew_50 : decode cX7_renew 50 = .ok (.getfield 62, 3) := by decide +kernel
theorem dX7_renew_53 : decode cX7_renew 53 = .ok (.invokevirtual 99, 3) := by decide +kernel
theorem dX7_renew_56 : decode cX7_renew 56 = .ok (.aload_n 0, 1) := by decide +kernel
theorem dX7_renew_57 : decode cX7_renew 57 = .ok (.getfield 71, 3) := by decide +kernel
theorem dX7_renew_60 : decode cX7_renew 60 = .ok (.iconst 0, 1) := by decide +kernel
theorem dX7_renew_61 : decode cX7_renew 61 = .ok (.putfield 102, 3) := by decide +kernel
theorem dX7_renew_64 : decode cX7_renew 64 = .ok (.aload_n 0, 1) := by decide +kernel
theorem dX7_renew_65 : decode cX7_renew 65 = .ok (.iconst 0, 1) := by decide +kernel
theorem dX7_renew_66 : decode cX7_renew 66 = .ok (.putfield 106, 3) := by decide +kernel
theorem dX7_renew_69 : decode cX7_renew 69 = .ok (.aload_n 0, 1) := by decide +kernel
theorem dX7_renew_70 : decode cX7_renew 70 = .ok (.iconst 0, 1) := by decide +kernel
theorem dX7_renew_71 : decode cX7_renew 71 = .ok (.putfield 109, 3) := by decide +kernel
theorem dX7_renew_74 : decode cX7_renew 74 = .ok (.aload_n 0, 1) := by decide +kernel
theorem dX7_renew_75 : decode cX7_renew 75 = .ok (.iconst 0, 1) := by decide +kernel
theorem dX7_renew_76 : decode cX7_renew 76 = .ok (.putfield 112, 3) := by decide +kernel
theorem dX7_renew_79 : decode cX7_renew 79 = .ok (.return_, 1) := by decide +kernel
theorem dX7_hasCell_0 : decode cX7_hasCell 0 = .ok (.aload_n 0, 1) := by decide +kernel
theorem dX7_hasCell_1 : decode cX7_hasCell 1 = .ok (.getfield 75, 3) := by decide +kernel
theorem dX7_hasCell_4 : decode cX7_hasCell 4 = .ok (.ifCond .eq 24, 3) := by decide +kernel
theorem dX7_hasCell_7 : decode cX7_hasCell 7 = .ok (.iload_n 1, 1) := by decide +kernel
theorem dX7_hasCell_8 : decode cX7_hasCell 8 = .ok (.iconst 0, 1) := by decide +kernel
theorem dX7_hasCell_9 : decode cX7_hasCell 9 = .ok (.aload_n 0, 1) := by decide +kernel
theorem dX7_hasCell_10 : decode cX7_hasCell 10 = .ok (.getfield 12, 3) := by decide +kernel
theorem dX7_hasCell_13 : decode cX7_hasCell 13 = .ok (.getfield 115, 3) := by decide +kernel
theorem dX7_hasCell_16 : decode cX7_hasCell 16 = .ok (.iconst 1, 1) := by decide +kernel
theorem dX7_hasCell_17 : decode cX7_hasCell 17 = .ok (.isub, 1) := by decide +kernel
theorem dX7_hasCell_18 : decode cX7_hasCell 18 = .ok (.invokestatic 118, 3) := by decide +kernel
theorem dX7_hasCell_21 : decode cX7_hasCell 21 = .ok (.ifCond .eq 7, 3) := by decide +kernel
theorem dX7_hasCell_24 : decode cX7_hasCell 24 = .ok (.iconst 1, 1) := by decide +kernel
theorem dX7_hasCell_25 : decode cX7_hasCell 25 = .ok (.goto 4, 3) := by decide +kernel
theorem dX7_hasCell_28 : decode cX7_hasCell 28 = .ok (.iconst 0, 1) := by decide +kernel
theorem dX7_hasCell_29 : decode cX7_hasCell 29 = .ok (.ireturn, 1) := by decide +kernel
theorem dX7_hasSpot_0 : decode cX7_hasSpot 0 = .ok (.aload_n 0, 1) := by decide +kernel
theorem dX7_hasSpot_1 : decode cX7_hasSpot 1 = .ok (.getfield 75, 3) := by decide +kernel
theorem dX7_hasSpot_4 : decode cX7_hasSpot 4 = .ok (.ifCond .eq 24, 3) := by decide +kernel
theorem dX7_hasSpot_7 : decode cX7_hasSpot 7 = .ok (.iload_n 1, 1) := by decide +kernel
theorem dX7_hasSpot_8 : decode cX7_hasSpot 8 = .ok (.iconst 0, 1) := by decide +kernel
theorem dX7_hasSpot_9 : decode cX7_hasSpot 9 = .ok (.aload_n 0, 1) := by decide +kernel
theorem dX7_hasSpot_10 : decode cX7_hasSpot 10 = .ok (.getfield 62, 3) := by decide +kernel
theorem dX7_hasSpot_13 : decode cX7_hasSpot 13 = .ok (.getfield 122, 3) := by decide +kernel
theorem dX7_hasSpot_16 : decode cX7_hasSpot 16 = .ok (.iconst 1, 1) := by decide +kernel
theorem dX7_hasSpot_17 : decode cX7_hasSpot 17 = .ok (.isub, 1) := by decide +kernel
theorem dX7_hasSpot_18 : decode cX7_hasSpot 18 = .ok (.invokestatic 118, 3) := by decide +kernel
theorem dX7_hasSpot_21 : decode cX7_hasSpot 21 = .ok (.ifCond .eq 7, 3) := by decide +kernel
theorem dX7_hasSpot_24 : decode cX7_hasSpot 24 = .ok (.iconst 1, 1) := by decide +kernel
theorem dX7_hasSpot_25 : decode cX7_hasSpot 25 = .ok (.goto 4, 3) := by decide +kernel
theorem dX7_hasSpot_28 : decode cX7_hasSpot 28 = .ok (.iconst 0, 1) := by decide +kernel
theorem dX7_hasSpot_29 : decode cX7_hasSpot 29 = .ok (.ireturn, 1) := by decide +kernel
theorem dX7_hasTrack_0 : decode cX7_hasTrack 0 = .ok (.aload_n 0, 1) := by decide +kernel
theorem dX7_hasTrack_1 : decode cX7_hasTrack 1 = .ok (.getfield 75, 3) := by decide +kernel
theorem dX7_hasTrack_4 : decode cX7_hasTrack 4 = .ok (.ifCond .eq 24, 3) := by decide +kernel
theorem dX7_hasTrack_7 : decode cX7_hasTrack 7 = .ok (.iload_n 1, 1) := by decide +kernel
theorem dX7_hasTrack_8 : decode cX7_hasTrack 8 = .ok (.iconst 0, 1) := by decide +kernel
theorem dX7_hasTrack_9 : decode cX7_hasTrack 9 = .ok (.aload_n 0, 1) := by decide +kernel
theorem dX7_hasTrack_10 : decode cX7_hasTrack 10 = .ok (.getfield 71, 3) := by decide +kernel
theorem dX7_hasTrack_13 : decode cX7_hasTrack 13 = .ok (.getfield 102, 3) := by decide +kernel
theorem dX7_hasTrack_16 : decode cX7_hasTrack 16 = .ok (.iconst 1, 1) := by decide +kernel
theorem dX7_hasTrack_17 : decode cX7_hasTrack 17 = .ok (.isub, 1) := by decide +kernel
theorem dX7_hasTrack_18 : decode cX7_hasTrack 18 = .ok (.invokestatic 118, 3) := by decide +kernel
theorem dX7_hasTrack_21 : decode cX7_hasTrack 21 = .ok (.ifCond .eq 7, 3) := by decide +kernel
theorem dX7_hasTrack_24 : decode cX7_hasTrack 24 = .ok (.iconst 1, 1) := by decide +kernel
theorem dX7_hasTrack_25 : decode cX7_hasTrack 25 = .ok (.goto 4, 3) := by decide +kernel
theorem dX7_hasTrack_28 : decode cX7_hasTrack 28 = .ok (.iconst 0, 1) := by decide +kernel
theorem dX7_hasTrack_29 : decode cX7_hasTrack 29 = .ok (.ireturn, 1) := by decide +kernel
theorem dX7_runFrame_0 : decode cX7_runFrame 0 = .ok (.aload_n 0, 1) := by decide +kernel
theorem dX7_runFrame_1 : decode cX7_runFrame 1 = .ok (.dup, 1) := by decide +kernel
theorem dX7_runFrame_2 : decode cX7_runFrame 2 = .ok (.getfield 112, 3) := by decide +kernel
theorem dX7_runFrame_5 : decode cX7_runFrame 5 = .ok (.iconst 1, 1) := by decide +kernel
theorem dX7_runFrame_6 : decode cX7_runFrame 6 = .ok (.iadd, 1) := by decide +kernel
theorem dX7_runFrame_7 : decode cX7_runFrame 7 = .ok (.putfield 112, 3) := by decide +kernel
theorem dX7_runFrame_10 : decode cX7_runFrame 10 = .ok (.aload_n 0, 1) := by decide +kernel
theorem dX7_runFrame_11 : decode cX7_runFrame 11 = .ok (.dup, 1) := by decide +kernel
theorem dX7_runFrame_12 : decode cX7_runFrame 12 = .ok (.getfield 123, 3) := by decide +kernel
theorem dX7_runFrame_15 : decode cX7_runFrame 15 = .ok (.iconst 1, 1) := by decide +kernel
theorem dX7_runFrame_16 : decode cX7_runFrame 16 = .ok (.iadd, 1) := by decide +kernel
theorem dX7_runFrame_17 : decode cX7_runFrame 17 = .ok (.putfield 123, 3) := by decide +kernel
theorem dX7_runFrame_20 : decode cX7_runFrame 20 = .ok (.aload_n 0, 1) := by decide +kernel
theorem dX7_runFrame_21 : decode cX7_runFrame 21 = .ok (.getfield 48, 3) := by decide +kernel
theorem dX7_runFrame_24 : decode cX7_runFrame 24 = .ok (.aload_n 0, 1) := by decide +kernel
theorem dX7_runFrame_25 : decode cX7_runFrame 25 = .ok (.getfield 28, 3) := by decide +kernel
theorem dX7_runFrame_28 : decode cX7_runFrame 28 = .ok (.aload_n 0, 1) := by decide +kernel
theorem dX7_runFrame_29 : decode cX7_runFrame 29 = .ok (.getfield 32, 3) := by decide +kernel
theorem dX7_runFrame_32 : decode cX7_runFrame 32 = .ok (.iconst 1, 1) := by decide +kernel
theorem dX7_runFrame_33 : decode cX7_runFrame 33 = .ok (.iaload, 1) := by decide +kernel
theorem dX7_runFrame_34 : decode cX7_runFrame 34 = .ok (.invokevirtual 126, 3) := by decide +kernel
theorem dX7_runFrame_37 : decode cX7_runFrame 37 = .ok (.aload_n 0, 1) := by decide +kernel
theorem dX7_runFrame_38 : decode cX7_runFrame 38 = .ok (.aload_n 0, 1) := by decide +kernel
theorem dX7_runFrame_39 : decode cX7_runFrame 39 = .ok (.getfield 48, 3) := by decide +kernel
theorem dX7_runFrame_42 : decode cX7_runFrame 42 = .ok (.invokevirtual 130, 3) := by decide +kernel
theorem dX7_runFrame_45 : decode cX7_runFrame 45 = .ok (.putfield 106, 3) := by decide +kernel
theorem dX7_runFrame_48 : decode cX7_runFrame 48 = .ok (.aload_n 0, 1) := by decide +kernel
theorem dX7_runFrame_49 : decode cX7_runFrame 49 = .ok (.aload_n 0, 1) := by decide +kernel
theorem dX7_runFrame_50 : decode cX7_runFrame 50 = .ok (.getfield 106, 3) := by decide +kernel
theorem dX7_runFrame_53 : decode cX7_runFrame 53 = .ok (.aload_n 0, 1) := by decide +kernel
theorem dX7_runFrame_54 : decode cX7_runFrame 54 = .ok (.getfield 32, 3) := by decide +kernel
theorem dX7_runFrame_57 : decode cX7_runFrame 57 = .ok (.bipush 8, 2) := by decide +kernel
theorem dX7_runFrame_59 : decode cX7_runFrame 59 = .ok (.iaload, 1) := by decide +kernel
theorem dX7_runFrame_60 : decode cX7_runFrame 60 = .ok (.if_icmp .le 7, 3) := by decide +kernel
theorem dX7_runFrame_63 : decode cX7_runFrame 63 = .ok (.iconst 1, 1) := by decide +kernel
theorem dX7_runFrame_64 : decode cX7_runFrame 64 = .ok (.goto 4, 3) := by decide +kernel
theorem dX7_runFrame_67 : decode cX7_runFrame 67 = .ok (.iconst 0, 1) := by decide +kernel
theorem dX7_runFrame_68 : decode cX7_runFrame 68 = .ok (.putfield 109, 3) := by decide +kernel
theorem dX7_runFrame_71 : decode cX7_runFrame 71 = .ok (.aload_n 0, 1) := by decide +kernel
theorem dX7_runFrame_72 : decode cX7_runFrame 72 = .ok (.getfield 109, 3) := by decide +kernel
theorem dX7_runFrame_75 : decode cX7_runFrame 75 = .ok (.ifCond .eq 28, 3) := by decide +kernel
theorem dX7_runFrame_78 : decode cX7_runFrame 78 = .ok (.aload_n 0, 1) := by decide +kernel
theorem dX7_runFrame_79 : decode cX7_runFrame 79 = .ok (.dup, 1) := by decide +kernel
theorem dX7_runFrame_80 : decode cX7_runFrame 80 = .ok (.getfield 134, 3) := by decide +kernel
theorem dX7_runFrame_83 : decode cX7_runFrame 83 = .ok (.iconst 1, 1) := by decide +kernel
theorem dX7_runFrame_84 : decode cX7_runFrame 84 = .ok (.iadd, 1) := by decide +kernel
theorem dX7_runFrame_85 : decode cX7_runFrame 85 = .ok (.putfield 134, 3) := by decide +kernel
theorem dX7_runFrame_88 : decode cX7_runFrame 88 = .ok (.aload_n 0, 1) := by decide +kernel
theorem dX7_runFrame_89 : decode cX7_runFrame 89 = .ok (.getfield 28, 3) := by decide +kernel
theorem dX7_runFrame_92 : decode cX7_runFrame 92 = .ok (.invokevirtual 137, 3) := by decide +kernel
theorem dX7_runFrame_95 : decode cX7_runFrame 95 = .ok (.aload_n 0, 1) := by decide +kernel
theorem dX7_runFrame_96 : decode cX7_runFrame 96 = .ok (.getfield 62, 3) := by decide +kernel
theorem dX7_runFrame_99 : decode cX7_runFrame 99 = .ok (.invokevirtual 99, 3) := by decide +kernel
theorem dX7_runFrame_102 : decode cX7_runFrame 102 = .ok (.return_, 1) := by decide +kernel
theorem dX7_runFrame_103 : decode cX7_runFrame 103 = .ok (.aload_n 0, 1) := by decide +kernel
theorem dX7_runFrame_104 : decode cX7_runFrame 104 = .ok (.getfield 55, 3) := by decide +kernel
theorem dX7_runFrame_107 : decode cX7_runFrame 107 = .ok (.aload_n 0, 1) := by decide +kernel
theorem dX7_runFrame_108 : decode cX7_runFrame 108 = .ok (.getfield 48, 3) := by decide +kernel
theorem dX7_runFrame_111 : decode cX7_runFrame 111 = .ok (.aload_n 0, 1) := by decide +kernel
theorem dX7_runFrame_112 : decode cX7_runFrame 112 = .ok (.getfield 32, 3) := by decide +kernel
theorem dX7_runFrame_115 : decode cX7_runFrame 115 = .ok (.iconst 2, 1) := by decide +kernel
theorem dX7_runFrame_116 : decode cX7_runFrame 116 = .ok (.iaload, 1) := by decide +kernel
theorem dX7_runFrame_117 : decode cX7_runFrame 117 = .ok (.invokevirtual 140, 3) := by decide +kernel
theorem dX7_runFrame_120 : decode cX7_runFrame 120 = .ok (.aload_n 0, 1) := by decide +kernel
theorem dX7_runFrame_121 : decode cX7_runFrame 121 = .ok (.getfield 62, 3) := by decide +kernel
theorem dX7_runFrame_124 : decode cX7_runFrame 124 = .ok (.aload_n 0, 1) := by decide +kernel
theorem dX7_runFrame_125 : decode cX7_runFrame 125 = .ok (.getfield 55, 3) := by decide +kernel
theorem dX7_runFrame_128 : decode cX7_runFrame 128 = .ok (.aload_n 0, 1) := by decide +kernel
theorem dX7_runFrame_129 : decode cX7_runFrame 129 = .ok (.getfield 48, 3) := by decide +kernel
theorem dX7_runFrame_132 : decode cX7_runFrame 132 = .ok (.getfield 144, 3) := by decide +kernel
theorem dX7_runFrame_135 : decode cX7_runFrame 135 = .ok (.aload_n 0, 1) := by decide +kernel
theorem dX7_runFrame_136 : decode cX7_runFrame 136 = .ok (.getfield 32, 3) := by decide +kernel
theorem dX7_runFrame_139 : decode cX7_runFrame 139 = .ok (.iconst 0, 1) := by decide +kernel
theorem dX7_runFrame_140 : decode cX7_runFrame 140 = .ok (.iaload, 1) := by decide +kernel
theorem dX7_runFrame_141 : decode cX7_runFrame 141 = .ok (.invokevirtual 147, 3) := by decide +kernel
theorem dX7_runFrame_144 : decode cX7_runFrame 144 = .ok (.aload_n 0, 1) := by decide +kernel
theorem dX7_runFrame_145 : decode cX7_runFrame 145 = .ok (.getfield 39, 3) := by decide +kernel
theorem dX7_runFrame_148 : decode cX7_runFrame 148 = .ok (.aload_n 0, 1) := by decide +kernel
theorem dX7_runFrame_149 : decode cX7_runFrame 149 = .ok (.getfield 71, 3) := by decide +kernel
theorem dX7_runFrame_152 : decode cX7_runFrame 152 = .ok (.aload_n 0, 1) := by decide +kernel
theorem dX7_runFrame_153 : decode cX7_runFrame 153 = .ok (.getfield 62, 3) := by decide +kernel
theorem dX7_runFrame_156 : decode cX7_runFrame 156 = .ok (.aload_n 0, 1) := by decide +kernel
theorem dX7_runFrame_157 : decode cX7_runFrame 157 = .ok (.getfield 32, 3) := by decide +kernel
theorem dX7_runFrame_160 : decode cX7_runFrame 160 = .ok (.iconst 4, 1) := by decide +kernel
theorem dX7_runFrame_161 : decode cX7_runFrame 161 = .ok (.iaload, 1) := by decide +kernel
theorem dX7_runFrame_162 : decode cX7_runFrame 162 = .ok (.invokevirtual 151, 3) := by decide +kernel
theorem dX7_runFrame_165 : decode cX7_runFrame 165 = .ok (.aload_n 0, 1) := by decide +kernel
theorem dX7_runFrame_166 : decode cX7_runFrame 166 = .ok (.getfield 71, 3) := by decide +kernel
theorem dX7_runFrame_169 : decode cX7_runFrame 169 = .ok (.aload_n 0, 1) := by decide +kernel
theorem dX7_runFrame_170 : decode cX7_runFrame 170 = .ok (.getfield 62, 3) := by decide +kernel
theorem dX7_runFrame_173 : decode cX7_runFrame 173 = .ok (.aload_n 0, 1) := by decide +kernel
theorem dX7_runFrame_174 : decode cX7_runFrame 174 = .ok (.getfield 39, 3) := by decide +kernel
theorem dX7_runFrame_177 : decode cX7_runFrame 177 = .ok (.getfield 155, 3) := by decide +kernel
theorem dX7_runFrame_180 : decode cX7_runFrame 180 = .ok (.aload_n 0, 1) := by decide +kernel
theorem dX7_runFrame_181 : decode cX7_runFrame 181 = .ok (.getfield 112, 3) := by decide +kernel
theorem dX7_runFrame_184 : decode cX7_runFrame 184 = .ok (.invokevirtual 158, 3) := by decide +kernel
theorem dX7_runFrame_187 : decode cX7_runFrame 187 = .ok (.aload_n 0, 1) := by decide +kernel
theorem dX7_runFrame_188 : decode cX7_runFrame 188 = .ok (.getfield 71, 3) := by decide +kernel
theorem dX7_runFrame_191 : decode cX7_runFrame 191 = .ok (.aload_n 0, 1) := by decide +kernel
theorem dX7_runFrame_192 : decode cX7_runFrame 192 = .ok (.getfield 62, 3) := by decide +kernel
theorem dX7_runFrame_195 : decode cX7_runFrame 195 = .ok (.invokevirtual 162, 3) := by decide +kernel
theorem dX7_runFrame_198 : decode cX7_runFrame 198 = .ok (.aload_n 0, 1) := by decide +kernel
theorem dX7_runFrame_199 : decode cX7_runFrame 199 = .ok (.getfield 48, 3) := by decide +kernel
theorem dX7_runFrame_202 : decode cX7_runFrame 202 = .ok (.aload_n 0, 1) := by decide +kernel
theorem dX7_runFrame_203 : decode cX7_runFrame 203 = .ok (.getfield 62, 3) := by decide +kernel
theorem dX7_runFrame_206 : decode cX7_runFrame 206 = .ok (.getfield 166, 3) := by decide +kernel
theorem dX7_runFrame_209 : decode cX7_runFrame 209 = .ok (.aload_n 0, 1) := by decide +kernel
theorem dX7_runFrame_210 : decode cX7_runFrame 210 = .ok (.getfield 32, 3) := by decide +kernel
theorem dX7_runFrame_213 : decode cX7_runFrame 213 = .ok (.bipush 7, 2) := by decide +kernel
theorem dX7_runFrame_215 : decode cX7_runFrame 215 = .ok (.iaload, 1) := by decide +kernel
theorem dX7_runFrame_216 : decode cX7_runFrame 216 = .ok (.invokevirtual 170, 3) := by decide +kernel
theorem dX7_runFrame_219 : decode cX7_runFrame 219 = .ok (.return_, 1) := by decide +kernel
theorem dX7_cellFact_0 : decode cX7_cellFact 0 = .ok (.iload_n 2, 1) := by decide +kernel
theorem dX7_cellFact_1 : decode cX7_cellFact 1 = .ok (.tableswitch 85 0 4 #[35, 45, 55, 65, 75], 35) := by decide +kernel
theorem dX7_cellFact_36 : decode cX7_cellFact 36 = .ok (.aload_n 0, 1) := by decide +kernel
theorem dX7_cellFact_37 : decode cX7_cellFact 37 = .ok (.getfield 48, 3) := by decide +kernel
theorem dX7_cellFact_40 : decode cX7_cellFact 40 = .ok (.getfield 174, 3) := by decide +kernel
theorem dX7_cellFact_43 : decode cX7_cellFact 43 = .ok (.iload_n 1, 1) := by decide +kernel
theorem dX7_cellFact_44 : decode cX7_cellFact 44 = .ok (.iaload, 1) := by decide +kernel
theorem dX7_cellFact_45 : decode cX7_cellFact 45 = .ok (.ireturn, 1) := by decide +kernel
theorem dX7_cellFact_46 : decode cX7_cellFact 46 = .ok (.aload_n 0, 1) := by decide +kernel
theorem dX7_cellFact_47 : decode cX7_cellFact 47 = .ok (.getfield 48, 3) := by decide +kernel
theorem dX7_cellFact_50 : decode cX7_cellFact 50 = .ok (.getfield 177, 3) := by decide +kernel
theorem dX7_cellFact_53 : decode cX7_cellFact 53 = .ok (.iload_n 1, 1) := by decide +kernel
theorem dX7_cellFact_54 : decode cX7_cellFact 54 = .ok (.iaload, 1) := by decide +kernel
theorem dX7_cellFact_55 : decode cX7_cellFact 55 = .ok (.ireturn, 1) := by decide +kernel
theorem dX7_cellFact_56 : decode cX7_cellFact 56 = .ok (.aload_n 0, 1) := by decide +kernel
theorem dX7_cellFact_57 : decode cX7_cellFact 57 = .ok (.getfield 48, 3) := by decide +kernel
theorem dX7_cellFact_60 : decode cX7_cellFact 60 = .ok (.getfield 180, 3) := by decide +kernel
theorem dX7_cellFact_63 : decode cX7_cellFact 63 = .ok (.iload_n 1, 1) := by decide +kernel
theorem dX7_cellFact_64 : decode cX7_cellFact 64 = .ok (.iaload, 1) := by decide +kernel
theorem dX7_cellFact_65 : decode cX7_cellFact 65 = .ok (.ireturn, 1) := by decide +kernel
theorem dX7_cellFact_66 : decode cX7_cellFact 66 = .ok (.aload_n 0, 1) := by decide +kernel
theorem dX7_cellFact_67 : decode cX7_cellFact 67 = .ok (.getfield 48, 3) := by decide +kernel
theorem dX7_cellFact_70 : decode cX7_cellFact 70 = .ok (.getfield 144, 3) := by decide +kernel
theorem dX7_cellFact_73 : decode cX7_cellFact 73 = .ok (.iload_n 1, 1) := by decide +kernel
theorem dX7_cellFact_74 : decode cX7_cellFact 74 = .ok (.iaload, 1) := by decide +kernel
theorem dX7_cellFact_75 : decode cX7_cellFact 75 = .ok (.ireturn, 1) := by decide +kernel
theorem dX7_cellFact_76 : decode cX7_cellFact 76 = .ok (.aload_n 0, 1) := by decide +kernel
theorem dX7_cellFact_77 : decode cX7_cellFact 77 = .ok (.getfield 62, 3) := by decide +kernel
theorem dX7_cellFact_80 : decode cX7_cellFact 80 = .ok (.getfield 183, 3) := by decide +kernel
theorem dX7_cellFact_83 : decode cX7_cellFact 83 = .ok (.iload_n 1, 1) := by decide +kernel
theorem dX7_cellFact_84 : decode cX7_cellFact 84 = .ok (.iaload, 1) := by decide +kernel
theorem dX7_cellFact_85 : decode cX7_cellFact 85 = .ok (.ireturn, 1) := by decide +kernel
theorem dX7_cellFact_86 : decode cX7_cellFact 86 = .ok (.aload_n 0, 1) := by decide +kernel
theorem dX7_cellFact_87 : decode cX7_cellFact 87 = .ok (.getfield 48, 3) := by decide +kernel
theorem dX7_cellFact_90 : decode cX7_cellFact 90 = .ok (.getfield 186, 3) := by decide +kernel
theorem dX7_cellFact_93 : decode cX7_cellFact 93 = .ok (.iload_n 1, 1) := by decide +kernel
theorem dX7_cellFact_94 : decode cX7_cellFact 94 = .ok (.iaload, 1) := by decide +kernel
theorem dX7_cellFact_95 : decode cX7_cellFact 95 = .ok (.ireturn, 1) := by decide +kernel
theorem dX7_fact_0 : decode cX7_fact 0 = .ok (.iload_n 1, 1) := by decide +kernel
theorem dX7_fact_1 : decode cX7_fact 1 = .ok (.tableswitch 113 0 7 #[47, 55, 63, 71, 76, 89, 97, 105], 47) := by decide +kernel
theorem dX7_fact_48 : decode cX7_fact 48 = .ok (.aload_n 0, 1) := by decide +kernel
theorem dX7_fact_49 : decode cX7_fact 49 = .ok (.getfield 12, 3) := by decide +kernel
theorem dX7_fact_52 : decode cX7_fact 52 = .ok (.getfield 189, 3) := by decide +kernel
theorem dX7_fact_55 : decode cX7_fact 55 = .ok (.ireturn, 1) := by decide +kernel
theorem dX7_fact_56 : decode cX7_fact 56 = .ok (.aload_n 0, 1) := by decide +kernel
theorem dX7_fact_57 : decode cX7_fact 57 = .ok (.getfield 12, 3) := by decide +kernel
theorem dX7_fact_60 : decode cX7_fact 60 = .ok (.getfield 192, 3) := by decide +kernel
theorem dX7_fact_63 : decode cX7_fact 63 = .ok (.ireturn, 1) := by decide +kernel
theorem dX7_fact_64 : decode cX7_fact 64 = .ok (.aload_n 0, 1) := by decide +kernel
theorem dX7_fact_65 : decode cX7_fact 65 = .ok (.getfield 28, 3) := by decide +kernel
theorem dX7_fact_68 : decode cX7_fact 68 = .ok (.getfield 195, 3) := by decide +kernel
theorem dX7_fact_71 : decode cX7_fact 71 = .ok (.ireturn, 1) := by decide +kernel
theorem dX7_fact_72 : decode cX7_fact 72 = .ok (.aload_n 0, 1) := by decide +kernel
theorem dX7_fact_73 : decode cX7_fact 73 = .ok (.getfield 106, 3) := by decide +kernel
theorem dX7_fact_76 : decode cX7_fact 76 = .ok (.ireturn, 1) := by decide +kernel
theorem dX7_fact_77 : decode cX7_fact 77 = .ok (.aload_n 0, 1) := by decide +kernel
theorem dX7_fact_78 : decode cX7_fact 78 = .ok (.getfield 109, 3) := by decide +kernel
theorem dX7_fact_81 : decode cX7_fact 81 = .ok (.ifCond .eq 7, 3) := by decide +kernel
theorem dX7_fact_84 : decode cX7_fact 84 = .ok (.iconst 1, 1) := by decide +kernel
theorem dX7_fact_85 : decode cX7_fact 85 = .ok (.goto 4, 3) := by decide +kernel
theorem dX7_fact_88 : decode cX7_fact 88 = .ok (.iconst 0, 1) := by decide +kernel
theorem dX7_fact_89 : decode cX7_fact 89 = .ok (.ireturn, 1) := by decide +kernel
theorem dX7_fact_90 : decode cX7_fact 90 = .ok (.aload_n 0, 1) := by decide +kernel
theorem dX7_fact_91 : decode cX7_fact 91 = .ok (.getfield 62, 3) := by decide +kernel
theorem dX7_fact_94 : decode cX7_fact 94 = .ok (.getfield 122, 3) := by decide +kernel
theorem dX7_fact_97 : decode cX7_fact 97 = .ok (.ireturn, 1) := by decide +kernel
theorem dX7_fact_98 : decode cX7_fact 98 = .ok (.aload_n 0, 1) := by decide +kernel
theorem dX7_fact_99 : decode cX7_fact 99 = .ok (.getfield 71, 3) := by decide +kernel
theorem dX7_fact_102 : decode cX7_fact 102 = .ok (.getfield 102, 3) := by decide +kernel
theorem dX7_fact_105 : decode cX7_fact 105 = .ok (.ireturn, 1) := by decide +kernel
theorem dX7_fact_106 : decode cX7_fact 106 = .ok (.aload_n 0, 1) := by decide +kernel
theorem dX7_fact_107 : decode cX7_fact 107 = .ok (.getfield 28, 3) := by decide +kernel
theorem dX7_fact_110 : decode cX7_fact 110 = .ok (.getfield 198, 3) := by decide +kernel
theorem dX7_fact_113 : decode cX7_fact 113 = .ok (.ireturn, 1) := by decide +kernel
theorem dX7_fact_114 : decode cX7_fact 114 = .ok (.aload_n 0, 1) := by decide +kernel
theorem dX7_fact_115 : decode cX7_fact 115 = .ok (.getfield 112, 3) := by decide +kernel
theorem dX7_fact_118 : decode cX7_fact 118 = .ok (.ireturn, 1) := by decide +kernel
theorem dX8_init_0 : decode cX8_init 0 = .ok (.aload_n 0, 1) := by decide +kernel
theorem dX8_init_1 : decode cX8_init 1 = .ok (.invokespecial 3, 3) := by decide +kernel
theorem dX8_init_4 : decode cX8_init 4 = .ok (.aload_n 0, 1) := by decide +kernel
theorem dX8_init_5 : decode cX8_init 5 = .ok (.bipush 6, 2) := by decide +kernel
theorem dX8_init_7 : decode cX8_init 7 = .ok (.bipush 6, 2) := by decide +kernel
theorem dX8_init_9 : decode cX8_init 9 = .ok (.multianewarray 9 2, 4) := by decide +kernel
theorem dX8_init_13 : decode cX8_init 13 = .ok (.putfield 11, 3) := by decide +kernel
theorem dX8_init_16 : decode cX8_init 16 = .ok (.aload_n 0, 1) := by decide +kernel
theorem dX8_init_17 : decode cX8_init 17 = .ok (.bipush 64, 2) := by decide +kernel
theorem dX8_init_19 : decode cX8_init 19 = .ok (.newarray .int, 2) := by decide +kernel
theorem dX8_init_21 : decode cX8_init 21 = .ok (.putfield 16, 3) := by decide +kernel
theorem dX8_init_24 : decode cX8_init 24 = .ok (.aload_n 0, 1) := by decide +kernel
theorem dX8_init_25 : decode cX8_init 25 = .ok (.bipush 64, 2) := by decide +kernel
theorem dX8_init_27 : decode cX8_init 27 = .ok (.newarray .boolean, 2) := by decide +kernel
theorem dX8_init_29 : decode cX8_init 29 = .ok (.putfield 20, 3) := by decide +kernel
theorem dX8_init_32 : decode cX8_init 32 = .ok (.aload_n 0, 1) := by decide +kernel
theorem dX8_init_33 : decode cX8_init 33 = .ok (.bipush 16, 2) := by decide +kernel
theorem dX8_init_35 : decode cX8_init 35 = .ok (.newarray .boolean, 2) := by decide +kernel
theorem dX8_init_37 : decode cX8_init 37 = .ok (.putfield 26, 3) := by decide +kernel
theorem dX8_init_40 : decode cX8_init 40 = .ok (.aload_n 0, 1) := by decide +kernel
theorem dX8_init_41 : decode cX8_init 41 = .ok (.bipush 16, 2) := by decide +kernel
theorem dX8_init_43 : decode cX8_init 43 = .ok (.newarray .int, 2) := by decide +kernel
theorem dX8_init_45 : decode cX8_init 45 = .ok (.putfield 29, 3) := by decide +kernel
theorem dX8_init_48 : decode cX8_init 48 = .ok (.aload_n 0, 1) := by decide +kernel
theorem dX8_init_49 : decode cX8_init 49 = .ok (.bipush 16, 2) := by decide +kernel
theorem dX8_init_51 : decode cX8_init 51 = .ok (.newarray .int, 2) := by decide +kernel
theorem dX8_init_53 : decode cX8_init 53 = .ok (.putfield 32, 3) := by decide +kernel
theorem dX8_init_56 : decode cX8_init 56 = .ok (.aload_n 0, 1) := by decide +kernel
theorem dX8_init_57 : decode cX8_init 57 = .ok (.bipush 16, 2) := by decide +kernel
theorem dX8_init_59 : decode cX8_init 59 = .ok (.newarray .int, 2) := by decide +kernel
theorem dX8_init_61 : decode cX8_init 61 = .ok (.putfield 35, 3) := by decide +kernel
theorem dX8_init_64 : decode cX8_init 64 = .ok (.aload_n 0, 1) := by decide +kernel
