theorem dX12_init_241 : decode cX12_init 241 = .ok (.newarray .int, 2) := by decide +kernel
theorem dX12_init_243 : decode cX12_init 243 = .ok (.putfield 101, 3) := by decide +kernel
theorem dX12_init_246 : decode cX12_init 246 = .ok (.aload_n 0, 1) := by decide +kernel
theorem dX12_init_247 : decode cX12_init 247 = .ok (.bipush 64, 2) := by decide +kernel
theorem dX12_init_249 : decode cX12_init 249 = .ok (.newarray .int, 2) := by decide +kernel
theorem dX12_init_251 : decode cX12_init 251 = .ok (.putfield 104, 3) := by decide +kernel
theorem dX12_init_254 : decode cX12_init 254 = .ok (.aload_n 0, 1) := by decide +kernel
theorem dX12_init_255 : decode cX12_init 255 = .ok (.sipush 448, 3) := by decide +kernel
theorem dX12_init_258 : decode cX12_init 258 = .ok (.newarray .int, 2) := by decide +kernel
theorem dX12_init_260 : decode cX12_init 260 = .ok (.putfield 107, 3) := by decide +kernel
theorem dX12_init_263 : decode cX12_init 263 = .ok (.aload_n 0, 1) := by decide +kernel
theorem dX12_init_264 : decode cX12_init 264 = .ok (.sipush 448, 3) := by decide +kernel
theorem dX12_init_267 : decode cX12_init 267 = .ok (.newarray .int, 2) := by decide +kernel
theorem dX12_init_269 : decode cX12_init 269 = .ok (.putfield 110, 3) := by decide +kernel
theorem dX12_init_272 : decode cX12_init 272 = .ok (.aload_n 0, 1) := by decide +kernel
theorem dX12_init_273 : decode cX12_init 273 = .ok (.bipush 6, 2) := by decide +kernel
theorem dX12_init_275 : decode cX12_init 275 = .ok (.newarray .int, 2) := by decide +kernel
theorem dX12_init_277 : decode cX12_init 277 = .ok (.putfield 113, 3) := by decide +kernel
theorem dX12_init_280 : decode cX12_init 280 = .ok (.return_, 1) := by decide +kernel
theorem dX12_within_0 : decode cX12_within 0 = .ok (.iload_n 0, 1) := by decide +kernel
theorem dX12_within_1 : decode cX12_within 1 = .ok (.iload_n 1, 1) := by decide +kernel
theorem dX12_within_2 : decode cX12_within 2 = .ok (.if_icmp .lt 12, 3) := by decide +kernel
theorem dX12_within_5 : decode cX12_within 5 = .ok (.iload_n 0, 1) := by decide +kernel
theorem dX12_within_6 : decode cX12_within 6 = .ok (.iload_n 2, 1) := by decide +kernel
theorem dX12_within_7 : decode cX12_within 7 = .ok (.if_icmp .gt 7, 3) := by decide +kernel
theorem dX12_within_10 : decode cX12_within 10 = .ok (.iconst 1, 1) := by decide +kernel
theorem dX12_within_11 : decode cX12_within 11 = .ok (.goto 4, 3) := by decide +kernel
theorem dX12_within_14 : decode cX12_within 14 = .ok (.iconst 0, 1) := by decide +kernel
theorem dX12_within_15 : decode cX12_within 15 = .ok (.ireturn, 1) := by decide +kernel
theorem dX12_abs_0 : decode cX12_abs 0 = .ok (.iload_n 0, 1) := by decide +kernel
theorem dX12_abs_1 : decode cX12_abs 1 = .ok (.ifCond .ge 8, 3) := by decide +kernel
theorem dX12_abs_4 : decode cX12_abs 4 = .ok (.iload_n 0, 1) := by decide +kernel
theorem dX12_abs_5 : decode cX12_abs 5 = .ok (.ineg, 1) := by decide +kernel
theorem dX12_abs_6 : decode cX12_abs 6 = .ok (.goto 4, 3) := by decide +kernel
theorem dX12_abs_9 : decode cX12_abs 9 = .ok (.iload_n 0, 1) := by decide +kernel
theorem dX12_abs_10 : decode cX12_abs 10 = .ok (.ireturn, 1) := by decide +kernel
theorem dX12_isGlass_0 : decode cX12_isGlass 0 = .ok (.aload_n 0, 1) := by decide +kernel
theorem dX12_isGlass_1 : decode cX12_isGlass 1 = .ok (.getfield 116, 3) := by decide +kernel
theorem dX12_isGlass_4 : decode cX12_isGlass 4 = .ok (.ifCond .le 7, 3) := by decide +kernel
theorem dX12_isGlass_7 : decode cX12_isGlass 7 = .ok (.iconst 1, 1) := by decide +kernel
theorem dX12_isGlass_8 : decode cX12_isGlass 8 = .ok (.goto 4, 3) := by decide +kernel
theorem dX12_isGlass_11 : decode cX12_isGlass 11 = .ok (.iconst 0, 1) := by decide +kernel
theorem dX12_isGlass_12 : decode cX12_isGlass 12 = .ok (.ireturn, 1) := by decide +kernel
theorem dX12_cells_0 : decode cX12_cells 0 = .ok (.aload_n 0, 1) := by decide +kernel
theorem dX12_cells_1 : decode cX12_cells 1 = .ok (.getfield 116, 3) := by decide +kernel
theorem dX12_cells_4 : decode cX12_cells 4 = .ok (.aload_n 0, 1) := by decide +kernel
theorem dX12_cells_5 : decode cX12_cells 5 = .ok (.getfield 120, 3) := by decide +kernel
theorem dX12_cells_8 : decode cX12_cells 8 = .ok (.imul, 1) := by decide +kernel
theorem dX12_cells_9 : decode cX12_cells 9 = .ok (.ireturn, 1) := by decide +kernel
theorem dX12_letter_0 : decode cX12_letter 0 = .ok (.iload_n 1, 1) := by decide +kernel
theorem dX12_letter_1 : decode cX12_letter 1 = .ok (.bipush 32, 2) := by decide +kernel
theorem dX12_letter_3 : decode cX12_letter 3 = .ok (.bipush 126, 2) := by decide +kernel
theorem dX12_letter_5 : decode cX12_letter 5 = .ok (.invokestatic 123, 3) := by decide +kernel
theorem dX12_letter_8 : decode cX12_letter 8 = .ok (.ifCond .ne 7, 3) := by decide +kernel
theorem dX12_letter_11 : decode cX12_letter 11 = .ok (.sipush (-10002), 3) := by decide +kernel
theorem dX12_letter_14 : decode cX12_letter 14 = .ok (.ireturn, 1) := by decide +kernel
theorem dX12_letter_15 : decode cX12_letter 15 = .ok (.aload_n 0, 1) := by decide +kernel
theorem dX12_letter_16 : decode cX12_letter 16 = .ok (.getfield 127, 3) := by decide +kernel
theorem dX12_letter_19 : decode cX12_letter 19 = .ok (.bipush 40, 2) := by decide +kernel
theorem dX12_letter_21 : decode cX12_letter 21 = .ok (.if_icmp .ne 7, 3) := by decide +kernel
theorem dX12_letter_24 : decode cX12_letter 24 = .ok (.sipush (-10004), 3) := by decide +kernel
theorem dX12_letter_27 : decode cX12_letter 27 = .ok (.ireturn, 1) := by decide +kernel
theorem dX12_letter_28 : decode cX12_letter 28 = .ok (.aload_n 0, 1) := by decide +kernel
theorem dX12_letter_29 : decode cX12_letter 29 = .ok (.getfield 7, 3) := by decide +kernel
theorem dX12_letter_32 : decode cX12_letter 32 = .ok (.aload_n 0, 1) := by decide +kernel
theorem dX12_letter_33 : decode cX12_letter 33 = .ok (.getfield 127, 3) := by decide +kernel
theorem dX12_letter_36 : decode cX12_letter 36 = .ok (.iload_n 1, 1) := by decide +kernel
theorem dX12_letter_37 : decode cX12_letter 37 = .ok (.iastore, 1) := by decide +kernel
theorem dX12_letter_38 : decode cX12_letter 38 = .ok (.aload_n 0, 1) := by decide +kernel
theorem dX12_letter_39 : decode cX12_letter 39 = .ok (.dup, 1) := by decide +kernel
theorem dX12_letter_40 : decode cX12_letter 40 = .ok (.getfield 127, 3) := by decide +kernel
theorem dX12_letter_43 : decode cX12_letter 43 = .ok (.iconst 1, 1) := by decide +kernel
theorem dX12_letter_44 : decode cX12_letter 44 = .ok (.iadd, 1) := by decide +kernel
theorem dX12_letter_45 : decode cX12_letter 45 = .ok (.putfield 127, 3) := by decide +kernel
theorem dX12_letter_48 : decode cX12_letter 48 = .ok (.aload_n 0, 1) := by decide +kernel
theorem dX12_letter_49 : decode cX12_letter 49 = .ok (.getfield 127, 3) := by decide +kernel
theorem dX12_letter_52 : decode cX12_letter 52 = .ok (.ireturn, 1) := by decide +kernel
theorem dX12_blank_0 : decode cX12_blank 0 = .ok (.aload_n 0, 1) := by decide +kernel
theorem dX12_blank_1 : decode cX12_blank 1 = .ok (.getfield 127, 3) := by decide +kernel
theorem dX12_blank_4 : decode cX12_blank 4 = .ok (.istore_n 1, 1) := by decide +kernel
theorem dX12_blank_5 : decode cX12_blank 5 = .ok (.aload_n 0, 1) := by decide +kernel
theorem dX12_blank_6 : decode cX12_blank 6 = .ok (.iconst 0, 1) := by decide +kernel
theorem dX12_blank_7 : decode cX12_blank 7 = .ok (.putfield 127, 3) := by decide +kernel
theorem dX12_blank_10 : decode cX12_blank 10 = .ok (.iload_n 1, 1) := by decide +kernel
theorem dX12_blank_11 : decode cX12_blank 11 = .ok (.ireturn, 1) := by decide +kernel
theorem dX12_mostNow_0 : decode cX12_mostNow 0 = .ok (.aload_n 0, 1) := by decide +kernel
theorem dX12_mostNow_1 : decode cX12_mostNow 1 = .ok (.getfield 130, 3) := by decide +kernel
theorem dX12_mostNow_4 : decode cX12_mostNow 4 = .ok (.iconst 3, 1) := by decide +kernel
theorem dX12_mostNow_5 : decode cX12_mostNow 5 = .ok (.if_icmp .ne 14, 3) := by decide +kernel
theorem dX12_mostNow_8 : decode cX12_mostNow 8 = .ok (.iconst 2, 1) := by decide +kernel
theorem dX12_mostNow_9 : decode cX12_mostNow 9 = .ok (.aload_n 0, 1) := by decide +kernel
theorem dX12_mostNow_10 : decode cX12_mostNow 10 = .ok (.getfield 116, 3) := by decide +kernel
theorem dX12_mostNow_13 : decode cX12_mostNow 13 = .ok (.imul, 1) := by decide +kernel
theorem dX12_mostNow_14 : decode cX12_mostNow 14 = .ok (.iconst 2, 1) := by decide +kernel
theorem dX12_mostNow_15 : decode cX12_mostNow 15 = .ok (.isub, 1) := by decide +kernel
theorem dX12_mostNow_16 : decode cX12_mostNow 16 = .ok (.goto 25, 3) := by decide +kernel
theorem dX12_mostNow_19 : decode cX12_mostNow 19 = .ok (.aload_n 0, 1) := by decide +kernel
theorem dX12_mostNow_20 : decode cX12_mostNow 20 = .ok (.getfield 130, 3) := by decide +kernel
theorem dX12_mostNow_23 : decode cX12_mostNow 23 = .ok (.iconst 4, 1) := by decide +kernel
theorem dX12_mostNow_24 : decode cX12_mostNow 24 = .ok (.if_icmp .ne 14, 3) := by decide +kernel
theorem dX12_mostNow_27 : decode cX12_mostNow 27 = .ok (.iconst 2, 1) := by decide +kernel
theorem dX12_mostNow_28 : decode cX12_mostNow 28 = .ok (.aload_n 0, 1) := by decide +kernel
theorem dX12_mostNow_29 : decode cX12_mostNow 29 = .ok (.getfield 120, 3) := by decide +kernel
theorem dX12_mostNow_32 : decode cX12_mostNow 32 = .ok (.imul, 1) := by decide +kernel
theorem dX12_mostNow_33 : decode cX12_mostNow 33 = .ok (.iconst 2, 1) := by decide +kernel
theorem dX12_mostNow_34 : decode cX12_mostNow 34 = .ok (.isub, 1) := by decide +kernel
theorem dX12_mostNow_35 : decode cX12_mostNow 35 = .ok (.goto 6, 3) := by decide +kernel
theorem dX12_mostNow_38 : decode cX12_mostNow 38 = .ok (.sipush 250, 3) := by decide +kernel
theorem dX12_mostNow_41 : decode cX12_mostNow 41 = .ok (.ireturn, 1) := by decide +kernel
theorem dX12_takesFigure_0 : decode cX12_takesFigure 0 = .ok (.aload_n 0, 1) := by decide +kernel
theorem dX12_takesFigure_1 : decode cX12_takesFigure 1 = .ok (.getfield 133, 3) := by decide +kernel
theorem dX12_takesFigure_4 : decode cX12_takesFigure 4 = .ok (.iconst (-1), 1) := by decide +kernel
theorem dX12_takesFigure_5 : decode cX12_takesFigure 5 = .ok (.if_icmp .ne 7, 3) := by decide +kernel
theorem dX12_takesFigure_8 : decode cX12_takesFigure 8 = .ok (.iload_n 1, 1) := by decide +kernel
theorem dX12_takesFigure_9 : decode cX12_takesFigure 9 = .ok (.goto 12, 3) := by decide +kernel
theorem dX12_takesFigure_12 : decode cX12_takesFigure 12 = .ok (.bipush 10, 2) := by decide +kernel
theorem dX12_takesFigure_14 : decode cX12_takesFigure 14 = .ok (.aload_n 0, 1) := by decide +kernel
theorem dX12_takesFigure_15 : decode cX12_takesFigure 15 = .ok (.getfield 133, 3) := by decide +kernel
theorem dX12_takesFigure_18 : decode cX12_takesFigure 18 = .ok (.imul, 1) := by decide +kernel
theorem dX12_takesFigure_19 : decode cX12_takesFigure 19 = .ok (.iload_n 1, 1) := by decide +kernel
theorem dX12_takesFigure_20 : decode cX12_takesFigure 20 = .ok (.iadd, 1) := by decide +kernel
theorem dX12_takesFigure_21 : decode cX12_takesFigure 21 = .ok (.istore_n 2, 1) := by decide +kernel
theorem dX12_takesFigure_22 : decode cX12_takesFigure 22 = .ok (.aload_n 0, 1) := by decide +kernel
theorem dX12_takesFigure_23 : decode cX12_takesFigure 23 = .ok (.getfield 133, 3) := by decide +kernel
theorem dX12_takesFigure_26 : decode cX12_takesFigure 26 = .ok (.ifCond .eq 15, 3) := by decide +kernel
theorem dX12_takesFigure_29 : decode cX12_takesFigure 29 = .ok (.iload_n 2, 1) := by decide +kernel
theorem dX12_takesFigure_30 : decode cX12_takesFigure 30 = .ok (.aload_n 0, 1) := by decide +kernel
theorem dX12_takesFigure_31 : decode cX12_takesFigure 31 = .ok (.invokevirtual 136, 3) := by decide +kernel
theorem dX12_takesFigure_34 : decode cX12_takesFigure 34 = .ok (.if_icmp .gt 7, 3) := by decide +kernel
theorem dX12_takesFigure_37 : decode cX12_takesFigure 37 = .ok (.iconst 1, 1) := by decide +kernel
theorem dX12_takesFigure_38 : decode cX12_takesFigure 38 = .ok (.goto 4, 3) := by decide +kernel
theorem dX12_takesFigure_41 : decode cX12_takesFigure 41 = .ok (.iconst 0, 1) := by decide +kernel
theorem dX12_takesFigure_42 : decode cX12_takesFigure 42 = .ok (.istore_n 3, 1) := by decide +kernel
theorem dX12_takesFigure_43 : decode cX12_takesFigure 43 = .ok (.aload_n 0, 1) := by decide +kernel
theorem dX12_takesFigure_44 : decode cX12_takesFigure 44 = .ok (.iload_n 3, 1) := by decide +kernel
theorem dX12_takesFigure_45 : decode cX12_takesFigure 45 = .ok (.ifCond .eq 7, 3) := by decide +kernel
theorem dX12_takesFigure_48 : decode cX12_takesFigure 48 = .ok (.iload_n 2, 1) := by decide +kernel
theorem dX12_takesFigure_49 : decode cX12_takesFigure 49 = .ok (.goto 7, 3) := by decide +kernel
theorem dX12_takesFigure_52 : decode cX12_takesFigure 52 = .ok (.aload_n 0, 1) := by decide +kernel
theorem dX12_takesFigure_53 : decode cX12_takesFigure 53 = .ok (.getfield 133, 3) := by decide +kernel
theorem dX12_takesFigure_56 : decode cX12_takesFigure 56 = .ok (.putfield 133, 3) := by decide +kernel
theorem dX12_takesFigure_59 : decode cX12_takesFigure 59 = .ok (.iload_n 3, 1) := by decide +kernel
theorem dX12_takesFigure_60 : decode cX12_takesFigure 60 = .ok (.ireturn, 1) := by decide +kernel
theorem dX12_goes_0 : decode cX12_goes 0 = .ok (.aload_n 0, 1) := by decide +kernel
theorem dX12_goes_1 : decode cX12_goes 1 = .ok (.iload_n 1, 1) := by decide +kernel
theorem dX12_goes_2 : decode cX12_goes 2 = .ok (.ifCond .eq 7, 3) := by decide +kernel
theorem dX12_goes_5 : decode cX12_goes 5 = .ok (.iload_n 2, 1) := by decide +kernel
theorem dX12_goes_6 : decode cX12_goes 6 = .ok (.goto 7, 3) := by decide +kernel
theorem dX12_goes_9 : decode cX12_goes 9 = .ok (.aload_n 0, 1) := by decide +kernel
theorem dX12_goes_10 : decode cX12_goes 10 = .ok (.getfield 130, 3) := by decide +kernel
theorem dX12_goes_13 : decode cX12_goes 13 = .ok (.putfield 130, 3) := by decide +kernel
theorem dX12_goes_16 : decode cX12_goes 16 = .ok (.aload_n 0, 1) := by decide +kernel
theorem dX12_goes_17 : decode cX12_goes 17 = .ok (.iload_n 1, 1) := by decide +kernel
theorem dX12_goes_18 : decode cX12_goes 18 = .ok (.ifCond .eq 7, 3) := by decide +kernel
theorem dX12_goes_21 : decode cX12_goes 21 = .ok (.iconst (-1), 1) := by decide +kernel
theorem dX12_goes_22 : decode cX12_goes 22 = .ok (.goto 7, 3) := by decide +kernel
theorem dX12_goes_25 : decode cX12_goes 25 = .ok (.aload_n 0, 1) := by decide +kernel
theorem dX12_goes_26 : decode cX12_goes 26 = .ok (.getfield 133, 3) := by decide +kernel
theorem dX12_goes_29 : decode cX12_goes 29 = .ok (.putfield 133, 3) := by decide +kernel
theorem dX12_goes_32 : decode cX12_goes 32 = .ok (.iload_n 1, 1) := by decide +kernel
theorem dX12_goes_33 : decode cX12_goes 33 = .ok (.ireturn, 1) := by decide +kernel
theorem dX12_takesSign_0 : decode cX12_takesSign 0 = .ok (.aload_n 0, 1) := by decide +kernel
theorem dX12_takesSign_1 : decode cX12_takesSign 1 = .ok (.getfield 133, 3) := by decide +kernel
theorem dX12_takesSign_4 : decode cX12_takesSign 4 = .ok (.istore_n 2, 1) := by decide +kernel
theorem dX12_takesSign_5 : decode cX12_takesSign 5 = .ok (.aload_n 0, 1) := by decide +kernel
theorem dX12_takesSign_6 : decode cX12_takesSign 6 = .ok (.getfield 130, 3) := by decide +kernel
theorem dX12_takesSign_9 : decode cX12_takesSign 9 = .ok (.iconst 3, 1) := by decide +kernel
theorem dX12_takesSign_10 : decode cX12_takesSign 10 = .ok (.if_icmp .ne 30, 3) := by decide +kernel
theorem dX12_takesSign_13 : decode cX12_takesSign 13 = .ok (.aload_n 0, 1) := by decide +kernel
theorem dX12_takesSign_14 : decode cX12_takesSign 14 = .ok (.iload_n 2, 1) := by decide +kernel
theorem dX12_takesSign_15 : decode cX12_takesSign 15 = .ok (.putfield 140, 3) := by decide +kernel
theorem dX12_takesSign_18 : decode cX12_takesSign 18 = .ok (.aload_n 0, 1) := by decide +kernel
theorem dX12_takesSign_19 : decode cX12_takesSign 19 = .ok (.iload_n 1, 1) := by decide +kernel
theorem dX12_takesSign_20 : decode cX12_takesSign 20 = .ok (.bipush 44, 2) := by decide +kernel
theorem dX12_takesSign_22 : decode cX12_takesSign 22 = .ok (.if_icmp .ne 12, 3) := by decide +kernel
theorem dX12_takesSign_25 : decode cX12_takesSign 25 = .ok (.iload_n 2, 1) := by decide +kernel
theorem dX12_takesSign_26 : decode cX12_takesSign 26 = .ok (.iconst (-1), 1) := by decide +kernel
theorem dX12_takesSign_27 : decode cX12_takesSign 27 = .ok (.if_icmp .eq 7, 3) := by decide +kernel
theorem dX12_takesSign_30 : decode cX12_takesSign 30 = .ok (.iconst 1, 1) := by decide +kernel
theorem dX12_takesSign_31 : decode cX12_takesSign 31 = .ok (.goto 4, 3) := by decide +kernel
theorem dX12_takesSign_34 : decode cX12_takesSign 34 = .ok (.iconst 0, 1) := by decide +kernel
theorem dX12_takesSign_35 : decode cX12_takesSign 35 = .ok (.iconst 4, 1) := by decide +kernel
theorem dX12_takesSign_36 : decode cX12_takesSign 36 = .ok (.invokevirtual 143, 3) := by decide +kernel
theorem dX12_takesSign_39 : decode cX12_takesSign 39 = .ok (.ireturn, 1) := by decide +kernel
theorem dX12_takesSign_40 : decode cX12_takesSign 40 = .ok (.aload_n 0, 1) := by decide +kernel
theorem dX12_takesSign_41 : decode cX12_takesSign 41 = .ok (.getfield 130, 3) := by decide +kernel
theorem dX12_takesSign_44 : decode cX12_takesSign 44 = .ok (.iconst 4, 1) := by decide +kernel
theorem dX12_takesSign_45 : decode cX12_takesSign 45 = .ok (.if_icmp .ne 30, 3) := by decide +kernel
theorem dX12_takesSign_48 : decode cX12_takesSign 48 = .ok (.aload_n 0, 1) := by decide +kernel
theorem dX12_takesSign_49 : decode cX12_takesSign 49 = .ok (.iload_n 2, 1) := by decide +kernel
theorem dX12_takesSign_50 : decode cX12_takesSign 50 = .ok (.putfield 147, 3) := by decide +kernel
theorem dX12_takesSign_53 : decode cX12_takesSign 53 = .ok (.aload_n 0, 1) := by decide +kernel
theorem dX12_takesSign_54 : decode cX12_takesSign 54 = .ok (.iload_n 1, 1) := by decide +kernel
theorem dX12_takesSign_55 : decode cX12_takesSign 55 = .ok (.bipush 42, 2) := by decide +kernel
theorem dX12_takesSign_57 : decode cX12_takesSign 57 = .ok (.if_icmp .ne 12, 3) := by decide +kernel
theorem dX12_takesSign_60 : decode cX12_takesSign 60 = .ok (.iload_n 2, 1) := by decide +kernel
theorem dX12_takesSign_61 : decode cX12_takesSign 61 = .ok (.iconst (-1), 1) := by decide +kernel
theorem dX12_takesSign_62 : decode cX12_takesSign 62 = .ok (.if_icmp .eq 7, 3) := by decide +kernel
theorem dX12_takesSign_65 : decode cX12_takesSign 65 = .ok (.iconst 1, 1) := by decide +kernel
theorem dX12_takesSign_66 : decode cX12_takesSign 66 = .ok (.goto 4, 3) := by decide +kernel
theorem dX12_takesSign_69 : decode cX12_takesSign 69 = .ok (.iconst 0, 1) := by decide +kernel
theorem dX12_takesSign_70 : decode cX12_takesSign 70 = .ok (.iconst 5, 1) := by decide +kernel
theorem dX12_takesSign_71 : decode cX12_takesSign 71 = .ok (.invokevirtual 143, 3) := by decide +kernel
theorem dX12_takesSign_74 : decode cX12_takesSign 74 = .ok (.ireturn, 1) := by decide +kernel
theorem dX12_takesSign_75 : decode cX12_takesSign 75 = .ok (.iload_n 1, 1) := by decide +kernel
theorem dX12_takesSign_76 : decode cX12_takesSign 76 = .ok (.bipush 59, 2) := by decide +kernel
theorem dX12_takesSign_78 : decode cX12_takesSign 78 = .ok (.if_icmp .ne 13, 3) := by decide +kernel
theorem dX12_takesSign_81 : decode cX12_takesSign 81 = .ok (.iload_n 2, 1) := by decide +kernel
theorem dX12_takesSign_82 : decode cX12_takesSign 82 = .ok (.bipush 10, 2) := by decide +kernel
theorem dX12_takesSign_84 : decode cX12_takesSign 84 = .ok (.if_icmp .lt 7, 3) := by decide +kernel
theorem dX12_takesSign_87 : decode cX12_takesSign 87 = .ok (.iconst 1, 1) := by decide +kernel
theorem dX12_takesSign_88 : decode cX12_takesSign 88 = .ok (.goto 4, 3) := by decide +kernel
theorem dX12_takesSign_91 : decode cX12_takesSign 91 = .ok (.iconst 0, 1) := by decide +kernel
theorem dX12_takesSign_92 : decode cX12_takesSign 92 = .ok (.istore_n 3, 1) := by decide +kernel
theorem dX12_takesSign_93 : decode cX12_takesSign 93 = .ok (.iload_n 3, 1) := by decide +kernel
theorem dX12_takesSign_94 : decode cX12_takesSign 94 = .ok (.ifCond .eq 8, 3) := by decide +kernel
theorem dX12_takesSign_97 : decode cX12_takesSign 97 = .ok (.aload_n 0, 1) := by decide +kernel
theorem dX12_takesSign_98 : decode cX12_takesSign 98 = .ok (.iload_n 2, 1) := by decide +kernel
theorem dX12_takesSign_99 : decode cX12_takesSign 99 = .ok (.invokevirtual 150, 3) := by decide +kernel
theorem dX12_takesSign_102 : decode cX12_takesSign 102 = .ok (.aload_n 0, 1) := by decide +kernel
theorem dX12_takesSign_103 : decode cX12_takesSign 103 = .ok (.iload_n 3, 1) := by decide +kernel
theorem dX12_takesSign_104 : decode cX12_takesSign 104 = .ok (.iconst 0, 1) := by decide +kernel
theorem dX12_takesSign_105 : decode cX12_takesSign 105 = .ok (.invokevirtual 143, 3) := by decide +kernel
theorem dX12_takesSign_108 : decode cX12_takesSign 108 = .ok (.ireturn, 1) := by decide +kernel
theorem dX12_putOn_0 : decode cX12_putOn 0 = .ok (.aload_n 0, 1) := by decide +kernel
theorem dX12_putOn_1 : decode cX12_putOn 1 = .ok (.getfield 154, 3) := by decide +kernel
theorem dX12_putOn_4 : decode cX12_putOn 4 = .ok (.ifCond .eq 49, 3) := by decide +kernel
theorem dX12_putOn_7 : decode cX12_putOn 7 = .ok (.aload_n 0, 1) := by decide +kernel
theorem dX12_putOn_8 : decode cX12_putOn 8 = .ok (.getfield 28, 3) := by decide +kernel
theorem dX12_putOn_11 : decode cX12_putOn 11 = .ok (.aload_n 0, 1) := by decide +kernel
theorem dX12_putOn_12 : decode cX12_putOn 12 = .ok (.getfield 158, 3) := by decide +kernel
theorem dX12_putOn_15 : decode cX12_putOn 15 = .ok (.iconst 1, 1) := by decide +kernel
theorem dX12_putOn_16 : decode cX12_putOn 16 = .ok (.bastore, 1) := by decide +kernel
theorem dX12_putOn_17 : decode cX12_putOn 17 = .ok (.aload_n 0, 1) := by decide +kernel
theorem dX12_putOn_18 : decode cX12_putOn 18 = .ok (.getfield 32, 3) := by decide +kernel
theorem dX12_putOn_21 : decode cX12_putOn 21 = .ok (.aload_n 0, 1) := by decide +kernel
theorem dX12_putOn_22 : decode cX12_putOn 22 = .ok (.getfield 158, 3) := by decide +kernel
theorem dX12_putOn_25 : decode cX12_putOn 25 = .ok (.aload_n 0, 1) := by decide +kernel
theorem dX12_putOn_26 : decode cX12_putOn 26 = .ok (.getfield 140, 3) := by decide +kernel
theorem dX12_putOn_29 : decode cX12_putOn 29 = .ok (.iastore, 1) := by decide +kernel
theorem dX12_putOn_30 : decode cX12_putOn 30 = .ok (.aload_n 0, 1) := by decide +kernel
theorem dX12_putOn_31 : decode cX12_putOn 31 = .ok (.getfield 35, 3) := by decide +kernel
theorem dX12_putOn_34 : decode cX12_putOn 34 = .ok (.aload_n 0, 1) := by decide +kernel
theorem dX12_putOn_35 : decode cX12_putOn 35 = .ok (.getfield 158, 3) := by decide +kernel
theorem dX12_putOn_38 : decode cX12_putOn 38 = .ok (.aload_n 0, 1) := by decide +kernel
theorem dX12_putOn_39 : decode cX12_putOn 39 = .ok (.getfield 147, 3) := by decide +kernel
theorem dX12_putOn_42 : decode cX12_putOn 42 = .ok (.iastore, 1) := by decide +kernel
theorem dX12_putOn_43 : decode cX12_putOn 43 = .ok (.aload_n 0, 1) := by decide +kernel
theorem dX12_putOn_44 : decode cX12_putOn 44 = .ok (.getfield 38, 3) := by decide +kernel
theorem dX12_putOn_47 : decode cX12_putOn 47 = .ok (.aload_n 0, 1) := by decide +kernel
theorem dX12_putOn_48 : decode cX12_putOn 48 = .ok (.getfield 158, 3) := by decide +kernel
theorem dX12_putOn_51 : decode cX12_putOn 51 = .ok (.iload_n 1, 1) := by decide +kernel
theorem dX12_putOn_52 : decode cX12_putOn 52 = .ok (.iastore, 1) := by decide +kernel
theorem dX12_putOn_53 : decode cX12_putOn 53 = .ok (.return_, 1) := by decide +kernel
theorem dX12_takesDigit_0 : decode cX12_takesDigit 0 = .ok (.iload_n 1, 1) := by decide +kernel
theorem dX12_takesDigit_1 : decode cX12_takesDigit 1 = .ok (.bipush 48, 2) := by decide +kernel
theorem dX12_takesDigit_3 : decode cX12_takesDigit 3 = .ok (.bipush 52, 2) := by decide +kernel
theorem dX12_takesDigit_5 : decode cX12_takesDigit 5 = .ok (.invokestatic 123, 3) := by decide +kernel
theorem dX12_takesDigit_8 : decode cX12_takesDigit 8 = .ok (.istore_n 2, 1) := by decide +kernel
theorem dX12_takesDigit_9 : decode cX12_takesDigit 9 = .ok (.aload_n 0, 1) := by decide +kernel
theorem dX12_takesDigit_10 : decode cX12_takesDigit 10 = .ok (.iload_n 1, 1) := by decide +kernel
theorem dX12_takesDigit_11 : decode cX12_takesDigit 11 = .ok (.bipush 48, 2) := by decide +kernel
theorem dX12_takesDigit_13 : decode cX12_takesDigit 13 = .ok (.isub, 1) := by decide +kernel
theorem dX12_takesDigit_14 : decode cX12_takesDigit 14 = .ok (.putfield 158, 3) := by decide +kernel
theorem dX12_takesDigit_17 : decode cX12_takesDigit 17 = .ok (.aload_n 0, 1) := by decide +kernel
theorem dX12_takesDigit_18 : decode cX12_takesDigit 18 = .ok (.iload_n 2, 1) := by decide +kernel
theorem dX12_takesDigit_19 : decode cX12_takesDigit 19 = .ok (.iconst 1, 1) := by decide +kernel
theorem dX12_takesDigit_20 : decode cX12_takesDigit 20 = .ok (.invokevirtual 143, 3) := by decide +kernel
theorem dX12_takesDigit_23 : decode cX12_takesDigit 23 = .ok (.ireturn, 1) := by decide +kernel
theorem dX12_takesKind_0 : decode cX12_takesKind 0 = .ok (.iload_n 1, 1) := by decide +kernel
theorem dX12_takesKind_1 : decode cX12_takesKind 1 = .ok (.bipush 45, 2) := by decide +kernel
theorem dX12_takesKind_3 : decode cX12_takesKind 3 = .ok (.if_icmp .ne 43, 3) := by decide +kernel
theorem dX12_takesKind_6 : decode cX12_takesKind 6 = .ok (.aload_n 0, 1) := by decide +kernel
theorem dX12_takesKind_7 : decode cX12_takesKind 7 = .ok (.getfield 28, 3) := by decide +kernel
theorem dX12_takesKind_10 : decode cX12_takesKind 10 = .ok (.aload_n 0, 1) := by decide +kernel
theorem dX12_takesKind_11 : decode cX12_takesKind 11 = .ok (.getfield 158, 3) := by decide +kernel
theorem dX12_takesKind_14 : decode cX12_takesKind 14 = .ok (.aload_n 0, 1) := by decide +kernel
theorem dX12_takesKind_15 : decode cX12_takesKind 15 = .ok (.getfield 28, 3) := by decide +kernel
theorem dX12_takesKind_18 : decode cX12_takesKind 18 = .ok (.aload_n 0, 1) := by decide +kernel
theorem dX12_takesKind_19 : decode cX12_takesKind 19 = .ok (.getfield 158, 3) := by decide +kernel
theorem dX12_takesKind_22 : decode cX12_takesKind 22 = .ok (.baload, 1) := by decide +kernel
theorem dX12_takesKind_23 : decode cX12_takesKind 23 = .ok (.ifCond .eq 14, 3) := by decide +kernel
theorem dX12_takesKind_26 : decode cX12_takesKind 26 = .ok (.aload_n 0, 1) := by decide +kernel
theorem dX12_takesKind_27 : decode cX12_takesKind 27 = .ok (.getfield 154, 3) := by decide +kernel
theorem dX12_takesKind_30 : decode cX12_takesKind 30 = .ok (.ifCond .ne 7, 3) := by decide +kernel
theorem dX12_takesKind_33 : decode cX12_takesKind 33 = .ok (.iconst 1, 1) := by decide +kernel
theorem dX12_takesKind_34 : decode cX12_takesKind 34 = .ok (.goto 4, 3) := by decide +kernel
theorem dX12_takesKind_37 : decode cX12_takesKind 37 = .ok (.iconst 0, 1) := by decide +kernel
theorem dX12_takesKind_38 : decode cX12_takesKind 38 = .ok (.bastore, 1) := by decide +kernel
theorem dX12_takesKind_39 : decode cX12_takesKind 39 = .ok (.aload_n 0, 1) := by decide +kernel
theorem dX12_takesKind_40 : decode cX12_takesKind 40 = .ok (.iconst 1, 1) := by decide +kernel
theorem dX12_takesKind_41 : decode cX12_takesKind 41 = .ok (.iconst 2, 1) := by decide +kernel
theorem dX12_takesKind_42 : decode cX12_takesKind 42 = .ok (.invokevirtual 143, 3) := by decide +kernel
theorem dX12_takesKind_45 : decode cX12_takesKind 45 = .ok (.ireturn, 1) := by decide +kernel
theorem dX12_takesKind_46 : decode cX12_takesKind 46 = .ok (.aload_n 0, 1) := by decide +kernel
theorem dX12_takesKind_47 : decode cX12_takesKind 47 = .ok (.iload_n 1, 1) := by decide +kernel
theorem dX12_takesKind_48 : decode cX12_takesKind 48 = .ok (.bipush 64, 2) := by decide +kernel
theorem dX12_takesKind_50 : decode cX12_takesKind 50 = .ok (.if_icmp .ne 7, 3) := by decide +kernel
theorem dX12_takesKind_53 : decode cX12_takesKind 53 = .ok (.iconst 1, 1) := by decide +kernel
theorem dX12_takesKind_54 : decode cX12_takesKind 54 = .ok (.goto 4, 3) := by decide +kernel
theorem dX12_takesKind_57 : decode cX12_takesKind 57 = .ok (.iconst 0, 1) := by decide +kernel
theorem dX12_takesKind_58 : decode cX12_takesKind 58 = .ok (.iconst 3, 1) := by decide +kernel
theorem dX12_takesKind_59 : decode cX12_takesKind 59 = .ok (.invokevirtual 143, 3) := by decide +kernel
theorem dX12_takesKind_62 : decode cX12_takesKind 62 = .ok (.ireturn, 1) := by decide +kernel
theorem dX12_takes_0 : decode cX12_takes 0 = .ok (.aload_n 0, 1) := by decide +kernel
theorem dX12_takes_1 : decode cX12_takes 1 = .ok (.getfield 130, 3) := by decide +kernel
theorem dX12_takes_4 : decode cX12_takes 4 = .ok (.tableswitch 57 0 2 #[28, 34, 40], 28) := by decide +kernel
theorem dX12_takes_32 : decode cX12_takes 32 = .ok (.aload_n 0, 1) := by decide +kernel
theorem dX12_takes_33 : decode cX12_takes 33 = .ok (.iload_n 1, 1) := by decide +kernel
theorem dX12_takes_34 : decode cX12_takes 34 = .ok (.invokevirtual 161, 3) := by decide +kernel
theorem dX12_takes_37 : decode cX12_takes 37 = .ok (.ireturn, 1) := by decide +kernel
theorem dX12_takes_38 : decode cX12_takes 38 = .ok (.aload_n 0, 1) := by decide +kernel
theorem dX12_takes_39 : decode cX12_takes 39 = .ok (.iload_n 1, 1) := by decide +kernel
theorem dX12_takes_40 : decode cX12_takes 40 = .ok (.invokevirtual 165, 3) := by decide +kernel
theorem dX12_takes_43 : decode cX12_takes 43 = .ok (.ireturn, 1) := by decide +kernel
theorem dX12_takes_44 : decode cX12_takes 44 = .ok (.aload_n 0, 1) := by decide +kernel
theorem dX12_takes_45 : decode cX12_takes 45 = .ok (.iload_n 1, 1) := by decide +kernel
theorem dX12_takes_46 : decode cX12_takes 46 = .ok (.bipush 59, 2) := by decide +kernel
theorem dX12_takes_48 : decode cX12_takes 48 = .ok (.if_icmp .ne 7, 3) := by decide +kernel
theorem dX12_takes_51 : decode cX12_takes 51 = .ok (.iconst 1, 1) := by decide +kernel
theorem dX12_takes_52 : decode cX12_takes 52 = .ok (.goto 4, 3) := by decide +kernel
theorem dX12_takes_55 : decode cX12_takes 55 = .ok (.iconst 0, 1) := by decide +kernel
theorem dX12_takes_56 : decode cX12_takes 56 = .ok (.iconst 0, 1) := by decide +kernel
theorem dX12_takes_57 : decode cX12_takes 57 = .ok (.invokevirtual 143, 3) := by decide +kernel
theorem dX12_takes_60 : decode cX12_takes 60 = .ok (.ireturn, 1) := by decide +kernel
theorem dX12_takes_61 : decode cX12_takes 61 = .ok (.iload_n 1, 1) := by decide +kernel
theorem dX12_takes_62 : decode cX12_takes 62 = .ok (.bipush 48, 2) := by decide +kernel
theorem dX12_takes_64 : decode cX12_takes 64 = .ok (.bipush 57, 2) := by decide +kernel
theorem dX12_takes_66 : decode cX12_takes 66 = .ok (.invokestatic 123, 3) := by decide +kernel
theorem dX12_takes_69 : decode cX12_takes 69 = .ok (.ifCond .eq 14, 3) := by decide +kernel
theorem dX12_takes_72 : decode cX12_takes 72 = .ok (.aload_n 0, 1) := by decide +kernel
theorem dX12_takes_73 : decode cX12_takes 73 = .ok (.iload_n 1, 1) := by decide +kernel
theorem dX12_takes_74 : decode cX12_takes 74 = .ok (.bipush 48, 2) := by decide +kernel
theorem dX12_takes_76 : decode cX12_takes 76 = .ok (.isub, 1) := by decide +kernel
theorem dX12_takes_77 : decode cX12_takes 77 = .ok (.invokevirtual 168, 3) := by decide +kernel
theorem dX12_takes_80 : decode cX12_takes 80 = .ok (.goto 8, 3) := by decide +kernel
theorem dX12_takes_83 : decode cX12_takes 83 = .ok (.aload_n 0, 1) := by decide +kernel
theorem dX12_takes_84 : decode cX12_takes 84 = .ok (.iload_n 1, 1) := by decide +kernel
theorem dX12_takes_85 : decode cX12_takes 85 = .ok (.invokevirtual 171, 3) := by decide +kernel
theorem dX12_takes_88 : decode cX12_takes 88 = .ok (.ireturn, 1) := by decide +kernel
theorem dX12_goAlong_0 : decode cX12_goAlong 0 = .ok (.aload_n 0, 1) := by decide +kernel
theorem dX12_goAlong_1 : decode cX12_goAlong 1 = .ok (.iconst 0, 1) := by decide +kernel
theorem dX12_goAlong_2 : decode cX12_goAlong 2 = .ok (.putfield 130, 3) := by decide +kernel
theorem dX12_goAlong_5 : decode cX12_goAlong 5 = .ok (.aload_n 0, 1) := by decide +kernel
theorem dX12_goAlong_6 : decode cX12_goAlong 6 = .ok (.iconst (-1), 1) := by decide +kernel
theorem dX12_goAlong_7 : decode cX12_goAlong 7 = .ok (.putfield 133, 3) := by decide +kernel
theorem dX12_goAlong_10 : decode cX12_goAlong 10 = .ok (.aload_n 0, 1) := by decide +kernel
theorem dX12_goAlong_11 : decode cX12_goAlong 11 = .ok (.iload_n 1, 1) := by decide +kernel
theorem dX12_goAlong_12 : decode cX12_goAlong 12 = .ok (.putfield 154, 3) := by decide +kernel
theorem dX12_goAlong_15 : decode cX12_goAlong 15 = .ok (.iconst 0, 1) := by decide +kernel
theorem dX12_goAlong_16 : decode cX12_goAlong 16 = .ok (.istore_n 2, 1) := by decide +kernel
theorem dX12_goAlong_17 : decode cX12_goAlong 17 = .ok (.iload_n 2, 1) := by decide +kernel
theorem dX12_goAlong_18 : decode cX12_goAlong 18 = .ok (.aload_n 0, 1) := by decide +kernel
theorem dX12_goAlong_19 : decode cX12_goAlong 19 = .ok (.getfield 127, 3) := by decide +kernel
theorem dX12_goAlong_22 : decode cX12_goAlong 22 = .ok (.if_icmp .ge 22, 3) := by decide +kernel
theorem dX12_goAlong_25 : decode cX12_goAlong 25 = .ok (.aload_n 0, 1) := by decide +kernel
theorem dX12_goAlong_26 : decode cX12_goAlong 26 = .ok (.aload_n 0, 1) := by decide +kernel
theorem dX12_goAlong_27 : decode cX12_goAlong 27 = .ok (.getfield 7, 3) := by decide +kernel
theorem dX12_goAlong_30 : decode cX12_goAlong 30 = .ok (.iload_n 2, 1) := by decide +kernel
theorem dX12_goAlong_31 : decode cX12_goAlong 31 = .ok (.iaload, 1) := by decide +kernel
theorem dX12_goAlong_32 : decode cX12_goAlong 32 = .ok (.invokevirtual 174, 3) := by decide +kernel
theorem dX12_goAlong_35 : decode cX12_goAlong 35 = .ok (.ifCond .eq 9, 3) := by decide +kernel
theorem dX12_goAlong_38 : decode cX12_goAlong 38 = .ok (.iinc 2 1, 3) := by decide +kernel
theorem dX12_goAlong_41 : decode cX12_goAlong 41 = .ok (.goto (-24), 3) := by decide +kernel
theorem dX12_goAlong_44 : decode cX12_goAlong 44 = .ok (.iload_n 2, 1) := by decide +kernel
theorem dX12_goAlong_45 : decode cX12_goAlong 45 = .ok (.ireturn, 1) := by decide +kernel
theorem dX12_fault_0 : decode cX12_fault 0 = .ok (.aload_n 0, 1) := by decide +kernel
theorem dX12_fault_1 : decode cX12_fault 1 = .ok (.invokevirtual 177, 3) := by decide +kernel
theorem dX12_fault_4 : decode cX12_fault 4 = .ok (.ifCond .eq 11, 3) := by decide +kernel
theorem dX12_fault_7 : decode cX12_fault 7 = .ok (.aload_n 0, 1) := by decide +kernel
theorem dX12_fault_8 : decode cX12_fault 8 = .ok (.iconst 0, 1) := by decide +kernel
theorem dX12_fault_9 : decode cX12_fault 9 = .ok (.invokevirtual 181, 3) := by decide +kernel
theorem dX12_fault_12 : decode cX12_fault 12 = .ok (.goto 6, 3) := by decide +kernel
theorem dX12_fault_15 : decode cX12_fault 15 = .ok (.sipush (-10003), 3) := by decide +kernel
theorem dX12_fault_18 : decode cX12_fault 18 = .ok (.ireturn, 1) := by decide +kernel
theorem dX12_onMany_0 : decode cX12_onMany 0 = .ok (.iconst 0, 1) := by decide +kernel
theorem dX12_onMany_1 : decode cX12_onMany 1 = .ok (.istore_n 1, 1) := by decide +kernel
theorem dX12_onMany_2 : decode cX12_onMany 2 = .ok (.iconst 0, 1) := by decide +kernel
theorem dX12_onMany_3 : decode cX12_onMany 3 = .ok (.istore_n 2, 1) := by decide +kernel
theorem dX12_onMany_4 : decode cX12_onMany 4 = .ok (.iload_n 2, 1) := by decide +kernel
theorem dX12_onMany_5 : decode cX12_onMany 5 = .ok (.iconst 5, 1) := by decide +kernel
theorem dX12_onMany_6 : decode cX12_onMany 6 = .ok (.if_icmp .ge 26, 3) := by decide +kernel
theorem dX12_onMany_9 : decode cX12_onMany 9 = .ok (.iload_n 1, 1) := by decide +kernel
theorem dX12_onMany_10 : decode cX12_onMany 10 = .ok (.aload_n 0, 1) := by decide +kernel
theorem dX12_onMany_11 : decode cX12_onMany 11 = .ok (.getfield 28, 3) := by decide +kernel
theorem dX12_onMany_14 : decode cX12_onMany 14 = .ok (.iload_n 2, 1) := by decide +kernel
theorem dX12_onMany_15 : decode cX12_onMany 15 = .ok (.baload, 1) := by decide +kernel
theorem dX12_onMany_16 : decode cX12_onMany 16 = .ok (.ifCond .eq 7, 3) := by decide +kernel
theorem dX12_onMany_19 : decode cX12_onMany 19 = .ok (.iconst 1, 1) := by decide +kernel
theorem dX12_onMany_20 : decode cX12_onMany 20 = .ok (.goto 4, 3) := by decide +kernel
theorem dX12_onMany_23 : decode cX12_onMany 23 = .ok (.iconst 0, 1) := by decide +kernel
theorem dX12_onMany_24 : decode cX12_onMany 24 = .ok (.iadd, 1) := by decide +kernel
theorem dX12_onMany_25 : decode cX12_onMany 25 = .ok (.istore_n 1, 1) := by decide +kernel
theorem dX12_onMany_26 : decode cX12_onMany 26 = .ok (.iinc 2 1, 3) := by decide +kernel
theorem dX12_onMany_29 : decode cX12_onMany 29 = .ok (.goto (-25), 3) := by decide +kernel
theorem dX12_onMany_32 : decode cX12_onMany 32 = .ok (.iload_n 1, 1) := by decide +kernel
theorem dX12_onMany_33 : decode cX12_onMany 33 = .ok (.ireturn, 1) := by decide +kernel
theorem dX12_fingers_0 : decode cX12_fingers 0 = .ok (.aload_n 0, 1) := by decide +kernel
theorem dX12_fingers_1 : decode cX12_fingers 1 = .ok (.invokevirtual 177, 3) := by decide +kernel
theorem dX12_fingers_4 : decode cX12_fingers 4 = .ok (.ifCond .ne 7, 3) := by decide +kernel
theorem dX12_fingers_7 : decode cX12_fingers 7 = .ok (.sipush (-10003), 3) := by decide +kernel
theorem dX12_fingers_10 : decode cX12_fingers 10 = .ok (.ireturn, 1) := by decide +kernel
theorem dX12_fingers_11 : decode cX12_fingers 11 = .ok (.aload_n 0, 1) := by decide +kernel
theorem dX12_fingers_12 : decode cX12_fingers 12 = .ok (.iconst 0, 1) := by decide +kernel
theorem dX12_fingers_13 : decode cX12_fingers 13 = .ok (.invokevirtual 181, 3) := by decide +kernel
theorem dX12_fingers_16 : decode cX12_fingers 16 = .ok (.aload_n 0, 1) := by decide +kernel
theorem dX12_fingers_17 : decode cX12_fingers 17 = .ok (.getfield 127, 3) := by decide +kernel
theorem dX12_fingers_20 : decode cX12_fingers 20 = .ok (.if_icmp .ne 32, 3) := by decide +kernel
theorem dX12_fingers_23 : decode cX12_fingers 23 = .ok (.aload_n 0, 1) := by decide +kernel
theorem dX12_fingers_24 : decode cX12_fingers 24 = .ok (.getfield 130, 3) := by decide +kernel
theorem dX12_fingers_27 : decode cX12_fingers 27 = .ok (.iconst 2, 1) := by decide +kernel
theorem dX12_fingers_28 : decode cX12_fingers 28 = .ok (.if_icmp .eq 20, 3) := by decide +kernel
theorem dX12_fingers_31 : decode cX12_fingers 31 = .ok (.aload_n 0, 1) := by decide +kernel
theorem dX12_fingers_32 : decode cX12_fingers 32 = .ok (.getfield 130, 3) := by decide +kernel
theorem dX12_fingers_35 : decode cX12_fingers 35 = .ok (.iconst 5, 1) := by decide +kernel
theorem dX12_fingers_36 : decode cX12_fingers 36 = .ok (.if_icmp .ne 16, 3) := by decide +kernel
theorem dX12_fingers_39 : decode cX12_fingers 39 = .ok (.aload_n 0, 1) := by decide +kernel
theorem dX12_fingers_40 : decode cX12_fingers 40 = .ok (.getfield 133, 3) := by decide +kernel
theorem dX12_fingers_43 : decode cX12_fingers 43 = .ok (.bipush 10, 2) := by decide +kernel
theorem dX12_fingers_45 : decode cX12_fingers 45 = .ok (.if_icmp .lt 7, 3) := by decide +kernel
theorem dX12_fingers_48 : decode cX12_fingers 48 = .ok (.iconst 1, 1) := by decide +kernel
theorem dX12_fingers_49 : decode cX12_fingers 49 = .ok (.goto 4, 3) := by decide +kernel
theorem dX12_fingers_52 : decode cX12_fingers 52 = .ok (.iconst 0, 1) := by decide +kernel
theorem dX12_fingers_53 : decode cX12_fingers 53 = .ok (.istore_n 1, 1) := by decide +kernel
theorem dX12_fingers_54 : decode cX12_fingers 54 = .ok (.iload_n 1, 1) := by decide +kernel
theorem dX12_fingers_55 : decode cX12_fingers 55 = .ok (.ifCond .ne 7, 3) := by decide +kernel
theorem dX12_fingers_58 : decode cX12_fingers 58 = .ok (.sipush (-10003), 3) := by decide +kernel
theorem dX12_fingers_61 : decode cX12_fingers 61 = .ok (.ireturn, 1) := by decide +kernel
theorem dX12_fingers_62 : decode cX12_fingers 62 = .ok (.aload_n 0, 1) := by decide +kernel
theorem dX12_fingers_63 : decode cX12_fingers 63 = .ok (.iconst 1, 1) := by decide +kernel
theorem dX12_fingers_64 : decode cX12_fingers 64 = .ok (.invokevirtual 181, 3) := by decide +kernel
theorem dX12_fingers_67 : decode cX12_fingers 67 = .ok (.pop, 1) := by decide +kernel
theorem dX12_fingers_68 : decode cX12_fingers 68 = .ok (.aload_n 0, 1) := by decide +kernel
theorem dX12_fingers_69 : decode cX12_fingers 69 = .ok (.getfield 130, 3) := by decide +kernel
theorem dX12_fingers_72 : decode cX12_fingers 72 = .ok (.iconst 5, 1) := by decide +kernel
theorem dX12_fingers_73 : decode cX12_fingers 73 = .ok (.if_icmp .ne 11, 3) := by decide +kernel
theorem dX12_fingers_76 : decode cX12_fingers 76 = .ok (.aload_n 0, 1) := by decide +kernel
theorem dX12_fingers_77 : decode cX12_fingers 77 = .ok (.aload_n 0, 1) := by decide +kernel
theorem dX12_fingers_78 : decode cX12_fingers 78 = .ok (.getfield 133, 3) := by decide +kernel
theorem dX12_fingers_81 : decode cX12_fingers 81 = .ok (.invokevirtual 150, 3) := by decide +kernel
theorem dX12_fingers_84 : decode cX12_fingers 84 = .ok (.aload_n 0, 1) := by decide +kernel
theorem dX12_fingers_85 : decode cX12_fingers 85 = .ok (.dup, 1) := by decide +kernel
theorem dX12_fingers_86 : decode cX12_fingers 86 = .ok (.getfield 185, 3) := by decide +kernel
theorem dX12_fingers_89 : decode cX12_fingers 89 = .ok (.iconst 1, 1) := by decide +kernel
theorem dX12_fingers_90 : decode cX12_fingers 90 = .ok (.iadd, 1) := by decide +kernel
theorem dX12_fingers_91 : decode cX12_fingers 91 = .ok (.putfield 185, 3) := by decide +kernel
theorem dX12_fingers_94 : decode cX12_fingers 94 = .ok (.aload_n 0, 1) := by decide +kernel
theorem dX12_fingers_95 : decode cX12_fingers 95 = .ok (.iconst 0, 1) := by decide +kernel
theorem dX12_fingers_96 : decode cX12_fingers 96 = .ok (.putfield 127, 3) := by decide +kernel
theorem dX12_fingers_99 : decode cX12_fingers 99 = .ok (.aload_n 0, 1) := by decide +kernel
theorem dX12_fingers_100 : decode cX12_fingers 100 = .ok (.invokevirtual 188, 3) := by decide +kernel
theorem dX12_fingers_103 : decode cX12_fingers 103 = .ok (.ireturn, 1) := by decide +kernel
theorem dX12_layBounds_0 : decode cX12_layBounds 0 = .ok (.aload_n 0, 1) := by decide +kernel
theorem dX12_layBounds_1 : decode cX12_layBounds 1 = .ok (.getfield 44, 3) := by decide +kernel
theorem dX12_layBounds_4 : decode cX12_layBounds 4 = .ok (.iconst 0, 1) := by decide +kernel
theorem dX12_layBounds_5 : decode cX12_layBounds 5 = .ok (.bipush 40, 2) := by decide +kernel
theorem dX12_layBounds_7 : decode cX12_layBounds 7 = .ok (.iastore, 1) := by decide +kernel
theorem dX12_layBounds_8 : decode cX12_layBounds 8 = .ok (.aload_n 0, 1) := by decide +kernel
theorem dX12_layBounds_9 : decode cX12_layBounds 9 = .ok (.getfield 44, 3) := by decide +kernel
theorem dX12_layBounds_12 : decode cX12_layBounds 12 = .ok (.iconst 1, 1) := by decide +kernel
theorem dX12_layBounds_13 : decode cX12_layBounds 13 = .ok (.bipush 20, 2) := by decide +kernel
theorem dX12_layBounds_15 : decode cX12_layBounds 15 = .ok (.iastore, 1) := by decide +kernel
theorem dX12_layBounds_16 : decode cX12_layBounds 16 = .ok (.aload_n 0, 1) := by decide +kernel
theorem dX12_layBounds_17 : decode cX12_layBounds 17 = .ok (.getfield 44, 3) := by decide +kernel
theorem dX12_layBounds_20 : decode cX12_layBounds 20 = .ok (.iconst 2, 1) := by decide +kernel
theorem dX12_layBounds_21 : decode cX12_layBounds 21 = .ok (.bipush 80, 2) := by decide +kernel
theorem dX12_layBounds_23 : decode cX12_layBounds 23 = .ok (.iastore, 1) := by decide +kernel
theorem dX12_layBounds_24 : decode cX12_layBounds 24 = .ok (.aload_n 0, 1) := by decide +kernel
theorem dX12_layBounds_25 : decode cX12_layBounds 25 = .ok (.getfield 44, 3) := by decide +kernel
theorem dX12_layBounds_28 : decode cX12_layBounds 28 = .ok (.iconst 3, 1) := by decide +kernel
theorem dX12_layBounds_29 : decode cX12_layBounds 29 = .ok (.bipush 10, 2) := by decide +kernel
theorem dX12_layBounds_31 : decode cX12_layBounds 31 = .ok (.iastore, 1) := by decide +kernel
theorem dX12_layBounds_32 : decode cX12_layBounds 32 = .ok (.aload_n 0, 1) := by decide +kernel
theorem dX12_layBounds_33 : decode cX12_layBounds 33 = .ok (.getfield 44, 3) := by decide +kernel
theorem dX12_layBounds_36 : decode cX12_layBounds 36 = .ok (.iconst 4, 1) := by decide +kernel
theorem dX12_layBounds_37 : decode cX12_layBounds 37 = .ok (.bipush 24, 2) := by decide +kernel
theorem dX12_layBounds_39 : decode cX12_layBounds 39 = .ok (.iastore, 1) := by decide +kernel
theorem dX12_layBounds_40 : decode cX12_layBounds 40 = .ok (.aload_n 0, 1) := by decide +kernel
theorem dX12_layBounds_41 : decode cX12_layBounds 41 = .ok (.getfield 44, 3) := by decide +kernel
theorem dX12_layBounds_44 : decode cX12_layBounds 44 = .ok (.iconst 5, 1) := by decide +kernel
theorem dX12_layBounds_45 : decode cX12_layBounds 45 = .ok (.iconst 1, 1) := by decide +kernel
theorem dX12_layBounds_46 : decode cX12_layBounds 46 = .ok (.iastore, 1) := by decide +kernel
theorem dX12_layBounds_47 : decode cX12_layBounds 47 = .ok (.aload_n 0, 1) := by decide +kernel
theorem dX12_layBounds_48 : decode cX12_layBounds 48 = .ok (.getfield 44, 3) := by decide +kernel
theorem dX12_layBounds_51 : decode cX12_layBounds 51 = .ok (.bipush 6, 2) := by decide +kernel
theorem dX12_layBounds_53 : decode cX12_layBounds 53 = .ok (.bipush 6, 2) := by decide +kernel
theorem dX12_layBounds_55 : decode cX12_layBounds 55 = .ok (.iastore, 1) := by decide +kernel
theorem dX12_layBounds_56 : decode cX12_layBounds 56 = .ok (.aload_n 0, 1) := by decide +kernel
theorem dX12_layBounds_57 : decode cX12_layBounds 57 = .ok (.getfield 44, 3) := by decide +kernel
theorem dX12_layBounds_60 : decode cX12_layBounds 60 = .ok (.bipush 7, 2) := by decide +kernel
theorem dX12_layBounds_62 : decode cX12_layBounds 62 = .ok (.iconst 2, 1) := by decide +kernel
theorem dX12_layBounds_63 : decode cX12_layBounds 63 = .ok (.iastore, 1) := by decide +kernel
theorem dX12_layBounds_64 : decode cX12_layBounds 64 = .ok (.aload_n 0, 1) := by decide +kernel
theorem dX12_layBounds_65 : decode cX12_layBounds 65 = .ok (.getfield 44, 3) := by decide +kernel
theorem dX12_layBounds_68 : decode cX12_layBounds 68 = .ok (.bipush 8, 2) := by decide +kernel
theorem dX12_layBounds_70 : decode cX12_layBounds 70 = .ok (.bipush 30, 2) := by decide +kernel
theorem dX12_layBounds_72 : decode cX12_layBounds 72 = .ok (.iastore, 1) := by decide +kernel
theorem dX12_layBounds_73 : decode cX12_layBounds 73 = .ok (.return_, 1) := by decide +kernel
theorem dX12_glass_0 : decode cX12_glass 0 = .ok (.iload_n 1, 1) := by decide +kernel
theorem dX12_glass_1 : decode cX12_glass 1 = .ok (.iconst 3, 1) := by decide +kernel
theorem dX12_glass_2 : decode cX12_glass 2 = .ok (.bipush 8, 2) := by decide +kernel
theorem dX12_glass_4 : decode cX12_glass 4 = .ok (.invokestatic 123, 3) := by decide +kernel
theorem dX12_glass_7 : decode cX12_glass 7 = .ok (.ifCond .eq 13, 3) := by decide +kernel
theorem dX12_glass_10 : decode cX12_glass 10 = .ok (.iload_n 2, 1) := by decide +kernel
theorem dX12_glass_11 : decode cX12_glass 11 = .ok (.iconst 3, 1) := by decide +kernel
theorem dX12_glass_12 : decode cX12_glass 12 = .ok (.bipush 8, 2) := by decide +kernel
theorem dX12_glass_14 : decode cX12_glass 14 = .ok (.invokestatic 123, 3) := by decide +kernel
theorem dX12_glass_17 : decode cX12_glass 17 = .ok (.ifCond .ne 7, 3) := by decide +kernel
theorem dX12_glass_20 : decode cX12_glass 20 = .ok (.sipush (-10002), 3) := by decide +kernel
theorem dX12_glass_23 : decode cX12_glass 23 = .ok (.ireturn, 1) := by decide +kernel
theorem dX12_glass_24 : decode cX12_glass 24 = .ok (.aload_n 0, 1) := by decide +kernel
theorem dX12_glass_25 : decode cX12_glass 25 = .ok (.iload_n 1, 1) := by decide +kernel
theorem dX12_glass_26 : decode cX12_glass 26 = .ok (.putfield 116, 3) := by decide +kernel
theorem dX12_glass_29 : decode cX12_glass 29 = .ok (.aload_n 0, 1) := by decide +kernel
theorem dX12_glass_30 : decode cX12_glass 30 = .ok (.iload_n 2, 1) := by decide +kernel
theorem dX12_glass_31 : decode cX12_glass 31 = .ok (.putfield 120, 3) := by decide +kernel
theorem dX12_glass_34 : decode cX12_glass 34 = .ok (.iconst 0, 1) := by decide +kernel
theorem dX12_glass_35 : decode cX12_glass 35 = .ok (.istore_n 3, 1) := by decide +kernel
theorem dX12_glass_36 : decode cX12_glass 36 = .ok (.iload_n 3, 1) := by decide +kernel
theorem dX12_glass_37 : decode cX12_glass 37 = .ok (.bipush 64, 2) := by decide +kernel
theorem dX12_glass_39 : decode cX12_glass 39 = .ok (.if_icmp .ge 46, 3) := by decide +kernel
theorem dX12_glass_42 : decode cX12_glass 42 = .ok (.aload_n 0, 1) := by decide +kernel
theorem dX12_glass_43 : decode cX12_glass 43 = .ok (.getfield 13, 3) := by decide +kernel
theorem dX12_glass_46 : decode cX12_glass 46 = .ok (.iload_n 3, 1) := by decide +kernel
theorem dX12_glass_47 : decode cX12_glass 47 = .ok (.bipush 100, 2) := by decide +kernel
theorem dX12_glass_49 : decode cX12_glass 49 = .ok (.iastore, 1) := by decide +kernel
theorem dX12_glass_50 : decode cX12_glass 50 = .ok (.aload_n 0, 1) := by decide +kernel
theorem dX12_glass_51 : decode cX12_glass 51 = .ok (.getfield 16, 3) := by decide +kernel
theorem dX12_glass_54 : decode cX12_glass 54 = .ok (.iload_n 3, 1) := by decide +kernel
theorem dX12_glass_55 : decode cX12_glass 55 = .ok (.bipush 100, 2) := by decide +kernel
theorem dX12_glass_57 : decode cX12_glass 57 = .ok (.iastore, 1) := by decide +kernel
theorem dX12_glass_58 : decode cX12_glass 58 = .ok (.aload_n 0, 1) := by decide +kernel
theorem dX12_glass_59 : decode cX12_glass 59 = .ok (.getfield 19, 3) := by decide +kernel
theorem dX12_glass_62 : decode cX12_glass 62 = .ok (.iload_n 3, 1) := by decide +kernel
theorem dX12_glass_63 : decode cX12_glass 63 = .ok (.iconst 0, 1) := by decide +kernel
theorem dX12_glass_64 : decode cX12_glass 64 = .ok (.iastore, 1) := by decide +kernel
theorem dX12_glass_65 : decode cX12_glass 65 = .ok (.aload_n 0, 1) := by decide +kernel
theorem dX12_glass_66 : decode cX12_glass 66 = .ok (.getfield 22, 3) := by decide +kernel
theorem dX12_glass_69 : decode cX12_glass 69 = .ok (.iload_n 3, 1) := by decide +kernel
theorem dX12_glass_70 : decode cX12_glass 70 = .ok (.iconst 0, 1) := by decide +kernel
theorem dX12_glass_71 : decode cX12_glass 71 = .ok (.iastore, 1) := by decide +kernel
theorem dX12_glass_72 : decode cX12_glass 72 = .ok (.aload_n 0, 1) := by decide +kernel
theorem dX12_glass_73 : decode cX12_glass 73 = .ok (.getfield 25, 3) := by decide +kernel
theorem dX12_glass_76 : decode cX12_glass 76 = .ok (.iload_n 3, 1) := by decide +kernel
theorem dX12_glass_77 : decode cX12_glass 77 = .ok (.iconst (-1), 1) := by decide +kernel
theorem dX12_glass_78 : decode cX12_glass 78 = .ok (.iastore, 1) := by decide +kernel
theorem dX12_glass_79 : decode cX12_glass 79 = .ok (.iinc 3 1, 3) := by decide +kernel
theorem dX12_glass_82 : decode cX12_glass 82 = .ok (.goto (-46), 3) := by decide +kernel
theorem dX12_glass_85 : decode cX12_glass 85 = .ok (.iconst 0, 1) := by decide +kernel
theorem dX12_glass_86 : decode cX12_glass 86 = .ok (.istore_n 3, 1) := by decide +kernel
theorem dX12_glass_87 : decode cX12_glass 87 = .ok (.iload_n 3, 1) := by decide +kernel
theorem dX12_glass_88 : decode cX12_glass 88 = .ok (.iconst 5, 1) := by decide +kernel
theorem dX12_glass_89 : decode cX12_glass 89 = .ok (.if_icmp .ge 16, 3) := by decide +kernel
theorem dX12_glass_92 : decode cX12_glass 92 = .ok (.aload_n 0, 1) := by decide +kernel
theorem dX12_glass_93 : decode cX12_glass 93 = .ok (.getfield 28, 3) := by decide +kernel
theorem dX12_glass_96 : decode cX12_glass 96 = .ok (.iload_n 3, 1) := by decide +kernel
theorem dX12_glass_97 : decode cX12_glass 97 = .ok (.iconst 0, 1) := by decide +kernel
theorem dX12_glass_98 : decode cX12_glass 98 = .ok (.bastore, 1) := by decide +kernel
theorem dX12_glass_99 : decode cX12_glass 99 = .ok (.iinc 3 1, 3) := by decide +kernel
theorem dX12_glass_102 : decode cX12_glass 102 = .ok (.goto (-15), 3) := by decide +kernel
theorem dX12_glass_105 : decode cX12_glass 105 = .ok (.iconst 0, 1) := by decide +kernel
theorem dX12_glass_106 : decode cX12_glass 106 = .ok (.istore_n 3, 1) := by decide +kernel
theorem dX12_glass_107 : decode cX12_glass 107 = .ok (.iload_n 3, 1) := by decide +kernel
theorem dX12_glass_108 : decode cX12_glass 108 = .ok (.iconst 3, 1) := by decide +kernel
theorem dX12_glass_109 : decode cX12_glass 109 = .ok (.if_icmp .ge 16, 3) := by decide +kernel
theorem dX12_glass_112 : decode cX12_glass 112 = .ok (.aload_n 0, 1) := by decide +kernel
theorem dX12_glass_113 : decode cX12_glass 113 = .ok (.getfield 41, 3) := by decide +kernel
theorem dX12_glass_116 : decode cX12_glass 116 = .ok (.iload_n 3, 1) := by decide +kernel
theorem dX12_glass_117 : decode cX12_glass 117 = .ok (.iconst 0, 1) := by decide +kernel
theorem dX12_glass_118 : decode cX12_glass 118 = .ok (.iastore, 1) := by decide +kernel
theorem dX12_glass_119 : decode cX12_glass 119 = .ok (.iinc 3 1, 3) := by decide +kernel
theorem dX12_glass_122 : decode cX12_glass 122 = .ok (.goto (-15), 3) := by decide +kernel
theorem dX12_glass_125 : decode cX12_glass 125 = .ok (.aload_n 0, 1) := by decide +kernel
theorem dX12_glass_126 : decode cX12_glass 126 = .ok (.invokevirtual 191, 3) := by decide +kernel
theorem dX12_glass_129 : decode cX12_glass 129 = .ok (.aload_n 0, 1) := by decide +kernel
theorem dX12_glass_130 : decode cX12_glass 130 = .ok (.iconst 0, 1) := by decide +kernel
theorem dX12_glass_131 : decode cX12_glass 131 = .ok (.putfield 194, 3) := by decide +kernel
theorem dX12_glass_134 : decode cX12_glass 134 = .ok (.aload_n 0, 1) := by decide +kernel
theorem dX12_glass_135 : decode cX12_glass 135 = .ok (.iconst 1, 1) := by decide +kernel
theorem dX12_glass_136 : decode cX12_glass 136 = .ok (.putfield 197, 3) := by decide +kernel
theorem dX12_glass_139 : decode cX12_glass 139 = .ok (.aload_n 0, 1) := by decide +kernel
theorem dX12_glass_140 : decode cX12_glass 140 = .ok (.iconst 0, 1) := by decide +kernel
theorem dX12_glass_141 : decode cX12_glass 141 = .ok (.putfield 200, 3) := by decide +kernel
theorem dX12_glass_144 : decode cX12_glass 144 = .ok (.aload_n 0, 1) := by decide +kernel
theorem dX12_glass_145 : decode cX12_glass 145 = .ok (.iconst 0, 1) := by decide +kernel
theorem dX12_glass_146 : decode cX12_glass 146 = .ok (.putfield 203, 3) := by decide +kernel
theorem dX12_glass_149 : decode cX12_glass 149 = .ok (.aload_n 0, 1) := by decide +kernel
theorem dX12_glass_150 : decode cX12_glass 150 = .ok (.iconst 0, 1) := by decide +kernel
theorem dX12_glass_151 : decode cX12_glass 151 = .ok (.putfield 206, 3) := by decide +kernel
theorem dX12_glass_154 : decode cX12_glass 154 = .ok (.aload_n 0, 1) := by decide +kernel
theorem dX12_glass_155 : decode cX12_glass 155 = .ok (.iconst 0, 1) := by decide +kernel
theorem dX12_glass_156 : decode cX12_glass 156 = .ok (.putfield 209, 3) := by decide +kernel
theorem dX12_glass_159 : decode cX12_glass 159 = .ok (.aload_n 0, 1) := by decide +kernel
theorem dX12_glass_160 : decode cX12_glass 160 = .ok (.iconst 0, 1) := by decide +kernel
theorem dX12_glass_161 : decode cX12_glass 161 = .ok (.putfield 212, 3) := by decide +kernel
theorem dX12_glass_164 : decode cX12_glass 164 = .ok (.aload_n 0, 1) := by decide +kernel
theorem dX12_glass_165 : decode cX12_glass 165 = .ok (.dup, 1) := by decide +kernel
theorem dX12_glass_166 : decode cX12_glass 166 = .ok (.getfield 215, 3) := by decide +kernel
theorem dX12_glass_169 : decode cX12_glass 169 = .ok (.iconst 1, 1) := by decide +kernel
theorem dX12_glass_170 : decode cX12_glass 170 = .ok (.iadd, 1) := by decide +kernel
theorem dX12_glass_171 : decode cX12_glass 171 = .ok (.putfield 215, 3) := by decide +kernel
theorem dX12_glass_174 : decode cX12_glass 174 = .ok (.aload_n 0, 1) := by decide +kernel
theorem dX12_glass_175 : decode cX12_glass 175 = .ok (.invokevirtual 218, 3) := by decide +kernel
theorem dX12_glass_178 : decode cX12_glass 178 = .ok (.ireturn, 1) := by decide +kernel
theorem dX12_isCell_0 : decode cX12_isCell 0 = .ok (.aload_n 0, 1) := by decide +kernel
theorem dX12_isCell_1 : decode cX12_isCell 1 = .ok (.invokevirtual 177, 3) := by decide +kernel
theorem dX12_isCell_4 : decode cX12_isCell 4 = .ok (.ifCond .eq 21, 3) := by decide +kernel
theorem dX12_isCell_7 : decode cX12_isCell 7 = .ok (.iload_n 1, 1) := by decide +kernel
theorem dX12_isCell_8 : decode cX12_isCell 8 = .ok (.iconst 0, 1) := by decide +kernel
theorem dX12_isCell_9 : decode cX12_isCell 9 = .ok (.aload_n 0, 1) := by decide +kernel
theorem dX12_isCell_10 : decode cX12_isCell 10 = .ok (.invokevirtual 218, 3) := by decide +kernel
theorem dX12_isCell_13 : decode cX12_isCell 13 = .ok (.iconst 1, 1) := by decide +kernel
theorem dX12_isCell_14 : decode cX12_isCell 14 = .ok (.isub, 1) := by decide +kernel
theorem dX12_isCell_15 : decode cX12_isCell 15 = .ok (.invokestatic 123, 3) := by decide +kernel
theorem dX12_isCell_18 : decode cX12_isCell 18 = .ok (.ifCond .eq 7, 3) := by decide +kernel
theorem dX12_isCell_21 : decode cX12_isCell 21 = .ok (.iconst 1, 1) := by decide +kernel
theorem dX12_isCell_22 : decode cX12_isCell 22 = .ok (.goto 4, 3) := by decide +kernel
theorem dX12_isCell_25 : decode cX12_isCell 25 = .ok (.iconst 0, 1) := by decide +kernel
theorem dX12_isCell_26 : decode cX12_isCell 26 = .ok (.ireturn, 1) := by decide +kernel
theorem dX12_air_0 : decode cX12_air 0 = .ok (.aload_n 0, 1) := by decide +kernel
theorem dX12_air_1 : decode cX12_air 1 = .ok (.iload_n 1, 1) := by decide +kernel
theorem dX12_air_2 : decode cX12_air 2 = .ok (.invokevirtual 221, 3) := by decide +kernel
theorem dX12_air_5 : decode cX12_air 5 = .ok (.ifCond .ne 7, 3) := by decide +kernel
theorem dX12_air_8 : decode cX12_air 8 = .ok (.sipush (-10001), 3) := by decide +kernel
theorem dX12_air_11 : decode cX12_air 11 = .ok (.ireturn, 1) := by decide +kernel
theorem dX12_air_12 : decode cX12_air 12 = .ok (.iload_n 2, 1) := by decide +kernel
theorem dX12_air_13 : decode cX12_air 13 = .ok (.iconst 0, 1) := by decide +kernel
theorem dX12_air_14 : decode cX12_air 14 = .ok (.sipush 999, 3) := by decide +kernel
theorem dX12_air_17 : decode cX12_air 17 = .ok (.invokestatic 123, 3) := by decide +kernel
theorem dX12_air_20 : decode cX12_air 20 = .ok (.ifCond .ne 7, 3) := by decide +kernel
theorem dX12_air_23 : decode cX12_air 23 = .ok (.sipush (-10002), 3) := by decide +kernel
theorem dX12_air_26 : decode cX12_air 26 = .ok (.ireturn, 1) := by decide +kernel
theorem dX12_air_27 : decode cX12_air 27 = .ok (.aload_n 0, 1) := by decide +kernel
theorem dX12_air_28 : decode cX12_air 28 = .ok (.getfield 13, 3) := by decide +kernel
theorem dX12_air_31 : decode cX12_air 31 = .ok (.iload_n 1, 1) := by decide +kernel
theorem dX12_air_32 : decode cX12_air 32 = .ok (.iaload, 1) := by decide +kernel
theorem dX12_air_33 : decode cX12_air 33 = .ok (.istore_n 3, 1) := by decide +kernel
theorem dX12_air_34 : decode cX12_air 34 = .ok (.aload_n 0, 1) := by decide +kernel
theorem dX12_air_35 : decode cX12_air 35 = .ok (.getfield 13, 3) := by decide +kernel
theorem dX12_air_38 : decode cX12_air 38 = .ok (.iload_n 1, 1) := by decide +kernel
theorem dX12_air_39 : decode cX12_air 39 = .ok (.iload_n 2, 1) := by decide +kernel
theorem dX12_air_40 : decode cX12_air 40 = .ok (.iastore, 1) := by decide +kernel
theorem dX12_air_41 : decode cX12_air 41 = .ok (.iload_n 3, 1) := by decide +kernel
theorem dX12_air_42 : decode cX12_air 42 = .ok (.ireturn, 1) := by decide +kernel
theorem dX12_held_0 : decode cX12_held 0 = .ok (.iload_n 0, 1) := by decide +kernel
theorem dX12_held_1 : decode cX12_held 1 = .ok (.ifCond .ge 7, 3) := by decide +kernel
theorem dX12_held_4 : decode cX12_held 4 = .ok (.iconst 0, 1) := by decide +kernel
theorem dX12_held_5 : decode cX12_held 5 = .ok (.goto 17, 3) := by decide +kernel
theorem dX12_held_8 : decode cX12_held 8 = .ok (.iload_n 0, 1) := by decide +kernel
theorem dX12_held_9 : decode cX12_held 9 = .ok (.sipush 999, 3) := by decide +kernel
theorem dX12_held_12 : decode cX12_held 12 = .ok (.if_icmp .le 9, 3) := by decide +kernel
theorem dX12_held_15 : decode cX12_held 15 = .ok (.sipush 999, 3) := by decide +kernel
theorem dX12_held_18 : decode cX12_held 18 = .ok (.goto 4, 3) := by decide +kernel
theorem dX12_held_21 : decode cX12_held 21 = .ok (.iload_n 0, 1) := by decide +kernel
theorem dX12_held_22 : decode cX12_held 22 = .ok (.ireturn, 1) := by decide +kernel
theorem dX12_warm_0 : decode cX12_warm 0 = .ok (.aload_n 0, 1) := by decide +kernel
theorem dX12_warm_1 : decode cX12_warm 1 = .ok (.invokevirtual 177, 3) := by decide +kernel
theorem dX12_warm_4 : decode cX12_warm 4 = .ok (.ifCond .ne 7, 3) := by decide +kernel
theorem dX12_warm_7 : decode cX12_warm 7 = .ok (.sipush (-10003), 3) := by decide +kernel
theorem dX12_warm_10 : decode cX12_warm 10 = .ok (.ireturn, 1) := by decide +kernel
theorem dX12_warm_11 : decode cX12_warm 11 = .ok (.iload_n 1, 1) := by decide +kernel
theorem dX12_warm_12 : decode cX12_warm 12 = .ok (.bipush (-99), 2) := by decide +kernel
theorem dX12_warm_14 : decode cX12_warm 14 = .ok (.bipush 99, 2) := by decide +kernel
theorem dX12_warm_16 : decode cX12_warm 16 = .ok (.invokestatic 123, 3) := by decide +kernel
theorem dX12_warm_19 : decode cX12_warm 19 = .ok (.ifCond .ne 7, 3) := by decide +kernel
theorem dX12_warm_22 : decode cX12_warm 22 = .ok (.sipush (-10002), 3) := by decide +kernel
theorem dX12_warm_25 : decode cX12_warm 25 = .ok (.ireturn, 1) := by decide +kernel
theorem dX12_warm_26 : decode cX12_warm 26 = .ok (.iconst 0, 1) := by decide +kernel
theorem dX12_warm_27 : decode cX12_warm 27 = .ok (.istore_n 2, 1) := by decide +kernel
theorem dX12_warm_28 : decode cX12_warm 28 = .ok (.iconst 0, 1) := by decide +kernel
theorem dX12_warm_29 : decode cX12_warm 29 = .ok (.istore_n 3, 1) := by decide +kernel
theorem dX12_warm_30 : decode cX12_warm 30 = .ok (.iload_n 3, 1) := by decide +kernel
theorem dX12_warm_31 : decode cX12_warm 31 = .ok (.aload_n 0, 1) := by decide +kernel
theorem dX12_warm_32 : decode cX12_warm 32 = .ok (.invokevirtual 218, 3) := by decide +kernel
theorem dX12_warm_35 : decode cX12_warm 35 = .ok (.if_icmp .ge 49, 3) := by decide +kernel
theorem dX12_warm_38 : decode cX12_warm 38 = .ok (.aload_n 0, 1) := by decide +kernel
theorem dX12_warm_39 : decode cX12_warm 39 = .ok (.getfield 13, 3) := by decide +kernel
theorem dX12_warm_42 : decode cX12_warm 42 = .ok (.iload_n 3, 1) := by decide +kernel
theorem dX12_warm_43 : decode cX12_warm 43 = .ok (.iaload, 1) := by decide +kernel
theorem dX12_warm_44 : decode cX12_warm 44 = .ok (.iload_n 1, 1) := by decide +kernel
theorem dX12_warm_45 : decode cX12_warm 45 = .ok (.iadd, 1) := by decide +kernel
theorem dX12_warm_46 : decode cX12_warm 46 = .ok (.invokestatic 224, 3) := by decide +kernel
theorem dX12_warm_49 : decode cX12_warm 49 = .ok (.istore 4, 2) := by decide +kernel
theorem dX12_warm_51 : decode cX12_warm 51 = .ok (.iload_n 2, 1) := by decide +kernel
theorem dX12_warm_52 : decode cX12_warm 52 = .ok (.iload 4, 2) := by decide +kernel
theorem dX12_warm_54 : decode cX12_warm 54 = .ok (.aload_n 0, 1) := by decide +kernel
theorem dX12_warm_55 : decode cX12_warm 55 = .ok (.getfield 13, 3) := by decide +kernel
theorem dX12_warm_58 : decode cX12_warm 58 = .ok (.iload_n 3, 1) := by decide +kernel
theorem dX12_warm_59 : decode cX12_warm 59 = .ok (.iaload, 1) := by decide +kernel
theorem dX12_warm_60 : decode cX12_warm 60 = .ok (.if_icmp .ne 7, 3) := by decide +kernel
theorem dX12_warm_63 : decode cX12_warm 63 = .ok (.iconst 0, 1) := by decide +kernel
theorem dX12_warm_64 : decode cX12_warm 64 = .ok (.goto 4, 3) := by decide +kernel
theorem dX12_warm_67 : decode cX12_warm 67 = .ok (.iconst 1, 1) := by decide +kernel
theorem dX12_warm_68 : decode cX12_warm 68 = .ok (.iadd, 1) := by decide +kernel
theorem dX12_warm_69 : decode cX12_warm 69 = .ok (.istore_n 2, 1) := by decide +kernel
theorem dX12_warm_70 : decode cX12_warm 70 = .ok (.aload_n 0, 1) := by decide +kernel
theorem dX12_warm_71 : decode cX12_warm 71 = .ok (.getfield 13, 3) := by decide +kernel
theorem dX12_warm_74 : decode cX12_warm 74 = .ok (.iload_n 3, 1) := by decide +kernel
theorem dX12_warm_75 : decode cX12_warm 75 = .ok (.iload 4, 2) := by decide +kernel
theorem dX12_warm_77 : decode cX12_warm 77 = .ok (.iastore, 1) := by decide +kernel
theorem dX12_warm_78 : decode cX12_warm 78 = .ok (.iinc 3 1, 3) := by decide +kernel
theorem dX12_warm_81 : decode cX12_warm 81 = .ok (.goto (-51), 3) := by decide +kernel
theorem dX12_warm_84 : decode cX12_warm 84 = .ok (.iload_n 2, 1) := by decide +kernel
theorem dX12_warm_85 : decode cX12_warm 85 = .ok (.ireturn, 1) := by decide +kernel
theorem dX12_noise_0 : decode cX12_noise 0 = .ok (.aload_n 0, 1) := by decide +kernel
theorem dX12_noise_1 : decode cX12_noise 1 = .ok (.invokevirtual 177, 3) := by decide +kernel
theorem dX12_noise_4 : decode cX12_noise 4 = .ok (.ifCond .ne 7, 3) := by decide +kernel
theorem dX12_noise_7 : decode cX12_noise 7 = .ok (.sipush (-10003), 3) := by decide +kernel
theorem dX12_noise_10 : decode cX12_noise 10 = .ok (.ireturn, 1) := by decide +kernel
theorem dX12_noise_11 : decode cX12_noise 11 = .ok (.iload_n 1, 1) := by decide +kernel
theorem dX12_noise_12 : decode cX12_noise 12 = .ok (.iconst 0, 1) := by decide +kernel
theorem dX12_noise_13 : decode cX12_noise 13 = .ok (.iconst 2, 1) := by decide +kernel
theorem dX12_noise_14 : decode cX12_noise 14 = .ok (.invokestatic 123, 3) := by decide +kernel
theorem dX12_noise_17 : decode cX12_noise 17 = .ok (.ifCond .eq 13, 3) := by decide +kernel
theorem dX12_noise_20 : decode cX12_noise 20 = .ok (.iload_n 2, 1) := by decide +kernel
theorem dX12_noise_21 : decode cX12_noise 21 = .ok (.iconst 0, 1) := by decide +kernel
theorem dX12_noise_22 : decode cX12_noise 22 = .ok (.bipush 60, 2) := by decide +kernel
theorem dX12_noise_24 : decode cX12_noise 24 = .ok (.invokestatic 123, 3) := by decide +kernel
theorem dX12_noise_27 : decode cX12_noise 27 = .ok (.ifCond .ne 7, 3) := by decide +kernel
theorem dX12_noise_30 : decode cX12_noise 30 = .ok (.sipush (-10002), 3) := by decide +kernel
theorem dX12_noise_33 : decode cX12_noise 33 = .ok (.ireturn, 1) := by decide +kernel
theorem dX12_noise_34 : decode cX12_noise 34 = .ok (.aload_n 0, 1) := by decide +kernel
theorem dX12_noise_35 : decode cX12_noise 35 = .ok (.getfield 41, 3) := by decide +kernel
theorem dX12_noise_38 : decode cX12_noise 38 = .ok (.iload_n 1, 1) := by decide +kernel
theorem dX12_noise_39 : decode cX12_noise 39 = .ok (.iaload, 1) := by decide +kernel
theorem dX12_noise_40 : decode cX12_noise 40 = .ok (.istore_n 3, 1) := by decide +kernel
theorem dX12_noise_41 : decode cX12_noise 41 = .ok (.aload_n 0, 1) := by decide +kernel
theorem dX12_noise_42 : decode cX12_noise 42 = .ok (.getfield 41, 3) := by decide +kernel
theorem dX12_noise_45 : decode cX12_noise 45 = .ok (.iload_n 1, 1) := by decide +kernel
theorem dX12_noise_46 : decode cX12_noise 46 = .ok (.iload_n 2, 1) := by decide +kernel
theorem dX12_noise_47 : decode cX12_noise 47 = .ok (.iastore, 1) := by decide +kernel
theorem dX12_noise_48 : decode cX12_noise 48 = .ok (.iload_n 3, 1) := by decide +kernel
theorem dX12_noise_49 : decode cX12_noise 49 = .ok (.ireturn, 1) := by decide +kernel
theorem dX12_seed_0 : decode cX12_seed 0 = .ok (.aload_n 0, 1) := by decide +kernel
theorem dX12_seed_1 : decode cX12_seed 1 = .ok (.invokevirtual 177, 3) := by decide +kernel
theorem dX12_seed_4 : decode cX12_seed 4 = .ok (.ifCond .ne 7, 3) := by decide +kernel
theorem dX12_seed_7 : decode cX12_seed 7 = .ok (.sipush (-10003), 3) := by decide +kernel
theorem dX12_seed_10 : decode cX12_seed 10 = .ok (.ireturn, 1) := by decide +kernel
theorem dX12_seed_11 : decode cX12_seed 11 = .ok (.iload_n 1, 1) := by decide +kernel
theorem dX12_seed_12 : decode cX12_seed 12 = .ok (.ifCond .ge 7, 3) := by decide +kernel
theorem dX12_seed_15 : decode cX12_seed 15 = .ok (.sipush (-10002), 3) := by decide +kernel
theorem dX12_seed_18 : decode cX12_seed 18 = .ok (.ireturn, 1) := by decide +kernel
theorem dX12_seed_19 : decode cX12_seed 19 = .ok (.aload_n 0, 1) := by decide +kernel
theorem dX12_seed_20 : decode cX12_seed 20 = .ok (.getfield 197, 3) := by decide +kernel
theorem dX12_seed_23 : decode cX12_seed 23 = .ok (.istore_n 2, 1) := by decide +kernel
theorem dX12_seed_24 : decode cX12_seed 24 = .ok (.aload_n 0, 1) := by decide +kernel
theorem dX12_seed_25 : decode cX12_seed 25 = .ok (.iload_n 1, 1) := by decide +kernel
theorem dX12_seed_26 : decode cX12_seed 26 = .ok (.putfield 197, 3) := by decide +kernel
theorem dX12_seed_29 : decode cX12_seed 29 = .ok (.iload_n 2, 1) := by decide +kernel
theorem dX12_seed_30 : decode cX12_seed 30 = .ok (.ireturn, 1) := by decide +kernel
theorem dX12_isBound_0 : decode cX12_isBound 0 = .ok (.iload_n 0, 1) := by decide +kernel
theorem dX12_isBound_1 : decode cX12_isBound 1 = .ok (.tableswitch 127 0 8 #[51, 61, 70, 78, 86, 94, 102, 110, 118], 51) := by decide +kernel
theorem dX12_isBound_52 : decode cX12_isBound 52 = .ok (.iload_n 1, 1) := by decide +kernel
theorem dX12_isBound_53 : decode cX12_isBound 53 = .ok (.bipush 20, 2) := by decide +kernel
theorem dX12_isBound_55 : decode cX12_isBound 55 = .ok (.sipush 200, 3) := by decide +kernel
theorem dX12_isBound_58 : decode cX12_isBound 58 = .ok (.invokestatic 123, 3) := by decide +kernel
theorem dX12_isBound_61 : decode cX12_isBound 61 = .ok (.ireturn, 1) := by decide +kernel
theorem dX12_isBound_62 : decode cX12_isBound 62 = .ok (.iload_n 1, 1) := by decide +kernel
theorem dX12_isBound_63 : decode cX12_isBound 63 = .ok (.bipush 10, 2) := by decide +kernel
theorem dX12_isBound_65 : decode cX12_isBound 65 = .ok (.bipush 100, 2) := by decide +kernel
theorem dX12_isBound_67 : decode cX12_isBound 67 = .ok (.invokestatic 123, 3) := by decide +kernel
theorem dX12_isBound_70 : decode cX12_isBound 70 = .ok (.ireturn, 1) := by decide +kernel
theorem dX12_isBound_71 : decode cX12_isBound 71 = .ok (.iload_n 1, 1) := by decide +kernel
theorem dX12_isBound_72 : decode cX12_isBound 72 = .ok (.iconst 1, 1) := by decide +kernel
theorem dX12_isBound_73 : decode cX12_isBound 73 = .ok (.bipush 100, 2) := by decide +kernel
theorem dX12_isBound_75 : decode cX12_isBound 75 = .ok (.invokestatic 123, 3) := by decide +kernel
theorem dX12_isBound_78 : decode cX12_isBound 78 = .ok (.ireturn, 1) := by decide +kernel
theorem dX12_isBound_79 : decode cX12_isBound 79 = .ok (.iload_n 1, 1) := by decide +kernel
theorem dX12_isBound_80 : decode cX12_isBound 80 = .ok (.iconst 2, 1) := by decide +kernel
theorem dX12_isBound_81 : decode cX12_isBound 81 = .ok (.bipush 64, 2) := by decide +kernel
theorem dX12_isBound_83 : decode cX12_isBound 83 = .ok (.invokestatic 123, 3) := by decide +kernel
theorem dX12_isBound_86 : decode cX12_isBound 86 = .ok (.ireturn, 1) := by decide +kernel
theorem dX12_isBound_87 : decode cX12_isBound 87 = .ok (.iload_n 1, 1) := by decide +kernel
theorem dX12_isBound_88 : decode cX12_isBound 88 = .ok (.iconst 1, 1) := by decide +kernel
theorem dX12_isBound_89 : decode cX12_isBound 89 = .ok (.bipush 127, 2) := by decide +kernel
theorem dX12_isBound_91 : decode cX12_isBound 91 = .ok (.invokestatic 123, 3) := by decide +kernel
theorem dX12_isBound_94 : decode cX12_isBound 94 = .ok (.ireturn, 1) := by decide +kernel
theorem dX12_isBound_95 : decode cX12_isBound 95 = .ok (.iload_n 1, 1) := by decide +kernel
theorem dX12_isBound_96 : decode cX12_isBound 96 = .ok (.iconst 0, 1) := by decide +kernel
theorem dX12_isBound_97 : decode cX12_isBound 97 = .ok (.bipush 9, 2) := by decide +kernel
theorem dX12_isBound_99 : decode cX12_isBound 99 = .ok (.invokestatic 123, 3) := by decide +kernel
theorem dX12_isBound_102 : decode cX12_isBound 102 = .ok (.ireturn, 1) := by decide +kernel
theorem dX12_isBound_103 : decode cX12_isBound 103 = .ok (.iload_n 1, 1) := by decide +kernel
theorem dX12_isBound_104 : decode cX12_isBound 104 = .ok (.iconst 1, 1) := by decide +kernel
theorem dX12_isBound_105 : decode cX12_isBound 105 = .ok (.bipush 30, 2) := by decide +kernel
theorem dX12_isBound_107 : decode cX12_isBound 107 = .ok (.invokestatic 123, 3) := by decide +kernel
theorem dX12_isBound_110 : decode cX12_isBound 110 = .ok (.ireturn, 1) := by decide +kernel
theorem dX12_isBound_111 : decode cX12_isBound 111 = .ok (.iload_n 1, 1) := by decide +kernel
theorem dX12_isBound_112 : decode cX12_isBound 112 = .ok (.iconst 0, 1) := by decide +kernel
theorem dX12_isBound_113 : decode cX12_isBound 113 = .ok (.bipush 50, 2) := by decide +kernel
theorem dX12_isBound_115 : decode cX12_isBound 115 = .ok (.invokestatic 123, 3) := by decide +kernel
theorem dX12_isBound_118 : decode cX12_isBound 118 = .ok (.ireturn, 1) := by decide +kernel
theorem dX12_isBound_119 : decode cX12_isBound 119 = .ok (.iload_n 1, 1) := by decide +kernel
theorem dX12_isBound_120 : decode cX12_isBound 120 = .ok (.iconst 0, 1) := by decide +kernel
theorem dX12_isBound_121 : decode cX12_isBound 121 = .ok (.sipush 200, 3) := by decide +kernel
theorem dX12_isBound_124 : decode cX12_isBound 124 = .ok (.invokestatic 123, 3) := by decide +kernel
theorem dX12_isBound_127 : decode cX12_isBound 127 = .ok (.ireturn, 1) := by decide +kernel
theorem dX12_isBound_128 : decode cX12_isBound 128 = .ok (.iconst 0, 1) := by decide +kernel
theorem dX12_isBound_129 : decode cX12_isBound 129 = .ok (.ireturn, 1) := by decide +kernel
theorem dX12_bound_0 : decode cX12_bound 0 = .ok (.aload_n 0, 1) := by decide +kernel
theorem dX12_bound_1 : decode cX12_bound 1 = .ok (.invokevirtual 177, 3) := by decide +kernel
theorem dX12_bound_4 : decode cX12_bound 4 = .ok (.ifCond .ne 7, 3) := by decide +kernel
theorem dX12_bound_7 : decode cX12_bound 7 = .ok (.sipush (-10003), 3) := by decide +kernel
theorem dX12_bound_10 : decode cX12_bound 10 = .ok (.ireturn, 1) := by decide +kernel
theorem dX12_bound_11 : decode cX12_bound 11 = .ok (.iload_n 1, 1) := by decide +kernel
theorem dX12_bound_12 : decode cX12_bound 12 = .ok (.iload_n 2, 1) := by decide +kernel
theorem dX12_bound_13 : decode cX12_bound 13 = .ok (.invokestatic 228, 3) := by decide +kernel
theorem dX12_bound_16 : decode cX12_bound 16 = .ok (.ifCond .ne 7, 3) := by decide +kernel
theorem dX12_bound_19 : decode cX12_bound 19 = .ok (.sipush (-10002), 3) := by decide +kernel
theorem dX12_bound_22 : decode cX12_bound 22 = .ok (.ireturn, 1) := by decide +kernel
theorem dX12_bound_23 : decode cX12_bound 23 = .ok (.aload_n 0, 1) := by decide +kernel
theorem dX12_bound_24 : decode cX12_bound 24 = .ok (.getfield 44, 3) := by decide +kernel
theorem dX12_bound_27 : decode cX12_bound 27 = .ok (.iload_n 1, 1) := by decide +kernel
theorem dX12_bound_28 : decode cX12_bound 28 = .ok (.iaload, 1) := by decide +kernel
theorem dX12_bound_29 : decode cX12_bound 29 = .ok (.istore_n 3, 1) := by decide +kernel
theorem dX12_bound_30 : decode cX12_bound 30 = .ok (.aload_n 0, 1) := by decide +kernel
theorem dX12_bound_31 : decode cX12_bound 31 = .ok (.getfield 44, 3) := by decide +kernel
theorem dX12_bound_34 : decode cX12_bound 34 = .ok (.iload_n 1, 1) := by decide +kernel
theorem dX12_bound_35 : decode cX12_bound 35 = .ok (.iload_n 2, 1) := by decide +kernel
theorem dX12_bound_36 : decode cX12_bound 36 = .ok (.iastore, 1) := by decide +kernel
theorem dX12_bound_37 : decode cX12_bound 37 = .ok (.iload_n 3, 1) := by decide +kernel
theorem dX12_bound_38 : decode cX12_bound 38 = .ok (.ireturn, 1) := by decide +kernel
theorem dX12_settle_0 : decode cX12_settle 0 = .ok (.aload_n 0, 1) := by decide +kernel
theorem dX12_settle_1 : decode cX12_settle 1 = .ok (.invokevirtual 177, 3) := by decide +kernel
theorem dX12_settle_4 : decode cX12_settle 4 = .ok (.ifCond .ne 7, 3) := by decide +kernel
theorem dX12_settle_7 : decode cX12_settle 7 = .ok (.sipush (-10003), 3) := by decide +kernel
theorem dX12_settle_10 : decode cX12_settle 10 = .ok (.ireturn, 1) := by decide +kernel
theorem dX12_settle_11 : decode cX12_settle 11 = .ok (.iconst 0, 1) := by decide +kernel
theorem dX12_settle_12 : decode cX12_settle 12 = .ok (.istore_n 1, 1) := by decide +kernel
theorem dX12_settle_13 : decode cX12_settle 13 = .ok (.iconst 0, 1) := by decide +kernel
theorem dX12_settle_14 : decode cX12_settle 14 = .ok (.istore_n 2, 1) := by decide +kernel
theorem dX12_settle_15 : decode cX12_settle 15 = .ok (.iload_n 2, 1) := by decide +kernel
theorem dX12_settle_16 : decode cX12_settle 16 = .ok (.aload_n 0, 1) := by decide +kernel
theorem dX12_settle_17 : decode cX12_settle 17 = .ok (.invokevirtual 218, 3) := by decide +kernel
theorem dX12_settle_20 : decode cX12_settle 20 = .ok (.if_icmp .ge 44, 3) := by decide +kernel
theorem dX12_settle_23 : decode cX12_settle 23 = .ok (.iload_n 1, 1) := by decide +kernel
theorem dX12_settle_24 : decode cX12_settle 24 = .ok (.aload_n 0, 1) := by decide +kernel
theorem dX12_settle_25 : decode cX12_settle 25 = .ok (.getfield 16, 3) := by decide +kernel
theorem dX12_settle_28 : decode cX12_settle 28 = .ok (.iload_n 2, 1) := by decide +kernel
theorem dX12_settle_29 : decode cX12_settle 29 = .ok (.iaload, 1) := by decide +kernel
theorem dX12_settle_30 : decode cX12_settle 30 = .ok (.aload_n 0, 1) := by decide +kernel
theorem dX12_settle_31 : decode cX12_settle 31 = .ok (.getfield 13, 3) := by decide +kernel
theorem dX12_settle_34 : decode cX12_settle 34 = .ok (.iload_n 2, 1) := by decide +kernel
theorem dX12_settle_35 : decode cX12_settle 35 = .ok (.iaload, 1) := by decide +kernel
theorem dX12_settle_36 : decode cX12_settle 36 = .ok (.if_icmp .ne 7, 3) := by decide +kernel
theorem dX12_settle_39 : decode cX12_settle 39 = .ok (.iconst 0, 1) := by decide +kernel
theorem dX12_settle_40 : decode cX12_settle 40 = .ok (.goto 4, 3) := by decide +kernel
theorem dX12_settle_43 : decode cX12_settle 43 = .ok (.iconst 1, 1) := by decide +kernel
theorem dX12_settle_44 : decode cX12_settle 44 = .ok (.iadd, 1) := by decide +kernel
theorem dX12_settle_45 : decode cX12_settle 45 = .ok (.istore_n 1, 1) := by decide +kernel
theorem dX12_settle_46 : decode cX12_settle 46 = .ok (.aload_n 0, 1) := by decide +kernel
theorem dX12_settle_47 : decode cX12_settle 47 = .ok (.getfield 16, 3) := by decide +kernel
theorem dX12_settle_50 : decode cX12_settle 50 = .ok (.iload_n 2, 1) := by decide +kernel
theorem dX12_settle_51 : decode cX12_settle 51 = .ok (.aload_n 0, 1) := by decide +kernel
theorem dX12_settle_52 : decode cX12_settle 52 = .ok (.getfield 13, 3) := by decide +kernel
theorem dX12_settle_55 : decode cX12_settle 55 = .ok (.iload_n 2, 1) := by decide +kernel
theorem dX12_settle_56 : decode cX12_settle 56 = .ok (.iaload, 1) := by decide +kernel
theorem dX12_settle_57 : decode cX12_settle 57 = .ok (.iastore, 1) := by decide +kernel
theorem dX12_settle_58 : decode cX12_settle 58 = .ok (.iinc 2 1, 3) := by decide +kernel
theorem dX12_settle_61 : decode cX12_settle 61 = .ok (.goto (-46), 3) := by decide +kernel
theorem dX12_settle_64 : decode cX12_settle 64 = .ok (.iload_n 1, 1) := by decide +kernel
theorem dX12_settle_65 : decode cX12_settle 65 = .ok (.ireturn, 1) := by decide +kernel
theorem dX12_feltOf_0 : decode cX12_feltOf 0 = .ok (.iconst 2, 1) := by decide +kernel
theorem dX12_feltOf_1 : decode cX12_feltOf 1 = .ok (.iload_n 1, 1) := by decide +kernel
theorem dX12_feltOf_2 : decode cX12_feltOf 2 = .ok (.aload_n 0, 1) := by decide +kernel
theorem dX12_feltOf_3 : decode cX12_feltOf 3 = .ok (.getfield 116, 3) := by decide +kernel
theorem dX12_feltOf_6 : decode cX12_feltOf 6 = .ok (.irem, 1) := by decide +kernel
theorem dX12_feltOf_7 : decode cX12_feltOf 7 = .ok (.imul, 1) := by decide +kernel
theorem dX12_feltOf_8 : decode cX12_feltOf 8 = .ok (.aload_n 0, 1) := by decide +kernel
theorem dX12_feltOf_9 : decode cX12_feltOf 9 = .ok (.getfield 32, 3) := by decide +kernel
theorem dX12_feltOf_12 : decode cX12_feltOf 12 = .ok (.iload_n 2, 1) := by decide +kernel
theorem dX12_feltOf_13 : decode cX12_feltOf 13 = .ok (.iaload, 1) := by decide +kernel
theorem dX12_feltOf_14 : decode cX12_feltOf 14 = .ok (.isub, 1) := by decide +kernel
theorem dX12_feltOf_15 : decode cX12_feltOf 15 = .ok (.istore_n 3, 1) := by decide +kernel
theorem dX12_feltOf_16 : decode cX12_feltOf 16 = .ok (.iconst 2, 1) := by decide +kernel
theorem dX12_feltOf_17 : decode cX12_feltOf 17 = .ok (.iload_n 1, 1) := by decide +kernel
theorem dX12_feltOf_18 : decode cX12_feltOf 18 = .ok (.aload_n 0, 1) := by decide +kernel
theorem dX12_feltOf_19 : decode cX12_feltOf 19 = .ok (.getfield 116, 3) := by decide +kernel
theorem dX12_feltOf_22 : decode cX12_feltOf 22 = .ok (.idiv, 1) := by decide +kernel
theorem dX12_feltOf_23 : decode cX12_feltOf 23 = .ok (.imul, 1) := by decide +kernel
theorem dX12_feltOf_24 : decode cX12_feltOf 24 = .ok (.aload_n 0, 1) := by decide +kernel
theorem dX12_feltOf_25 : decode cX12_feltOf 25 = .ok (.getfield 35, 3) := by decide +kernel
theorem dX12_feltOf_28 : decode cX12_feltOf 28 = .ok (.iload_n 2, 1) := by decide +kernel
theorem dX12_feltOf_29 : decode cX12_feltOf 29 = .ok (.iaload, 1) := by decide +kernel
theorem dX12_feltOf_30 : decode cX12_feltOf 30 = .ok (.isub, 1) := by decide +kernel
theorem dX12_feltOf_31 : decode cX12_feltOf 31 = .ok (.istore 4, 2) := by decide +kernel
theorem dX12_feltOf_33 : decode cX12_feltOf 33 = .ok (.aload_n 0, 1) := by decide +kernel
theorem dX12_feltOf_34 : decode cX12_feltOf 34 = .ok (.getfield 28, 3) := by decide +kernel
theorem dX12_feltOf_37 : decode cX12_feltOf 37 = .ok (.iload_n 2, 1) := by decide +kernel
theorem dX12_feltOf_38 : decode cX12_feltOf 38 = .ok (.baload, 1) := by decide +kernel
theorem dX12_feltOf_39 : decode cX12_feltOf 39 = .ok (.ifCond .eq 25, 3) := by decide +kernel
theorem dX12_feltOf_42 : decode cX12_feltOf 42 = .ok (.aload_n 0, 1) := by decide +kernel
theorem dX12_feltOf_43 : decode cX12_feltOf 43 = .ok (.getfield 38, 3) := by decide +kernel
theorem dX12_feltOf_46 : decode cX12_feltOf 46 = .ok (.iload_n 2, 1) := by decide +kernel
theorem dX12_feltOf_47 : decode cX12_feltOf 47 = .ok (.iaload, 1) := by decide +kernel
theorem dX12_feltOf_48 : decode cX12_feltOf 48 = .ok (.bipush 12, 2) := by decide +kernel
theorem dX12_feltOf_50 : decode cX12_feltOf 50 = .ok (.iload_n 3, 1) := by decide +kernel
theorem dX12_feltOf_51 : decode cX12_feltOf 51 = .ok (.iload_n 3, 1) := by decide +kernel
theorem dX12_feltOf_52 : decode cX12_feltOf 52 = .ok (.imul, 1) := by decide +kernel
theorem dX12_feltOf_53 : decode cX12_feltOf 53 = .ok (.iload 4, 2) := by decide +kernel
theorem dX12_feltOf_55 : decode cX12_feltOf 55 = .ok (.iload 4, 2) := by decide +kernel
theorem dX12_feltOf_57 : decode cX12_feltOf 57 = .ok (.imul, 1) := by decide +kernel
theorem dX12_feltOf_58 : decode cX12_feltOf 58 = .ok (.iadd, 1) := by decide +kernel
theorem dX12_feltOf_59 : decode cX12_feltOf 59 = .ok (.imul, 1) := by decide +kernel
theorem dX12_feltOf_60 : decode cX12_feltOf 60 = .ok (.isub, 1) := by decide +kernel
theorem dX12_feltOf_61 : decode cX12_feltOf 61 = .ok (.goto 4, 3) := by decide +kernel
theorem dX12_feltOf_64 : decode cX12_feltOf 64 = .ok (.iconst 0, 1) := by decide +kernel
theorem dX12_feltOf_65 : decode cX12_feltOf 65 = .ok (.istore 5, 2) := by decide +kernel
theorem dX12_feltOf_67 : decode cX12_feltOf 67 = .ok (.iload 5, 2) := by decide +kernel
theorem dX12_feltOf_69 : decode cX12_feltOf 69 = .ok (.ifCond .le 8, 3) := by decide +kernel
theorem dX12_feltOf_72 : decode cX12_feltOf 72 = .ok (.iload 5, 2) := by decide +kernel
theorem dX12_feltOf_74 : decode cX12_feltOf 74 = .ok (.goto 4, 3) := by decide +kernel
theorem dX12_feltOf_77 : decode cX12_feltOf 77 = .ok (.iconst 0, 1) := by decide +kernel
theorem dX12_feltOf_78 : decode cX12_feltOf 78 = .ok (.ireturn, 1) := by decide +kernel
theorem dX12_feltAll_0 : decode cX12_feltAll 0 = .ok (.iconst 0, 1) := by decide +kernel
theorem dX12_feltAll_1 : decode cX12_feltAll 1 = .ok (.istore_n 2, 1) := by decide +kernel
theorem dX12_feltAll_2 : decode cX12_feltAll 2 = .ok (.iconst 0, 1) := by decide +kernel
theorem dX12_feltAll_3 : decode cX12_feltAll 3 = .ok (.istore_n 3, 1) := by decide +kernel
theorem dX12_feltAll_4 : decode cX12_feltAll 4 = .ok (.iload_n 3, 1) := by decide +kernel
theorem dX12_feltAll_5 : decode cX12_feltAll 5 = .ok (.iconst 5, 1) := by decide +kernel
theorem dX12_feltAll_6 : decode cX12_feltAll 6 = .ok (.if_icmp .ge 18, 3) := by decide +kernel
theorem dX12_feltAll_9 : decode cX12_feltAll 9 = .ok (.iload_n 2, 1) := by decide +kernel
theorem dX12_feltAll_10 : decode cX12_feltAll 10 = .ok (.aload_n 0, 1) := by decide +kernel
theorem dX12_feltAll_11 : decode cX12_feltAll 11 = .ok (.iload_n 1, 1) := by decide +kernel
theorem dX12_feltAll_12 : decode cX12_feltAll 12 = .ok (.iload_n 3, 1) := by decide +kernel
theorem dX12_feltAll_13 : decode cX12_feltAll 13 = .ok (.invokevirtual 232, 3) := by decide +kernel
theorem dX12_feltAll_16 : decode cX12_feltAll 16 = .ok (.iadd, 1) := by decide +kernel
theorem dX12_feltAll_17 : decode cX12_feltAll 17 = .ok (.istore_n 2, 1) := by decide +kernel
theorem dX12_feltAll_18 : decode cX12_feltAll 18 = .ok (.iinc 3 1, 3) := by decide +kernel
theorem dX12_feltAll_21 : decode cX12_feltAll 21 = .ok (.goto (-17), 3) := by decide +kernel
theorem dX12_feltAll_24 : decode cX12_feltAll 24 = .ok (.iload_n 2, 1) := by decide +kernel
theorem dX12_feltAll_25 : decode cX12_feltAll 25 = .ok (.ireturn, 1) := by decide +kernel
theorem dX12_draw_0 : decode cX12_draw 0 = .ok (.ldc2_w 236, 3) := by decide +kernel
theorem dX12_draw_3 : decode cX12_draw 3 = .ok (.aload_n 0, 1) := by decide +kernel
theorem dX12_draw_4 : decode cX12_draw 4 = .ok (.getfield 197, 3) := by decide +kernel
theorem dX12_draw_7 : decode cX12_draw 7 = .ok (.i2l, 1) := by decide +kernel
theorem dX12_draw_8 : decode cX12_draw 8 = .ok (.lmul, 1) := by decide +kernel
theorem dX12_draw_9 : decode cX12_draw 9 = .ok (.ldc2_w 238, 3) := by decide +kernel
theorem dX12_draw_12 : decode cX12_draw 12 = .ok (.ladd, 1) := by decide +kernel
theorem dX12_draw_13 : decode cX12_draw 13 = .ok (.ldc2_w 240, 3) := by decide +kernel
theorem dX12_draw_16 : decode cX12_draw 16 = .ok (.lrem, 1) := by decide +kernel
theorem dX12_draw_17 : decode cX12_draw 17 = .ok (.lstore_n 2, 1) := by decide +kernel
theorem dX12_draw_18 : decode cX12_draw 18 = .ok (.aload_n 0, 1) := by decide +kernel
theorem dX12_draw_19 : decode cX12_draw 19 = .ok (.lload_n 2, 1) := by decide +kernel
theorem dX12_draw_20 : decode cX12_draw 20 = .ok (.l2i, 1) := by decide +kernel
theorem dX12_draw_21 : decode cX12_draw 21 = .ok (.putfield 197, 3) := by decide +kernel
theorem dX12_draw_24 : decode cX12_draw 24 = .ok (.lload_n 2, 1) := by decide +kernel
theorem dX12_draw_25 : decode cX12_draw 25 = .ok (.ldc2_w 242, 3) := by decide +kernel
theorem dX12_draw_28 : decode cX12_draw 28 = .ok (.ldiv, 1) := by decide +kernel
theorem dX12_draw_29 : decode cX12_draw 29 = .ok (.iload_n 1, 1) := by decide +kernel
theorem dX12_draw_30 : decode cX12_draw 30 = .ok (.i2l, 1) := by decide +kernel
theorem dX12_draw_31 : decode cX12_draw 31 = .ok (.lrem, 1) := by decide +kernel
theorem dX12_draw_32 : decode cX12_draw 32 = .ok (.l2i, 1) := by decide +kernel
theorem dX12_draw_33 : decode cX12_draw 33 = .ok (.ireturn, 1) := by decide +kernel
theorem dX12_layRaw_0 : decode cX12_layRaw 0 = .ok (.aload_n 0, 1) := by decide +kernel
theorem dX12_layRaw_1 : decode cX12_layRaw 1 = .ok (.getfield 41, 3) := by decide +kernel
theorem dX12_layRaw_4 : decode cX12_layRaw 4 = .ok (.aload_n 0, 1) := by decide +kernel
theorem dX12_layRaw_5 : decode cX12_layRaw 5 = .ok (.getfield 194, 3) := by decide +kernel
theorem dX12_layRaw_8 : decode cX12_layRaw 8 = .ok (.iaload, 1) := by decide +kernel
theorem dX12_layRaw_9 : decode cX12_layRaw 9 = .ok (.istore_n 1, 1) := by decide +kernel
theorem dX12_layRaw_10 : decode cX12_layRaw 10 = .ok (.iconst 0, 1) := by decide +kernel
theorem dX12_layRaw_11 : decode cX12_layRaw 11 = .ok (.istore_n 2, 1) := by decide +kernel
theorem dX12_layRaw_12 : decode cX12_layRaw 12 = .ok (.iload_n 2, 1) := by decide +kernel
theorem dX12_layRaw_13 : decode cX12_layRaw 13 = .ok (.aload_n 0, 1) := by decide +kernel
theorem dX12_layRaw_14 : decode cX12_layRaw 14 = .ok (.invokevirtual 218, 3) := by decide +kernel
theorem dX12_layRaw_17 : decode cX12_layRaw 17 = .ok (.if_icmp .ge 73, 3) := by decide +kernel
theorem dX12_layRaw_20 : decode cX12_layRaw 20 = .ok (.aload_n 0, 1) := by decide +kernel
theorem dX12_layRaw_21 : decode cX12_layRaw 21 = .ok (.getfield 19, 3) := by decide +kernel
theorem dX12_layRaw_24 : decode cX12_layRaw 24 = .ok (.iload_n 2, 1) := by decide +kernel
theorem dX12_layRaw_25 : decode cX12_layRaw 25 = .ok (.aload_n 0, 1) := by decide +kernel
theorem dX12_layRaw_26 : decode cX12_layRaw 26 = .ok (.getfield 13, 3) := by decide +kernel
theorem dX12_layRaw_29 : decode cX12_layRaw 29 = .ok (.iload_n 2, 1) := by decide +kernel
theorem dX12_layRaw_30 : decode cX12_layRaw 30 = .ok (.iaload, 1) := by decide +kernel
theorem dX12_layRaw_31 : decode cX12_layRaw 31 = .ok (.aload_n 0, 1) := by decide +kernel
theorem dX12_layRaw_32 : decode cX12_layRaw 32 = .ok (.iload_n 2, 1) := by decide +kernel
theorem dX12_layRaw_33 : decode cX12_layRaw 33 = .ok (.invokevirtual 244, 3) := by decide +kernel
theorem dX12_layRaw_36 : decode cX12_layRaw 36 = .ok (.iadd, 1) := by decide +kernel
theorem dX12_layRaw_37 : decode cX12_layRaw 37 = .ok (.iload_n 1, 1) := by decide +kernel
theorem dX12_layRaw_38 : decode cX12_layRaw 38 = .ok (.ifCond .le 17, 3) := by decide +kernel
theorem dX12_layRaw_41 : decode cX12_layRaw 41 = .ok (.aload_n 0, 1) := by decide +kernel
theorem dX12_layRaw_42 : decode cX12_layRaw 42 = .ok (.iconst 2, 1) := by decide +kernel
theorem dX12_layRaw_43 : decode cX12_layRaw 43 = .ok (.iload_n 1, 1) := by decide +kernel
theorem dX12_layRaw_44 : decode cX12_layRaw 44 = .ok (.imul, 1) := by decide +kernel
theorem dX12_layRaw_45 : decode cX12_layRaw 45 = .ok (.iconst 1, 1) := by decide +kernel
theorem dX12_layRaw_46 : decode cX12_layRaw 46 = .ok (.iadd, 1) := by decide +kernel
theorem dX12_layRaw_47 : decode cX12_layRaw 47 = .ok (.invokevirtual 247, 3) := by decide +kernel
theorem dX12_layRaw_50 : decode cX12_layRaw 50 = .ok (.iload_n 1, 1) := by decide +kernel
theorem dX12_layRaw_51 : decode cX12_layRaw 51 = .ok (.isub, 1) := by decide +kernel
theorem dX12_layRaw_52 : decode cX12_layRaw 52 = .ok (.goto 4, 3) := by decide +kernel
theorem dX12_layRaw_55 : decode cX12_layRaw 55 = .ok (.iconst 0, 1) := by decide +kernel
theorem dX12_layRaw_56 : decode cX12_layRaw 56 = .ok (.iadd, 1) := by decide +kernel
theorem dX12_layRaw_57 : decode cX12_layRaw 57 = .ok (.iastore, 1) := by decide +kernel
theorem dX12_layRaw_58 : decode cX12_layRaw 58 = .ok (.aload_n 0, 1) := by decide +kernel
theorem dX12_layRaw_59 : decode cX12_layRaw 59 = .ok (.getfield 22, 3) := by decide +kernel
theorem dX12_layRaw_62 : decode cX12_layRaw 62 = .ok (.iload_n 2, 1) := by decide +kernel
theorem dX12_layRaw_63 : decode cX12_layRaw 63 = .ok (.aload_n 0, 1) := by decide +kernel
theorem dX12_layRaw_64 : decode cX12_layRaw 64 = .ok (.getfield 19, 3) := by decide +kernel
theorem dX12_layRaw_67 : decode cX12_layRaw 67 = .ok (.iload_n 2, 1) := by decide +kernel
theorem dX12_layRaw_68 : decode cX12_layRaw 68 = .ok (.iaload, 1) := by decide +kernel
theorem dX12_layRaw_69 : decode cX12_layRaw 69 = .ok (.aload_n 0, 1) := by decide +kernel
theorem dX12_layRaw_70 : decode cX12_layRaw 70 = .ok (.getfield 16, 3) := by decide +kernel
theorem dX12_layRaw_73 : decode cX12_layRaw 73 = .ok (.iload_n 2, 1) := by decide +kernel
theorem dX12_layRaw_74 : decode cX12_layRaw 74 = .ok (.iaload, 1) := by decide +kernel
theorem dX12_layRaw_75 : decode cX12_layRaw 75 = .ok (.isub, 1) := by decide +kernel
theorem dX12_layRaw_76 : decode cX12_layRaw 76 = .ok (.iastore, 1) := by decide +kernel
theorem dX12_layRaw_77 : decode cX12_layRaw 77 = .ok (.aload_n 0, 1) := by decide +kernel
theorem dX12_layRaw_78 : decode cX12_layRaw 78 = .ok (.getfield 25, 3) := by decide +kernel
theorem dX12_layRaw_81 : decode cX12_layRaw 81 = .ok (.iload_n 2, 1) := by decide +kernel
theorem dX12_layRaw_82 : decode cX12_layRaw 82 = .ok (.iconst (-1), 1) := by decide +kernel
theorem dX12_layRaw_83 : decode cX12_layRaw 83 = .ok (.iastore, 1) := by decide +kernel
theorem dX12_layRaw_84 : decode cX12_layRaw 84 = .ok (.iinc 2 1, 3) := by decide +kernel
theorem dX12_layRaw_87 : decode cX12_layRaw 87 = .ok (.goto (-75), 3) := by decide +kernel
theorem dX12_layRaw_90 : decode cX12_layRaw 90 = .ok (.return_, 1) := by decide +kernel
theorem dX12_beside_0 : decode cX12_beside 0 = .ok (.iload_n 2, 1) := by decide +kernel
theorem dX12_beside_1 : decode cX12_beside 1 = .ok (.iconst 4, 1) := by decide +kernel
theorem dX12_beside_2 : decode cX12_beside 2 = .ok (.if_icmp .ge 7, 3) := by decide +kernel
theorem dX12_beside_5 : decode cX12_beside 5 = .ok (.iload_n 2, 1) := by decide +kernel
theorem dX12_beside_6 : decode cX12_beside 6 = .ok (.goto 6, 3) := by decide +kernel
theorem dX12_beside_9 : decode cX12_beside 9 = .ok (.iload_n 2, 1) := by decide +kernel
theorem dX12_beside_10 : decode cX12_beside 10 = .ok (.iconst 1, 1) := by decide +kernel
theorem dX12_beside_11 : decode cX12_beside 11 = .ok (.iadd, 1) := by decide +kernel
theorem dX12_beside_12 : decode cX12_beside 12 = .ok (.istore_n 3, 1) := by decide +kernel
theorem dX12_beside_13 : decode cX12_beside 13 = .ok (.iload_n 1, 1) := by decide +kernel
theorem dX12_beside_14 : decode cX12_beside 14 = .ok (.aload_n 0, 1) := by decide +kernel
theorem dX12_beside_15 : decode cX12_beside 15 = .ok (.getfield 116, 3) := by decide +kernel
theorem dX12_beside_18 : decode cX12_beside 18 = .ok (.irem, 1) := by decide +kernel
theorem dX12_beside_19 : decode cX12_beside 19 = .ok (.iload_n 3, 1) := by decide +kernel
theorem dX12_beside_20 : decode cX12_beside 20 = .ok (.iconst 3, 1) := by decide +kernel
theorem dX12_beside_21 : decode cX12_beside 21 = .ok (.irem, 1) := by decide +kernel
theorem dX12_beside_22 : decode cX12_beside 22 = .ok (.iadd, 1) := by decide +kernel
theorem dX12_beside_23 : decode cX12_beside 23 = .ok (.iconst 1, 1) := by decide +kernel
theorem dX12_beside_24 : decode cX12_beside 24 = .ok (.isub, 1) := by decide +kernel
theorem dX12_beside_25 : decode cX12_beside 25 = .ok (.istore 4, 2) := by decide +kernel
theorem dX12_beside_27 : decode cX12_beside 27 = .ok (.iload_n 1, 1) := by decide +kernel
theorem dX12_beside_28 : decode cX12_beside 28 = .ok (.aload_n 0, 1) := by decide +kernel
theorem dX12_beside_29 : decode cX12_beside 29 = .ok (.getfield 116, 3) := by decide +kernel
theorem dX12_beside_32 : decode cX12_beside 32 = .ok (.idiv, 1) := by decide +kernel
theorem dX12_beside_33 : decode cX12_beside 33 = .ok (.iload_n 3, 1) := by decide +kernel
theorem dX12_beside_34 : decode cX12_beside 34 = .ok (.iconst 3, 1) := by decide +kernel
theorem dX12_beside_35 : decode cX12_beside 35 = .ok (.idiv, 1) := by decide +kernel
theorem dX12_beside_36 : decode cX12_beside 36 = .ok (.iadd, 1) := by decide +kernel
theorem dX12_beside_37 : decode cX12_beside 37 = .ok (.iconst 1, 1) := by decide +kernel
theorem dX12_beside_38 : decode cX12_beside 38 = .ok (.isub, 1) := by decide +kernel
theorem dX12_beside_39 : decode cX12_beside 39 = .ok (.istore 5, 2) := by decide +kernel
theorem dX12_beside_41 : decode cX12_beside 41 = .ok (.iload 4, 2) := by decide +kernel
theorem dX12_beside_43 : decode cX12_beside 43 = .ok (.iconst 0, 1) := by decide +kernel
theorem dX12_beside_44 : decode cX12_beside 44 = .ok (.aload_n 0, 1) := by decide +kernel
theorem dX12_beside_45 : decode cX12_beside 45 = .ok (.getfield 116, 3) := by decide +kernel
theorem dX12_beside_48 : decode cX12_beside 48 = .ok (.iconst 1, 1) := by decide +kernel
theorem dX12_beside_49 : decode cX12_beside 49 = .ok (.isub, 1) := by decide +kernel
theorem dX12_beside_50 : decode cX12_beside 50 = .ok (.invokestatic 123, 3) := by decide +kernel
theorem dX12_beside_53 : decode cX12_beside 53 = .ok (.ifCond .eq 31, 3) := by decide +kernel
theorem dX12_beside_56 : decode cX12_beside 56 = .ok (.iload 5, 2) := by decide +kernel
theorem dX12_beside_58 : decode cX12_beside 58 = .ok (.iconst 0, 1) := by decide +kernel
theorem dX12_beside_59 : decode cX12_beside 59 = .ok (.aload_n 0, 1) := by decide +kernel
theorem dX12_beside_60 : decode cX12_beside 60 = .ok (.getfield 120, 3) := by decide +kernel
theorem dX12_beside_63 : decode cX12_beside 63 = .ok (.iconst 1, 1) := by decide +kernel
theorem dX12_beside_64 : decode cX12_beside 64 = .ok (.isub, 1) := by decide +kernel
theorem dX12_beside_65 : decode cX12_beside 65 = .ok (.invokestatic 123, 3) := by decide +kernel
theorem dX12_beside_68 : decode cX12_beside 68 = .ok (.ifCond .eq 16, 3) := by decide +kernel
theorem dX12_beside_71 : decode cX12_beside 71 = .ok (.aload_n 0, 1) := by decide +kernel
theorem dX12_beside_72 : decode cX12_beside 72 = .ok (.getfield 116, 3) := by decide +kernel
theorem dX12_beside_75 : decode cX12_beside 75 = .ok (.iload 5, 2) := by decide +kernel
theorem dX12_beside_77 : decode cX12_beside 77 = .ok (.imul, 1) := by decide +kernel
theorem dX12_beside_78 : decode cX12_beside 78 = .ok (.iload 4, 2) := by decide +kernel
theorem dX12_beside_80 : decode cX12_beside 80 = .ok (.iadd, 1) := by decide +kernel
theorem dX12_beside_81 : decode cX12_beside 81 = .ok (.goto 4, 3) := by decide +kernel
theorem dX12_beside_84 : decode cX12_beside 84 = .ok (.iconst (-1), 1) := by decide +kernel
theorem dX12_beside_85 : decode cX12_beside 85 = .ok (.ireturn, 1) := by decide +kernel
theorem dX12_isTouched_0 : decode cX12_isTouched 0 = .ok (.aload_n 0, 1) := by decide +kernel
theorem dX12_isTouched_1 : decode cX12_isTouched 1 = .ok (.getfield 22, 3) := by decide +kernel
theorem dX12_isTouched_4 : decode cX12_isTouched 4 = .ok (.iload_n 1, 1) := by decide +kernel
theorem dX12_isTouched_5 : decode cX12_isTouched 5 = .ok (.iaload, 1) := by decide +kernel
theorem dX12_isTouched_6 : decode cX12_isTouched 6 = .ok (.aload_n 0, 1) := by decide +kernel
theorem dX12_isTouched_7 : decode cX12_isTouched 7 = .ok (.getfield 44, 3) := by decide +kernel
theorem dX12_isTouched_10 : decode cX12_isTouched 10 = .ok (.iconst 1, 1) := by decide +kernel
theorem dX12_isTouched_11 : decode cX12_isTouched 11 = .ok (.iaload, 1) := by decide +kernel
theorem dX12_isTouched_12 : decode cX12_isTouched 12 = .ok (.if_icmp .lt 7, 3) := by decide +kernel
theorem dX12_isTouched_15 : decode cX12_isTouched 15 = .ok (.iconst 1, 1) := by decide +kernel
theorem dX12_isTouched_16 : decode cX12_isTouched 16 = .ok (.goto 4, 3) := by decide +kernel
theorem dX12_isTouched_19 : decode cX12_isTouched 19 = .ok (.iconst 0, 1) := by decide +kernel
theorem dX12_isTouched_20 : decode cX12_isTouched 20 = .ok (.ireturn, 1) := by decide +kernel
theorem dX12_isNearTouched_0 : decode cX12_isNearTouched 0 = .ok (.aload_n 0, 1) := by decide +kernel
theorem dX12_isNearTouched_1 : decode cX12_isNearTouched 1 = .ok (.iload_n 1, 1) := by decide +kernel
theorem dX12_isNearTouched_2 : decode cX12_isNearTouched 2 = .ok (.invokevirtual 250, 3) := by decide +kernel
theorem dX12_isNearTouched_5 : decode cX12_isNearTouched 5 = .ok (.istore_n 2, 1) := by decide +kernel
theorem dX12_isNearTouched_6 : decode cX12_isNearTouched 6 = .ok (.iconst 0, 1) := by decide +kernel
theorem dX12_isNearTouched_7 : decode cX12_isNearTouched 7 = .ok (.istore_n 3, 1) := by decide +kernel
theorem dX12_isNearTouched_8 : decode cX12_isNearTouched 8 = .ok (.iload_n 3, 1) := by decide +kernel
theorem dX12_isNearTouched_9 : decode cX12_isNearTouched 9 = .ok (.bipush 8, 2) := by decide +kernel
theorem dX12_isNearTouched_11 : decode cX12_isNearTouched 11 = .ok (.if_icmp .ge 42, 3) := by decide +kernel
theorem dX12_isNearTouched_14 : decode cX12_isNearTouched 14 = .ok (.aload_n 0, 1) := by decide +kernel
theorem dX12_isNearTouched_15 : decode cX12_isNearTouched 15 = .ok (.iload_n 1, 1) := by decide +kernel
theorem dX12_isNearTouched_16 : decode cX12_isNearTouched 16 = .ok (.iload_n 3, 1) := by decide +kernel
theorem dX12_isNearTouched_17 : decode cX12_isNearTouched 17 = .ok (.invokevirtual 253, 3) := by decide +kernel
theorem dX12_isNearTouched_20 : decode cX12_isNearTouched 20 = .ok (.istore 4, 2) := by decide +kernel
theorem dX12_isNearTouched_22 : decode cX12_isNearTouched 22 = .ok (.iload_n 2, 1) := by decide +kernel
theorem dX12_isNearTouched_23 : decode cX12_isNearTouched 23 = .ok (.ifCond .ne 18, 3) := by decide +kernel
theorem dX12_isNearTouched_26 : decode cX12_isNearTouched 26 = .ok (.iload 4, 2) := by decide +kernel
theorem dX12_isNearTouched_28 : decode cX12_isNearTouched 28 = .ok (.iconst (-1), 1) := by decide +kernel
theorem dX12_isNearTouched_29 : decode cX12_isNearTouched 29 = .ok (.if_icmp .eq 16, 3) := by decide +kernel
theorem dX12_isNearTouched_32 : decode cX12_isNearTouched 32 = .ok (.aload_n 0, 1) := by decide +kernel
theorem dX12_isNearTouched_33 : decode cX12_isNearTouched 33 = .ok (.iload 4, 2) := by decide +kernel
theorem dX12_isNearTouched_35 : decode cX12_isNearTouched 35 = .ok (.invokevirtual 250, 3) := by decide +kernel
theorem dX12_isNearTouched_38 : decode cX12_isNearTouched 38 = .ok (.ifCond .eq 7, 3) := by decide +kernel
theorem dX12_isNearTouched_41 : decode cX12_isNearTouched 41 = .ok (.iconst 1, 1) := by decide +kernel
theorem dX12_isNearTouched_42 : decode cX12_isNearTouched 42 = .ok (.goto 4, 3) := by decide +kernel
theorem dX12_isNearTouched_45 : decode cX12_isNearTouched 45 = .ok (.iconst 0, 1) := by decide +kernel
theorem dX12_isNearTouched_46 : decode cX12_isNearTouched 46 = .ok (.istore_n 2, 1) := by decide +kernel
theorem dX12_isNearTouched_47 : decode cX12_isNearTouched 47 = .ok (.iinc 3 1, 3) := by decide +kernel
theorem dX12_isNearTouched_50 : decode cX12_isNearTouched 50 = .ok (.goto (-42), 3) := by decide +kernel
theorem dX12_isNearTouched_53 : decode cX12_isNearTouched 53 = .ok (.iload_n 2, 1) := by decide +kernel
theorem dX12_isNearTouched_54 : decode cX12_isNearTouched 54 = .ok (.ireturn, 1) := by decide +kernel
theorem dX12_spanOf_0 : decode cX12_spanOf 0 = .ok (.ldc_w 256, 3) := by decide +kernel
theorem dX12_spanOf_3 : decode cX12_spanOf 3 = .ok (.istore_n 1, 1) := by decide +kernel
theorem dX12_spanOf_4 : decode cX12_spanOf 4 = .ok (.ldc_w 257, 3) := by decide +kernel
theorem dX12_spanOf_7 : decode cX12_spanOf 7 = .ok (.istore_n 2, 1) := by decide +kernel
theorem dX12_spanOf_8 : decode cX12_spanOf 8 = .ok (.iconst 0, 1) := by decide +kernel
theorem dX12_spanOf_9 : decode cX12_spanOf 9 = .ok (.istore_n 3, 1) := by decide +kernel
theorem dX12_spanOf_10 : decode cX12_spanOf 10 = .ok (.iload_n 3, 1) := by decide +kernel
theorem dX12_spanOf_11 : decode cX12_spanOf 11 = .ok (.aload_n 0, 1) := by decide +kernel
theorem dX12_spanOf_12 : decode cX12_spanOf 12 = .ok (.invokevirtual 218, 3) := by decide +kernel
theorem dX12_spanOf_15 : decode cX12_spanOf 15 = .ok (.if_icmp .ge 59, 3) := by decide +kernel
theorem dX12_spanOf_18 : decode cX12_spanOf 18 = .ok (.aload_n 0, 1) := by decide +kernel
theorem dX12_spanOf_19 : decode cX12_spanOf 19 = .ok (.iload_n 3, 1) := by decide +kernel
theorem dX12_spanOf_20 : decode cX12_spanOf 20 = .ok (.invokevirtual 258, 3) := by decide +kernel
theorem dX12_spanOf_23 : decode cX12_spanOf 23 = .ok (.ifCond .ne 45, 3) := by decide +kernel
theorem dX12_spanOf_26 : decode cX12_spanOf 26 = .ok (.aload_n 0, 1) := by decide +kernel
theorem dX12_spanOf_27 : decode cX12_spanOf 27 = .ok (.getfield 22, 3) := by decide +kernel
theorem dX12_spanOf_30 : decode cX12_spanOf 30 = .ok (.iload_n 3, 1) := by decide +kernel
theorem dX12_spanOf_31 : decode cX12_spanOf 31 = .ok (.iaload, 1) := by decide +kernel
theorem dX12_spanOf_32 : decode cX12_spanOf 32 = .ok (.iload_n 1, 1) := by decide +kernel
theorem dX12_spanOf_33 : decode cX12_spanOf 33 = .ok (.if_icmp .ge 12, 3) := by decide +kernel
theorem dX12_spanOf_36 : decode cX12_spanOf 36 = .ok (.aload_n 0, 1) := by decide +kernel
theorem dX12_spanOf_37 : decode cX12_spanOf 37 = .ok (.getfield 22, 3) := by decide +kernel
theorem dX12_spanOf_40 : decode cX12_spanOf 40 = .ok (.iload_n 3, 1) := by decide +kernel
theorem dX12_spanOf_41 : decode cX12_spanOf 41 = .ok (.iaload, 1) := by decide +kernel
theorem dX12_spanOf_42 : decode cX12_spanOf 42 = .ok (.goto 4, 3) := by decide +kernel
theorem dX12_spanOf_45 : decode cX12_spanOf 45 = .ok (.iload_n 1, 1) := by decide +kernel
theorem dX12_spanOf_46 : decode cX12_spanOf 46 = .ok (.istore_n 1, 1) := by decide +kernel
theorem dX12_spanOf_47 : decode cX12_spanOf 47 = .ok (.aload_n 0, 1) := by decide +kernel
theorem dX12_spanOf_48 : decode cX12_spanOf 48 = .ok (.getfield 22, 3) := by decide +kernel
theorem dX12_spanOf_51 : decode cX12_spanOf 51 = .ok (.iload_n 3, 1) := by decide +kernel
theorem dX12_spanOf_52 : decode cX12_spanOf 52 = .ok (.iaload, 1) := by decide +kernel
theorem dX12_spanOf_53 : decode cX12_spanOf 53 = .ok (.iload_n 2, 1) := by decide +kernel
theorem dX12_spanOf_54 : decode cX12_spanOf 54 = .ok (.if_icmp .le 12, 3) := by decide +kernel
theorem dX12_spanOf_57 : decode cX12_spanOf 57 = .ok (.aload_n 0, 1) := by decide +kernel
theorem dX12_spanOf_58 : decode cX12_spanOf 58 = .ok (.getfield 22, 3) := by decide +kernel
theorem dX12_spanOf_61 : decode cX12_spanOf 61 = .ok (.iload_n 3, 1) := by decide +kernel
theorem dX12_spanOf_62 : decode cX12_spanOf 62 = .ok (.iaload, 1) := by decide +kernel
theorem dX12_spanOf_63 : decode cX12_spanOf 63 = .ok (.goto 4, 3) := by decide +kernel
theorem dX12_spanOf_66 : decode cX12_spanOf 66 = .ok (.iload_n 2, 1) := by decide +kernel
theorem dX12_spanOf_67 : decode cX12_spanOf 67 = .ok (.istore_n 2, 1) := by decide +kernel
theorem dX12_spanOf_68 : decode cX12_spanOf 68 = .ok (.iinc 3 1, 3) := by decide +kernel
theorem dX12_spanOf_71 : decode cX12_spanOf 71 = .ok (.goto (-61), 3) := by decide +kernel
theorem dX12_spanOf_74 : decode cX12_spanOf 74 = .ok (.iload_n 1, 1) := by decide +kernel
theorem dX12_spanOf_75 : decode cX12_spanOf 75 = .ok (.ldc_w 256, 3) := by decide +kernel
theorem dX12_spanOf_78 : decode cX12_spanOf 78 = .ok (.if_icmp .ne 7, 3) := by decide +kernel
theorem dX12_spanOf_81 : decode cX12_spanOf 81 = .ok (.iconst 0, 1) := by decide +kernel
theorem dX12_spanOf_82 : decode cX12_spanOf 82 = .ok (.goto 6, 3) := by decide +kernel
theorem dX12_spanOf_85 : decode cX12_spanOf 85 = .ok (.iload_n 2, 1) := by decide +kernel
theorem dX12_spanOf_86 : decode cX12_spanOf 86 = .ok (.iload_n 1, 1) := by decide +kernel
theorem dX12_spanOf_87 : decode cX12_spanOf 87 = .ok (.isub, 1) := by decide +kernel
theorem dX12_spanOf_88 : decode cX12_spanOf 88 = .ok (.ireturn, 1) := by decide +kernel
theorem dX12_higher_0 : decode cX12_higher 0 = .ok (.iload_n 1, 1) := by decide +kernel
theorem dX12_higher_1 : decode cX12_higher 1 = .ok (.istore_n 2, 1) := by decide +kernel
theorem dX12_higher_2 : decode cX12_higher 2 = .ok (.iconst 0, 1) := by decide +kernel
theorem dX12_higher_3 : decode cX12_higher 3 = .ok (.istore_n 3, 1) := by decide +kernel
theorem dX12_higher_4 : decode cX12_higher 4 = .ok (.iload_n 3, 1) := by decide +kernel
theorem dX12_higher_5 : decode cX12_higher 5 = .ok (.bipush 8, 2) := by decide +kernel
theorem dX12_higher_7 : decode cX12_higher 7 = .ok (.if_icmp .ge 80, 3) := by decide +kernel
theorem dX12_higher_10 : decode cX12_higher 10 = .ok (.aload_n 0, 1) := by decide +kernel
theorem dX12_higher_11 : decode cX12_higher 11 = .ok (.iload_n 1, 1) := by decide +kernel
theorem dX12_higher_12 : decode cX12_higher 12 = .ok (.iload_n 3, 1) := by decide +kernel
theorem dX12_higher_13 : decode cX12_higher 13 = .ok (.invokevirtual 253, 3) := by decide +kernel
theorem dX12_higher_16 : decode cX12_higher 16 = .ok (.istore 4, 2) := by decide +kernel
theorem dX12_higher_18 : decode cX12_higher 18 = .ok (.iload 4, 2) := by decide +kernel
theorem dX12_higher_20 : decode cX12_higher 20 = .ok (.iconst (-1), 1) := by decide +kernel
theorem dX12_higher_21 : decode cX12_higher 21 = .ok (.if_icmp .eq 45, 3) := by decide +kernel
theorem dX12_higher_24 : decode cX12_higher 24 = .ok (.aload_n 0, 1) := by decide +kernel
theorem dX12_higher_25 : decode cX12_higher 25 = .ok (.getfield 22, 3) := by decide +kernel
theorem dX12_higher_28 : decode cX12_higher 28 = .ok (.iload 4, 2) := by decide +kernel
theorem dX12_higher_30 : decode cX12_higher 30 = .ok (.iaload, 1) := by decide +kernel
theorem dX12_higher_31 : decode cX12_higher 31 = .ok (.aload_n 0, 1) := by decide +kernel
theorem dX12_higher_32 : decode cX12_higher 32 = .ok (.getfield 22, 3) := by decide +kernel
theorem dX12_higher_35 : decode cX12_higher 35 = .ok (.iload_n 2, 1) := by decide +kernel
theorem dX12_higher_36 : decode cX12_higher 36 = .ok (.iaload, 1) := by decide +kernel
theorem dX12_higher_37 : decode cX12_higher 37 = .ok (.if_icmp .gt 25, 3) := by decide +kernel
theorem dX12_higher_40 : decode cX12_higher 40 = .ok (.aload_n 0, 1) := by decide +kernel
theorem dX12_higher_41 : decode cX12_higher 41 = .ok (.getfield 22, 3) := by decide +kernel
theorem dX12_higher_44 : decode cX12_higher 44 = .ok (.iload 4, 2) := by decide +kernel
theorem dX12_higher_46 : decode cX12_higher 46 = .ok (.iaload, 1) := by decide +kernel
theorem dX12_higher_47 : decode cX12_higher 47 = .ok (.aload_n 0, 1) := by decide +kernel
theorem dX12_higher_48 : decode cX12_higher 48 = .ok (.getfield 22, 3) := by decide +kernel
theorem dX12_higher_51 : decode cX12_higher 51 = .ok (.iload_n 2, 1) := by decide +kernel
theorem dX12_higher_52 : decode cX12_higher 52 = .ok (.iaload, 1) := by decide +kernel
theorem dX12_higher_53 : decode cX12_higher 53 = .ok (.if_icmp .ne 13, 3) := by decide +kernel
theorem dX12_higher_56 : decode cX12_higher 56 = .ok (.iload 4, 2) := by decide +kernel
theorem dX12_higher_58 : decode cX12_higher 58 = .ok (.iload_n 2, 1) := by decide +kernel
theorem dX12_higher_59 : decode cX12_higher 59 = .ok (.if_icmp .ge 7, 3) := by decide +kernel
theorem dX12_higher_62 : decode cX12_higher 62 = .ok (.iconst 1, 1) := by decide +kernel
theorem dX12_higher_63 : decode cX12_higher 63 = .ok (.goto 4, 3) := by decide +kernel
theorem dX12_higher_66 : decode cX12_higher 66 = .ok (.iconst 0, 1) := by decide +kernel
theorem dX12_higher_67 : decode cX12_higher 67 = .ok (.istore 5, 2) := by decide +kernel
theorem dX12_higher_69 : decode cX12_higher 69 = .ok (.iload 5, 2) := by decide +kernel
theorem dX12_higher_71 : decode cX12_higher 71 = .ok (.ifCond .eq 8, 3) := by decide +kernel
theorem dX12_higher_74 : decode cX12_higher 74 = .ok (.iload 4, 2) := by decide +kernel
theorem dX12_higher_76 : decode cX12_higher 76 = .ok (.goto 4, 3) := by decide +kernel
theorem dX12_higher_79 : decode cX12_higher 79 = .ok (.iload_n 2, 1) := by decide +kernel
theorem dX12_higher_80 : decode cX12_higher 80 = .ok (.istore_n 2, 1) := by decide +kernel
theorem dX12_higher_81 : decode cX12_higher 81 = .ok (.iinc 3 1, 3) := by decide +kernel
theorem dX12_higher_84 : decode cX12_higher 84 = .ok (.goto (-80), 3) := by decide +kernel
theorem dX12_higher_87 : decode cX12_higher 87 = .ok (.iload_n 2, 1) := by decide +kernel
theorem dX12_higher_88 : decode cX12_higher 88 = .ok (.ireturn, 1) := by decide +kernel
theorem dX12_layTops_0 : decode cX12_layTops 0 = .ok (.iconst 0, 1) := by decide +kernel
theorem dX12_layTops_1 : decode cX12_layTops 1 = .ok (.istore_n 1, 1) := by decide +kernel
theorem dX12_layTops_2 : decode cX12_layTops 2 = .ok (.iload_n 1, 1) := by decide +kernel
theorem dX12_layTops_3 : decode cX12_layTops 3 = .ok (.aload_n 0, 1) := by decide +kernel
theorem dX12_layTops_4 : decode cX12_layTops 4 = .ok (.invokevirtual 218, 3) := by decide +kernel
theorem dX12_layTops_7 : decode cX12_layTops 7 = .ok (.if_icmp .ge 48, 3) := by decide +kernel
theorem dX12_layTops_10 : decode cX12_layTops 10 = .ok (.iload_n 1, 1) := by decide +kernel
theorem dX12_layTops_11 : decode cX12_layTops 11 = .ok (.istore_n 2, 1) := by decide +kernel
theorem dX12_layTops_12 : decode cX12_layTops 12 = .ok (.aload_n 0, 1) := by decide +kernel
theorem dX12_layTops_13 : decode cX12_layTops 13 = .ok (.iload_n 2, 1) := by decide +kernel
theorem dX12_layTops_14 : decode cX12_layTops 14 = .ok (.invokevirtual 261, 3) := by decide +kernel
theorem dX12_layTops_17 : decode cX12_layTops 17 = .ok (.iload_n 2, 1) := by decide +kernel
theorem dX12_layTops_18 : decode cX12_layTops 18 = .ok (.if_icmp .eq 12, 3) := by decide +kernel
theorem dX12_layTops_21 : decode cX12_layTops 21 = .ok (.aload_n 0, 1) := by decide +kernel
theorem dX12_layTops_22 : decode cX12_layTops 22 = .ok (.iload_n 2, 1) := by decide +kernel
theorem dX12_layTops_23 : decode cX12_layTops 23 = .ok (.invokevirtual 261, 3) := by decide +kernel
theorem dX12_layTops_26 : decode cX12_layTops 26 = .ok (.istore_n 2, 1) := by decide +kernel
theorem dX12_layTops_27 : decode cX12_layTops 27 = .ok (.goto (-15), 3) := by decide +kernel
theorem dX12_layTops_30 : decode cX12_layTops 30 = .ok (.aload_n 0, 1) := by decide +kernel
theorem dX12_layTops_31 : decode cX12_layTops 31 = .ok (.getfield 104, 3) := by decide +kernel
theorem dX12_layTops_34 : decode cX12_layTops 34 = .ok (.iload_n 1, 1) := by decide +kernel
theorem dX12_layTops_35 : decode cX12_layTops 35 = .ok (.aload_n 0, 1) := by decide +kernel
theorem dX12_layTops_36 : decode cX12_layTops 36 = .ok (.iload_n 1, 1) := by decide +kernel
theorem dX12_layTops_37 : decode cX12_layTops 37 = .ok (.invokevirtual 250, 3) := by decide +kernel
theorem dX12_layTops_40 : decode cX12_layTops 40 = .ok (.ifCond .eq 7, 3) := by decide +kernel
theorem dX12_layTops_43 : decode cX12_layTops 43 = .ok (.iload_n 2, 1) := by decide +kernel
theorem dX12_layTops_44 : decode cX12_layTops 44 = .ok (.goto 4, 3) := by decide +kernel
theorem dX12_layTops_47 : decode cX12_layTops 47 = .ok (.iconst (-1), 1) := by decide +kernel
theorem dX12_layTops_48 : decode cX12_layTops 48 = .ok (.iastore, 1) := by decide +kernel
theorem dX12_layTops_49 : decode cX12_layTops 49 = .ok (.iinc 1 1, 3) := by decide +kernel
theorem dX12_layTops_52 : decode cX12_layTops 52 = .ok (.goto (-50), 3) := by decide +kernel
theorem dX12_layTops_55 : decode cX12_layTops 55 = .ok (.return_, 1) := by decide +kernel
theorem dX12_lesser_0 : decode cX12_lesser 0 = .ok (.iload_n 0, 1) := by decide +kernel
theorem dX12_lesser_1 : decode cX12_lesser 1 = .ok (.iload_n 1, 1) := by decide +kernel
theorem dX12_lesser_2 : decode cX12_lesser 2 = .ok (.if_icmp .ge 7, 3) := by decide +kernel
theorem dX12_lesser_5 : decode cX12_lesser 5 = .ok (.iload_n 0, 1) := by decide +kernel
theorem dX12_lesser_6 : decode cX12_lesser 6 = .ok (.goto 4, 3) := by decide +kernel
theorem dX12_lesser_9 : decode cX12_lesser 9 = .ok (.iload_n 1, 1) := by decide +kernel
theorem dX12_lesser_10 : decode cX12_lesser 10 = .ok (.ireturn, 1) := by decide +kernel
theorem dX12_passOf_0 : decode cX12_passOf 0 = .ok (.ldc_w 257, 3) := by decide +kernel
theorem dX12_passOf_3 : decode cX12_passOf 3 = .ok (.istore_n 3, 1) := by decide +kernel
theorem dX12_passOf_4 : decode cX12_passOf 4 = .ok (.iconst 0, 1) := by decide +kernel
theorem dX12_passOf_5 : decode cX12_passOf 5 = .ok (.istore 4, 2) := by decide +kernel
theorem dX12_passOf_7 : decode cX12_passOf 7 = .ok (.iload 4, 2) := by decide +kernel
theorem dX12_passOf_9 : decode cX12_passOf 9 = .ok (.aload_n 0, 1) := by decide +kernel
theorem dX12_passOf_10 : decode cX12_passOf 10 = .ok (.invokevirtual 218, 3) := by decide +kernel
theorem dX12_passOf_13 : decode cX12_passOf 13 = .ok (.if_icmp .ge 101, 3) := by decide +kernel
theorem dX12_passOf_16 : decode cX12_passOf 16 = .ok (.iconst 0, 1) := by decide +kernel
theorem dX12_passOf_17 : decode cX12_passOf 17 = .ok (.istore 5, 2) := by decide +kernel
theorem dX12_passOf_19 : decode cX12_passOf 19 = .ok (.iload 5, 2) := by decide +kernel
theorem dX12_passOf_21 : decode cX12_passOf 21 = .ok (.bipush 8, 2) := by decide +kernel
theorem dX12_passOf_23 : decode cX12_passOf 23 = .ok (.if_icmp .ge 85, 3) := by decide +kernel
theorem dX12_passOf_26 : decode cX12_passOf 26 = .ok (.aload_n 0, 1) := by decide +kernel
theorem dX12_passOf_27 : decode cX12_passOf 27 = .ok (.getfield 104, 3) := by decide +kernel
theorem dX12_passOf_30 : decode cX12_passOf 30 = .ok (.iload 4, 2) := by decide +kernel
theorem dX12_passOf_32 : decode cX12_passOf 32 = .ok (.iaload, 1) := by decide +kernel
theorem dX12_passOf_33 : decode cX12_passOf 33 = .ok (.iload_n 1, 1) := by decide +kernel
theorem dX12_passOf_34 : decode cX12_passOf 34 = .ok (.if_icmp .ne 74, 3) := by decide +kernel
theorem dX12_passOf_37 : decode cX12_passOf 37 = .ok (.aload_n 0, 1) := by decide +kernel
theorem dX12_passOf_38 : decode cX12_passOf 38 = .ok (.iload 4, 2) := by decide +kernel
theorem dX12_passOf_40 : decode cX12_passOf 40 = .ok (.iload 5, 2) := by decide +kernel
theorem dX12_passOf_42 : decode cX12_passOf 42 = .ok (.invokevirtual 253, 3) := by decide +kernel
theorem dX12_passOf_45 : decode cX12_passOf 45 = .ok (.istore 6, 2) := by decide +kernel
theorem dX12_passOf_47 : decode cX12_passOf 47 = .ok (.iload 6, 2) := by decide +kernel
theorem dX12_passOf_49 : decode cX12_passOf 49 = .ok (.iconst (-1), 1) := by decide +kernel
theorem dX12_passOf_50 : decode cX12_passOf 50 = .ok (.if_icmp .eq 34, 3) := by decide +kernel
theorem dX12_passOf_53 : decode cX12_passOf 53 = .ok (.aload_n 0, 1) := by decide +kernel
theorem dX12_passOf_54 : decode cX12_passOf 54 = .ok (.getfield 104, 3) := by decide +kernel
theorem dX12_passOf_57 : decode cX12_passOf 57 = .ok (.iload 6, 2) := by decide +kernel
theorem dX12_passOf_59 : decode cX12_passOf 59 = .ok (.iaload, 1) := by decide +kernel
theorem dX12_passOf_60 : decode cX12_passOf 60 = .ok (.iload_n 2, 1) := by decide +kernel
theorem dX12_passOf_61 : decode cX12_passOf 61 = .ok (.if_icmp .ne 23, 3) := by decide +kernel
theorem dX12_passOf_64 : decode cX12_passOf 64 = .ok (.aload_n 0, 1) := by decide +kernel
theorem dX12_passOf_65 : decode cX12_passOf 65 = .ok (.getfield 22, 3) := by decide +kernel
theorem dX12_passOf_68 : decode cX12_passOf 68 = .ok (.iload 4, 2) := by decide +kernel
theorem dX12_passOf_70 : decode cX12_passOf 70 = .ok (.iaload, 1) := by decide +kernel
theorem dX12_passOf_71 : decode cX12_passOf 71 = .ok (.aload_n 0, 1) := by decide +kernel
theorem dX12_passOf_72 : decode cX12_passOf 72 = .ok (.getfield 22, 3) := by decide +kernel
theorem dX12_passOf_75 : decode cX12_passOf 75 = .ok (.iload 6, 2) := by decide +kernel
theorem dX12_passOf_77 : decode cX12_passOf 77 = .ok (.iaload, 1) := by decide +kernel
theorem dX12_passOf_78 : decode cX12_passOf 78 = .ok (.invokestatic 264, 3) := by decide +kernel
theorem dX12_passOf_81 : decode cX12_passOf 81 = .ok (.goto 6, 3) := by decide +kernel
theorem dX12_passOf_84 : decode cX12_passOf 84 = .ok (.ldc_w 257, 3) := by decide +kernel
theorem dX12_passOf_87 : decode cX12_passOf 87 = .ok (.istore 7, 2) := by decide +kernel
theorem dX12_passOf_89 : decode cX12_passOf 89 = .ok (.iload 7, 2) := by decide +kernel
theorem dX12_passOf_91 : decode cX12_passOf 91 = .ok (.iload_n 3, 1) := by decide +kernel
theorem dX12_passOf_92 : decode cX12_passOf 92 = .ok (.if_icmp .le 8, 3) := by decide +kernel
theorem dX12_passOf_95 : decode cX12_passOf 95 = .ok (.iload 7, 2) := by decide +kernel
theorem dX12_passOf_97 : decode cX12_passOf 97 = .ok (.goto 4, 3) := by decide +kernel
theorem dX12_passOf_100 : decode cX12_passOf 100 = .ok (.iload_n 3, 1) := by decide +kernel
theorem dX12_passOf_101 : decode cX12_passOf 101 = .ok (.istore_n 3, 1) := by decide +kernel
theorem dX12_passOf_102 : decode cX12_passOf 102 = .ok (.iinc 5 1, 3) := by decide +kernel
theorem dX12_passOf_105 : decode cX12_passOf 105 = .ok (.goto (-86), 3) := by decide +kernel
theorem dX12_passOf_108 : decode cX12_passOf 108 = .ok (.iinc 4 1, 3) := by decide +kernel
theorem dX12_passOf_111 : decode cX12_passOf 111 = .ok (.goto (-104), 3) := by decide +kernel
theorem dX12_passOf_114 : decode cX12_passOf 114 = .ok (.iload_n 3, 1) := by decide +kernel
theorem dX12_passOf_115 : decode cX12_passOf 115 = .ok (.ireturn, 1) := by decide +kernel
theorem dX12_isTop_0 : decode cX12_isTop 0 = .ok (.aload_n 0, 1) := by decide +kernel
theorem dX12_isTop_1 : decode cX12_isTop 1 = .ok (.getfield 104, 3) := by decide +kernel
theorem dX12_isTop_4 : decode cX12_isTop 4 = .ok (.iload_n 1, 1) := by decide +kernel
theorem dX12_isTop_5 : decode cX12_isTop 5 = .ok (.iaload, 1) := by decide +kernel
theorem dX12_isTop_6 : decode cX12_isTop 6 = .ok (.iload_n 1, 1) := by decide +kernel
theorem dX12_isTop_7 : decode cX12_isTop 7 = .ok (.if_icmp .ne 7, 3) := by decide +kernel
theorem dX12_isTop_10 : decode cX12_isTop 10 = .ok (.iconst 1, 1) := by decide +kernel
theorem dX12_isTop_11 : decode cX12_isTop 11 = .ok (.goto 4, 3) := by decide +kernel
theorem dX12_isTop_14 : decode cX12_isTop 14 = .ok (.iconst 0, 1) := by decide +kernel
theorem dX12_isTop_15 : decode cX12_isTop 15 = .ok (.ireturn, 1) := by decide +kernel
theorem dX12_isJoined_0 : decode cX12_isJoined 0 = .ok (.iload_n 3, 1) := by decide +kernel
theorem dX12_isJoined_1 : decode cX12_isJoined 1 = .ok (.ldc_w 257, 3) := by decide +kernel
theorem dX12_isJoined_4 : decode cX12_isJoined 4 = .ok (.if_icmp .le 36, 3) := by decide +kernel
theorem dX12_isJoined_7 : decode cX12_isJoined 7 = .ok (.bipush 100, 2) := by decide +kernel
theorem dX12_isJoined_9 : decode cX12_isJoined 9 = .ok (.iload_n 3, 1) := by decide +kernel
theorem dX12_isJoined_10 : decode cX12_isJoined 10 = .ok (.imul, 1) := by decide +kernel
theorem dX12_isJoined_11 : decode cX12_isJoined 11 = .ok (.aload_n 0, 1) := by decide +kernel
theorem dX12_isJoined_12 : decode cX12_isJoined 12 = .ok (.getfield 44, 3) := by decide +kernel
theorem dX12_isJoined_15 : decode cX12_isJoined 15 = .ok (.iconst 2, 1) := by decide +kernel
theorem dX12_isJoined_16 : decode cX12_isJoined 16 = .ok (.iaload, 1) := by decide +kernel
theorem dX12_isJoined_17 : decode cX12_isJoined 17 = .ok (.aload_n 0, 1) := by decide +kernel
theorem dX12_isJoined_18 : decode cX12_isJoined 18 = .ok (.getfield 22, 3) := by decide +kernel
theorem dX12_isJoined_21 : decode cX12_isJoined 21 = .ok (.iload_n 1, 1) := by decide +kernel
theorem dX12_isJoined_22 : decode cX12_isJoined 22 = .ok (.iaload, 1) := by decide +kernel
theorem dX12_isJoined_23 : decode cX12_isJoined 23 = .ok (.aload_n 0, 1) := by decide +kernel
theorem dX12_isJoined_24 : decode cX12_isJoined 24 = .ok (.getfield 22, 3) := by decide +kernel
theorem dX12_isJoined_27 : decode cX12_isJoined 27 = .ok (.iload_n 2, 1) := by decide +kernel
theorem dX12_isJoined_28 : decode cX12_isJoined 28 = .ok (.iaload, 1) := by decide +kernel
theorem dX12_isJoined_29 : decode cX12_isJoined 29 = .ok (.invokestatic 264, 3) := by decide +kernel
theorem dX12_isJoined_32 : decode cX12_isJoined 32 = .ok (.imul, 1) := by decide +kernel
theorem dX12_isJoined_33 : decode cX12_isJoined 33 = .ok (.if_icmp .lt 7, 3) := by decide +kernel
theorem dX12_isJoined_36 : decode cX12_isJoined 36 = .ok (.iconst 1, 1) := by decide +kernel
theorem dX12_isJoined_37 : decode cX12_isJoined 37 = .ok (.goto 4, 3) := by decide +kernel
theorem dX12_isJoined_40 : decode cX12_isJoined 40 = .ok (.iconst 0, 1) := by decide +kernel
theorem dX12_isJoined_41 : decode cX12_isJoined 41 = .ok (.ireturn, 1) := by decide +kernel
theorem dX12_joinOnce_0 : decode cX12_joinOnce 0 = .ok (.iconst (-1), 1) := by decide +kernel
theorem dX12_joinOnce_1 : decode cX12_joinOnce 1 = .ok (.istore_n 1, 1) := by decide +kernel
theorem dX12_joinOnce_2 : decode cX12_joinOnce 2 = .ok (.iconst (-1), 1) := by decide +kernel
theorem dX12_joinOnce_3 : decode cX12_joinOnce 3 = .ok (.istore_n 2, 1) := by decide +kernel
theorem dX12_joinOnce_4 : decode cX12_joinOnce 4 = .ok (.ldc_w 257, 3) := by decide +kernel
theorem dX12_joinOnce_7 : decode cX12_joinOnce 7 = .ok (.istore_n 3, 1) := by decide +kernel
theorem dX12_joinOnce_8 : decode cX12_joinOnce 8 = .ok (.iconst 0, 1) := by decide +kernel
theorem dX12_joinOnce_9 : decode cX12_joinOnce 9 = .ok (.istore 4, 2) := by decide +kernel
theorem dX12_joinOnce_11 : decode cX12_joinOnce 11 = .ok (.iload 4, 2) := by decide +kernel
theorem dX12_joinOnce_13 : decode cX12_joinOnce 13 = .ok (.aload_n 0, 1) := by decide +kernel
theorem dX12_joinOnce_14 : decode cX12_joinOnce 14 = .ok (.invokevirtual 218, 3) := by decide +kernel
theorem dX12_joinOnce_17 : decode cX12_joinOnce 17 = .ok (.if_icmp .ge 92, 3) := by decide +kernel
theorem dX12_joinOnce_20 : decode cX12_joinOnce 20 = .ok (.iload 4, 2) := by decide +kernel
theorem dX12_joinOnce_22 : decode cX12_joinOnce 22 = .ok (.iconst 1, 1) := by decide +kernel
theorem dX12_joinOnce_23 : decode cX12_joinOnce 23 = .ok (.iadd, 1) := by decide +kernel
theorem dX12_joinOnce_24 : decode cX12_joinOnce 24 = .ok (.istore 5, 2) := by decide +kernel
theorem dX12_joinOnce_26 : decode cX12_joinOnce 26 = .ok (.iload 5, 2) := by decide +kernel
theorem dX12_joinOnce_28 : decode cX12_joinOnce 28 = .ok (.aload_n 0, 1) := by decide +kernel
theorem dX12_joinOnce_29 : decode cX12_joinOnce 29 = .ok (.invokevirtual 218, 3) := by decide +kernel
theorem dX12_joinOnce_32 : decode cX12_joinOnce 32 = .ok (.if_icmp .ge 71, 3) := by decide +kernel
theorem dX12_joinOnce_35 : decode cX12_joinOnce 35 = .ok (.aload_n 0, 1) := by decide +kernel
theorem dX12_joinOnce_36 : decode cX12_joinOnce 36 = .ok (.iload 4, 2) := by decide +kernel
theorem dX12_joinOnce_38 : decode cX12_joinOnce 38 = .ok (.invokevirtual 267, 3) := by decide +kernel
theorem dX12_joinOnce_41 : decode cX12_joinOnce 41 = .ok (.ifCond .eq 62, 3) := by decide +kernel
theorem dX12_joinOnce_44 : decode cX12_joinOnce 44 = .ok (.aload_n 0, 1) := by decide +kernel
theorem dX12_joinOnce_45 : decode cX12_joinOnce 45 = .ok (.iload 5, 2) := by decide +kernel
theorem dX12_joinOnce_47 : decode cX12_joinOnce 47 = .ok (.invokevirtual 267, 3) := by decide +kernel
theorem dX12_joinOnce_50 : decode cX12_joinOnce 50 = .ok (.ifCond .eq 14, 3) := by decide +kernel
theorem dX12_joinOnce_53 : decode cX12_joinOnce 53 = .ok (.aload_n 0, 1) := by decide +kernel
theorem dX12_joinOnce_54 : decode cX12_joinOnce 54 = .ok (.iload 4, 2) := by decide +kernel
theorem dX12_joinOnce_56 : decode cX12_joinOnce 56 = .ok (.iload 5, 2) := by decide +kernel
theorem dX12_joinOnce_58 : decode cX12_joinOnce 58 = .ok (.invokevirtual 270, 3) := by decide +kernel
theorem dX12_joinOnce_61 : decode cX12_joinOnce 61 = .ok (.goto 6, 3) := by decide +kernel
theorem dX12_joinOnce_64 : decode cX12_joinOnce 64 = .ok (.ldc_w 257, 3) := by decide +kernel
theorem dX12_joinOnce_67 : decode cX12_joinOnce 67 = .ok (.istore 6, 2) := by decide +kernel
theorem dX12_joinOnce_69 : decode cX12_joinOnce 69 = .ok (.aload_n 0, 1) := by decide +kernel
theorem dX12_joinOnce_70 : decode cX12_joinOnce 70 = .ok (.iload 4, 2) := by decide +kernel
theorem dX12_joinOnce_72 : decode cX12_joinOnce 72 = .ok (.iload 5, 2) := by decide +kernel
theorem dX12_joinOnce_74 : decode cX12_joinOnce 74 = .ok (.iload 6, 2) := by decide +kernel
theorem dX12_joinOnce_76 : decode cX12_joinOnce 76 = .ok (.invokevirtual 273, 3) := by decide +kernel
theorem dX12_joinOnce_79 : decode cX12_joinOnce 79 = .ok (.ifCond .eq 18, 3) := by decide +kernel
theorem dX12_joinOnce_82 : decode cX12_joinOnce 82 = .ok (.iload 6, 2) := by decide +kernel
theorem dX12_joinOnce_84 : decode cX12_joinOnce 84 = .ok (.iload_n 3, 1) := by decide +kernel
theorem dX12_joinOnce_85 : decode cX12_joinOnce 85 = .ok (.if_icmp .le 12, 3) := by decide +kernel
theorem dX12_joinOnce_88 : decode cX12_joinOnce 88 = .ok (.iload 4, 2) := by decide +kernel
theorem dX12_joinOnce_90 : decode cX12_joinOnce 90 = .ok (.istore_n 1, 1) := by decide +kernel
theorem dX12_joinOnce_91 : decode cX12_joinOnce 91 = .ok (.iload 5, 2) := by decide +kernel
theorem dX12_joinOnce_93 : decode cX12_joinOnce 93 = .ok (.istore_n 2, 1) := by decide +kernel
theorem dX12_joinOnce_94 : decode cX12_joinOnce 94 = .ok (.iload 6, 2) := by decide +kernel
theorem dX12_joinOnce_96 : decode cX12_joinOnce 96 = .ok (.istore_n 3, 1) := by decide +kernel
theorem dX12_joinOnce_97 : decode cX12_joinOnce 97 = .ok (.iinc 5 1, 3) := by decide +kernel
theorem dX12_joinOnce_100 : decode cX12_joinOnce 100 = .ok (.goto (-74), 3) := by decide +kernel
theorem dX12_joinOnce_103 : decode cX12_joinOnce 103 = .ok (.iinc 4 1, 3) := by decide +kernel
theorem dX12_joinOnce_106 : decode cX12_joinOnce 106 = .ok (.goto (-95), 3) := by decide +kernel
theorem dX12_joinOnce_109 : decode cX12_joinOnce 109 = .ok (.iload_n 1, 1) := by decide +kernel
theorem dX12_joinOnce_110 : decode cX12_joinOnce 110 = .ok (.iconst (-1), 1) := by decide +kernel
theorem dX12_joinOnce_111 : decode cX12_joinOnce 111 = .ok (.if_icmp .ne 5, 3) := by decide +kernel
theorem dX12_joinOnce_114 : decode cX12_joinOnce 114 = .ok (.iconst 0, 1) := by decide +kernel
theorem dX12_joinOnce_115 : decode cX12_joinOnce 115 = .ok (.ireturn, 1) := by decide +kernel
theorem dX12_joinOnce_116 : decode cX12_joinOnce 116 = .ok (.aload_n 0, 1) := by decide +kernel
theorem dX12_joinOnce_117 : decode cX12_joinOnce 117 = .ok (.getfield 22, 3) := by decide +kernel
theorem dX12_joinOnce_120 : decode cX12_joinOnce 120 = .ok (.iload_n 2, 1) := by decide +kernel
theorem dX12_joinOnce_121 : decode cX12_joinOnce 121 = .ok (.iaload, 1) := by decide +kernel
theorem dX12_joinOnce_122 : decode cX12_joinOnce 122 = .ok (.aload_n 0, 1) := by decide +kernel
theorem dX12_joinOnce_123 : decode cX12_joinOnce 123 = .ok (.getfield 22, 3) := by decide +kernel
theorem dX12_joinOnce_126 : decode cX12_joinOnce 126 = .ok (.iload_n 1, 1) := by decide +kernel
theorem dX12_joinOnce_127 : decode cX12_joinOnce 127 = .ok (.iaload, 1) := by decide +kernel
theorem dX12_joinOnce_128 : decode cX12_joinOnce 128 = .ok (.if_icmp .le 7, 3) := by decide +kernel
theorem dX12_joinOnce_131 : decode cX12_joinOnce 131 = .ok (.iload_n 2, 1) := by decide +kernel
theorem dX12_joinOnce_132 : decode cX12_joinOnce 132 = .ok (.goto 4, 3) := by decide +kernel
theorem dX12_joinOnce_135 : decode cX12_joinOnce 135 = .ok (.iload_n 1, 1) := by decide +kernel
theorem dX12_joinOnce_136 : decode cX12_joinOnce 136 = .ok (.istore 4, 2) := by decide +kernel
theorem dX12_joinOnce_138 : decode cX12_joinOnce 138 = .ok (.iconst 0, 1) := by decide +kernel
theorem dX12_joinOnce_139 : decode cX12_joinOnce 139 = .ok (.istore 5, 2) := by decide +kernel
theorem dX12_joinOnce_141 : decode cX12_joinOnce 141 = .ok (.iload 5, 2) := by decide +kernel
theorem dX12_joinOnce_143 : decode cX12_joinOnce 143 = .ok (.aload_n 0, 1) := by decide +kernel
theorem dX12_joinOnce_144 : decode cX12_joinOnce 144 = .ok (.invokevirtual 218, 3) := by decide +kernel
theorem dX12_joinOnce_147 : decode cX12_joinOnce 147 = .ok (.if_icmp .ge 50, 3) := by decide +kernel
theorem dX12_joinOnce_150 : decode cX12_joinOnce 150 = .ok (.aload_n 0, 1) := by decide +kernel
theorem dX12_joinOnce_151 : decode cX12_joinOnce 151 = .ok (.getfield 104, 3) := by decide +kernel
theorem dX12_joinOnce_154 : decode cX12_joinOnce 154 = .ok (.iload 5, 2) := by decide +kernel
theorem dX12_joinOnce_156 : decode cX12_joinOnce 156 = .ok (.aload_n 0, 1) := by decide +kernel
theorem dX12_joinOnce_157 : decode cX12_joinOnce 157 = .ok (.getfield 104, 3) := by decide +kernel
theorem dX12_joinOnce_160 : decode cX12_joinOnce 160 = .ok (.iload 5, 2) := by decide +kernel
theorem dX12_joinOnce_162 : decode cX12_joinOnce 162 = .ok (.iaload, 1) := by decide +kernel
theorem dX12_joinOnce_163 : decode cX12_joinOnce 163 = .ok (.iload_n 1, 1) := by decide +kernel
theorem dX12_joinOnce_164 : decode cX12_joinOnce 164 = .ok (.if_icmp .eq 14, 3) := by decide +kernel
theorem dX12_joinOnce_167 : decode cX12_joinOnce 167 = .ok (.aload_n 0, 1) := by decide +kernel
theorem dX12_joinOnce_168 : decode cX12_joinOnce 168 = .ok (.getfield 104, 3) := by decide +kernel
theorem dX12_joinOnce_171 : decode cX12_joinOnce 171 = .ok (.iload 5, 2) := by decide +kernel
theorem dX12_joinOnce_173 : decode cX12_joinOnce 173 = .ok (.iaload, 1) := by decide +kernel
theorem dX12_joinOnce_174 : decode cX12_joinOnce 174 = .ok (.iload_n 2, 1) := by decide +kernel
theorem dX12_joinOnce_175 : decode cX12_joinOnce 175 = .ok (.if_icmp .ne 8, 3) := by decide +kernel
theorem dX12_joinOnce_178 : decode cX12_joinOnce 178 = .ok (.iload 4, 2) := by decide +kernel
theorem dX12_joinOnce_180 : decode cX12_joinOnce 180 = .ok (.goto 10, 3) := by decide +kernel
theorem dX12_joinOnce_183 : decode cX12_joinOnce 183 = .ok (.aload_n 0, 1) := by decide +kernel
theorem dX12_joinOnce_184 : decode cX12_joinOnce 184 = .ok (.getfield 104, 3) := by decide +kernel
theorem dX12_joinOnce_187 : decode cX12_joinOnce 187 = .ok (.iload 5, 2) := by decide +kernel
theorem dX12_joinOnce_189 : decode cX12_joinOnce 189 = .ok (.iaload, 1) := by decide +kernel
theorem dX12_joinOnce_190 : decode cX12_joinOnce 190 = .ok (.iastore, 1) := by decide +kernel
theorem dX12_joinOnce_191 : decode cX12_joinOnce 191 = .ok (.iinc 5 1, 3) := by decide +kernel
theorem dX12_joinOnce_194 : decode cX12_joinOnce 194 = .ok (.goto (-53), 3) := by decide +kernel
theorem dX12_joinOnce_197 : decode cX12_joinOnce 197 = .ok (.iconst 1, 1) := by decide +kernel
theorem dX12_joinOnce_198 : decode cX12_joinOnce 198 = .ok (.ireturn, 1) := by decide +kernel
theorem dX12_layHills_0 : decode cX12_layHills 0 = .ok (.aload_n 0, 1) := by decide +kernel
theorem dX12_layHills_1 : decode cX12_layHills 1 = .ok (.invokevirtual 276, 3) := by decide +kernel
theorem dX12_layHills_4 : decode cX12_layHills 4 = .ok (.iconst 1, 1) := by decide +kernel
theorem dX12_layHills_5 : decode cX12_layHills 5 = .ok (.istore_n 1, 1) := by decide +kernel
theorem dX12_layHills_6 : decode cX12_layHills 6 = .ok (.iload_n 1, 1) := by decide +kernel
theorem dX12_layHills_7 : decode cX12_layHills 7 = .ok (.ifCond .eq 11, 3) := by decide +kernel
theorem dX12_layHills_10 : decode cX12_layHills 10 = .ok (.aload_n 0, 1) := by decide +kernel
theorem dX12_layHills_11 : decode cX12_layHills 11 = .ok (.invokevirtual 279, 3) := by decide +kernel
theorem dX12_layHills_14 : decode cX12_layHills 14 = .ok (.istore_n 1, 1) := by decide +kernel
theorem dX12_layHills_15 : decode cX12_layHills 15 = .ok (.goto (-9), 3) := by decide +kernel
theorem dX12_layHills_18 : decode cX12_layHills 18 = .ok (.return_, 1) := by decide +kernel
theorem dX12_massOf_0 : decode cX12_massOf 0 = .ok (.iconst 0, 1) := by decide +kernel
theorem dX12_massOf_1 : decode cX12_massOf 1 = .ok (.istore_n 2, 1) := by decide +kernel
theorem dX12_massOf_2 : decode cX12_massOf 2 = .ok (.iconst 0, 1) := by decide +kernel
theorem dX12_massOf_3 : decode cX12_massOf 3 = .ok (.istore_n 3, 1) := by decide +kernel
theorem dX12_massOf_4 : decode cX12_massOf 4 = .ok (.iload_n 3, 1) := by decide +kernel
theorem dX12_massOf_5 : decode cX12_massOf 5 = .ok (.aload_n 0, 1) := by decide +kernel
theorem dX12_massOf_6 : decode cX12_massOf 6 = .ok (.invokevirtual 218, 3) := by decide +kernel
theorem dX12_massOf_9 : decode cX12_massOf 9 = .ok (.if_icmp .ge 32, 3) := by decide +kernel
theorem dX12_massOf_12 : decode cX12_massOf 12 = .ok (.iload_n 2, 1) := by decide +kernel
theorem dX12_massOf_13 : decode cX12_massOf 13 = .ok (.aload_n 0, 1) := by decide +kernel
theorem dX12_massOf_14 : decode cX12_massOf 14 = .ok (.getfield 104, 3) := by decide +kernel
theorem dX12_massOf_17 : decode cX12_massOf 17 = .ok (.iload_n 3, 1) := by decide +kernel
theorem dX12_massOf_18 : decode cX12_massOf 18 = .ok (.iaload, 1) := by decide +kernel
theorem dX12_massOf_19 : decode cX12_massOf 19 = .ok (.iload_n 1, 1) := by decide +kernel
theorem dX12_massOf_20 : decode cX12_massOf 20 = .ok (.if_icmp .ne 12, 3) := by decide +kernel
theorem dX12_massOf_23 : decode cX12_massOf 23 = .ok (.aload_n 0, 1) := by decide +kernel
theorem dX12_massOf_24 : decode cX12_massOf 24 = .ok (.getfield 22, 3) := by decide +kernel
theorem dX12_massOf_27 : decode cX12_massOf 27 = .ok (.iload_n 3, 1) := by decide +kernel
theorem dX12_massOf_28 : decode cX12_massOf 28 = .ok (.iaload, 1) := by decide +kernel
theorem dX12_massOf_29 : decode cX12_massOf 29 = .ok (.goto 4, 3) := by decide +kernel
theorem dX12_massOf_32 : decode cX12_massOf 32 = .ok (.iconst 0, 1) := by decide +kernel
theorem dX12_massOf_33 : decode cX12_massOf 33 = .ok (.iadd, 1) := by decide +kernel
theorem dX12_massOf_34 : decode cX12_massOf 34 = .ok (.istore_n 2, 1) := by decide +kernel
theorem dX12_massOf_35 : decode cX12_massOf 35 = .ok (.iinc 3 1, 3) := by decide +kernel
theorem dX12_massOf_38 : decode cX12_massOf 38 = .ok (.goto (-34), 3) := by decide +kernel
theorem dX12_massOf_41 : decode cX12_massOf 41 = .ok (.iload_n 2, 1) := by decide +kernel
theorem dX12_massOf_42 : decode cX12_massOf 42 = .ok (.ireturn, 1) := by decide +kernel
theorem dX12_sizeOf_0 : decode cX12_sizeOf 0 = .ok (.iconst 0, 1) := by decide +kernel
theorem dX12_sizeOf_1 : decode cX12_sizeOf 1 = .ok (.istore_n 2, 1) := by decide +kernel
theorem dX12_sizeOf_2 : decode cX12_sizeOf 2 = .ok (.iconst 0, 1) := by decide +kernel
theorem dX12_sizeOf_3 : decode cX12_sizeOf 3 = .ok (.istore_n 3, 1) := by decide +kernel
theorem dX12_sizeOf_4 : decode cX12_sizeOf 4 = .ok (.iload_n 3, 1) := by decide +kernel
theorem dX12_sizeOf_5 : decode cX12_sizeOf 5 = .ok (.aload_n 0, 1) := by decide +kernel
theorem dX12_sizeOf_6 : decode cX12_sizeOf 6 = .ok (.invokevirtual 218, 3) := by decide +kernel
theorem dX12_sizeOf_9 : decode cX12_sizeOf 9 = .ok (.if_icmp .ge 27, 3) := by decide +kernel
theorem dX12_sizeOf_12 : decode cX12_sizeOf 12 = .ok (.iload_n 2, 1) := by decide +kernel
theorem dX12_sizeOf_13 : decode cX12_sizeOf 13 = .ok (.aload_n 0, 1) := by decide +kernel
theorem dX12_sizeOf_14 : decode cX12_sizeOf 14 = .ok (.getfield 104, 3) := by decide +kernel
theorem dX12_sizeOf_17 : decode cX12_sizeOf 17 = .ok (.iload_n 3, 1) := by decide +kernel
theorem dX12_sizeOf_18 : decode cX12_sizeOf 18 = .ok (.iaload, 1) := by decide +kernel
theorem dX12_sizeOf_19 : decode cX12_sizeOf 19 = .ok (.iload_n 1, 1) := by decide +kernel
theorem dX12_sizeOf_20 : decode cX12_sizeOf 20 = .ok (.if_icmp .ne 7, 3) := by decide +kernel
theorem dX12_sizeOf_23 : decode cX12_sizeOf 23 = .ok (.iconst 1, 1) := by decide +kernel
theorem dX12_sizeOf_24 : decode cX12_sizeOf 24 = .ok (.goto 4, 3) := by decide +kernel
theorem dX12_sizeOf_27 : decode cX12_sizeOf 27 = .ok (.iconst 0, 1) := by decide +kernel
theorem dX12_sizeOf_28 : decode cX12_sizeOf 28 = .ok (.iadd, 1) := by decide +kernel
theorem dX12_sizeOf_29 : decode cX12_sizeOf 29 = .ok (.istore_n 2, 1) := by decide +kernel
theorem dX12_sizeOf_30 : decode cX12_sizeOf 30 = .ok (.iinc 3 1, 3) := by decide +kernel
theorem dX12_sizeOf_33 : decode cX12_sizeOf 33 = .ok (.goto (-29), 3) := by decide +kernel
theorem dX12_sizeOf_36 : decode cX12_sizeOf 36 = .ok (.iload_n 2, 1) := by decide +kernel
theorem dX12_sizeOf_37 : decode cX12_sizeOf 37 = .ok (.ireturn, 1) := by decide +kernel
theorem dX12_isHigh_0 : decode cX12_isHigh 0 = .ok (.aload_n 0, 1) := by decide +kernel
theorem dX12_isHigh_1 : decode cX12_isHigh 1 = .ok (.iload_n 1, 1) := by decide +kernel
theorem dX12_isHigh_2 : decode cX12_isHigh 2 = .ok (.invokevirtual 267, 3) := by decide +kernel
theorem dX12_isHigh_5 : decode cX12_isHigh 5 = .ok (.ifCond .eq 22, 3) := by decide +kernel
theorem dX12_isHigh_8 : decode cX12_isHigh 8 = .ok (.aload_n 0, 1) := by decide +kernel
theorem dX12_isHigh_9 : decode cX12_isHigh 9 = .ok (.getfield 22, 3) := by decide +kernel
theorem dX12_isHigh_12 : decode cX12_isHigh 12 = .ok (.iload_n 1, 1) := by decide +kernel
theorem dX12_isHigh_13 : decode cX12_isHigh 13 = .ok (.iaload, 1) := by decide +kernel
theorem dX12_isHigh_14 : decode cX12_isHigh 14 = .ok (.aload_n 0, 1) := by decide +kernel
theorem dX12_isHigh_15 : decode cX12_isHigh 15 = .ok (.getfield 44, 3) := by decide +kernel
theorem dX12_isHigh_18 : decode cX12_isHigh 18 = .ok (.iconst 0, 1) := by decide +kernel
theorem dX12_isHigh_19 : decode cX12_isHigh 19 = .ok (.iaload, 1) := by decide +kernel
theorem dX12_isHigh_20 : decode cX12_isHigh 20 = .ok (.if_icmp .lt 7, 3) := by decide +kernel
theorem dX12_isHigh_23 : decode cX12_isHigh 23 = .ok (.iconst 1, 1) := by decide +kernel
theorem dX12_isHigh_24 : decode cX12_isHigh 24 = .ok (.goto 4, 3) := by decide +kernel
theorem dX12_isHigh_27 : decode cX12_isHigh 27 = .ok (.iconst 0, 1) := by decide +kernel
theorem dX12_isHigh_28 : decode cX12_isHigh 28 = .ok (.ireturn, 1) := by decide +kernel
theorem dX12_aheadOf_0 : decode cX12_aheadOf 0 = .ok (.iconst 0, 1) := by decide +kernel
theorem dX12_aheadOf_1 : decode cX12_aheadOf 1 = .ok (.istore_n 2, 1) := by decide +kernel
theorem dX12_aheadOf_2 : decode cX12_aheadOf 2 = .ok (.aload_n 0, 1) := by decide +kernel
theorem dX12_aheadOf_3 : decode cX12_aheadOf 3 = .ok (.iload_n 1, 1) := by decide +kernel
theorem dX12_aheadOf_4 : decode cX12_aheadOf 4 = .ok (.invokevirtual 282, 3) := by decide +kernel
theorem dX12_aheadOf_7 : decode cX12_aheadOf 7 = .ok (.istore_n 3, 1) := by decide +kernel
theorem dX12_aheadOf_8 : decode cX12_aheadOf 8 = .ok (.iconst 0, 1) := by decide +kernel
theorem dX12_aheadOf_9 : decode cX12_aheadOf 9 = .ok (.istore 4, 2) := by decide +kernel
theorem dX12_aheadOf_11 : decode cX12_aheadOf 11 = .ok (.iload 4, 2) := by decide +kernel
theorem dX12_aheadOf_13 : decode cX12_aheadOf 13 = .ok (.aload_n 0, 1) := by decide +kernel
theorem dX12_aheadOf_14 : decode cX12_aheadOf 14 = .ok (.invokevirtual 218, 3) := by decide +kernel
theorem dX12_aheadOf_17 : decode cX12_aheadOf 17 = .ok (.if_icmp .ge 64, 3) := by decide +kernel
theorem dX12_aheadOf_20 : decode cX12_aheadOf 20 = .ok (.iload 4, 2) := by decide +kernel
theorem dX12_aheadOf_22 : decode cX12_aheadOf 22 = .ok (.iload_n 1, 1) := by decide +kernel
theorem dX12_aheadOf_23 : decode cX12_aheadOf 23 = .ok (.if_icmp .eq 21, 3) := by decide +kernel
theorem dX12_aheadOf_26 : decode cX12_aheadOf 26 = .ok (.aload_n 0, 1) := by decide +kernel
theorem dX12_aheadOf_27 : decode cX12_aheadOf 27 = .ok (.iload 4, 2) := by decide +kernel
theorem dX12_aheadOf_29 : decode cX12_aheadOf 29 = .ok (.invokevirtual 285, 3) := by decide +kernel
theorem dX12_aheadOf_32 : decode cX12_aheadOf 32 = .ok (.ifCond .eq 12, 3) := by decide +kernel
theorem dX12_aheadOf_35 : decode cX12_aheadOf 35 = .ok (.aload_n 0, 1) := by decide +kernel
theorem dX12_aheadOf_36 : decode cX12_aheadOf 36 = .ok (.iload 4, 2) := by decide +kernel
theorem dX12_aheadOf_38 : decode cX12_aheadOf 38 = .ok (.invokevirtual 282, 3) := by decide +kernel
theorem dX12_aheadOf_41 : decode cX12_aheadOf 41 = .ok (.goto 6, 3) := by decide +kernel
theorem dX12_aheadOf_44 : decode cX12_aheadOf 44 = .ok (.ldc_w 257, 3) := by decide +kernel
theorem dX12_aheadOf_47 : decode cX12_aheadOf 47 = .ok (.istore 5, 2) := by decide +kernel
theorem dX12_aheadOf_49 : decode cX12_aheadOf 49 = .ok (.iload_n 2, 1) := by decide +kernel
theorem dX12_aheadOf_50 : decode cX12_aheadOf 50 = .ok (.iload 5, 2) := by decide +kernel
theorem dX12_aheadOf_52 : decode cX12_aheadOf 52 = .ok (.iload_n 3, 1) := by decide +kernel
theorem dX12_aheadOf_53 : decode cX12_aheadOf 53 = .ok (.if_icmp .gt 15, 3) := by decide +kernel
theorem dX12_aheadOf_56 : decode cX12_aheadOf 56 = .ok (.iload 5, 2) := by decide +kernel
theorem dX12_aheadOf_58 : decode cX12_aheadOf 58 = .ok (.iload_n 3, 1) := by decide +kernel
theorem dX12_aheadOf_59 : decode cX12_aheadOf 59 = .ok (.if_icmp .ne 13, 3) := by decide +kernel
theorem dX12_aheadOf_62 : decode cX12_aheadOf 62 = .ok (.iload 4, 2) := by decide +kernel
theorem dX12_aheadOf_64 : decode cX12_aheadOf 64 = .ok (.iload_n 1, 1) := by decide +kernel
theorem dX12_aheadOf_65 : decode cX12_aheadOf 65 = .ok (.if_icmp .ge 7, 3) := by decide +kernel
theorem dX12_aheadOf_68 : decode cX12_aheadOf 68 = .ok (.iconst 1, 1) := by decide +kernel
theorem dX12_aheadOf_69 : decode cX12_aheadOf 69 = .ok (.goto 4, 3) := by decide +kernel
theorem dX12_aheadOf_72 : decode cX12_aheadOf 72 = .ok (.iconst 0, 1) := by decide +kernel
theorem dX12_aheadOf_73 : decode cX12_aheadOf 73 = .ok (.iadd, 1) := by decide +kernel
theorem dX12_aheadOf_74 : decode cX12_aheadOf 74 = .ok (.istore_n 2, 1) := by decide +kernel
theorem dX12_aheadOf_75 : decode cX12_aheadOf 75 = .ok (.iinc 4 1, 3) := by decide +kernel
theorem dX12_aheadOf_78 : decode cX12_aheadOf 78 = .ok (.goto (-67), 3) := by decide +kernel
theorem dX12_aheadOf_81 : decode cX12_aheadOf 81 = .ok (.iload_n 2, 1) := by decide +kernel
theorem dX12_aheadOf_82 : decode cX12_aheadOf 82 = .ok (.ireturn, 1) := by decide +kernel
theorem dX12_laySpot_0 : decode cX12_laySpot 0 = .ok (.aload_n 0, 1) := by decide +kernel
theorem dX12_laySpot_1 : decode cX12_laySpot 1 = .ok (.iload_n 1, 1) := by decide +kernel
theorem dX12_laySpot_2 : decode cX12_laySpot 2 = .ok (.invokevirtual 282, 3) := by decide +kernel
theorem dX12_laySpot_5 : decode cX12_laySpot 5 = .ok (.istore_n 2, 1) := by decide +kernel
theorem dX12_laySpot_6 : decode cX12_laySpot 6 = .ok (.iconst 0, 1) := by decide +kernel
theorem dX12_laySpot_7 : decode cX12_laySpot 7 = .ok (.istore_n 3, 1) := by decide +kernel
theorem dX12_laySpot_8 : decode cX12_laySpot 8 = .ok (.iconst 0, 1) := by decide +kernel
theorem dX12_laySpot_9 : decode cX12_laySpot 9 = .ok (.istore 4, 2) := by decide +kernel
theorem dX12_laySpot_11 : decode cX12_laySpot 11 = .ok (.iconst 0, 1) := by decide +kernel
theorem dX12_laySpot_12 : decode cX12_laySpot 12 = .ok (.istore 5, 2) := by decide +kernel
theorem dX12_laySpot_14 : decode cX12_laySpot 14 = .ok (.iload 5, 2) := by decide +kernel
theorem dX12_laySpot_16 : decode cX12_laySpot 16 = .ok (.aload_n 0, 1) := by decide +kernel
theorem dX12_laySpot_17 : decode cX12_laySpot 17 = .ok (.invokevirtual 218, 3) := by decide +kernel
theorem dX12_laySpot_20 : decode cX12_laySpot 20 = .ok (.if_icmp .ge 75, 3) := by decide +kernel
theorem dX12_laySpot_23 : decode cX12_laySpot 23 = .ok (.aload_n 0, 1) := by decide +kernel
theorem dX12_laySpot_24 : decode cX12_laySpot 24 = .ok (.getfield 104, 3) := by decide +kernel
theorem dX12_laySpot_27 : decode cX12_laySpot 27 = .ok (.iload 5, 2) := by decide +kernel
theorem dX12_laySpot_29 : decode cX12_laySpot 29 = .ok (.iaload, 1) := by decide +kernel
theorem dX12_laySpot_30 : decode cX12_laySpot 30 = .ok (.iload_n 1, 1) := by decide +kernel
theorem dX12_laySpot_31 : decode cX12_laySpot 31 = .ok (.if_icmp .ne 58, 3) := by decide +kernel
theorem dX12_laySpot_34 : decode cX12_laySpot 34 = .ok (.iload_n 3, 1) := by decide +kernel
theorem dX12_laySpot_35 : decode cX12_laySpot 35 = .ok (.bipush 16, 2) := by decide +kernel
theorem dX12_laySpot_37 : decode cX12_laySpot 37 = .ok (.iload 5, 2) := by decide +kernel
theorem dX12_laySpot_39 : decode cX12_laySpot 39 = .ok (.aload_n 0, 1) := by decide +kernel
theorem dX12_laySpot_40 : decode cX12_laySpot 40 = .ok (.getfield 116, 3) := by decide +kernel
theorem dX12_laySpot_43 : decode cX12_laySpot 43 = .ok (.irem, 1) := by decide +kernel
theorem dX12_laySpot_44 : decode cX12_laySpot 44 = .ok (.imul, 1) := by decide +kernel
theorem dX12_laySpot_45 : decode cX12_laySpot 45 = .ok (.aload_n 0, 1) := by decide +kernel
theorem dX12_laySpot_46 : decode cX12_laySpot 46 = .ok (.getfield 22, 3) := by decide +kernel
theorem dX12_laySpot_49 : decode cX12_laySpot 49 = .ok (.iload 5, 2) := by decide +kernel
theorem dX12_laySpot_51 : decode cX12_laySpot 51 = .ok (.iaload, 1) := by decide +kernel
theorem dX12_laySpot_52 : decode cX12_laySpot 52 = .ok (.imul, 1) := by decide +kernel
theorem dX12_laySpot_53 : decode cX12_laySpot 53 = .ok (.iadd, 1) := by decide +kernel
theorem dX12_laySpot_54 : decode cX12_laySpot 54 = .ok (.istore_n 3, 1) := by decide +kernel
theorem dX12_laySpot_55 : decode cX12_laySpot 55 = .ok (.iload 4, 2) := by decide +kernel
theorem dX12_laySpot_57 : decode cX12_laySpot 57 = .ok (.bipush 16, 2) := by decide +kernel
theorem dX12_laySpot_59 : decode cX12_laySpot 59 = .ok (.iload 5, 2) := by decide +kernel
theorem dX12_laySpot_61 : decode cX12_laySpot 61 = .ok (.aload_n 0, 1) := by decide +kernel
theorem dX12_laySpot_62 : decode cX12_laySpot 62 = .ok (.getfield 116, 3) := by decide +kernel
theorem dX12_laySpot_65 : decode cX12_laySpot 65 = .ok (.idiv, 1) := by decide +kernel
theorem dX12_laySpot_66 : decode cX12_laySpot 66 = .ok (.imul, 1) := by decide +kernel
theorem dX12_laySpot_67 : decode cX12_laySpot 67 = .ok (.aload_n 0, 1) := by decide +kernel
theorem dX12_laySpot_68 : decode cX12_laySpot 68 = .ok (.getfield 22, 3) := by decide +kernel
theorem dX12_laySpot_71 : decode cX12_laySpot 71 = .ok (.iload 5, 2) := by decide +kernel
theorem dX12_laySpot_73 : decode cX12_laySpot 73 = .ok (.iaload, 1) := by decide +kernel
theorem dX12_laySpot_74 : decode cX12_laySpot 74 = .ok (.imul, 1) := by decide +kernel
theorem dX12_laySpot_75 : decode cX12_laySpot 75 = .ok (.iadd, 1) := by decide +kernel
theorem dX12_laySpot_76 : decode cX12_laySpot 76 = .ok (.istore 4, 2) := by decide +kernel
theorem dX12_laySpot_78 : decode cX12_laySpot 78 = .ok (.aload_n 0, 1) := by decide +kernel
theorem dX12_laySpot_79 : decode cX12_laySpot 79 = .ok (.getfield 25, 3) := by decide +kernel
theorem dX12_laySpot_82 : decode cX12_laySpot 82 = .ok (.iload 5, 2) := by decide +kernel
theorem dX12_laySpot_84 : decode cX12_laySpot 84 = .ok (.aload_n 0, 1) := by decide +kernel
theorem dX12_laySpot_85 : decode cX12_laySpot 85 = .ok (.getfield 209, 3) := by decide +kernel
theorem dX12_laySpot_88 : decode cX12_laySpot 88 = .ok (.iastore, 1) := by decide +kernel
theorem dX12_laySpot_89 : decode cX12_laySpot 89 = .ok (.iinc 5 1, 3) := by decide +kernel
theorem dX12_laySpot_92 : decode cX12_laySpot 92 = .ok (.goto (-78), 3) := by decide +kernel
theorem dX12_laySpot_95 : decode cX12_laySpot 95 = .ok (.aload_n 0, 1) := by decide +kernel
theorem dX12_laySpot_96 : decode cX12_laySpot 96 = .ok (.getfield 47, 3) := by decide +kernel
theorem dX12_laySpot_99 : decode cX12_laySpot 99 = .ok (.aload_n 0, 1) := by decide +kernel
theorem dX12_laySpot_100 : decode cX12_laySpot 100 = .ok (.getfield 209, 3) := by decide +kernel
theorem dX12_laySpot_103 : decode cX12_laySpot 103 = .ok (.iload_n 1, 1) := by decide +kernel
theorem dX12_laySpot_104 : decode cX12_laySpot 104 = .ok (.iastore, 1) := by decide +kernel
theorem dX12_laySpot_105 : decode cX12_laySpot 105 = .ok (.aload_n 0, 1) := by decide +kernel
theorem dX12_laySpot_106 : decode cX12_laySpot 106 = .ok (.getfield 50, 3) := by decide +kernel
theorem dX12_laySpot_109 : decode cX12_laySpot 109 = .ok (.aload_n 0, 1) := by decide +kernel
theorem dX12_laySpot_110 : decode cX12_laySpot 110 = .ok (.getfield 209, 3) := by decide +kernel
theorem dX12_laySpot_113 : decode cX12_laySpot 113 = .ok (.aload_n 0, 1) := by decide +kernel
theorem dX12_laySpot_114 : decode cX12_laySpot 114 = .ok (.iload_n 1, 1) := by decide +kernel
theorem dX12_laySpot_115 : decode cX12_laySpot 115 = .ok (.invokevirtual 288, 3) := by decide +kernel
theorem dX12_laySpot_118 : decode cX12_laySpot 118 = .ok (.iastore, 1) := by decide +kernel
theorem dX12_laySpot_119 : decode cX12_laySpot 119 = .ok (.aload_n 0, 1) := by decide +kernel
theorem dX12_laySpot_120 : decode cX12_laySpot 120 = .ok (.getfield 53, 3) := by decide +kernel
theorem dX12_laySpot_123 : decode cX12_laySpot 123 = .ok (.aload_n 0, 1) := by decide +kernel
theorem dX12_laySpot_124 : decode cX12_laySpot 124 = .ok (.getfield 209, 3) := by decide +kernel
theorem dX12_laySpot_127 : decode cX12_laySpot 127 = .ok (.iload_n 2, 1) := by decide +kernel
theorem dX12_laySpot_128 : decode cX12_laySpot 128 = .ok (.iastore, 1) := by decide +kernel
theorem dX12_laySpot_129 : decode cX12_laySpot 129 = .ok (.aload_n 0, 1) := by decide +kernel
theorem dX12_laySpot_130 : decode cX12_laySpot 130 = .ok (.getfield 56, 3) := by decide +kernel
theorem dX12_laySpot_133 : decode cX12_laySpot 133 = .ok (.aload_n 0, 1) := by decide +kernel
theorem dX12_laySpot_134 : decode cX12_laySpot 134 = .ok (.getfield 209, 3) := by decide +kernel
theorem dX12_laySpot_137 : decode cX12_laySpot 137 = .ok (.iload_n 3, 1) := by decide +kernel
theorem dX12_laySpot_138 : decode cX12_laySpot 138 = .ok (.iload_n 2, 1) := by decide +kernel
theorem dX12_laySpot_139 : decode cX12_laySpot 139 = .ok (.idiv, 1) := by decide +kernel
theorem dX12_laySpot_140 : decode cX12_laySpot 140 = .ok (.iastore, 1) := by decide +kernel
theorem dX12_laySpot_141 : decode cX12_laySpot 141 = .ok (.aload_n 0, 1) := by decide +kernel
theorem dX12_laySpot_142 : decode cX12_laySpot 142 = .ok (.getfield 59, 3) := by decide +kernel
theorem dX12_laySpot_145 : decode cX12_laySpot 145 = .ok (.aload_n 0, 1) := by decide +kernel
theorem dX12_laySpot_146 : decode cX12_laySpot 146 = .ok (.getfield 209, 3) := by decide +kernel
theorem dX12_laySpot_149 : decode cX12_laySpot 149 = .ok (.iload 4, 2) := by decide +kernel
theorem dX12_laySpot_151 : decode cX12_laySpot 151 = .ok (.iload_n 2, 1) := by decide +kernel
theorem dX12_laySpot_152 : decode cX12_laySpot 152 = .ok (.idiv, 1) := by decide +kernel
theorem dX12_laySpot_153 : decode cX12_laySpot 153 = .ok (.iastore, 1) := by decide +kernel
theorem dX12_laySpot_154 : decode cX12_laySpot 154 = .ok (.aload_n 0, 1) := by decide +kernel
theorem dX12_laySpot_155 : decode cX12_laySpot 155 = .ok (.getfield 62, 3) := by decide +kernel
theorem dX12_laySpot_158 : decode cX12_laySpot 158 = .ok (.aload_n 0, 1) := by decide +kernel
theorem dX12_laySpot_159 : decode cX12_laySpot 159 = .ok (.getfield 209, 3) := by decide +kernel
theorem dX12_laySpot_162 : decode cX12_laySpot 162 = .ok (.iconst (-1), 1) := by decide +kernel
theorem dX12_laySpot_163 : decode cX12_laySpot 163 = .ok (.iastore, 1) := by decide +kernel
theorem dX12_laySpot_164 : decode cX12_laySpot 164 = .ok (.aload_n 0, 1) := by decide +kernel
theorem dX12_laySpot_165 : decode cX12_laySpot 165 = .ok (.dup, 1) := by decide +kernel
theorem dX12_laySpot_166 : decode cX12_laySpot 166 = .ok (.getfield 209, 3) := by decide +kernel
theorem dX12_laySpot_169 : decode cX12_laySpot 169 = .ok (.iconst 1, 1) := by decide +kernel
theorem dX12_laySpot_170 : decode cX12_laySpot 170 = .ok (.iadd, 1) := by decide +kernel
theorem dX12_laySpot_171 : decode cX12_laySpot 171 = .ok (.putfield 209, 3) := by decide +kernel
theorem dX12_laySpot_174 : decode cX12_laySpot 174 = .ok (.return_, 1) := by decide +kernel
theorem dX12_laySpots_0 : decode cX12_laySpots 0 = .ok (.aload_n 0, 1) := by decide +kernel
theorem dX12_laySpots_1 : decode cX12_laySpots 1 = .ok (.iconst 0, 1) := by decide +kernel
theorem dX12_laySpots_2 : decode cX12_laySpots 2 = .ok (.putfield 209, 3) := by decide +kernel
theorem dX12_laySpots_5 : decode cX12_laySpots 5 = .ok (.iconst 0, 1) := by decide +kernel
theorem dX12_laySpots_6 : decode cX12_laySpots 6 = .ok (.istore_n 1, 1) := by decide +kernel
theorem dX12_laySpots_7 : decode cX12_laySpots 7 = .ok (.iload_n 1, 1) := by decide +kernel
theorem dX12_laySpots_8 : decode cX12_laySpots 8 = .ok (.aload_n 0, 1) := by decide +kernel
theorem dX12_laySpots_9 : decode cX12_laySpots 9 = .ok (.invokevirtual 218, 3) := by decide +kernel
theorem dX12_laySpots_12 : decode cX12_laySpots 12 = .ok (.if_icmp .ge 32, 3) := by decide +kernel
theorem dX12_laySpots_15 : decode cX12_laySpots 15 = .ok (.aload_n 0, 1) := by decide +kernel
theorem dX12_laySpots_16 : decode cX12_laySpots 16 = .ok (.iload_n 1, 1) := by decide +kernel
theorem dX12_laySpots_17 : decode cX12_laySpots 17 = .ok (.invokevirtual 285, 3) := by decide +kernel
theorem dX12_laySpots_20 : decode cX12_laySpots 20 = .ok (.ifCond .eq 18, 3) := by decide +kernel
theorem dX12_laySpots_23 : decode cX12_laySpots 23 = .ok (.aload_n 0, 1) := by decide +kernel
theorem dX12_laySpots_24 : decode cX12_laySpots 24 = .ok (.iload_n 1, 1) := by decide +kernel
theorem dX12_laySpots_25 : decode cX12_laySpots 25 = .ok (.invokevirtual 291, 3) := by decide +kernel
theorem dX12_laySpots_28 : decode cX12_laySpots 28 = .ok (.bipush 6, 2) := by decide +kernel
theorem dX12_laySpots_30 : decode cX12_laySpots 30 = .ok (.if_icmp .ge 8, 3) := by decide +kernel
theorem dX12_laySpots_33 : decode cX12_laySpots 33 = .ok (.aload_n 0, 1) := by decide +kernel
theorem dX12_laySpots_34 : decode cX12_laySpots 34 = .ok (.iload_n 1, 1) := by decide +kernel
theorem dX12_laySpots_35 : decode cX12_laySpots 35 = .ok (.invokevirtual 294, 3) := by decide +kernel
theorem dX12_laySpots_38 : decode cX12_laySpots 38 = .ok (.iinc 1 1, 3) := by decide +kernel
theorem dX12_laySpots_41 : decode cX12_laySpots 41 = .ok (.goto (-34), 3) := by decide +kernel
theorem dX12_laySpots_44 : decode cX12_laySpots 44 = .ok (.return_, 1) := by decide +kernel
theorem dX12_isNear_0 : decode cX12_isNear 0 = .ok (.aload_n 0, 1) := by decide +kernel
theorem dX12_isNear_1 : decode cX12_isNear 1 = .ok (.getfield 68, 3) := by decide +kernel
theorem dX12_isNear_4 : decode cX12_isNear 4 = .ok (.iload_n 1, 1) := by decide +kernel
theorem dX12_isNear_5 : decode cX12_isNear 5 = .ok (.iaload, 1) := by decide +kernel
theorem dX12_isNear_6 : decode cX12_isNear 6 = .ok (.aload_n 0, 1) := by decide +kernel
theorem dX12_isNear_7 : decode cX12_isNear 7 = .ok (.getfield 56, 3) := by decide +kernel
theorem dX12_isNear_10 : decode cX12_isNear 10 = .ok (.iload_n 2, 1) := by decide +kernel
theorem dX12_isNear_11 : decode cX12_isNear 11 = .ok (.iaload, 1) := by decide +kernel
theorem dX12_isNear_12 : decode cX12_isNear 12 = .ok (.isub, 1) := by decide +kernel
theorem dX12_isNear_13 : decode cX12_isNear 13 = .ok (.invokestatic 297, 3) := by decide +kernel
theorem dX12_isNear_16 : decode cX12_isNear 16 = .ok (.aload_n 0, 1) := by decide +kernel
theorem dX12_isNear_17 : decode cX12_isNear 17 = .ok (.getfield 44, 3) := by decide +kernel
theorem dX12_isNear_20 : decode cX12_isNear 20 = .ok (.iconst 4, 1) := by decide +kernel
theorem dX12_isNear_21 : decode cX12_isNear 21 = .ok (.iaload, 1) := by decide +kernel
theorem dX12_isNear_22 : decode cX12_isNear 22 = .ok (.if_icmp .gt 32, 3) := by decide +kernel
theorem dX12_isNear_25 : decode cX12_isNear 25 = .ok (.aload_n 0, 1) := by decide +kernel
theorem dX12_isNear_26 : decode cX12_isNear 26 = .ok (.getfield 71, 3) := by decide +kernel
theorem dX12_isNear_29 : decode cX12_isNear 29 = .ok (.iload_n 1, 1) := by decide +kernel
theorem dX12_isNear_30 : decode cX12_isNear 30 = .ok (.iaload, 1) := by decide +kernel
theorem dX12_isNear_31 : decode cX12_isNear 31 = .ok (.aload_n 0, 1) := by decide +kernel
theorem dX12_isNear_32 : decode cX12_isNear 32 = .ok (.getfield 59, 3) := by decide +kernel
theorem dX12_isNear_35 : decode cX12_isNear 35 = .ok (.iload_n 2, 1) := by decide +kernel
theorem dX12_isNear_36 : decode cX12_isNear 36 = .ok (.iaload, 1) := by decide +kernel
theorem dX12_isNear_37 : decode cX12_isNear 37 = .ok (.isub, 1) := by decide +kernel
theorem dX12_isNear_38 : decode cX12_isNear 38 = .ok (.invokestatic 297, 3) := by decide +kernel
theorem dX12_isNear_41 : decode cX12_isNear 41 = .ok (.aload_n 0, 1) := by decide +kernel
theorem dX12_isNear_42 : decode cX12_isNear 42 = .ok (.getfield 44, 3) := by decide +kernel
theorem dX12_isNear_45 : decode cX12_isNear 45 = .ok (.iconst 4, 1) := by decide +kernel
theorem dX12_isNear_46 : decode cX12_isNear 46 = .ok (.iaload, 1) := by decide +kernel
theorem dX12_isNear_47 : decode cX12_isNear 47 = .ok (.if_icmp .gt 7, 3) := by decide +kernel
theorem dX12_isNear_50 : decode cX12_isNear 50 = .ok (.iconst 1, 1) := by decide +kernel
theorem dX12_isNear_51 : decode cX12_isNear 51 = .ok (.goto 4, 3) := by decide +kernel
theorem dX12_isNear_54 : decode cX12_isNear 54 = .ok (.iconst 0, 1) := by decide +kernel
theorem dX12_isNear_55 : decode cX12_isNear 55 = .ok (.ireturn, 1) := by decide +kernel
theorem dX12_pairCost_0 : decode cX12_pairCost 0 = .ok (.aload_n 0, 1) := by decide +kernel
theorem dX12_pairCost_1 : decode cX12_pairCost 1 = .ok (.getfield 68, 3) := by decide +kernel
theorem dX12_pairCost_4 : decode cX12_pairCost 4 = .ok (.iload_n 1, 1) := by decide +kernel
theorem dX12_pairCost_5 : decode cX12_pairCost 5 = .ok (.iaload, 1) := by decide +kernel
theorem dX12_pairCost_6 : decode cX12_pairCost 6 = .ok (.aload_n 0, 1) := by decide +kernel
theorem dX12_pairCost_7 : decode cX12_pairCost 7 = .ok (.getfield 56, 3) := by decide +kernel
theorem dX12_pairCost_10 : decode cX12_pairCost 10 = .ok (.iload_n 2, 1) := by decide +kernel
theorem dX12_pairCost_11 : decode cX12_pairCost 11 = .ok (.iaload, 1) := by decide +kernel
theorem dX12_pairCost_12 : decode cX12_pairCost 12 = .ok (.isub, 1) := by decide +kernel
theorem dX12_pairCost_13 : decode cX12_pairCost 13 = .ok (.istore_n 3, 1) := by decide +kernel
theorem dX12_pairCost_14 : decode cX12_pairCost 14 = .ok (.aload_n 0, 1) := by decide +kernel
theorem dX12_pairCost_15 : decode cX12_pairCost 15 = .ok (.getfield 71, 3) := by decide +kernel
theorem dX12_pairCost_18 : decode cX12_pairCost 18 = .ok (.iload_n 1, 1) := by decide +kernel
theorem dX12_pairCost_19 : decode cX12_pairCost 19 = .ok (.iaload, 1) := by decide +kernel
theorem dX12_pairCost_20 : decode cX12_pairCost 20 = .ok (.aload_n 0, 1) := by decide +kernel
theorem dX12_pairCost_21 : decode cX12_pairCost 21 = .ok (.getfield 59, 3) := by decide +kernel
theorem dX12_pairCost_24 : decode cX12_pairCost 24 = .ok (.iload_n 2, 1) := by decide +kernel
theorem dX12_pairCost_25 : decode cX12_pairCost 25 = .ok (.iaload, 1) := by decide +kernel
theorem dX12_pairCost_26 : decode cX12_pairCost 26 = .ok (.isub, 1) := by decide +kernel
theorem dX12_pairCost_27 : decode cX12_pairCost 27 = .ok (.istore 4, 2) := by decide +kernel
theorem dX12_pairCost_29 : decode cX12_pairCost 29 = .ok (.iload_n 3, 1) := by decide +kernel
theorem dX12_pairCost_30 : decode cX12_pairCost 30 = .ok (.iload_n 3, 1) := by decide +kernel
theorem dX12_pairCost_31 : decode cX12_pairCost 31 = .ok (.imul, 1) := by decide +kernel
theorem dX12_pairCost_32 : decode cX12_pairCost 32 = .ok (.iload 4, 2) := by decide +kernel
theorem dX12_pairCost_34 : decode cX12_pairCost 34 = .ok (.iload 4, 2) := by decide +kernel
theorem dX12_pairCost_36 : decode cX12_pairCost 36 = .ok (.imul, 1) := by decide +kernel
theorem dX12_pairCost_37 : decode cX12_pairCost 37 = .ok (.iadd, 1) := by decide +kernel
theorem dX12_pairCost_38 : decode cX12_pairCost 38 = .ok (.ireturn, 1) := by decide +kernel
theorem dX12_isBetter_0 : decode cX12_isBetter 0 = .ok (.iload_n 1, 1) := by decide +kernel
theorem dX12_isBetter_1 : decode cX12_isBetter 1 = .ok (.aload_n 0, 1) := by decide +kernel
theorem dX12_isBetter_2 : decode cX12_isBetter 2 = .ok (.getfield 107, 3) := by decide +kernel
theorem dX12_isBetter_5 : decode cX12_isBetter 5 = .ok (.iload_n 3, 1) := by decide +kernel
theorem dX12_isBetter_6 : decode cX12_isBetter 6 = .ok (.iaload, 1) := by decide +kernel
theorem dX12_isBetter_7 : decode cX12_isBetter 7 = .ok (.if_icmp .gt 23, 3) := by decide +kernel
theorem dX12_isBetter_10 : decode cX12_isBetter 10 = .ok (.iload_n 1, 1) := by decide +kernel
theorem dX12_isBetter_11 : decode cX12_isBetter 11 = .ok (.aload_n 0, 1) := by decide +kernel
theorem dX12_isBetter_12 : decode cX12_isBetter 12 = .ok (.getfield 107, 3) := by decide +kernel
theorem dX12_isBetter_15 : decode cX12_isBetter 15 = .ok (.iload_n 3, 1) := by decide +kernel
theorem dX12_isBetter_16 : decode cX12_isBetter 16 = .ok (.iaload, 1) := by decide +kernel
theorem dX12_isBetter_17 : decode cX12_isBetter 17 = .ok (.if_icmp .ne 17, 3) := by decide +kernel
theorem dX12_isBetter_20 : decode cX12_isBetter 20 = .ok (.iload_n 2, 1) := by decide +kernel
theorem dX12_isBetter_21 : decode cX12_isBetter 21 = .ok (.aload_n 0, 1) := by decide +kernel
theorem dX12_isBetter_22 : decode cX12_isBetter 22 = .ok (.getfield 110, 3) := by decide +kernel
theorem dX12_isBetter_25 : decode cX12_isBetter 25 = .ok (.iload_n 3, 1) := by decide +kernel
theorem dX12_isBetter_26 : decode cX12_isBetter 26 = .ok (.iaload, 1) := by decide +kernel
theorem dX12_isBetter_27 : decode cX12_isBetter 27 = .ok (.if_icmp .ge 7, 3) := by decide +kernel
theorem dX12_isBetter_30 : decode cX12_isBetter 30 = .ok (.iconst 1, 1) := by decide +kernel
theorem dX12_isBetter_31 : decode cX12_isBetter 31 = .ok (.goto 4, 3) := by decide +kernel
theorem dX12_isBetter_34 : decode cX12_isBetter 34 = .ok (.iconst 0, 1) := by decide +kernel
theorem dX12_isBetter_35 : decode cX12_isBetter 35 = .ok (.ireturn, 1) := by decide +kernel
theorem dX12_layPairsOf_0 : decode cX12_layPairsOf 0 = .ok (.bipush 64, 2) := by decide +kernel
theorem dX12_layPairsOf_2 : decode cX12_layPairsOf 2 = .ok (.iload_n 1, 1) := by decide +kernel
theorem dX12_layPairsOf_3 : decode cX12_layPairsOf 3 = .ok (.imul, 1) := by decide +kernel
theorem dX12_layPairsOf_4 : decode cX12_layPairsOf 4 = .ok (.iload_n 2, 1) := by decide +kernel
theorem dX12_layPairsOf_5 : decode cX12_layPairsOf 5 = .ok (.iadd, 1) := by decide +kernel
theorem dX12_layPairsOf_6 : decode cX12_layPairsOf 6 = .ok (.istore_n 3, 1) := by decide +kernel
theorem dX12_layPairsOf_7 : decode cX12_layPairsOf 7 = .ok (.aload_n 0, 1) := by decide +kernel
theorem dX12_layPairsOf_8 : decode cX12_layPairsOf 8 = .ok (.getfield 107, 3) := by decide +kernel
theorem dX12_layPairsOf_11 : decode cX12_layPairsOf 11 = .ok (.iload_n 3, 1) := by decide +kernel
theorem dX12_layPairsOf_12 : decode cX12_layPairsOf 12 = .ok (.aload_n 0, 1) := by decide +kernel
theorem dX12_layPairsOf_13 : decode cX12_layPairsOf 13 = .ok (.getfield 107, 3) := by decide +kernel
theorem dX12_layPairsOf_16 : decode cX12_layPairsOf 16 = .ok (.iload_n 3, 1) := by decide +kernel
theorem dX12_layPairsOf_17 : decode cX12_layPairsOf 17 = .ok (.bipush 64, 2) := by decide +kernel
theorem dX12_layPairsOf_19 : decode cX12_layPairsOf 19 = .ok (.iadd, 1) := by decide +kernel
theorem dX12_layPairsOf_20 : decode cX12_layPairsOf 20 = .ok (.iaload, 1) := by decide +kernel
theorem dX12_layPairsOf_21 : decode cX12_layPairsOf 21 = .ok (.iastore, 1) := by decide +kernel
theorem dX12_layPairsOf_22 : decode cX12_layPairsOf 22 = .ok (.aload_n 0, 1) := by decide +kernel
theorem dX12_layPairsOf_23 : decode cX12_layPairsOf 23 = .ok (.getfield 110, 3) := by decide +kernel
theorem dX12_layPairsOf_26 : decode cX12_layPairsOf 26 = .ok (.iload_n 3, 1) := by decide +kernel
theorem dX12_layPairsOf_27 : decode cX12_layPairsOf 27 = .ok (.aload_n 0, 1) := by decide +kernel
theorem dX12_layPairsOf_28 : decode cX12_layPairsOf 28 = .ok (.getfield 110, 3) := by decide +kernel
theorem dX12_layPairsOf_31 : decode cX12_layPairsOf 31 = .ok (.iload_n 3, 1) := by decide +kernel
theorem dX12_layPairsOf_32 : decode cX12_layPairsOf 32 = .ok (.bipush 64, 2) := by decide +kernel
theorem dX12_layPairsOf_34 : decode cX12_layPairsOf 34 = .ok (.iadd, 1) := by decide +kernel
theorem dX12_layPairsOf_35 : decode cX12_layPairsOf 35 = .ok (.iaload, 1) := by decide +kernel
theorem dX12_layPairsOf_36 : decode cX12_layPairsOf 36 = .ok (.iastore, 1) := by decide +kernel
theorem dX12_layPairsOf_37 : decode cX12_layPairsOf 37 = .ok (.iconst 0, 1) := by decide +kernel
theorem dX12_layPairsOf_38 : decode cX12_layPairsOf 38 = .ok (.istore 4, 2) := by decide +kernel
theorem dX12_layPairsOf_40 : decode cX12_layPairsOf 40 = .ok (.iload 4, 2) := by decide +kernel
theorem dX12_layPairsOf_42 : decode cX12_layPairsOf 42 = .ok (.aload_n 0, 1) := by decide +kernel
theorem dX12_layPairsOf_43 : decode cX12_layPairsOf 43 = .ok (.getfield 209, 3) := by decide +kernel
theorem dX12_layPairsOf_46 : decode cX12_layPairsOf 46 = .ok (.if_icmp .ge 102, 3) := by decide +kernel
theorem dX12_layPairsOf_49 : decode cX12_layPairsOf 49 = .ok (.iload_n 2, 1) := by decide +kernel
theorem dX12_layPairsOf_50 : decode cX12_layPairsOf 50 = .ok (.iload 4, 2) := by decide +kernel
theorem dX12_layPairsOf_52 : decode cX12_layPairsOf 52 = .ok (.ishr, 1) := by decide +kernel
theorem dX12_layPairsOf_53 : decode cX12_layPairsOf 53 = .ok (.iconst 1, 1) := by decide +kernel
theorem dX12_layPairsOf_54 : decode cX12_layPairsOf 54 = .ok (.iand, 1) := by decide +kernel
theorem dX12_layPairsOf_55 : decode cX12_layPairsOf 55 = .ok (.ifCond .ne 87, 3) := by decide +kernel
theorem dX12_layPairsOf_58 : decode cX12_layPairsOf 58 = .ok (.aload_n 0, 1) := by decide +kernel
theorem dX12_layPairsOf_59 : decode cX12_layPairsOf 59 = .ok (.iload_n 1, 1) := by decide +kernel
theorem dX12_layPairsOf_60 : decode cX12_layPairsOf 60 = .ok (.iload 4, 2) := by decide +kernel
theorem dX12_layPairsOf_62 : decode cX12_layPairsOf 62 = .ok (.invokevirtual 300, 3) := by decide +kernel
theorem dX12_layPairsOf_65 : decode cX12_layPairsOf 65 = .ok (.ifCond .eq 77, 3) := by decide +kernel
theorem dX12_layPairsOf_68 : decode cX12_layPairsOf 68 = .ok (.bipush 64, 2) := by decide +kernel
theorem dX12_layPairsOf_70 : decode cX12_layPairsOf 70 = .ok (.iload_n 1, 1) := by decide +kernel
theorem dX12_layPairsOf_71 : decode cX12_layPairsOf 71 = .ok (.iconst 1, 1) := by decide +kernel
theorem dX12_layPairsOf_72 : decode cX12_layPairsOf 72 = .ok (.iadd, 1) := by decide +kernel
theorem dX12_layPairsOf_73 : decode cX12_layPairsOf 73 = .ok (.imul, 1) := by decide +kernel
theorem dX12_layPairsOf_74 : decode cX12_layPairsOf 74 = .ok (.iload_n 2, 1) := by decide +kernel
theorem dX12_layPairsOf_75 : decode cX12_layPairsOf 75 = .ok (.iconst 1, 1) := by decide +kernel
theorem dX12_layPairsOf_76 : decode cX12_layPairsOf 76 = .ok (.iload 4, 2) := by decide +kernel
theorem dX12_layPairsOf_78 : decode cX12_layPairsOf 78 = .ok (.ishl, 1) := by decide +kernel
theorem dX12_layPairsOf_79 : decode cX12_layPairsOf 79 = .ok (.ior, 1) := by decide +kernel
theorem dX12_layPairsOf_80 : decode cX12_layPairsOf 80 = .ok (.iadd, 1) := by decide +kernel
theorem dX12_layPairsOf_81 : decode cX12_layPairsOf 81 = .ok (.istore 5, 2) := by decide +kernel
theorem dX12_layPairsOf_83 : decode cX12_layPairsOf 83 = .ok (.aload_n 0, 1) := by decide +kernel
theorem dX12_layPairsOf_84 : decode cX12_layPairsOf 84 = .ok (.getfield 110, 3) := by decide +kernel
theorem dX12_layPairsOf_87 : decode cX12_layPairsOf 87 = .ok (.iload 5, 2) := by decide +kernel
theorem dX12_layPairsOf_89 : decode cX12_layPairsOf 89 = .ok (.iaload, 1) := by decide +kernel
theorem dX12_layPairsOf_90 : decode cX12_layPairsOf 90 = .ok (.aload_n 0, 1) := by decide +kernel
theorem dX12_layPairsOf_91 : decode cX12_layPairsOf 91 = .ok (.iload_n 1, 1) := by decide +kernel
theorem dX12_layPairsOf_92 : decode cX12_layPairsOf 92 = .ok (.iload 4, 2) := by decide +kernel
theorem dX12_layPairsOf_94 : decode cX12_layPairsOf 94 = .ok (.invokevirtual 303, 3) := by decide +kernel
theorem dX12_layPairsOf_97 : decode cX12_layPairsOf 97 = .ok (.iadd, 1) := by decide +kernel
theorem dX12_layPairsOf_98 : decode cX12_layPairsOf 98 = .ok (.istore 6, 2) := by decide +kernel
theorem dX12_layPairsOf_100 : decode cX12_layPairsOf 100 = .ok (.aload_n 0, 1) := by decide +kernel
theorem dX12_layPairsOf_101 : decode cX12_layPairsOf 101 = .ok (.aload_n 0, 1) := by decide +kernel
theorem dX12_layPairsOf_102 : decode cX12_layPairsOf 102 = .ok (.getfield 107, 3) := by decide +kernel
theorem dX12_layPairsOf_105 : decode cX12_layPairsOf 105 = .ok (.iload 5, 2) := by decide +kernel
theorem dX12_layPairsOf_107 : decode cX12_layPairsOf 107 = .ok (.iaload, 1) := by decide +kernel
theorem dX12_layPairsOf_108 : decode cX12_layPairsOf 108 = .ok (.iconst 1, 1) := by decide +kernel
theorem dX12_layPairsOf_109 : decode cX12_layPairsOf 109 = .ok (.iadd, 1) := by decide +kernel
theorem dX12_layPairsOf_110 : decode cX12_layPairsOf 110 = .ok (.iload 6, 2) := by decide +kernel
theorem dX12_layPairsOf_112 : decode cX12_layPairsOf 112 = .ok (.iload_n 3, 1) := by decide +kernel
theorem dX12_layPairsOf_113 : decode cX12_layPairsOf 113 = .ok (.invokevirtual 306, 3) := by decide +kernel
theorem dX12_layPairsOf_116 : decode cX12_layPairsOf 116 = .ok (.ifCond .eq 26, 3) := by decide +kernel
theorem dX12_layPairsOf_119 : decode cX12_layPairsOf 119 = .ok (.aload_n 0, 1) := by decide +kernel
theorem dX12_layPairsOf_120 : decode cX12_layPairsOf 120 = .ok (.getfield 107, 3) := by decide +kernel
theorem dX12_layPairsOf_123 : decode cX12_layPairsOf 123 = .ok (.iload_n 3, 1) := by decide +kernel
theorem dX12_layPairsOf_124 : decode cX12_layPairsOf 124 = .ok (.aload_n 0, 1) := by decide +kernel
theorem dX12_layPairsOf_125 : decode cX12_layPairsOf 125 = .ok (.getfield 107, 3) := by decide +kernel
theorem dX12_layPairsOf_128 : decode cX12_layPairsOf 128 = .ok (.iload 5, 2) := by decide +kernel
theorem dX12_layPairsOf_130 : decode cX12_layPairsOf 130 = .ok (.iaload, 1) := by decide +kernel
theorem dX12_layPairsOf_131 : decode cX12_layPairsOf 131 = .ok (.iconst 1, 1) := by decide +kernel
theorem dX12_layPairsOf_132 : decode cX12_layPairsOf 132 = .ok (.iadd, 1) := by decide +kernel
theorem dX12_layPairsOf_133 : decode cX12_layPairsOf 133 = .ok (.iastore, 1) := by decide +kernel
theorem dX12_layPairsOf_134 : decode cX12_layPairsOf 134 = .ok (.aload_n 0, 1) := by decide +kernel
theorem dX12_layPairsOf_135 : decode cX12_layPairsOf 135 = .ok (.getfield 110, 3) := by decide +kernel
theorem dX12_layPairsOf_138 : decode cX12_layPairsOf 138 = .ok (.iload_n 3, 1) := by decide +kernel
theorem dX12_layPairsOf_139 : decode cX12_layPairsOf 139 = .ok (.iload 6, 2) := by decide +kernel
theorem dX12_layPairsOf_141 : decode cX12_layPairsOf 141 = .ok (.iastore, 1) := by decide +kernel
theorem dX12_layPairsOf_142 : decode cX12_layPairsOf 142 = .ok (.iinc 4 1, 3) := by decide +kernel
theorem dX12_layPairsOf_145 : decode cX12_layPairsOf 145 = .ok (.goto (-105), 3) := by decide +kernel
theorem dX12_layPairsOf_148 : decode cX12_layPairsOf 148 = .ok (.return_, 1) := by decide +kernel
theorem dX12_isBestPair_0 : decode cX12_isBestPair 0 = .ok (.iload_n 3, 1) := by decide +kernel
theorem dX12_isBestPair_1 : decode cX12_isBestPair 1 = .ok (.iload_n 2, 1) := by decide +kernel
theorem dX12_isBestPair_2 : decode cX12_isBestPair 2 = .ok (.ishr, 1) := by decide +kernel
theorem dX12_isBestPair_3 : decode cX12_isBestPair 3 = .ok (.iconst 1, 1) := by decide +kernel
theorem dX12_isBestPair_4 : decode cX12_isBestPair 4 = .ok (.iand, 1) := by decide +kernel
theorem dX12_isBestPair_5 : decode cX12_isBestPair 5 = .ok (.iconst 1, 1) := by decide +kernel
theorem dX12_isBestPair_6 : decode cX12_isBestPair 6 = .ok (.if_icmp .eq 12, 3) := by decide +kernel
theorem dX12_isBestPair_9 : decode cX12_isBestPair 9 = .ok (.aload_n 0, 1) := by decide +kernel
theorem dX12_isBestPair_10 : decode cX12_isBestPair 10 = .ok (.iload_n 1, 1) := by decide +kernel
theorem dX12_isBestPair_11 : decode cX12_isBestPair 11 = .ok (.iload_n 2, 1) := by decide +kernel
theorem dX12_isBestPair_12 : decode cX12_isBestPair 12 = .ok (.invokevirtual 300, 3) := by decide +kernel
theorem dX12_isBestPair_15 : decode cX12_isBestPair 15 = .ok (.ifCond .ne 5, 3) := by decide +kernel
theorem dX12_isBestPair_18 : decode cX12_isBestPair 18 = .ok (.iconst 0, 1) := by decide +kernel
theorem dX12_isBestPair_19 : decode cX12_isBestPair 19 = .ok (.ireturn, 1) := by decide +kernel
theorem dX12_isBestPair_20 : decode cX12_isBestPair 20 = .ok (.bipush 64, 2) := by decide +kernel
theorem dX12_isBestPair_22 : decode cX12_isBestPair 22 = .ok (.iload_n 1, 1) := by decide +kernel
theorem dX12_isBestPair_23 : decode cX12_isBestPair 23 = .ok (.imul, 1) := by decide +kernel
theorem dX12_isBestPair_24 : decode cX12_isBestPair 24 = .ok (.iload_n 3, 1) := by decide +kernel
theorem dX12_isBestPair_25 : decode cX12_isBestPair 25 = .ok (.iadd, 1) := by decide +kernel
theorem dX12_isBestPair_26 : decode cX12_isBestPair 26 = .ok (.istore 4, 2) := by decide +kernel
theorem dX12_isBestPair_28 : decode cX12_isBestPair 28 = .ok (.bipush 64, 2) := by decide +kernel
theorem dX12_isBestPair_30 : decode cX12_isBestPair 30 = .ok (.iload_n 1, 1) := by decide +kernel
theorem dX12_isBestPair_31 : decode cX12_isBestPair 31 = .ok (.iconst 1, 1) := by decide +kernel
theorem dX12_isBestPair_32 : decode cX12_isBestPair 32 = .ok (.iadd, 1) := by decide +kernel
theorem dX12_isBestPair_33 : decode cX12_isBestPair 33 = .ok (.imul, 1) := by decide +kernel
theorem dX12_isBestPair_34 : decode cX12_isBestPair 34 = .ok (.iload_n 3, 1) := by decide +kernel
