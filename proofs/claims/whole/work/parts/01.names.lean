-- ===== PART A: goes FIRST, ahead of the names: the tables' words, and 'selects' of the private methods out of them =====
/-- a private method of a class that the tables say can be made, by its rows of tables_1 -/
def lw_okq (q : MethodName × Nat) : Prop := (q.1.cls ≠ "java/lang/invoke/MethodHandle" ∧ q.1.cls ≠ "java/lang/invoke/VarHandle") ∧ Cond.instantiable q.1.cls q.2 ∈ tables_1 ∧ Cond.privateMethod q.1 ∈ tables_1 ∧ Cond.instanceMethod q.1 ∈ tables_1
theorem lw_p0 : lw_okq (⟨"FeltGlass$Page", "readPart", "()Z"⟩, 6) := ⟨⟨by decide +kernel, by decide +kernel⟩, List.mem_of_getElem? (i := 26) (by decide +kernel), List.mem_of_getElem? (i := 438) (by decide +kernel), List.mem_of_getElem? (i := 439) (by decide +kernel)⟩
theorem lw_p1 : lw_okq (⟨"FeltGlass$Page", "digitHere", "()I"⟩, 6) := ⟨⟨by decide +kernel, by decide +kernel⟩, List.mem_of_getElem? (i := 26) (by decide +kernel), List.mem_of_getElem? (i := 442) (by decide +kernel), List.mem_of_getElem? (i := 443) (by decide +kernel)⟩
theorem lw_p2 : lw_okq (⟨"FeltGlass$Page", "codeHere", "()I"⟩, 6) := ⟨⟨by decide +kernel, by decide +kernel⟩, List.mem_of_getElem? (i := 26) (by decide +kernel), List.mem_of_getElem? (i := 446) (by decide +kernel), List.mem_of_getElem? (i := 447) (by decide +kernel)⟩
theorem lw_p3 : lw_okq (⟨"FeltGlass$Page", "take", "(C)Z"⟩, 6) := ⟨⟨by decide +kernel, by decide +kernel⟩, List.mem_of_getElem? (i := 26) (by decide +kernel), List.mem_of_getElem? (i := 451) (by decide +kernel), List.mem_of_getElem? (i := 452) (by decide +kernel)⟩
theorem lw_p4 : lw_okq (⟨"FeltGlass$Page", "readPlace", "(I)Z"⟩, 6) := ⟨⟨by decide +kernel, by decide +kernel⟩, List.mem_of_getElem? (i := 26) (by decide +kernel), List.mem_of_getElem? (i := 455) (by decide +kernel), List.mem_of_getElem? (i := 456) (by decide +kernel)⟩
theorem lw_p5 : lw_okq (⟨"FeltGlass$Page", "readNumber", "(II)I"⟩, 6) := ⟨⟨by decide +kernel, by decide +kernel⟩, List.mem_of_getElem? (i := 26) (by decide +kernel), List.mem_of_getElem? (i := 459) (by decide +kernel), List.mem_of_getElem? (i := 460) (by decide +kernel)⟩
theorem lw_p6 : lw_okq (⟨"FeltGlass$Grid", "listAround", "(II)V"⟩, 7) := ⟨⟨by decide +kernel, by decide +kernel⟩, List.mem_of_getElem? (i := 107) (by decide +kernel), List.mem_of_getElem? (i := 499) (by decide +kernel), List.mem_of_getElem? (i := 500) (by decide +kernel)⟩
theorem lw_p7 : lw_okq (⟨"FeltGlass$Drives", "drawBelow", "(I)I"⟩, 3) := ⟨⟨by decide +kernel, by decide +kernel⟩, List.mem_of_getElem? (i := 151) (by decide +kernel), List.mem_of_getElem? (i := 596) (by decide +kernel), List.mem_of_getElem? (i := 597) (by decide +kernel)⟩
theorem lw_p8 : lw_okq (⟨"FeltGlass$Hills", "findPeaks", "(LFeltGlass$Surface;)V"⟩, 7) := ⟨⟨by decide +kernel, by decide +kernel⟩, List.mem_of_getElem? (i := 227) (by decide +kernel), List.mem_of_getElem? (i := 624) (by decide +kernel), List.mem_of_getElem? (i := 625) (by decide +kernel)⟩
theorem lw_p9 : lw_okq (⟨"FeltGlass$Hills", "steepest", "(I[I)I"⟩, 7) := ⟨⟨by decide +kernel, by decide +kernel⟩, List.mem_of_getElem? (i := 227) (by decide +kernel), List.mem_of_getElem? (i := 628) (by decide +kernel), List.mem_of_getElem? (i := 629) (by decide +kernel)⟩
theorem lw_p10 : lw_okq (⟨"FeltGlass$Hills", "gatherCells", "([Z)V"⟩, 7) := ⟨⟨by decide +kernel, by decide +kernel⟩, List.mem_of_getElem? (i := 227) (by decide +kernel), List.mem_of_getElem? (i := 633) (by decide +kernel), List.mem_of_getElem? (i := 634) (by decide +kernel)⟩
theorem lw_p11 : lw_okq (⟨"FeltGlass$Hills", "findPasses", "([I)V"⟩, 7) := ⟨⟨by decide +kernel, by decide +kernel⟩, List.mem_of_getElem? (i := 227) (by decide +kernel), List.mem_of_getElem? (i := 637) (by decide +kernel), List.mem_of_getElem? (i := 638) (by decide +kernel)⟩
theorem lw_p12 : lw_okq (⟨"FeltGlass$Hills", "raisePass", "(III)V"⟩, 7) := ⟨⟨by decide +kernel, by decide +kernel⟩, List.mem_of_getElem? (i := 227) (by decide +kernel), List.mem_of_getElem? (i := 643) (by decide +kernel), List.mem_of_getElem? (i := 644) (by decide +kernel)⟩
theorem lw_p13 : lw_okq (⟨"FeltGlass$Hills", "mergeBestPair", "([II)Z"⟩, 7) := ⟨⟨by decide +kernel, by decide +kernel⟩, List.mem_of_getElem? (i := 227) (by decide +kernel), List.mem_of_getElem? (i := 648) (by decide +kernel), List.mem_of_getElem? (i := 649) (by decide +kernel)⟩
theorem lw_p14 : lw_okq (⟨"FeltGlass$Hills", "canMerge", "(II[II)Z"⟩, 7) := ⟨⟨by decide +kernel, by decide +kernel⟩, List.mem_of_getElem? (i := 227) (by decide +kernel), List.mem_of_getElem? (i := 652) (by decide +kernel), List.mem_of_getElem? (i := 653) (by decide +kernel)⟩
theorem lw_p15 : lw_okq (⟨"FeltGlass$Hills", "merge", "(II)V"⟩, 7) := ⟨⟨by decide +kernel, by decide +kernel⟩, List.mem_of_getElem? (i := 227) (by decide +kernel), List.mem_of_getElem? (i := 656) (by decide +kernel), List.mem_of_getElem? (i := 657) (by decide +kernel)⟩
def lw_privs_1 : List (MethodName × Nat) := [(⟨"FeltGlass$Page", "readPart", "()Z"⟩, 6), (⟨"FeltGlass$Page", "digitHere", "()I"⟩, 6), (⟨"FeltGlass$Page", "codeHere", "()I"⟩, 6), (⟨"FeltGlass$Page", "take", "(C)Z"⟩, 6), (⟨"FeltGlass$Page", "readPlace", "(I)Z"⟩, 6), (⟨"FeltGlass$Page", "readNumber", "(II)I"⟩, 6), (⟨"FeltGlass$Grid", "listAround", "(II)V"⟩, 7), (⟨"FeltGlass$Drives", "drawBelow", "(I)I"⟩, 3), (⟨"FeltGlass$Hills", "findPeaks", "(LFeltGlass$Surface;)V"⟩, 7), (⟨"FeltGlass$Hills", "steepest", "(I[I)I"⟩, 7), (⟨"FeltGlass$Hills", "gatherCells", "([Z)V"⟩, 7), (⟨"FeltGlass$Hills", "findPasses", "([I)V"⟩, 7), (⟨"FeltGlass$Hills", "raisePass", "(III)V"⟩, 7), (⟨"FeltGlass$Hills", "mergeBestPair", "([II)Z"⟩, 7), (⟨"FeltGlass$Hills", "canMerge", "(II[II)Z"⟩, 7), (⟨"FeltGlass$Hills", "merge", "(II)V"⟩, 7)]
theorem lw_r1 : ∀ q ∈ lw_privs_1, lw_okq q := List.forall_mem_cons.mpr ⟨lw_p0, List.forall_mem_cons.mpr ⟨lw_p1, List.forall_mem_cons.mpr ⟨lw_p2, List.forall_mem_cons.mpr ⟨lw_p3, List.forall_mem_cons.mpr ⟨lw_p4, List.forall_mem_cons.mpr ⟨lw_p5, List.forall_mem_cons.mpr ⟨lw_p6, List.forall_mem_cons.mpr ⟨lw_p7, List.forall_mem_cons.mpr ⟨lw_p8, List.forall_mem_cons.mpr ⟨lw_p9, List.forall_mem_cons.mpr ⟨lw_p10, List.forall_mem_cons.mpr ⟨lw_p11, List.forall_mem_cons.mpr ⟨lw_p12, List.forall_mem_cons.mpr ⟨lw_p13, List.forall_mem_cons.mpr ⟨lw_p14, List.forall_mem_cons.mpr ⟨lw_p15, fun _ h => absurd h List.not_mem_nil⟩⟩⟩⟩⟩⟩⟩⟩⟩⟩⟩⟩⟩⟩⟩⟩
theorem lw_p16 : lw_okq (⟨"FeltGlass$Spots", "weigh", "(LFeltGlass$Hills;[I)V"⟩, 11) := ⟨⟨by decide +kernel, by decide +kernel⟩, List.mem_of_getElem? (i := 259) (by decide +kernel), List.mem_of_getElem? (i := 664) (by decide +kernel), List.mem_of_getElem? (i := 665) (by decide +kernel)⟩
theorem lw_p17 : lw_okq (⟨"FeltGlass$Spots", "dropLightest", "(I)V"⟩, 11) := ⟨⟨by decide +kernel, by decide +kernel⟩, List.mem_of_getElem? (i := 259) (by decide +kernel), List.mem_of_getElem? (i := 668) (by decide +kernel), List.mem_of_getElem? (i := 669) (by decide +kernel)⟩
theorem lw_p18 : lw_okq (⟨"FeltGlass$Spots", "numberHills", "(LFeltGlass$Hills;)V"⟩, 11) := ⟨⟨by decide +kernel, by decide +kernel⟩, List.mem_of_getElem? (i := 259) (by decide +kernel), List.mem_of_getElem? (i := 672) (by decide +kernel), List.mem_of_getElem? (i := 673) (by decide +kernel)⟩
theorem lw_p19 : lw_okq (⟨"FeltGlass$Spots", "fillRow", "([III)V"⟩, 11) := ⟨⟨by decide +kernel, by decide +kernel⟩, List.mem_of_getElem? (i := 259) (by decide +kernel), List.mem_of_getElem? (i := 676) (by decide +kernel), List.mem_of_getElem? (i := 677) (by decide +kernel)⟩
theorem lw_p20 : lw_okq (⟨"FeltGlass$Spots", "markCells", "([I)V"⟩, 11) := ⟨⟨by decide +kernel, by decide +kernel⟩, List.mem_of_getElem? (i := 259) (by decide +kernel), List.mem_of_getElem? (i := 680) (by decide +kernel), List.mem_of_getElem? (i := 681) (by decide +kernel)⟩
theorem lw_p21 : lw_okq (⟨"FeltGlass$Pairing", "weighPairs", "(LFeltGlass$Tracks;LFeltGlass$Spots;I)V"⟩, 4) := ⟨⟨by decide +kernel, by decide +kernel⟩, List.mem_of_getElem? (i := 171) (by decide +kernel), List.mem_of_getElem? (i := 688) (by decide +kernel), List.mem_of_getElem? (i := 689) (by decide +kernel)⟩
theorem lw_p22 : lw_okq (⟨"FeltGlass$Pairing", "bestSpot", "(II)I"⟩, 4) := ⟨⟨by decide +kernel, by decide +kernel⟩, List.mem_of_getElem? (i := 171) (by decide +kernel), List.mem_of_getElem? (i := 696) (by decide +kernel), List.mem_of_getElem? (i := 697) (by decide +kernel)⟩
theorem lw_p23 : lw_okq (⟨"FeltGlass$Pairing", "worthOf", "(III)I"⟩, 4) := ⟨⟨by decide +kernel, by decide +kernel⟩, List.mem_of_getElem? (i := 171) (by decide +kernel), List.mem_of_getElem? (i := 700) (by decide +kernel), List.mem_of_getElem? (i := 701) (by decide +kernel)⟩
theorem lw_p24 : lw_okq (⟨"FeltGlass$Tracks", "miss", "([II)Z"⟩, 5) := ⟨⟨by decide +kernel, by decide +kernel⟩, List.mem_of_getElem? (i := 310) (by decide +kernel), List.mem_of_getElem? (i := 711) (by decide +kernel), List.mem_of_getElem? (i := 712) (by decide +kernel)⟩
theorem lw_p25 : lw_okq (⟨"FeltGlass$Tracks", "move", "([I[II)V"⟩, 5) := ⟨⟨by decide +kernel, by decide +kernel⟩, List.mem_of_getElem? (i := 310) (by decide +kernel), List.mem_of_getElem? (i := 720) (by decide +kernel), List.mem_of_getElem? (i := 721) (by decide +kernel)⟩
theorem lw_p26 : lw_okq (⟨"FeltGlass$Tracks", "takeOver", "([I[I)V"⟩, 5) := ⟨⟨by decide +kernel, by decide +kernel⟩, List.mem_of_getElem? (i := 310) (by decide +kernel), List.mem_of_getElem? (i := 725) (by decide +kernel), List.mem_of_getElem? (i := 726) (by decide +kernel)⟩
theorem lw_p27 : lw_okq (⟨"FeltGlass$Tracks", "isPalm", "([I)Z"⟩, 5) := ⟨⟨by decide +kernel, by decide +kernel⟩, List.mem_of_getElem? (i := 310) (by decide +kernel), List.mem_of_getElem? (i := 729) (by decide +kernel), List.mem_of_getElem? (i := 730) (by decide +kernel)⟩
theorem lw_p28 : lw_okq (⟨"FeltGlass$Tracks", "begin", "([I[I)V"⟩, 5) := ⟨⟨by decide +kernel, by decide +kernel⟩, List.mem_of_getElem? (i := 310) (by decide +kernel), List.mem_of_getElem? (i := 737) (by decide +kernel), List.mem_of_getElem? (i := 738) (by decide +kernel)⟩
theorem lw_p29 : lw_okq (⟨"FeltGlass", "hashPanelAndFingers", "(J)J"⟩, 5) := ⟨⟨by decide +kernel, by decide +kernel⟩, List.mem_of_getElem? (i := 18) (by decide +kernel), List.mem_of_getElem? (i := 818) (by decide +kernel), List.mem_of_getElem? (i := 819) (by decide +kernel)⟩
theorem lw_p30 : lw_okq (⟨"FeltGlass", "hashCells", "(J)J"⟩, 5) := ⟨⟨by decide +kernel, by decide +kernel⟩, List.mem_of_getElem? (i := 18) (by decide +kernel), List.mem_of_getElem? (i := 825) (by decide +kernel), List.mem_of_getElem? (i := 826) (by decide +kernel)⟩
theorem lw_p31 : lw_okq (⟨"FeltGlass", "hashSpots", "(J)J"⟩, 5) := ⟨⟨by decide +kernel, by decide +kernel⟩, List.mem_of_getElem? (i := 18) (by decide +kernel), List.mem_of_getElem? (i := 830) (by decide +kernel), List.mem_of_getElem? (i := 831) (by decide +kernel)⟩
def lw_privs_2 : List (MethodName × Nat) := [(⟨"FeltGlass$Spots", "weigh", "(LFeltGlass$Hills;[I)V"⟩, 11), (⟨"FeltGlass$Spots", "dropLightest", "(I)V"⟩, 11), (⟨"FeltGlass$Spots", "numberHills", "(LFeltGlass$Hills;)V"⟩, 11), (⟨"FeltGlass$Spots", "fillRow", "([III)V"⟩, 11), (⟨"FeltGlass$Spots", "markCells", "([I)V"⟩, 11), (⟨"FeltGlass$Pairing", "weighPairs", "(LFeltGlass$Tracks;LFeltGlass$Spots;I)V"⟩, 4), (⟨"FeltGlass$Pairing", "bestSpot", "(II)I"⟩, 4), (⟨"FeltGlass$Pairing", "worthOf", "(III)I"⟩, 4), (⟨"FeltGlass$Tracks", "miss", "([II)Z"⟩, 5), (⟨"FeltGlass$Tracks", "move", "([I[II)V"⟩, 5), (⟨"FeltGlass$Tracks", "takeOver", "([I[I)V"⟩, 5), (⟨"FeltGlass$Tracks", "isPalm", "([I)Z"⟩, 5), (⟨"FeltGlass$Tracks", "begin", "([I[I)V"⟩, 5), (⟨"FeltGlass", "hashPanelAndFingers", "(J)J"⟩, 5), (⟨"FeltGlass", "hashCells", "(J)J"⟩, 5), (⟨"FeltGlass", "hashSpots", "(J)J"⟩, 5)]
theorem lw_r2 : ∀ q ∈ lw_privs_2, lw_okq q := List.forall_mem_cons.mpr ⟨lw_p16, List.forall_mem_cons.mpr ⟨lw_p17, List.forall_mem_cons.mpr ⟨lw_p18, List.forall_mem_cons.mpr ⟨lw_p19, List.forall_mem_cons.mpr ⟨lw_p20, List.forall_mem_cons.mpr ⟨lw_p21, List.forall_mem_cons.mpr ⟨lw_p22, List.forall_mem_cons.mpr ⟨lw_p23, List.forall_mem_cons.mpr ⟨lw_p24, List.forall_mem_cons.mpr ⟨lw_p25, List.forall_mem_cons.mpr ⟨lw_p26, List.forall_mem_cons.mpr ⟨lw_p27, List.forall_mem_cons.mpr ⟨lw_p28, List.forall_mem_cons.mpr ⟨lw_p29, List.forall_mem_cons.mpr ⟨lw_p30, List.forall_mem_cons.mpr ⟨lw_p31, fun _ h => absurd h List.not_mem_nil⟩⟩⟩⟩⟩⟩⟩⟩⟩⟩⟩⟩⟩⟩⟩⟩
theorem lw_p32 : lw_okq (⟨"FeltGlass", "hashTracks", "(J)J"⟩, 5) := ⟨⟨by decide +kernel, by decide +kernel⟩, List.mem_of_getElem? (i := 18) (by decide +kernel), List.mem_of_getElem? (i := 835) (by decide +kernel), List.mem_of_getElem? (i := 836) (by decide +kernel)⟩
theorem lw_p33 : lw_okq (⟨"FeltGlass", "hashJournal", "(J)J"⟩, 5) := ⟨⟨by decide +kernel, by decide +kernel⟩, List.mem_of_getElem? (i := 18) (by decide +kernel), List.mem_of_getElem? (i := 840) (by decide +kernel), List.mem_of_getElem? (i := 841) (by decide +kernel)⟩
theorem lw_p34 : lw_okq (⟨"FeltGlassModel", "isGlass", "()Z"⟩, 58) := ⟨⟨by decide +kernel, by decide +kernel⟩, List.mem_of_getElem? (i := 847) (by decide +kernel), List.mem_of_getElem? (i := 1043) (by decide +kernel), List.mem_of_getElem? (i := 1044) (by decide +kernel)⟩
theorem lw_p35 : lw_okq (⟨"FeltGlassModel", "goAlong", "(Z)I"⟩, 58) := ⟨⟨by decide +kernel, by decide +kernel⟩, List.mem_of_getElem? (i := 847) (by decide +kernel), List.mem_of_getElem? (i := 1047) (by decide +kernel), List.mem_of_getElem? (i := 1048) (by decide +kernel)⟩
theorem lw_p36 : lw_okq (⟨"FeltGlassModel", "takes", "(I)Z"⟩, 58) := ⟨⟨by decide +kernel, by decide +kernel⟩, List.mem_of_getElem? (i := 847) (by decide +kernel), List.mem_of_getElem? (i := 1051) (by decide +kernel), List.mem_of_getElem? (i := 1052) (by decide +kernel)⟩
theorem lw_p37 : lw_okq (⟨"FeltGlassModel", "takesDigit", "(I)Z"⟩, 58) := ⟨⟨by decide +kernel, by decide +kernel⟩, List.mem_of_getElem? (i := 847) (by decide +kernel), List.mem_of_getElem? (i := 1055) (by decide +kernel), List.mem_of_getElem? (i := 1056) (by decide +kernel)⟩
theorem lw_p38 : lw_okq (⟨"FeltGlassModel", "goes", "(ZI)Z"⟩, 58) := ⟨⟨by decide +kernel, by decide +kernel⟩, List.mem_of_getElem? (i := 847) (by decide +kernel), List.mem_of_getElem? (i := 1059) (by decide +kernel), List.mem_of_getElem? (i := 1060) (by decide +kernel)⟩
theorem lw_p39 : lw_okq (⟨"FeltGlassModel", "takesKind", "(I)Z"⟩, 58) := ⟨⟨by decide +kernel, by decide +kernel⟩, List.mem_of_getElem? (i := 847) (by decide +kernel), List.mem_of_getElem? (i := 1063) (by decide +kernel), List.mem_of_getElem? (i := 1064) (by decide +kernel)⟩
theorem lw_p40 : lw_okq (⟨"FeltGlassModel", "takesFigure", "(I)Z"⟩, 58) := ⟨⟨by decide +kernel, by decide +kernel⟩, List.mem_of_getElem? (i := 847) (by decide +kernel), List.mem_of_getElem? (i := 1067) (by decide +kernel), List.mem_of_getElem? (i := 1068) (by decide +kernel)⟩
theorem lw_p41 : lw_okq (⟨"FeltGlassModel", "mostNow", "()I"⟩, 58) := ⟨⟨by decide +kernel, by decide +kernel⟩, List.mem_of_getElem? (i := 847) (by decide +kernel), List.mem_of_getElem? (i := 1071) (by decide +kernel), List.mem_of_getElem? (i := 1072) (by decide +kernel)⟩
theorem lw_p42 : lw_okq (⟨"FeltGlassModel", "takesSign", "(I)Z"⟩, 58) := ⟨⟨by decide +kernel, by decide +kernel⟩, List.mem_of_getElem? (i := 847) (by decide +kernel), List.mem_of_getElem? (i := 1075) (by decide +kernel), List.mem_of_getElem? (i := 1076) (by decide +kernel)⟩
theorem lw_p43 : lw_okq (⟨"FeltGlassModel", "putOn", "(I)V"⟩, 58) := ⟨⟨by decide +kernel, by decide +kernel⟩, List.mem_of_getElem? (i := 847) (by decide +kernel), List.mem_of_getElem? (i := 1079) (by decide +kernel), List.mem_of_getElem? (i := 1080) (by decide +kernel)⟩
theorem lw_p44 : lw_okq (⟨"FeltGlassModel", "onMany", "()I"⟩, 58) := ⟨⟨by decide +kernel, by decide +kernel⟩, List.mem_of_getElem? (i := 847) (by decide +kernel), List.mem_of_getElem? (i := 1087) (by decide +kernel), List.mem_of_getElem? (i := 1088) (by decide +kernel)⟩
theorem lw_p45 : lw_okq (⟨"FeltGlassModel", "layBounds", "()V"⟩, 58) := ⟨⟨by decide +kernel, by decide +kernel⟩, List.mem_of_getElem? (i := 847) (by decide +kernel), List.mem_of_getElem? (i := 1095) (by decide +kernel), List.mem_of_getElem? (i := 1096) (by decide +kernel)⟩
theorem lw_p46 : lw_okq (⟨"FeltGlassModel", "cells", "()I"⟩, 58) := ⟨⟨by decide +kernel, by decide +kernel⟩, List.mem_of_getElem? (i := 847) (by decide +kernel), List.mem_of_getElem? (i := 1099) (by decide +kernel), List.mem_of_getElem? (i := 1100) (by decide +kernel)⟩
theorem lw_p47 : lw_okq (⟨"FeltGlassModel", "isCell", "(I)Z"⟩, 58) := ⟨⟨by decide +kernel, by decide +kernel⟩, List.mem_of_getElem? (i := 847) (by decide +kernel), List.mem_of_getElem? (i := 1107) (by decide +kernel), List.mem_of_getElem? (i := 1108) (by decide +kernel)⟩
def lw_privs_3 : List (MethodName × Nat) := [(⟨"FeltGlass", "hashTracks", "(J)J"⟩, 5), (⟨"FeltGlass", "hashJournal", "(J)J"⟩, 5), (⟨"FeltGlassModel", "isGlass", "()Z"⟩, 58), (⟨"FeltGlassModel", "goAlong", "(Z)I"⟩, 58), (⟨"FeltGlassModel", "takes", "(I)Z"⟩, 58), (⟨"FeltGlassModel", "takesDigit", "(I)Z"⟩, 58), (⟨"FeltGlassModel", "goes", "(ZI)Z"⟩, 58), (⟨"FeltGlassModel", "takesKind", "(I)Z"⟩, 58), (⟨"FeltGlassModel", "takesFigure", "(I)Z"⟩, 58), (⟨"FeltGlassModel", "mostNow", "()I"⟩, 58), (⟨"FeltGlassModel", "takesSign", "(I)Z"⟩, 58), (⟨"FeltGlassModel", "putOn", "(I)V"⟩, 58), (⟨"FeltGlassModel", "onMany", "()I"⟩, 58), (⟨"FeltGlassModel", "layBounds", "()V"⟩, 58), (⟨"FeltGlassModel", "cells", "()I"⟩, 58), (⟨"FeltGlassModel", "isCell", "(I)Z"⟩, 58)]
theorem lw_r3 : ∀ q ∈ lw_privs_3, lw_okq q := List.forall_mem_cons.mpr ⟨lw_p32, List.forall_mem_cons.mpr ⟨lw_p33, List.forall_mem_cons.mpr ⟨lw_p34, List.forall_mem_cons.mpr ⟨lw_p35, List.forall_mem_cons.mpr ⟨lw_p36, List.forall_mem_cons.mpr ⟨lw_p37, List.forall_mem_cons.mpr ⟨lw_p38, List.forall_mem_cons.mpr ⟨lw_p39, List.forall_mem_cons.mpr ⟨lw_p40, List.forall_mem_cons.mpr ⟨lw_p41, List.forall_mem_cons.mpr ⟨lw_p42, List.forall_mem_cons.mpr ⟨lw_p43, List.forall_mem_cons.mpr ⟨lw_p44, List.forall_mem_cons.mpr ⟨lw_p45, List.forall_mem_cons.mpr ⟨lw_p46, List.forall_mem_cons.mpr ⟨lw_p47, fun _ h => absurd h List.not_mem_nil⟩⟩⟩⟩⟩⟩⟩⟩⟩⟩⟩⟩⟩⟩⟩⟩
theorem lw_p48 : lw_okq (⟨"FeltGlassModel", "eventsAll", "()I"⟩, 58) := ⟨⟨by decide +kernel, by decide +kernel⟩, List.mem_of_getElem? (i := 847) (by decide +kernel), List.mem_of_getElem? (i := 1141) (by decide +kernel), List.mem_of_getElem? (i := 1142) (by decide +kernel)⟩
theorem lw_p49 : lw_okq (⟨"FeltGlassModel", "frame", "()V"⟩, 58) := ⟨⟨by decide +kernel, by decide +kernel⟩, List.mem_of_getElem? (i := 847) (by decide +kernel), List.mem_of_getElem? (i := 1145) (by decide +kernel), List.mem_of_getElem? (i := 1146) (by decide +kernel)⟩
theorem lw_p50 : lw_okq (⟨"FeltGlassModel", "layRaw", "()V"⟩, 58) := ⟨⟨by decide +kernel, by decide +kernel⟩, List.mem_of_getElem? (i := 847) (by decide +kernel), List.mem_of_getElem? (i := 1149) (by decide +kernel), List.mem_of_getElem? (i := 1150) (by decide +kernel)⟩
theorem lw_p51 : lw_okq (⟨"FeltGlassModel", "feltAll", "(I)I"⟩, 58) := ⟨⟨by decide +kernel, by decide +kernel⟩, List.mem_of_getElem? (i := 847) (by decide +kernel), List.mem_of_getElem? (i := 1153) (by decide +kernel), List.mem_of_getElem? (i := 1154) (by decide +kernel)⟩
theorem lw_p52 : lw_okq (⟨"FeltGlassModel", "feltOf", "(II)I"⟩, 58) := ⟨⟨by decide +kernel, by decide +kernel⟩, List.mem_of_getElem? (i := 847) (by decide +kernel), List.mem_of_getElem? (i := 1157) (by decide +kernel), List.mem_of_getElem? (i := 1158) (by decide +kernel)⟩
theorem lw_p53 : lw_okq (⟨"FeltGlassModel", "draw", "(I)I"⟩, 58) := ⟨⟨by decide +kernel, by decide +kernel⟩, List.mem_of_getElem? (i := 847) (by decide +kernel), List.mem_of_getElem? (i := 1161) (by decide +kernel), List.mem_of_getElem? (i := 1162) (by decide +kernel)⟩
theorem lw_p54 : lw_okq (⟨"FeltGlassModel", "spanOf", "()I"⟩, 58) := ⟨⟨by decide +kernel, by decide +kernel⟩, List.mem_of_getElem? (i := 847) (by decide +kernel), List.mem_of_getElem? (i := 1169) (by decide +kernel), List.mem_of_getElem? (i := 1170) (by decide +kernel)⟩
theorem lw_p55 : lw_okq (⟨"FeltGlassModel", "isNearTouched", "(I)Z"⟩, 58) := ⟨⟨by decide +kernel, by decide +kernel⟩, List.mem_of_getElem? (i := 847) (by decide +kernel), List.mem_of_getElem? (i := 1175) (by decide +kernel), List.mem_of_getElem? (i := 1176) (by decide +kernel)⟩
theorem lw_p56 : lw_okq (⟨"FeltGlassModel", "isTouched", "(I)Z"⟩, 58) := ⟨⟨by decide +kernel, by decide +kernel⟩, List.mem_of_getElem? (i := 847) (by decide +kernel), List.mem_of_getElem? (i := 1179) (by decide +kernel), List.mem_of_getElem? (i := 1180) (by decide +kernel)⟩
theorem lw_p57 : lw_okq (⟨"FeltGlassModel", "beside", "(II)I"⟩, 58) := ⟨⟨by decide +kernel, by decide +kernel⟩, List.mem_of_getElem? (i := 847) (by decide +kernel), List.mem_of_getElem? (i := 1183) (by decide +kernel), List.mem_of_getElem? (i := 1184) (by decide +kernel)⟩
theorem lw_p58 : lw_okq (⟨"FeltGlassModel", "layHills", "()V"⟩, 58) := ⟨⟨by decide +kernel, by decide +kernel⟩, List.mem_of_getElem? (i := 847) (by decide +kernel), List.mem_of_getElem? (i := 1187) (by decide +kernel), List.mem_of_getElem? (i := 1188) (by decide +kernel)⟩
theorem lw_p59 : lw_okq (⟨"FeltGlassModel", "layTops", "()V"⟩, 58) := ⟨⟨by decide +kernel, by decide +kernel⟩, List.mem_of_getElem? (i := 847) (by decide +kernel), List.mem_of_getElem? (i := 1191) (by decide +kernel), List.mem_of_getElem? (i := 1192) (by decide +kernel)⟩
theorem lw_p60 : lw_okq (⟨"FeltGlassModel", "higher", "(I)I"⟩, 58) := ⟨⟨by decide +kernel, by decide +kernel⟩, List.mem_of_getElem? (i := 847) (by decide +kernel), List.mem_of_getElem? (i := 1195) (by decide +kernel), List.mem_of_getElem? (i := 1196) (by decide +kernel)⟩
theorem lw_p61 : lw_okq (⟨"FeltGlassModel", "joinOnce", "()Z"⟩, 58) := ⟨⟨by decide +kernel, by decide +kernel⟩, List.mem_of_getElem? (i := 847) (by decide +kernel), List.mem_of_getElem? (i := 1199) (by decide +kernel), List.mem_of_getElem? (i := 1200) (by decide +kernel)⟩
theorem lw_p62 : lw_okq (⟨"FeltGlassModel", "isTop", "(I)Z"⟩, 58) := ⟨⟨by decide +kernel, by decide +kernel⟩, List.mem_of_getElem? (i := 847) (by decide +kernel), List.mem_of_getElem? (i := 1203) (by decide +kernel), List.mem_of_getElem? (i := 1204) (by decide +kernel)⟩
theorem lw_p63 : lw_okq (⟨"FeltGlassModel", "passOf", "(II)I"⟩, 58) := ⟨⟨by decide +kernel, by decide +kernel⟩, List.mem_of_getElem? (i := 847) (by decide +kernel), List.mem_of_getElem? (i := 1207) (by decide +kernel), List.mem_of_getElem? (i := 1208) (by decide +kernel)⟩
def lw_privs_4 : List (MethodName × Nat) := [(⟨"FeltGlassModel", "eventsAll", "()I"⟩, 58), (⟨"FeltGlassModel", "frame", "()V"⟩, 58), (⟨"FeltGlassModel", "layRaw", "()V"⟩, 58), (⟨"FeltGlassModel", "feltAll", "(I)I"⟩, 58), (⟨"FeltGlassModel", "feltOf", "(II)I"⟩, 58), (⟨"FeltGlassModel", "draw", "(I)I"⟩, 58), (⟨"FeltGlassModel", "spanOf", "()I"⟩, 58), (⟨"FeltGlassModel", "isNearTouched", "(I)Z"⟩, 58), (⟨"FeltGlassModel", "isTouched", "(I)Z"⟩, 58), (⟨"FeltGlassModel", "beside", "(II)I"⟩, 58), (⟨"FeltGlassModel", "layHills", "()V"⟩, 58), (⟨"FeltGlassModel", "layTops", "()V"⟩, 58), (⟨"FeltGlassModel", "higher", "(I)I"⟩, 58), (⟨"FeltGlassModel", "joinOnce", "()Z"⟩, 58), (⟨"FeltGlassModel", "isTop", "(I)Z"⟩, 58), (⟨"FeltGlassModel", "passOf", "(II)I"⟩, 58)]
theorem lw_r4 : ∀ q ∈ lw_privs_4, lw_okq q := List.forall_mem_cons.mpr ⟨lw_p48, List.forall_mem_cons.mpr ⟨lw_p49, List.forall_mem_cons.mpr ⟨lw_p50, List.forall_mem_cons.mpr ⟨lw_p51, List.forall_mem_cons.mpr ⟨lw_p52, List.forall_mem_cons.mpr ⟨lw_p53, List.forall_mem_cons.mpr ⟨lw_p54, List.forall_mem_cons.mpr ⟨lw_p55, List.forall_mem_cons.mpr ⟨lw_p56, List.forall_mem_cons.mpr ⟨lw_p57, List.forall_mem_cons.mpr ⟨lw_p58, List.forall_mem_cons.mpr ⟨lw_p59, List.forall_mem_cons.mpr ⟨lw_p60, List.forall_mem_cons.mpr ⟨lw_p61, List.forall_mem_cons.mpr ⟨lw_p62, List.forall_mem_cons.mpr ⟨lw_p63, fun _ h => absurd h List.not_mem_nil⟩⟩⟩⟩⟩⟩⟩⟩⟩⟩⟩⟩⟩⟩⟩⟩
theorem lw_p64 : lw_okq (⟨"FeltGlassModel", "isJoined", "(III)Z"⟩, 58) := ⟨⟨by decide +kernel, by decide +kernel⟩, List.mem_of_getElem? (i := 847) (by decide +kernel), List.mem_of_getElem? (i := 1214) (by decide +kernel), List.mem_of_getElem? (i := 1215) (by decide +kernel)⟩
theorem lw_p65 : lw_okq (⟨"FeltGlassModel", "laySpots", "()V"⟩, 58) := ⟨⟨by decide +kernel, by decide +kernel⟩, List.mem_of_getElem? (i := 847) (by decide +kernel), List.mem_of_getElem? (i := 1218) (by decide +kernel), List.mem_of_getElem? (i := 1219) (by decide +kernel)⟩
theorem lw_p66 : lw_okq (⟨"FeltGlassModel", "isHigh", "(I)Z"⟩, 58) := ⟨⟨by decide +kernel, by decide +kernel⟩, List.mem_of_getElem? (i := 847) (by decide +kernel), List.mem_of_getElem? (i := 1222) (by decide +kernel), List.mem_of_getElem? (i := 1223) (by decide +kernel)⟩
theorem lw_p67 : lw_okq (⟨"FeltGlassModel", "aheadOf", "(I)I"⟩, 58) := ⟨⟨by decide +kernel, by decide +kernel⟩, List.mem_of_getElem? (i := 847) (by decide +kernel), List.mem_of_getElem? (i := 1226) (by decide +kernel), List.mem_of_getElem? (i := 1227) (by decide +kernel)⟩
theorem lw_p68 : lw_okq (⟨"FeltGlassModel", "massOf", "(I)I"⟩, 58) := ⟨⟨by decide +kernel, by decide +kernel⟩, List.mem_of_getElem? (i := 847) (by decide +kernel), List.mem_of_getElem? (i := 1230) (by decide +kernel), List.mem_of_getElem? (i := 1231) (by decide +kernel)⟩
theorem lw_p69 : lw_okq (⟨"FeltGlassModel", "laySpot", "(I)V"⟩, 58) := ⟨⟨by decide +kernel, by decide +kernel⟩, List.mem_of_getElem? (i := 847) (by decide +kernel), List.mem_of_getElem? (i := 1234) (by decide +kernel), List.mem_of_getElem? (i := 1235) (by decide +kernel)⟩
theorem lw_p70 : lw_okq (⟨"FeltGlassModel", "sizeOf", "(I)I"⟩, 58) := ⟨⟨by decide +kernel, by decide +kernel⟩, List.mem_of_getElem? (i := 847) (by decide +kernel), List.mem_of_getElem? (i := 1238) (by decide +kernel), List.mem_of_getElem? (i := 1239) (by decide +kernel)⟩
theorem lw_p71 : lw_okq (⟨"FeltGlassModel", "layPairs", "()V"⟩, 58) := ⟨⟨by decide +kernel, by decide +kernel⟩, List.mem_of_getElem? (i := 847) (by decide +kernel), List.mem_of_getElem? (i := 1242) (by decide +kernel), List.mem_of_getElem? (i := 1243) (by decide +kernel)⟩
theorem lw_p72 : lw_okq (⟨"FeltGlassModel", "layPairsOf", "(II)V"⟩, 58) := ⟨⟨by decide +kernel, by decide +kernel⟩, List.mem_of_getElem? (i := 847) (by decide +kernel), List.mem_of_getElem? (i := 1246) (by decide +kernel), List.mem_of_getElem? (i := 1247) (by decide +kernel)⟩
theorem lw_p73 : lw_okq (⟨"FeltGlassModel", "isNear", "(II)Z"⟩, 58) := ⟨⟨by decide +kernel, by decide +kernel⟩, List.mem_of_getElem? (i := 847) (by decide +kernel), List.mem_of_getElem? (i := 1250) (by decide +kernel), List.mem_of_getElem? (i := 1251) (by decide +kernel)⟩
theorem lw_p74 : lw_okq (⟨"FeltGlassModel", "pairCost", "(II)I"⟩, 58) := ⟨⟨by decide +kernel, by decide +kernel⟩, List.mem_of_getElem? (i := 847) (by decide +kernel), List.mem_of_getElem? (i := 1257) (by decide +kernel), List.mem_of_getElem? (i := 1258) (by decide +kernel)⟩
theorem lw_p75 : lw_okq (⟨"FeltGlassModel", "isBetter", "(III)Z"⟩, 58) := ⟨⟨by decide +kernel, by decide +kernel⟩, List.mem_of_getElem? (i := 847) (by decide +kernel), List.mem_of_getElem? (i := 1261) (by decide +kernel), List.mem_of_getElem? (i := 1262) (by decide +kernel)⟩
theorem lw_p76 : lw_okq (⟨"FeltGlassModel", "isBestPair", "(III)Z"⟩, 58) := ⟨⟨by decide +kernel, by decide +kernel⟩, List.mem_of_getElem? (i := 847) (by decide +kernel), List.mem_of_getElem? (i := 1265) (by decide +kernel), List.mem_of_getElem? (i := 1266) (by decide +kernel)⟩
theorem lw_p77 : lw_okq (⟨"FeltGlassModel", "followAll", "()V"⟩, 58) := ⟨⟨by decide +kernel, by decide +kernel⟩, List.mem_of_getElem? (i := 847) (by decide +kernel), List.mem_of_getElem? (i := 1269) (by decide +kernel), List.mem_of_getElem? (i := 1270) (by decide +kernel)⟩
theorem lw_p78 : lw_okq (⟨"FeltGlassModel", "follow", "(II)V"⟩, 58) := ⟨⟨by decide +kernel, by decide +kernel⟩, List.mem_of_getElem? (i := 847) (by decide +kernel), List.mem_of_getElem? (i := 1273) (by decide +kernel), List.mem_of_getElem? (i := 1274) (by decide +kernel)⟩
theorem lw_p79 : lw_okq (⟨"FeltGlassModel", "lay", "(II)V"⟩, 58) := ⟨⟨by decide +kernel, by decide +kernel⟩, List.mem_of_getElem? (i := 847) (by decide +kernel), List.mem_of_getElem? (i := 1277) (by decide +kernel), List.mem_of_getElem? (i := 1278) (by decide +kernel)⟩
def lw_privs_5 : List (MethodName × Nat) := [(⟨"FeltGlassModel", "isJoined", "(III)Z"⟩, 58), (⟨"FeltGlassModel", "laySpots", "()V"⟩, 58), (⟨"FeltGlassModel", "isHigh", "(I)Z"⟩, 58), (⟨"FeltGlassModel", "aheadOf", "(I)I"⟩, 58), (⟨"FeltGlassModel", "massOf", "(I)I"⟩, 58), (⟨"FeltGlassModel", "laySpot", "(I)V"⟩, 58), (⟨"FeltGlassModel", "sizeOf", "(I)I"⟩, 58), (⟨"FeltGlassModel", "layPairs", "()V"⟩, 58), (⟨"FeltGlassModel", "layPairsOf", "(II)V"⟩, 58), (⟨"FeltGlassModel", "isNear", "(II)Z"⟩, 58), (⟨"FeltGlassModel", "pairCost", "(II)I"⟩, 58), (⟨"FeltGlassModel", "isBetter", "(III)Z"⟩, 58), (⟨"FeltGlassModel", "isBestPair", "(III)Z"⟩, 58), (⟨"FeltGlassModel", "followAll", "()V"⟩, 58), (⟨"FeltGlassModel", "follow", "(II)V"⟩, 58), (⟨"FeltGlassModel", "lay", "(II)V"⟩, 58)]
theorem lw_r5 : ∀ q ∈ lw_privs_5, lw_okq q := List.forall_mem_cons.mpr ⟨lw_p64, List.forall_mem_cons.mpr ⟨lw_p65, List.forall_mem_cons.mpr ⟨lw_p66, List.forall_mem_cons.mpr ⟨lw_p67, List.forall_mem_cons.mpr ⟨lw_p68, List.forall_mem_cons.mpr ⟨lw_p69, List.forall_mem_cons.mpr ⟨lw_p70, List.forall_mem_cons.mpr ⟨lw_p71, List.forall_mem_cons.mpr ⟨lw_p72, List.forall_mem_cons.mpr ⟨lw_p73, List.forall_mem_cons.mpr ⟨lw_p74, List.forall_mem_cons.mpr ⟨lw_p75, List.forall_mem_cons.mpr ⟨lw_p76, List.forall_mem_cons.mpr ⟨lw_p77, List.forall_mem_cons.mpr ⟨lw_p78, List.forall_mem_cons.mpr ⟨lw_p79, fun _ h => absurd h List.not_mem_nil⟩⟩⟩⟩⟩⟩⟩⟩⟩⟩⟩⟩⟩⟩⟩⟩
theorem lw_p80 : lw_okq (⟨"FeltGlassModel", "happens", "(II)V"⟩, 58) := ⟨⟨by decide +kernel, by decide +kernel⟩, List.mem_of_getElem? (i := 847) (by decide +kernel), List.mem_of_getElem? (i := 1281) (by decide +kernel), List.mem_of_getElem? (i := 1282) (by decide +kernel)⟩
theorem lw_p81 : lw_okq (⟨"FeltGlassModel", "isLost", "(I)Z"⟩, 58) := ⟨⟨by decide +kernel, by decide +kernel⟩, List.mem_of_getElem? (i := 847) (by decide +kernel), List.mem_of_getElem? (i := 1285) (by decide +kernel), List.mem_of_getElem? (i := 1286) (by decide +kernel)⟩
theorem lw_p82 : lw_okq (⟨"FeltGlassModel", "keepAs", "(II)V"⟩, 58) := ⟨⟨by decide +kernel, by decide +kernel⟩, List.mem_of_getElem? (i := 847) (by decide +kernel), List.mem_of_getElem? (i := 1289) (by decide +kernel), List.mem_of_getElem? (i := 1290) (by decide +kernel)⟩
theorem lw_p83 : lw_okq (⟨"FeltGlassModel", "beginAll", "()V"⟩, 58) := ⟨⟨by decide +kernel, by decide +kernel⟩, List.mem_of_getElem? (i := 847) (by decide +kernel), List.mem_of_getElem? (i := 1293) (by decide +kernel), List.mem_of_getElem? (i := 1294) (by decide +kernel)⟩
theorem lw_p84 : lw_okq (⟨"FeltGlassModel", "drift", "()V"⟩, 58) := ⟨⟨by decide +kernel, by decide +kernel⟩, List.mem_of_getElem? (i := 847) (by decide +kernel), List.mem_of_getElem? (i := 1297) (by decide +kernel), List.mem_of_getElem? (i := 1298) (by decide +kernel)⟩
theorem lw_p85 : lw_okq (⟨"FeltGlassModel", "isNearSpot", "(I)Z"⟩, 58) := ⟨⟨by decide +kernel, by decide +kernel⟩, List.mem_of_getElem? (i := 847) (by decide +kernel), List.mem_of_getElem? (i := 1301) (by decide +kernel), List.mem_of_getElem? (i := 1302) (by decide +kernel)⟩
theorem lw_p86 : lw_okq (⟨"FeltGlassModel", "fingerNow", "(II)I"⟩, 58) := ⟨⟨by decide +kernel, by decide +kernel⟩, List.mem_of_getElem? (i := 847) (by decide +kernel), List.mem_of_getElem? (i := 1309) (by decide +kernel), List.mem_of_getElem? (i := 1310) (by decide +kernel)⟩
theorem lw_p87 : lw_okq (⟨"FeltGlassModel", "cellNow", "(II)I"⟩, 58) := ⟨⟨by decide +kernel, by decide +kernel⟩, List.mem_of_getElem? (i := 847) (by decide +kernel), List.mem_of_getElem? (i := 1317) (by decide +kernel), List.mem_of_getElem? (i := 1318) (by decide +kernel)⟩
theorem lw_p88 : lw_okq (⟨"FeltGlassModel", "aboutNow", "(I)I"⟩, 58) := ⟨⟨by decide +kernel, by decide +kernel⟩, List.mem_of_getElem? (i := 847) (by decide +kernel), List.mem_of_getElem? (i := 1325) (by decide +kernel), List.mem_of_getElem? (i := 1326) (by decide +kernel)⟩
theorem lw_p89 : lw_okq (⟨"FeltGlassModel", "spotNow", "(II)I"⟩, 58) := ⟨⟨by decide +kernel, by decide +kernel⟩, List.mem_of_getElem? (i := 847) (by decide +kernel), List.mem_of_getElem? (i := 1333) (by decide +kernel), List.mem_of_getElem? (i := 1334) (by decide +kernel)⟩
theorem lw_p90 : lw_okq (⟨"FeltGlassModel", "isTrack", "(I)Z"⟩, 58) := ⟨⟨by decide +kernel, by decide +kernel⟩, List.mem_of_getElem? (i := 847) (by decide +kernel), List.mem_of_getElem? (i := 1341) (by decide +kernel), List.mem_of_getElem? (i := 1342) (by decide +kernel)⟩
theorem lw_p91 : lw_okq (⟨"FeltGlassModel", "trackNow", "(II)I"⟩, 58) := ⟨⟨by decide +kernel, by decide +kernel⟩, List.mem_of_getElem? (i := 847) (by decide +kernel), List.mem_of_getElem? (i := 1345) (by decide +kernel), List.mem_of_getElem? (i := 1346) (by decide +kernel)⟩
theorem lw_p92 : lw_okq (⟨"FeltGlassModel", "eventNow", "(II)I"⟩, 58) := ⟨⟨by decide +kernel, by decide +kernel⟩, List.mem_of_getElem? (i := 847) (by decide +kernel), List.mem_of_getElem? (i := 1357) (by decide +kernel), List.mem_of_getElem? (i := 1358) (by decide +kernel)⟩
theorem lw_p93 : lw_okq (⟨"FeltGlassModel", "howMany", "(I)I"⟩, 58) := ⟨⟨by decide +kernel, by decide +kernel⟩, List.mem_of_getElem? (i := 847) (by decide +kernel), List.mem_of_getElem? (i := 1365) (by decide +kernel), List.mem_of_getElem? (i := 1366) (by decide +kernel)⟩
theorem lw_p94 : lw_okq (⟨"FeltGlassModel", "mixGlass", "()V"⟩, 58) := ⟨⟨by decide +kernel, by decide +kernel⟩, List.mem_of_getElem? (i := 847) (by decide +kernel), List.mem_of_getElem? (i := 1378) (by decide +kernel), List.mem_of_getElem? (i := 1379) (by decide +kernel)⟩
theorem lw_p95 : lw_okq (⟨"FeltGlassModel", "mix", "(J)V"⟩, 58) := ⟨⟨by decide +kernel, by decide +kernel⟩, List.mem_of_getElem? (i := 847) (by decide +kernel), List.mem_of_getElem? (i := 1382) (by decide +kernel), List.mem_of_getElem? (i := 1383) (by decide +kernel)⟩
def lw_privs_6 : List (MethodName × Nat) := [(⟨"FeltGlassModel", "happens", "(II)V"⟩, 58), (⟨"FeltGlassModel", "isLost", "(I)Z"⟩, 58), (⟨"FeltGlassModel", "keepAs", "(II)V"⟩, 58), (⟨"FeltGlassModel", "beginAll", "()V"⟩, 58), (⟨"FeltGlassModel", "drift", "()V"⟩, 58), (⟨"FeltGlassModel", "isNearSpot", "(I)Z"⟩, 58), (⟨"FeltGlassModel", "fingerNow", "(II)I"⟩, 58), (⟨"FeltGlassModel", "cellNow", "(II)I"⟩, 58), (⟨"FeltGlassModel", "aboutNow", "(I)I"⟩, 58), (⟨"FeltGlassModel", "spotNow", "(II)I"⟩, 58), (⟨"FeltGlassModel", "isTrack", "(I)Z"⟩, 58), (⟨"FeltGlassModel", "trackNow", "(II)I"⟩, 58), (⟨"FeltGlassModel", "eventNow", "(II)I"⟩, 58), (⟨"FeltGlassModel", "howMany", "(I)I"⟩, 58), (⟨"FeltGlassModel", "mixGlass", "()V"⟩, 58), (⟨"FeltGlassModel", "mix", "(J)V"⟩, 58)]
theorem lw_r6 : ∀ q ∈ lw_privs_6, lw_okq q := List.forall_mem_cons.mpr ⟨lw_p80, List.forall_mem_cons.mpr ⟨lw_p81, List.forall_mem_cons.mpr ⟨lw_p82, List.forall_mem_cons.mpr ⟨lw_p83, List.forall_mem_cons.mpr ⟨lw_p84, List.forall_mem_cons.mpr ⟨lw_p85, List.forall_mem_cons.mpr ⟨lw_p86, List.forall_mem_cons.mpr ⟨lw_p87, List.forall_mem_cons.mpr ⟨lw_p88, List.forall_mem_cons.mpr ⟨lw_p89, List.forall_mem_cons.mpr ⟨lw_p90, List.forall_mem_cons.mpr ⟨lw_p91, List.forall_mem_cons.mpr ⟨lw_p92, List.forall_mem_cons.mpr ⟨lw_p93, List.forall_mem_cons.mpr ⟨lw_p94, List.forall_mem_cons.mpr ⟨lw_p95, fun _ h => absurd h List.not_mem_nil⟩⟩⟩⟩⟩⟩⟩⟩⟩⟩⟩⟩⟩⟩⟩⟩
def lw_privs : List (MethodName × Nat) := lw_privs_1 ++ (lw_privs_2 ++ (lw_privs_3 ++ (lw_privs_4 ++ (lw_privs_5 ++ (lw_privs_6)))))
def lw_tbl : List Cond := k2_sels lw_privs ++ tables_1
theorem lw_privs_ok : ∀ q ∈ lw_privs, lw_okq q := by
  show ∀ q ∈ lw_privs_1 ++ (lw_privs_2 ++ (lw_privs_3 ++ (lw_privs_4 ++ (lw_privs_5 ++ (lw_privs_6))))), lw_okq q
  exact List.forall_mem_append.mpr ⟨lw_r1, List.forall_mem_append.mpr ⟨lw_r2, List.forall_mem_append.mpr ⟨lw_r3, List.forall_mem_append.mpr ⟨lw_r4, List.forall_mem_append.mpr ⟨lw_r5, lw_r6⟩⟩⟩⟩⟩
/-! ===== BEGIN printed: names, fields, word lists, decode rows ===== -/
def RX0 : String := "FeltGlass$Drives"
def TX0 : u_T := fun k => match k with
  | 0 => ("FeltGlass$Drives", "level", "[I", true)
  | 1 => ("FeltGlass$Drives", "active", "I", false)
  | _ => ("FeltGlass$Drives", "seed", "I", false)
def tyX0 : Nat → FieldType := fun k => match k with
  | 0 => .array .int
  | 1 => .int
  | _ => .int
abbrev wsX00 : List Cond := u_ws RX0 TX0 3
theorem nmX0 : ∀ a, a < 3 → ∀ b, b < 3 → a ≠ b → (TX0 a).2.1 ≠ (TX0 b).2.1 := by decide +kernel
theorem tyX0_ok : ∀ k, k < 3 → parseFieldDescriptor (TX0 k).2.2.1 = some (tyX0 k) := by decide +kernel
abbrev cX0_init : ByteArray := prog_2_method_1_code
def yX0_init : MethodName := ⟨RX0, "<init>", "()V"⟩
abbrev cX0_renew : ByteArray := prog_2_method_2_code
def yX0_renew : MethodName := ⟨RX0, "renew", "()V"⟩
abbrev cX0_activateNext : ByteArray := prog_2_method_3_code
def yX0_activateNext : MethodName := ⟨RX0, "activateNext", "()V"⟩
abbrev cX0_activeLevel : ByteArray := prog_2_method_4_code
def yX0_activeLevel : MethodName := ⟨RX0, "activeLevel", "()I"⟩
abbrev cX0_drawNoise : ByteArray := prog_2_method_5_code
def yX0_drawNoise : MethodName := ⟨RX0, "drawNoise", "(I)I"⟩
abbrev cX0_drawBelow : ByteArray := prog_2_method_6_code
def yX0_drawBelow : MethodName := ⟨RX0, "drawBelow", "(I)I"⟩
def RX1 : String := "FeltGlass$Grid"
def TX1 : u_T := fun k => match k with
  | 0 => ("FeltGlass$Grid", "wide", "I", false)
  | 1 => ("FeltGlass$Grid", "high", "I", false)
  | 2 => ("FeltGlass$Grid", "cells", "I", false)
  | 3 => ("FeltGlass$Grid", "column", "[I", true)
  | 4 => ("FeltGlass$Grid", "row", "[I", true)
  | 5 => ("FeltGlass$Grid", "aroundCount", "[I", true)
  | _ => ("FeltGlass$Grid", "around", "[I", true)
def tyX1 : Nat → FieldType := fun k => match k with
  | 0 => .int
  | 1 => .int
  | 2 => .int
  | 3 => .array .int
  | 4 => .array .int
  | 5 => .array .int
  | _ => .array .int
abbrev wsX10 : List Cond := u_ws RX1 TX1 7
theorem nmX1 : ∀ a, a < 7 → ∀ b, b < 7 → a ≠ b → (TX1 a).2.1 ≠ (TX1 b).2.1 := by decide +kernel
theorem tyX1_ok : ∀ k, k < 7 → parseFieldDescriptor (TX1 k).2.2.1 = some (tyX1 k) := by decide +kernel
abbrev cX1_init : ByteArray := prog_3_method_1_code
def yX1_init : MethodName := ⟨RX1, "<init>", "()V"⟩
abbrev cX1_lay : ByteArray := prog_3_method_2_code
def yX1_lay : MethodName := ⟨RX1, "lay", "(II)V"⟩
abbrev cX1_listAround : ByteArray := prog_3_method_3_code
def yX1_listAround : MethodName := ⟨RX1, "listAround", "(II)V"⟩
abbrev cX1_neighbour : ByteArray := prog_3_method_4_code
def yX1_neighbour : MethodName := ⟨RX1, "neighbour", "(II)I"⟩
abbrev cX1_meets : ByteArray := prog_3_method_5_code
def yX1_meets : MethodName := ⟨RX1, "meets", "(I[Z)Z"⟩
def RX2 : String := "FeltGlass$Hand"
def TX2 : u_T := fun k => match k with
  | 0 => ("FeltGlass$Hand", "on", "[Z", true)
  | 1 => ("FeltGlass$Hand", "u", "[I", true)
  | 2 => ("FeltGlass$Hand", "v", "[I", true)
  | _ => ("FeltGlass$Hand", "power", "[I", true)
def tyX2 : Nat → FieldType := fun k => match k with
  | 0 => .array .boolean
  | 1 => .array .int
  | 2 => .array .int
  | _ => .array .int
abbrev wsX20 : List Cond := u_ws RX2 TX2 4
theorem nmX2 : ∀ a, a < 4 → ∀ b, b < 4 → a ≠ b → (TX2 a).2.1 ≠ (TX2 b).2.1 := by decide +kernel
theorem tyX2_ok : ∀ k, k < 4 → parseFieldDescriptor (TX2 k).2.2.1 = some (tyX2 k) := by decide +kernel
abbrev cX2_init : ByteArray := prog_4_method_1_code
def yX2_init : MethodName := ⟨RX2, "<init>", "()V"⟩
abbrev cX2_liftAll : ByteArray := prog_4_method_2_code
def yX2_liftAll : MethodName := ⟨RX2, "liftAll", "()V"⟩
abbrev cX2_put : ByteArray := prog_4_method_3_code
def yX2_put : MethodName := ⟨RX2, "put", "(IIII)V"⟩
abbrev cX2_copyFrom : ByteArray := prog_4_method_4_code
def yX2_copyFrom : MethodName := ⟨RX2, "copyFrom", "(LFeltGlass$Hand;)V"⟩
abbrev cX2_onCount : ByteArray := prog_4_method_5_code
def yX2_onCount : MethodName := ⟨RX2, "onCount", "()I"⟩
abbrev cX2_sensedAt : ByteArray := prog_4_method_6_code
def yX2_sensedAt : MethodName := ⟨RX2, "sensedAt", "(II)I"⟩
abbrev cX2_fact : ByteArray := prog_4_method_7_code
def yX2_fact : MethodName := ⟨RX2, "fact", "(II)I"⟩
def RX3 : String := "FeltGlass$Hills"
def TX3 : u_T := fun k => match k with
  | 0 => ("FeltGlass$Hills", "grid", "LFeltGlass$Grid;", true)
  | 1 => ("FeltGlass$Hills", "peak", "[I", true)
  | 2 => ("FeltGlass$Hills", "alive", "[Z", true)
  | 3 => ("FeltGlass$Hills", "hillOf", "[I", true)
  | 4 => ("FeltGlass$Hills", "size", "I", false)
  | 5 => ("FeltGlass$Hills", "uphill", "[I", true)
  | _ => ("FeltGlass$Hills", "pass", "[I", true)
def tyX3 : Nat → FieldType := fun k => match k with
  | 0 => .object "FeltGlass$Grid"
  | 1 => .array .int
  | 2 => .array .boolean
  | 3 => .array .int
  | 4 => .int
  | 5 => .array .int
  | _ => .array .int
abbrev wsX30 : List Cond := u_ws RX3 TX3 7
theorem nmX3 : ∀ a, a < 7 → ∀ b, b < 7 → a ≠ b → (TX3 a).2.1 ≠ (TX3 b).2.1 := by decide +kernel
theorem tyX3_ok : ∀ k, k < 7 → parseFieldDescriptor (TX3 k).2.2.1 = some (tyX3 k) := by decide +kernel
abbrev cX3_init : ByteArray := prog_5_method_1_code
def yX3_init : MethodName := ⟨RX3, "<init>", "(LFeltGlass$Grid;)V"⟩
abbrev cX3_form : ByteArray := prog_5_method_2_code
def yX3_form : MethodName := ⟨RX3, "form", "(LFeltGlass$Surface;I)V"⟩
abbrev cX3_findPeaks : ByteArray := prog_5_method_3_code
def yX3_findPeaks : MethodName := ⟨RX3, "findPeaks", "(LFeltGlass$Surface;)V"⟩
abbrev cX3_steepest : ByteArray := prog_5_method_4_code
def yX3_steepest : MethodName := ⟨RX3, "steepest", "(I[I)I"⟩
abbrev cX3_gatherCells : ByteArray := prog_5_method_5_code
def yX3_gatherCells : MethodName := ⟨RX3, "gatherCells", "([Z)V"⟩
abbrev cX3_findPasses : ByteArray := prog_5_method_6_code
def yX3_findPasses : MethodName := ⟨RX3, "findPasses", "([I)V"⟩
abbrev cX3_raisePass : ByteArray := prog_5_method_7_code
def yX3_raisePass : MethodName := ⟨RX3, "raisePass", "(III)V"⟩
abbrev cX3_mergeBestPair : ByteArray := prog_5_method_8_code
def yX3_mergeBestPair : MethodName := ⟨RX3, "mergeBestPair", "([II)Z"⟩
abbrev cX3_canMerge : ByteArray := prog_5_method_9_code
def yX3_canMerge : MethodName := ⟨RX3, "canMerge", "(II[II)Z"⟩
abbrev cX3_merge : ByteArray := prog_5_method_10_code
def yX3_merge : MethodName := ⟨RX3, "merge", "(II)V"⟩
def RX4 : String := "FeltGlass$Journal"
def TX4 : u_T := fun k => match k with
  | 0 => ("FeltGlass$Journal", "sort", "[I", true)
  | 1 => ("FeltGlass$Journal", "track", "[I", true)
  | 2 => ("FeltGlass$Journal", "frame", "[I", true)
  | 3 => ("FeltGlass$Journal", "occurred", "[I", true)
  | _ => ("FeltGlass$Journal", "written", "I", false)
def tyX4 : Nat → FieldType := fun k => match k with
  | 0 => .array .int
  | 1 => .array .int
  | 2 => .array .int
  | 3 => .array .int
  | _ => .int
abbrev wsX40 : List Cond := u_ws RX4 TX4 5
theorem nmX4 : ∀ a, a < 5 → ∀ b, b < 5 → a ≠ b → (TX4 a).2.1 ≠ (TX4 b).2.1 := by decide +kernel
theorem tyX4_ok : ∀ k, k < 5 → parseFieldDescriptor (TX4 k).2.2.1 = some (tyX4 k) := by decide +kernel
abbrev cX4_init : ByteArray := prog_6_method_1_code
def yX4_init : MethodName := ⟨RX4, "<init>", "()V"⟩
abbrev cX4_write : ByteArray := prog_6_method_2_code
def yX4_write : MethodName := ⟨RX4, "write", "(III)V"⟩
abbrev cX4_kept : ByteArray := prog_6_method_3_code
def yX4_kept : MethodName := ⟨RX4, "kept", "()I"⟩
abbrev cX4_fact : ByteArray := prog_6_method_4_code
def yX4_fact : MethodName := ⟨RX4, "fact", "(II)I"⟩
def RX5 : String := "FeltGlass$Page"
def TX5 : u_T := fun k => match k with
  | 0 => ("FeltGlass$Page", "sign", "[I", true)
  | 1 => ("FeltGlass$Page", "length", "I", false)
  | 2 => ("FeltGlass$Page", "draft", "LFeltGlass$Hand;", true)
  | 3 => ("FeltGlass$Page", "at", "I", false)
  | 4 => ("FeltGlass$Page", "mostU", "I", false)
  | _ => ("FeltGlass$Page", "mostV", "I", false)
def tyX5 : Nat → FieldType := fun k => match k with
  | 0 => .array .int
  | 1 => .int
  | 2 => .object "FeltGlass$Hand"
  | 3 => .int
  | 4 => .int
  | _ => .int
abbrev wsX50 : List Cond := u_ws RX5 TX5 6
theorem nmX5 : ∀ a, a < 6 → ∀ b, b < 6 → a ≠ b → (TX5 a).2.1 ≠ (TX5 b).2.1 := by decide +kernel
theorem tyX5_ok : ∀ k, k < 6 → parseFieldDescriptor (TX5 k).2.2.1 = some (tyX5 k) := by decide +kernel
abbrev cX5_init : ByteArray := prog_7_method_1_code
def yX5_init : MethodName := ⟨RX5, "<init>", "()V"⟩
abbrev cX5_append : ByteArray := prog_7_method_2_code
def yX5_append : MethodName := ⟨RX5, "append", "(I)V"⟩
abbrev cX5_read : ByteArray := prog_7_method_3_code
def yX5_read : MethodName := ⟨RX5, "read", "(LFeltGlass$Grid;LFeltGlass$Hand;)Z"⟩
abbrev cX5_readPart : ByteArray := prog_7_method_4_code
def yX5_readPart : MethodName := ⟨RX5, "readPart", "()Z"⟩
abbrev cX5_readPlace : ByteArray := prog_7_method_5_code
def yX5_readPlace : MethodName := ⟨RX5, "readPlace", "(I)Z"⟩
abbrev cX5_readNumber : ByteArray := prog_7_method_6_code
def yX5_readNumber : MethodName := ⟨RX5, "readNumber", "(II)I"⟩
abbrev cX5_digitHere : ByteArray := prog_7_method_7_code
def yX5_digitHere : MethodName := ⟨RX5, "digitHere", "()I"⟩
abbrev cX5_take : ByteArray := prog_7_method_8_code
def yX5_take : MethodName := ⟨RX5, "take", "(C)Z"⟩
abbrev cX5_codeHere : ByteArray := prog_7_method_9_code
def yX5_codeHere : MethodName := ⟨RX5, "codeHere", "()I"⟩
def RX6 : String := "FeltGlass$Pairing"
def TX6 : u_T := fun k => match k with
  | 0 => ("FeltGlass$Pairing", "spotFor", "[I", true)
  | 1 => ("FeltGlass$Pairing", "worth", "[I", true)
  | 2 => ("FeltGlass$Pairing", "best", "[I", true)
  | _ => ("FeltGlass$Pairing", "spotCount", "I", false)
def tyX6 : Nat → FieldType := fun k => match k with
  | 0 => .array .int
  | 1 => .array .int
  | 2 => .array .int
  | _ => .int
abbrev wsX60 : List Cond := u_ws RX6 TX6 4
theorem nmX6 : ∀ a, a < 4 → ∀ b, b < 4 → a ≠ b → (TX6 a).2.1 ≠ (TX6 b).2.1 := by decide +kernel
theorem tyX6_ok : ∀ k, k < 4 → parseFieldDescriptor (TX6 k).2.2.1 = some (tyX6 k) := by decide +kernel
abbrev cX6_init : ByteArray := prog_8_method_1_code
def yX6_init : MethodName := ⟨RX6, "<init>", "()V"⟩
abbrev cX6_solve : ByteArray := prog_8_method_2_code
def yX6_solve : MethodName := ⟨RX6, "solve", "(LFeltGlass$Tracks;LFeltGlass$Spots;I)V"⟩
abbrev cX6_weighPairs : ByteArray := prog_8_method_3_code
def yX6_weighPairs : MethodName := ⟨RX6, "weighPairs", "(LFeltGlass$Tracks;LFeltGlass$Spots;I)V"⟩
abbrev cX6_bestSpot : ByteArray := prog_8_method_4_code
def yX6_bestSpot : MethodName := ⟨RX6, "bestSpot", "(II)I"⟩
abbrev cX6_worthOf : ByteArray := prog_8_method_5_code
def yX6_worthOf : MethodName := ⟨RX6, "worthOf", "(III)I"⟩
abbrev cX6_withSpot : ByteArray := prog_8_method_6_code
def yX6_withSpot : MethodName := ⟨RX6, "withSpot", "(II)I"⟩
def RX7 : String := "FeltGlass$Panel"
def TX7 : u_T := fun k => match k with
  | 0 => ("FeltGlass$Panel", "grid", "LFeltGlass$Grid;", true)
  | 1 => ("FeltGlass$Panel", "hand", "LFeltGlass$Hand;", true)
  | 2 => ("FeltGlass$Panel", "drives", "LFeltGlass$Drives;", true)
  | 3 => ("FeltGlass$Panel", "settings", "[I", true)
  | 4 => ("FeltGlass$Panel", "surface", "LFeltGlass$Surface;", true)
  | 5 => ("FeltGlass$Panel", "spots", "LFeltGlass$Spots;", true)
  | 6 => ("FeltGlass$Panel", "tracks", "LFeltGlass$Tracks;", true)
  | 7 => ("FeltGlass$Panel", "present", "Z", false)
  | 8 => ("FeltGlass$Panel", "framesEver", "I", false)
  | 9 => ("FeltGlass$Panel", "noisyEver", "I", false)
  | 10 => ("FeltGlass$Panel", "hills", "LFeltGlass$Hills;", true)
  | 11 => ("FeltGlass$Panel", "pairing", "LFeltGlass$Pairing;", true)
  | 12 => ("FeltGlass$Panel", "spread", "I", false)
  | 13 => ("FeltGlass$Panel", "noisy", "Z", false)
  | _ => ("FeltGlass$Panel", "framesHere", "I", false)
def tyX7 : Nat → FieldType := fun k => match k with
  | 0 => .object "FeltGlass$Grid"
  | 1 => .object "FeltGlass$Hand"
  | 2 => .object "FeltGlass$Drives"
  | 3 => .array .int
  | 4 => .object "FeltGlass$Surface"
  | 5 => .object "FeltGlass$Spots"
  | 6 => .object "FeltGlass$Tracks"
  | 7 => .boolean
  | 8 => .int
  | 9 => .int
  | 10 => .object "FeltGlass$Hills"
  | 11 => .object "FeltGlass$Pairing"
  | 12 => .int
  | 13 => .boolean
  | _ => .int
abbrev wsX70 : List Cond := u_ws RX7 TX7 15
theorem nmX7 : ∀ a, a < 15 → ∀ b, b < 15 → a ≠ b → (TX7 a).2.1 ≠ (TX7 b).2.1 := by decide +kernel
theorem tyX7_ok : ∀ k, k < 15 → parseFieldDescriptor (TX7 k).2.2.1 = some (tyX7 k) := by decide +kernel
abbrev cX7_init : ByteArray := prog_9_method_1_code
def yX7_init : MethodName := ⟨RX7, "<init>", "(LFeltGlass$Journal;)V"⟩
abbrev cX7_renew : ByteArray := prog_9_method_2_code
def yX7_renew : MethodName := ⟨RX7, "renew", "(II)V"⟩
abbrev cX7_hasCell : ByteArray := prog_9_method_3_code
def yX7_hasCell : MethodName := ⟨RX7, "hasCell", "(I)Z"⟩
abbrev cX7_hasSpot : ByteArray := prog_9_method_4_code
def yX7_hasSpot : MethodName := ⟨RX7, "hasSpot", "(I)Z"⟩
abbrev cX7_hasTrack : ByteArray := prog_9_method_5_code
def yX7_hasTrack : MethodName := ⟨RX7, "hasTrack", "(I)Z"⟩
abbrev cX7_runFrame : ByteArray := prog_9_method_6_code
def yX7_runFrame : MethodName := ⟨RX7, "runFrame", "()V"⟩
abbrev cX7_cellFact : ByteArray := prog_9_method_7_code
def yX7_cellFact : MethodName := ⟨RX7, "cellFact", "(II)I"⟩
abbrev cX7_fact : ByteArray := prog_9_method_8_code
def yX7_fact : MethodName := ⟨RX7, "fact", "(I)I"⟩
def RX8 : String := "FeltGlass$Spots"
def TX8 : u_T := fun k => match k with
  | 0 => ("FeltGlass$Spots", "grid", "LFeltGlass$Grid;", true)
  | 1 => ("FeltGlass$Spots", "row", "[[I", true)
  | 2 => ("FeltGlass$Spots", "spotOf", "[I", true)
  | 3 => ("FeltGlass$Spots", "inSpot", "[Z", true)
  | 4 => ("FeltGlass$Spots", "size", "I", false)
  | 5 => ("FeltGlass$Spots", "chosen", "[Z", true)
  | 6 => ("FeltGlass$Spots", "spotOfHill", "[I", true)
  | 7 => ("FeltGlass$Spots", "cellsOf", "[I", true)
  | 8 => ("FeltGlass$Spots", "massOf", "[I", true)
  | 9 => ("FeltGlass$Spots", "columnsOf", "[I", true)
  | _ => ("FeltGlass$Spots", "rowsOf", "[I", true)
def tyX8 : Nat → FieldType := fun k => match k with
  | 0 => .object "FeltGlass$Grid"
  | 1 => .array (.array .int)
  | 2 => .array .int
  | 3 => .array .boolean
  | 4 => .int
  | 5 => .array .boolean
  | 6 => .array .int
  | 7 => .array .int
  | 8 => .array .int
  | 9 => .array .int
  | _ => .array .int
abbrev wsX80 : List Cond := u_ws RX8 TX8 11
theorem nmX8 : ∀ a, a < 11 → ∀ b, b < 11 → a ≠ b → (TX8 a).2.1 ≠ (TX8 b).2.1 := by decide +kernel
theorem tyX8_ok : ∀ k, k < 11 → parseFieldDescriptor (TX8 k).2.2.1 = some (tyX8 k) := by decide +kernel
abbrev cX8_init : ByteArray := prog_10_method_1_code
def yX8_init : MethodName := ⟨RX8, "<init>", "(LFeltGlass$Grid;)V"⟩
abbrev cX8_clear : ByteArray := prog_10_method_2_code
def yX8_clear : MethodName := ⟨RX8, "clear", "()V"⟩
abbrev cX8_choose : ByteArray := prog_10_method_3_code
def yX8_choose : MethodName := ⟨RX8, "choose", "(LFeltGlass$Hills;[II)V"⟩
abbrev cX8_weigh : ByteArray := prog_10_method_4_code
def yX8_weigh : MethodName := ⟨RX8, "weigh", "(LFeltGlass$Hills;[I)V"⟩
abbrev cX8_dropLightest : ByteArray := prog_10_method_5_code
def yX8_dropLightest : MethodName := ⟨RX8, "dropLightest", "(I)V"⟩
abbrev cX8_numberHills : ByteArray := prog_10_method_6_code
def yX8_numberHills : MethodName := ⟨RX8, "numberHills", "(LFeltGlass$Hills;)V"⟩
abbrev cX8_fillRow : ByteArray := prog_10_method_7_code
def yX8_fillRow : MethodName := ⟨RX8, "fillRow", "([III)V"⟩
abbrev cX8_markCells : ByteArray := prog_10_method_8_code
def yX8_markCells : MethodName := ⟨RX8, "markCells", "([I)V"⟩
def RX9 : String := "FeltGlass$Surface"
def TX9 : u_T := fun k => match k with
  | 0 => ("FeltGlass$Surface", "grid", "LFeltGlass$Grid;", true)
  | 1 => ("FeltGlass$Surface", "background", "[I", true)
  | 2 => ("FeltGlass$Surface", "baseline", "[I", true)
  | 3 => ("FeltGlass$Surface", "sensed", "[I", true)
  | 4 => ("FeltGlass$Surface", "raw", "[I", true)
  | 5 => ("FeltGlass$Surface", "delta", "[I", true)
  | _ => ("FeltGlass$Surface", "touched", "[Z", true)
def tyX9 : Nat → FieldType := fun k => match k with
  | 0 => .object "FeltGlass$Grid"
  | 1 => .array .int
  | 2 => .array .int
  | 3 => .array .int
  | 4 => .array .int
  | 5 => .array .int
  | _ => .array .boolean
abbrev wsX90 : List Cond := u_ws RX9 TX9 7
theorem nmX9 : ∀ a, a < 7 → ∀ b, b < 7 → a ≠ b → (TX9 a).2.1 ≠ (TX9 b).2.1 := by decide +kernel
theorem tyX9_ok : ∀ k, k < 7 → parseFieldDescriptor (TX9 k).2.2.1 = some (tyX9 k) := by decide +kernel
abbrev cX9_init : ByteArray := prog_11_method_1_code
def yX9_init : MethodName := ⟨RX9, "<init>", "(LFeltGlass$Grid;)V"⟩
abbrev cX9_renew : ByteArray := prog_11_method_2_code
def yX9_renew : MethodName := ⟨RX9, "renew", "()V"⟩
abbrev cX9_feel : ByteArray := prog_11_method_3_code
def yX9_feel : MethodName := ⟨RX9, "feel", "(LFeltGlass$Hand;)V"⟩
abbrev cX9_addToBackgrounds : ByteArray := prog_11_method_4_code
def yX9_addToBackgrounds : MethodName := ⟨RX9, "addToBackgrounds", "(I)I"⟩
abbrev cX9_baselinesToBackgrounds : ByteArray := prog_11_method_5_code
def yX9_baselinesToBackgrounds : MethodName := ⟨RX9, "baselinesToBackgrounds", "()I"⟩
abbrev cX9_sense : ByteArray := prog_11_method_6_code
def yX9_sense : MethodName := ⟨RX9, "sense", "(LFeltGlass$Drives;I)V"⟩
abbrev cX9_quietSpread : ByteArray := prog_11_method_7_code
def yX9_quietSpread : MethodName := ⟨RX9, "quietSpread", "()I"⟩
abbrev cX9_driftBaselines : ByteArray := prog_11_method_8_code
def yX9_driftBaselines : MethodName := ⟨RX9, "driftBaselines", "([ZI)V"⟩
def RX10 : String := "FeltGlass$Tracks"
def TX10 : u_T := fun k => match k with
  | 0 => ("FeltGlass$Tracks", "row", "[[I", true)
  | 1 => ("FeltGlass$Tracks", "size", "I", false)
  | 2 => ("FeltGlass$Tracks", "begunEver", "I", false)
  | 3 => ("FeltGlass$Tracks", "settings", "[I", true)
  | _ => ("FeltGlass$Tracks", "journal", "LFeltGlass$Journal;", true)
def tyX10 : Nat → FieldType := fun k => match k with
  | 0 => .array (.array .int)
  | 1 => .int
  | 2 => .int
  | 3 => .array .int
  | _ => .object "FeltGlass$Journal"
abbrev wsX100 : List Cond := u_ws RX10 TX10 5
theorem nmX10 : ∀ a, a < 5 → ∀ b, b < 5 → a ≠ b → (TX10 a).2.1 ≠ (TX10 b).2.1 := by decide +kernel
theorem tyX10_ok : ∀ k, k < 5 → parseFieldDescriptor (TX10 k).2.2.1 = some (tyX10 k) := by decide +kernel
abbrev cX10_init : ByteArray := prog_12_method_1_code
def yX10_init : MethodName := ⟨RX10, "<init>", "([ILFeltGlass$Journal;)V"⟩
abbrev cX10_follow : ByteArray := prog_12_method_2_code
def yX10_follow : MethodName := ⟨RX10, "follow", "(LFeltGlass$Spots;[II)V"⟩
abbrev cX10_move : ByteArray := prog_12_method_3_code
def yX10_move : MethodName := ⟨RX10, "move", "([I[II)V"⟩
abbrev cX10_miss : ByteArray := prog_12_method_4_code
def yX10_miss : MethodName := ⟨RX10, "miss", "([II)Z"⟩
abbrev cX10_beginNew : ByteArray := prog_12_method_5_code
def yX10_beginNew : MethodName := ⟨RX10, "beginNew", "(LFeltGlass$Spots;)V"⟩
abbrev cX10_begin : ByteArray := prog_12_method_6_code
def yX10_begin : MethodName := ⟨RX10, "begin", "([I[I)V"⟩
abbrev cX10_takeOver : ByteArray := prog_12_method_7_code
def yX10_takeOver : MethodName := ⟨RX10, "takeOver", "([I[I)V"⟩
abbrev cX10_isPalm : ByteArray := prog_12_method_8_code
def yX10_isPalm : MethodName := ⟨RX10, "isPalm", "([I)Z"⟩
def RX11 : String := "FeltGlass"
def TX11 : u_T := fun k => match k with
  | 0 => ("FeltGlass", "page", "LFeltGlass$Page;", true)
  | 1 => ("FeltGlass", "panel", "LFeltGlass$Panel;", true)
  | 2 => ("FeltGlass", "journal", "LFeltGlass$Journal;", true)
  | 3 => ("FeltGlass", "textsRead", "I", false)
  | _ => ("FeltGlass", "panelsMade", "I", false)
def tyX11 : Nat → FieldType := fun k => match k with
  | 0 => .object "FeltGlass$Page"
  | 1 => .object "FeltGlass$Panel"
  | 2 => .object "FeltGlass$Journal"
  | 3 => .int
  | _ => .int
abbrev wsX110 : List Cond := u_ws RX11 TX11 5
theorem nmX11 : ∀ a, a < 5 → ∀ b, b < 5 → a ≠ b → (TX11 a).2.1 ≠ (TX11 b).2.1 := by decide +kernel
theorem tyX11_ok : ∀ k, k < 5 → parseFieldDescriptor (TX11 k).2.2.1 = some (tyX11 k) := by decide +kernel
abbrev cX11_init : ByteArray := prog_1_method_1_code
def yX11_init : MethodName := ⟨RX11, "<init>", "()V"⟩
abbrev cX11_letter : ByteArray := prog_1_method_2_code
def yX11_letter : MethodName := ⟨RX11, "letter", "(I)I"⟩
abbrev cX11_blank : ByteArray := prog_1_method_3_code
def yX11_blank : MethodName := ⟨RX11, "blank", "()I"⟩
abbrev cX11_fault : ByteArray := prog_1_method_4_code
def yX11_fault : MethodName := ⟨RX11, "fault", "()I"⟩
abbrev cX11_fingers : ByteArray := prog_1_method_5_code
def yX11_fingers : MethodName := ⟨RX11, "fingers", "()I"⟩
abbrev cX11_glass : ByteArray := prog_1_method_6_code
def yX11_glass : MethodName := ⟨RX11, "glass", "(II)I"⟩
abbrev cX11_air : ByteArray := prog_1_method_7_code
def yX11_air : MethodName := ⟨RX11, "air", "(II)I"⟩
abbrev cX11_warm : ByteArray := prog_1_method_8_code
def yX11_warm : MethodName := ⟨RX11, "warm", "(I)I"⟩
abbrev cX11_noise : ByteArray := prog_1_method_9_code
def yX11_noise : MethodName := ⟨RX11, "noise", "(II)I"⟩
abbrev cX11_seed : ByteArray := prog_1_method_10_code
def yX11_seed : MethodName := ⟨RX11, "seed", "(I)I"⟩
abbrev cX11_bound : ByteArray := prog_1_method_11_code
def yX11_bound : MethodName := ⟨RX11, "bound", "(II)I"⟩
abbrev cX11_settle : ByteArray := prog_1_method_12_code
def yX11_settle : MethodName := ⟨RX11, "settle", "()I"⟩
abbrev cX11_frames : ByteArray := prog_1_method_13_code
def yX11_frames : MethodName := ⟨RX11, "frames", "(I)I"⟩
abbrev cX11_finger : ByteArray := prog_1_method_14_code
def yX11_finger : MethodName := ⟨RX11, "finger", "(II)I"⟩
abbrev cX11_cell : ByteArray := prog_1_method_15_code
def yX11_cell : MethodName := ⟨RX11, "cell", "(II)I"⟩
abbrev cX11_about : ByteArray := prog_1_method_16_code
def yX11_about : MethodName := ⟨RX11, "about", "(I)I"⟩
abbrev cX11_spot : ByteArray := prog_1_method_17_code
def yX11_spot : MethodName := ⟨RX11, "spot", "(II)I"⟩
abbrev cX11_track : ByteArray := prog_1_method_18_code
def yX11_track : MethodName := ⟨RX11, "track", "(II)I"⟩
abbrev cX11_as : ByteArray := prog_1_method_19_code
def yX11_as : MethodName := ⟨RX11, "as", "(II)I"⟩
abbrev cX11_event : ByteArray := prog_1_method_20_code
def yX11_event : MethodName := ⟨RX11, "event", "(II)I"⟩
abbrev cX11_count : ByteArray := prog_1_method_21_code
def yX11_count : MethodName := ⟨RX11, "count", "(I)I"⟩
abbrev cX11_events : ByteArray := prog_1_method_22_code
def yX11_events : MethodName := ⟨RX11, "events", "(I)I"⟩
abbrev cX11_digest : ByteArray := prog_1_method_23_code
def yX11_digest : MethodName := ⟨RX11, "digest", "()J"⟩
abbrev cX11_hashPanelAndFingers : ByteArray := prog_1_method_24_code
def yX11_hashPanelAndFingers : MethodName := ⟨RX11, "hashPanelAndFingers", "(J)J"⟩
abbrev cX11_hashCells : ByteArray := prog_1_method_25_code
def yX11_hashCells : MethodName := ⟨RX11, "hashCells", "(J)J"⟩
abbrev cX11_hashSpots : ByteArray := prog_1_method_26_code
def yX11_hashSpots : MethodName := ⟨RX11, "hashSpots", "(J)J"⟩
abbrev cX11_hashTracks : ByteArray := prog_1_method_27_code
def yX11_hashTracks : MethodName := ⟨RX11, "hashTracks", "(J)J"⟩
abbrev cX11_hashJournal : ByteArray := prog_1_method_28_code
def yX11_hashJournal : MethodName := ⟨RX11, "hashJournal", "(J)J"⟩
abbrev cX11_within : ByteArray := prog_1_method_29_code
def yX11_within : MethodName := ⟨RX11, "within", "(III)Z"⟩
def RX12 : String := "FeltGlassModel"
def TX12 : u_T := fun k => match k with
  | 0 => ("FeltGlassModel", "pageLength", "I", false)
  | 1 => ("FeltGlassModel", "page", "[I", true)
  | 2 => ("FeltGlassModel", "wide", "I", false)
  | 3 => ("FeltGlassModel", "high", "I", false)
  | 4 => ("FeltGlassModel", "airOf", "[I", true)
  | 5 => ("FeltGlassModel", "used", "[I", true)
  | 6 => ("FeltGlassModel", "raw", "[I", true)
  | 7 => ("FeltGlassModel", "delta", "[I", true)
  | 8 => ("FeltGlassModel", "spotOf", "[I", true)
  | 9 => ("FeltGlassModel", "isOn", "[Z", true)
  | 10 => ("FeltGlassModel", "fingerU", "[I", true)
  | 11 => ("FeltGlassModel", "fingerV", "[I", true)
  | 12 => ("FeltGlassModel", "power", "[I", true)
  | 13 => ("FeltGlassModel", "noiseOf", "[I", true)
  | 14 => ("FeltGlassModel", "bounds", "[I", true)
  | 15 => ("FeltGlassModel", "drive", "I", false)
  | 16 => ("FeltGlassModel", "seedNow", "I", false)
  | 17 => ("FeltGlassModel", "framesHere", "I", false)
  | 18 => ("FeltGlassModel", "spanNow", "I", false)
  | 19 => ("FeltGlassModel", "wasNoisy", "Z", false)
  | 20 => ("FeltGlassModel", "spots", "I", false)
  | 21 => ("FeltGlassModel", "spotTop", "[I", true)
  | 22 => ("FeltGlassModel", "spotSize", "[I", true)
  | 23 => ("FeltGlassModel", "spotMass", "[I", true)
  | 24 => ("FeltGlassModel", "spotX", "[I", true)
  | 25 => ("FeltGlassModel", "spotY", "[I", true)
  | 26 => ("FeltGlassModel", "spotId", "[I", true)
  | 27 => ("FeltGlassModel", "tracks", "I", false)
  | 28 => ("FeltGlassModel", "trackId", "[I", true)
  | 29 => ("FeltGlassModel", "trackX", "[I", true)
  | 30 => ("FeltGlassModel", "trackY", "[I", true)
  | 31 => ("FeltGlassModel", "trackSize", "[I", true)
  | 32 => ("FeltGlassModel", "trackMass", "[I", true)
  | 33 => ("FeltGlassModel", "age", "[I", true)
  | 34 => ("FeltGlassModel", "missed", "[I", true)
  | 35 => ("FeltGlassModel", "moved", "[I", true)
  | 36 => ("FeltGlassModel", "isPalm", "[Z", true)
  | 37 => ("FeltGlassModel", "kept", "I", false)
  | 38 => ("FeltGlassModel", "eventSort", "[I", true)
  | 39 => ("FeltGlassModel", "eventId", "[I", true)
  | 40 => ("FeltGlassModel", "eventFrame", "[I", true)
  | 41 => ("FeltGlassModel", "eventsOf", "[I", true)
  | 42 => ("FeltGlassModel", "framesEver", "I", false)
  | 43 => ("FeltGlassModel", "noisyEver", "I", false)
  | 44 => ("FeltGlassModel", "ids", "I", false)
  | 45 => ("FeltGlassModel", "textsRead", "I", false)
  | 46 => ("FeltGlassModel", "glasses", "I", false)
  | 47 => ("FeltGlassModel", "stage", "I", false)
  | 48 => ("FeltGlassModel", "figures", "I", false)
  | 49 => ("FeltGlassModel", "newFinger", "I", false)
  | 50 => ("FeltGlassModel", "newU", "I", false)
  | 51 => ("FeltGlassModel", "newV", "I", false)
  | 52 => ("FeltGlassModel", "isTaken", "Z", false)
  | 53 => ("FeltGlassModel", "topOf", "[I", true)
  | 54 => ("FeltGlassModel", "pairsOf", "[I", true)
  | 55 => ("FeltGlassModel", "costOf", "[I", true)
  | 56 => ("FeltGlassModel", "pairOf", "[I", true)
  | _ => ("FeltGlassModel", "h", "J", false)
def tyX12 : Nat → FieldType := fun k => match k with
  | 0 => .int
  | 1 => .array .int
  | 2 => .int
  | 3 => .int
  | 4 => .array .int
  | 5 => .array .int
  | 6 => .array .int
  | 7 => .array .int
  | 8 => .array .int
  | 9 => .array .boolean
  | 10 => .array .int
  | 11 => .array .int
  | 12 => .array .int
  | 13 => .array .int
  | 14 => .array .int
  | 15 => .int
  | 16 => .int
  | 17 => .int
  | 18 => .int
  | 19 => .boolean
  | 20 => .int
  | 21 => .array .int
  | 22 => .array .int
  | 23 => .array .int
  | 24 => .array .int
  | 25 => .array .int
  | 26 => .array .int
  | 27 => .int
  | 28 => .array .int
  | 29 => .array .int
  | 30 => .array .int
  | 31 => .array .int
  | 32 => .array .int
  | 33 => .array .int
  | 34 => .array .int
  | 35 => .array .int
  | 36 => .array .boolean
  | 37 => .int
  | 38 => .array .int
  | 39 => .array .int
  | 40 => .array .int
  | 41 => .array .int
  | 42 => .int
  | 43 => .int
  | 44 => .int
  | 45 => .int
  | 46 => .int
  | 47 => .int
  | 48 => .int
  | 49 => .int
  | 50 => .int
  | 51 => .int
  | 52 => .boolean
  | 53 => .array .int
  | 54 => .array .int
  | 55 => .array .int
  | 56 => .array .int
  | _ => .long
abbrev wsX120 : List Cond := u_ws RX12 TX12 58
theorem nmX12 : ∀ a, a < 58 → ∀ b, b < 58 → a ≠ b → (TX12 a).2.1 ≠ (TX12 b).2.1 := by decide +kernel
theorem tyX12_ok : ∀ k, k < 58 → parseFieldDescriptor (TX12 k).2.2.1 = some (tyX12 k) := by decide +kernel
abbrev cX12_init : ByteArray := prog_14_method_1_code
def yX12_init : MethodName := ⟨RX12, "<init>", "()V"⟩
abbrev cX12_within : ByteArray := prog_14_method_3_code
def yX12_within : MethodName := ⟨RX12, "within", "(III)Z"⟩
abbrev cX12_abs : ByteArray := prog_14_method_4_code
def yX12_abs : MethodName := ⟨RX12, "abs", "(I)I"⟩
abbrev cX12_isGlass : ByteArray := prog_14_method_5_code
def yX12_isGlass : MethodName := ⟨RX12, "isGlass", "()Z"⟩
abbrev cX12_cells : ByteArray := prog_14_method_6_code
def yX12_cells : MethodName := ⟨RX12, "cells", "()I"⟩
abbrev cX12_letter : ByteArray := prog_14_method_7_code
def yX12_letter : MethodName := ⟨RX12, "letter", "(I)I"⟩
abbrev cX12_blank : ByteArray := prog_14_method_8_code
def yX12_blank : MethodName := ⟨RX12, "blank", "()I"⟩
abbrev cX12_mostNow : ByteArray := prog_14_method_9_code
def yX12_mostNow : MethodName := ⟨RX12, "mostNow", "()I"⟩
abbrev cX12_takesFigure : ByteArray := prog_14_method_10_code
def yX12_takesFigure : MethodName := ⟨RX12, "takesFigure", "(I)Z"⟩
abbrev cX12_goes : ByteArray := prog_14_method_11_code
def yX12_goes : MethodName := ⟨RX12, "goes", "(ZI)Z"⟩
abbrev cX12_takesSign : ByteArray := prog_14_method_12_code
def yX12_takesSign : MethodName := ⟨RX12, "takesSign", "(I)Z"⟩
abbrev cX12_putOn : ByteArray := prog_14_method_13_code
def yX12_putOn : MethodName := ⟨RX12, "putOn", "(I)V"⟩
abbrev cX12_takesDigit : ByteArray := prog_14_method_14_code
def yX12_takesDigit : MethodName := ⟨RX12, "takesDigit", "(I)Z"⟩
abbrev cX12_takesKind : ByteArray := prog_14_method_15_code
def yX12_takesKind : MethodName := ⟨RX12, "takesKind", "(I)Z"⟩
abbrev cX12_takes : ByteArray := prog_14_method_16_code
def yX12_takes : MethodName := ⟨RX12, "takes", "(I)Z"⟩
abbrev cX12_goAlong : ByteArray := prog_14_method_17_code
def yX12_goAlong : MethodName := ⟨RX12, "goAlong", "(Z)I"⟩
abbrev cX12_fault : ByteArray := prog_14_method_18_code
def yX12_fault : MethodName := ⟨RX12, "fault", "()I"⟩
abbrev cX12_onMany : ByteArray := prog_14_method_19_code
def yX12_onMany : MethodName := ⟨RX12, "onMany", "()I"⟩
abbrev cX12_fingers : ByteArray := prog_14_method_20_code
def yX12_fingers : MethodName := ⟨RX12, "fingers", "()I"⟩
abbrev cX12_layBounds : ByteArray := prog_14_method_21_code
def yX12_layBounds : MethodName := ⟨RX12, "layBounds", "()V"⟩
abbrev cX12_glass : ByteArray := prog_14_method_22_code
def yX12_glass : MethodName := ⟨RX12, "glass", "(II)I"⟩
abbrev cX12_isCell : ByteArray := prog_14_method_23_code
def yX12_isCell : MethodName := ⟨RX12, "isCell", "(I)Z"⟩
abbrev cX12_air : ByteArray := prog_14_method_24_code
def yX12_air : MethodName := ⟨RX12, "air", "(II)I"⟩
abbrev cX12_held : ByteArray := prog_14_method_25_code
def yX12_held : MethodName := ⟨RX12, "held", "(I)I"⟩
abbrev cX12_warm : ByteArray := prog_14_method_26_code
def yX12_warm : MethodName := ⟨RX12, "warm", "(I)I"⟩
abbrev cX12_noise : ByteArray := prog_14_method_27_code
def yX12_noise : MethodName := ⟨RX12, "noise", "(II)I"⟩
abbrev cX12_seed : ByteArray := prog_14_method_28_code
def yX12_seed : MethodName := ⟨RX12, "seed", "(I)I"⟩
abbrev cX12_isBound : ByteArray := prog_14_method_29_code
def yX12_isBound : MethodName := ⟨RX12, "isBound", "(II)Z"⟩
abbrev cX12_bound : ByteArray := prog_14_method_30_code
def yX12_bound : MethodName := ⟨RX12, "bound", "(II)I"⟩
abbrev cX12_settle : ByteArray := prog_14_method_31_code
def yX12_settle : MethodName := ⟨RX12, "settle", "()I"⟩
abbrev cX12_feltOf : ByteArray := prog_14_method_32_code
def yX12_feltOf : MethodName := ⟨RX12, "feltOf", "(II)I"⟩
abbrev cX12_feltAll : ByteArray := prog_14_method_33_code
def yX12_feltAll : MethodName := ⟨RX12, "feltAll", "(I)I"⟩
abbrev cX12_draw : ByteArray := prog_14_method_34_code
def yX12_draw : MethodName := ⟨RX12, "draw", "(I)I"⟩
abbrev cX12_layRaw : ByteArray := prog_14_method_35_code
def yX12_layRaw : MethodName := ⟨RX12, "layRaw", "()V"⟩
abbrev cX12_beside : ByteArray := prog_14_method_36_code
def yX12_beside : MethodName := ⟨RX12, "beside", "(II)I"⟩
abbrev cX12_isTouched : ByteArray := prog_14_method_37_code
def yX12_isTouched : MethodName := ⟨RX12, "isTouched", "(I)Z"⟩
abbrev cX12_isNearTouched : ByteArray := prog_14_method_38_code
def yX12_isNearTouched : MethodName := ⟨RX12, "isNearTouched", "(I)Z"⟩
abbrev cX12_spanOf : ByteArray := prog_14_method_39_code
def yX12_spanOf : MethodName := ⟨RX12, "spanOf", "()I"⟩
abbrev cX12_higher : ByteArray := prog_14_method_40_code
def yX12_higher : MethodName := ⟨RX12, "higher", "(I)I"⟩
abbrev cX12_layTops : ByteArray := prog_14_method_41_code
def yX12_layTops : MethodName := ⟨RX12, "layTops", "()V"⟩
abbrev cX12_lesser : ByteArray := prog_14_method_42_code
def yX12_lesser : MethodName := ⟨RX12, "lesser", "(II)I"⟩
abbrev cX12_passOf : ByteArray := prog_14_method_43_code
def yX12_passOf : MethodName := ⟨RX12, "passOf", "(II)I"⟩
abbrev cX12_isTop : ByteArray := prog_14_method_44_code
def yX12_isTop : MethodName := ⟨RX12, "isTop", "(I)Z"⟩
abbrev cX12_isJoined : ByteArray := prog_14_method_45_code
def yX12_isJoined : MethodName := ⟨RX12, "isJoined", "(III)Z"⟩
abbrev cX12_joinOnce : ByteArray := prog_14_method_46_code
def yX12_joinOnce : MethodName := ⟨RX12, "joinOnce", "()Z"⟩
abbrev cX12_layHills : ByteArray := prog_14_method_47_code
def yX12_layHills : MethodName := ⟨RX12, "layHills", "()V"⟩
abbrev cX12_massOf : ByteArray := prog_14_method_48_code
def yX12_massOf : MethodName := ⟨RX12, "massOf", "(I)I"⟩
abbrev cX12_sizeOf : ByteArray := prog_14_method_49_code
def yX12_sizeOf : MethodName := ⟨RX12, "sizeOf", "(I)I"⟩
abbrev cX12_isHigh : ByteArray := prog_14_method_50_code
def yX12_isHigh : MethodName := ⟨RX12, "isHigh", "(I)Z"⟩
abbrev cX12_aheadOf : ByteArray := prog_14_method_51_code
def yX12_aheadOf : MethodName := ⟨RX12, "aheadOf", "(I)I"⟩
abbrev cX12_laySpot : ByteArray := prog_14_method_52_code
def yX12_laySpot : MethodName := ⟨RX12, "laySpot", "(I)V"⟩
abbrev cX12_laySpots : ByteArray := prog_14_method_53_code
def yX12_laySpots : MethodName := ⟨RX12, "laySpots", "()V"⟩
abbrev cX12_isNear : ByteArray := prog_14_method_54_code
def yX12_isNear : MethodName := ⟨RX12, "isNear", "(II)Z"⟩
abbrev cX12_pairCost : ByteArray := prog_14_method_55_code
def yX12_pairCost : MethodName := ⟨RX12, "pairCost", "(II)I"⟩
abbrev cX12_isBetter : ByteArray := prog_14_method_56_code
def yX12_isBetter : MethodName := ⟨RX12, "isBetter", "(III)Z"⟩
abbrev cX12_layPairsOf : ByteArray := prog_14_method_57_code
def yX12_layPairsOf : MethodName := ⟨RX12, "layPairsOf", "(II)V"⟩
abbrev cX12_isBestPair : ByteArray := prog_14_method_58_code
def yX12_isBestPair : MethodName := ⟨RX12, "isBestPair", "(III)Z"⟩
abbrev cX12_layPairs : ByteArray := prog_14_method_59_code
def yX12_layPairs : MethodName := ⟨RX12, "layPairs", "()V"⟩
abbrev cX12_happens : ByteArray := prog_14_method_60_code
def yX12_happens : MethodName := ⟨RX12, "happens", "(II)V"⟩
abbrev cX12_follow : ByteArray := prog_14_method_61_code
def yX12_follow : MethodName := ⟨RX12, "follow", "(II)V"⟩
abbrev cX12_lay : ByteArray := prog_14_method_62_code
def yX12_lay : MethodName := ⟨RX12, "lay", "(II)V"⟩
abbrev cX12_isLost : ByteArray := prog_14_method_63_code
def yX12_isLost : MethodName := ⟨RX12, "isLost", "(I)Z"⟩
abbrev cX12_keepAs : ByteArray := prog_14_method_64_code
def yX12_keepAs : MethodName := ⟨RX12, "keepAs", "(II)V"⟩
abbrev cX12_followAll : ByteArray := prog_14_method_65_code
def yX12_followAll : MethodName := ⟨RX12, "followAll", "()V"⟩
abbrev cX12_beginAll : ByteArray := prog_14_method_66_code
def yX12_beginAll : MethodName := ⟨RX12, "beginAll", "()V"⟩
abbrev cX12_isNearSpot : ByteArray := prog_14_method_67_code
def yX12_isNearSpot : MethodName := ⟨RX12, "isNearSpot", "(I)Z"⟩
abbrev cX12_drift : ByteArray := prog_14_method_68_code
def yX12_drift : MethodName := ⟨RX12, "drift", "()V"⟩
abbrev cX12_frame : ByteArray := prog_14_method_69_code
def yX12_frame : MethodName := ⟨RX12, "frame", "()V"⟩
abbrev cX12_eventsAll : ByteArray := prog_14_method_70_code
def yX12_eventsAll : MethodName := ⟨RX12, "eventsAll", "()I"⟩
abbrev cX12_frames : ByteArray := prog_14_method_71_code
def yX12_frames : MethodName := ⟨RX12, "frames", "(I)I"⟩
abbrev cX12_fingerNow : ByteArray := prog_14_method_72_code
def yX12_fingerNow : MethodName := ⟨RX12, "fingerNow", "(II)I"⟩
abbrev cX12_finger : ByteArray := prog_14_method_73_code
def yX12_finger : MethodName := ⟨RX12, "finger", "(II)I"⟩
abbrev cX12_cellNow : ByteArray := prog_14_method_74_code
def yX12_cellNow : MethodName := ⟨RX12, "cellNow", "(II)I"⟩
abbrev cX12_cell : ByteArray := prog_14_method_75_code
def yX12_cell : MethodName := ⟨RX12, "cell", "(II)I"⟩
abbrev cX12_aboutNow : ByteArray := prog_14_method_76_code
def yX12_aboutNow : MethodName := ⟨RX12, "aboutNow", "(I)I"⟩
abbrev cX12_about : ByteArray := prog_14_method_77_code
def yX12_about : MethodName := ⟨RX12, "about", "(I)I"⟩
abbrev cX12_spotNow : ByteArray := prog_14_method_78_code
def yX12_spotNow : MethodName := ⟨RX12, "spotNow", "(II)I"⟩
abbrev cX12_spot : ByteArray := prog_14_method_79_code
def yX12_spot : MethodName := ⟨RX12, "spot", "(II)I"⟩
abbrev cX12_trackNow : ByteArray := prog_14_method_80_code
def yX12_trackNow : MethodName := ⟨RX12, "trackNow", "(II)I"⟩
abbrev cX12_isTrack : ByteArray := prog_14_method_81_code
def yX12_isTrack : MethodName := ⟨RX12, "isTrack", "(I)Z"⟩
abbrev cX12_track : ByteArray := prog_14_method_82_code
def yX12_track : MethodName := ⟨RX12, "track", "(II)I"⟩
abbrev cX12_as : ByteArray := prog_14_method_83_code
def yX12_as : MethodName := ⟨RX12, "as", "(II)I"⟩
abbrev cX12_event : ByteArray := prog_14_method_84_code
def yX12_event : MethodName := ⟨RX12, "event", "(II)I"⟩
abbrev cX12_eventNow : ByteArray := prog_14_method_85_code
def yX12_eventNow : MethodName := ⟨RX12, "eventNow", "(II)I"⟩
abbrev cX12_howMany : ByteArray := prog_14_method_86_code
def yX12_howMany : MethodName := ⟨RX12, "howMany", "(I)I"⟩
abbrev cX12_count : ByteArray := prog_14_method_87_code
def yX12_count : MethodName := ⟨RX12, "count", "(I)I"⟩
abbrev cX12_events : ByteArray := prog_14_method_88_code
def yX12_events : MethodName := ⟨RX12, "events", "(I)I"⟩
abbrev cX12_mix : ByteArray := prog_14_method_89_code
def yX12_mix : MethodName := ⟨RX12, "mix", "(J)V"⟩
abbrev cX12_mixGlass : ByteArray := prog_14_method_90_code
def yX12_mixGlass : MethodName := ⟨RX12, "mixGlass", "()V"⟩
abbrev cX12_digest : ByteArray := prog_14_method_91_code
def yX12_digest : MethodName := ⟨RX12, "digest", "()J"⟩
def RJ9 : String := "java/lang/Math"
def TJ9 : u_T := fun k => match k with
  | _ => ("", "", "", false)
def tyJ9 : Nat → FieldType := fun k => match k with
  | _ => .int
abbrev wsJ90 : List Cond := u_ws RJ9 TJ9 0
theorem nmJ9 : ∀ a, a < 0 → ∀ b, b < 0 → a ≠ b → (TJ9 a).2.1 ≠ (TJ9 b).2.1 := by decide +kernel
theorem tyJ9_ok : ∀ k, k < 0 → parseFieldDescriptor (TJ9 k).2.2.1 = some (tyJ9 k) := by decide +kernel
abbrev cJ9_floorMod_7cf53 : ByteArray := prog_15_method_50_code
def yJ9_floorMod_7cf53 : MethodName := ⟨RJ9, "floorMod", "(II)I"⟩
abbrev cJ9_abs_0f7a4 : ByteArray := prog_15_method_59_code
def yJ9_abs_0f7a4 : MethodName := ⟨RJ9, "abs", "(I)I"⟩
abbrev cJ9_max_7cf53 : ByteArray := prog_15_method_65_code
def yJ9_max_7cf53 : MethodName := ⟨RJ9, "max", "(II)I"⟩
abbrev cJ9_min_7cf53 : ByteArray := prog_15_method_69_code
def yJ9_min_7cf53 : MethodName := ⟨RJ9, "min", "(II)I"⟩
def RJ10 : String := "java/lang/System"
def TJ10 : u_T := fun k => match k with
  | _ => ("", "", "", false)
def tyJ10 : Nat → FieldType := fun k => match k with
  | _ => .int
abbrev wsJ100 : List Cond := u_ws RJ10 TJ10 0
theorem nmJ10 : ∀ a, a < 0 → ∀ b, b < 0 → a ≠ b → (TJ10 a).2.1 ≠ (TJ10 b).2.1 := by decide +kernel
theorem tyJ10_ok : ∀ k, k < 0 → parseFieldDescriptor (TJ10 k).2.2.1 = some (tyJ10 k) := by decide +kernel
def RJ7 : String := "java/util/Arrays"
def TJ7 : u_T := fun k => match k with
  | _ => ("", "", "", false)
def tyJ7 : Nat → FieldType := fun k => match k with
  | _ => .int
abbrev wsJ70 : List Cond := u_ws RJ7 TJ7 0
theorem nmJ7 : ∀ a, a < 0 → ∀ b, b < 0 → a ≠ b → (TJ7 a).2.1 ≠ (TJ7 b).2.1 := by decide +kernel
theorem tyJ7_ok : ∀ k, k < 0 → parseFieldDescriptor (TJ7 k).2.2.1 = some (tyJ7 k) := by decide +kernel
abbrev cJ7_fill_53178 : ByteArray := prog_17_method_103_code
def yJ7_fill_53178 : MethodName := ⟨RJ7, "fill", "([II)V"⟩
def RL : String := "FeltGlassLaw"
abbrev cL_law : ByteArray := code
def yL_law : MethodName := ⟨RL, "law", "([I)Z"⟩
abbrev vwCl : List vw_C := [(RX0, TX0, 3), (RX1, TX1, 7), (RX2, TX2, 4), (RX3, TX3, 7), (RX4, TX4, 5), (RX5, TX5, 6), (RX6, TX6, 4), (RX7, TX7, 15), (RX8, TX8, 11), (RX9, TX9, 7), (RX10, TX10, 5), (RX11, TX11, 5), (RX12, TX12, 58)]
