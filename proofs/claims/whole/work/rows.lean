section
-- ===== PART A: goes FIRST, ahead of the names: the tables' words, and 'selects' of the private methods out of them =====
/-- a private method of a class that the tables say can be made, by its rows of tables_1 -/
def lw_okq (q : MethodName × Nat) : Prop := (q.1.cls ≠ "java/lang/invoke/MethodHandle" ∧ q.1.cls ≠ "java/lang/invoke/VarHandle") ∧ Cond.instantiable q.1.cls q.2 ∈ tables_1 ∧ Cond.privateMethod q.1 ∈ tables_1 ∧ Cond.instanceMethod q.1 ∈ tables_1
theorem lw_p0 : lw_okq (⟨"FeltGlass$Page", "readPart", "()Z"⟩, 6) := ⟨⟨by decide +kernel, by decide +kernel⟩, List.mem_of_getElem? (i := 26) (by decide +kernel), List.mem_of_getElem? (i := 438) (by decide +kernel), List.mem_of_getElem? (i := 439) (by decide +kernel)⟩
theorem lw_p1 : lw_okq (⟨"FeltGlass$Page", "digitHere", "()I"⟩, 6) := ⟨⟨by decide +kernel, by decide +kernel⟩, List.mem_of_getElem? (i := 26) (by decide +kernel), List.mem_of_getElem? (i := 442) (by decide +kernel), List.mem_of_getElem? (i := 443) (by decide +kernel)⟩
theorem lw_p2 : lw_okq (⟨"FeltGlass$Page", "codeHere", "()I"⟩, 6) := ⟨⟨by decide +kernel, by decide +kernel⟩, List.mem_of_getElem? (i := 26) (by decide +kernel), List.mem_of_getElem? (i := 446) (by decide +kernel), List.mem_of_getElem? (i := 447) (by decide +kernel)⟩
theorem lw_p3 : lw_okq (⟨"FeltGlass$Page", "take", "(C)Z"⟩, 6) := ⟨⟨by decide +kernel, by decide +kernel⟩, List.mem_of_getElem? (i := 26) (by decide +kernel), List.mem_of_getElem? (i := 451) (by decide +kernel), List.mem_of_getElem? (i := 452) (by decide +kernel)⟩
theorem lw_p4 : lw_okq (⟨"FeltGlass$Page", "readPlace", "(I)Z"⟩, 6) := ⟨⟨by decide +kernel, by decide +kernel⟩, List.mem_of_getElem? (i := 26) (by decide +kernel), List.mem_of_getElem? (i := 455) (by decide +kernel), List.mem_of_getElem? (i := 456) (by decide +kernel)⟩
theorem lw_p5 : lw_okq (⟨"FeltGlass$Page", "readNumber", "(II)I"⟩, 6) := ⟨⟨by decide +kernel, by decide +kernel⟩, List.mem_of_getElem? (i := 26) (by decide +kernel), List.mem_of_getElem? (i := 459) (by decide +kernel), List.mem_of_getElem? (i := 460) (by decide +kernel)⟩
theorem lw_p6 : lw_okq (⟨"FeltGlass$Grid", "listAround", "(II)V"⟩, 7) := ⟨⟨by decide +kernel, by decide +kernel⟩, List.mem_of_getElem? (i := 107) (by decide +kernel), List.mem_of_getElem? (i := 499) (by decide +kernel), List.mem_of_getElem? (i := 500) (by decide +kernel)⟩
theorem lw_p7 : lw_okq (⟨"FeltGlass$Drives", "drawBelow", "(I)I"⟩, 3) := ⟨⟨by decide +kernel, by decide +kernel⟩, List.mem_of_getElem? (i := 151) (by decide +kernel), List.mem_of_getElem? (i := 596) (by decide +kernel), List.mem_of_getElem? (i := 597) (by decide +kernel)⟩
theorem lw_p8 : lw_okq (⟨"FeltGlass$Hills", "findPeaks", "(LFeltGlass$Surface;)V"⟩, 7) := ⟨⟨by decide +kernel, by decide +kernel⟩, List.mem_of_getElem? (i := 227) (by decide +kernel), List.mem_of_getElem? (i := 624) (by decide +kernel), List.mem_of_getElem? (i := 625) (by decide +kernel)⟩
theorem lw_p9 : lw_okq (⟨"FeltGlass$Hills", "steepest", "(I[I)I"⟩, 7) := ⟨⟨by decide +kernel, by decide +kernel⟩, List.mem_of_getElem? (i := 227) (by decide +kernel), List.mem_of_getElem? (i := 628) (by decide +kernel), List.mem_of_getElem? (i := 629) (by decide +kernel)⟩
theorem lw_p10 : lw_okq (⟨"FeltGlass$Hills", "gatherCells", "([Z)V"⟩, 7) := ⟨⟨by decide +kernel, by decide +kernel⟩, List.mem_of_getElem? (i := 227) (by decide +kernel), List.mem_of_getElem? (i := 633) (by decide +kernel), List.mem_of_getElem? (i := 634) (by decide +kernel)⟩
theorem lw_p11 : lw_okq (⟨"FeltGlass$Hills", "findPasses", "([I)V"⟩, 7) := ⟨⟨by decide +kernel, by decide +kernel⟩, List.mem_of_getElem? (i := 227) (by decide +kernel), List.mem_of_getElem? (i := 637) (by decide +kernel), List.mem_of_getElem? (i := 638) (by decide +kernel)⟩
theorem lw_p12 : lw_okq (⟨"FeltGlass$Hills", "raisePass", "(III)V"⟩, 7) := ⟨⟨by decide +kernel, by decide +kernel⟩, List.mem_of_getElem? (i := 227) (by decide +kernel), List.mem_of_getElem? (i := 643) (by decide +kernel), List.mem_of_getElem? (i := 644) (by decide +kernel)⟩
theorem lw_p13 : lw_okq (⟨"FeltGlass$Hills", "mergeBestPair", "([II)Z"⟩, 7) := ⟨⟨by decide +kernel, by decide +kernel⟩, List.mem_of_getElem? (i := 227) (by decide +kernel), List.mem_of_getElem? (i := 648) (by decide +kernel), List.mem_of_getElem? (i := 649) (by decide +kernel)⟩
theorem lw_p14 : lw_okq (⟨"FeltGlass$Hills", "canMerge", "(II[II)Z"⟩, 7) := ⟨⟨by decide +kernel, by decide +kernel⟩, List.mem_of_getElem? (i := 227) (by decide +kernel), List.mem_of_getElem? (i := 652) (by decide +kernel), List.mem_of_getElem? (i := 653) (by decide +kernel)⟩
theorem lw_p15 : lw_okq (⟨"FeltGlass$Hills", "merge", "(II)V"⟩, 7) := ⟨⟨by decide +kernel, by decide +kernel⟩, List.mem_of_getElem? (i := 227) (by decide +kernel), List.mem_of_getElem? (i := 656) (by decide +kernel), List.mem_of_getElem? (i := 657) (by decide +kernel)⟩
def lw_privs_1 : List (MethodName × Nat) := [(⟨"FeltGlass$Page", "readPart", "()Z"⟩, 6), (⟨"FeltGlass$Page", "digitHere", "()I"⟩, 6), (⟨"FeltGlass$Page", "codeHere", "()I"⟩, 6), (⟨"FeltGlass$Page", "take", "(C)Z"⟩, 6), (⟨"FeltGlass$Page", "readPlace", "(I)Z"⟩, 6), (⟨"FeltGlass$Page", "readNumber", "(II)I"⟩, 6), (⟨"FeltGlass$Grid", "listAround", "(II)V"⟩, 7), (⟨"FeltGlass$Drives", "drawBelow", "(I)I"⟩, 3), (⟨"FeltGlass$Hills", "findPeaks", "(LFeltGlass$Surface;)V"⟩, 7), (⟨"FeltGlass$Hills", "steepest", "(I[I)I"⟩, 7), (⟨"FeltGlass$Hills", "gatherCells", "([Z)V"⟩, 7), (⟨"FeltGlass$Hills", "findPasses", "([I)V"⟩, 7), (⟨"FeltGlass$Hills", "raisePass", "(III)V"⟩, 7), (⟨"FeltGlass$Hills", "mergeBestPair", "([II)Z"⟩, 7), (⟨"FeltGlass$Hills", "canMerge", "(II[II)Z"⟩, 7), (⟨"FeltGlass$Hills", "merge", "(II)V"⟩, 7)]
theorem lw_r1 : ∀ q ∈ lw_privs_1, lw_okq q := List.forall_mem_cons.mpr ⟨lw_p0, List.forall_mem_cons.mpr ⟨lw_p1, List.forall_mem_cons.mpr ⟨lw_p2, List.forall_mem_cons.mpr ⟨lw_p3, List.forall_mem_cons.mpr ⟨lw_p4, List.forall_mem_cons.mpr ⟨lw_p5, List.forall_mem_cons.mpr ⟨lw_p6, List.forall_mem_cons.mpr ⟨lw_p7, List.forall_mem_cons.mpr ⟨lw_p8, List.forall_mem_cons.mpr ⟨lw_p9, List.forall_mem_cons.mpr ⟨lw_p10, List.forall_mem_cons.mpr ⟨lw_p11, List.forall_mem_cons.mpr ⟨lw_p12, List.forall_mem_cons.mpr ⟨lw_p13, List.forall_mem_cons.mpr ⟨lw_p14, List.forall_mem_cons.mpr ⟨lw_p15, fun _ h => absurd h List.not_mem_nil⟩⟩⟩⟩⟩⟩⟩⟩⟩⟩⟩⟩⟩⟩⟩⟩
theorem lw_p16 : lw_okq (⟨"FeltGlass$Spots", "weigh", "(LFeltGlass$Hills;[I)V"⟩, 11) := ⟨⟨by decide +kernel, by decide +kernel⟩, List.mem_of_getElem? (i := 259) (by decide +kernel), List.mem_of_getElem? (i := 664) (by decide +kernel), List.mem_of_getElem? (i := 665) (by decide +kernel)⟩
theorem lw_p17 : lw_okq (⟨"FeltGlass$Spots", "dropLightest", "(I)V"⟩, 11) := ⟨⟨by decide +kernel, by decide +kernel⟩, List.mem_of_getElem? (i := 259) (by decide +kernel), List.mem_of_getElem? (i := 668) (by decide +kernel), List.mem_of_getElem? (i := 669) (by decide +kernel)⟩
theorem lw_p18 : lw_okq (⟨"FeltGlass$Spots", "numberHills", "(LFeltGlass$Hills;)V"⟩, 11) := ⟨⟨by decide +kernel, by decide +kernel⟩, List.mem_of_getElem? (i := 259) (by decide +kernel), List.mem_of_getElem? (i := 672) (by decide +kernel), List.mem_of_getElem? (i := 673) (by decide +kernel)⟩
theorem lw_p19 : lw_okq (⟨"FeltGlass$Spots", "fillRow", "([III)V"⟩, 11) := ⟨⟨by decide +kernel, by decide +kernel⟩, List.mem_of_getElem? (i := 259) (by decide +kernel), List.mem_of_getElem? (i := 676) (by decide +kernel), List.mem_of_getElem? (i := 677) (by decide +kernel)⟩
theorem lw_p20 : lw_okq (⟨"FeltGlass$Spots", "markCells", "([I)V"⟩, 11) := ⟨⟨by decide +kernel, by decide +kernel⟩, List.mem_of_getElem? (i := 259) (by decide +kernel), List.mem_of_getElem? (i := 680) (by decide +kernel), List.mem_of_getElem? (i := 681) (by decide +kernel)⟩
theorem lw_p21 : lw_okq (⟨"FeltGlass$Pairing", "weighPairs", "(LFeltGlass$Tracks;LFeltGlass$Spots;I)V"⟩, 4) := ⟨⟨by decide +kernel, by decide +kernel⟩, List.mem_of_getElem? (i := 171) (by decide +kernel), List.mem_of_getElem? (i := 688) (by decide +kernel), List.mem_of_getElem? (i := 689) (by decide +kernel)⟩
theorem lw_p22 : lw_okq (⟨"FeltGlass$Pairing", "bestSpot", "(II)I"⟩, 4) := ⟨⟨by decide +kernel, by decide +kernel⟩, List.mem_of_getElem? (i := 171) (by decide +kernel), List.mem_of_getElem? (i := 696) (by decide +kernel), List.mem_of_getElem? (i := 697) (by decide +kernel)⟩
theorem lw_p23 : lw_okq (⟨"FeltGlass$Pairing", "worthOf", "(III)I"⟩, 4) := ⟨⟨by decide +kernel, by decide +kernel⟩, List.mem_of_getElem? (i := 171) (by decide +kernel), List.mem_of_getElem? (i := 700) (by decide +kernel), List.mem_of_getElem? (i := 701) (by decide +kernel)⟩
theorem lw_p24 : lw_okq (⟨"FeltGlass$Tracks", "miss", "([II)Z"⟩, 5) := ⟨⟨by decide +kernel, by decide +kernel⟩, List.mem_of_getElem? (i := 310) (by decide +kernel), List.mem_of_getElem? (i := 711) (by decide +kernel), List.mem_of_getElem? (i := 712) (by decide +kernel)⟩
theorem lw_p25 : lw_okq (⟨"FeltGlass$Tracks", "move", "([I[II)V"⟩, 5) := ⟨⟨by decide +kernel, by decide +kernel⟩, List.mem_of_getElem? (i := 310) (by decide +kernel), List.mem_of_getElem? (i := 720) (by decide +kernel), List.mem_of_getElem? (i := 721) (by decide +kernel)⟩
theorem lw_p26 : lw_okq (⟨"FeltGlass$Tracks", "takeOver", "([I[I)V"⟩, 5) := ⟨⟨by decide +kernel, by decide +kernel⟩, List.mem_of_getElem? (i := 310) (by decide +kernel), List.mem_of_getElem? (i := 725) (by decide +kernel), List.mem_of_getElem? (i := 726) (by decide +kernel)⟩
theorem lw_p27 : lw_okq (⟨"FeltGlass$Tracks", "isPalm", "([I)Z"⟩, 5) := ⟨⟨by decide +kernel, by decide +kernel⟩, List.mem_of_getElem? (i := 310) (by decide +kernel), List.mem_of_getElem? (i := 729) (by decide +kernel), List.mem_of_getElem? (i := 730) (by decide +kernel)⟩
theorem lw_p28 : lw_okq (⟨"FeltGlass$Tracks", "begin", "([I[I)V"⟩, 5) := ⟨⟨by decide +kernel, by decide +kernel⟩, List.mem_of_getElem? (i := 310) (by decide +kernel), List.mem_of_getElem? (i := 737) (by decide +kernel), List.mem_of_getElem? (i := 738) (by decide +kernel)⟩
theorem lw_p29 : lw_okq (⟨"FeltGlass", "hashPanelAndFingers", "(J)J"⟩, 5) := ⟨⟨by decide +kernel, by decide +kernel⟩, List.mem_of_getElem? (i := 18) (by decide +kernel), List.mem_of_getElem? (i := 818) (by decide +kernel), List.mem_of_getElem? (i := 819) (by decide +kernel)⟩
theorem lw_p30 : lw_okq (⟨"FeltGlass", "hashCells", "(J)J"⟩, 5) := ⟨⟨by decide +kernel, by decide +kernel⟩, List.mem_of_getElem? (i := 18) (by decide +kernel), List.mem_of_getElem? (i := 825) (by decide +kernel), List.mem_of_getElem? (i := 826) (by decide +kernel)⟩
theorem lw_p31 : lw_okq (⟨"FeltGlass", "hashSpots", "(J)J"⟩, 5) := ⟨⟨by decide +kernel, by decide +kernel⟩, List.mem_of_getElem? (i := 18) (by decide +kernel), List.mem_of_getElem? (i := 830) (by decide +kernel), List.mem_of_getElem? (i := 831) (by decide +kernel)⟩
def lw_privs_2 : List (MethodName × Nat) := [(⟨"FeltGlass$Spots", "weigh", "(LFeltGlass$Hills;[I)V"⟩, 11), (⟨"FeltGlass$Spots", "dropLightest", "(I)V"⟩, 11), (⟨"FeltGlass$Spots", "numberHills", "(LFeltGlass$Hills;)V"⟩, 11), (⟨"FeltGlass$Spots", "fillRow", "([III)V"⟩, 11), (⟨"FeltGlass$Spots", "markCells", "([I)V"⟩, 11), (⟨"FeltGlass$Pairing", "weighPairs", "(LFeltGlass$Tracks;LFeltGlass$Spots;I)V"⟩, 4), (⟨"FeltGlass$Pairing", "bestSpot", "(II)I"⟩, 4), (⟨"FeltGlass$Pairing", "worthOf", "(III)I"⟩, 4), (⟨"FeltGlass$Tracks", "miss", "([II)Z"⟩, 5), (⟨"FeltGlass$Tracks", "move", "([I[II)V"⟩, 5), (⟨"FeltGlass$Tracks", "takeOver", "([I[I)V"⟩, 5), (⟨"FeltGlass$Tracks", "isPalm", "([I)Z"⟩, 5), (⟨"FeltGlass$Tracks", "begin", "([I[I)V"⟩, 5), (⟨"FeltGlass", "hashPanelAndFingers", "(J)J"⟩, 5), (⟨"FeltGlass", "hashCells", "(J)J"⟩, 5), (⟨"FeltGlass", "hashSpots", "(J)J"⟩, 5)]
theorem lw_r2 : ∀ q ∈ lw_privs_2, lw_okq q := List.forall_mem_cons.mpr ⟨lw_p16, List.forall_mem_cons.mpr ⟨lw_p17, List.forall_mem_cons.mpr ⟨lw_p18, List.forall_mem_cons.mpr ⟨lw_p19, List.forall_mem_cons.mpr ⟨lw_p20, List.forall_mem_cons.mpr ⟨lw_p21, List.forall_mem_cons.mpr ⟨lw_p22, List.forall_mem_cons.mpr ⟨lw_p23, List.forall_mem_cons.mpr ⟨lw_p24, List.forall_mem_cons.mpr ⟨lw_p25, List.forall_mem_cons.mpr ⟨lw_p26, List.forall_mem_cons.mpr ⟨lw_p27, List.forall_mem_cons.mpr ⟨lw_p28, List.forall_mem_cons.mpr ⟨lw_p29, List.forall_mem_cons.mpr ⟨lw_p30, List.forall_mem_cons.mpr ⟨lw_p31, fun _ h => absurd h List.not_mem_nil⟩⟩⟩⟩⟩⟩⟩⟩⟩⟩⟩⟩⟩⟩⟩⟩
theorem lw_p32 : lw_okq (⟨"FeltGlass", "hashTracks", "(J)J"⟩, 5) := ⟨⟨by decide +kernel, by decide +kernel⟩, List.mem_of_getElem? (i := 18) (by decide +kernel), List.mem_of_getElem? (i := 835) (by decide +kernel), List.mem_of_getElem? (i := 836) (by decide +kernel)⟩
theorem lw_p33 : lw_okq (⟨"FeltGlass", "hashJournal", "(J)J"⟩, 5) := ⟨⟨by decide +kernel, by decide +kernel⟩, List.mem_of_getElem? (i := 18) (by decide +kernel), List.mem_of_getElem? (i := 840) (by decide +kernel), List.mem_of_getElem? (i := 841) (by decide +kernel)⟩
theorem lw_p34 : lw_okq (⟨"FeltGlassModel", "isGlass", "()Z"⟩, 58) := ⟨⟨by decide +kernel, by decide +kernel⟩, List.mem_of_getElem? (i := 847) (by decide +kernel), List.mem_of_getElem? (i := 1043) (by decide +kernel), List.mem_of_getElem? (i := 1044) (by decide +kernel)⟩
theorem lw_p35 : lw_okq (⟨"FeltGlassModel", "goAlong", "(Z)I"⟩, 58) := ⟨⟨by decide +kernel, by decide +kernel⟩, List.mem_of_getElem? (i := 847) (by decide +kernel), List.mem_of_getElem? (i := 1047) (by decide +kernel), List.mem_of_getElem? (i := 1048) (by decide +kernel)⟩
theorem lw_p36 : lw_okq (⟨"FeltGlassModel", "takes", "(I)Z"⟩, 58) := ⟨⟨by decide +kernel, by decide +kernel⟩, List.mem_of_getElem? (i := 847) (by decide +kernel), List.mem_of_getElem? (i := 1051) (by decide +kernel), List.mem_of_getElem? (i := 1052) (by decide +kernel)⟩
theorem lw_p37 : lw_okq (⟨"FeltGlassModel", "takesDigit", "(I)Z"⟩, 58) := ⟨⟨by decide +kernel, by decide +kernel⟩, List.mem_of_getElem? (i := 847) (by decide +kernel), List.mem_of_getElem? (i := 1055) (by decide +kernel), List.mem_of_getElem? (i := 1056) (by decide +kernel)⟩
theorem lw_p38 : lw_okq (⟨"FeltGlassModel", "goes", "(ZI)Z"⟩, 58) := ⟨⟨by decide +kernel, by decide +kernel⟩, List.mem_of_getElem? (i := 847) (by decide +kernel), List.mem_of_getElem? (i := 1059) (by decide +kernel), List.mem_of_getElem? (i := 1060) (by decide +kernel)⟩
theorem lw_p39 : lw_okq (⟨"FeltGlassModel", "takesKind", "(I)Z"⟩, 58) := ⟨⟨by decide +kernel, by decide +kernel⟩, List.mem_of_getElem? (i := 847) (by decide +kernel), List.mem_of_getElem? (i := 1063) (by decide +kernel), List.mem_of_getElem? (i := 1064) (by decide +kernel)⟩
theorem lw_p40 : lw_okq (⟨"FeltGlassModel", "takesFigure", "(I)Z"⟩, 58) := ⟨⟨by decide +kernel, by decide +kernel⟩, List.mem_of_getElem? (i := 847) (by decide +kernel), List.mem_of_getElem? (i := 1067) (by decide +kernel), List.mem_of_getElem? (i := 1068) (by decide +kernel)⟩
theorem lw_p41 : lw_okq (⟨"FeltGlassModel", "mostNow", "()I"⟩, 58) := ⟨⟨by decide +kernel, by decide +kernel⟩, List.mem_of_getElem? (i := 847) (by decide +kernel), List.mem_of_getElem? (i := 1071) (by decide +kernel), List.mem_of_getElem? (i := 1072) (by decide +kernel)⟩
theorem lw_p42 : lw_okq (⟨"FeltGlassModel", "takesSign", "(I)Z"⟩, 58) := ⟨⟨by decide +kernel, by decide +kernel⟩, List.mem_of_getElem? (i := 847) (by decide +kernel), List.mem_of_getElem? (i := 1075) (by decide +kernel), List.mem_of_getElem? (i := 1076) (by decide +kernel)⟩
theorem lw_p43 : lw_okq (⟨"FeltGlassModel", "putOn", "(I)V"⟩, 58) := ⟨⟨by decide +kernel, by decide +kernel⟩, List.mem_of_getElem? (i := 847) (by decide +kernel), List.mem_of_getElem? (i := 1079) (by decide +kernel), List.mem_of_getElem? (i := 1080) (by decide +kernel)⟩
theorem lw_p44 : lw_okq (⟨"FeltGlassModel", "onMany", "()I"⟩, 58) := ⟨⟨by decide +kernel, by decide +kernel⟩, List.mem_of_getElem? (i := 847) (by decide +kernel), List.mem_of_getElem? (i := 1087) (by decide +kernel), List.mem_of_getElem? (i := 1088) (by decide +kernel)⟩
theorem lw_p45 : lw_okq (⟨"FeltGlassModel", "layBounds", "()V"⟩, 58) := ⟨⟨by decide +kernel, by decide +kernel⟩, List.mem_of_getElem? (i := 847) (by decide +kernel), List.mem_of_getElem? (i := 1095) (by decide +kernel), List.mem_of_getElem? (i := 1096) (by decide +kernel)⟩
theorem lw_p46 : lw_okq (⟨"FeltGlassModel", "cells", "()I"⟩, 58) := ⟨⟨by decide +kernel, by decide +kernel⟩, List.mem_of_getElem? (i := 847) (by decide +kernel), List.mem_of_getElem? (i := 1099) (by decide +kernel), List.mem_of_getElem? (i := 1100) (by decide +kernel)⟩
theorem lw_p47 : lw_okq (⟨"FeltGlassModel", "isCell", "(I)Z"⟩, 58) := ⟨⟨by decide +kernel, by decide +kernel⟩, List.mem_of_getElem? (i := 847) (by decide +kernel), List.mem_of_getElem? (i := 1107) (by decide +kernel), List.mem_of_getElem? (i := 1108) (by decide +kernel)⟩
def lw_privs_3 : List (MethodName × Nat) := [(⟨"FeltGlass", "hashTracks", "(J)J"⟩, 5), (⟨"FeltGlass", "hashJournal", "(J)J"⟩, 5), (⟨"FeltGlassModel", "isGlass", "()Z"⟩, 58), (⟨"FeltGlassModel", "goAlong", "(Z)I"⟩, 58), (⟨"FeltGlassModel", "takes", "(I)Z"⟩, 58), (⟨"FeltGlassModel", "takesDigit", "(I)Z"⟩, 58), (⟨"FeltGlassModel", "goes", "(ZI)Z"⟩, 58), (⟨"FeltGlassModel", "takesKind", "(I)Z"⟩, 58), (⟨"FeltGlassModel", "takesFigure", "(I)Z"⟩, 58), (⟨"FeltGlassModel", "mostNow", "()I"⟩, 58), (⟨"FeltGlassModel", "takesSign", "(I)Z"⟩, 58), (⟨"FeltGlassModel", "putOn", "(I)V"⟩, 58), (⟨"FeltGlassModel", "onMany", "()I"⟩, 58), (⟨"FeltGlassModel", "layBounds", "()V"⟩, 58), (⟨"FeltGlassModel", "cells", "()I"⟩, 58), (⟨"FeltGlassModel", "isCell", "(I)Z"⟩, 58)]
theorem lw_r3 : ∀ q ∈ lw_privs_3, lw_okq q := List.forall_mem_cons.mpr ⟨lw_p32, List.forall_mem_cons.mpr ⟨lw_p33, List.forall_mem_cons.mpr ⟨lw_p34, List.forall_mem_cons.mpr ⟨lw_p35, List.forall_mem_cons.mpr ⟨lw_p36, List.forall_mem_cons.mpr ⟨lw_p37, List.forall_mem_cons.mpr ⟨lw_p38, List.forall_mem_cons.mpr ⟨lw_p39, List.forall_mem_cons.mpr ⟨lw_p40, List.forall_mem_cons.mpr ⟨lw_p41, List.forall_mem_cons.mpr ⟨lw_p42, List.forall_mem_cons.mpr ⟨lw_p43, List.forall_mem_cons.mpr ⟨lw_p44, List.forall_mem_cons.mpr ⟨lw_p45, List.forall_mem_cons.mpr ⟨lw_p46, List.forall_mem_cons.mpr ⟨lw_p47, fun _ h => absurd h List.not_mem_nil⟩⟩⟩⟩⟩⟩⟩⟩⟩⟩⟩⟩⟩⟩⟩⟩
theorem lw_p48 : lw_okq (⟨"FeltGlassModel", "eventsAll", "()I"⟩, 58) := ⟨⟨by decide +kernel, by decide +kernel⟩, List.mem_of_getElem? (i := 847) (by decide +kernel), List.mem_of_getElem? (i := 1141) (by decide +kernel), List.mem_of_getElem? (i := 1142) (by decide +kernel)⟩
theorem lw_p49 : lw_okq (⟨"FeltGlassModel", "frame", "()V"⟩, 58) := ⟨⟨by decide +kernel, by decide +kernel⟩, List.mem_of_getElem? (i := 847) (by decide +kernel), List.mem_of_getElem? (i := 1145) (by decide +kernel), List.mem_of_getElem? (i := 1146) (by decide +kernel)⟩
theorem lw_p50 : lw_okq (⟨"FeltGlassModel", "layRaw", "()V"⟩, 58) := ⟨⟨by decide +kernel, by decide +kernel⟩, List.mem_of_getElem? (i := 847) (by decide +kernel), List.mem_of_getElem? (i := 1149) (by decide +kernel), List.mem_of_getElem? (i := 1150) (by decide +kernel)⟩
theorem lw_p51 : lw_okq (⟨"FeltGlassModel", "feltAll", "(I)I"⟩, 58) := ⟨⟨by decide +kernel, by decide +kernel⟩, List.mem_of_getElem? (i := 847) (by decide +kernel), List.mem_of_getElem? (i := 1153) (by decide +kernel), List.mem_of_getElem? (i := 1154) (by decide +kernel)⟩
theorem lw_p52 : lw_okq (⟨"FeltGlassModel", "feltOf", "(II)I"⟩, 58) := ⟨⟨by decide +kernel, by decide +kernel⟩, List.mem_of_getElem? (i := 847) (by decide +kernel), List.mem_of_getElem? (i := 1157) (by decide +kernel), List.mem_of_getElem? (i := 1158) (by decide +kernel)⟩
theorem lw_p53 : lw_okq (⟨"FeltGlassModel", "draw", "(I)I"⟩, 58) := ⟨⟨by decide +kernel, by decide +kernel⟩, List.mem_of_getElem? (i := 847) (by decide +kernel), List.mem_of_getElem? (i := 1161) (by decide +kernel), List.mem_of_getElem? (i := 1162) (by decide +kernel)⟩
theorem lw_p54 : lw_okq (⟨"FeltGlassModel", "spanOf", "()I"⟩, 58) := ⟨⟨by decide +kernel, by decide +kernel⟩, List.mem_of_getElem? (i := 847) (by decide +kernel), List.mem_of_getElem? (i := 1169) (by decide +kernel), List.mem_of_getElem? (i := 1170) (by decide +kernel)⟩
theorem lw_p55 : lw_okq (⟨"FeltGlassModel", "isNearTouched", "(I)Z"⟩, 58) := ⟨⟨by decide +kernel, by decide +kernel⟩, List.mem_of_getElem? (i := 847) (by decide +kernel), List.mem_of_getElem? (i := 1175) (by decide +kernel), List.mem_of_getElem? (i := 1176) (by decide +kernel)⟩
theorem lw_p56 : lw_okq (⟨"FeltGlassModel", "isTouched", "(I)Z"⟩, 58) := ⟨⟨by decide +kernel, by decide +kernel⟩, List.mem_of_getElem? (i := 847) (by decide +kernel), List.mem_of_getElem? (i := 1179) (by decide +kernel), List.mem_of_getElem? (i := 1180) (by decide +kernel)⟩
theorem lw_p57 : lw_okq (⟨"FeltGlassModel", "beside", "(II)I"⟩, 58) := ⟨⟨by decide +kernel, by decide +kernel⟩, List.mem_of_getElem? (i := 847) (by decide +kernel), List.mem_of_getElem? (i := 1183) (by decide +kernel), List.mem_of_getElem? (i := 1184) (by decide +kernel)⟩
theorem lw_p58 : lw_okq (⟨"FeltGlassModel", "layHills", "()V"⟩, 58) := ⟨⟨by decide +kernel, by decide +kernel⟩, List.mem_of_getElem? (i := 847) (by decide +kernel), List.mem_of_getElem? (i := 1187) (by decide +kernel), List.mem_of_getElem? (i := 1188) (by decide +kernel)⟩
theorem lw_p59 : lw_okq (⟨"FeltGlassModel", "layTops", "()V"⟩, 58) := ⟨⟨by decide +kernel, by decide +kernel⟩, List.mem_of_getElem? (i := 847) (by decide +kernel), List.mem_of_getElem? (i := 1191) (by decide +kernel), List.mem_of_getElem? (i := 1192) (by decide +kernel)⟩
theorem lw_p60 : lw_okq (⟨"FeltGlassModel", "higher", "(I)I"⟩, 58) := ⟨⟨by decide +kernel, by decide +kernel⟩, List.mem_of_getElem? (i := 847) (by decide +kernel), List.mem_of_getElem? (i := 1195) (by decide +kernel), List.mem_of_getElem? (i := 1196) (by decide +kernel)⟩
theorem lw_p61 : lw_okq (⟨"FeltGlassModel", "joinOnce", "()Z"⟩, 58) := ⟨⟨by decide +kernel, by decide +kernel⟩, List.mem_of_getElem? (i := 847) (by decide +kernel), List.mem_of_getElem? (i := 1199) (by decide +kernel), List.mem_of_getElem? (i := 1200) (by decide +kernel)⟩
theorem lw_p62 : lw_okq (⟨"FeltGlassModel", "isTop", "(I)Z"⟩, 58) := ⟨⟨by decide +kernel, by decide +kernel⟩, List.mem_of_getElem? (i := 847) (by decide +kernel), List.mem_of_getElem? (i := 1203) (by decide +kernel), List.mem_of_getElem? (i := 1204) (by decide +kernel)⟩
theorem lw_p63 : lw_okq (⟨"FeltGlassModel", "passOf", "(II)I"⟩, 58) := ⟨⟨by decide +kernel, by decide +kernel⟩, List.mem_of_getElem? (i := 847) (by decide +kernel), List.mem_of_getElem? (i := 1207) (by decide +kernel), List.mem_of_getElem? (i := 1208) (by decide +kernel)⟩
def lw_privs_4 : List (MethodName × Nat) := [(⟨"FeltGlassModel", "eventsAll", "()I"⟩, 58), (⟨"FeltGlassModel", "frame", "()V"⟩, 58), (⟨"FeltGlassModel", "layRaw", "()V"⟩, 58), (⟨"FeltGlassModel", "feltAll", "(I)I"⟩, 58), (⟨"FeltGlassModel", "feltOf", "(II)I"⟩, 58), (⟨"FeltGlassModel", "draw", "(I)I"⟩, 58), (⟨"FeltGlassModel", "spanOf", "()I"⟩, 58), (⟨"FeltGlassModel", "isNearTouched", "(I)Z"⟩, 58), (⟨"FeltGlassModel", "isTouched", "(I)Z"⟩, 58), (⟨"FeltGlassModel", "beside", "(II)I"⟩, 58), (⟨"FeltGlassModel", "layHills", "()V"⟩, 58), (⟨"FeltGlassModel", "layTops", "()V"⟩, 58), (⟨"FeltGlassModel", "higher", "(I)I"⟩, 58), (⟨"FeltGlassModel", "joinOnce", "()Z"⟩, 58), (⟨"FeltGlassModel", "isTop", "(I)Z"⟩, 58), (⟨"FeltGlassModel", "passOf", "(II)I"⟩, 58)]
theorem lw_r4 : ∀ q ∈ lw_privs_4, lw_okq q := List.forall_mem_cons.mpr ⟨lw_p48, List.forall_mem_cons.mpr ⟨lw_p49, List.forall_mem_cons.mpr ⟨lw_p50, List.forall_mem_cons.mpr ⟨lw_p51, List.forall_mem_cons.mpr ⟨lw_p52, List.forall_mem_cons.mpr ⟨lw_p53, List.forall_mem_cons.mpr ⟨lw_p54, List.forall_mem_cons.mpr ⟨lw_p55, List.forall_mem_cons.mpr ⟨lw_p56, List.forall_mem_cons.mpr ⟨lw_p57, List.forall_mem_cons.mpr ⟨lw_p58, List.forall_mem_cons.mpr ⟨lw_p59, List.forall_mem_cons.mpr ⟨lw_p60, List.forall_mem_cons.mpr ⟨lw_p61, List.forall_mem_cons.mpr ⟨lw_p62, List.forall_mem_cons.mpr ⟨lw_p63, fun _ h => absurd h List.not_mem_nil⟩⟩⟩⟩⟩⟩⟩⟩⟩⟩⟩⟩⟩⟩⟩⟩
theorem lw_p64 : lw_okq (⟨"FeltGlassModel", "isJoined", "(III)Z"⟩, 58) := ⟨⟨by decide +kernel, by decide +kernel⟩, List.mem_of_getElem? (i := 847) (by decide +kernel), List.mem_of_getElem? (i := 1214) (by decide +kernel), List.mem_of_getElem? (i := 1215) (by decide +kernel)⟩
theorem lw_p65 : lw_okq (⟨"FeltGlassModel", "laySpots", "()V"⟩, 58) := ⟨⟨by decide +kernel, by decide +kernel⟩, List.mem_of_getElem? (i := 847) (by decide +kernel), List.mem_of_getElem? (i := 1218) (by decide +kernel), List.mem_of_getElem? (i := 1219) (by decide +kernel)⟩
theorem lw_p66 : lw_okq (⟨"FeltGlassModel", "isHigh", "(I)Z"⟩, 58) := ⟨⟨by decide +kernel, by decide +kernel⟩, List.mem_of_getElem? (i := 847) (by decide +kernel), List.mem_of_getElem? (i := 1222) (by decide +kernel), List.mem_of_getElem? (i := 1223) (by decide +kernel)⟩
theorem lw_p67 : lw_okq (⟨"FeltGlassModel", "aheadOf", "(I)I"⟩, 58) := ⟨⟨by decide +kernel, by decide +kernel⟩, List.mem_of_getElem? (i := 847) (by decide +kernel), List.mem_of_getElem? (i := 1226) (by decide +kernel), List.mem_of_getElem? (i := 1227) (by decide +kernel)⟩
theorem lw_p68 : lw_okq (⟨"FeltGlassModel", "massOf", "(I)I"⟩, 58) := ⟨⟨by decide +kernel, by decide +kernel⟩, List.mem_of_getElem? (i := 847) (by decide +kernel), List.mem_of_getElem? (i := 1230) (by decide +kernel), List.mem_of_getElem? (i := 1231) (by decide +kernel)⟩
theorem lw_p69 : lw_okq (⟨"FeltGlassModel", "laySpot", "(I)V"⟩, 58) := ⟨⟨by decide +kernel, by decide +kernel⟩, List.mem_of_getElem? (i := 847) (by decide +kernel), List.mem_of_getElem? (i := 1234) (by decide +kernel), List.mem_of_getElem? (i := 1235) (by decide +kernel)⟩
theorem lw_p70 : lw_okq (⟨"FeltGlassModel", "sizeOf", "(I)I"⟩, 58) := ⟨⟨by decide +kernel, by decide +kernel⟩, List.mem_of_getElem? (i := 847) (by decide +kernel), List.mem_of_getElem? (i := 1238) (by decide +kernel), List.mem_of_getElem? (i := 1239) (by decide +kernel)⟩
theorem lw_p71 : lw_okq (⟨"FeltGlassModel", "layPairs", "()V"⟩, 58) := ⟨⟨by decide +kernel, by decide +kernel⟩, List.mem_of_getElem? (i := 847) (by decide +kernel), List.mem_of_getElem? (i := 1242) (by decide +kernel), List.mem_of_getElem? (i := 1243) (by decide +kernel)⟩
theorem lw_p72 : lw_okq (⟨"FeltGlassModel", "layPairsOf", "(II)V"⟩, 58) := ⟨⟨by decide +kernel, by decide +kernel⟩, List.mem_of_getElem? (i := 847) (by decide +kernel), List.mem_of_getElem? (i := 1246) (by decide +kernel), List.mem_of_getElem? (i := 1247) (by decide +kernel)⟩
theorem lw_p73 : lw_okq (⟨"FeltGlassModel", "isNear", "(II)Z"⟩, 58) := ⟨⟨by decide +kernel, by decide +kernel⟩, List.mem_of_getElem? (i := 847) (by decide +kernel), List.mem_of_getElem? (i := 1250) (by decide +kernel), List.mem_of_getElem? (i := 1251) (by decide +kernel)⟩
theorem lw_p74 : lw_okq (⟨"FeltGlassModel", "pairCost", "(II)I"⟩, 58) := ⟨⟨by decide +kernel, by decide +kernel⟩, List.mem_of_getElem? (i := 847) (by decide +kernel), List.mem_of_getElem? (i := 1257) (by decide +kernel), List.mem_of_getElem? (i := 1258) (by decide +kernel)⟩
theorem lw_p75 : lw_okq (⟨"FeltGlassModel", "isBetter", "(III)Z"⟩, 58) := ⟨⟨by decide +kernel, by decide +kernel⟩, List.mem_of_getElem? (i := 847) (by decide +kernel), List.mem_of_getElem? (i := 1261) (by decide +kernel), List.mem_of_getElem? (i := 1262) (by decide +kernel)⟩
theorem lw_p76 : lw_okq (⟨"FeltGlassModel", "isBestPair", "(III)Z"⟩, 58) := ⟨⟨by decide +kernel, by decide +kernel⟩, List.mem_of_getElem? (i := 847) (by decide +kernel), List.mem_of_getElem? (i := 1265) (by decide +kernel), List.mem_of_getElem? (i := 1266) (by decide +kernel)⟩
theorem lw_p77 : lw_okq (⟨"FeltGlassModel", "followAll", "()V"⟩, 58) := ⟨⟨by decide +kernel, by decide +kernel⟩, List.mem_of_getElem? (i := 847) (by decide +kernel), List.mem_of_getElem? (i := 1269) (by decide +kernel), List.mem_of_getElem? (i := 1270) (by decide +kernel)⟩
theorem lw_p78 : lw_okq (⟨"FeltGlassModel", "follow", "(II)V"⟩, 58) := ⟨⟨by decide +kernel, by decide +kernel⟩, List.mem_of_getElem? (i := 847) (by decide +kernel), List.mem_of_getElem? (i := 1273) (by decide +kernel), List.mem_of_getElem? (i := 1274) (by decide +kernel)⟩
theorem lw_p79 : lw_okq (⟨"FeltGlassModel", "lay", "(II)V"⟩, 58) := ⟨⟨by decide +kernel, by decide +kernel⟩, List.mem_of_getElem? (i := 847) (by decide +kernel), List.mem_of_getElem? (i := 1277) (by decide +kernel), List.mem_of_getElem? (i := 1278) (by decide +kernel)⟩
def lw_privs_5 : List (MethodName × Nat) := [(⟨"FeltGlassModel", "isJoined", "(III)Z"⟩, 58), (⟨"FeltGlassModel", "laySpots", "()V"⟩, 58), (⟨"FeltGlassModel", "isHigh", "(I)Z"⟩, 58), (⟨"FeltGlassModel", "aheadOf", "(I)I"⟩, 58), (⟨"FeltGlassModel", "massOf", "(I)I"⟩, 58), (⟨"FeltGlassModel", "laySpot", "(I)V"⟩, 58), (⟨"FeltGlassModel", "sizeOf", "(I)I"⟩, 58), (⟨"FeltGlassModel", "layPairs", "()V"⟩, 58), (⟨"FeltGlassModel", "layPairsOf", "(II)V"⟩, 58), (⟨"FeltGlassModel", "isNear", "(II)Z"⟩, 58), (⟨"FeltGlassModel", "pairCost", "(II)I"⟩, 58), (⟨"FeltGlassModel", "isBetter", "(III)Z"⟩, 58), (⟨"FeltGlassModel", "isBestPair", "(III)Z"⟩, 58), (⟨"FeltGlassModel", "followAll", "()V"⟩, 58), (⟨"FeltGlassModel", "follow", "(II)V"⟩, 58), (⟨"FeltGlassModel", "lay", "(II)V"⟩, 58)]
theorem lw_r5 : ∀ q ∈ lw_privs_5, lw_okq q := List.forall_mem_cons.mpr ⟨lw_p64, List.forall_mem_cons.mpr ⟨lw_p65, List.forall_mem_cons.mpr ⟨lw_p66, List.forall_mem_cons.mpr ⟨lw_p67, List.forall_mem_cons.mpr ⟨lw_p68, List.forall_mem_cons.mpr ⟨lw_p69, List.forall_mem_cons.mpr ⟨lw_p70, List.forall_mem_cons.mpr ⟨lw_p71, List.forall_mem_cons.mpr ⟨lw_p72, List.forall_mem_cons.mpr ⟨lw_p73, List.forall_mem_cons.mpr ⟨lw_p74, List.forall_mem_cons.mpr ⟨lw_p75, List.forall_mem_cons.mpr ⟨lw_p76, List.forall_mem_cons.mpr ⟨lw_p77, List.forall_mem_cons.mpr ⟨lw_p78, List.forall_mem_cons.mpr ⟨lw_p79, fun _ h => absurd h List.not_mem_nil⟩⟩⟩⟩⟩⟩⟩⟩⟩⟩⟩⟩⟩⟩⟩⟩
theorem lw_p80 : lw_okq (⟨"FeltGlassModel", "happens", "(II)V"⟩, 58) := ⟨⟨by decide +kernel, by decide +kernel⟩, List.mem_of_getElem? (i := 847) (by decide +kernel), List.mem_of_getElem? (i := 1281) (by decide +kernel), List.mem_of_getElem? (i := 1282) (by decide +kernel)⟩
theorem lw_p81 : lw_okq (⟨"FeltGlassModel", "isLost", "(I)Z"⟩, 58) := ⟨⟨by decide +kernel, by decide +kernel⟩, List.mem_of_getElem? (i := 847) (by decide +kernel), List.mem_of_getElem? (i := 1285) (by decide +kernel), List.mem_of_getElem? (i := 1286) (by decide +kernel)⟩
theorem lw_p82 : lw_okq (⟨"FeltGlassModel", "keepAs", "(II)V"⟩, 58) := ⟨⟨by decide +kernel, by decide +kernel⟩, List.mem_of_getElem? (i := 847) (by decide +kernel), List.mem_of_getElem? (i := 1289) (by decide +kernel), List.mem_of_getElem? (i := 1290) (by decide +kernel)⟩
theorem lw_p83 : lw_okq (⟨"FeltGlassModel", "beginAll", "()V"⟩, 58) := ⟨⟨by decide +kernel, by decide +kernel⟩, List.mem_of_getElem? (i := 847) (by decide +kernel), List.mem_of_getElem? (i := 1293) (by decide +kernel), List.mem_of_getElem? (i := 1294) (by decide +kernel)⟩
theorem lw_p84 : lw_okq (⟨"FeltGlassModel", "drift", "()V"⟩, 58) := ⟨⟨by decide +kernel, by decide +kernel⟩, List.mem_of_getElem? (i := 847) (by decide +kernel), List.mem_of_getElem? (i := 1297) (by decide +kernel), List.mem_of_getElem? (i := 1298) (by decide +kernel)⟩
theorem lw_p85 : lw_okq (⟨"FeltGlassModel", "isNearSpot", "(I)Z"⟩, 58) := ⟨⟨by decide +kernel, by decide +kernel⟩, List.mem_of_getElem? (i := 847) (by decide +kernel), List.mem_of_getElem? (i := 1301) (by decide +kernel), List.mem_of_getElem? (i := 1302) (by decide +kernel)⟩
theorem lw_p86 : lw_okq (⟨"FeltGlassModel", "fingerNow", "(II)I"⟩, 58) := ⟨⟨by decide +kernel, by decide +kernel⟩, List.mem_of_getElem? (i := 847) (by decide +kernel), List.mem_of_getElem? (i := 1309) (by decide +kernel), List.mem_of_getElem? (i := 1310) (by decide +kernel)⟩
theorem lw_p87 : lw_okq (⟨"FeltGlassModel", "cellNow", "(II)I"⟩, 58) := ⟨⟨by decide +kernel, by decide +kernel⟩, List.mem_of_getElem? (i := 847) (by decide +kernel), List.mem_of_getElem? (i := 1317) (by decide +kernel), List.mem_of_getElem? (i := 1318) (by decide +kernel)⟩
theorem lw_p88 : lw_okq (⟨"FeltGlassModel", "aboutNow", "(I)I"⟩, 58) := ⟨⟨by decide +kernel, by decide +kernel⟩, List.mem_of_getElem? (i := 847) (by decide +kernel), List.mem_of_getElem? (i := 1325) (by decide +kernel), List.mem_of_getElem? (i := 1326) (by decide +kernel)⟩
theorem lw_p89 : lw_okq (⟨"FeltGlassModel", "spotNow", "(II)I"⟩, 58) := ⟨⟨by decide +kernel, by decide +kernel⟩, List.mem_of_getElem? (i := 847) (by decide +kernel), List.mem_of_getElem? (i := 1333) (by decide +kernel), List.mem_of_getElem? (i := 1334) (by decide +kernel)⟩
theorem lw_p90 : lw_okq (⟨"FeltGlassModel", "isTrack", "(I)Z"⟩, 58) := ⟨⟨by decide +kernel, by decide +kernel⟩, List.mem_of_getElem? (i := 847) (by decide +kernel), List.mem_of_getElem? (i := 1341) (by decide +kernel), List.mem_of_getElem? (i := 1342) (by decide +kernel)⟩
theorem lw_p91 : lw_okq (⟨"FeltGlassModel", "trackNow", "(II)I"⟩, 58) := ⟨⟨by decide +kernel, by decide +kernel⟩, List.mem_of_getElem? (i := 847) (by decide +kernel), List.mem_of_getElem? (i := 1345) (by decide +kernel), List.mem_of_getElem? (i := 1346) (by decide +kernel)⟩
theorem lw_p92 : lw_okq (⟨"FeltGlassModel", "eventNow", "(II)I"⟩, 58) := ⟨⟨by decide +kernel, by decide +kernel⟩, List.mem_of_getElem? (i := 847) (by decide +kernel), List.mem_of_getElem? (i := 1357) (by decide +kernel), List.mem_of_getElem? (i := 1358) (by decide +kernel)⟩
theorem lw_p93 : lw_okq (⟨"FeltGlassModel", "howMany", "(I)I"⟩, 58) := ⟨⟨by decide +kernel, by decide +kernel⟩, List.mem_of_getElem? (i := 847) (by decide +kernel), List.mem_of_getElem? (i := 1365) (by decide +kernel), List.mem_of_getElem? (i := 1366) (by decide +kernel)⟩
theorem lw_p94 : lw_okq (⟨"FeltGlassModel", "mixGlass", "()V"⟩, 58) := ⟨⟨by decide +kernel, by decide +kernel⟩, List.mem_of_getElem? (i := 847) (by decide +kernel), List.mem_of_getElem? (i := 1378) (by decide +kernel), List.mem_of_getElem? (i := 1379) (by decide +kernel)⟩
theorem lw_p95 : lw_okq (⟨"FeltGlassModel", "mix", "(J)V"⟩, 58) := ⟨⟨by decide +kernel, by decide +kernel⟩, List.mem_of_getElem? (i := 847) (by decide +kernel), List.mem_of_getElem? (i := 1382) (by decide +kernel), List.mem_of_getElem? (i := 1383) (by decide +kernel)⟩
def lw_privs_6 : List (MethodName × Nat) := [(⟨"FeltGlassModel", "happens", "(II)V"⟩, 58), (⟨"FeltGlassModel", "isLost", "(I)Z"⟩, 58), (⟨"FeltGlassModel", "keepAs", "(II)V"⟩, 58), (⟨"FeltGlassModel", "beginAll", "()V"⟩, 58), (⟨"FeltGlassModel", "drift", "()V"⟩, 58), (⟨"FeltGlassModel", "isNearSpot", "(I)Z"⟩, 58), (⟨"FeltGlassModel", "fingerNow", "(II)I"⟩, 58), (⟨"FeltGlassModel", "cellNow", "(II)I"⟩, 58), (⟨"FeltGlassModel", "aboutNow", "(I)I"⟩, 58), (⟨"FeltGlassModel", "spotNow", "(II)I"⟩, 58), (⟨"FeltGlassModel", "isTrack", "(I)Z"⟩, 58), (⟨"FeltGlassModel", "trackNow", "(II)I"⟩, 58), (⟨"FeltGlassModel", "eventNow", "(II)I"⟩, 58), (⟨"FeltGlassModel", "howMany", "(I)I"⟩, 58), (⟨"FeltGlassModel", "mixGlass", "()V"⟩, 58), (⟨"FeltGlassModel", "mix", "(J)V"⟩, 58)]
theorem lw_r6 : ∀ q ∈ lw_privs_6, lw_okq q := List.forall_mem_cons.mpr ⟨lw_p80, List.forall_mem_cons.mpr ⟨lw_p81, List.forall_mem_cons.mpr ⟨lw_p82, List.forall_mem_cons.mpr ⟨lw_p83, List.forall_mem_cons.mpr ⟨lw_p84, List.forall_mem_cons.mpr ⟨lw_p85, List.forall_mem_cons.mpr ⟨lw_p86, List.forall_mem_cons.mpr ⟨lw_p87, List.forall_mem_cons.mpr ⟨lw_p88, List.forall_mem_cons.mpr ⟨lw_p89, List.forall_mem_cons.mpr ⟨lw_p90, List.forall_mem_cons.mpr ⟨lw_p91, List.forall_mem_cons.mpr ⟨lw_p92, List.forall_mem_cons.mpr ⟨lw_p93, List.forall_mem_cons.mpr ⟨lw_p94, List.forall_mem_cons.mpr ⟨lw_p95, fun _ h => absurd h List.not_mem_nil⟩⟩⟩⟩⟩⟩⟩⟩⟩⟩⟩⟩⟩⟩⟩⟩
def lw_privs : List (MethodName × Nat) := lw_privs_1 ++ (lw_privs_2 ++ (lw_privs_3 ++ (lw_privs_4 ++ (lw_privs_5 ++ (lw_privs_6)))))
def lw_tbl : List Cond := k2_sels lw_privs ++ tables_1
theorem lw_privs_ok : ∀ q ∈ lw_privs, lw_okq q := by
  show ∀ q ∈ lw_privs_1 ++ (lw_privs_2 ++ (lw_privs_3 ++ (lw_privs_4 ++ (lw_privs_5 ++ (lw_privs_6))))), lw_okq q
  exact List.forall_mem_append.mpr ⟨lw_r1, List.forall_mem_append.mpr ⟨lw_r2, List.forall_mem_append.mpr ⟨lw_r3, List.forall_mem_append.mpr ⟨lw_r4, List.forall_mem_append.mpr ⟨lw_r5, lw_r6⟩⟩⟩⟩⟩
/-! ===== BEGIN printed: names, fields, word lists, decode rows ===== -/
def RX0 : String := "FeltGlass$Drives"
def TX0 : u_T := fun k => match k with
  | 0 => ("FeltGlass$Drives", "level", "[I", true)
  | 1 => ("FeltGlass$Drives", "active", "I", false)
  | _ => ("FeltGlass$Drives", "seed", "I", false)
def tyX0 : Nat → FieldType := fun k => match k with
  | 0 => .array .int
  | 1 => .int
  | _ => .int
abbrev wsX00 : List Cond := u_ws RX0 TX0 3
theorem nmX0 : ∀ a, a < 3 → ∀ b, b < 3 → a ≠ b → (TX0 a).2.1 ≠ (TX0 b).2.1 := by decide +kernel
theorem tyX0_ok : ∀ k, k < 3 → parseFieldDescriptor (TX0 k).2.2.1 = some (tyX0 k) := by decide +kernel
abbrev cX0_init : ByteArray := prog_2_method_1_code
def yX0_init : MethodName := ⟨RX0, "<init>", "()V"⟩
abbrev cX0_renew : ByteArray := prog_2_method_2_code
def yX0_renew : MethodName := ⟨RX0, "renew", "()V"⟩
abbrev cX0_activateNext : ByteArray := prog_2_method_3_code
def yX0_activateNext : MethodName := ⟨RX0, "activateNext", "()V"⟩
abbrev cX0_activeLevel : ByteArray := prog_2_method_4_code
def yX0_activeLevel : MethodName := ⟨RX0, "activeLevel", "()I"⟩
abbrev cX0_drawNoise : ByteArray := prog_2_method_5_code
def yX0_drawNoise : MethodName := ⟨RX0, "drawNoise", "(I)I"⟩
abbrev cX0_drawBelow : ByteArray := prog_2_method_6_code
def yX0_drawBelow : MethodName := ⟨RX0, "drawBelow", "(I)I"⟩
def RX1 : String := "FeltGlass$Grid"
def TX1 : u_T := fun k => match k with
  | 0 => ("FeltGlass$Grid", "wide", "I", false)
  | 1 => ("FeltGlass$Grid", "high", "I", false)
  | 2 => ("FeltGlass$Grid", "cells", "I", false)
  | 3 => ("FeltGlass$Grid", "column", "[I", true)
  | 4 => ("FeltGlass$Grid", "row", "[I", true)
  | 5 => ("FeltGlass$Grid", "aroundCount", "[I", true)
  | _ => ("FeltGlass$Grid", "around", "[I", true)
def tyX1 : Nat → FieldType := fun k => match k with
  | 0 => .int
  | 1 => .int
  | 2 => .int
  | 3 => .array .int
  | 4 => .array .int
  | 5 => .array .int
  | _ => .array .int
abbrev wsX10 : List Cond := u_ws RX1 TX1 7
theorem nmX1 : ∀ a, a < 7 → ∀ b, b < 7 → a ≠ b → (TX1 a).2.1 ≠ (TX1 b).2.1 := by decide +kernel
theorem tyX1_ok : ∀ k, k < 7 → parseFieldDescriptor (TX1 k).2.2.1 = some (tyX1 k) := by decide +kernel
abbrev cX1_init : ByteArray := prog_3_method_1_code
def yX1_init : MethodName := ⟨RX1, "<init>", "()V"⟩
abbrev cX1_lay : ByteArray := prog_3_method_2_code
def yX1_lay : MethodName := ⟨RX1, "lay", "(II)V"⟩
abbrev cX1_listAround : ByteArray := prog_3_method_3_code
def yX1_listAround : MethodName := ⟨RX1, "listAround", "(II)V"⟩
abbrev cX1_neighbour : ByteArray := prog_3_method_4_code
def yX1_neighbour : MethodName := ⟨RX1, "neighbour", "(II)I"⟩
abbrev cX1_meets : ByteArray := prog_3_method_5_code
def yX1_meets : MethodName := ⟨RX1, "meets", "(I[Z)Z"⟩
def RX2 : String := "FeltGlass$Hand"
def TX2 : u_T := fun k => match k with
  | 0 => ("FeltGlass$Hand", "on", "[Z", true)
  | 1 => ("FeltGlass$Hand", "u", "[I", true)
  | 2 => ("FeltGlass$Hand", "v", "[I", true)
  | _ => ("FeltGlass$Hand", "power", "[I", true)
def tyX2 : Nat → FieldType := fun k => match k with
  | 0 => .array .boolean
  | 1 => .array .int
  | 2 => .array .int
  | _ => .array .int
abbrev wsX20 : List Cond := u_ws RX2 TX2 4
theorem nmX2 : ∀ a, a < 4 → ∀ b, b < 4 → a ≠ b → (TX2 a).2.1 ≠ (TX2 b).2.1 := by decide +kernel
theorem tyX2_ok : ∀ k, k < 4 → parseFieldDescriptor (TX2 k).2.2.1 = some (tyX2 k) := by decide +kernel
abbrev cX2_init : ByteArray := prog_4_method_1_code
def yX2_init : MethodName := ⟨RX2, "<init>", "()V"⟩
abbrev cX2_liftAll : ByteArray := prog_4_method_2_code
def yX2_liftAll : MethodName := ⟨RX2, "liftAll", "()V"⟩
abbrev cX2_put : ByteArray := prog_4_method_3_code
def yX2_put : MethodName := ⟨RX2, "put", "(IIII)V"⟩
abbrev cX2_copyFrom : ByteArray := prog_4_method_4_code
def yX2_copyFrom : MethodName := ⟨RX2, "copyFrom", "(LFeltGlass$Hand;)V"⟩
abbrev cX2_onCount : ByteArray := prog_4_method_5_code
def yX2_onCount : MethodName := ⟨RX2, "onCount", "()I"⟩
abbrev cX2_sensedAt : ByteArray := prog_4_method_6_code
def yX2_sensedAt : MethodName := ⟨RX2, "sensedAt", "(II)I"⟩
abbrev cX2_fact : ByteArray := prog_4_method_7_code
def yX2_fact : MethodName := ⟨RX2, "fact", "(II)I"⟩
def RX3 : String := "FeltGlass$Hills"
def TX3 : u_T := fun k => match k with
  | 0 => ("FeltGlass$Hills", "grid", "LFeltGlass$Grid;", true)
  | 1 => ("FeltGlass$Hills", "peak", "[I", true)
  | 2 => ("FeltGlass$Hills", "alive", "[Z", true)
  | 3 => ("FeltGlass$Hills", "hillOf", "[I", true)
  | 4 => ("FeltGlass$Hills", "size", "I", false)
  | 5 => ("FeltGlass$Hills", "uphill", "[I", true)
  | _ => ("FeltGlass$Hills", "pass", "[I", true)
def tyX3 : Nat → FieldType := fun k => match k with
  | 0 => .object "FeltGlass$Grid"
  | 1 => .array .int
  | 2 => .array .boolean
  | 3 => .array .int
  | 4 => .int
  | 5 => .array .int
  | _ => .array .int
abbrev wsX30 : List Cond := u_ws RX3 TX3 7
theorem nmX3 : ∀ a, a < 7 → ∀ b, b < 7 → a ≠ b → (TX3 a).2.1 ≠ (TX3 b).2.1 := by decide +kernel
theorem tyX3_ok : ∀ k, k < 7 → parseFieldDescriptor (TX3 k).2.2.1 = some (tyX3 k) := by decide +kernel
abbrev cX3_init : ByteArray := prog_5_method_1_code
def yX3_init : MethodName := ⟨RX3, "<init>", "(LFeltGlass$Grid;)V"⟩
abbrev cX3_form : ByteArray := prog_5_method_2_code
def yX3_form : MethodName := ⟨RX3, "form", "(LFeltGlass$Surface;I)V"⟩
abbrev cX3_findPeaks : ByteArray := prog_5_method_3_code
def yX3_findPeaks : MethodName := ⟨RX3, "findPeaks", "(LFeltGlass$Surface;)V"⟩
abbrev cX3_steepest : ByteArray := prog_5_method_4_code
def yX3_steepest : MethodName := ⟨RX3, "steepest", "(I[I)I"⟩
abbrev cX3_gatherCells : ByteArray := prog_5_method_5_code
def yX3_gatherCells : MethodName := ⟨RX3, "gatherCells", "([Z)V"⟩
abbrev cX3_findPasses : ByteArray := prog_5_method_6_code
def yX3_findPasses : MethodName := ⟨RX3, "findPasses", "([I)V"⟩
abbrev cX3_raisePass : ByteArray := prog_5_method_7_code
def yX3_raisePass : MethodName := ⟨RX3, "raisePass", "(III)V"⟩
abbrev cX3_mergeBestPair : ByteArray := prog_5_method_8_code
def yX3_mergeBestPair : MethodName := ⟨RX3, "mergeBestPair", "([II)Z"⟩
abbrev cX3_canMerge : ByteArray := prog_5_method_9_code
def yX3_canMerge : MethodName := ⟨RX3, "canMerge", "(II[II)Z"⟩
abbrev cX3_merge : ByteArray := prog_5_method_10_code
def yX3_merge : MethodName := ⟨RX3, "merge", "(II)V"⟩
def RX4 : String := "FeltGlass$Journal"
def TX4 : u_T := fun k => match k with
  | 0 => ("FeltGlass$Journal", "sort", "[I", true)
  | 1 => ("FeltGlass$Journal", "track", "[I", true)
  | 2 => ("FeltGlass$Journal", "frame", "[I", true)
  | 3 => ("FeltGlass$Journal", "occurred", "[I", true)
  | _ => ("FeltGlass$Journal", "written", "I", false)
def tyX4 : Nat → FieldType := fun k => match k with
  | 0 => .array .int
  | 1 => .array .int
  | 2 => .array .int
  | 3 => .array .int
  | _ => .int
abbrev wsX40 : List Cond := u_ws RX4 TX4 5
theorem nmX4 : ∀ a, a < 5 → ∀ b, b < 5 → a ≠ b → (TX4 a).2.1 ≠ (TX4 b).2.1 := by decide +kernel
theorem tyX4_ok : ∀ k, k < 5 → parseFieldDescriptor (TX4 k).2.2.1 = some (tyX4 k) := by decide +kernel
abbrev cX4_init : ByteArray := prog_6_method_1_code
def yX4_init : MethodName := ⟨RX4, "<init>", "()V"⟩
abbrev cX4_write : ByteArray := prog_6_method_2_code
def yX4_write : MethodName := ⟨RX4, "write", "(III)V"⟩
abbrev cX4_kept : ByteArray := prog_6_method_3_code
def yX4_kept : MethodName := ⟨RX4, "kept", "()I"⟩
abbrev cX4_fact : ByteArray := prog_6_method_4_code
def yX4_fact : MethodName := ⟨RX4, "fact", "(II)I"⟩
def RX5 : String := "FeltGlass$Page"
def TX5 : u_T := fun k => match k with
  | 0 => ("FeltGlass$Page", "sign", "[I", true)
  | 1 => ("FeltGlass$Page", "length", "I", false)
  | 2 => ("FeltGlass$Page", "draft", "LFeltGlass$Hand;", true)
  | 3 => ("FeltGlass$Page", "at", "I", false)
  | 4 => ("FeltGlass$Page", "mostU", "I", false)
  | _ => ("FeltGlass$Page", "mostV", "I", false)
def tyX5 : Nat → FieldType := fun k => match k with
  | 0 => .array .int
  | 1 => .int
  | 2 => .object "FeltGlass$Hand"
  | 3 => .int
  | 4 => .int
  | _ => .int
abbrev wsX50 : List Cond := u_ws RX5 TX5 6
theorem nmX5 : ∀ a, a < 6 → ∀ b, b < 6 → a ≠ b → (TX5 a).2.1 ≠ (TX5 b).2.1 := by decide +kernel
theorem tyX5_ok : ∀ k, k < 6 → parseFieldDescriptor (TX5 k).2.2.1 = some (tyX5 k) := by decide +kernel
abbrev cX5_init : ByteArray := prog_7_method_1_code
def yX5_init : MethodName := ⟨RX5, "<init>", "()V"⟩
abbrev cX5_append : ByteArray := prog_7_method_2_code
def yX5_append : MethodName := ⟨RX5, "append", "(I)V"⟩
abbrev cX5_read : ByteArray := prog_7_method_3_code
def yX5_read : MethodName := ⟨RX5, "read", "(LFeltGlass$Grid;LFeltGlass$Hand;)Z"⟩
abbrev cX5_readPart : ByteArray := prog_7_method_4_code
def yX5_readPart : MethodName := ⟨RX5, "readPart", "()Z"⟩
abbrev cX5_readPlace : ByteArray := prog_7_method_5_code
def yX5_readPlace : MethodName := ⟨RX5, "readPlace", "(I)Z"⟩
abbrev cX5_readNumber : ByteArray := prog_7_method_6_code
def yX5_readNumber : MethodName := ⟨RX5, "readNumber", "(II)I"⟩
abbrev cX5_digitHere : ByteArray := prog_7_method_7_code
def yX5_digitHere : MethodName := ⟨RX5, "digitHere", "()I"⟩
abbrev cX5_take : ByteArray := prog_7_method_8_code
def yX5_take : MethodName := ⟨RX5, "take", "(C)Z"⟩
abbrev cX5_codeHere : ByteArray := prog_7_method_9_code
def yX5_codeHere : MethodName := ⟨RX5, "codeHere", "()I"⟩
def RX6 : String := "FeltGlass$Pairing"
def TX6 : u_T := fun k => match k with
  | 0 => ("FeltGlass$Pairing", "spotFor", "[I", true)
  | 1 => ("FeltGlass$Pairing", "worth", "[I", true)
  | 2 => ("FeltGlass$Pairing", "best", "[I", true)
  | _ => ("FeltGlass$Pairing", "spotCount", "I", false)
def tyX6 : Nat → FieldType := fun k => match k with
  | 0 => .array .int
  | 1 => .array .int
  | 2 => .array .int
  | _ => .int
abbrev wsX60 : List Cond := u_ws RX6 TX6 4
theorem nmX6 : ∀ a, a < 4 → ∀ b, b < 4 → a ≠ b → (TX6 a).2.1 ≠ (TX6 b).2.1 := by decide +kernel
theorem tyX6_ok : ∀ k, k < 4 → parseFieldDescriptor (TX6 k).2.2.1 = some (tyX6 k) := by decide +kernel
abbrev cX6_init : ByteArray := prog_8_method_1_code
def yX6_init : MethodName := ⟨RX6, "<init>", "()V"⟩
abbrev cX6_solve : ByteArray := prog_8_method_2_code
def yX6_solve : MethodName := ⟨RX6, "solve", "(LFeltGlass$Tracks;LFeltGlass$Spots;I)V"⟩
abbrev cX6_weighPairs : ByteArray := prog_8_method_3_code
def yX6_weighPairs : MethodName := ⟨RX6, "weighPairs", "(LFeltGlass$Tracks;LFeltGlass$Spots;I)V"⟩
abbrev cX6_bestSpot : ByteArray := prog_8_method_4_code
def yX6_bestSpot : MethodName := ⟨RX6, "bestSpot", "(II)I"⟩
abbrev cX6_worthOf : ByteArray := prog_8_method_5_code
def yX6_worthOf : MethodName := ⟨RX6, "worthOf", "(III)I"⟩
abbrev cX6_withSpot : ByteArray := prog_8_method_6_code
def yX6_withSpot : MethodName := ⟨RX6, "withSpot", "(II)I"⟩
def RX7 : String := "FeltGlass$Panel"
def TX7 : u_T := fun k => match k with
  | 0 => ("FeltGlass$Panel", "grid", "LFeltGlass$Grid;", true)
  | 1 => ("FeltGlass$Panel", "hand", "LFeltGlass$Hand;", true)
  | 2 => ("FeltGlass$Panel", "drives", "LFeltGlass$Drives;", true)
  | 3 => ("FeltGlass$Panel", "settings", "[I", true)
  | 4 => ("FeltGlass$Panel", "surface", "LFeltGlass$Surface;", true)
  | 5 => ("FeltGlass$Panel", "spots", "LFeltGlass$Spots;", true)
  | 6 => ("FeltGlass$Panel", "tracks", "LFeltGlass$Tracks;", true)
  | 7 => ("FeltGlass$Panel", "present", "Z", false)
  | 8 => ("FeltGlass$Panel", "framesEver", "I", false)
  | 9 => ("FeltGlass$Panel", "noisyEver", "I", false)
  | 10 => ("FeltGlass$Panel", "hills", "LFeltGlass$Hills;", true)
  | 11 => ("FeltGlass$Panel", "pairing", "LFeltGlass$Pairing;", true)
  | 12 => ("FeltGlass$Panel", "spread", "I", false)
  | 13 => ("FeltGlass$Panel", "noisy", "Z", false)
  | _ => ("FeltGlass$Panel", "framesHere", "I", false)
def tyX7 : Nat → FieldType := fun k => match k with
  | 0 => .object "FeltGlass$Grid"
  | 1 => .object "FeltGlass$Hand"
  | 2 => .object "FeltGlass$Drives"
  | 3 => .array .int
  | 4 => .object "FeltGlass$Surface"
  | 5 => .object "FeltGlass$Spots"
  | 6 => .object "FeltGlass$Tracks"
  | 7 => .boolean
  | 8 => .int
  | 9 => .int
  | 10 => .object "FeltGlass$Hills"
  | 11 => .object "FeltGlass$Pairing"
  | 12 => .int
  | 13 => .boolean
  | _ => .int
abbrev wsX70 : List Cond := u_ws RX7 TX7 15
theorem nmX7 : ∀ a, a < 15 → ∀ b, b < 15 → a ≠ b → (TX7 a).2.1 ≠ (TX7 b).2.1 := by decide +kernel
theorem tyX7_ok : ∀ k, k < 15 → parseFieldDescriptor (TX7 k).2.2.1 = some (tyX7 k) := by decide +kernel
abbrev cX7_init : ByteArray := prog_9_method_1_code
def yX7_init : MethodName := ⟨RX7, "<init>", "(LFeltGlass$Journal;)V"⟩
abbrev cX7_renew : ByteArray := prog_9_method_2_code
def yX7_renew : MethodName := ⟨RX7, "renew", "(II)V"⟩
abbrev cX7_hasCell : ByteArray := prog_9_method_3_code
def yX7_hasCell : MethodName := ⟨RX7, "hasCell", "(I)Z"⟩
abbrev cX7_hasSpot : ByteArray := prog_9_method_4_code
def yX7_hasSpot : MethodName := ⟨RX7, "hasSpot", "(I)Z"⟩
abbrev cX7_hasTrack : ByteArray := prog_9_method_5_code
def yX7_hasTrack : MethodName := ⟨RX7, "hasTrack", "(I)Z"⟩
abbrev cX7_runFrame : ByteArray := prog_9_method_6_code
def yX7_runFrame : MethodName := ⟨RX7, "runFrame", "()V"⟩
abbrev cX7_cellFact : ByteArray := prog_9_method_7_code
def yX7_cellFact : MethodName := ⟨RX7, "cellFact", "(II)I"⟩
abbrev cX7_fact : ByteArray := prog_9_method_8_code
def yX7_fact : MethodName := ⟨RX7, "fact", "(I)I"⟩
def RX8 : String := "FeltGlass$Spots"
def TX8 : u_T := fun k => match k with
  | 0 => ("FeltGlass$Spots", "grid", "LFeltGlass$Grid;", true)
  | 1 => ("FeltGlass$Spots", "row", "[[I", true)
  | 2 => ("FeltGlass$Spots", "spotOf", "[I", true)
  | 3 => ("FeltGlass$Spots", "inSpot", "[Z", true)
  | 4 => ("FeltGlass$Spots", "size", "I", false)
  | 5 => ("FeltGlass$Spots", "chosen", "[Z", true)
  | 6 => ("FeltGlass$Spots", "spotOfHill", "[I", true)
  | 7 => ("FeltGlass$Spots", "cellsOf", "[I", true)
  | 8 => ("FeltGlass$Spots", "massOf", "[I", true)
  | 9 => ("FeltGlass$Spots", "columnsOf", "[I", true)
  | _ => ("FeltGlass$Spots", "rowsOf", "[I", true)
def tyX8 : Nat → FieldType := fun k => match k with
  | 0 => .object "FeltGlass$Grid"
  | 1 => .array (.array .int)
  | 2 => .array .int
  | 3 => .array .boolean
  | 4 => .int
  | 5 => .array .boolean
  | 6 => .array .int
  | 7 => .array .int
  | 8 => .array .int
  | 9 => .array .int
  | _ => .array .int
abbrev wsX80 : List Cond := u_ws RX8 TX8 11
theorem nmX8 : ∀ a, a < 11 → ∀ b, b < 11 → a ≠ b → (TX8 a).2.1 ≠ (TX8 b).2.1 := by decide +kernel
theorem tyX8_ok : ∀ k, k < 11 → parseFieldDescriptor (TX8 k).2.2.1 = some (tyX8 k) := by decide +kernel
abbrev cX8_init : ByteArray := prog_10_method_1_code
def yX8_init : MethodName := ⟨RX8, "<init>", "(LFeltGlass$Grid;)V"⟩
abbrev cX8_clear : ByteArray := prog_10_method_2_code
def yX8_clear : MethodName := ⟨RX8, "clear", "()V"⟩
abbrev cX8_choose : ByteArray := prog_10_method_3_code
def yX8_choose : MethodName := ⟨RX8, "choose", "(LFeltGlass$Hills;[II)V"⟩
abbrev cX8_weigh : ByteArray := prog_10_method_4_code
def yX8_weigh : MethodName := ⟨RX8, "weigh", "(LFeltGlass$Hills;[I)V"⟩
abbrev cX8_dropLightest : ByteArray := prog_10_method_5_code
def yX8_dropLightest : MethodName := ⟨RX8, "dropLightest", "(I)V"⟩
abbrev cX8_numberHills : ByteArray := prog_10_method_6_code
def yX8_numberHills : MethodName := ⟨RX8, "numberHills", "(LFeltGlass$Hills;)V"⟩
abbrev cX8_fillRow : ByteArray := prog_10_method_7_code
def yX8_fillRow : MethodName := ⟨RX8, "fillRow", "([III)V"⟩
abbrev cX8_markCells : ByteArray := prog_10_method_8_code
def yX8_markCells : MethodName := ⟨RX8, "markCells", "([I)V"⟩
def RX9 : String := "FeltGlass$Surface"
def TX9 : u_T := fun k => match k with
  | 0 => ("FeltGlass$Surface", "grid", "LFeltGlass$Grid;", true)
  | 1 => ("FeltGlass$Surface", "background", "[I", true)
  | 2 => ("FeltGlass$Surface", "baseline", "[I", true)
  | 3 => ("FeltGlass$Surface", "sensed", "[I", true)
  | 4 => ("FeltGlass$Surface", "raw", "[I", true)
  | 5 => ("FeltGlass$Surface", "delta", "[I", true)
  | _ => ("FeltGlass$Surface", "touched", "[Z", true)
def tyX9 : Nat → FieldType := fun k => match k with
  | 0 => .object "FeltGlass$Grid"
  | 1 => .array .int
  | 2 => .array .int
  | 3 => .array .int
  | 4 => .array .int
  | 5 => .array .int
  | _ => .array .boolean
abbrev wsX90 : List Cond := u_ws RX9 TX9 7
theorem nmX9 : ∀ a, a < 7 → ∀ b, b < 7 → a ≠ b → (TX9 a).2.1 ≠ (TX9 b).2.1 := by decide +kernel
theorem tyX9_ok : ∀ k, k < 7 → parseFieldDescriptor (TX9 k).2.2.1 = some (tyX9 k) := by decide +kernel
abbrev cX9_init : ByteArray := prog_11_method_1_code
def yX9_init : MethodName := ⟨RX9, "<init>", "(LFeltGlass$Grid;)V"⟩
abbrev cX9_renew : ByteArray := prog_11_method_2_code
def yX9_renew : MethodName := ⟨RX9, "renew", "()V"⟩
abbrev cX9_feel : ByteArray := prog_11_method_3_code
def yX9_feel : MethodName := ⟨RX9, "feel", "(LFeltGlass$Hand;)V"⟩
abbrev cX9_addToBackgrounds : ByteArray := prog_11_method_4_code
def yX9_addToBackgrounds : MethodName := ⟨RX9, "addToBackgrounds", "(I)I"⟩
abbrev cX9_baselinesToBackgrounds : ByteArray := prog_11_method_5_code
def yX9_baselinesToBackgrounds : MethodName := ⟨RX9, "baselinesToBackgrounds", "()I"⟩
abbrev cX9_sense : ByteArray := prog_11_method_6_code
def yX9_sense : MethodName := ⟨RX9, "sense", "(LFeltGlass$Drives;I)V"⟩
abbrev cX9_quietSpread : ByteArray := prog_11_method_7_code
def yX9_quietSpread : MethodName := ⟨RX9, "quietSpread", "()I"⟩
abbrev cX9_driftBaselines : ByteArray := prog_11_method_8_code
def yX9_driftBaselines : MethodName := ⟨RX9, "driftBaselines", "([ZI)V"⟩
def RX10 : String := "FeltGlass$Tracks"
def TX10 : u_T := fun k => match k with
  | 0 => ("FeltGlass$Tracks", "row", "[[I", true)
  | 1 => ("FeltGlass$Tracks", "size", "I", false)
  | 2 => ("FeltGlass$Tracks", "begunEver", "I", false)
  | 3 => ("FeltGlass$Tracks", "settings", "[I", true)
  | _ => ("FeltGlass$Tracks", "journal", "LFeltGlass$Journal;", true)
def tyX10 : Nat → FieldType := fun k => match k with
  | 0 => .array (.array .int)
  | 1 => .int
  | 2 => .int
  | 3 => .array .int
  | _ => .object "FeltGlass$Journal"
abbrev wsX100 : List Cond := u_ws RX10 TX10 5
theorem nmX10 : ∀ a, a < 5 → ∀ b, b < 5 → a ≠ b → (TX10 a).2.1 ≠ (TX10 b).2.1 := by decide +kernel
theorem tyX10_ok : ∀ k, k < 5 → parseFieldDescriptor (TX10 k).2.2.1 = some (tyX10 k) := by decide +kernel
abbrev cX10_init : ByteArray := prog_12_method_1_code
def yX10_init : MethodName := ⟨RX10, "<init>", "([ILFeltGlass$Journal;)V"⟩
abbrev cX10_follow : ByteArray := prog_12_method_2_code
def yX10_follow : MethodName := ⟨RX10, "follow", "(LFeltGlass$Spots;[II)V"⟩
abbrev cX10_move : ByteArray := prog_12_method_3_code
def yX10_move : MethodName := ⟨RX10, "move", "([I[II)V"⟩
abbrev cX10_miss : ByteArray := prog_12_method_4_code
def yX10_miss : MethodName := ⟨RX10, "miss", "([II)Z"⟩
abbrev cX10_beginNew : ByteArray := prog_12_method_5_code
def yX10_beginNew : MethodName := ⟨RX10, "beginNew", "(LFeltGlass$Spots;)V"⟩
abbrev cX10_begin : ByteArray := prog_12_method_6_code
def yX10_begin : MethodName := ⟨RX10, "begin", "([I[I)V"⟩
abbrev cX10_takeOver : ByteArray := prog_12_method_7_code
def yX10_takeOver : MethodName := ⟨RX10, "takeOver", "([I[I)V"⟩
abbrev cX10_isPalm : ByteArray := prog_12_method_8_code
def yX10_isPalm : MethodName := ⟨RX10, "isPalm", "([I)Z"⟩
def RX11 : String := "FeltGlass"
def TX11 : u_T := fun k => match k with
  | 0 => ("FeltGlass", "page", "LFeltGlass$Page;", true)
  | 1 => ("FeltGlass", "panel", "LFeltGlass$Panel;", true)
  | 2 => ("FeltGlass", "journal", "LFeltGlass$Journal;", true)
  | 3 => ("FeltGlass", "textsRead", "I", false)
  | _ => ("FeltGlass", "panelsMade", "I", false)
def tyX11 : Nat → FieldType := fun k => match k with
  | 0 => .object "FeltGlass$Page"
  | 1 => .object "FeltGlass$Panel"
  | 2 => .object "FeltGlass$Journal"
  | 3 => .int
  | _ => .int
abbrev wsX110 : List Cond := u_ws RX11 TX11 5
theorem nmX11 : ∀ a, a < 5 → ∀ b, b < 5 → a ≠ b → (TX11 a).2.1 ≠ (TX11 b).2.1 := by decide +kernel
theorem tyX11_ok : ∀ k, k < 5 → parseFieldDescriptor (TX11 k).2.2.1 = some (tyX11 k) := by decide +kernel
abbrev cX11_init : ByteArray := prog_1_method_1_code
def yX11_init : MethodName := ⟨RX11, "<init>", "()V"⟩
abbrev cX11_letter : ByteArray := prog_1_method_2_code
def yX11_letter : MethodName := ⟨RX11, "letter", "(I)I"⟩
abbrev cX11_blank : ByteArray := prog_1_method_3_code
def yX11_blank : MethodName := ⟨RX11, "blank", "()I"⟩
abbrev cX11_fault : ByteArray := prog_1_method_4_code
def yX11_fault : MethodName := ⟨RX11, "fault", "()I"⟩
abbrev cX11_fingers : ByteArray := prog_1_method_5_code
def yX11_fingers : MethodName := ⟨RX11, "fingers", "()I"⟩
abbrev cX11_glass : ByteArray := prog_1_method_6_code
def yX11_glass : MethodName := ⟨RX11, "glass", "(II)I"⟩
abbrev cX11_air : ByteArray := prog_1_method_7_code
def yX11_air : MethodName := ⟨RX11, "air", "(II)I"⟩
abbrev cX11_warm : ByteArray := prog_1_method_8_code
def yX11_warm : MethodName := ⟨RX11, "warm", "(I)I"⟩
abbrev cX11_noise : ByteArray := prog_1_method_9_code
def yX11_noise : MethodName := ⟨RX11, "noise", "(II)I"⟩
abbrev cX11_seed : ByteArray := prog_1_method_10_code
def yX11_seed : MethodName := ⟨RX11, "seed", "(I)I"⟩
abbrev cX11_bound : ByteArray := prog_1_method_11_code
def yX11_bound : MethodName := ⟨RX11, "bound", "(II)I"⟩
abbrev cX11_settle : ByteArray := prog_1_method_12_code
def yX11_settle : MethodName := ⟨RX11, "settle", "()I"⟩
abbrev cX11_frames : ByteArray := prog_1_method_13_code
def yX11_frames : MethodName := ⟨RX11, "frames", "(I)I"⟩
abbrev cX11_finger : ByteArray := prog_1_method_14_code
def yX11_finger : MethodName := ⟨RX11, "finger", "(II)I"⟩
abbrev cX11_cell : ByteArray := prog_1_method_15_code
def yX11_cell : MethodName := ⟨RX11, "cell", "(II)I"⟩
abbrev cX11_about : ByteArray := prog_1_method_16_code
def yX11_about : MethodName := ⟨RX11, "about", "(I)I"⟩
abbrev cX11_spot : ByteArray := prog_1_method_17_code
def yX11_spot : MethodName := ⟨RX11, "spot", "(II)I"⟩
abbrev cX11_track : ByteArray := prog_1_method_18_code
def yX11_track : MethodName := ⟨RX11, "track", "(II)I"⟩
abbrev cX11_as : ByteArray := prog_1_method_19_code
def yX11_as : MethodName := ⟨RX11, "as", "(II)I"⟩
abbrev cX11_event : ByteArray := prog_1_method_20_code
def yX11_event : MethodName := ⟨RX11, "event", "(II)I"⟩
abbrev cX11_count : ByteArray := prog_1_method_21_code
def yX11_count : MethodName := ⟨RX11, "count", "(I)I"⟩
abbrev cX11_events : ByteArray := prog_1_method_22_code
def yX11_events : MethodName := ⟨RX11, "events", "(I)I"⟩
abbrev cX11_digest : ByteArray := prog_1_method_23_code
def yX11_digest : MethodName := ⟨RX11, "digest", "()J"⟩
abbrev cX11_hashPanelAndFingers : ByteArray := prog_1_method_24_code
def yX11_hashPanelAndFingers : MethodName := ⟨RX11, "hashPanelAndFingers", "(J)J"⟩
abbrev cX11_hashCells : ByteArray := prog_1_method_25_code
def yX11_hashCells : MethodName := ⟨RX11, "hashCells", "(J)J"⟩
abbrev cX11_hashSpots : ByteArray := prog_1_method_26_code
def yX11_hashSpots : MethodName := ⟨RX11, "hashSpots", "(J)J"⟩
abbrev cX11_hashTracks : ByteArray := prog_1_method_27_code
def yX11_hashTracks : MethodName := ⟨RX11, "hashTracks", "(J)J"⟩
abbrev cX11_hashJournal : ByteArray := prog_1_method_28_code
def yX11_hashJournal : MethodName := ⟨RX11, "hashJournal", "(J)J"⟩
abbrev cX11_within : ByteArray := prog_1_method_29_code
def yX11_within : MethodName := ⟨RX11, "within", "(III)Z"⟩
def RX12 : String := "FeltGlassModel"
def TX12 : u_T := fun k => match k with
  | 0 => ("FeltGlassModel", "pageLength", "I", false)
  | 1 => ("FeltGlassModel", "page", "[I", true)
  | 2 => ("FeltGlassModel", "wide", "I", false)
  | 3 => ("FeltGlassModel", "high", "I", false)
  | 4 => ("FeltGlassModel", "airOf", "[I", true)
  | 5 => ("FeltGlassModel", "used", "[I", true)
  | 6 => ("FeltGlassModel", "raw", "[I", true)
  | 7 => ("FeltGlassModel", "delta", "[I", true)
  | 8 => ("FeltGlassModel", "spotOf", "[I", true)
  | 9 => ("FeltGlassModel", "isOn", "[Z", true)
  | 10 => ("FeltGlassModel", "fingerU", "[I", true)
  | 11 => ("FeltGlassModel", "fingerV", "[I", true)
  | 12 => ("FeltGlassModel", "power", "[I", true)
  | 13 => ("FeltGlassModel", "noiseOf", "[I", true)
  | 14 => ("FeltGlassModel", "bounds", "[I", true)
  | 15 => ("FeltGlassModel", "drive", "I", false)
  | 16 => ("FeltGlassModel", "seedNow", "I", false)
  | 17 => ("FeltGlassModel", "framesHere", "I", false)
  | 18 => ("FeltGlassModel", "spanNow", "I", false)
  | 19 => ("FeltGlassModel", "wasNoisy", "Z", false)
  | 20 => ("FeltGlassModel", "spots", "I", false)
  | 21 => ("FeltGlassModel", "spotTop", "[I", true)
  | 22 => ("FeltGlassModel", "spotSize", "[I", true)
  | 23 => ("FeltGlassModel", "spotMass", "[I", true)
  | 24 => ("FeltGlassModel", "spotX", "[I", true)
  | 25 => ("FeltGlassModel", "spotY", "[I", true)
  | 26 => ("FeltGlassModel", "spotId", "[I", true)
  | 27 => ("FeltGlassModel", "tracks", "I", false)
  | 28 => ("FeltGlassModel", "trackId", "[I", true)
  | 29 => ("FeltGlassModel", "trackX", "[I", true)
  | 30 => ("FeltGlassModel", "trackY", "[I", true)
  | 31 => ("FeltGlassModel", "trackSize", "[I", true)
  | 32 => ("FeltGlassModel", "trackMass", "[I", true)
  | 33 => ("FeltGlassModel", "age", "[I", true)
  | 34 => ("FeltGlassModel", "missed", "[I", true)
  | 35 => ("FeltGlassModel", "moved", "[I", true)
  | 36 => ("FeltGlassModel", "isPalm", "[Z", true)
  | 37 => ("FeltGlassModel", "kept", "I", false)
  | 38 => ("FeltGlassModel", "eventSort", "[I", true)
  | 39 => ("FeltGlassModel", "eventId", "[I", true)
  | 40 => ("FeltGlassModel", "eventFrame", "[I", true)
  | 41 => ("FeltGlassModel", "eventsOf", "[I", true)
  | 42 => ("FeltGlassModel", "framesEver", "I", false)
  | 43 => ("FeltGlassModel", "noisyEver", "I", false)
  | 44 => ("FeltGlassModel", "ids", "I", false)
  | 45 => ("FeltGlassModel", "textsRead", "I", false)
  | 46 => ("FeltGlassModel", "glasses", "I", false)
  | 47 => ("FeltGlassModel", "stage", "I", false)
  | 48 => ("FeltGlassModel", "figures", "I", false)
  | 49 => ("FeltGlassModel", "newFinger", "I", false)
  | 50 => ("FeltGlassModel", "newU", "I", false)
  | 51 => ("FeltGlassModel", "newV", "I", false)
  | 52 => ("FeltGlassModel", "isTaken", "Z", false)
  | 53 => ("FeltGlassModel", "topOf", "[I", true)
  | 54 => ("FeltGlassModel", "pairsOf", "[I", true)
  | 55 => ("FeltGlassModel", "costOf", "[I", true)
  | 56 => ("FeltGlassModel", "pairOf", "[I", true)
  | _ => ("FeltGlassModel", "h", "J", false)
def tyX12 : Nat → FieldType := fun k => match k with
  | 0 => .int
  | 1 => .array .int
  | 2 => .int
  | 3 => .int
  | 4 => .array .int
  | 5 => .array .int
  | 6 => .array .int
  | 7 => .array .int
  | 8 => .array .int
  | 9 => .array .boolean
  | 10 => .array .int
  | 11 => .array .int
  | 12 => .array .int
  | 13 => .array .int
  | 14 => .array .int
  | 15 => .int
  | 16 => .int
  | 17 => .int
  | 18 => .int
  | 19 => .boolean
  | 20 => .int
  | 21 => .array .int
  | 22 => .array .int
  | 23 => .array .int
  | 24 => .array .int
  | 25 => .array .int
  | 26 => .array .int
  | 27 => .int
  | 28 => .array .int
  | 29 => .array .int
  | 30 => .array .int
  | 31 => .array .int
  | 32 => .array .int
  | 33 => .array .int
  | 34 => .array .int
  | 35 => .array .int
  | 36 => .array .boolean
  | 37 => .int
  | 38 => .array .int
  | 39 => .array .int
  | 40 => .array .int
  | 41 => .array .int
  | 42 => .int
  | 43 => .int
  | 44 => .int
  | 45 => .int
  | 46 => .int
  | 47 => .int
  | 48 => .int
  | 49 => .int
  | 50 => .int
  | 51 => .int
  | 52 => .boolean
  | 53 => .array .int
  | 54 => .array .int
  | 55 => .array .int
  | 56 => .array .int
  | _ => .long
abbrev wsX120 : List Cond := u_ws RX12 TX12 58
theorem nmX12 : ∀ a, a < 58 → ∀ b, b < 58 → a ≠ b → (TX12 a).2.1 ≠ (TX12 b).2.1 := by decide +kernel
theorem tyX12_ok : ∀ k, k < 58 → parseFieldDescriptor (TX12 k).2.2.1 = some (tyX12 k) := by decide +kernel
abbrev cX12_init : ByteArray := prog_14_method_1_code
def yX12_init : MethodName := ⟨RX12, "<init>", "()V"⟩
abbrev cX12_within : ByteArray := prog_14_method_3_code
def yX12_within : MethodName := ⟨RX12, "within", "(III)Z"⟩
abbrev cX12_abs : ByteArray := prog_14_method_4_code
def yX12_abs : MethodName := ⟨RX12, "abs", "(I)I"⟩
abbrev cX12_isGlass : ByteArray := prog_14_method_5_code
def yX12_isGlass : MethodName := ⟨RX12, "isGlass", "()Z"⟩
abbrev cX12_cells : ByteArray := prog_14_method_6_code
def yX12_cells : MethodName := ⟨RX12, "cells", "()I"⟩
abbrev cX12_letter : ByteArray := prog_14_method_7_code
def yX12_letter : MethodName := ⟨RX12, "letter", "(I)I"⟩
abbrev cX12_blank : ByteArray := prog_14_method_8_code
def yX12_blank : MethodName := ⟨RX12, "blank", "()I"⟩
abbrev cX12_mostNow : ByteArray := prog_14_method_9_code
def yX12_mostNow : MethodName := ⟨RX12, "mostNow", "()I"⟩
abbrev cX12_takesFigure : ByteArray := prog_14_method_10_code
def yX12_takesFigure : MethodName := ⟨RX12, "takesFigure", "(I)Z"⟩
abbrev cX12_goes : ByteArray := prog_14_method_11_code
def yX12_goes : MethodName := ⟨RX12, "goes", "(ZI)Z"⟩
abbrev cX12_takesSign : ByteArray := prog_14_method_12_code
def yX12_takesSign : MethodName := ⟨RX12, "takesSign", "(I)Z"⟩
abbrev cX12_putOn : ByteArray := prog_14_method_13_code
def yX12_putOn : MethodName := ⟨RX12, "putOn", "(I)V"⟩
abbrev cX12_takesDigit : ByteArray := prog_14_method_14_code
def yX12_takesDigit : MethodName := ⟨RX12, "takesDigit", "(I)Z"⟩
abbrev cX12_takesKind : ByteArray := prog_14_method_15_code
def yX12_takesKind : MethodName := ⟨RX12, "takesKind", "(I)Z"⟩
abbrev cX12_takes : ByteArray := prog_14_method_16_code
def yX12_takes : MethodName := ⟨RX12, "takes", "(I)Z"⟩
abbrev cX12_goAlong : ByteArray := prog_14_method_17_code
def yX12_goAlong : MethodName := ⟨RX12, "goAlong", "(Z)I"⟩
abbrev cX12_fault : ByteArray := prog_14_method_18_code
def yX12_fault : MethodName := ⟨RX12, "fault", "()I"⟩
abbrev cX12_onMany : ByteArray := prog_14_method_19_code
def yX12_onMany : MethodName := ⟨RX12, "onMany", "()I"⟩
abbrev cX12_fingers : ByteArray := prog_14_method_20_code
def yX12_fingers : MethodName := ⟨RX12, "fingers", "()I"⟩
abbrev cX12_layBounds : ByteArray := prog_14_method_21_code
def yX12_layBounds : MethodName := ⟨RX12, "layBounds", "()V"⟩
abbrev cX12_glass : ByteArray := prog_14_method_22_code
def yX12_glass : MethodName := ⟨RX12, "glass", "(II)I"⟩
abbrev cX12_isCell : ByteArray := prog_14_method_23_code
def yX12_isCell : MethodName := ⟨RX12, "isCell", "(I)Z"⟩
abbrev cX12_air : ByteArray := prog_14_method_24_code
def yX12_air : MethodName := ⟨RX12, "air", "(II)I"⟩
abbrev cX12_held : ByteArray := prog_14_method_25_code
def yX12_held : MethodName := ⟨RX12, "held", "(I)I"⟩
abbrev cX12_warm : ByteArray := prog_14_method_26_code
def yX12_warm : MethodName := ⟨RX12, "warm", "(I)I"⟩
abbrev cX12_noise : ByteArray := prog_14_method_27_code
def yX12_noise : MethodName := ⟨RX12, "noise", "(II)I"⟩
abbrev cX12_seed : ByteArray := prog_14_method_28_code
def yX12_seed : MethodName := ⟨RX12, "seed", "(I)I"⟩
abbrev cX12_isBound : ByteArray := prog_14_method_29_code
def yX12_isBound : MethodName := ⟨RX12, "isBound", "(II)Z"⟩
abbrev cX12_bound : ByteArray := prog_14_method_30_code
def yX12_bound : MethodName := ⟨RX12, "bound", "(II)I"⟩
abbrev cX12_settle : ByteArray := prog_14_method_31_code
def yX12_settle : MethodName := ⟨RX12, "settle", "()I"⟩
abbrev cX12_feltOf : ByteArray := prog_14_method_32_code
def yX12_feltOf : MethodName := ⟨RX12, "feltOf", "(II)I"⟩
abbrev cX12_feltAll : ByteArray := prog_14_method_33_code
def yX12_feltAll : MethodName := ⟨RX12, "feltAll", "(I)I"⟩
abbrev cX12_draw : ByteArray := prog_14_method_34_code
def yX12_draw : MethodName := ⟨RX12, "draw", "(I)I"⟩
abbrev cX12_layRaw : ByteArray := prog_14_method_35_code
def yX12_layRaw : MethodName := ⟨RX12, "layRaw", "()V"⟩
abbrev cX12_beside : ByteArray := prog_14_method_36_code
def yX12_beside : MethodName := ⟨RX12, "beside", "(II)I"⟩
abbrev cX12_isTouched : ByteArray := prog_14_method_37_code
def yX12_isTouched : MethodName := ⟨RX12, "isTouched", "(I)Z"⟩
abbrev cX12_isNearTouched : ByteArray := prog_14_method_38_code
def yX12_isNearTouched : MethodName := ⟨RX12, "isNearTouched", "(I)Z"⟩
abbrev cX12_spanOf : ByteArray := prog_14_method_39_code
def yX12_spanOf : MethodName := ⟨RX12, "spanOf", "()I"⟩
abbrev cX12_higher : ByteArray := prog_14_method_40_code
def yX12_higher : MethodName := ⟨RX12, "higher", "(I)I"⟩
abbrev cX12_layTops : ByteArray := prog_14_method_41_code
def yX12_layTops : MethodName := ⟨RX12, "layTops", "()V"⟩
abbrev cX12_lesser : ByteArray := prog_14_method_42_code
def yX12_lesser : MethodName := ⟨RX12, "lesser", "(II)I"⟩
abbrev cX12_passOf : ByteArray := prog_14_method_43_code
def yX12_passOf : MethodName := ⟨RX12, "passOf", "(II)I"⟩
abbrev cX12_isTop : ByteArray := prog_14_method_44_code
def yX12_isTop : MethodName := ⟨RX12, "isTop", "(I)Z"⟩
abbrev cX12_isJoined : ByteArray := prog_14_method_45_code
def yX12_isJoined : MethodName := ⟨RX12, "isJoined", "(III)Z"⟩
abbrev cX12_joinOnce : ByteArray := prog_14_method_46_code
def yX12_joinOnce : MethodName := ⟨RX12, "joinOnce", "()Z"⟩
abbrev cX12_layHills : ByteArray := prog_14_method_47_code
def yX12_layHills : MethodName := ⟨RX12, "layHills", "()V"⟩
abbrev cX12_massOf : ByteArray := prog_14_method_48_code
def yX12_massOf : MethodName := ⟨RX12, "massOf", "(I)I"⟩
abbrev cX12_sizeOf : ByteArray := prog_14_method_49_code
def yX12_sizeOf : MethodName := ⟨RX12, "sizeOf", "(I)I"⟩
abbrev cX12_isHigh : ByteArray := prog_14_method_50_code
def yX12_isHigh : MethodName := ⟨RX12, "isHigh", "(I)Z"⟩
abbrev cX12_aheadOf : ByteArray := prog_14_method_51_code
def yX12_aheadOf : MethodName := ⟨RX12, "aheadOf", "(I)I"⟩
abbrev cX12_laySpot : ByteArray := prog_14_method_52_code
def yX12_laySpot : MethodName := ⟨RX12, "laySpot", "(I)V"⟩
abbrev cX12_laySpots : ByteArray := prog_14_method_53_code
def yX12_laySpots : MethodName := ⟨RX12, "laySpots", "()V"⟩
abbrev cX12_isNear : ByteArray := prog_14_method_54_code
def yX12_isNear : MethodName := ⟨RX12, "isNear", "(II)Z"⟩
abbrev cX12_pairCost : ByteArray := prog_14_method_55_code
def yX12_pairCost : MethodName := ⟨RX12, "pairCost", "(II)I"⟩
abbrev cX12_isBetter : ByteArray := prog_14_method_56_code
def yX12_isBetter : MethodName := ⟨RX12, "isBetter", "(III)Z"⟩
abbrev cX12_layPairsOf : ByteArray := prog_14_method_57_code
def yX12_layPairsOf : MethodName := ⟨RX12, "layPairsOf", "(II)V"⟩
abbrev cX12_isBestPair : ByteArray := prog_14_method_58_code
def yX12_isBestPair : MethodName := ⟨RX12, "isBestPair", "(III)Z"⟩
abbrev cX12_layPairs : ByteArray := prog_14_method_59_code
def yX12_layPairs : MethodName := ⟨RX12, "layPairs", "()V"⟩
abbrev cX12_happens : ByteArray := prog_14_method_60_code
def yX12_happens : MethodName := ⟨RX12, "happens", "(II)V"⟩
abbrev cX12_follow : ByteArray := prog_14_method_61_code
def yX12_follow : MethodName := ⟨RX12, "follow", "(II)V"⟩
abbrev cX12_lay : ByteArray := prog_14_method_62_code
def yX12_lay : MethodName := ⟨RX12, "lay", "(II)V"⟩
abbrev cX12_isLost : ByteArray := prog_14_method_63_code
def yX12_isLost : MethodName := ⟨RX12, "isLost", "(I)Z"⟩
abbrev cX12_keepAs : ByteArray := prog_14_method_64_code
def yX12_keepAs : MethodName := ⟨RX12, "keepAs", "(II)V"⟩
abbrev cX12_followAll : ByteArray := prog_14_method_65_code
def yX12_followAll : MethodName := ⟨RX12, "followAll", "()V"⟩
abbrev cX12_beginAll : ByteArray := prog_14_method_66_code
def yX12_beginAll : MethodName := ⟨RX12, "beginAll", "()V"⟩
abbrev cX12_isNearSpot : ByteArray := prog_14_method_67_code
def yX12_isNearSpot : MethodName := ⟨RX12, "isNearSpot", "(I)Z"⟩
abbrev cX12_drift : ByteArray := prog_14_method_68_code
def yX12_drift : MethodName := ⟨RX12, "drift", "()V"⟩
abbrev cX12_frame : ByteArray := prog_14_method_69_code
def yX12_frame : MethodName := ⟨RX12, "frame", "()V"⟩
abbrev cX12_eventsAll : ByteArray := prog_14_method_70_code
def yX12_eventsAll : MethodName := ⟨RX12, "eventsAll", "()I"⟩
abbrev cX12_frames : ByteArray := prog_14_method_71_code
def yX12_frames : MethodName := ⟨RX12, "frames", "(I)I"⟩
abbrev cX12_fingerNow : ByteArray := prog_14_method_72_code
def yX12_fingerNow : MethodName := ⟨RX12, "fingerNow", "(II)I"⟩
abbrev cX12_finger : ByteArray := prog_14_method_73_code
def yX12_finger : MethodName := ⟨RX12, "finger", "(II)I"⟩
abbrev cX12_cellNow : ByteArray := prog_14_method_74_code
def yX12_cellNow : MethodName := ⟨RX12, "cellNow", "(II)I"⟩
abbrev cX12_cell : ByteArray := prog_14_method_75_code
def yX12_cell : MethodName := ⟨RX12, "cell", "(II)I"⟩
abbrev cX12_aboutNow : ByteArray := prog_14_method_76_code
def yX12_aboutNow : MethodName := ⟨RX12, "aboutNow", "(I)I"⟩
abbrev cX12_about : ByteArray := prog_14_method_77_code
def yX12_about : MethodName := ⟨RX12, "about", "(I)I"⟩
abbrev cX12_spotNow : ByteArray := prog_14_method_78_code
def yX12_spotNow : MethodName := ⟨RX12, "spotNow", "(II)I"⟩
abbrev cX12_spot : ByteArray := prog_14_method_79_code
def yX12_spot : MethodName := ⟨RX12, "spot", "(II)I"⟩
abbrev cX12_trackNow : ByteArray := prog_14_method_80_code
def yX12_trackNow : MethodName := ⟨RX12, "trackNow", "(II)I"⟩
abbrev cX12_isTrack : ByteArray := prog_14_method_81_code
def yX12_isTrack : MethodName := ⟨RX12, "isTrack", "(I)Z"⟩
abbrev cX12_track : ByteArray := prog_14_method_82_code
def yX12_track : MethodName := ⟨RX12, "track", "(II)I"⟩
abbrev cX12_as : ByteArray := prog_14_method_83_code
def yX12_as : MethodName := ⟨RX12, "as", "(II)I"⟩
abbrev cX12_event : ByteArray := prog_14_method_84_code
def yX12_event : MethodName := ⟨RX12, "event", "(II)I"⟩
abbrev cX12_eventNow : ByteArray := prog_14_method_85_code
def yX12_eventNow : MethodName := ⟨RX12, "eventNow", "(II)I"⟩
abbrev cX12_howMany : ByteArray := prog_14_method_86_code
def yX12_howMany : MethodName := ⟨RX12, "howMany", "(I)I"⟩
abbrev cX12_count : ByteArray := prog_14_method_87_code
def yX12_count : MethodName := ⟨RX12, "count", "(I)I"⟩
abbrev cX12_events : ByteArray := prog_14_method_88_code
def yX12_events : MethodName := ⟨RX12, "events", "(I)I"⟩
abbrev cX12_mix : ByteArray := prog_14_method_89_code
def yX12_mix : MethodName := ⟨RX12, "mix", "(J)V"⟩
abbrev cX12_mixGlass : ByteArray := prog_14_method_90_code
def yX12_mixGlass : MethodName := ⟨RX12, "mixGlass", "()V"⟩
abbrev cX12_digest : ByteArray := prog_14_method_91_code
def yX12_digest : MethodName := ⟨RX12, "digest", "()J"⟩
def RJ9 : String := "java/lang/Math"
def TJ9 : u_T := fun k => match k with
  | _ => ("", "", "", false)
def tyJ9 : Nat → FieldType := fun k => match k with
  | _ => .int
abbrev wsJ90 : List Cond := u_ws RJ9 TJ9 0
theorem nmJ9 : ∀ a, a < 0 → ∀ b, b < 0 → a ≠ b → (TJ9 a).2.1 ≠ (TJ9 b).2.1 := by decide +kernel
theorem tyJ9_ok : ∀ k, k < 0 → parseFieldDescriptor (TJ9 k).2.2.1 = some (tyJ9 k) := by decide +kernel
abbrev cJ9_floorMod_7cf53 : ByteArray := prog_15_method_50_code
def yJ9_floorMod_7cf53 : MethodName := ⟨RJ9, "floorMod", "(II)I"⟩
abbrev cJ9_abs_0f7a4 : ByteArray := prog_15_method_59_code
def yJ9_abs_0f7a4 : MethodName := ⟨RJ9, "abs", "(I)I"⟩
abbrev cJ9_max_7cf53 : ByteArray := prog_15_method_65_code
def yJ9_max_7cf53 : MethodName := ⟨RJ9, "max", "(II)I"⟩
abbrev cJ9_min_7cf53 : ByteArray := prog_15_method_69_code
def yJ9_min_7cf53 : MethodName := ⟨RJ9, "min", "(II)I"⟩
def RJ10 : String := "java/lang/System"
def TJ10 : u_T := fun k => match k with
  | _ => ("", "", "", false)
def tyJ10 : Nat → FieldType := fun k => match k with
  | _ => .int
abbrev wsJ100 : List Cond := u_ws RJ10 TJ10 0
theorem nmJ10 : ∀ a, a < 0 → ∀ b, b < 0 → a ≠ b → (TJ10 a).2.1 ≠ (TJ10 b).2.1 := by decide +kernel
theorem tyJ10_ok : ∀ k, k < 0 → parseFieldDescriptor (TJ10 k).2.2.1 = some (tyJ10 k) := by decide +kernel
def RJ7 : String := "java/util/Arrays"
def TJ7 : u_T := fun k => match k with
  | _ => ("", "", "", false)
def tyJ7 : Nat → FieldType := fun k => match k with
  | _ => .int
abbrev wsJ70 : List Cond := u_ws RJ7 TJ7 0
theorem nmJ7 : ∀ a, a < 0 → ∀ b, b < 0 → a ≠ b → (TJ7 a).2.1 ≠ (TJ7 b).2.1 := by decide +kernel
theorem tyJ7_ok : ∀ k, k < 0 → parseFieldDescriptor (TJ7 k).2.2.1 = some (tyJ7 k) := by decide +kernel
abbrev cJ7_fill_53178 : ByteArray := prog_17_method_103_code
def yJ7_fill_53178 : MethodName := ⟨RJ7, "fill", "([II)V"⟩
def RL : String := "FeltGlassLaw"
abbrev cL_law : ByteArray := code
def yL_law : MethodName := ⟨RL, "law", "([I)Z"⟩
abbrev vwCl : List vw_C := [(RX0, TX0, 3), (RX1, TX1, 7), (RX2, TX2, 4), (RX3, TX3, 7), (RX4, TX4, 5), (RX5, TX5, 6), (RX6, TX6, 4), (RX7, TX7, 15), (RX8, TX8, 11), (RX9, TX9, 7), (RX10, TX10, 5), (RX11, TX11, 5), (RX12, TX12, 58)]
end
section
/-! ===== the words that the walks use, by their places in the tables ===== -/
def zALL : List Cond := lw_tbl.filter goodWord
theorem zALL_in : ∀ w ∈ zALL, w ∈ lw_tbl := fun w h => (List.mem_filter.mp h).1
theorem zALL_good : ∀ w ∈ zALL, goodWord w = true := fun w h => (List.mem_filter.mp h).2
theorem zTm {w : Cond} (h : w ∈ tables_1) (g : goodWord w = true) : w ∈ zALL := List.mem_filter.mpr ⟨List.mem_append_right _ h, g⟩
theorem zT1 {w : Cond} (i : Nat) (h : tables_1_1[i]? = some w) (g : goodWord w = true) : w ∈ zALL := zTm (List.mem_append_left _ (List.mem_of_getElem? h)) g
theorem zU1 {w : Cond} (i : Nat) (h : tables_1_1[i]? = some w) : w ∈ lw_tbl := List.mem_append_right _ (List.mem_append_left _ (List.mem_of_getElem? h))
theorem zT2 {w : Cond} (i : Nat) (h : tables_1_2[i]? = some w) (g : goodWord w = true) : w ∈ zALL := zTm (List.mem_append_right _ (List.mem_append_left _ (List.mem_of_getElem? h))) g
theorem zU2 {w : Cond} (i : Nat) (h : tables_1_2[i]? = some w) : w ∈ lw_tbl := List.mem_append_right _ (List.mem_append_right _ (List.mem_append_left _ (List.mem_of_getElem? h)))
theorem zT3 {w : Cond} (i : Nat) (h : tables_1_3[i]? = some w) (g : goodWord w = true) : w ∈ zALL := zTm (List.mem_append_right _ (List.mem_append_right _ (List.mem_append_left _ (List.mem_of_getElem? h)))) g
theorem zU3 {w : Cond} (i : Nat) (h : tables_1_3[i]? = some w) : w ∈ lw_tbl := List.mem_append_right _ (List.mem_append_right _ (List.mem_append_right _ (List.mem_append_left _ (List.mem_of_getElem? h))))
theorem zT4 {w : Cond} (i : Nat) (h : tables_1_4[i]? = some w) (g : goodWord w = true) : w ∈ zALL := zTm (List.mem_append_right _ (List.mem_append_right _ (List.mem_append_right _ (List.mem_append_left _ (List.mem_of_getElem? h))))) g
theorem zU4 {w : Cond} (i : Nat) (h : tables_1_4[i]? = some w) : w ∈ lw_tbl := List.mem_append_right _ (List.mem_append_right _ (List.mem_append_right _ (List.mem_append_right _ (List.mem_append_left _ (List.mem_of_getElem? h)))))
theorem zT5 {w : Cond} (i : Nat) (h : tables_1_5[i]? = some w) (g : goodWord w = true) : w ∈ zALL := zTm (List.mem_append_right _ (List.mem_append_right _ (List.mem_append_right _ (List.mem_append_right _ (List.mem_append_left _ (List.mem_of_getElem? h)))))) g
theorem zU5 {w : Cond} (i : Nat) (h : tables_1_5[i]? = some w) : w ∈ lw_tbl := List.mem_append_right _ (List.mem_append_right _ (List.mem_append_right _ (List.mem_append_right _ (List.mem_append_right _ (List.mem_append_left _ (List.mem_of_getElem? h))))))
theorem zT6 {w : Cond} (i : Nat) (h : tables_1_6[i]? = some w) (g : goodWord w = true) : w ∈ zALL := zTm (List.mem_append_right _ (List.mem_append_right _ (List.mem_append_right _ (List.mem_append_right _ (List.mem_append_right _ (List.mem_of_getElem? h)))))) g
theorem zU6 {w : Cond} (i : Nat) (h : tables_1_6[i]? = some w) : w ∈ lw_tbl := List.mem_append_right _ (List.mem_append_right _ (List.mem_append_right _ (List.mem_append_right _ (List.mem_append_right _ (List.mem_append_right _ (List.mem_of_getElem? h))))))
theorem zTs {q : MethodName × Nat} (i : Nat) (h : lw_privs[i]? = some q) : Cond.selects q.1.cls q.1 q.1 ∈ zALL := List.mem_filter.mpr ⟨List.mem_append_left _ (List.mem_map.mpr ⟨q, List.mem_of_getElem? h, rfl⟩), rfl⟩
theorem k1_0 : Cond.initialized "FeltGlassLaw" ∈ zALL := zT1 0 rfl rfl
theorem k1_1 : Cond.initialized "FeltGlass" ∈ zALL := zT1 1 rfl rfl
theorem k1_2 : Cond.initialized "FeltGlass$Page" ∈ zALL := zT1 2 rfl rfl
theorem k1_3 : Cond.initialized "FeltGlass$Hand" ∈ zALL := zT1 3 rfl rfl
theorem k1_4 : Cond.initialized "FeltGlass$Journal" ∈ zALL := zT1 4 rfl rfl
theorem k1_5 : Cond.initialized "FeltGlass$Panel" ∈ zALL := zT1 5 rfl rfl
theorem k1_6 : Cond.initialized "FeltGlass$Grid" ∈ zALL := zT1 6 rfl rfl
theorem k1_7 : Cond.initialized "FeltGlass$Drives" ∈ zALL := zT1 7 rfl rfl
theorem k1_8 : Cond.initialized "FeltGlass$Pairing" ∈ zALL := zT1 8 rfl rfl
theorem k1_9 : Cond.initialized "FeltGlass$Surface" ∈ zALL := zT1 9 rfl rfl
theorem k1_10 : Cond.initialized "FeltGlass$Hills" ∈ zALL := zT1 10 rfl rfl
theorem k1_11 : Cond.initialized "FeltGlass$Spots" ∈ zALL := zT1 11 rfl rfl
theorem k1_12 : Cond.initialized "FeltGlass$Tracks" ∈ zALL := zT1 12 rfl rfl
theorem k1_13 : Cond.initialized "FeltGlassModel" ∈ zALL := zT1 13 rfl rfl
theorem k1_14 : Cond.initialized "java/lang/Math" ∈ zALL := zT1 14 rfl rfl
theorem k1_15 : Cond.initialized "java/util/Arrays" ∈ zALL := zT1 15 rfl rfl
theorem k1_16 : Cond.initialized "java/lang/System" ∈ zALL := zT1 16 rfl rfl
theorem k1_17 : Cond.classLink "FeltGlassLaw" 7 "FeltGlass" ∈ zALL := zT1 17 rfl rfl
theorem k1_18 : Cond.instantiable "FeltGlass" 5 ∈ zALL := zT1 18 rfl rfl
theorem k1_19 : Cond.methodLink "FeltGlassLaw" 9 yX11_init ∈ zALL := zT1 19 rfl rfl
theorem k1_20 : Cond.instanceMethod yX11_init ∈ zALL := zT1 20 rfl rfl
theorem k1_21 : Cond.code yX11_init prog_1_method_1_code 1 none ∈ zALL := zT1 21 rfl rfl
theorem k1_22 : Cond.methodLink "FeltGlass" 1 objectInit ∈ zALL := zT1 22 rfl rfl
theorem k1_23 : Cond.instanceMethod objectInit ∈ zALL := zT1 23 rfl rfl
theorem k1_24 : Cond.code objectInit object_method_1_code 1 none ∈ zALL := zT1 24 rfl rfl
theorem k1_25 : Cond.classLink "FeltGlass" 7 "FeltGlass$Page" ∈ zALL := zT1 25 rfl rfl
theorem k1_26 : Cond.instantiable "FeltGlass$Page" 6 ∈ zALL := zT1 26 rfl rfl
theorem k1_28 : Cond.instanceMethod yX5_init ∈ zALL := zT1 28 rfl rfl
theorem k1_29 : Cond.code yX5_init prog_7_method_1_code 1 none ∈ zALL := zT1 29 rfl rfl
theorem k1_30 : Cond.methodLink "FeltGlass$Page" 3 objectInit ∈ zALL := zT1 30 rfl rfl
theorem k1_31 : Cond.classLink "FeltGlass$Page" 15 "FeltGlass$Hand" ∈ zALL := zT1 31 rfl rfl
theorem k1_32 : Cond.instantiable "FeltGlass$Hand" 4 ∈ zALL := zT1 32 rfl rfl
theorem k1_34 : Cond.instanceMethod yX2_init ∈ zALL := zT1 34 rfl rfl
theorem k1_35 : Cond.code yX2_init prog_4_method_1_code 1 none ∈ zALL := zT1 35 rfl rfl
theorem k1_36 : Cond.methodLink "FeltGlass$Hand" 3 objectInit ∈ zALL := zT1 36 rfl rfl
theorem k1_37 : Cond.fieldLink "FeltGlass$Hand" 9 "FeltGlass$Hand" "on" "[Z" ∈ zALL := zT1 37 rfl rfl
theorem k1_38 : Cond.fieldLink "FeltGlass$Page" 63 "FeltGlass$Hand" "on" "[Z" ∈ zALL := zT1 38 rfl rfl
theorem k1_39 : Cond.fieldLink "FeltGlass$Hand" 15 "FeltGlass$Hand" "u" "[I" ∈ zALL := zT1 39 rfl rfl
theorem k1_40 : Cond.fieldLink "FeltGlass$Hand" 19 "FeltGlass$Hand" "v" "[I" ∈ zALL := zT1 40 rfl rfl
theorem k1_41 : Cond.fieldLink "FeltGlass$Hand" 22 "FeltGlass$Hand" "power" "[I" ∈ zALL := zT1 41 rfl rfl
theorem k1_51 : Cond.arrayClass .int ∈ zALL := zT1 51 rfl rfl
theorem k1_52 : Cond.arrayClass .boolean ∈ zALL := zT1 52 rfl rfl
theorem k1_53 : Cond.fieldLink "FeltGlass$Page" 9 "FeltGlass$Page" "sign" "[I" ∈ zALL := zT1 53 rfl rfl
theorem k1_54 : Cond.fieldLink "FeltGlass" 210 "FeltGlass$Page" "sign" "[I" ∈ zALL := zT1 54 rfl rfl
theorem k1_55 : Cond.fieldLink "FeltGlass$Page" 22 "FeltGlass$Page" "length" "I" ∈ zALL := zT1 55 rfl rfl
theorem k1_56 : Cond.fieldLink "FeltGlass" 36 "FeltGlass$Page" "length" "I" ∈ zALL := zT1 56 rfl rfl
theorem k1_57 : Cond.fieldLink "FeltGlass$Page" 18 "FeltGlass$Page" "draft" "LFeltGlass$Hand;" ∈ zALL := zT1 57 rfl rfl
theorem k1_58 : Cond.fieldLink "FeltGlass" 63 "FeltGlass$Page" "draft" "LFeltGlass$Hand;" ∈ zALL := zT1 58 rfl rfl
theorem k1_59 : Cond.fieldLink "FeltGlass$Page" 44 "FeltGlass$Page" "at" "I" ∈ zALL := zT1 59 rfl rfl
theorem k1_60 : Cond.fieldLink "FeltGlass" 60 "FeltGlass$Page" "at" "I" ∈ zALL := zT1 60 rfl rfl
theorem k1_61 : Cond.fieldLink "FeltGlass$Page" 31 "FeltGlass$Page" "mostU" "I" ∈ zALL := zT1 61 rfl rfl
theorem k1_62 : Cond.fieldLink "FeltGlass$Page" 37 "FeltGlass$Page" "mostV" "I" ∈ zALL := zT1 62 rfl rfl
theorem k1_76 : Cond.classLink "FeltGlass" 16 "FeltGlass$Journal" ∈ zALL := zT1 76 rfl rfl
theorem k1_77 : Cond.instantiable "FeltGlass$Journal" 5 ∈ zALL := zT1 77 rfl rfl
theorem k1_79 : Cond.instanceMethod yX4_init ∈ zALL := zT1 79 rfl rfl
theorem k1_80 : Cond.code yX4_init prog_6_method_1_code 1 none ∈ zALL := zT1 80 rfl rfl
theorem k1_81 : Cond.methodLink "FeltGlass$Journal" 3 objectInit ∈ zALL := zT1 81 rfl rfl
theorem k1_82 : Cond.fieldLink "FeltGlass$Journal" 9 "FeltGlass$Journal" "sort" "[I" ∈ zALL := zT1 82 rfl rfl
theorem k1_83 : Cond.fieldLink "FeltGlass$Journal" 15 "FeltGlass$Journal" "track" "[I" ∈ zALL := zT1 83 rfl rfl
theorem k1_84 : Cond.fieldLink "FeltGlass$Journal" 18 "FeltGlass$Journal" "frame" "[I" ∈ zALL := zT1 84 rfl rfl
theorem k1_85 : Cond.fieldLink "FeltGlass$Journal" 21 "FeltGlass$Journal" "occurred" "[I" ∈ zALL := zT1 85 rfl rfl
theorem k1_86 : Cond.fieldLink "FeltGlass" 187 "FeltGlass$Journal" "occurred" "[I" ∈ zALL := zT1 86 rfl rfl
theorem k1_87 : Cond.fieldLink "FeltGlass$Journal" 24 "FeltGlass$Journal" "written" "I" ∈ zALL := zT1 87 rfl rfl
theorem k1_88 : Cond.fieldLink "FeltGlass" 136 "FeltGlass$Journal" "written" "I" ∈ zALL := zT1 88 rfl rfl
theorem k1_100 : Cond.classLink "FeltGlass" 23 "FeltGlass$Panel" ∈ zALL := zT1 100 rfl rfl
theorem k1_101 : Cond.instantiable "FeltGlass$Panel" 15 ∈ zALL := zT1 101 rfl rfl
theorem k1_102 : Cond.methodLink "FeltGlass" 25 yX7_init ∈ zALL := zT1 102 rfl rfl
theorem k1_103 : Cond.instanceMethod yX7_init ∈ zALL := zT1 103 rfl rfl
theorem k1_104 : Cond.code yX7_init prog_9_method_1_code 2 none ∈ zALL := zT1 104 rfl rfl
theorem k1_105 : Cond.methodLink "FeltGlass$Panel" 3 objectInit ∈ zALL := zT1 105 rfl rfl
theorem k1_106 : Cond.classLink "FeltGlass$Panel" 9 "FeltGlass$Grid" ∈ zALL := zT1 106 rfl rfl
theorem k1_107 : Cond.instantiable "FeltGlass$Grid" 7 ∈ zALL := zT1 107 rfl rfl
theorem k1_109 : Cond.instanceMethod yX1_init ∈ zALL := zT1 109 rfl rfl
theorem k1_110 : Cond.code yX1_init prog_3_method_1_code 1 none ∈ zALL := zT1 110 rfl rfl
theorem k1_111 : Cond.methodLink "FeltGlass$Grid" 3 objectInit ∈ zALL := zT1 111 rfl rfl
theorem k1_112 : Cond.fieldLink "FeltGlass$Grid" 24 "FeltGlass$Grid" "wide" "I" ∈ zALL := zT1 112 rfl rfl
theorem k1_113 : Cond.fieldLink "FeltGlass$Page" 26 "FeltGlass$Grid" "wide" "I" ∈ zALL := zT1 113 rfl rfl
theorem k1_114 : Cond.fieldLink "FeltGlass$Panel" 189 "FeltGlass$Grid" "wide" "I" ∈ zALL := zT1 114 rfl rfl
theorem k1_115 : Cond.fieldLink "FeltGlass$Grid" 28 "FeltGlass$Grid" "high" "I" ∈ zALL := zT1 115 rfl rfl
theorem k1_116 : Cond.fieldLink "FeltGlass$Page" 34 "FeltGlass$Grid" "high" "I" ∈ zALL := zT1 116 rfl rfl
theorem k1_117 : Cond.fieldLink "FeltGlass$Panel" 192 "FeltGlass$Grid" "high" "I" ∈ zALL := zT1 117 rfl rfl
theorem k1_118 : Cond.fieldLink "FeltGlass$Grid" 31 "FeltGlass$Grid" "cells" "I" ∈ zALL := zT1 118 rfl rfl
theorem k1_119 : Cond.fieldLink "FeltGlass$Surface" 41 "FeltGlass$Grid" "cells" "I" ∈ zALL := zT1 119 rfl rfl
theorem k1_120 : Cond.fieldLink "FeltGlass$Hills" 60 "FeltGlass$Grid" "cells" "I" ∈ zALL := zT1 120 rfl rfl
theorem k1_121 : Cond.fieldLink "FeltGlass$Panel" 115 "FeltGlass$Grid" "cells" "I" ∈ zALL := zT1 121 rfl rfl
theorem k1_122 : Cond.fieldLink "FeltGlass$Spots" 84 "FeltGlass$Grid" "cells" "I" ∈ zALL := zT1 122 rfl rfl
theorem k1_123 : Cond.fieldLink "FeltGlass" 95 "FeltGlass$Grid" "cells" "I" ∈ zALL := zT1 123 rfl rfl
theorem k1_124 : Cond.fieldLink "FeltGlass$Grid" 9 "FeltGlass$Grid" "column" "[I" ∈ zALL := zT1 124 rfl rfl
theorem k1_125 : Cond.fieldLink "FeltGlass$Surface" 47 "FeltGlass$Grid" "column" "[I" ∈ zALL := zT1 125 rfl rfl
theorem k1_126 : Cond.fieldLink "FeltGlass$Spots" 89 "FeltGlass$Grid" "column" "[I" ∈ zALL := zT1 126 rfl rfl
theorem k1_127 : Cond.fieldLink "FeltGlass$Grid" 15 "FeltGlass$Grid" "row" "[I" ∈ zALL := zT1 127 rfl rfl
theorem k1_128 : Cond.fieldLink "FeltGlass$Surface" 50 "FeltGlass$Grid" "row" "[I" ∈ zALL := zT1 128 rfl rfl
theorem k1_129 : Cond.fieldLink "FeltGlass$Spots" 92 "FeltGlass$Grid" "row" "[I" ∈ zALL := zT1 129 rfl rfl
theorem k1_130 : Cond.fieldLink "FeltGlass$Grid" 18 "FeltGlass$Grid" "aroundCount" "[I" ∈ zALL := zT1 130 rfl rfl
theorem k1_131 : Cond.fieldLink "FeltGlass$Hills" 69 "FeltGlass$Grid" "aroundCount" "[I" ∈ zALL := zT1 131 rfl rfl
theorem k1_132 : Cond.fieldLink "FeltGlass$Grid" 21 "FeltGlass$Grid" "around" "[I" ∈ zALL := zT1 132 rfl rfl
theorem k1_148 : Cond.classLink "FeltGlass$Panel" 18 "FeltGlass$Hand" ∈ zALL := zT1 148 rfl rfl
theorem k1_150 : Cond.classLink "FeltGlass$Panel" 25 "FeltGlass$Drives" ∈ zALL := zT1 150 rfl rfl
theorem k1_151 : Cond.instantiable "FeltGlass$Drives" 3 ∈ zALL := zT1 151 rfl rfl
theorem k1_153 : Cond.instanceMethod yX0_init ∈ zALL := zT1 153 rfl rfl
theorem k1_154 : Cond.code yX0_init prog_2_method_1_code 1 none ∈ zALL := zT1 154 rfl rfl
theorem k1_155 : Cond.methodLink "FeltGlass$Drives" 3 objectInit ∈ zALL := zT1 155 rfl rfl
theorem k1_156 : Cond.fieldLink "FeltGlass$Drives" 9 "FeltGlass$Drives" "level" "[I" ∈ zALL := zT1 156 rfl rfl
theorem k1_157 : Cond.fieldLink "FeltGlass" 116 "FeltGlass$Drives" "level" "[I" ∈ zALL := zT1 157 rfl rfl
theorem k1_158 : Cond.fieldLink "FeltGlass$Drives" 21 "FeltGlass$Drives" "active" "I" ∈ zALL := zT1 158 rfl rfl
theorem k1_159 : Cond.fieldLink "FeltGlass$Panel" 195 "FeltGlass$Drives" "active" "I" ∈ zALL := zT1 159 rfl rfl
theorem k1_160 : Cond.fieldLink "FeltGlass$Drives" 25 "FeltGlass$Drives" "seed" "I" ∈ zALL := zT1 160 rfl rfl
theorem k1_161 : Cond.fieldLink "FeltGlass$Panel" 198 "FeltGlass$Drives" "seed" "I" ∈ zALL := zT1 161 rfl rfl
theorem k1_162 : Cond.fieldLink "FeltGlass" 121 "FeltGlass$Drives" "seed" "I" ∈ zALL := zT1 162 rfl rfl
theorem k1_170 : Cond.classLink "FeltGlass$Panel" 36 "FeltGlass$Pairing" ∈ zALL := zT1 170 rfl rfl
theorem k1_171 : Cond.instantiable "FeltGlass$Pairing" 4 ∈ zALL := zT1 171 rfl rfl
theorem k1_173 : Cond.instanceMethod yX6_init ∈ zALL := zT1 173 rfl rfl
theorem k1_174 : Cond.code yX6_init prog_8_method_1_code 1 none ∈ zALL := zT1 174 rfl rfl
theorem k1_175 : Cond.methodLink "FeltGlass$Pairing" 3 objectInit ∈ zALL := zT1 175 rfl rfl
theorem k1_176 : Cond.fieldLink "FeltGlass$Pairing" 9 "FeltGlass$Pairing" "spotFor" "[I" ∈ zALL := zT1 176 rfl rfl
theorem k1_177 : Cond.fieldLink "FeltGlass$Panel" 155 "FeltGlass$Pairing" "spotFor" "[I" ∈ zALL := zT1 177 rfl rfl
theorem k1_178 : Cond.fieldLink "FeltGlass$Pairing" 15 "FeltGlass$Pairing" "worth" "[I" ∈ zALL := zT1 178 rfl rfl
theorem k1_179 : Cond.fieldLink "FeltGlass$Pairing" 18 "FeltGlass$Pairing" "best" "[I" ∈ zALL := zT1 179 rfl rfl
theorem k1_180 : Cond.fieldLink "FeltGlass$Pairing" 27 "FeltGlass$Pairing" "spotCount" "I" ∈ zALL := zT1 180 rfl rfl
theorem k1_190 : Cond.classLink "FeltGlass$Panel" 43 "FeltGlass$Surface" ∈ zALL := zT1 190 rfl rfl
theorem k1_191 : Cond.instantiable "FeltGlass$Surface" 7 ∈ zALL := zT1 191 rfl rfl
theorem k1_192 : Cond.methodLink "FeltGlass$Panel" 45 yX9_init ∈ zALL := zT1 192 rfl rfl
theorem k1_193 : Cond.instanceMethod yX9_init ∈ zALL := zT1 193 rfl rfl
theorem k1_194 : Cond.code yX9_init prog_11_method_1_code 2 none ∈ zALL := zT1 194 rfl rfl
theorem k1_195 : Cond.methodLink "FeltGlass$Surface" 3 objectInit ∈ zALL := zT1 195 rfl rfl
theorem k1_196 : Cond.fieldLink "FeltGlass$Surface" 31 "FeltGlass$Surface" "grid" "LFeltGlass$Grid;" ∈ zALL := zT1 196 rfl rfl
theorem k1_197 : Cond.fieldLink "FeltGlass$Surface" 9 "FeltGlass$Surface" "background" "[I" ∈ zALL := zT1 197 rfl rfl
theorem k1_198 : Cond.fieldLink "FeltGlass" 104 "FeltGlass$Surface" "background" "[I" ∈ zALL := zT1 198 rfl rfl
theorem k1_199 : Cond.fieldLink "FeltGlass$Panel" 174 "FeltGlass$Surface" "background" "[I" ∈ zALL := zT1 199 rfl rfl
theorem k1_200 : Cond.fieldLink "FeltGlass$Surface" 15 "FeltGlass$Surface" "baseline" "[I" ∈ zALL := zT1 200 rfl rfl
theorem k1_201 : Cond.fieldLink "FeltGlass$Panel" 177 "FeltGlass$Surface" "baseline" "[I" ∈ zALL := zT1 201 rfl rfl
theorem k1_202 : Cond.fieldLink "FeltGlass$Surface" 18 "FeltGlass$Surface" "sensed" "[I" ∈ zALL := zT1 202 rfl rfl
theorem k1_203 : Cond.fieldLink "FeltGlass$Panel" 186 "FeltGlass$Surface" "sensed" "[I" ∈ zALL := zT1 203 rfl rfl
theorem k1_204 : Cond.fieldLink "FeltGlass$Surface" 21 "FeltGlass$Surface" "raw" "[I" ∈ zALL := zT1 204 rfl rfl
theorem k1_205 : Cond.fieldLink "FeltGlass$Panel" 180 "FeltGlass$Surface" "raw" "[I" ∈ zALL := zT1 205 rfl rfl
theorem k1_206 : Cond.fieldLink "FeltGlass$Surface" 24 "FeltGlass$Surface" "delta" "[I" ∈ zALL := zT1 206 rfl rfl
theorem k1_207 : Cond.fieldLink "FeltGlass$Hills" 45 "FeltGlass$Surface" "delta" "[I" ∈ zALL := zT1 207 rfl rfl
theorem k1_208 : Cond.fieldLink "FeltGlass$Panel" 144 "FeltGlass$Surface" "delta" "[I" ∈ zALL := zT1 208 rfl rfl
theorem k1_209 : Cond.fieldLink "FeltGlass$Surface" 27 "FeltGlass$Surface" "touched" "[Z" ∈ zALL := zT1 209 rfl rfl
theorem k1_210 : Cond.fieldLink "FeltGlass$Hills" 36 "FeltGlass$Surface" "touched" "[Z" ∈ zALL := zT1 210 rfl rfl
theorem k1_226 : Cond.classLink "FeltGlass$Panel" 52 "FeltGlass$Hills" ∈ zALL := zT1 226 rfl rfl
theorem k1_227 : Cond.instantiable "FeltGlass$Hills" 7 ∈ zALL := zT1 227 rfl rfl
theorem k1_228 : Cond.methodLink "FeltGlass$Panel" 54 yX3_init ∈ zALL := zT1 228 rfl rfl
theorem k1_229 : Cond.instanceMethod yX3_init ∈ zALL := zT1 229 rfl rfl
theorem k1_230 : Cond.code yX3_init prog_5_method_1_code 2 none ∈ zALL := zT1 230 rfl rfl
theorem k1_231 : Cond.methodLink "FeltGlass$Hills" 3 objectInit ∈ zALL := zT1 231 rfl rfl
theorem k1_232 : Cond.fieldLink "FeltGlass$Hills" 28 "FeltGlass$Hills" "grid" "LFeltGlass$Grid;" ∈ zALL := zT1 232 rfl rfl
theorem k1_233 : Cond.fieldLink "FeltGlass$Hills" 11 "FeltGlass$Hills" "peak" "[I" ∈ zALL := zT1 233 rfl rfl
theorem k1_234 : Cond.fieldLink "FeltGlass$Spots" 66 "FeltGlass$Hills" "peak" "[I" ∈ zALL := zT1 234 rfl rfl
theorem k1_235 : Cond.fieldLink "FeltGlass$Hills" 15 "FeltGlass$Hills" "alive" "[Z" ∈ zALL := zT1 235 rfl rfl
theorem k1_236 : Cond.fieldLink "FeltGlass$Spots" 63 "FeltGlass$Hills" "alive" "[Z" ∈ zALL := zT1 236 rfl rfl
theorem k1_237 : Cond.fieldLink "FeltGlass$Hills" 19 "FeltGlass$Hills" "hillOf" "[I" ∈ zALL := zT1 237 rfl rfl
theorem k1_238 : Cond.fieldLink "FeltGlass$Spots" 77 "FeltGlass$Hills" "hillOf" "[I" ∈ zALL := zT1 238 rfl rfl
theorem k1_239 : Cond.fieldLink "FeltGlass$Hills" 56 "FeltGlass$Hills" "size" "I" ∈ zALL := zT1 239 rfl rfl
theorem k2_0 : Cond.fieldLink "FeltGlass$Spots" 62 "FeltGlass$Hills" "size" "I" ∈ zALL := zT2 0 rfl rfl
theorem k2_1 : Cond.fieldLink "FeltGlass$Hills" 22 "FeltGlass$Hills" "uphill" "[I" ∈ zALL := zT2 1 rfl rfl
theorem k2_2 : Cond.fieldLink "FeltGlass$Hills" 25 "FeltGlass$Hills" "pass" "[I" ∈ zALL := zT2 2 rfl rfl
theorem k2_18 : Cond.classLink "FeltGlass$Panel" 59 "FeltGlass$Spots" ∈ zALL := zT2 18 rfl rfl
theorem k2_19 : Cond.instantiable "FeltGlass$Spots" 11 ∈ zALL := zT2 19 rfl rfl
theorem k2_20 : Cond.methodLink "FeltGlass$Panel" 61 yX8_init ∈ zALL := zT2 20 rfl rfl
theorem k2_21 : Cond.instanceMethod yX8_init ∈ zALL := zT2 21 rfl rfl
theorem k2_22 : Cond.code yX8_init prog_10_method_1_code 2 none ∈ zALL := zT2 22 rfl rfl
theorem k2_23 : Cond.methodLink "FeltGlass$Spots" 3 objectInit ∈ zALL := zT2 23 rfl rfl
theorem k2_24 : Cond.classLink "FeltGlass$Spots" 9 "[[I" ∈ zALL := zT2 24 rfl rfl
theorem k2_26 : Cond.fieldLink "FeltGlass$Spots" 44 "FeltGlass$Spots" "grid" "LFeltGlass$Grid;" ∈ zALL := zT2 26 rfl rfl
theorem k2_27 : Cond.fieldLink "FeltGlass$Spots" 11 "FeltGlass$Spots" "row" "[[I" ∈ zALL := zT2 27 rfl rfl
theorem k2_28 : Cond.fieldLink "FeltGlass$Tracks" 32 "FeltGlass$Spots" "row" "[[I" ∈ zALL := zT2 28 rfl rfl
theorem k2_29 : Cond.fieldLink "FeltGlass$Pairing" 52 "FeltGlass$Spots" "row" "[[I" ∈ zALL := zT2 29 rfl rfl
theorem k2_30 : Cond.fieldLink "FeltGlass" 158 "FeltGlass$Spots" "row" "[[I" ∈ zALL := zT2 30 rfl rfl
theorem k2_31 : Cond.fieldLink "FeltGlass$Spots" 16 "FeltGlass$Spots" "spotOf" "[I" ∈ zALL := zT2 31 rfl rfl
theorem k2_32 : Cond.fieldLink "FeltGlass$Panel" 183 "FeltGlass$Spots" "spotOf" "[I" ∈ zALL := zT2 32 rfl rfl
theorem k2_33 : Cond.fieldLink "FeltGlass$Spots" 20 "FeltGlass$Spots" "inSpot" "[Z" ∈ zALL := zT2 33 rfl rfl
theorem k2_34 : Cond.fieldLink "FeltGlass$Panel" 166 "FeltGlass$Spots" "inSpot" "[Z" ∈ zALL := zT2 34 rfl rfl
theorem k2_35 : Cond.fieldLink "FeltGlass$Spots" 48 "FeltGlass$Spots" "size" "I" ∈ zALL := zT2 35 rfl rfl
theorem k2_36 : Cond.fieldLink "FeltGlass$Pairing" 21 "FeltGlass$Spots" "size" "I" ∈ zALL := zT2 36 rfl rfl
theorem k2_37 : Cond.fieldLink "FeltGlass$Panel" 122 "FeltGlass$Spots" "size" "I" ∈ zALL := zT2 37 rfl rfl
theorem k2_38 : Cond.fieldLink "FeltGlass$Tracks" 59 "FeltGlass$Spots" "size" "I" ∈ zALL := zT2 38 rfl rfl
theorem k2_39 : Cond.fieldLink "FeltGlass" 228 "FeltGlass$Spots" "size" "I" ∈ zALL := zT2 39 rfl rfl
theorem k2_40 : Cond.fieldLink "FeltGlass$Spots" 26 "FeltGlass$Spots" "chosen" "[Z" ∈ zALL := zT2 40 rfl rfl
theorem k2_41 : Cond.fieldLink "FeltGlass$Spots" 29 "FeltGlass$Spots" "spotOfHill" "[I" ∈ zALL := zT2 41 rfl rfl
theorem k2_42 : Cond.fieldLink "FeltGlass$Spots" 32 "FeltGlass$Spots" "cellsOf" "[I" ∈ zALL := zT2 42 rfl rfl
theorem k2_43 : Cond.fieldLink "FeltGlass$Spots" 35 "FeltGlass$Spots" "massOf" "[I" ∈ zALL := zT2 43 rfl rfl
theorem k2_44 : Cond.fieldLink "FeltGlass$Spots" 38 "FeltGlass$Spots" "columnsOf" "[I" ∈ zALL := zT2 44 rfl rfl
theorem k2_45 : Cond.fieldLink "FeltGlass$Spots" 41 "FeltGlass$Spots" "rowsOf" "[I" ∈ zALL := zT2 45 rfl rfl
theorem k2_69 : Cond.classLink "FeltGlass$Panel" 66 "FeltGlass$Tracks" ∈ zALL := zT2 69 rfl rfl
theorem k2_70 : Cond.instantiable "FeltGlass$Tracks" 5 ∈ zALL := zT2 70 rfl rfl
theorem k2_71 : Cond.methodLink "FeltGlass$Panel" 68 yX10_init ∈ zALL := zT2 71 rfl rfl
theorem k2_72 : Cond.instanceMethod yX10_init ∈ zALL := zT2 72 rfl rfl
theorem k2_73 : Cond.code yX10_init prog_12_method_1_code 3 none ∈ zALL := zT2 73 rfl rfl
theorem k2_74 : Cond.methodLink "FeltGlass$Tracks" 3 objectInit ∈ zALL := zT2 74 rfl rfl
theorem k2_75 : Cond.classLink "FeltGlass$Tracks" 9 "[[I" ∈ zALL := zT2 75 rfl rfl
theorem k2_76 : Cond.fieldLink "FeltGlass$Tracks" 11 "FeltGlass$Tracks" "row" "[[I" ∈ zALL := zT2 76 rfl rfl
theorem k2_77 : Cond.fieldLink "FeltGlass$Pairing" 48 "FeltGlass$Tracks" "row" "[[I" ∈ zALL := zT2 77 rfl rfl
theorem k2_78 : Cond.fieldLink "FeltGlass" 171 "FeltGlass$Tracks" "row" "[[I" ∈ zALL := zT2 78 rfl rfl
theorem k2_79 : Cond.fieldLink "FeltGlass$Tracks" 24 "FeltGlass$Tracks" "size" "I" ∈ zALL := zT2 79 rfl rfl
theorem k2_80 : Cond.fieldLink "FeltGlass$Pairing" 34 "FeltGlass$Tracks" "size" "I" ∈ zALL := zT2 80 rfl rfl
theorem k2_81 : Cond.fieldLink "FeltGlass$Panel" 102 "FeltGlass$Tracks" "size" "I" ∈ zALL := zT2 81 rfl rfl
theorem k2_82 : Cond.fieldLink "FeltGlass" 234 "FeltGlass$Tracks" "size" "I" ∈ zALL := zT2 82 rfl rfl
theorem k2_83 : Cond.fieldLink "FeltGlass$Tracks" 63 "FeltGlass$Tracks" "begunEver" "I" ∈ zALL := zT2 83 rfl rfl
theorem k2_84 : Cond.fieldLink "FeltGlass" 184 "FeltGlass$Tracks" "begunEver" "I" ∈ zALL := zT2 84 rfl rfl
theorem k2_85 : Cond.fieldLink "FeltGlass$Tracks" 16 "FeltGlass$Tracks" "settings" "[I" ∈ zALL := zT2 85 rfl rfl
theorem k2_86 : Cond.fieldLink "FeltGlass$Tracks" 20 "FeltGlass$Tracks" "journal" "LFeltGlass$Journal;" ∈ zALL := zT2 86 rfl rfl
theorem k2_98 : Cond.fieldLink "FeltGlass$Panel" 12 "FeltGlass$Panel" "grid" "LFeltGlass$Grid;" ∈ zALL := zT2 98 rfl rfl
theorem k2_99 : Cond.fieldLink "FeltGlass" 48 "FeltGlass$Panel" "grid" "LFeltGlass$Grid;" ∈ zALL := zT2 99 rfl rfl
theorem k2_100 : Cond.fieldLink "FeltGlass$Panel" 21 "FeltGlass$Panel" "hand" "LFeltGlass$Hand;" ∈ zALL := zT2 100 rfl rfl
theorem k2_101 : Cond.fieldLink "FeltGlass" 52 "FeltGlass$Panel" "hand" "LFeltGlass$Hand;" ∈ zALL := zT2 101 rfl rfl
theorem k2_102 : Cond.fieldLink "FeltGlass$Panel" 28 "FeltGlass$Panel" "drives" "LFeltGlass$Drives;" ∈ zALL := zT2 102 rfl rfl
theorem k2_103 : Cond.fieldLink "FeltGlass" 112 "FeltGlass$Panel" "drives" "LFeltGlass$Drives;" ∈ zALL := zT2 103 rfl rfl
theorem k2_104 : Cond.fieldLink "FeltGlass$Panel" 32 "FeltGlass$Panel" "settings" "[I" ∈ zALL := zT2 104 rfl rfl
theorem k2_105 : Cond.fieldLink "FeltGlass" 130 "FeltGlass$Panel" "settings" "[I" ∈ zALL := zT2 105 rfl rfl
theorem k2_106 : Cond.fieldLink "FeltGlass$Panel" 48 "FeltGlass$Panel" "surface" "LFeltGlass$Surface;" ∈ zALL := zT2 106 rfl rfl
theorem k2_107 : Cond.fieldLink "FeltGlass" 72 "FeltGlass$Panel" "surface" "LFeltGlass$Surface;" ∈ zALL := zT2 107 rfl rfl
theorem k2_108 : Cond.fieldLink "FeltGlass$Panel" 62 "FeltGlass$Panel" "spots" "LFeltGlass$Spots;" ∈ zALL := zT2 108 rfl rfl
theorem k2_109 : Cond.fieldLink "FeltGlass" 154 "FeltGlass$Panel" "spots" "LFeltGlass$Spots;" ∈ zALL := zT2 109 rfl rfl
theorem k2_110 : Cond.fieldLink "FeltGlass$Panel" 71 "FeltGlass$Panel" "tracks" "LFeltGlass$Tracks;" ∈ zALL := zT2 110 rfl rfl
theorem k2_111 : Cond.fieldLink "FeltGlass" 167 "FeltGlass$Panel" "tracks" "LFeltGlass$Tracks;" ∈ zALL := zT2 111 rfl rfl
theorem k2_112 : Cond.fieldLink "FeltGlass$Panel" 75 "FeltGlass$Panel" "present" "Z" ∈ zALL := zT2 112 rfl rfl
theorem k2_113 : Cond.fieldLink "FeltGlass" 44 "FeltGlass$Panel" "present" "Z" ∈ zALL := zT2 113 rfl rfl
theorem k2_114 : Cond.fieldLink "FeltGlass$Panel" 123 "FeltGlass$Panel" "framesEver" "I" ∈ zALL := zT2 114 rfl rfl
theorem k2_115 : Cond.fieldLink "FeltGlass" 178 "FeltGlass$Panel" "framesEver" "I" ∈ zALL := zT2 115 rfl rfl
theorem k2_116 : Cond.fieldLink "FeltGlass$Panel" 134 "FeltGlass$Panel" "noisyEver" "I" ∈ zALL := zT2 116 rfl rfl
theorem k2_117 : Cond.fieldLink "FeltGlass" 181 "FeltGlass$Panel" "noisyEver" "I" ∈ zALL := zT2 117 rfl rfl
theorem k2_118 : Cond.fieldLink "FeltGlass$Panel" 55 "FeltGlass$Panel" "hills" "LFeltGlass$Hills;" ∈ zALL := zT2 118 rfl rfl
theorem k2_119 : Cond.fieldLink "FeltGlass$Panel" 39 "FeltGlass$Panel" "pairing" "LFeltGlass$Pairing;" ∈ zALL := zT2 119 rfl rfl
theorem k2_120 : Cond.fieldLink "FeltGlass$Panel" 106 "FeltGlass$Panel" "spread" "I" ∈ zALL := zT2 120 rfl rfl
theorem k2_121 : Cond.fieldLink "FeltGlass$Panel" 109 "FeltGlass$Panel" "noisy" "Z" ∈ zALL := zT2 121 rfl rfl
theorem k2_122 : Cond.fieldLink "FeltGlass$Panel" 112 "FeltGlass$Panel" "framesHere" "I" ∈ zALL := zT2 122 rfl rfl
theorem k2_154 : Cond.fieldLink "FeltGlass" 10 "FeltGlass" "page" "LFeltGlass$Page;" ∈ zALL := zT2 154 rfl rfl
theorem k2_155 : Cond.fieldLink "FeltGlass" 28 "FeltGlass" "panel" "LFeltGlass$Panel;" ∈ zALL := zT2 155 rfl rfl
theorem k2_156 : Cond.fieldLink "FeltGlass" 19 "FeltGlass" "journal" "LFeltGlass$Journal;" ∈ zALL := zT2 156 rfl rfl
theorem k2_157 : Cond.fieldLink "FeltGlass" 81 "FeltGlass" "textsRead" "I" ∈ zALL := zT2 157 rfl rfl
theorem k2_158 : Cond.fieldLink "FeltGlass" 92 "FeltGlass" "panelsMade" "I" ∈ zALL := zT2 158 rfl rfl
theorem k2_170 : Cond.methodLink "FeltGlassLaw" 13 yX11_letter ∈ zALL := zT2 170 rfl rfl
theorem k2_171 : Cond.instanceMethod yX11_letter ∈ zALL := zT2 171 rfl rfl
theorem k2_172 : Cond.selects "FeltGlass" yX11_letter yX11_letter ∈ zALL := zT2 172 rfl rfl
theorem k2_173 : Cond.code yX11_letter prog_1_method_2_code 2 (some .int) ∈ zALL := zT2 173 rfl rfl
theorem k2_174 : Cond.methodLink "FeltGlass" 32 yX11_within ∈ zALL := zT2 174 rfl rfl
theorem k2_175 : Cond.static yX11_within ∈ zALL := zT2 175 rfl rfl
theorem k2_176 : Cond.code yX11_within prog_1_method_29_code 3 (some .boolean) ∈ zALL := zT2 176 rfl rfl
theorem k2_177 : Cond.methodLink "FeltGlass" 40 yX5_append ∈ zALL := zT2 177 rfl rfl
theorem k2_178 : Cond.instanceMethod yX5_append ∈ zALL := zT2 178 rfl rfl
theorem k2_179 : Cond.selects "FeltGlass$Page" yX5_append yX5_append ∈ zALL := zT2 179 rfl rfl
theorem k2_180 : Cond.code yX5_append prog_7_method_2_code 2 none ∈ zALL := zT2 180 rfl rfl
theorem k2_181 : Cond.methodLink "FeltGlassLaw" 18 yX11_blank ∈ zALL := zT2 181 rfl rfl
theorem k2_182 : Cond.instanceMethod yX11_blank ∈ zALL := zT2 182 rfl rfl
theorem k2_183 : Cond.selects "FeltGlass" yX11_blank yX11_blank ∈ zALL := zT2 183 rfl rfl
theorem k2_184 : Cond.code yX11_blank prog_1_method_3_code 2 (some .int) ∈ zALL := zT2 184 rfl rfl
theorem k2_185 : Cond.methodLink "FeltGlassLaw" 23 yX11_fault ∈ zALL := zT2 185 rfl rfl
theorem k2_186 : Cond.instanceMethod yX11_fault ∈ zALL := zT2 186 rfl rfl
theorem k2_187 : Cond.selects "FeltGlass" yX11_fault yX11_fault ∈ zALL := zT2 187 rfl rfl
theorem k2_188 : Cond.code yX11_fault prog_1_method_4_code 1 (some .int) ∈ zALL := zT2 188 rfl rfl
theorem k2_189 : Cond.methodLink "FeltGlass" 56 yX5_read ∈ zALL := zT2 189 rfl rfl
theorem k2_190 : Cond.instanceMethod yX5_read ∈ zALL := zT2 190 rfl rfl
theorem k2_191 : Cond.selects "FeltGlass$Page" yX5_read yX5_read ∈ zALL := zT2 191 rfl rfl
theorem k2_192 : Cond.code yX5_read prog_7_method_3_code 4 (some .boolean) ∈ zALL := zT2 192 rfl rfl
theorem k2_193 : Cond.methodLink "FeltGlass$Page" 40 yX2_copyFrom ∈ zALL := zT2 193 rfl rfl
theorem k2_194 : Cond.instanceMethod yX2_copyFrom ∈ zALL := zT2 194 rfl rfl
theorem k2_195 : Cond.selects "FeltGlass$Hand" yX2_copyFrom yX2_copyFrom ∈ zALL := zT2 195 rfl rfl
theorem k2_196 : Cond.code yX2_copyFrom prog_4_method_4_code 3 none ∈ zALL := zT2 196 rfl rfl
theorem k2_197 : Cond.methodLink "FeltGlass$Page" 47 yX5_readPart ∈ zALL := zT2 197 rfl rfl
theorem k2_199 : Cond.instanceMethod yX5_readPart ∈ zALL := zT2 199 rfl rfl
theorem k2_200 : Cond.code yX5_readPart prog_7_method_4_code 2 (some .boolean) ∈ zALL := zT2 200 rfl rfl
theorem k2_201 : Cond.methodLink "FeltGlass$Page" 55 yX5_digitHere ∈ zALL := zT2 201 rfl rfl
theorem k2_203 : Cond.instanceMethod yX5_digitHere ∈ zALL := zT2 203 rfl rfl
theorem k2_204 : Cond.code yX5_digitHere prog_7_method_7_code 2 (some .int) ∈ zALL := zT2 204 rfl rfl
theorem k2_205 : Cond.methodLink "FeltGlass$Page" 79 yX5_codeHere ∈ zALL := zT2 205 rfl rfl
theorem k2_207 : Cond.instanceMethod yX5_codeHere ∈ zALL := zT2 207 rfl rfl
theorem k2_208 : Cond.code yX5_codeHere prog_7_method_9_code 1 (some .int) ∈ zALL := zT2 208 rfl rfl
theorem k2_210 : Cond.methodLink "FeltGlass$Page" 51 yX5_take ∈ zALL := zT2 210 rfl rfl
theorem k2_212 : Cond.instanceMethod yX5_take ∈ zALL := zT2 212 rfl rfl
theorem k2_213 : Cond.code yX5_take prog_7_method_8_code 2 (some .boolean) ∈ zALL := zT2 213 rfl rfl
theorem k2_214 : Cond.methodLink "FeltGlass$Page" 67 yX5_readPlace ∈ zALL := zT2 214 rfl rfl
theorem k2_216 : Cond.instanceMethod yX5_readPlace ∈ zALL := zT2 216 rfl rfl
theorem k2_217 : Cond.code yX5_readPlace prog_7_method_5_code 5 (some .boolean) ∈ zALL := zT2 217 rfl rfl
theorem k2_218 : Cond.methodLink "FeltGlass$Page" 71 yX5_readNumber ∈ zALL := zT2 218 rfl rfl
theorem k2_220 : Cond.instanceMethod yX5_readNumber ∈ zALL := zT2 220 rfl rfl
theorem k2_221 : Cond.code yX5_readNumber prog_7_method_6_code 7 (some .int) ∈ zALL := zT2 221 rfl rfl
theorem k2_222 : Cond.methodLink "FeltGlass$Page" 75 yX2_put ∈ zALL := zT2 222 rfl rfl
theorem k2_223 : Cond.instanceMethod yX2_put ∈ zALL := zT2 223 rfl rfl
theorem k2_224 : Cond.selects "FeltGlass$Hand" yX2_put yX2_put ∈ zALL := zT2 224 rfl rfl
theorem k2_225 : Cond.code yX2_put prog_4_method_3_code 5 none ∈ zALL := zT2 225 rfl rfl
theorem k2_226 : Cond.methodLink "FeltGlassLaw" 27 yX11_fingers ∈ zALL := zT2 226 rfl rfl
theorem k2_227 : Cond.instanceMethod yX11_fingers ∈ zALL := zT2 227 rfl rfl
theorem k2_228 : Cond.selects "FeltGlass" yX11_fingers yX11_fingers ∈ zALL := zT2 228 rfl rfl
theorem k2_229 : Cond.code yX11_fingers prog_1_method_5_code 1 (some .int) ∈ zALL := zT2 229 rfl rfl
theorem k2_230 : Cond.methodLink "FeltGlass" 66 yX2_copyFrom ∈ zALL := zT2 230 rfl rfl
theorem k2_231 : Cond.methodLink "FeltGlass" 76 yX9_feel ∈ zALL := zT2 231 rfl rfl
theorem k2_232 : Cond.instanceMethod yX9_feel ∈ zALL := zT2 232 rfl rfl
theorem k2_233 : Cond.selects "FeltGlass$Surface" yX9_feel yX9_feel ∈ zALL := zT2 233 rfl rfl
theorem k2_234 : Cond.code yX9_feel prog_11_method_3_code 3 none ∈ zALL := zT2 234 rfl rfl
theorem k2_235 : Cond.methodLink "FeltGlass$Surface" 53 yX2_sensedAt ∈ zALL := zT2 235 rfl rfl
theorem k2_236 : Cond.instanceMethod yX2_sensedAt ∈ zALL := zT2 236 rfl rfl
theorem k2_237 : Cond.selects "FeltGlass$Hand" yX2_sensedAt yX2_sensedAt ∈ zALL := zT2 237 rfl rfl
theorem k2_238 : Cond.code yX2_sensedAt prog_4_method_6_code 7 (some .int) ∈ zALL := zT2 238 rfl rfl
theorem k2_239 : Cond.methodLink "FeltGlass$Hand" 25 yJ9_max_7cf53 ∈ zALL := zT2 239 rfl rfl
theorem k3_0 : Cond.static yJ9_max_7cf53 ∈ zALL := zT3 0 rfl rfl
theorem k3_1 : Cond.code yJ9_max_7cf53 prog_15_method_65_code 2 (some .int) ∈ zALL := zT3 1 rfl rfl
theorem k3_2 : Cond.methodLink "FeltGlass" 84 yX2_onCount ∈ zALL := zT3 2 rfl rfl
theorem k3_3 : Cond.instanceMethod yX2_onCount ∈ zALL := zT3 3 rfl rfl
theorem k3_4 : Cond.selects "FeltGlass$Hand" yX2_onCount yX2_onCount ∈ zALL := zT3 4 rfl rfl
theorem k3_5 : Cond.code yX2_onCount prog_4_method_5_code 3 (some .int) ∈ zALL := zT3 5 rfl rfl
theorem k3_6 : Cond.methodLink "FeltGlassLaw" 31 yX11_glass ∈ zALL := zT3 6 rfl rfl
theorem k3_7 : Cond.instanceMethod yX11_glass ∈ zALL := zT3 7 rfl rfl
theorem k3_8 : Cond.selects "FeltGlass" yX11_glass yX11_glass ∈ zALL := zT3 8 rfl rfl
theorem k3_9 : Cond.code yX11_glass prog_1_method_6_code 3 (some .int) ∈ zALL := zT3 9 rfl rfl
theorem k3_10 : Cond.methodLink "FeltGlass" 88 yX7_renew ∈ zALL := zT3 10 rfl rfl
theorem k3_11 : Cond.instanceMethod yX7_renew ∈ zALL := zT3 11 rfl rfl
theorem k3_12 : Cond.selects "FeltGlass$Panel" yX7_renew yX7_renew ∈ zALL := zT3 12 rfl rfl
theorem k3_13 : Cond.code yX7_renew prog_9_method_2_code 3 none ∈ zALL := zT3 13 rfl rfl
theorem k3_14 : Cond.methodLink "FeltGlass$Panel" 79 yX1_lay ∈ zALL := zT3 14 rfl rfl
theorem k3_15 : Cond.instanceMethod yX1_lay ∈ zALL := zT3 15 rfl rfl
theorem k3_16 : Cond.selects "FeltGlass$Grid" yX1_lay yX1_lay ∈ zALL := zT3 16 rfl rfl
theorem k3_17 : Cond.code yX1_lay prog_3_method_2_code 5 none ∈ zALL := zT3 17 rfl rfl
theorem k3_18 : Cond.methodLink "FeltGlass$Grid" 34 yX1_listAround ∈ zALL := zT3 18 rfl rfl
theorem k3_20 : Cond.instanceMethod yX1_listAround ∈ zALL := zT3 20 rfl rfl
theorem k3_21 : Cond.code yX1_listAround prog_3_method_3_code 7 none ∈ zALL := zT3 21 rfl rfl
theorem k3_22 : Cond.methodLink "FeltGlass$Grid" 38 yJ9_max_7cf53 ∈ zALL := zT3 22 rfl rfl
theorem k3_23 : Cond.methodLink "FeltGlass$Grid" 44 yJ9_min_7cf53 ∈ zALL := zT3 23 rfl rfl
theorem k3_24 : Cond.static yJ9_min_7cf53 ∈ zALL := zT3 24 rfl rfl
theorem k3_25 : Cond.code yJ9_min_7cf53 prog_15_method_69_code 2 (some .int) ∈ zALL := zT3 25 rfl rfl
theorem k3_26 : Cond.methodLink "FeltGlass$Panel" 83 yX2_liftAll ∈ zALL := zT3 26 rfl rfl
theorem k3_27 : Cond.instanceMethod yX2_liftAll ∈ zALL := zT3 27 rfl rfl
theorem k3_28 : Cond.selects "FeltGlass$Hand" yX2_liftAll yX2_liftAll ∈ zALL := zT3 28 rfl rfl
theorem k3_29 : Cond.code yX2_liftAll prog_4_method_2_code 2 none ∈ zALL := zT3 29 rfl rfl
theorem k3_30 : Cond.methodLink "FeltGlass$Panel" 86 yX0_renew ∈ zALL := zT3 30 rfl rfl
theorem k3_31 : Cond.instanceMethod yX0_renew ∈ zALL := zT3 31 rfl rfl
theorem k3_32 : Cond.selects "FeltGlass$Drives" yX0_renew yX0_renew ∈ zALL := zT3 32 rfl rfl
theorem k3_33 : Cond.code yX0_renew prog_2_method_2_code 1 none ∈ zALL := zT3 33 rfl rfl
theorem k3_34 : Cond.methodLink "FeltGlass$Drives" 15 yJ7_fill_53178 ∈ zALL := zT3 34 rfl rfl
theorem k3_35 : Cond.static yJ7_fill_53178 ∈ zALL := zT3 35 rfl rfl
theorem k3_36 : Cond.code yJ7_fill_53178 prog_17_method_103_code 4 none ∈ zALL := zT3 36 rfl rfl
theorem k3_39 : Cond.methodLink "FeltGlass$Panel" 92 arraycopyName ∈ zALL := zT3 39 rfl rfl
theorem k3_40 : Cond.static arraycopyName ∈ zALL := zT3 40 rfl rfl
theorem k3_41 : Cond.native arraycopyName ∈ zALL := zT3 41 rfl rfl
theorem k3_42 : Cond.methodLink "FeltGlass$Panel" 98 yX9_renew ∈ zALL := zT3 42 rfl rfl
theorem k3_43 : Cond.instanceMethod yX9_renew ∈ zALL := zT3 43 rfl rfl
theorem k3_44 : Cond.selects "FeltGlass$Surface" yX9_renew yX9_renew ∈ zALL := zT3 44 rfl rfl
theorem k3_45 : Cond.code yX9_renew prog_11_method_2_code 1 none ∈ zALL := zT3 45 rfl rfl
theorem k3_46 : Cond.methodLink "FeltGlass$Surface" 35 yJ7_fill_53178 ∈ zALL := zT3 46 rfl rfl
theorem k3_47 : Cond.methodLink "FeltGlass$Panel" 99 yX8_clear ∈ zALL := zT3 47 rfl rfl
theorem k3_48 : Cond.instanceMethod yX8_clear ∈ zALL := zT3 48 rfl rfl
theorem k3_49 : Cond.selects "FeltGlass$Spots" yX8_clear yX8_clear ∈ zALL := zT3 49 rfl rfl
theorem k3_50 : Cond.code yX8_clear prog_10_method_2_code 1 none ∈ zALL := zT3 50 rfl rfl
theorem k3_51 : Cond.methodLink "FeltGlass$Spots" 52 yJ7_fill_53178 ∈ zALL := zT3 51 rfl rfl
theorem k3_52 : Cond.methodLink "FeltGlassLaw" 36 yX11_air ∈ zALL := zT3 52 rfl rfl
theorem k3_53 : Cond.instanceMethod yX11_air ∈ zALL := zT3 53 rfl rfl
theorem k3_54 : Cond.selects "FeltGlass" yX11_air yX11_air ∈ zALL := zT3 54 rfl rfl
theorem k3_55 : Cond.code yX11_air prog_1_method_7_code 4 (some .int) ∈ zALL := zT3 55 rfl rfl
theorem k3_56 : Cond.methodLink "FeltGlass" 100 yX7_hasCell ∈ zALL := zT3 56 rfl rfl
theorem k3_57 : Cond.instanceMethod yX7_hasCell ∈ zALL := zT3 57 rfl rfl
theorem k3_58 : Cond.selects "FeltGlass$Panel" yX7_hasCell yX7_hasCell ∈ zALL := zT3 58 rfl rfl
theorem k3_59 : Cond.code yX7_hasCell prog_9_method_3_code 2 (some .boolean) ∈ zALL := zT3 59 rfl rfl
theorem k3_61 : Cond.methodLink "FeltGlassLaw" 40 yX11_warm ∈ zALL := zT3 61 rfl rfl
theorem k3_62 : Cond.instanceMethod yX11_warm ∈ zALL := zT3 62 rfl rfl
theorem k3_63 : Cond.selects "FeltGlass" yX11_warm yX11_warm ∈ zALL := zT3 63 rfl rfl
theorem k3_64 : Cond.code yX11_warm prog_1_method_8_code 2 (some .int) ∈ zALL := zT3 64 rfl rfl
theorem k3_65 : Cond.methodLink "FeltGlass" 108 yX9_addToBackgrounds ∈ zALL := zT3 65 rfl rfl
theorem k3_66 : Cond.instanceMethod yX9_addToBackgrounds ∈ zALL := zT3 66 rfl rfl
theorem k3_67 : Cond.selects "FeltGlass$Surface" yX9_addToBackgrounds yX9_addToBackgrounds ∈ zALL := zT3 67 rfl rfl
theorem k3_68 : Cond.code yX9_addToBackgrounds prog_11_method_4_code 5 (some .int) ∈ zALL := zT3 68 rfl rfl
theorem k3_69 : Cond.methodLink "FeltGlass$Surface" 59 yJ9_min_7cf53 ∈ zALL := zT3 69 rfl rfl
theorem k3_70 : Cond.methodLink "FeltGlass$Surface" 64 yJ9_max_7cf53 ∈ zALL := zT3 70 rfl rfl
theorem k3_71 : Cond.methodLink "FeltGlassLaw" 44 yX11_noise ∈ zALL := zT3 71 rfl rfl
theorem k3_72 : Cond.instanceMethod yX11_noise ∈ zALL := zT3 72 rfl rfl
theorem k3_73 : Cond.selects "FeltGlass" yX11_noise yX11_noise ∈ zALL := zT3 73 rfl rfl
theorem k3_74 : Cond.code yX11_noise prog_1_method_9_code 4 (some .int) ∈ zALL := zT3 74 rfl rfl
theorem k3_75 : Cond.methodLink "FeltGlassLaw" 48 yX11_seed ∈ zALL := zT3 75 rfl rfl
theorem k3_76 : Cond.instanceMethod yX11_seed ∈ zALL := zT3 76 rfl rfl
theorem k3_77 : Cond.selects "FeltGlass" yX11_seed yX11_seed ∈ zALL := zT3 77 rfl rfl
theorem k3_78 : Cond.code yX11_seed prog_1_method_10_code 3 (some .int) ∈ zALL := zT3 78 rfl rfl
theorem k3_79 : Cond.methodLink "FeltGlassLaw" 52 yX11_bound ∈ zALL := zT3 79 rfl rfl
theorem k3_80 : Cond.instanceMethod yX11_bound ∈ zALL := zT3 80 rfl rfl
theorem k3_81 : Cond.selects "FeltGlass" yX11_bound yX11_bound ∈ zALL := zT3 81 rfl rfl
theorem k3_82 : Cond.code yX11_bound prog_1_method_11_code 4 (some .int) ∈ zALL := zT3 82 rfl rfl
theorem k3_83 : Cond.fieldLink "FeltGlass" 124 "FeltGlass" "LEAST_SETTING" "[I" ∈ zALL := zT3 83 rfl rfl
theorem k3_85 : Cond.fieldLink "FeltGlass" 127 "FeltGlass" "MOST_SETTING" "[I" ∈ zALL := zT3 85 rfl rfl
theorem k3_87 : Cond.methodLink "FeltGlassLaw" 56 yX11_settle ∈ zALL := zT3 87 rfl rfl
theorem k3_88 : Cond.instanceMethod yX11_settle ∈ zALL := zT3 88 rfl rfl
theorem k3_89 : Cond.selects "FeltGlass" yX11_settle yX11_settle ∈ zALL := zT3 89 rfl rfl
theorem k3_90 : Cond.code yX11_settle prog_1_method_12_code 1 (some .int) ∈ zALL := zT3 90 rfl rfl
theorem k3_91 : Cond.methodLink "FeltGlass" 133 yX9_baselinesToBackgrounds ∈ zALL := zT3 91 rfl rfl
theorem k3_92 : Cond.instanceMethod yX9_baselinesToBackgrounds ∈ zALL := zT3 92 rfl rfl
theorem k3_93 : Cond.selects "FeltGlass$Surface" yX9_baselinesToBackgrounds yX9_baselinesToBackgrounds ∈ zALL := zT3 93 rfl rfl
theorem k3_94 : Cond.code yX9_baselinesToBackgrounds prog_11_method_5_code 3 (some .int) ∈ zALL := zT3 94 rfl rfl
theorem k3_95 : Cond.methodLink "FeltGlassLaw" 60 yX11_frames ∈ zALL := zT3 95 rfl rfl
theorem k3_96 : Cond.instanceMethod yX11_frames ∈ zALL := zT3 96 rfl rfl
theorem k3_97 : Cond.selects "FeltGlass" yX11_frames yX11_frames ∈ zALL := zT3 97 rfl rfl
theorem k3_98 : Cond.code yX11_frames prog_1_method_13_code 4 (some .int) ∈ zALL := zT3 98 rfl rfl
theorem k3_99 : Cond.methodLink "FeltGlass" 139 yX7_runFrame ∈ zALL := zT3 99 rfl rfl
theorem k3_100 : Cond.instanceMethod yX7_runFrame ∈ zALL := zT3 100 rfl rfl
theorem k3_101 : Cond.selects "FeltGlass$Panel" yX7_runFrame yX7_runFrame ∈ zALL := zT3 101 rfl rfl
theorem k3_102 : Cond.code yX7_runFrame prog_9_method_6_code 1 none ∈ zALL := zT3 102 rfl rfl
theorem k3_103 : Cond.methodLink "FeltGlass$Panel" 126 yX9_sense ∈ zALL := zT3 103 rfl rfl
theorem k3_104 : Cond.instanceMethod yX9_sense ∈ zALL := zT3 104 rfl rfl
theorem k3_105 : Cond.selects "FeltGlass$Surface" yX9_sense yX9_sense ∈ zALL := zT3 105 rfl rfl
theorem k3_106 : Cond.code yX9_sense prog_11_method_6_code 6 none ∈ zALL := zT3 106 rfl rfl
theorem k3_107 : Cond.methodLink "FeltGlass$Surface" 67 yX0_activeLevel ∈ zALL := zT3 107 rfl rfl
theorem k3_108 : Cond.instanceMethod yX0_activeLevel ∈ zALL := zT3 108 rfl rfl
theorem k3_109 : Cond.selects "FeltGlass$Drives" yX0_activeLevel yX0_activeLevel ∈ zALL := zT3 109 rfl rfl
theorem k3_110 : Cond.code yX0_activeLevel prog_2_method_4_code 1 (some .int) ∈ zALL := zT3 110 rfl rfl
theorem k3_111 : Cond.methodLink "FeltGlass$Surface" 73 yX0_drawNoise ∈ zALL := zT3 111 rfl rfl
theorem k3_112 : Cond.instanceMethod yX0_drawNoise ∈ zALL := zT3 112 rfl rfl
theorem k3_113 : Cond.selects "FeltGlass$Drives" yX0_drawNoise yX0_drawNoise ∈ zALL := zT3 113 rfl rfl
theorem k3_114 : Cond.code yX0_drawNoise prog_2_method_5_code 2 (some .int) ∈ zALL := zT3 114 rfl rfl
theorem k3_115 : Cond.methodLink "FeltGlass$Drives" 28 yX0_drawBelow ∈ zALL := zT3 115 rfl rfl
theorem k3_117 : Cond.instanceMethod yX0_drawBelow ∈ zALL := zT3 117 rfl rfl
theorem k3_118 : Cond.code yX0_drawBelow prog_2_method_6_code 2 (some .int) ∈ zALL := zT3 118 rfl rfl
theorem k3_119 : Cond.constantLong "FeltGlass$Drives" 32 (1103515245) ∈ zALL := zT3 119 rfl rfl
theorem k3_120 : Cond.constantLong "FeltGlass$Drives" 34 (12345) ∈ zALL := zT3 120 rfl rfl
theorem k3_121 : Cond.constantLong "FeltGlass$Drives" 36 (2147483648) ∈ zALL := zT3 121 rfl rfl
theorem k3_122 : Cond.constant "FeltGlass$Drives" 38 (65536) ∈ zALL := zT3 122 rfl rfl
theorem k3_123 : Cond.methodLink "FeltGlass$Panel" 130 yX9_quietSpread ∈ zALL := zT3 123 rfl rfl
theorem k3_124 : Cond.instanceMethod yX9_quietSpread ∈ zALL := zT3 124 rfl rfl
theorem k3_125 : Cond.selects "FeltGlass$Surface" yX9_quietSpread yX9_quietSpread ∈ zALL := zT3 125 rfl rfl
theorem k3_126 : Cond.code yX9_quietSpread prog_11_method_7_code 5 (some .int) ∈ zALL := zT3 126 rfl rfl
theorem k3_127 : Cond.methodLink "FeltGlass$Surface" 77 yX1_meets ∈ zALL := zT3 127 rfl rfl
theorem k3_128 : Cond.instanceMethod yX1_meets ∈ zALL := zT3 128 rfl rfl
theorem k3_129 : Cond.selects "FeltGlass$Grid" yX1_meets yX1_meets ∈ zALL := zT3 129 rfl rfl
theorem k3_130 : Cond.code yX1_meets prog_3_method_5_code 4 (some .boolean) ∈ zALL := zT3 130 rfl rfl
theorem k3_131 : Cond.methodLink "FeltGlass$Grid" 47 yX1_neighbour ∈ zALL := zT3 131 rfl rfl
theorem k3_132 : Cond.instanceMethod yX1_neighbour ∈ zALL := zT3 132 rfl rfl
theorem k3_133 : Cond.selects "FeltGlass$Grid" yX1_neighbour yX1_neighbour ∈ zALL := zT3 133 rfl rfl
theorem k3_134 : Cond.code yX1_neighbour prog_3_method_4_code 3 (some .int) ∈ zALL := zT3 134 rfl rfl
theorem k3_135 : Cond.methodLink "FeltGlass$Panel" 137 yX0_activateNext ∈ zALL := zT3 135 rfl rfl
theorem k3_136 : Cond.instanceMethod yX0_activateNext ∈ zALL := zT3 136 rfl rfl
theorem k3_137 : Cond.selects "FeltGlass$Drives" yX0_activateNext yX0_activateNext ∈ zALL := zT3 137 rfl rfl
theorem k3_138 : Cond.code yX0_activateNext prog_2_method_3_code 1 none ∈ zALL := zT3 138 rfl rfl
theorem k3_139 : Cond.methodLink "FeltGlass$Panel" 140 yX3_form ∈ zALL := zT3 139 rfl rfl
theorem k3_140 : Cond.instanceMethod yX3_form ∈ zALL := zT3 140 rfl rfl
theorem k3_141 : Cond.selects "FeltGlass$Hills" yX3_form yX3_form ∈ zALL := zT3 141 rfl rfl
theorem k3_142 : Cond.code yX3_form prog_5_method_2_code 4 none ∈ zALL := zT3 142 rfl rfl
theorem k3_143 : Cond.methodLink "FeltGlass$Hills" 32 yX3_findPeaks ∈ zALL := zT3 143 rfl rfl
theorem k3_145 : Cond.instanceMethod yX3_findPeaks ∈ zALL := zT3 145 rfl rfl
theorem k3_146 : Cond.code yX3_findPeaks prog_5_method_3_code 3 none ∈ zALL := zT3 146 rfl rfl
theorem k3_147 : Cond.methodLink "FeltGlass$Hills" 65 yX3_steepest ∈ zALL := zT3 147 rfl rfl
theorem k3_149 : Cond.instanceMethod yX3_steepest ∈ zALL := zT3 149 rfl rfl
theorem k3_150 : Cond.code yX3_steepest prog_5_method_4_code 6 (some .int) ∈ zALL := zT3 150 rfl rfl
theorem k3_151 : Cond.methodLink "FeltGlass$Hills" 72 yX1_neighbour ∈ zALL := zT3 151 rfl rfl
theorem k3_152 : Cond.methodLink "FeltGlass$Hills" 41 yX3_gatherCells ∈ zALL := zT3 152 rfl rfl
theorem k3_154 : Cond.instanceMethod yX3_gatherCells ∈ zALL := zT3 154 rfl rfl
theorem k3_155 : Cond.code yX3_gatherCells prog_5_method_5_code 5 none ∈ zALL := zT3 155 rfl rfl
theorem k3_156 : Cond.methodLink "FeltGlass$Hills" 48 yX3_findPasses ∈ zALL := zT3 156 rfl rfl
theorem k3_158 : Cond.instanceMethod yX3_findPasses ∈ zALL := zT3 158 rfl rfl
theorem k3_159 : Cond.code yX3_findPasses prog_5_method_6_code 5 none ∈ zALL := zT3 159 rfl rfl
theorem k3_160 : Cond.methodLink "FeltGlass$Hills" 76 yJ7_fill_53178 ∈ zALL := zT3 160 rfl rfl
theorem k3_161 : Cond.methodLink "FeltGlass$Hills" 82 yJ9_min_7cf53 ∈ zALL := zT3 161 rfl rfl
theorem k3_162 : Cond.methodLink "FeltGlass$Hills" 87 yX3_raisePass ∈ zALL := zT3 162 rfl rfl
theorem k3_164 : Cond.instanceMethod yX3_raisePass ∈ zALL := zT3 164 rfl rfl
theorem k3_165 : Cond.code yX3_raisePass prog_5_method_7_code 5 none ∈ zALL := zT3 165 rfl rfl
theorem k3_166 : Cond.methodLink "FeltGlass$Hills" 91 yJ9_max_7cf53 ∈ zALL := zT3 166 rfl rfl
theorem k3_167 : Cond.methodLink "FeltGlass$Hills" 52 yX3_mergeBestPair ∈ zALL := zT3 167 rfl rfl
theorem k3_169 : Cond.instanceMethod yX3_mergeBestPair ∈ zALL := zT3 169 rfl rfl
theorem k3_170 : Cond.code yX3_mergeBestPair prog_5_method_8_code 9 (some .boolean) ∈ zALL := zT3 170 rfl rfl
theorem k3_171 : Cond.methodLink "FeltGlass$Hills" 94 yX3_canMerge ∈ zALL := zT3 171 rfl rfl
theorem k3_173 : Cond.instanceMethod yX3_canMerge ∈ zALL := zT3 173 rfl rfl
theorem k3_174 : Cond.code yX3_canMerge prog_5_method_9_code 7 (some .boolean) ∈ zALL := zT3 174 rfl rfl
theorem k3_175 : Cond.methodLink "FeltGlass$Hills" 98 yX3_merge ∈ zALL := zT3 175 rfl rfl
theorem k3_177 : Cond.instanceMethod yX3_merge ∈ zALL := zT3 177 rfl rfl
theorem k3_178 : Cond.code yX3_merge prog_5_method_10_code 5 none ∈ zALL := zT3 178 rfl rfl
theorem k3_179 : Cond.methodLink "FeltGlass$Panel" 147 yX8_choose ∈ zALL := zT3 179 rfl rfl
theorem k3_180 : Cond.instanceMethod yX8_choose ∈ zALL := zT3 180 rfl rfl
theorem k3_181 : Cond.selects "FeltGlass$Spots" yX8_choose yX8_choose ∈ zALL := zT3 181 rfl rfl
theorem k3_182 : Cond.code yX8_choose prog_10_method_3_code 6 none ∈ zALL := zT3 182 rfl rfl
theorem k3_183 : Cond.methodLink "FeltGlass$Spots" 58 yX8_weigh ∈ zALL := zT3 183 rfl rfl
theorem k3_185 : Cond.instanceMethod yX8_weigh ∈ zALL := zT3 185 rfl rfl
theorem k3_186 : Cond.code yX8_weigh prog_10_method_4_code 5 none ∈ zALL := zT3 186 rfl rfl
theorem k3_187 : Cond.methodLink "FeltGlass$Spots" 69 yX8_dropLightest ∈ zALL := zT3 187 rfl rfl
theorem k3_189 : Cond.instanceMethod yX8_dropLightest ∈ zALL := zT3 189 rfl rfl
theorem k3_190 : Cond.code yX8_dropLightest prog_10_method_5_code 4 none ∈ zALL := zT3 190 rfl rfl
theorem k3_191 : Cond.methodLink "FeltGlass$Spots" 73 yX8_numberHills ∈ zALL := zT3 191 rfl rfl
theorem k3_193 : Cond.instanceMethod yX8_numberHills ∈ zALL := zT3 193 rfl rfl
theorem k3_194 : Cond.code yX8_numberHills prog_10_method_6_code 3 none ∈ zALL := zT3 194 rfl rfl
theorem k3_195 : Cond.methodLink "FeltGlass$Spots" 94 yX8_fillRow ∈ zALL := zT3 195 rfl rfl
theorem k3_197 : Cond.instanceMethod yX8_fillRow ∈ zALL := zT3 197 rfl rfl
theorem k3_198 : Cond.code yX8_fillRow prog_10_method_7_code 5 none ∈ zALL := zT3 198 rfl rfl
theorem k3_199 : Cond.methodLink "FeltGlass$Spots" 80 yX8_markCells ∈ zALL := zT3 199 rfl rfl
theorem k3_201 : Cond.instanceMethod yX8_markCells ∈ zALL := zT3 201 rfl rfl
theorem k3_202 : Cond.code yX8_markCells prog_10_method_8_code 3 none ∈ zALL := zT3 202 rfl rfl
theorem k3_203 : Cond.methodLink "FeltGlass$Panel" 151 yX6_solve ∈ zALL := zT3 203 rfl rfl
theorem k3_204 : Cond.instanceMethod yX6_solve ∈ zALL := zT3 204 rfl rfl
theorem k3_205 : Cond.selects "FeltGlass$Pairing" yX6_solve yX6_solve ∈ zALL := zT3 205 rfl rfl
theorem k3_206 : Cond.code yX6_solve prog_8_method_2_code 8 none ∈ zALL := zT3 206 rfl rfl
theorem k3_207 : Cond.methodLink "FeltGlass$Pairing" 30 yX6_weighPairs ∈ zALL := zT3 207 rfl rfl
theorem k3_209 : Cond.instanceMethod yX6_weighPairs ∈ zALL := zT3 209 rfl rfl
theorem k3_210 : Cond.code yX6_weighPairs prog_8_method_3_code 9 none ∈ zALL := zT3 210 rfl rfl
theorem k3_211 : Cond.methodLink "FeltGlass$Pairing" 53 yJ9_abs_0f7a4 ∈ zALL := zT3 211 rfl rfl
theorem k3_212 : Cond.static yJ9_abs_0f7a4 ∈ zALL := zT3 212 rfl rfl
theorem k3_213 : Cond.code yJ9_abs_0f7a4 prog_15_method_59_code 1 (some .int) ∈ zALL := zT3 213 rfl rfl
theorem k3_214 : Cond.constant "FeltGlass$Pairing" 59 (1000000) ∈ zALL := zT3 214 rfl rfl
theorem k3_215 : Cond.methodLink "FeltGlass$Pairing" 37 yX6_bestSpot ∈ zALL := zT3 215 rfl rfl
theorem k3_217 : Cond.instanceMethod yX6_bestSpot ∈ zALL := zT3 217 rfl rfl
theorem k3_218 : Cond.code yX6_bestSpot prog_8_method_4_code 8 (some .int) ∈ zALL := zT3 218 rfl rfl
theorem k3_219 : Cond.methodLink "FeltGlass$Pairing" 41 yX6_worthOf ∈ zALL := zT3 219 rfl rfl
theorem k3_221 : Cond.instanceMethod yX6_worthOf ∈ zALL := zT3 221 rfl rfl
theorem k3_222 : Cond.code yX6_worthOf prog_8_method_5_code 5 (some .int) ∈ zALL := zT3 222 rfl rfl
theorem k3_223 : Cond.methodLink "FeltGlass$Pairing" 45 yX6_withSpot ∈ zALL := zT3 223 rfl rfl
theorem k3_224 : Cond.static yX6_withSpot ∈ zALL := zT3 224 rfl rfl
theorem k3_225 : Cond.code yX6_withSpot prog_8_method_6_code 2 (some .int) ∈ zALL := zT3 225 rfl rfl
theorem k3_226 : Cond.methodLink "FeltGlass$Panel" 158 yX10_follow ∈ zALL := zT3 226 rfl rfl
theorem k3_227 : Cond.instanceMethod yX10_follow ∈ zALL := zT3 227 rfl rfl
theorem k3_228 : Cond.selects "FeltGlass$Tracks" yX10_follow yX10_follow ∈ zALL := zT3 228 rfl rfl
theorem k3_229 : Cond.code yX10_follow prog_12_method_2_code 9 none ∈ zALL := zT3 229 rfl rfl
theorem k3_230 : Cond.methodLink "FeltGlass$Tracks" 28 yX10_miss ∈ zALL := zT3 230 rfl rfl
theorem k3_232 : Cond.instanceMethod yX10_miss ∈ zALL := zT3 232 rfl rfl
theorem k3_233 : Cond.code yX10_miss prog_12_method_4_code 4 (some .boolean) ∈ zALL := zT3 233 rfl rfl
theorem k3_234 : Cond.methodLink "FeltGlass$Tracks" 53 yX4_write ∈ zALL := zT3 234 rfl rfl
theorem k3_235 : Cond.instanceMethod yX4_write ∈ zALL := zT3 235 rfl rfl
theorem k3_236 : Cond.selects "FeltGlass$Journal" yX4_write yX4_write ∈ zALL := zT3 236 rfl rfl
theorem k3_237 : Cond.code yX4_write prog_6_method_2_code 5 none ∈ zALL := zT3 237 rfl rfl
theorem k3_239 : Cond.methodLink "FeltGlass$Tracks" 35 yX10_move ∈ zALL := zT3 239 rfl rfl
theorem k4_1 : Cond.instanceMethod yX10_move ∈ zALL := zT4 1 rfl rfl
theorem k4_2 : Cond.code yX10_move prog_12_method_3_code 4 none ∈ zALL := zT4 2 rfl rfl
theorem k4_3 : Cond.methodLink "FeltGlass$Tracks" 39 yJ9_abs_0f7a4 ∈ zALL := zT4 3 rfl rfl
theorem k4_4 : Cond.methodLink "FeltGlass$Tracks" 45 yX10_takeOver ∈ zALL := zT4 4 rfl rfl
theorem k4_6 : Cond.instanceMethod yX10_takeOver ∈ zALL := zT4 6 rfl rfl
theorem k4_7 : Cond.code yX10_takeOver prog_12_method_7_code 3 none ∈ zALL := zT4 7 rfl rfl
theorem k4_8 : Cond.methodLink "FeltGlass$Tracks" 49 yX10_isPalm ∈ zALL := zT4 8 rfl rfl
theorem k4_10 : Cond.instanceMethod yX10_isPalm ∈ zALL := zT4 10 rfl rfl
theorem k4_11 : Cond.code yX10_isPalm prog_12_method_8_code 2 (some .boolean) ∈ zALL := zT4 11 rfl rfl
theorem k4_12 : Cond.methodLink "FeltGlass$Panel" 162 yX10_beginNew ∈ zALL := zT4 12 rfl rfl
theorem k4_13 : Cond.instanceMethod yX10_beginNew ∈ zALL := zT4 13 rfl rfl
theorem k4_14 : Cond.selects "FeltGlass$Tracks" yX10_beginNew yX10_beginNew ∈ zALL := zT4 14 rfl rfl
theorem k4_15 : Cond.code yX10_beginNew prog_12_method_5_code 3 none ∈ zALL := zT4 15 rfl rfl
theorem k4_16 : Cond.methodLink "FeltGlass$Tracks" 60 yX10_begin ∈ zALL := zT4 16 rfl rfl
theorem k4_18 : Cond.instanceMethod yX10_begin ∈ zALL := zT4 18 rfl rfl
theorem k4_19 : Cond.code yX10_begin prog_12_method_6_code 3 none ∈ zALL := zT4 19 rfl rfl
theorem k4_20 : Cond.methodLink "FeltGlass$Panel" 170 yX9_driftBaselines ∈ zALL := zT4 20 rfl rfl
theorem k4_21 : Cond.instanceMethod yX9_driftBaselines ∈ zALL := zT4 21 rfl rfl
theorem k4_22 : Cond.selects "FeltGlass$Surface" yX9_driftBaselines yX9_driftBaselines ∈ zALL := zT4 22 rfl rfl
theorem k4_23 : Cond.code yX9_driftBaselines prog_11_method_8_code 5 none ∈ zALL := zT4 23 rfl rfl
theorem k4_24 : Cond.methodLink "FeltGlassLaw" 64 yX11_finger ∈ zALL := zT4 24 rfl rfl
theorem k4_25 : Cond.instanceMethod yX11_finger ∈ zALL := zT4 25 rfl rfl
theorem k4_26 : Cond.selects "FeltGlass" yX11_finger yX11_finger ∈ zALL := zT4 26 rfl rfl
theorem k4_27 : Cond.code yX11_finger prog_1_method_14_code 3 (some .int) ∈ zALL := zT4 27 rfl rfl
theorem k4_28 : Cond.methodLink "FeltGlass" 142 yX2_fact ∈ zALL := zT4 28 rfl rfl
theorem k4_29 : Cond.instanceMethod yX2_fact ∈ zALL := zT4 29 rfl rfl
theorem k4_30 : Cond.selects "FeltGlass$Hand" yX2_fact yX2_fact ∈ zALL := zT4 30 rfl rfl
theorem k4_31 : Cond.code yX2_fact prog_4_method_7_code 3 (some .int) ∈ zALL := zT4 31 rfl rfl
theorem k4_32 : Cond.methodLink "FeltGlassLaw" 68 yX11_cell ∈ zALL := zT4 32 rfl rfl
theorem k4_33 : Cond.instanceMethod yX11_cell ∈ zALL := zT4 33 rfl rfl
theorem k4_34 : Cond.selects "FeltGlass" yX11_cell yX11_cell ∈ zALL := zT4 34 rfl rfl
theorem k4_35 : Cond.code yX11_cell prog_1_method_15_code 3 (some .int) ∈ zALL := zT4 35 rfl rfl
theorem k4_36 : Cond.methodLink "FeltGlass" 146 yX7_cellFact ∈ zALL := zT4 36 rfl rfl
theorem k4_37 : Cond.instanceMethod yX7_cellFact ∈ zALL := zT4 37 rfl rfl
theorem k4_38 : Cond.selects "FeltGlass$Panel" yX7_cellFact yX7_cellFact ∈ zALL := zT4 38 rfl rfl
theorem k4_39 : Cond.code yX7_cellFact prog_9_method_7_code 3 (some .int) ∈ zALL := zT4 39 rfl rfl
theorem k4_40 : Cond.methodLink "FeltGlassLaw" 72 yX11_about ∈ zALL := zT4 40 rfl rfl
theorem k4_41 : Cond.instanceMethod yX11_about ∈ zALL := zT4 41 rfl rfl
theorem k4_42 : Cond.selects "FeltGlass" yX11_about yX11_about ∈ zALL := zT4 42 rfl rfl
theorem k4_43 : Cond.code yX11_about prog_1_method_16_code 2 (some .int) ∈ zALL := zT4 43 rfl rfl
theorem k4_44 : Cond.methodLink "FeltGlass" 149 yX7_fact ∈ zALL := zT4 44 rfl rfl
theorem k4_45 : Cond.instanceMethod yX7_fact ∈ zALL := zT4 45 rfl rfl
theorem k4_46 : Cond.selects "FeltGlass$Panel" yX7_fact yX7_fact ∈ zALL := zT4 46 rfl rfl
theorem k4_47 : Cond.code yX7_fact prog_9_method_8_code 2 (some .int) ∈ zALL := zT4 47 rfl rfl
theorem k4_48 : Cond.methodLink "FeltGlassLaw" 76 yX11_spot ∈ zALL := zT4 48 rfl rfl
theorem k4_49 : Cond.instanceMethod yX11_spot ∈ zALL := zT4 49 rfl rfl
theorem k4_50 : Cond.selects "FeltGlass" yX11_spot yX11_spot ∈ zALL := zT4 50 rfl rfl
theorem k4_51 : Cond.code yX11_spot prog_1_method_17_code 3 (some .int) ∈ zALL := zT4 51 rfl rfl
theorem k4_52 : Cond.methodLink "FeltGlass" 151 yX7_hasSpot ∈ zALL := zT4 52 rfl rfl
theorem k4_53 : Cond.instanceMethod yX7_hasSpot ∈ zALL := zT4 53 rfl rfl
theorem k4_54 : Cond.selects "FeltGlass$Panel" yX7_hasSpot yX7_hasSpot ∈ zALL := zT4 54 rfl rfl
theorem k4_55 : Cond.code yX7_hasSpot prog_9_method_4_code 2 (some .boolean) ∈ zALL := zT4 55 rfl rfl
theorem k4_56 : Cond.methodLink "FeltGlassLaw" 80 yX11_track ∈ zALL := zT4 56 rfl rfl
theorem k4_57 : Cond.instanceMethod yX11_track ∈ zALL := zT4 57 rfl rfl
theorem k4_58 : Cond.selects "FeltGlass" yX11_track yX11_track ∈ zALL := zT4 58 rfl rfl
theorem k4_59 : Cond.code yX11_track prog_1_method_18_code 3 (some .int) ∈ zALL := zT4 59 rfl rfl
theorem k4_60 : Cond.methodLink "FeltGlass" 164 yX7_hasTrack ∈ zALL := zT4 60 rfl rfl
theorem k4_61 : Cond.instanceMethod yX7_hasTrack ∈ zALL := zT4 61 rfl rfl
theorem k4_62 : Cond.selects "FeltGlass$Panel" yX7_hasTrack yX7_hasTrack ∈ zALL := zT4 62 rfl rfl
theorem k4_63 : Cond.code yX7_hasTrack prog_9_method_5_code 2 (some .boolean) ∈ zALL := zT4 63 rfl rfl
theorem k4_64 : Cond.methodLink "FeltGlassLaw" 84 yX11_as ∈ zALL := zT4 64 rfl rfl
theorem k4_65 : Cond.instanceMethod yX11_as ∈ zALL := zT4 65 rfl rfl
theorem k4_66 : Cond.selects "FeltGlass" yX11_as yX11_as ∈ zALL := zT4 66 rfl rfl
theorem k4_67 : Cond.code yX11_as prog_1_method_19_code 4 (some .int) ∈ zALL := zT4 67 rfl rfl
theorem k4_68 : Cond.methodLink "FeltGlassLaw" 88 yX11_event ∈ zALL := zT4 68 rfl rfl
theorem k4_69 : Cond.instanceMethod yX11_event ∈ zALL := zT4 69 rfl rfl
theorem k4_70 : Cond.selects "FeltGlass" yX11_event yX11_event ∈ zALL := zT4 70 rfl rfl
theorem k4_71 : Cond.code yX11_event prog_1_method_20_code 3 (some .int) ∈ zALL := zT4 71 rfl rfl
theorem k4_72 : Cond.methodLink "FeltGlass" 174 yX4_kept ∈ zALL := zT4 72 rfl rfl
theorem k4_73 : Cond.instanceMethod yX4_kept ∈ zALL := zT4 73 rfl rfl
theorem k4_74 : Cond.selects "FeltGlass$Journal" yX4_kept yX4_kept ∈ zALL := zT4 74 rfl rfl
theorem k4_75 : Cond.code yX4_kept prog_6_method_3_code 1 (some .int) ∈ zALL := zT4 75 rfl rfl
theorem k4_76 : Cond.methodLink "FeltGlass$Journal" 32 yJ9_min_7cf53 ∈ zALL := zT4 76 rfl rfl
theorem k4_77 : Cond.methodLink "FeltGlass" 177 yX4_fact ∈ zALL := zT4 77 rfl rfl
theorem k4_78 : Cond.instanceMethod yX4_fact ∈ zALL := zT4 78 rfl rfl
theorem k4_79 : Cond.selects "FeltGlass$Journal" yX4_fact yX4_fact ∈ zALL := zT4 79 rfl rfl
theorem k4_80 : Cond.code yX4_fact prog_6_method_4_code 4 (some .int) ∈ zALL := zT4 80 rfl rfl
theorem k4_81 : Cond.methodLink "FeltGlass$Journal" 38 yJ9_floorMod_7cf53 ∈ zALL := zT4 81 rfl rfl
theorem k4_82 : Cond.static yJ9_floorMod_7cf53 ∈ zALL := zT4 82 rfl rfl
theorem k4_83 : Cond.code yJ9_floorMod_7cf53 prog_15_method_50_code 3 (some .int) ∈ zALL := zT4 83 rfl rfl
theorem k4_84 : Cond.methodLink "FeltGlassLaw" 92 yX11_count ∈ zALL := zT4 84 rfl rfl
theorem k4_85 : Cond.instanceMethod yX11_count ∈ zALL := zT4 85 rfl rfl
theorem k4_86 : Cond.selects "FeltGlass" yX11_count yX11_count ∈ zALL := zT4 86 rfl rfl
theorem k4_87 : Cond.code yX11_count prog_1_method_21_code 2 (some .int) ∈ zALL := zT4 87 rfl rfl
theorem k4_88 : Cond.methodLink "FeltGlassLaw" 96 yX11_events ∈ zALL := zT4 88 rfl rfl
theorem k4_89 : Cond.instanceMethod yX11_events ∈ zALL := zT4 89 rfl rfl
theorem k4_90 : Cond.selects "FeltGlass" yX11_events yX11_events ∈ zALL := zT4 90 rfl rfl
theorem k4_91 : Cond.code yX11_events prog_1_method_22_code 2 (some .int) ∈ zALL := zT4 91 rfl rfl
theorem k4_92 : Cond.methodLink "FeltGlassLaw" 100 yX11_digest ∈ zALL := zT4 92 rfl rfl
theorem k4_93 : Cond.instanceMethod yX11_digest ∈ zALL := zT4 93 rfl rfl
theorem k4_94 : Cond.selects "FeltGlass" yX11_digest yX11_digest ∈ zALL := zT4 94 rfl rfl
theorem k4_95 : Cond.code yX11_digest prog_1_method_23_code 4 (some .long) ∈ zALL := zT4 95 rfl rfl
theorem k4_96 : Cond.constantLong "FeltGlass" 190 (1583) ∈ zALL := zT4 96 rfl rfl
theorem k4_97 : Cond.methodLink "FeltGlass" 192 yX11_hashPanelAndFingers ∈ zALL := zT4 97 rfl rfl
theorem k4_99 : Cond.instanceMethod yX11_hashPanelAndFingers ∈ zALL := zT4 99 rfl rfl
theorem k4_100 : Cond.code yX11_hashPanelAndFingers prog_1_method_24_code 7 (some .long) ∈ zALL := zT4 100 rfl rfl
theorem k4_101 : Cond.constantLong "FeltGlass" 208 (31) ∈ zALL := zT4 101 rfl rfl
theorem k4_102 : Cond.methodLink "FeltGlass" 219 yX11_about ∈ zALL := zT4 102 rfl rfl
theorem k4_103 : Cond.methodLink "FeltGlass" 222 yX11_finger ∈ zALL := zT4 103 rfl rfl
theorem k4_104 : Cond.methodLink "FeltGlass" 196 yX11_hashCells ∈ zALL := zT4 104 rfl rfl
theorem k4_106 : Cond.instanceMethod yX11_hashCells ∈ zALL := zT4 106 rfl rfl
theorem k4_107 : Cond.code yX11_hashCells prog_1_method_25_code 7 (some .long) ∈ zALL := zT4 107 rfl rfl
theorem k4_108 : Cond.methodLink "FeltGlass" 225 yX11_cell ∈ zALL := zT4 108 rfl rfl
theorem k4_109 : Cond.methodLink "FeltGlass" 199 yX11_hashSpots ∈ zALL := zT4 109 rfl rfl
theorem k4_111 : Cond.instanceMethod yX11_hashSpots ∈ zALL := zT4 111 rfl rfl
theorem k4_112 : Cond.code yX11_hashSpots prog_1_method_26_code 7 (some .long) ∈ zALL := zT4 112 rfl rfl
theorem k4_113 : Cond.methodLink "FeltGlass" 231 yX11_spot ∈ zALL := zT4 113 rfl rfl
theorem k4_114 : Cond.methodLink "FeltGlass" 202 yX11_hashTracks ∈ zALL := zT4 114 rfl rfl
theorem k4_116 : Cond.instanceMethod yX11_hashTracks ∈ zALL := zT4 116 rfl rfl
theorem k4_117 : Cond.code yX11_hashTracks prog_1_method_27_code 7 (some .long) ∈ zALL := zT4 117 rfl rfl
theorem k4_118 : Cond.methodLink "FeltGlass" 235 yX11_track ∈ zALL := zT4 118 rfl rfl
theorem k4_119 : Cond.methodLink "FeltGlass" 205 yX11_hashJournal ∈ zALL := zT4 119 rfl rfl
theorem k4_121 : Cond.instanceMethod yX11_hashJournal ∈ zALL := zT4 121 rfl rfl
theorem k4_122 : Cond.code yX11_hashJournal prog_1_method_28_code 7 (some .long) ∈ zALL := zT4 122 rfl rfl
theorem k4_123 : Cond.methodLink "FeltGlass" 238 yX11_event ∈ zALL := zT4 123 rfl rfl
theorem k4_124 : Cond.methodLink "FeltGlass" 213 yX11_count ∈ zALL := zT4 124 rfl rfl
theorem k4_125 : Cond.methodLink "FeltGlass" 216 yX11_events ∈ zALL := zT4 125 rfl rfl
theorem k4_126 : Cond.classLink "FeltGlassLaw" 10 "FeltGlassModel" ∈ zALL := zT4 126 rfl rfl
theorem k4_127 : Cond.instantiable "FeltGlassModel" 58 ∈ zALL := zT4 127 rfl rfl
theorem k4_128 : Cond.methodLink "FeltGlassLaw" 12 yX12_init ∈ zALL := zT4 128 rfl rfl
theorem k4_129 : Cond.instanceMethod yX12_init ∈ zALL := zT4 129 rfl rfl
theorem k4_130 : Cond.code yX12_init prog_14_method_1_code 1 none ∈ zALL := zT4 130 rfl rfl
theorem k4_131 : Cond.methodLink "FeltGlassModel" 1 objectInit ∈ zALL := zT4 131 rfl rfl
theorem k4_132 : Cond.fieldLink "FeltGlassModel" 127 "FeltGlassModel" "pageLength" "I" ∈ zALL := zT4 132 rfl rfl
theorem k4_133 : Cond.fieldLink "FeltGlassModel" 7 "FeltGlassModel" "page" "[I" ∈ zALL := zT4 133 rfl rfl
theorem k4_134 : Cond.fieldLink "FeltGlassModel" 116 "FeltGlassModel" "wide" "I" ∈ zALL := zT4 134 rfl rfl
theorem k4_135 : Cond.fieldLink "FeltGlassModel" 120 "FeltGlassModel" "high" "I" ∈ zALL := zT4 135 rfl rfl
theorem k4_136 : Cond.fieldLink "FeltGlassModel" 13 "FeltGlassModel" "airOf" "[I" ∈ zALL := zT4 136 rfl rfl
theorem k4_137 : Cond.fieldLink "FeltGlassModel" 16 "FeltGlassModel" "used" "[I" ∈ zALL := zT4 137 rfl rfl
theorem k4_138 : Cond.fieldLink "FeltGlassModel" 19 "FeltGlassModel" "raw" "[I" ∈ zALL := zT4 138 rfl rfl
theorem k4_139 : Cond.fieldLink "FeltGlassModel" 22 "FeltGlassModel" "delta" "[I" ∈ zALL := zT4 139 rfl rfl
theorem k4_140 : Cond.fieldLink "FeltGlassModel" 25 "FeltGlassModel" "spotOf" "[I" ∈ zALL := zT4 140 rfl rfl
theorem k4_141 : Cond.fieldLink "FeltGlassModel" 28 "FeltGlassModel" "isOn" "[Z" ∈ zALL := zT4 141 rfl rfl
theorem k4_142 : Cond.fieldLink "FeltGlassModel" 32 "FeltGlassModel" "fingerU" "[I" ∈ zALL := zT4 142 rfl rfl
theorem k4_143 : Cond.fieldLink "FeltGlassModel" 35 "FeltGlassModel" "fingerV" "[I" ∈ zALL := zT4 143 rfl rfl
theorem k4_144 : Cond.fieldLink "FeltGlassModel" 38 "FeltGlassModel" "power" "[I" ∈ zALL := zT4 144 rfl rfl
theorem k4_145 : Cond.fieldLink "FeltGlassModel" 41 "FeltGlassModel" "noiseOf" "[I" ∈ zALL := zT4 145 rfl rfl
theorem k4_146 : Cond.fieldLink "FeltGlassModel" 44 "FeltGlassModel" "bounds" "[I" ∈ zALL := zT4 146 rfl rfl
theorem k4_147 : Cond.fieldLink "FeltGlassModel" 194 "FeltGlassModel" "drive" "I" ∈ zALL := zT4 147 rfl rfl
theorem k4_148 : Cond.fieldLink "FeltGlassModel" 197 "FeltGlassModel" "seedNow" "I" ∈ zALL := zT4 148 rfl rfl
theorem k4_149 : Cond.fieldLink "FeltGlassModel" 200 "FeltGlassModel" "framesHere" "I" ∈ zALL := zT4 149 rfl rfl
theorem k4_150 : Cond.fieldLink "FeltGlassModel" 203 "FeltGlassModel" "spanNow" "I" ∈ zALL := zT4 150 rfl rfl
theorem k4_151 : Cond.fieldLink "FeltGlassModel" 206 "FeltGlassModel" "wasNoisy" "Z" ∈ zALL := zT4 151 rfl rfl
theorem k4_152 : Cond.fieldLink "FeltGlassModel" 209 "FeltGlassModel" "spots" "I" ∈ zALL := zT4 152 rfl rfl
theorem k4_153 : Cond.fieldLink "FeltGlassModel" 47 "FeltGlassModel" "spotTop" "[I" ∈ zALL := zT4 153 rfl rfl
theorem k4_154 : Cond.fieldLink "FeltGlassModel" 50 "FeltGlassModel" "spotSize" "[I" ∈ zALL := zT4 154 rfl rfl
theorem k4_155 : Cond.fieldLink "FeltGlassModel" 53 "FeltGlassModel" "spotMass" "[I" ∈ zALL := zT4 155 rfl rfl
theorem k4_156 : Cond.fieldLink "FeltGlassModel" 56 "FeltGlassModel" "spotX" "[I" ∈ zALL := zT4 156 rfl rfl
theorem k4_157 : Cond.fieldLink "FeltGlassModel" 59 "FeltGlassModel" "spotY" "[I" ∈ zALL := zT4 157 rfl rfl
theorem k4_158 : Cond.fieldLink "FeltGlassModel" 62 "FeltGlassModel" "spotId" "[I" ∈ zALL := zT4 158 rfl rfl
theorem k4_159 : Cond.fieldLink "FeltGlassModel" 212 "FeltGlassModel" "tracks" "I" ∈ zALL := zT4 159 rfl rfl
theorem k4_160 : Cond.fieldLink "FeltGlassModel" 65 "FeltGlassModel" "trackId" "[I" ∈ zALL := zT4 160 rfl rfl
theorem k4_161 : Cond.fieldLink "FeltGlassModel" 68 "FeltGlassModel" "trackX" "[I" ∈ zALL := zT4 161 rfl rfl
theorem k4_162 : Cond.fieldLink "FeltGlassModel" 71 "FeltGlassModel" "trackY" "[I" ∈ zALL := zT4 162 rfl rfl
theorem k4_163 : Cond.fieldLink "FeltGlassModel" 74 "FeltGlassModel" "trackSize" "[I" ∈ zALL := zT4 163 rfl rfl
theorem k4_164 : Cond.fieldLink "FeltGlassModel" 77 "FeltGlassModel" "trackMass" "[I" ∈ zALL := zT4 164 rfl rfl
theorem k4_165 : Cond.fieldLink "FeltGlassModel" 80 "FeltGlassModel" "age" "[I" ∈ zALL := zT4 165 rfl rfl
theorem k4_166 : Cond.fieldLink "FeltGlassModel" 83 "FeltGlassModel" "missed" "[I" ∈ zALL := zT4 166 rfl rfl
theorem k4_167 : Cond.fieldLink "FeltGlassModel" 86 "FeltGlassModel" "moved" "[I" ∈ zALL := zT4 167 rfl rfl
theorem k4_168 : Cond.fieldLink "FeltGlassModel" 89 "FeltGlassModel" "isPalm" "[Z" ∈ zALL := zT4 168 rfl rfl
theorem k4_169 : Cond.fieldLink "FeltGlassModel" 316 "FeltGlassModel" "kept" "I" ∈ zALL := zT4 169 rfl rfl
theorem k4_170 : Cond.fieldLink "FeltGlassModel" 92 "FeltGlassModel" "eventSort" "[I" ∈ zALL := zT4 170 rfl rfl
theorem k4_171 : Cond.fieldLink "FeltGlassModel" 95 "FeltGlassModel" "eventId" "[I" ∈ zALL := zT4 171 rfl rfl
theorem k4_172 : Cond.fieldLink "FeltGlassModel" 98 "FeltGlassModel" "eventFrame" "[I" ∈ zALL := zT4 172 rfl rfl
theorem k4_173 : Cond.fieldLink "FeltGlassModel" 101 "FeltGlassModel" "eventsOf" "[I" ∈ zALL := zT4 173 rfl rfl
theorem k4_174 : Cond.fieldLink "FeltGlassModel" 340 "FeltGlassModel" "framesEver" "I" ∈ zALL := zT4 174 rfl rfl
theorem k4_175 : Cond.fieldLink "FeltGlassModel" 349 "FeltGlassModel" "noisyEver" "I" ∈ zALL := zT4 175 rfl rfl
theorem k4_176 : Cond.fieldLink "FeltGlassModel" 334 "FeltGlassModel" "ids" "I" ∈ zALL := zT4 176 rfl rfl
theorem k4_177 : Cond.fieldLink "FeltGlassModel" 185 "FeltGlassModel" "textsRead" "I" ∈ zALL := zT4 177 rfl rfl
theorem k4_178 : Cond.fieldLink "FeltGlassModel" 215 "FeltGlassModel" "glasses" "I" ∈ zALL := zT4 178 rfl rfl
theorem k4_179 : Cond.fieldLink "FeltGlassModel" 130 "FeltGlassModel" "stage" "I" ∈ zALL := zT4 179 rfl rfl
theorem k4_180 : Cond.fieldLink "FeltGlassModel" 133 "FeltGlassModel" "figures" "I" ∈ zALL := zT4 180 rfl rfl
theorem k4_181 : Cond.fieldLink "FeltGlassModel" 158 "FeltGlassModel" "newFinger" "I" ∈ zALL := zT4 181 rfl rfl
theorem k4_182 : Cond.fieldLink "FeltGlassModel" 140 "FeltGlassModel" "newU" "I" ∈ zALL := zT4 182 rfl rfl
theorem k4_183 : Cond.fieldLink "FeltGlassModel" 147 "FeltGlassModel" "newV" "I" ∈ zALL := zT4 183 rfl rfl
theorem k4_184 : Cond.fieldLink "FeltGlassModel" 154 "FeltGlassModel" "isTaken" "Z" ∈ zALL := zT4 184 rfl rfl
theorem k4_185 : Cond.fieldLink "FeltGlassModel" 104 "FeltGlassModel" "topOf" "[I" ∈ zALL := zT4 185 rfl rfl
theorem k4_186 : Cond.fieldLink "FeltGlassModel" 107 "FeltGlassModel" "pairsOf" "[I" ∈ zALL := zT4 186 rfl rfl
theorem k4_187 : Cond.fieldLink "FeltGlassModel" 110 "FeltGlassModel" "costOf" "[I" ∈ zALL := zT4 187 rfl rfl
theorem k4_188 : Cond.fieldLink "FeltGlassModel" 113 "FeltGlassModel" "pairOf" "[I" ∈ zALL := zT4 188 rfl rfl
theorem k4_189 : Cond.fieldLink "FeltGlassModel" 402 "FeltGlassModel" "h" "J" ∈ zALL := zT4 189 rfl rfl
theorem k5_67 : Cond.methodLink "FeltGlassLaw" 17 yX12_letter ∈ zALL := zT5 67 rfl rfl
theorem k5_68 : Cond.instanceMethod yX12_letter ∈ zALL := zT5 68 rfl rfl
theorem k5_69 : Cond.selects "FeltGlassModel" yX12_letter yX12_letter ∈ zALL := zT5 69 rfl rfl
theorem k5_70 : Cond.code yX12_letter prog_14_method_7_code 2 (some .int) ∈ zALL := zT5 70 rfl rfl
theorem k5_71 : Cond.methodLink "FeltGlassModel" 123 yX12_within ∈ zALL := zT5 71 rfl rfl
theorem k5_72 : Cond.static yX12_within ∈ zALL := zT5 72 rfl rfl
theorem k5_73 : Cond.code yX12_within prog_14_method_3_code 3 (some .boolean) ∈ zALL := zT5 73 rfl rfl
theorem k5_74 : Cond.methodLink "FeltGlassLaw" 22 yX12_blank ∈ zALL := zT5 74 rfl rfl
theorem k5_75 : Cond.instanceMethod yX12_blank ∈ zALL := zT5 75 rfl rfl
theorem k5_76 : Cond.selects "FeltGlassModel" yX12_blank yX12_blank ∈ zALL := zT5 76 rfl rfl
theorem k5_77 : Cond.code yX12_blank prog_14_method_8_code 2 (some .int) ∈ zALL := zT5 77 rfl rfl
theorem k5_78 : Cond.methodLink "FeltGlassLaw" 26 yX12_fault ∈ zALL := zT5 78 rfl rfl
theorem k5_79 : Cond.instanceMethod yX12_fault ∈ zALL := zT5 79 rfl rfl
theorem k5_80 : Cond.selects "FeltGlassModel" yX12_fault yX12_fault ∈ zALL := zT5 80 rfl rfl
theorem k5_81 : Cond.code yX12_fault prog_14_method_18_code 1 (some .int) ∈ zALL := zT5 81 rfl rfl
theorem k5_82 : Cond.methodLink "FeltGlassModel" 177 yX12_isGlass ∈ zALL := zT5 82 rfl rfl
theorem k5_84 : Cond.instanceMethod yX12_isGlass ∈ zALL := zT5 84 rfl rfl
theorem k5_85 : Cond.code yX12_isGlass prog_14_method_5_code 1 (some .boolean) ∈ zALL := zT5 85 rfl rfl
theorem k5_86 : Cond.methodLink "FeltGlassModel" 181 yX12_goAlong ∈ zALL := zT5 86 rfl rfl
theorem k5_88 : Cond.instanceMethod yX12_goAlong ∈ zALL := zT5 88 rfl rfl
theorem k5_89 : Cond.code yX12_goAlong prog_14_method_17_code 3 (some .int) ∈ zALL := zT5 89 rfl rfl
theorem k5_90 : Cond.methodLink "FeltGlassModel" 174 yX12_takes ∈ zALL := zT5 90 rfl rfl
theorem k5_92 : Cond.instanceMethod yX12_takes ∈ zALL := zT5 92 rfl rfl
theorem k5_93 : Cond.code yX12_takes prog_14_method_16_code 2 (some .boolean) ∈ zALL := zT5 93 rfl rfl
theorem k5_94 : Cond.methodLink "FeltGlassModel" 161 yX12_takesDigit ∈ zALL := zT5 94 rfl rfl
theorem k5_96 : Cond.instanceMethod yX12_takesDigit ∈ zALL := zT5 96 rfl rfl
theorem k5_97 : Cond.code yX12_takesDigit prog_14_method_14_code 3 (some .boolean) ∈ zALL := zT5 97 rfl rfl
theorem k5_98 : Cond.methodLink "FeltGlassModel" 143 yX12_goes ∈ zALL := zT5 98 rfl rfl
theorem k5_100 : Cond.instanceMethod yX12_goes ∈ zALL := zT5 100 rfl rfl
theorem k5_101 : Cond.code yX12_goes prog_14_method_11_code 3 (some .boolean) ∈ zALL := zT5 101 rfl rfl
theorem k5_102 : Cond.methodLink "FeltGlassModel" 165 yX12_takesKind ∈ zALL := zT5 102 rfl rfl
theorem k5_104 : Cond.instanceMethod yX12_takesKind ∈ zALL := zT5 104 rfl rfl
theorem k5_105 : Cond.code yX12_takesKind prog_14_method_15_code 2 (some .boolean) ∈ zALL := zT5 105 rfl rfl
theorem k5_106 : Cond.methodLink "FeltGlassModel" 168 yX12_takesFigure ∈ zALL := zT5 106 rfl rfl
theorem k5_108 : Cond.instanceMethod yX12_takesFigure ∈ zALL := zT5 108 rfl rfl
theorem k5_109 : Cond.code yX12_takesFigure prog_14_method_10_code 4 (some .boolean) ∈ zALL := zT5 109 rfl rfl
theorem k5_110 : Cond.methodLink "FeltGlassModel" 136 yX12_mostNow ∈ zALL := zT5 110 rfl rfl
theorem k5_112 : Cond.instanceMethod yX12_mostNow ∈ zALL := zT5 112 rfl rfl
theorem k5_113 : Cond.code yX12_mostNow prog_14_method_9_code 1 (some .int) ∈ zALL := zT5 113 rfl rfl
theorem k5_114 : Cond.methodLink "FeltGlassModel" 171 yX12_takesSign ∈ zALL := zT5 114 rfl rfl
theorem k5_116 : Cond.instanceMethod yX12_takesSign ∈ zALL := zT5 116 rfl rfl
theorem k5_117 : Cond.code yX12_takesSign prog_14_method_12_code 4 (some .boolean) ∈ zALL := zT5 117 rfl rfl
theorem k5_118 : Cond.methodLink "FeltGlassModel" 150 yX12_putOn ∈ zALL := zT5 118 rfl rfl
theorem k5_120 : Cond.instanceMethod yX12_putOn ∈ zALL := zT5 120 rfl rfl
theorem k5_121 : Cond.code yX12_putOn prog_14_method_13_code 2 none ∈ zALL := zT5 121 rfl rfl
theorem k5_122 : Cond.methodLink "FeltGlassLaw" 30 yX12_fingers ∈ zALL := zT5 122 rfl rfl
theorem k5_123 : Cond.instanceMethod yX12_fingers ∈ zALL := zT5 123 rfl rfl
theorem k5_124 : Cond.selects "FeltGlassModel" yX12_fingers yX12_fingers ∈ zALL := zT5 124 rfl rfl
theorem k5_125 : Cond.code yX12_fingers prog_14_method_20_code 2 (some .int) ∈ zALL := zT5 125 rfl rfl
theorem k5_126 : Cond.methodLink "FeltGlassModel" 188 yX12_onMany ∈ zALL := zT5 126 rfl rfl
theorem k5_128 : Cond.instanceMethod yX12_onMany ∈ zALL := zT5 128 rfl rfl
theorem k5_129 : Cond.code yX12_onMany prog_14_method_19_code 3 (some .int) ∈ zALL := zT5 129 rfl rfl
theorem k5_130 : Cond.methodLink "FeltGlassLaw" 35 yX12_glass ∈ zALL := zT5 130 rfl rfl
theorem k5_131 : Cond.instanceMethod yX12_glass ∈ zALL := zT5 131 rfl rfl
theorem k5_132 : Cond.selects "FeltGlassModel" yX12_glass yX12_glass ∈ zALL := zT5 132 rfl rfl
theorem k5_133 : Cond.code yX12_glass prog_14_method_22_code 4 (some .int) ∈ zALL := zT5 133 rfl rfl
theorem k5_134 : Cond.methodLink "FeltGlassModel" 191 yX12_layBounds ∈ zALL := zT5 134 rfl rfl
theorem k5_136 : Cond.instanceMethod yX12_layBounds ∈ zALL := zT5 136 rfl rfl
theorem k5_137 : Cond.code yX12_layBounds prog_14_method_21_code 1 none ∈ zALL := zT5 137 rfl rfl
theorem k5_138 : Cond.methodLink "FeltGlassModel" 218 yX12_cells ∈ zALL := zT5 138 rfl rfl
theorem k5_140 : Cond.instanceMethod yX12_cells ∈ zALL := zT5 140 rfl rfl
theorem k5_141 : Cond.code yX12_cells prog_14_method_6_code 1 (some .int) ∈ zALL := zT5 141 rfl rfl
theorem k5_142 : Cond.methodLink "FeltGlassLaw" 39 yX12_air ∈ zALL := zT5 142 rfl rfl
theorem k5_143 : Cond.instanceMethod yX12_air ∈ zALL := zT5 143 rfl rfl
theorem k5_144 : Cond.selects "FeltGlassModel" yX12_air yX12_air ∈ zALL := zT5 144 rfl rfl
theorem k5_145 : Cond.code yX12_air prog_14_method_24_code 4 (some .int) ∈ zALL := zT5 145 rfl rfl
theorem k5_146 : Cond.methodLink "FeltGlassModel" 221 yX12_isCell ∈ zALL := zT5 146 rfl rfl
theorem k5_148 : Cond.instanceMethod yX12_isCell ∈ zALL := zT5 148 rfl rfl
theorem k5_149 : Cond.code yX12_isCell prog_14_method_23_code 2 (some .boolean) ∈ zALL := zT5 149 rfl rfl
theorem k5_150 : Cond.methodLink "FeltGlassLaw" 43 yX12_warm ∈ zALL := zT5 150 rfl rfl
theorem k5_151 : Cond.instanceMethod yX12_warm ∈ zALL := zT5 151 rfl rfl
theorem k5_152 : Cond.selects "FeltGlassModel" yX12_warm yX12_warm ∈ zALL := zT5 152 rfl rfl
theorem k5_153 : Cond.code yX12_warm prog_14_method_26_code 5 (some .int) ∈ zALL := zT5 153 rfl rfl
theorem k5_154 : Cond.methodLink "FeltGlassModel" 224 yX12_held ∈ zALL := zT5 154 rfl rfl
theorem k5_155 : Cond.static yX12_held ∈ zALL := zT5 155 rfl rfl
theorem k5_156 : Cond.code yX12_held prog_14_method_25_code 1 (some .int) ∈ zALL := zT5 156 rfl rfl
theorem k5_157 : Cond.methodLink "FeltGlassLaw" 47 yX12_noise ∈ zALL := zT5 157 rfl rfl
theorem k5_158 : Cond.instanceMethod yX12_noise ∈ zALL := zT5 158 rfl rfl
theorem k5_159 : Cond.selects "FeltGlassModel" yX12_noise yX12_noise ∈ zALL := zT5 159 rfl rfl
theorem k5_160 : Cond.code yX12_noise prog_14_method_27_code 4 (some .int) ∈ zALL := zT5 160 rfl rfl
theorem k5_161 : Cond.methodLink "FeltGlassLaw" 51 yX12_seed ∈ zALL := zT5 161 rfl rfl
theorem k5_162 : Cond.instanceMethod yX12_seed ∈ zALL := zT5 162 rfl rfl
theorem k5_163 : Cond.selects "FeltGlassModel" yX12_seed yX12_seed ∈ zALL := zT5 163 rfl rfl
theorem k5_164 : Cond.code yX12_seed prog_14_method_28_code 3 (some .int) ∈ zALL := zT5 164 rfl rfl
theorem k5_165 : Cond.methodLink "FeltGlassLaw" 55 yX12_bound ∈ zALL := zT5 165 rfl rfl
theorem k5_166 : Cond.instanceMethod yX12_bound ∈ zALL := zT5 166 rfl rfl
theorem k5_167 : Cond.selects "FeltGlassModel" yX12_bound yX12_bound ∈ zALL := zT5 167 rfl rfl
theorem k5_168 : Cond.code yX12_bound prog_14_method_30_code 4 (some .int) ∈ zALL := zT5 168 rfl rfl
theorem k5_169 : Cond.methodLink "FeltGlassModel" 228 yX12_isBound ∈ zALL := zT5 169 rfl rfl
theorem k5_170 : Cond.static yX12_isBound ∈ zALL := zT5 170 rfl rfl
theorem k5_171 : Cond.code yX12_isBound prog_14_method_29_code 2 (some .boolean) ∈ zALL := zT5 171 rfl rfl
theorem k5_172 : Cond.methodLink "FeltGlassLaw" 59 yX12_settle ∈ zALL := zT5 172 rfl rfl
theorem k5_173 : Cond.instanceMethod yX12_settle ∈ zALL := zT5 173 rfl rfl
theorem k5_174 : Cond.selects "FeltGlassModel" yX12_settle yX12_settle ∈ zALL := zT5 174 rfl rfl
theorem k5_175 : Cond.code yX12_settle prog_14_method_31_code 3 (some .int) ∈ zALL := zT5 175 rfl rfl
theorem k5_176 : Cond.methodLink "FeltGlassLaw" 63 yX12_frames ∈ zALL := zT5 176 rfl rfl
theorem k5_177 : Cond.instanceMethod yX12_frames ∈ zALL := zT5 177 rfl rfl
theorem k5_178 : Cond.selects "FeltGlassModel" yX12_frames yX12_frames ∈ zALL := zT5 178 rfl rfl
theorem k5_179 : Cond.code yX12_frames prog_14_method_71_code 4 (some .int) ∈ zALL := zT5 179 rfl rfl
theorem k5_180 : Cond.methodLink "FeltGlassModel" 370 yX12_eventsAll ∈ zALL := zT5 180 rfl rfl
theorem k5_182 : Cond.instanceMethod yX12_eventsAll ∈ zALL := zT5 182 rfl rfl
theorem k5_183 : Cond.code yX12_eventsAll prog_14_method_70_code 1 (some .int) ∈ zALL := zT5 183 rfl rfl
theorem k5_184 : Cond.methodLink "FeltGlassModel" 373 yX12_frame ∈ zALL := zT5 184 rfl rfl
theorem k5_186 : Cond.instanceMethod yX12_frame ∈ zALL := zT5 186 rfl rfl
theorem k5_187 : Cond.code yX12_frame prog_14_method_69_code 1 none ∈ zALL := zT5 187 rfl rfl
theorem k5_188 : Cond.methodLink "FeltGlassModel" 343 yX12_layRaw ∈ zALL := zT5 188 rfl rfl
theorem k5_190 : Cond.instanceMethod yX12_layRaw ∈ zALL := zT5 190 rfl rfl
theorem k5_191 : Cond.code yX12_layRaw prog_14_method_35_code 3 none ∈ zALL := zT5 191 rfl rfl
theorem k5_192 : Cond.methodLink "FeltGlassModel" 244 yX12_feltAll ∈ zALL := zT5 192 rfl rfl
theorem k5_194 : Cond.instanceMethod yX12_feltAll ∈ zALL := zT5 194 rfl rfl
theorem k5_195 : Cond.code yX12_feltAll prog_14_method_33_code 4 (some .int) ∈ zALL := zT5 195 rfl rfl
theorem k5_196 : Cond.methodLink "FeltGlassModel" 232 yX12_feltOf ∈ zALL := zT5 196 rfl rfl
theorem k5_198 : Cond.instanceMethod yX12_feltOf ∈ zALL := zT5 198 rfl rfl
theorem k5_199 : Cond.code yX12_feltOf prog_14_method_32_code 6 (some .int) ∈ zALL := zT5 199 rfl rfl
theorem k5_200 : Cond.methodLink "FeltGlassModel" 247 yX12_draw ∈ zALL := zT5 200 rfl rfl
theorem k5_202 : Cond.instanceMethod yX12_draw ∈ zALL := zT5 202 rfl rfl
theorem k5_203 : Cond.code yX12_draw prog_14_method_34_code 4 (some .int) ∈ zALL := zT5 203 rfl rfl
theorem k5_204 : Cond.constantLong "FeltGlassModel" 236 (1103515245) ∈ zALL := zT5 204 rfl rfl
theorem k5_205 : Cond.constantLong "FeltGlassModel" 238 (12345) ∈ zALL := zT5 205 rfl rfl
theorem k5_206 : Cond.constantLong "FeltGlassModel" 240 (2147483648) ∈ zALL := zT5 206 rfl rfl
theorem k5_207 : Cond.constantLong "FeltGlassModel" 242 (65536) ∈ zALL := zT5 207 rfl rfl
theorem k5_208 : Cond.methodLink "FeltGlassModel" 346 yX12_spanOf ∈ zALL := zT5 208 rfl rfl
theorem k5_210 : Cond.instanceMethod yX12_spanOf ∈ zALL := zT5 210 rfl rfl
theorem k5_211 : Cond.code yX12_spanOf prog_14_method_39_code 4 (some .int) ∈ zALL := zT5 211 rfl rfl
theorem k5_212 : Cond.constant "FeltGlassModel" 256 (268435456) ∈ zALL := zT5 212 rfl rfl
theorem k5_213 : Cond.constant "FeltGlassModel" 257 (-268435456) ∈ zALL := zT5 213 rfl rfl
theorem k5_214 : Cond.methodLink "FeltGlassModel" 258 yX12_isNearTouched ∈ zALL := zT5 214 rfl rfl
theorem k5_216 : Cond.instanceMethod yX12_isNearTouched ∈ zALL := zT5 216 rfl rfl
theorem k5_217 : Cond.code yX12_isNearTouched prog_14_method_38_code 5 (some .boolean) ∈ zALL := zT5 217 rfl rfl
theorem k5_218 : Cond.methodLink "FeltGlassModel" 250 yX12_isTouched ∈ zALL := zT5 218 rfl rfl
theorem k5_220 : Cond.instanceMethod yX12_isTouched ∈ zALL := zT5 220 rfl rfl
theorem k5_221 : Cond.code yX12_isTouched prog_14_method_37_code 2 (some .boolean) ∈ zALL := zT5 221 rfl rfl
theorem k5_222 : Cond.methodLink "FeltGlassModel" 253 yX12_beside ∈ zALL := zT5 222 rfl rfl
theorem k5_224 : Cond.instanceMethod yX12_beside ∈ zALL := zT5 224 rfl rfl
theorem k5_225 : Cond.code yX12_beside prog_14_method_36_code 6 (some .int) ∈ zALL := zT5 225 rfl rfl
theorem k5_226 : Cond.methodLink "FeltGlassModel" 352 yX12_layHills ∈ zALL := zT5 226 rfl rfl
theorem k5_228 : Cond.instanceMethod yX12_layHills ∈ zALL := zT5 228 rfl rfl
theorem k5_229 : Cond.code yX12_layHills prog_14_method_47_code 2 none ∈ zALL := zT5 229 rfl rfl
theorem k5_230 : Cond.methodLink "FeltGlassModel" 276 yX12_layTops ∈ zALL := zT5 230 rfl rfl
theorem k5_232 : Cond.instanceMethod yX12_layTops ∈ zALL := zT5 232 rfl rfl
theorem k5_233 : Cond.code yX12_layTops prog_14_method_41_code 3 none ∈ zALL := zT5 233 rfl rfl
theorem k5_234 : Cond.methodLink "FeltGlassModel" 261 yX12_higher ∈ zALL := zT5 234 rfl rfl
theorem k5_236 : Cond.instanceMethod yX12_higher ∈ zALL := zT5 236 rfl rfl
theorem k5_237 : Cond.code yX12_higher prog_14_method_40_code 6 (some .int) ∈ zALL := zT5 237 rfl rfl
theorem k5_238 : Cond.methodLink "FeltGlassModel" 279 yX12_joinOnce ∈ zALL := zT5 238 rfl rfl
theorem k6_0 : Cond.instanceMethod yX12_joinOnce ∈ zALL := zT6 0 rfl rfl
theorem k6_1 : Cond.code yX12_joinOnce prog_14_method_46_code 7 (some .boolean) ∈ zALL := zT6 1 rfl rfl
theorem k6_2 : Cond.methodLink "FeltGlassModel" 267 yX12_isTop ∈ zALL := zT6 2 rfl rfl
theorem k6_4 : Cond.instanceMethod yX12_isTop ∈ zALL := zT6 4 rfl rfl
theorem k6_5 : Cond.code yX12_isTop prog_14_method_44_code 2 (some .boolean) ∈ zALL := zT6 5 rfl rfl
theorem k6_6 : Cond.methodLink "FeltGlassModel" 270 yX12_passOf ∈ zALL := zT6 6 rfl rfl
theorem k6_8 : Cond.instanceMethod yX12_passOf ∈ zALL := zT6 8 rfl rfl
theorem k6_9 : Cond.code yX12_passOf prog_14_method_43_code 8 (some .int) ∈ zALL := zT6 9 rfl rfl
theorem k6_10 : Cond.methodLink "FeltGlassModel" 264 yX12_lesser ∈ zALL := zT6 10 rfl rfl
theorem k6_11 : Cond.static yX12_lesser ∈ zALL := zT6 11 rfl rfl
theorem k6_12 : Cond.code yX12_lesser prog_14_method_42_code 2 (some .int) ∈ zALL := zT6 12 rfl rfl
theorem k6_13 : Cond.methodLink "FeltGlassModel" 273 yX12_isJoined ∈ zALL := zT6 13 rfl rfl
theorem k6_15 : Cond.instanceMethod yX12_isJoined ∈ zALL := zT6 15 rfl rfl
theorem k6_16 : Cond.code yX12_isJoined prog_14_method_45_code 4 (some .boolean) ∈ zALL := zT6 16 rfl rfl
theorem k6_17 : Cond.methodLink "FeltGlassModel" 355 yX12_laySpots ∈ zALL := zT6 17 rfl rfl
theorem k6_19 : Cond.instanceMethod yX12_laySpots ∈ zALL := zT6 19 rfl rfl
theorem k6_20 : Cond.code yX12_laySpots prog_14_method_53_code 2 none ∈ zALL := zT6 20 rfl rfl
theorem k6_21 : Cond.methodLink "FeltGlassModel" 285 yX12_isHigh ∈ zALL := zT6 21 rfl rfl
theorem k6_23 : Cond.instanceMethod yX12_isHigh ∈ zALL := zT6 23 rfl rfl
theorem k6_24 : Cond.code yX12_isHigh prog_14_method_50_code 2 (some .boolean) ∈ zALL := zT6 24 rfl rfl
theorem k6_25 : Cond.methodLink "FeltGlassModel" 291 yX12_aheadOf ∈ zALL := zT6 25 rfl rfl
theorem k6_27 : Cond.instanceMethod yX12_aheadOf ∈ zALL := zT6 27 rfl rfl
theorem k6_28 : Cond.code yX12_aheadOf prog_14_method_51_code 6 (some .int) ∈ zALL := zT6 28 rfl rfl
theorem k6_29 : Cond.methodLink "FeltGlassModel" 282 yX12_massOf ∈ zALL := zT6 29 rfl rfl
theorem k6_31 : Cond.instanceMethod yX12_massOf ∈ zALL := zT6 31 rfl rfl
theorem k6_32 : Cond.code yX12_massOf prog_14_method_48_code 4 (some .int) ∈ zALL := zT6 32 rfl rfl
theorem k6_33 : Cond.methodLink "FeltGlassModel" 294 yX12_laySpot ∈ zALL := zT6 33 rfl rfl
theorem k6_35 : Cond.instanceMethod yX12_laySpot ∈ zALL := zT6 35 rfl rfl
theorem k6_36 : Cond.code yX12_laySpot prog_14_method_52_code 6 none ∈ zALL := zT6 36 rfl rfl
theorem k6_37 : Cond.methodLink "FeltGlassModel" 288 yX12_sizeOf ∈ zALL := zT6 37 rfl rfl
theorem k6_39 : Cond.instanceMethod yX12_sizeOf ∈ zALL := zT6 39 rfl rfl
theorem k6_40 : Cond.code yX12_sizeOf prog_14_method_49_code 4 (some .int) ∈ zALL := zT6 40 rfl rfl
theorem k6_41 : Cond.methodLink "FeltGlassModel" 358 yX12_layPairs ∈ zALL := zT6 41 rfl rfl
theorem k6_43 : Cond.instanceMethod yX12_layPairs ∈ zALL := zT6 43 rfl rfl
theorem k6_44 : Cond.code yX12_layPairs prog_14_method_59_code 4 none ∈ zALL := zT6 44 rfl rfl
theorem k6_45 : Cond.methodLink "FeltGlassModel" 309 yX12_layPairsOf ∈ zALL := zT6 45 rfl rfl
theorem k6_47 : Cond.instanceMethod yX12_layPairsOf ∈ zALL := zT6 47 rfl rfl
theorem k6_48 : Cond.code yX12_layPairsOf prog_14_method_57_code 7 none ∈ zALL := zT6 48 rfl rfl
theorem k6_49 : Cond.methodLink "FeltGlassModel" 300 yX12_isNear ∈ zALL := zT6 49 rfl rfl
theorem k6_51 : Cond.instanceMethod yX12_isNear ∈ zALL := zT6 51 rfl rfl
theorem k6_52 : Cond.code yX12_isNear prog_14_method_54_code 3 (some .boolean) ∈ zALL := zT6 52 rfl rfl
theorem k6_53 : Cond.methodLink "FeltGlassModel" 297 yX12_abs ∈ zALL := zT6 53 rfl rfl
theorem k6_54 : Cond.static yX12_abs ∈ zALL := zT6 54 rfl rfl
theorem k6_55 : Cond.code yX12_abs prog_14_method_4_code 1 (some .int) ∈ zALL := zT6 55 rfl rfl
theorem k6_56 : Cond.methodLink "FeltGlassModel" 303 yX12_pairCost ∈ zALL := zT6 56 rfl rfl
theorem k6_58 : Cond.instanceMethod yX12_pairCost ∈ zALL := zT6 58 rfl rfl
theorem k6_59 : Cond.code yX12_pairCost prog_14_method_55_code 5 (some .int) ∈ zALL := zT6 59 rfl rfl
theorem k6_60 : Cond.methodLink "FeltGlassModel" 306 yX12_isBetter ∈ zALL := zT6 60 rfl rfl
theorem k6_62 : Cond.instanceMethod yX12_isBetter ∈ zALL := zT6 62 rfl rfl
theorem k6_63 : Cond.code yX12_isBetter prog_14_method_56_code 4 (some .boolean) ∈ zALL := zT6 63 rfl rfl
theorem k6_64 : Cond.methodLink "FeltGlassModel" 313 yX12_isBestPair ∈ zALL := zT6 64 rfl rfl
theorem k6_66 : Cond.instanceMethod yX12_isBestPair ∈ zALL := zT6 66 rfl rfl
theorem k6_67 : Cond.code yX12_isBestPair prog_14_method_58_code 6 (some .boolean) ∈ zALL := zT6 67 rfl rfl
theorem k6_68 : Cond.methodLink "FeltGlassModel" 361 yX12_followAll ∈ zALL := zT6 68 rfl rfl
theorem k6_70 : Cond.instanceMethod yX12_followAll ∈ zALL := zT6 70 rfl rfl
theorem k6_71 : Cond.code yX12_followAll prog_14_method_65_code 4 none ∈ zALL := zT6 71 rfl rfl
theorem k6_72 : Cond.methodLink "FeltGlassModel" 325 yX12_follow ∈ zALL := zT6 72 rfl rfl
theorem k6_74 : Cond.instanceMethod yX12_follow ∈ zALL := zT6 74 rfl rfl
theorem k6_75 : Cond.code yX12_follow prog_14_method_61_code 3 none ∈ zALL := zT6 75 rfl rfl
theorem k6_76 : Cond.methodLink "FeltGlassModel" 319 yX12_lay ∈ zALL := zT6 76 rfl rfl
theorem k6_78 : Cond.instanceMethod yX12_lay ∈ zALL := zT6 78 rfl rfl
theorem k6_79 : Cond.code yX12_lay prog_14_method_62_code 3 none ∈ zALL := zT6 79 rfl rfl
theorem k6_80 : Cond.methodLink "FeltGlassModel" 322 yX12_happens ∈ zALL := zT6 80 rfl rfl
theorem k6_82 : Cond.instanceMethod yX12_happens ∈ zALL := zT6 82 rfl rfl
theorem k6_83 : Cond.code yX12_happens prog_14_method_60_code 4 none ∈ zALL := zT6 83 rfl rfl
theorem k6_84 : Cond.methodLink "FeltGlassModel" 328 yX12_isLost ∈ zALL := zT6 84 rfl rfl
theorem k6_86 : Cond.instanceMethod yX12_isLost ∈ zALL := zT6 86 rfl rfl
theorem k6_87 : Cond.code yX12_isLost prog_14_method_63_code 2 (some .boolean) ∈ zALL := zT6 87 rfl rfl
theorem k6_88 : Cond.methodLink "FeltGlassModel" 331 yX12_keepAs ∈ zALL := zT6 88 rfl rfl
theorem k6_90 : Cond.instanceMethod yX12_keepAs ∈ zALL := zT6 90 rfl rfl
theorem k6_91 : Cond.code yX12_keepAs prog_14_method_64_code 3 none ∈ zALL := zT6 91 rfl rfl
theorem k6_92 : Cond.methodLink "FeltGlassModel" 364 yX12_beginAll ∈ zALL := zT6 92 rfl rfl
theorem k6_94 : Cond.instanceMethod yX12_beginAll ∈ zALL := zT6 94 rfl rfl
theorem k6_95 : Cond.code yX12_beginAll prog_14_method_66_code 2 none ∈ zALL := zT6 95 rfl rfl
theorem k6_96 : Cond.methodLink "FeltGlassModel" 367 yX12_drift ∈ zALL := zT6 96 rfl rfl
theorem k6_98 : Cond.instanceMethod yX12_drift ∈ zALL := zT6 98 rfl rfl
theorem k6_99 : Cond.code yX12_drift prog_14_method_68_code 3 none ∈ zALL := zT6 99 rfl rfl
theorem k6_100 : Cond.methodLink "FeltGlassModel" 337 yX12_isNearSpot ∈ zALL := zT6 100 rfl rfl
theorem k6_102 : Cond.instanceMethod yX12_isNearSpot ∈ zALL := zT6 102 rfl rfl
theorem k6_103 : Cond.code yX12_isNearSpot prog_14_method_67_code 5 (some .boolean) ∈ zALL := zT6 103 rfl rfl
theorem k6_104 : Cond.methodLink "FeltGlassLaw" 67 yX12_finger ∈ zALL := zT6 104 rfl rfl
theorem k6_105 : Cond.instanceMethod yX12_finger ∈ zALL := zT6 105 rfl rfl
theorem k6_106 : Cond.selects "FeltGlassModel" yX12_finger yX12_finger ∈ zALL := zT6 106 rfl rfl
theorem k6_107 : Cond.code yX12_finger prog_14_method_73_code 3 (some .int) ∈ zALL := zT6 107 rfl rfl
theorem k6_108 : Cond.methodLink "FeltGlassModel" 376 yX12_fingerNow ∈ zALL := zT6 108 rfl rfl
theorem k6_110 : Cond.instanceMethod yX12_fingerNow ∈ zALL := zT6 110 rfl rfl
theorem k6_111 : Cond.code yX12_fingerNow prog_14_method_72_code 3 (some .int) ∈ zALL := zT6 111 rfl rfl
theorem k6_112 : Cond.methodLink "FeltGlassLaw" 71 yX12_cell ∈ zALL := zT6 112 rfl rfl
theorem k6_113 : Cond.instanceMethod yX12_cell ∈ zALL := zT6 113 rfl rfl
theorem k6_114 : Cond.selects "FeltGlassModel" yX12_cell yX12_cell ∈ zALL := zT6 114 rfl rfl
theorem k6_115 : Cond.code yX12_cell prog_14_method_75_code 3 (some .int) ∈ zALL := zT6 115 rfl rfl
theorem k6_116 : Cond.methodLink "FeltGlassModel" 379 yX12_cellNow ∈ zALL := zT6 116 rfl rfl
theorem k6_118 : Cond.instanceMethod yX12_cellNow ∈ zALL := zT6 118 rfl rfl
theorem k6_119 : Cond.code yX12_cellNow prog_14_method_74_code 3 (some .int) ∈ zALL := zT6 119 rfl rfl
theorem k6_120 : Cond.methodLink "FeltGlassLaw" 75 yX12_about ∈ zALL := zT6 120 rfl rfl
theorem k6_121 : Cond.instanceMethod yX12_about ∈ zALL := zT6 121 rfl rfl
theorem k6_122 : Cond.selects "FeltGlassModel" yX12_about yX12_about ∈ zALL := zT6 122 rfl rfl
theorem k6_123 : Cond.code yX12_about prog_14_method_77_code 2 (some .int) ∈ zALL := zT6 123 rfl rfl
theorem k6_124 : Cond.methodLink "FeltGlassModel" 382 yX12_aboutNow ∈ zALL := zT6 124 rfl rfl
theorem k6_126 : Cond.instanceMethod yX12_aboutNow ∈ zALL := zT6 126 rfl rfl
theorem k6_127 : Cond.code yX12_aboutNow prog_14_method_76_code 2 (some .int) ∈ zALL := zT6 127 rfl rfl
theorem k6_128 : Cond.methodLink "FeltGlassLaw" 79 yX12_spot ∈ zALL := zT6 128 rfl rfl
theorem k6_129 : Cond.instanceMethod yX12_spot ∈ zALL := zT6 129 rfl rfl
theorem k6_130 : Cond.selects "FeltGlassModel" yX12_spot yX12_spot ∈ zALL := zT6 130 rfl rfl
theorem k6_131 : Cond.code yX12_spot prog_14_method_79_code 3 (some .int) ∈ zALL := zT6 131 rfl rfl
theorem k6_132 : Cond.methodLink "FeltGlassModel" 385 yX12_spotNow ∈ zALL := zT6 132 rfl rfl
theorem k6_134 : Cond.instanceMethod yX12_spotNow ∈ zALL := zT6 134 rfl rfl
theorem k6_135 : Cond.code yX12_spotNow prog_14_method_78_code 3 (some .int) ∈ zALL := zT6 135 rfl rfl
theorem k6_136 : Cond.methodLink "FeltGlassLaw" 83 yX12_track ∈ zALL := zT6 136 rfl rfl
theorem k6_137 : Cond.instanceMethod yX12_track ∈ zALL := zT6 137 rfl rfl
theorem k6_138 : Cond.selects "FeltGlassModel" yX12_track yX12_track ∈ zALL := zT6 138 rfl rfl
theorem k6_139 : Cond.code yX12_track prog_14_method_82_code 3 (some .int) ∈ zALL := zT6 139 rfl rfl
theorem k6_140 : Cond.methodLink "FeltGlassModel" 388 yX12_isTrack ∈ zALL := zT6 140 rfl rfl
theorem k6_142 : Cond.instanceMethod yX12_isTrack ∈ zALL := zT6 142 rfl rfl
theorem k6_143 : Cond.code yX12_isTrack prog_14_method_81_code 2 (some .boolean) ∈ zALL := zT6 143 rfl rfl
theorem k6_144 : Cond.methodLink "FeltGlassModel" 391 yX12_trackNow ∈ zALL := zT6 144 rfl rfl
theorem k6_146 : Cond.instanceMethod yX12_trackNow ∈ zALL := zT6 146 rfl rfl
theorem k6_147 : Cond.code yX12_trackNow prog_14_method_80_code 3 (some .int) ∈ zALL := zT6 147 rfl rfl
theorem k6_148 : Cond.methodLink "FeltGlassLaw" 87 yX12_as ∈ zALL := zT6 148 rfl rfl
theorem k6_149 : Cond.instanceMethod yX12_as ∈ zALL := zT6 149 rfl rfl
theorem k6_150 : Cond.selects "FeltGlassModel" yX12_as yX12_as ∈ zALL := zT6 150 rfl rfl
theorem k6_151 : Cond.code yX12_as prog_14_method_83_code 3 (some .int) ∈ zALL := zT6 151 rfl rfl
theorem k6_152 : Cond.methodLink "FeltGlassLaw" 91 yX12_event ∈ zALL := zT6 152 rfl rfl
theorem k6_153 : Cond.instanceMethod yX12_event ∈ zALL := zT6 153 rfl rfl
theorem k6_154 : Cond.selects "FeltGlassModel" yX12_event yX12_event ∈ zALL := zT6 154 rfl rfl
theorem k6_155 : Cond.code yX12_event prog_14_method_84_code 3 (some .int) ∈ zALL := zT6 155 rfl rfl
theorem k6_156 : Cond.methodLink "FeltGlassModel" 394 yX12_eventNow ∈ zALL := zT6 156 rfl rfl
theorem k6_158 : Cond.instanceMethod yX12_eventNow ∈ zALL := zT6 158 rfl rfl
theorem k6_159 : Cond.code yX12_eventNow prog_14_method_85_code 3 (some .int) ∈ zALL := zT6 159 rfl rfl
theorem k6_160 : Cond.methodLink "FeltGlassLaw" 95 yX12_count ∈ zALL := zT6 160 rfl rfl
theorem k6_161 : Cond.instanceMethod yX12_count ∈ zALL := zT6 161 rfl rfl
theorem k6_162 : Cond.selects "FeltGlassModel" yX12_count yX12_count ∈ zALL := zT6 162 rfl rfl
theorem k6_163 : Cond.code yX12_count prog_14_method_87_code 2 (some .int) ∈ zALL := zT6 163 rfl rfl
theorem k6_164 : Cond.methodLink "FeltGlassModel" 397 yX12_howMany ∈ zALL := zT6 164 rfl rfl
theorem k6_166 : Cond.instanceMethod yX12_howMany ∈ zALL := zT6 166 rfl rfl
theorem k6_167 : Cond.code yX12_howMany prog_14_method_86_code 2 (some .int) ∈ zALL := zT6 167 rfl rfl
theorem k6_168 : Cond.methodLink "FeltGlassLaw" 99 yX12_events ∈ zALL := zT6 168 rfl rfl
theorem k6_169 : Cond.instanceMethod yX12_events ∈ zALL := zT6 169 rfl rfl
theorem k6_170 : Cond.selects "FeltGlassModel" yX12_events yX12_events ∈ zALL := zT6 170 rfl rfl
theorem k6_171 : Cond.code yX12_events prog_14_method_88_code 2 (some .int) ∈ zALL := zT6 171 rfl rfl
theorem k6_172 : Cond.methodLink "FeltGlassLaw" 104 yX12_digest ∈ zALL := zT6 172 rfl rfl
theorem k6_173 : Cond.instanceMethod yX12_digest ∈ zALL := zT6 173 rfl rfl
theorem k6_174 : Cond.selects "FeltGlassModel" yX12_digest yX12_digest ∈ zALL := zT6 174 rfl rfl
theorem k6_175 : Cond.code yX12_digest prog_14_method_91_code 2 (some .long) ∈ zALL := zT6 175 rfl rfl
theorem k6_176 : Cond.constantLong "FeltGlassModel" 410 (1583) ∈ zALL := zT6 176 rfl rfl
theorem k6_177 : Cond.methodLink "FeltGlassModel" 412 yX12_mixGlass ∈ zALL := zT6 177 rfl rfl
theorem k6_179 : Cond.instanceMethod yX12_mixGlass ∈ zALL := zT6 179 rfl rfl
theorem k6_180 : Cond.code yX12_mixGlass prog_14_method_90_code 2 none ∈ zALL := zT6 180 rfl rfl
theorem k6_181 : Cond.methodLink "FeltGlassModel" 406 yX12_mix ∈ zALL := zT6 181 rfl rfl
theorem k6_183 : Cond.instanceMethod yX12_mix ∈ zALL := zT6 183 rfl rfl
theorem k6_184 : Cond.code yX12_mix prog_14_method_89_code 3 none ∈ zALL := zT6 184 rfl rfl
theorem k6_185 : Cond.constantLong "FeltGlassModel" 400 (31) ∈ zALL := zT6 185 rfl rfl
theorem ks_X5_readPart : Cond.selects RX5 yX5_readPart yX5_readPart ∈ zALL := zTs (q := (yX5_readPart, 6)) 0 rfl
theorem ks_X5_digitHere : Cond.selects RX5 yX5_digitHere yX5_digitHere ∈ zALL := zTs (q := (yX5_digitHere, 6)) 1 rfl
theorem ks_X5_codeHere : Cond.selects RX5 yX5_codeHere yX5_codeHere ∈ zALL := zTs (q := (yX5_codeHere, 6)) 2 rfl
theorem ks_X5_take : Cond.selects RX5 yX5_take yX5_take ∈ zALL := zTs (q := (yX5_take, 6)) 3 rfl
theorem ks_X5_readPlace : Cond.selects RX5 yX5_readPlace yX5_readPlace ∈ zALL := zTs (q := (yX5_readPlace, 6)) 4 rfl
theorem ks_X5_readNumber : Cond.selects RX5 yX5_readNumber yX5_readNumber ∈ zALL := zTs (q := (yX5_readNumber, 6)) 5 rfl
theorem ks_X1_listAround : Cond.selects RX1 yX1_listAround yX1_listAround ∈ zALL := zTs (q := (yX1_listAround, 7)) 6 rfl
theorem ks_X0_drawBelow : Cond.selects RX0 yX0_drawBelow yX0_drawBelow ∈ zALL := zTs (q := (yX0_drawBelow, 3)) 7 rfl
theorem ks_X3_findPeaks : Cond.selects RX3 yX3_findPeaks yX3_findPeaks ∈ zALL := zTs (q := (yX3_findPeaks, 7)) 8 rfl
theorem ks_X3_steepest : Cond.selects RX3 yX3_steepest yX3_steepest ∈ zALL := zTs (q := (yX3_steepest, 7)) 9 rfl
theorem ks_X3_gatherCells : Cond.selects RX3 yX3_gatherCells yX3_gatherCells ∈ zALL := zTs (q := (yX3_gatherCells, 7)) 10 rfl
theorem ks_X3_findPasses : Cond.selects RX3 yX3_findPasses yX3_findPasses ∈ zALL := zTs (q := (yX3_findPasses, 7)) 11 rfl
theorem ks_X3_raisePass : Cond.selects RX3 yX3_raisePass yX3_raisePass ∈ zALL := zTs (q := (yX3_raisePass, 7)) 12 rfl
theorem ks_X3_mergeBestPair : Cond.selects RX3 yX3_mergeBestPair yX3_mergeBestPair ∈ zALL := zTs (q := (yX3_mergeBestPair, 7)) 13 rfl
theorem ks_X3_canMerge : Cond.selects RX3 yX3_canMerge yX3_canMerge ∈ zALL := zTs (q := (yX3_canMerge, 7)) 14 rfl
theorem ks_X3_merge : Cond.selects RX3 yX3_merge yX3_merge ∈ zALL := zTs (q := (yX3_merge, 7)) 15 rfl
theorem ks_X8_weigh : Cond.selects RX8 yX8_weigh yX8_weigh ∈ zALL := zTs (q := (yX8_weigh, 11)) 16 rfl
theorem ks_X8_dropLightest : Cond.selects RX8 yX8_dropLightest yX8_dropLightest ∈ zALL := zTs (q := (yX8_dropLightest, 11)) 17 rfl
theorem ks_X8_numberHills : Cond.selects RX8 yX8_numberHills yX8_numberHills ∈ zALL := zTs (q := (yX8_numberHills, 11)) 18 rfl
theorem ks_X8_fillRow : Cond.selects RX8 yX8_fillRow yX8_fillRow ∈ zALL := zTs (q := (yX8_fillRow, 11)) 19 rfl
theorem ks_X8_markCells : Cond.selects RX8 yX8_markCells yX8_markCells ∈ zALL := zTs (q := (yX8_markCells, 11)) 20 rfl
theorem ks_X6_weighPairs : Cond.selects RX6 yX6_weighPairs yX6_weighPairs ∈ zALL := zTs (q := (yX6_weighPairs, 4)) 21 rfl
theorem ks_X6_bestSpot : Cond.selects RX6 yX6_bestSpot yX6_bestSpot ∈ zALL := zTs (q := (yX6_bestSpot, 4)) 22 rfl
theorem ks_X6_worthOf : Cond.selects RX6 yX6_worthOf yX6_worthOf ∈ zALL := zTs (q := (yX6_worthOf, 4)) 23 rfl
theorem ks_X10_miss : Cond.selects RX10 yX10_miss yX10_miss ∈ zALL := zTs (q := (yX10_miss, 5)) 24 rfl
theorem ks_X10_move : Cond.selects RX10 yX10_move yX10_move ∈ zALL := zTs (q := (yX10_move, 5)) 25 rfl
theorem ks_X10_takeOver : Cond.selects RX10 yX10_takeOver yX10_takeOver ∈ zALL := zTs (q := (yX10_takeOver, 5)) 26 rfl
theorem ks_X10_isPalm : Cond.selects RX10 yX10_isPalm yX10_isPalm ∈ zALL := zTs (q := (yX10_isPalm, 5)) 27 rfl
theorem ks_X10_begin : Cond.selects RX10 yX10_begin yX10_begin ∈ zALL := zTs (q := (yX10_begin, 5)) 28 rfl
theorem ks_X11_hashPanelAndFingers : Cond.selects RX11 yX11_hashPanelAndFingers yX11_hashPanelAndFingers ∈ zALL := zTs (q := (yX11_hashPanelAndFingers, 5)) 29 rfl
theorem ks_X11_hashCells : Cond.selects RX11 yX11_hashCells yX11_hashCells ∈ zALL := zTs (q := (yX11_hashCells, 5)) 30 rfl
theorem ks_X11_hashSpots : Cond.selects RX11 yX11_hashSpots yX11_hashSpots ∈ zALL := zTs (q := (yX11_hashSpots, 5)) 31 rfl
theorem ks_X11_hashTracks : Cond.selects RX11 yX11_hashTracks yX11_hashTracks ∈ zALL := zTs (q := (yX11_hashTracks, 5)) 32 rfl
theorem ks_X11_hashJournal : Cond.selects RX11 yX11_hashJournal yX11_hashJournal ∈ zALL := zTs (q := (yX11_hashJournal, 5)) 33 rfl
theorem ks_X12_isGlass : Cond.selects RX12 yX12_isGlass yX12_isGlass ∈ zALL := zTs (q := (yX12_isGlass, 58)) 34 rfl
theorem ks_X12_goAlong : Cond.selects RX12 yX12_goAlong yX12_goAlong ∈ zALL := zTs (q := (yX12_goAlong, 58)) 35 rfl
theorem ks_X12_takes : Cond.selects RX12 yX12_takes yX12_takes ∈ zALL := zTs (q := (yX12_takes, 58)) 36 rfl
theorem ks_X12_takesDigit : Cond.selects RX12 yX12_takesDigit yX12_takesDigit ∈ zALL := zTs (q := (yX12_takesDigit, 58)) 37 rfl
theorem ks_X12_goes : Cond.selects RX12 yX12_goes yX12_goes ∈ zALL := zTs (q := (yX12_goes, 58)) 38 rfl
theorem ks_X12_takesKind : Cond.selects RX12 yX12_takesKind yX12_takesKind ∈ zALL := zTs (q := (yX12_takesKind, 58)) 39 rfl
theorem ks_X12_takesFigure : Cond.selects RX12 yX12_takesFigure yX12_takesFigure ∈ zALL := zTs (q := (yX12_takesFigure, 58)) 40 rfl
theorem ks_X12_mostNow : Cond.selects RX12 yX12_mostNow yX12_mostNow ∈ zALL := zTs (q := (yX12_mostNow, 58)) 41 rfl
theorem ks_X12_takesSign : Cond.selects RX12 yX12_takesSign yX12_takesSign ∈ zALL := zTs (q := (yX12_takesSign, 58)) 42 rfl
theorem ks_X12_putOn : Cond.selects RX12 yX12_putOn yX12_putOn ∈ zALL := zTs (q := (yX12_putOn, 58)) 43 rfl
theorem ks_X12_onMany : Cond.selects RX12 yX12_onMany yX12_onMany ∈ zALL := zTs (q := (yX12_onMany, 58)) 44 rfl
theorem ks_X12_layBounds : Cond.selects RX12 yX12_layBounds yX12_layBounds ∈ zALL := zTs (q := (yX12_layBounds, 58)) 45 rfl
theorem ks_X12_cells : Cond.selects RX12 yX12_cells yX12_cells ∈ zALL := zTs (q := (yX12_cells, 58)) 46 rfl
theorem ks_X12_isCell : Cond.selects RX12 yX12_isCell yX12_isCell ∈ zALL := zTs (q := (yX12_isCell, 58)) 47 rfl
theorem ks_X12_eventsAll : Cond.selects RX12 yX12_eventsAll yX12_eventsAll ∈ zALL := zTs (q := (yX12_eventsAll, 58)) 48 rfl
theorem ks_X12_frame : Cond.selects RX12 yX12_frame yX12_frame ∈ zALL := zTs (q := (yX12_frame, 58)) 49 rfl
theorem ks_X12_layRaw : Cond.selects RX12 yX12_layRaw yX12_layRaw ∈ zALL := zTs (q := (yX12_layRaw, 58)) 50 rfl
theorem ks_X12_feltAll : Cond.selects RX12 yX12_feltAll yX12_feltAll ∈ zALL := zTs (q := (yX12_feltAll, 58)) 51 rfl
theorem ks_X12_feltOf : Cond.selects RX12 yX12_feltOf yX12_feltOf ∈ zALL := zTs (q := (yX12_feltOf, 58)) 52 rfl
theorem ks_X12_draw : Cond.selects RX12 yX12_draw yX12_draw ∈ zALL := zTs (q := (yX12_draw, 58)) 53 rfl
theorem ks_X12_spanOf : Cond.selects RX12 yX12_spanOf yX12_spanOf ∈ zALL := zTs (q := (yX12_spanOf, 58)) 54 rfl
theorem ks_X12_isNearTouched : Cond.selects RX12 yX12_isNearTouched yX12_isNearTouched ∈ zALL := zTs (q := (yX12_isNearTouched, 58)) 55 rfl
theorem ks_X12_isTouched : Cond.selects RX12 yX12_isTouched yX12_isTouched ∈ zALL := zTs (q := (yX12_isTouched, 58)) 56 rfl
theorem ks_X12_beside : Cond.selects RX12 yX12_beside yX12_beside ∈ zALL := zTs (q := (yX12_beside, 58)) 57 rfl
theorem ks_X12_layHills : Cond.selects RX12 yX12_layHills yX12_layHills ∈ zALL := zTs (q := (yX12_layHills, 58)) 58 rfl
theorem ks_X12_layTops : Cond.selects RX12 yX12_layTops yX12_layTops ∈ zALL := zTs (q := (yX12_layTops, 58)) 59 rfl
theorem ks_X12_higher : Cond.selects RX12 yX12_higher yX12_higher ∈ zALL := zTs (q := (yX12_higher, 58)) 60 rfl
theorem ks_X12_joinOnce : Cond.selects RX12 yX12_joinOnce yX12_joinOnce ∈ zALL := zTs (q := (yX12_joinOnce, 58)) 61 rfl
theorem ks_X12_isTop : Cond.selects RX12 yX12_isTop yX12_isTop ∈ zALL := zTs (q := (yX12_isTop, 58)) 62 rfl
theorem ks_X12_passOf : Cond.selects RX12 yX12_passOf yX12_passOf ∈ zALL := zTs (q := (yX12_passOf, 58)) 63 rfl
theorem ks_X12_isJoined : Cond.selects RX12 yX12_isJoined yX12_isJoined ∈ zALL := zTs (q := (yX12_isJoined, 58)) 64 rfl
theorem ks_X12_laySpots : Cond.selects RX12 yX12_laySpots yX12_laySpots ∈ zALL := zTs (q := (yX12_laySpots, 58)) 65 rfl
theorem ks_X12_isHigh : Cond.selects RX12 yX12_isHigh yX12_isHigh ∈ zALL := zTs (q := (yX12_isHigh, 58)) 66 rfl
theorem ks_X12_aheadOf : Cond.selects RX12 yX12_aheadOf yX12_aheadOf ∈ zALL := zTs (q := (yX12_aheadOf, 58)) 67 rfl
theorem ks_X12_massOf : Cond.selects RX12 yX12_massOf yX12_massOf ∈ zALL := zTs (q := (yX12_massOf, 58)) 68 rfl
theorem ks_X12_laySpot : Cond.selects RX12 yX12_laySpot yX12_laySpot ∈ zALL := zTs (q := (yX12_laySpot, 58)) 69 rfl
theorem ks_X12_sizeOf : Cond.selects RX12 yX12_sizeOf yX12_sizeOf ∈ zALL := zTs (q := (yX12_sizeOf, 58)) 70 rfl
theorem ks_X12_layPairs : Cond.selects RX12 yX12_layPairs yX12_layPairs ∈ zALL := zTs (q := (yX12_layPairs, 58)) 71 rfl
theorem ks_X12_layPairsOf : Cond.selects RX12 yX12_layPairsOf yX12_layPairsOf ∈ zALL := zTs (q := (yX12_layPairsOf, 58)) 72 rfl
theorem ks_X12_isNear : Cond.selects RX12 yX12_isNear yX12_isNear ∈ zALL := zTs (q := (yX12_isNear, 58)) 73 rfl
theorem ks_X12_pairCost : Cond.selects RX12 yX12_pairCost yX12_pairCost ∈ zALL := zTs (q := (yX12_pairCost, 58)) 74 rfl
theorem ks_X12_isBetter : Cond.selects RX12 yX12_isBetter yX12_isBetter ∈ zALL := zTs (q := (yX12_isBetter, 58)) 75 rfl
theorem ks_X12_isBestPair : Cond.selects RX12 yX12_isBestPair yX12_isBestPair ∈ zALL := zTs (q := (yX12_isBestPair, 58)) 76 rfl
theorem ks_X12_followAll : Cond.selects RX12 yX12_followAll yX12_followAll ∈ zALL := zTs (q := (yX12_followAll, 58)) 77 rfl
theorem ks_X12_follow : Cond.selects RX12 yX12_follow yX12_follow ∈ zALL := zTs (q := (yX12_follow, 58)) 78 rfl
theorem ks_X12_lay : Cond.selects RX12 yX12_lay yX12_lay ∈ zALL := zTs (q := (yX12_lay, 58)) 79 rfl
theorem ks_X12_happens : Cond.selects RX12 yX12_happens yX12_happens ∈ zALL := zTs (q := (yX12_happens, 58)) 80 rfl
theorem ks_X12_isLost : Cond.selects RX12 yX12_isLost yX12_isLost ∈ zALL := zTs (q := (yX12_isLost, 58)) 81 rfl
theorem ks_X12_keepAs : Cond.selects RX12 yX12_keepAs yX12_keepAs ∈ zALL := zTs (q := (yX12_keepAs, 58)) 82 rfl
theorem ks_X12_beginAll : Cond.selects RX12 yX12_beginAll yX12_beginAll ∈ zALL := zTs (q := (yX12_beginAll, 58)) 83 rfl
theorem ks_X12_drift : Cond.selects RX12 yX12_drift yX12_drift ∈ zALL := zTs (q := (yX12_drift, 58)) 84 rfl
theorem ks_X12_isNearSpot : Cond.selects RX12 yX12_isNearSpot yX12_isNearSpot ∈ zALL := zTs (q := (yX12_isNearSpot, 58)) 85 rfl
theorem ks_X12_fingerNow : Cond.selects RX12 yX12_fingerNow yX12_fingerNow ∈ zALL := zTs (q := (yX12_fingerNow, 58)) 86 rfl
theorem ks_X12_cellNow : Cond.selects RX12 yX12_cellNow yX12_cellNow ∈ zALL := zTs (q := (yX12_cellNow, 58)) 87 rfl
theorem ks_X12_aboutNow : Cond.selects RX12 yX12_aboutNow yX12_aboutNow ∈ zALL := zTs (q := (yX12_aboutNow, 58)) 88 rfl
theorem ks_X12_spotNow : Cond.selects RX12 yX12_spotNow yX12_spotNow ∈ zALL := zTs (q := (yX12_spotNow, 58)) 89 rfl
theorem ks_X12_isTrack : Cond.selects RX12 yX12_isTrack yX12_isTrack ∈ zALL := zTs (q := (yX12_isTrack, 58)) 90 rfl
theorem ks_X12_trackNow : Cond.selects RX12 yX12_trackNow yX12_trackNow ∈ zALL := zTs (q := (yX12_trackNow, 58)) 91 rfl
theorem ks_X12_eventNow : Cond.selects RX12 yX12_eventNow yX12_eventNow ∈ zALL := zTs (q := (yX12_eventNow, 58)) 92 rfl
theorem ks_X12_howMany : Cond.selects RX12 yX12_howMany yX12_howMany ∈ zALL := zTs (q := (yX12_howMany, 58)) 93 rfl
theorem ks_X12_mixGlass : Cond.selects RX12 yX12_mixGlass yX12_mixGlass ∈ zALL := zTs (q := (yX12_mixGlass, 58)) 94 rfl
theorem ks_X12_mix : Cond.selects RX12 yX12_mix yX12_mix ∈ zALL := zTs (q := (yX12_mix, 58)) 95 rfl
set_option maxRecDepth 20000 in
theorem zin_0 : ∀ w ∈ u_ws RX0 TX0 3, w ∈ zALL := by
  show ∀ w ∈ [u_lay RX0 TX0 0, u_lay RX0 TX0 1, u_lay RX0 TX0 2], w ∈ zALL
  exact (List.forall_mem_cons.mpr ⟨zT1 163 rfl rfl, (List.forall_mem_cons.mpr ⟨zT1 165 rfl rfl, (List.forall_mem_cons.mpr ⟨zT1 167 rfl rfl, (fun _ h => absurd h List.not_mem_nil)⟩)⟩)⟩)
set_option maxRecDepth 20000 in
theorem zin_1 : ∀ w ∈ u_ws RX1 TX1 7, w ∈ zALL := by
  show ∀ w ∈ [u_lay RX1 TX1 0, u_lay RX1 TX1 1, u_lay RX1 TX1 2, u_lay RX1 TX1 3, u_lay RX1 TX1 4, u_lay RX1 TX1 5, u_lay RX1 TX1 6], w ∈ zALL
  exact (List.forall_mem_cons.mpr ⟨zT1 133 rfl rfl, (List.forall_mem_cons.mpr ⟨zT1 135 rfl rfl, (List.forall_mem_cons.mpr ⟨zT1 137 rfl rfl, (List.forall_mem_cons.mpr ⟨zT1 139 rfl rfl, (List.forall_mem_cons.mpr ⟨zT1 141 rfl rfl, (List.forall_mem_cons.mpr ⟨zT1 143 rfl rfl, (List.forall_mem_cons.mpr ⟨zT1 145 rfl rfl, (fun _ h => absurd h List.not_mem_nil)⟩)⟩)⟩)⟩)⟩)⟩)⟩)
set_option maxRecDepth 20000 in
theorem zin_2 : ∀ w ∈ u_ws RX2 TX2 4, w ∈ zALL := by
  show ∀ w ∈ [u_lay RX2 TX2 0, u_lay RX2 TX2 1, u_lay RX2 TX2 2, u_lay RX2 TX2 3], w ∈ zALL
  exact (List.forall_mem_cons.mpr ⟨zT1 42 rfl rfl, (List.forall_mem_cons.mpr ⟨zT1 44 rfl rfl, (List.forall_mem_cons.mpr ⟨zT1 46 rfl rfl, (List.forall_mem_cons.mpr ⟨zT1 48 rfl rfl, (fun _ h => absurd h List.not_mem_nil)⟩)⟩)⟩)⟩)
set_option maxRecDepth 20000 in
theorem zin_3 : ∀ w ∈ u_ws RX3 TX3 7, w ∈ zALL := by
  show ∀ w ∈ [u_lay RX3 TX3 0, u_lay RX3 TX3 1, u_lay RX3 TX3 2, u_lay RX3 TX3 3, u_lay RX3 TX3 4, u_lay RX3 TX3 5, u_lay RX3 TX3 6], w ∈ zALL
  exact (List.forall_mem_cons.mpr ⟨zT2 3 rfl rfl, (List.forall_mem_cons.mpr ⟨zT2 5 rfl rfl, (List.forall_mem_cons.mpr ⟨zT2 7 rfl rfl, (List.forall_mem_cons.mpr ⟨zT2 9 rfl rfl, (List.forall_mem_cons.mpr ⟨zT2 11 rfl rfl, (List.forall_mem_cons.mpr ⟨zT2 13 rfl rfl, (List.forall_mem_cons.mpr ⟨zT2 15 rfl rfl, (fun _ h => absurd h List.not_mem_nil)⟩)⟩)⟩)⟩)⟩)⟩)⟩)
set_option maxRecDepth 20000 in
theorem zin_4 : ∀ w ∈ u_ws RX4 TX4 5, w ∈ zALL := by
  show ∀ w ∈ [u_lay RX4 TX4 0, u_lay RX4 TX4 1, u_lay RX4 TX4 2, u_lay RX4 TX4 3, u_lay RX4 TX4 4], w ∈ zALL
  exact (List.forall_mem_cons.mpr ⟨zT1 89 rfl rfl, (List.forall_mem_cons.mpr ⟨zT1 91 rfl rfl, (List.forall_mem_cons.mpr ⟨zT1 93 rfl rfl, (List.forall_mem_cons.mpr ⟨zT1 95 rfl rfl, (List.forall_mem_cons.mpr ⟨zT1 97 rfl rfl, (fun _ h => absurd h List.not_mem_nil)⟩)⟩)⟩)⟩)⟩)
set_option maxRecDepth 20000 in
theorem zin_5 : ∀ w ∈ u_ws RX5 TX5 6, w ∈ zALL := by
  show ∀ w ∈ [u_lay RX5 TX5 0, u_lay RX5 TX5 1, u_lay RX5 TX5 2, u_lay RX5 TX5 3, u_lay RX5 TX5 4, u_lay RX5 TX5 5], w ∈ zALL
  exact (List.forall_mem_cons.mpr ⟨zT1 63 rfl rfl, (List.forall_mem_cons.mpr ⟨zT1 65 rfl rfl, (List.forall_mem_cons.mpr ⟨zT1 67 rfl rfl, (List.forall_mem_cons.mpr ⟨zT1 69 rfl rfl, (List.forall_mem_cons.mpr ⟨zT1 71 rfl rfl, (List.forall_mem_cons.mpr ⟨zT1 73 rfl rfl, (fun _ h => absurd h List.not_mem_nil)⟩)⟩)⟩)⟩)⟩)⟩)
set_option maxRecDepth 20000 in
theorem zin_6 : ∀ w ∈ u_ws RX6 TX6 4, w ∈ zALL := by
  show ∀ w ∈ [u_lay RX6 TX6 0, u_lay RX6 TX6 1, u_lay RX6 TX6 2, u_lay RX6 TX6 3], w ∈ zALL
  exact (List.forall_mem_cons.mpr ⟨zT1 181 rfl rfl, (List.forall_mem_cons.mpr ⟨zT1 183 rfl rfl, (List.forall_mem_cons.mpr ⟨zT1 185 rfl rfl, (List.forall_mem_cons.mpr ⟨zT1 187 rfl rfl, (fun _ h => absurd h List.not_mem_nil)⟩)⟩)⟩)⟩)
set_option maxRecDepth 20000 in
theorem zin_7 : ∀ w ∈ u_ws RX7 TX7 15, w ∈ zALL := by
  show ∀ w ∈ [u_lay RX7 TX7 0, u_lay RX7 TX7 1, u_lay RX7 TX7 2, u_lay RX7 TX7 3, u_lay RX7 TX7 4, u_lay RX7 TX7 5, u_lay RX7 TX7 6, u_lay RX7 TX7 7, u_lay RX7 TX7 8, u_lay RX7 TX7 9, u_lay RX7 TX7 10, u_lay RX7 TX7 11, u_lay RX7 TX7 12, u_lay RX7 TX7 13, u_lay RX7 TX7 14], w ∈ zALL
  exact (List.forall_mem_cons.mpr ⟨zT2 123 rfl rfl, (List.forall_mem_cons.mpr ⟨zT2 125 rfl rfl, (List.forall_mem_cons.mpr ⟨zT2 127 rfl rfl, (List.forall_mem_cons.mpr ⟨zT2 129 rfl rfl, (List.forall_mem_cons.mpr ⟨zT2 131 rfl rfl, (List.forall_mem_cons.mpr ⟨zT2 133 rfl rfl, (List.forall_mem_cons.mpr ⟨zT2 135 rfl rfl, (List.forall_mem_cons.mpr ⟨zT2 137 rfl rfl, (List.forall_mem_cons.mpr ⟨zT2 139 rfl rfl, (List.forall_mem_cons.mpr ⟨zT2 141 rfl rfl, (List.forall_mem_cons.mpr ⟨zT2 143 rfl rfl, (List.forall_mem_cons.mpr ⟨zT2 145 rfl rfl, (List.forall_mem_cons.mpr ⟨zT2 147 rfl rfl, (List.forall_mem_cons.mpr ⟨zT2 149 rfl rfl, (List.forall_mem_cons.mpr ⟨zT2 151 rfl rfl, (fun _ h => absurd h List.not_mem_nil)⟩)⟩)⟩)⟩)⟩)⟩)⟩)⟩)⟩)⟩)⟩)⟩)⟩)⟩)⟩)
set_option maxRecDepth 20000 in
theorem zin_8 : ∀ w ∈ u_ws RX8 TX8 11, w ∈ zALL := by
  show ∀ w ∈ [u_lay RX8 TX8 0, u_lay RX8 TX8 1, u_lay RX8 TX8 2, u_lay RX8 TX8 3, u_lay RX8 TX8 4, u_lay RX8 TX8 5, u_lay RX8 TX8 6, u_lay RX8 TX8 7, u_lay RX8 TX8 8, u_lay RX8 TX8 9, u_lay RX8 TX8 10], w ∈ zALL
  exact (List.forall_mem_cons.mpr ⟨zT2 46 rfl rfl, (List.forall_mem_cons.mpr ⟨zT2 48 rfl rfl, (List.forall_mem_cons.mpr ⟨zT2 50 rfl rfl, (List.forall_mem_cons.mpr ⟨zT2 52 rfl rfl, (List.forall_mem_cons.mpr ⟨zT2 54 rfl rfl, (List.forall_mem_cons.mpr ⟨zT2 56 rfl rfl, (List.forall_mem_cons.mpr ⟨zT2 58 rfl rfl, (List.forall_mem_cons.mpr ⟨zT2 60 rfl rfl, (List.forall_mem_cons.mpr ⟨zT2 62 rfl rfl, (List.forall_mem_cons.mpr ⟨zT2 64 rfl rfl, (List.forall_mem_cons.mpr ⟨zT2 66 rfl rfl, (fun _ h => absurd h List.not_mem_nil)⟩)⟩)⟩)⟩)⟩)⟩)⟩)⟩)⟩)⟩)⟩)
set_option maxRecDepth 20000 in
theorem zin_9 : ∀ w ∈ u_ws RX9 TX9 7, w ∈ zALL := by
  show ∀ w ∈ [u_lay RX9 TX9 0, u_lay RX9 TX9 1, u_lay RX9 TX9 2, u_lay RX9 TX9 3, u_lay RX9 TX9 4, u_lay RX9 TX9 5, u_lay RX9 TX9 6], w ∈ zALL
  exact (List.forall_mem_cons.mpr ⟨zT1 211 rfl rfl, (List.forall_mem_cons.mpr ⟨zT1 213 rfl rfl, (List.forall_mem_cons.mpr ⟨zT1 215 rfl rfl, (List.forall_mem_cons.mpr ⟨zT1 217 rfl rfl, (List.forall_mem_cons.mpr ⟨zT1 219 rfl rfl, (List.forall_mem_cons.mpr ⟨zT1 221 rfl rfl, (List.forall_mem_cons.mpr ⟨zT1 223 rfl rfl, (fun _ h => absurd h List.not_mem_nil)⟩)⟩)⟩)⟩)⟩)⟩)⟩)
set_option maxRecDepth 20000 in
theorem zin_10 : ∀ w ∈ u_ws RX10 TX10 5, w ∈ zALL := by
  show ∀ w ∈ [u_lay RX10 TX10 0, u_lay RX10 TX10 1, u_lay RX10 TX10 2, u_lay RX10 TX10 3, u_lay RX10 TX10 4], w ∈ zALL
  exact (List.forall_mem_cons.mpr ⟨zT2 87 rfl rfl, (List.forall_mem_cons.mpr ⟨zT2 89 rfl rfl, (List.forall_mem_cons.mpr ⟨zT2 91 rfl rfl, (List.forall_mem_cons.mpr ⟨zT2 93 rfl rfl, (List.forall_mem_cons.mpr ⟨zT2 95 rfl rfl, (fun _ h => absurd h List.not_mem_nil)⟩)⟩)⟩)⟩)⟩)
set_option maxRecDepth 20000 in
theorem zin_11 : ∀ w ∈ u_ws RX11 TX11 5, w ∈ zALL := by
  show ∀ w ∈ [u_lay RX11 TX11 0, u_lay RX11 TX11 1, u_lay RX11 TX11 2, u_lay RX11 TX11 3, u_lay RX11 TX11 4], w ∈ zALL
  exact (List.forall_mem_cons.mpr ⟨zT2 159 rfl rfl, (List.forall_mem_cons.mpr ⟨zT2 161 rfl rfl, (List.forall_mem_cons.mpr ⟨zT2 163 rfl rfl, (List.forall_mem_cons.mpr ⟨zT2 165 rfl rfl, (List.forall_mem_cons.mpr ⟨zT2 167 rfl rfl, (fun _ h => absurd h List.not_mem_nil)⟩)⟩)⟩)⟩)⟩)
set_option maxRecDepth 20000 in
theorem zin_12 : ∀ w ∈ u_ws RX12 TX12 58, w ∈ zALL := by
  show ∀ w ∈ [u_lay RX12 TX12 0, u_lay RX12 TX12 1, u_lay RX12 TX12 2, u_lay RX12 TX12 3, u_lay RX12 TX12 4, u_lay RX12 TX12 5, u_lay RX12 TX12 6, u_lay RX12 TX12 7, u_lay RX12 TX12 8, u_lay RX12 TX12 9, u_lay RX12 TX12 10, u_lay RX12 TX12 11, u_lay RX12 TX12 12, u_lay RX12 TX12 13, u_lay RX12 TX12 14, u_lay RX12 TX12 15, u_lay RX12 TX12 16, u_lay RX12 TX12 17, u_lay RX12 TX12 18, u_lay RX12 TX12 19, u_lay RX12 TX12 20, u_lay RX12 TX12 21, u_lay RX12 TX12 22, u_lay RX12 TX12 23, u_lay RX12 TX12 24, u_lay RX12 TX12 25, u_lay RX12 TX12 26, u_lay RX12 TX12 27, u_lay RX12 TX12 28, u_lay RX12 TX12 29, u_lay RX12 TX12 30, u_lay RX12 TX12 31, u_lay RX12 TX12 32, u_lay RX12 TX12 33, u_lay RX12 TX12 34, u_lay RX12 TX12 35, u_lay RX12 TX12 36, u_lay RX12 TX12 37, u_lay RX12 TX12 38, u_lay RX12 TX12 39, u_lay RX12 TX12 40, u_lay RX12 TX12 41, u_lay RX12 TX12 42, u_lay RX12 TX12 43, u_lay RX12 TX12 44, u_lay RX12 TX12 45, u_lay RX12 TX12 46, u_lay RX12 TX12 47, u_lay RX12 TX12 48, u_lay RX12 TX12 49, u_lay RX12 TX12 50, u_lay RX12 TX12 51, u_lay RX12 TX12 52, u_lay RX12 TX12 53, u_lay RX12 TX12 54, u_lay RX12 TX12 55, u_lay RX12 TX12 56, u_lay RX12 TX12 57], w ∈ zALL
  exact (List.forall_mem_cons.mpr ⟨zT4 190 rfl rfl, (List.forall_mem_cons.mpr ⟨zT4 192 rfl rfl, (List.forall_mem_cons.mpr ⟨zT4 194 rfl rfl, (List.forall_mem_cons.mpr ⟨zT4 196 rfl rfl, (List.forall_mem_cons.mpr ⟨zT4 198 rfl rfl, (List.forall_mem_cons.mpr ⟨zT4 200 rfl rfl, (List.forall_mem_cons.mpr ⟨zT4 202 rfl rfl, (List.forall_mem_cons.mpr ⟨zT4 204 rfl rfl, (List.forall_mem_cons.mpr ⟨zT4 206 rfl rfl, (List.forall_mem_cons.mpr ⟨zT4 208 rfl rfl, (List.forall_mem_cons.mpr ⟨zT4 210 rfl rfl, (List.forall_mem_cons.mpr ⟨zT4 212 rfl rfl, (List.forall_mem_cons.mpr ⟨zT4 214 rfl rfl, (List.forall_mem_cons.mpr ⟨zT4 216 rfl rfl, (List.forall_mem_cons.mpr ⟨zT4 218 rfl rfl, (List.forall_mem_cons.mpr ⟨zT4 220 rfl rfl, (List.forall_mem_cons.mpr ⟨zT4 222 rfl rfl, (List.forall_mem_cons.mpr ⟨zT4 224 rfl rfl, (List.forall_mem_cons.mpr ⟨zT4 226 rfl rfl, (List.forall_mem_cons.mpr ⟨zT4 228 rfl rfl, (List.forall_mem_cons.mpr ⟨zT4 230 rfl rfl, (List.forall_mem_cons.mpr ⟨zT4 232 rfl rfl, (List.forall_mem_cons.mpr ⟨zT4 234 rfl rfl, (List.forall_mem_cons.mpr ⟨zT4 236 rfl rfl, (List.forall_mem_cons.mpr ⟨zT4 238 rfl rfl, (List.forall_mem_cons.mpr ⟨zT5 0 rfl rfl, (List.forall_mem_cons.mpr ⟨zT5 2 rfl rfl, (List.forall_mem_cons.mpr ⟨zT5 4 rfl rfl, (List.forall_mem_cons.mpr ⟨zT5 6 rfl rfl, (List.forall_mem_cons.mpr ⟨zT5 8 rfl rfl, (List.forall_mem_cons.mpr ⟨zT5 10 rfl rfl, (List.forall_mem_cons.mpr ⟨zT5 12 rfl rfl, (List.forall_mem_cons.mpr ⟨zT5 14 rfl rfl, (List.forall_mem_cons.mpr ⟨zT5 16 rfl rfl, (List.forall_mem_cons.mpr ⟨zT5 18 rfl rfl, (List.forall_mem_cons.mpr ⟨zT5 20 rfl rfl, (List.forall_mem_cons.mpr ⟨zT5 22 rfl rfl, (List.forall_mem_cons.mpr ⟨zT5 24 rfl rfl, (List.forall_mem_cons.mpr ⟨zT5 26 rfl rfl, (List.forall_mem_cons.mpr ⟨zT5 28 rfl rfl, (List.forall_mem_cons.mpr ⟨zT5 30 rfl rfl, (List.forall_mem_cons.mpr ⟨zT5 32 rfl rfl, (List.forall_mem_cons.mpr ⟨zT5 34 rfl rfl, (List.forall_mem_cons.mpr ⟨zT5 36 rfl rfl, (List.forall_mem_cons.mpr ⟨zT5 38 rfl rfl, (List.forall_mem_cons.mpr ⟨zT5 40 rfl rfl, (List.forall_mem_cons.mpr ⟨zT5 42 rfl rfl, (List.forall_mem_cons.mpr ⟨zT5 44 rfl rfl, (List.forall_mem_cons.mpr ⟨zT5 46 rfl rfl, (List.forall_mem_cons.mpr ⟨zT5 48 rfl rfl, (List.forall_mem_cons.mpr ⟨zT5 50 rfl rfl, (List.forall_mem_cons.mpr ⟨zT5 52 rfl rfl, (List.forall_mem_cons.mpr ⟨zT5 54 rfl rfl, (List.forall_mem_cons.mpr ⟨zT5 56 rfl rfl, (List.forall_mem_cons.mpr ⟨zT5 58 rfl rfl, (List.forall_mem_cons.mpr ⟨zT5 60 rfl rfl, (List.forall_mem_cons.mpr ⟨zT5 62 rfl rfl, (List.forall_mem_cons.mpr ⟨zT5 64 rfl rfl, (fun _ h => absurd h List.not_mem_nil)⟩)⟩)⟩)⟩)⟩)⟩)⟩)⟩)⟩)⟩)⟩)⟩)⟩)⟩)⟩)⟩)⟩)⟩)⟩)⟩)⟩)⟩)⟩)⟩)⟩)⟩)⟩)⟩)⟩)⟩)⟩)⟩)⟩)⟩)⟩)⟩)⟩)⟩)⟩)⟩)⟩)⟩)⟩)⟩)⟩)⟩)⟩)⟩)⟩)⟩)⟩)⟩)⟩)⟩)⟩)⟩)⟩)⟩)
end
section
/-! ===== the picture: cells by their number, memory as functions of cell and place ===== -/
/-- ints and booleans; longs; which row a table of rows has at a place -/
abbrev zM : Type := (Nat → Nat → Int32) × (Nat → Nat → Int64) × (Nat → Nat → Nat)
/-- a cell's form: an array (kind 0 int, 1 boolean, 2 rows of ints; length; its first row's cell) or an object (its number in vwCl; its references, by field) -/
abbrev zS : Type := (Nat × Nat × Nat) ⊕ (Nat × List (Option Nat))
/-- a method: name, code, words of locals, answer; frames and words of locals that it and its callees need -/
abbrev zY : Type := MethodName × ByteArray × Nat × Option FieldType × Nat × Nat
def zv (ρ : Nat → Nat) (v : Value) : Value := match v with
  | .ref a => .ref (ρ a)
  | w => w
def zi (m : zM) (a k : Nat) (x : Int32) : zM := (fun b j => if b = a ∧ j = k then x else m.1 b j, m.2)
def zl (m : zM) (a k : Nat) (x : Int64) : zM := (m.1, fun b j => if b = a ∧ j = k then x else m.2.1 b j, m.2.2)
def zr (m : zM) (a k : Nat) (x : Nat) : zM := (m.1, m.2.1, fun b j => if b = a ∧ j = k then x else m.2.2 b j)
def zty (c k : Nat) : FieldType := match c with
  | 0 => tyX0 k | 1 => tyX1 k | 2 => tyX2 k | 3 => tyX3 k | 4 => tyX4 k | 5 => tyX5 k | 6 => tyX6 k | 7 => tyX7 k | 8 => tyX8 k | 9 => tyX9 k | 10 => tyX10 k | 11 => tyX11 k | _ => tyX12 k
def zn (c : Nat) : Nat := match c with
  | 0 => 3 | 1 => 7 | 2 => 4 | 3 => 7 | 4 => 5 | 5 => 6 | 6 => 4 | 7 => 15 | 8 => 11 | 9 => 7 | 10 => 5 | 11 => 5 | _ => 58
def ztk (t : FieldType) : Nat := match t with
  | .boolean => 1 | .long => 2 | .object _ => 3 | .array _ => 3 | _ => 0
def zfv (ρ : Nat → Nat) (m : zM) (i : Nat) (rs : List (Option Nat)) (k t : Nat) : Value := match t with
  | 2 => .long (m.2.1 i k)
  | 3 => va_rf ((rs.getD k none).map ρ)
  | _ => .int (m.1 i k)
def zfs (ρ : Nat → Nat) (m : zM) (i c : Nat) (rs : List (Option Nat)) : List Value := (List.range (zn c)).map (fun k => zfv ρ m i rs k (ztk (zty c k)))
def zE (ρ : Nat → Nat) (κ : Nat → ClassId) (m : zM) (i : Nat) (s : zS) : va_E := match s with
  | .inl (0, n, _) => .inl (κ 0, n, .inl (m.1 i))
  | .inl (1, n, _) => .inl (κ 1, n, .inl (m.1 i))
  | .inl (_, n, b) => .inl (κ 2, n, .inr (.inr (.inr (.inr (fun j => some (ρ (b + m.2.2 i j % n)))))))
  | .inr (c, rs) => .inr (c, zfs ρ m i c rs)
def zw (ρ : Nat → Nat) (κ : Nat → ClassId) (m : zM) (sh : List zS) : va_W := sh.zipIdx.map (fun q => (ρ q.2, zE ρ κ m q.2 q.1))
def zt (κ : Nat → ClassId) : List (ClassId × FieldType) := [(κ 0, .int), (κ 1, .boolean), (κ 2, .array .int)]
/-- how many places the cells have -/
def zsz (sh : List zS) : Nat := (sh.map (fun s => match s with | .inl (_, n, _) => n | .inr (c, _) => zn c)).sum
theorem zw_get {ρ : Nat → Nat} {κ : Nat → ClassId} {m : zM} {sh : List zS} {i : Nat} {x : zS} (h : sh[i]? = some x) : (zw ρ κ m sh)[i]? = some (ρ i, zE ρ κ m i x) := by
  unfold zw
  rw [List.getElem?_map, List.getElem?_zipIdx, h]
  simp
theorem zw_len {ρ : Nat → Nat} {κ : Nat → ClassId} {m : zM} {sh : List zS} : (zw ρ κ m sh).length = sh.length := by
  unfold zw
  rw [List.length_map, List.length_zipIdx]
theorem zw_none {ρ : Nat → Nat} {κ : Nat → ClassId} {m : zM} {sh : List zS} {i : Nat} (h : sh[i]? = none) : (zw ρ κ m sh)[i]? = none := by
  rw [List.getElem?_eq_none_iff, zw_len]
  exact List.getElem?_eq_none_iff.mp h
theorem zE_mem {ρ : Nat → Nat} {κ : Nat → ClassId} {m m' : zM} {i : Nat} {s : zS} (h1 : m'.1 i = m.1 i) (h2 : m'.2.1 i = m.2.1 i) (h3 : m'.2.2 i = m.2.2 i) : zE ρ κ m' i s = zE ρ κ m i s := by
  unfold zE zfs zfv
  simp only [h1, h2, h3]
/-- a write to one cell -/
theorem zw_set {ρ : Nat → Nat} {κ : Nat → ClassId} {m m' : zM} {sh : List zS} {a : Nat} {x : zS} (hx : sh[a]? = some x) (h : ∀ i, i ≠ a → m'.1 i = m.1 i ∧ m'.2.1 i = m.2.1 i ∧ m'.2.2 i = m.2.2 i) : (zw ρ κ m sh).set a (ρ a, zE ρ κ m' a x) = zw ρ κ m' sh := by
  apply List.ext_getElem?
  intro i
  have hl : a < (zw ρ κ m sh).length := by rw [zw_len]; exact (List.getElem?_eq_some_iff.mp hx).1
  by_cases e : i = a
  · subst e
    rw [List.getElem?_set_self hl, zw_get hx]
  · rw [List.getElem?_set_ne (Ne.symm e)]
    cases hi : sh[i]? with
    | none => rw [zw_none hi, zw_none hi]
    | some y =>
      obtain ⟨h1, h2, h3⟩ := h i e
      rw [zw_get hi, zw_get hi, zE_mem h1 h2 h3]
theorem zi_off (m : zM) (a k : Nat) (x : Int32) : ∀ i, i ≠ a → (zi m a k x).1 i = m.1 i ∧ (zi m a k x).2.1 i = m.2.1 i ∧ (zi m a k x).2.2 i = m.2.2 i := fun i h => ⟨by funext j; simp [zi, h], rfl, rfl⟩
theorem zl_off (m : zM) (a k : Nat) (x : Int64) : ∀ i, i ≠ a → (zl m a k x).1 i = m.1 i ∧ (zl m a k x).2.1 i = m.2.1 i ∧ (zl m a k x).2.2 i = m.2.2 i := fun i h => ⟨rfl, by funext j; simp [zl, h], rfl⟩
theorem zr_off (m : zM) (a k : Nat) (x : Nat) : ∀ i, i ≠ a → (zr m a k x).1 i = m.1 i ∧ (zr m a k x).2.1 i = m.2.1 i ∧ (zr m a k x).2.2 i = m.2.2 i := fun i h => ⟨rfl, rfl, by funext j; simp [zr, h]⟩
theorem zi_row (m : zM) (a k : Nat) (x : Int32) : (zi m a k x).1 a = upd (m.1 a) k x := by
  funext j
  simp [zi, upd]
theorem zfs_get {ρ : Nat → Nat} {m : zM} {i c k : Nat} {rs : List (Option Nat)} (h : k < zn c) : (zfs ρ m i c rs)[k]? = some (zfv ρ m i rs k (ztk (zty c k))) := by
  unfold zfs
  rw [List.getElem?_map, List.getElem?_range h]
  rfl
theorem zfs_len {ρ : Nat → Nat} {m : zM} {i c : Nat} {rs : List (Option Nat)} : (zfs ρ m i c rs).length = zn c := by
  unfold zfs
  rw [List.length_map, List.length_range]
theorem zfs_set {ρ : Nat → Nat} {m m' : zM} {i c k : Nat} {rs rs' : List (Option Nat)} {v : Value} (hk : k < zn c) (hv : zfv ρ m' i rs' k (ztk (zty c k)) = v) (ho : ∀ j, j < zn c → j ≠ k → zfv ρ m' i rs' j (ztk (zty c j)) = zfv ρ m i rs j (ztk (zty c j))) : (zfs ρ m i c rs).set k v = zfs ρ m' i c rs' := by
  apply List.ext_getElem?
  intro j
  by_cases hj : j < zn c
  · by_cases e : j = k
    · subst e
      rw [List.getElem?_set_self (by rw [zfs_len]; exact hj), zfs_get hj, hv]
    · rw [List.getElem?_set_ne (Ne.symm e), zfs_get hj, zfs_get hj, ho j hj e]
  · rw [List.getElem?_eq_none (by rw [List.length_set, zfs_len]; omega), List.getElem?_eq_none (by rw [zfs_len]; omega)]
/-! ===== the tables by class number ===== -/
theorem zcl (c : Nat) (q : vw_C) (h : vwCl[c]? = some q) : q.2.2 = zn c ∧ (∀ w ∈ u_ws q.1 q.2.1 q.2.2, w ∈ zALL) ∧ (∀ k, k < q.2.2 → parseFieldDescriptor (q.2.1 k).2.2.1 = some (zty c k)) ∧ (∀ a, a < q.2.2 → ∀ b, b < q.2.2 → a ≠ b → (q.2.1 a).2.1 ≠ (q.2.1 b).2.1) := by
  match c, h with
  | 0, h => cases h; exact ⟨rfl, zin_0, tyX0_ok, nmX0⟩
  | 1, h => cases h; exact ⟨rfl, zin_1, tyX1_ok, nmX1⟩
  | 2, h => cases h; exact ⟨rfl, zin_2, tyX2_ok, nmX2⟩
  | 3, h => cases h; exact ⟨rfl, zin_3, tyX3_ok, nmX3⟩
  | 4, h => cases h; exact ⟨rfl, zin_4, tyX4_ok, nmX4⟩
  | 5, h => cases h; exact ⟨rfl, zin_5, tyX5_ok, nmX5⟩
  | 6, h => cases h; exact ⟨rfl, zin_6, tyX6_ok, nmX6⟩
  | 7, h => cases h; exact ⟨rfl, zin_7, tyX7_ok, nmX7⟩
  | 8, h => cases h; exact ⟨rfl, zin_8, tyX8_ok, nmX8⟩
  | 9, h => cases h; exact ⟨rfl, zin_9, tyX9_ok, nmX9⟩
  | 10, h => cases h; exact ⟨rfl, zin_10, tyX10_ok, nmX10⟩
  | 11, h => cases h; exact ⟨rfl, zin_11, tyX11_ok, nmX11⟩
  | 12, h => cases h; exact ⟨rfl, zin_12, tyX12_ok, nmX12⟩
  | c + 13, h => simp [vwCl] at h
end
section
/-! ===== what a walk stands on ===== -/
def zL (ρ : Nat → Nat) (L : List (Option Value)) : List (Nat × Value) := (List.range L.length).filterMap (fun j => match L[j]? with
  | some (some v) => some (j, zv ρ v)
  | _ => none)
theorem zL_mem {ρ : Nat → Nat} {L : List (Option Value)} {q : Nat × Value} : q ∈ zL ρ L ↔ ∃ v, L[q.1]? = some (some v) ∧ q.2 = zv ρ v := by
  unfold zL
  rw [List.mem_filterMap]
  constructor
  · rintro ⟨j, hj, h⟩
    split at h
    · rename_i v hv
      cases h
      exact ⟨v, hv, rfl⟩
    · cases h
  · rintro ⟨v, hv, h⟩
    have hlt : q.1 < L.length := (List.getElem?_eq_some_iff.mp hv).1
    refine ⟨q.1, List.mem_range.mpr hlt, ?_⟩
    rw [hv]
    obtain ⟨a, b⟩ := q
    cases h
    rfl
theorem lv_mono {ls : Array Slot} {n : Nat} {l l' : List (Nat × Value)} (h : lv_has ls n l) (hs : ∀ q ∈ l', q ∈ l) : lv_has ls n l' := ⟨h.1, h.2.1, fun q hq => h.2.2 q (hs q hq)⟩
/-- the tables of the class's constants -/
def zxs (a j : Nat) : Int32 := match a with
  | 1001 => ([20, 10, 1, 2, 1, 0, 1, 0, 0] : List Int32).getD j 0
  | 1002 => ([200, 100, 100, 64, 127, 9, 30, 50, 200] : List Int32).getD j 0
  | _ => ([40, 20, 80, 10, 24, 1, 6, 2, 30] : List Int32).getD j 0
/-- the script, and the tables of constants: cells that no walk changes -/
def zX (E : Nat × (Nat → Int32)) (ρ : Nat → Nat) (A : Nat → Prop) (U : State) : Prop :=
  (va_X (ρ 1000) E.1 E.2 U U.heap ∧ ρ 1000 < U.heap.size ∧ ¬ A (ρ 1000)) ∧
  (va_Z "FeltGlass" "LEAST_SETTING" "[I" (.ref (ρ 1001)) A U U.heap ∧ va_T .int (ρ 1001) 9 (fun j => .int (zxs 1001 j)) A U U.heap) ∧
  (va_Z "FeltGlass" "MOST_SETTING" "[I" (.ref (ρ 1002)) A U U.heap ∧ va_T .int (ρ 1002) 9 (fun j => .int (zxs 1002 j)) A U U.heap) ∧
  (va_Z "FeltGlass" "FIRST_SETTING" "[I" (.ref (ρ 1003)) A U U.heap ∧ va_T .int (ρ 1003) 9 (fun j => .int (zxs 1003 j)) A U U.heap)
theorem zX.ext {E : Nat × (Nat → Int32)} {ρ ρ' : Nat → Nat} {A : Nat → Prop} {U : State} (h : zX E ρ A U) (hr : ∀ i, 1000 ≤ i → ρ' i = ρ i) : zX E ρ' A U := by
  unfold zX at h ⊢
  rw [hr 1000 (by omega), hr 1001 (by omega), hr 1002 (by omega), hr 1003 (by omega)]
  exact h
theorem zX.call {E : Nat × (Nat → Int32)} {ρ : Nat → Nat} {A B : Nat → Prop} {s U : State} {H : Heap} {locs : List Loc} (h : zX E ρ A s) (hvm : s.vm.Alike U.vm) (hS : va_S A s.heap H locs) (hU : U.heap = H) (hB : ∀ q, B q → A q) : zX E ρ B U := by
  obtain ⟨⟨x1, x2, x3⟩, ⟨a1, a2⟩, ⟨b1, b2⟩, c1, c2⟩ := h
  have hk : ∀ a : Nat, a < s.heap.size → ¬ A a → U.heap[a]? = s.heap[a]? := fun a h1 h2 => by rw [hU]; exact hS.2.1 a h1 h2
  have tz : ∀ {n : String} {v : Value}, va_Z "FeltGlass" n "[I" v A s s.heap → va_Z "FeltGlass" n "[I" v B U U.heap := fun z => ((z.moved hvm).kept hk).narrow hB
  have tt : ∀ {t : Nat} {f : Nat → Value}, va_T .int t 9 f A s s.heap → va_T .int t 9 f B U U.heap := fun z => ((z.moved hvm).kept hk).narrow hB
  exact ⟨⟨(x1.moved hvm).kept (hk _ x2 x3), by rw [hU]; exact Nat.lt_of_lt_of_le x2 hS.1, fun q => x3 (hB _ q)⟩, ⟨tz a1, tt a2⟩, ⟨tz b1, tt b2⟩, tz c1, tt c2⟩
def va_AOA (ty : FieldType) (U : State) : Prop := (Cond.arrayOver (.array ty)).before #[] U = true
theorem va_AOA.use {ty : FieldType} {A : Array Value} {U : State} (h : va_AOA ty U) : (Cond.arrayOver (.array ty)).before A U = true := h
theorem va_AOA.moved {ty : FieldType} {u U : State} (hvm : u.vm.Alike U.vm) (h : va_AOA ty u) : va_AOA ty U := Jvm.Stand.arrayOver_alikeB hvm h
def zNm : List (String × Nat × MethodName × String) := [("FeltGlass", 9, yX5_init, "FeltGlass"), ("FeltGlass$Page", 17, yX2_init, "FeltGlass"), ("FeltGlass", 18, yX4_init, "FeltGlass"), ("FeltGlass$Panel", 11, yX1_init, "FeltGlass"), ("FeltGlass$Panel", 20, yX2_init, "FeltGlass"), ("FeltGlass$Panel", 27, yX0_init, "FeltGlass"), ("FeltGlass$Panel", 38, yX6_init, "FeltGlass"), ("FeltGlass$Page", 59, yX11_within, "FeltGlass"), ("FeltGlass$Panel", 118, yX11_within, "FeltGlass"), ("FeltGlass$Journal", 28, yX11_within, "FeltGlass")]
/-- the words that nest mates need -/
def zNw (U : State) : Prop := (∀ q ∈ zNm, va_Nw (.methodLinkNest q.1 q.2.1 q.2.2.1 q.2.2.2) U) ∧ va_Nw (.fieldLinkNest "FeltGlass$Panel" 89 "FeltGlass" "FIRST_SETTING" "[I" "FeltGlass") U ∧ va_AOA .int U
theorem zNw.warm {s U : State} (hW : s.WarmedH U.vm) (h : zNw s) : zNw U := ⟨fun q hq => va_Nw.warmM hW (h.1 q hq), va_Nw.warmF hW h.2.1, h.2.2.moved hW.alike⟩
/-- the array of rows' class is one of arrays of ints -/
def zQ (κ : Nat → ClassId) (U : State) : Prop := ∃ kA : Class, U.vm.classes[κ 2]? = some kA ∧ kA.kind = .array (κ 0) (.array .int)
theorem zQ.moved {κ : Nat → ClassId} {u U : State} (hvm : u.vm.Alike U.vm) (h : zQ κ u) : zQ κ U := by
  obtain ⟨kA, h1, h2⟩ := h
  obtain ⟨k', hk', he⟩ := hvm.2.2 _ _ h1
  exact ⟨k', hk', by rw [he]; exact h2⟩
def zC (E : Nat × (Nat → Int32)) (p : Program) (R : Room) (s : State) (mid : MethodId) (args : Array Value) (meth : Method) (c : Code) (y : zY) (D : va_G) (κ : Nat → ClassId) (A : Nat → Prop) (ρ : Nat → Nat) : Prop :=
  p.tables.exec = Jvm.exec ∧ c.code = y.2.1 ∧ c.maxLocals = y.2.2.1 ∧ s.vm.findClass y.1.cls = some mid.cls ∧ (∀ w ∈ zALL, w.before args s = true) ∧ va_K D vwCl (zt κ) s ∧ zQ κ s ∧ (∀ q, s.heap.size ≤ q → A q) ∧ zNw s ∧ zX E ρ A s ∧ y.2.2.2.2.1 ≤ R.frames ∧ y.2.2.2.2.2 ≤ R.locals ∧ (y.1.name = "<init>" → meth.name = "<init>")
def zsm (ρ ρ' : Nat → Nat) (sh sh' : List zS) : Prop := (∀ i, i < sh.length ∨ 1000 ≤ i → ρ' i = ρ i) ∧ (sh'.length = sh.length → ρ' = ρ)
def zret (cc : ByteArray) (pc : Nat) (rv : Option Value) : Prop := match rv with
  | none => decode cc pc = .ok (.return_, 1)
  | some (.int _) => decode cc pc = .ok (.ireturn, 1)
  | some (.long _) => decode cc pc = .ok (.lreturn, 1)
  | _ => False
/-- from this point of the method the walk comes to its return, with that answer and those cells -/
def Rn (E : Nat × (Nat → Int32)) (y : zY) (pc : Nat) (L : List (Option Value)) (st : List Value) (sh : List zS) (m : zM) (rv : Option Value) (sh' : List zS) (m' : zM) : Prop :=
  sh.length ≤ sh'.length ∧ zsz sh ≤ zsz sh' ∧
  ∀ (p : Program) (l : Launch) (e : Env) (R : Room) (s : State) (mid : MethodId) (args : Array Value) (below : List Frame) (meth : Method) (c : Code) (D : va_G) (κ : Nat → ClassId) (A : Nat → Prop) (ρ : Nat → Nat) (H : Heap) (locs : List Loc) (cells slots : Nat) (ls : Array Slot) (Q : State → Prop),
   zC E p R s mid args meth c y D κ A ρ → lv_has ls y.2.2.1 (zL ρ L) → va_P D vwCl (zw ρ κ m sh) H → va_D A (zw ρ κ m sh) → va_S A s.heap H locs → cells + sh'.length ≤ R.cells + sh.length → slots + zsz sh' ≤ R.slots + zsz sh →
   (∀ (ρ' : Nat → Nat) (H' : Heap) (locs' : List Loc) (ls' : Array Slot) (pc' cells' slots' : Nat), zsm ρ ρ' sh sh' → zret y.2.1 pc' rv → va_P D vwCl (zw ρ' κ m' sh') H' → va_D A (zw ρ' κ m' sh') → va_S A s.heap H' locs' → cells' + sh.length = cells + sh'.length → slots' + zsz sh = slots + zsz sh' → W p l e R s mid args below meth c H' locs' cells' slots' Q (F0 mid pc' ls' rv.toList)) →
   W p l e R s mid args below meth c H locs cells slots Q (F0 mid pc ls (st.map (zv ρ)))
section ZRULES
variable {E : Nat × (Nat → Int32)} {y : zY} {pc q : Nat} {L L' : List (Option Value)} {st : List Value} {sh sh' : List zS} {m m' m1 : zM} {rv : Option Value}
/-- a step that changes neither cells nor locals -/
theorem Rn.go {st' : List Value} (h : ∀ (p : Program) (l : Launch) (e : Env) (R : Room) (s : State) (mid : MethodId) (args : Array Value) (below : List Frame) (meth : Method) (c : Code) (D : va_G) (κ : Nat → ClassId) (A : Nat → Prop) (ρ : Nat → Nat) (H : Heap) (locs : List Loc) (cells slots : Nat) (ls : Array Slot) (Q : State → Prop),
   zC E p R s mid args meth c y D κ A ρ → lv_has ls y.2.2.1 (zL ρ L) → va_P D vwCl (zw ρ κ m sh) H → va_S A s.heap H locs → W p l e R s mid args below meth c H locs cells slots Q (F0 mid q ls (st'.map (zv ρ))) → W p l e R s mid args below meth c H locs cells slots Q (F0 mid pc ls (st.map (zv ρ))))
   (k : Rn E y q L st' sh m rv sh' m') : Rn E y pc L st sh m rv sh' m' :=
  ⟨k.1, k.2.1, fun p l e R s mid args below meth c D κ A ρ H locs cells slots ls Q C hl hP hD hS hc hs kk => h p l e R s mid args below meth c D κ A ρ H locs cells slots ls Q C hl hP hS (k.2.2 p l e R s mid args below meth c D κ A ρ H locs cells slots ls Q C hl hP hD hS hc hs kk)⟩
/-- a branch -/
theorem Rn.br {c0 : Prop} {q1 q2 : Nat} {st' : List Value} (h : ∀ (p : Program) (l : Launch) (e : Env) (R : Room) (s : State) (mid : MethodId) (args : Array Value) (below : List Frame) (meth : Method) (c : Code) (D : va_G) (κ : Nat → ClassId) (A : Nat → Prop) (ρ : Nat → Nat) (H : Heap) (locs : List Loc) (cells slots : Nat) (ls : Array Slot) (Q : State → Prop),
   zC E p R s mid args meth c y D κ A ρ → (c0 → W p l e R s mid args below meth c H locs cells slots Q (F0 mid q1 ls (st'.map (zv ρ)))) → (¬ c0 → W p l e R s mid args below meth c H locs cells slots Q (F0 mid q2 ls (st'.map (zv ρ)))) → W p l e R s mid args below meth c H locs cells slots Q (F0 mid pc ls (st.map (zv ρ))))
   (kt : c0 → Rn E y q1 L st' sh m rv sh' m') (kf : ¬ c0 → Rn E y q2 L st' sh m rv sh' m') : Rn E y pc L st sh m rv sh' m' := by
  have hd : c0 ∨ ¬ c0 := Classical.em c0
  have h1 : sh.length ≤ sh'.length := hd.elim (fun a => (kt a).1) (fun a => (kf a).1)
  have h2 : zsz sh ≤ zsz sh' := hd.elim (fun a => (kt a).2.1) (fun a => (kf a).2.1)
  exact ⟨h1, h2, fun p l e R s mid args below meth c D κ A ρ H locs cells slots ls Q C hl hP hD hS hc hs kk => h p l e R s mid args below meth c D κ A ρ H locs cells slots ls Q C
    (fun a => (kt a).2.2 p l e R s mid args below meth c D κ A ρ H locs cells slots ls Q C hl hP hD hS hc hs kk) (fun a => (kf a).2.2 p l e R s mid args below meth c D κ A ρ H locs cells slots ls Q C hl hP hD hS hc hs kk)⟩
/-- a step that changes a local -/
theorem Rn.loc {st' : List Value} (h : ∀ (p : Program) (l : Launch) (e : Env) (R : Room) (s : State) (mid : MethodId) (args : Array Value) (below : List Frame) (meth : Method) (c : Code) (D : va_G) (κ : Nat → ClassId) (A : Nat → Prop) (ρ : Nat → Nat) (H : Heap) (locs : List Loc) (cells slots : Nat) (ls : Array Slot) (Q : State → Prop),
   zC E p R s mid args meth c y D κ A ρ → lv_has ls y.2.2.1 (zL ρ L) → (∀ ls' : Array Slot, lv_has ls' y.2.2.1 (zL ρ L') → W p l e R s mid args below meth c H locs cells slots Q (F0 mid q ls' (st'.map (zv ρ)))) → W p l e R s mid args below meth c H locs cells slots Q (F0 mid pc ls (st.map (zv ρ))))
   (k : Rn E y q L' st' sh m rv sh' m') : Rn E y pc L st sh m rv sh' m' :=
  ⟨k.1, k.2.1, fun p l e R s mid args below meth c D κ A ρ H locs cells slots ls Q C hl hP hD hS hc hs kk => h p l e R s mid args below meth c D κ A ρ H locs cells slots ls Q C hl (fun ls' hl' => k.2.2 p l e R s mid args below meth c D κ A ρ H locs cells slots ls' Q C hl' hP hD hS hc hs kk)⟩
/-- a step that changes cells, not their forms -/
theorem Rn.mw {st' : List Value} (h : ∀ (p : Program) (l : Launch) (e : Env) (R : Room) (s : State) (mid : MethodId) (args : Array Value) (below : List Frame) (meth : Method) (c : Code) (D : va_G) (κ : Nat → ClassId) (A : Nat → Prop) (ρ : Nat → Nat) (H : Heap) (locs : List Loc) (cells slots : Nat) (ls : Array Slot) (Q : State → Prop),
   zC E p R s mid args meth c y D κ A ρ → lv_has ls y.2.2.1 (zL ρ L) → va_P D vwCl (zw ρ κ m sh) H → va_D A (zw ρ κ m sh) → va_S A s.heap H locs → (∀ (H1 : Heap) (locs1 : List Loc), va_P D vwCl (zw ρ κ m1 sh) H1 → va_D A (zw ρ κ m1 sh) → va_S A s.heap H1 locs1 → W p l e R s mid args below meth c H1 locs1 cells slots Q (F0 mid q ls (st'.map (zv ρ)))) → W p l e R s mid args below meth c H locs cells slots Q (F0 mid pc ls (st.map (zv ρ))))
   (k : Rn E y q L st' sh m1 rv sh' m') : Rn E y pc L st sh m rv sh' m' :=
  ⟨k.1, k.2.1, fun p l e R s mid args below meth c D κ A ρ H locs cells slots ls Q C hl hP hD hS hc hs kk => h p l e R s mid args below meth c D κ A ρ H locs cells slots ls Q C hl hP hD hS (fun H1 locs1 hP1 hD1 hS1 => k.2.2 p l e R s mid args below meth c D κ A ρ H1 locs1 cells slots ls Q C hl hP1 hD1 hS1 hc hs kk)⟩
/-- fewer locals -/
theorem Rn.weak (h : ∀ (i : Nat) (v : Value), L'[i]? = some (some v) → L[i]? = some (some v)) (k : Rn E y pc L' st sh m rv sh' m') : Rn E y pc L st sh m rv sh' m' :=
  ⟨k.1, k.2.1, fun p l e R s mid args below meth c D κ A ρ H locs cells slots ls Q C hl hP hD hS hc hs kk => k.2.2 p l e R s mid args below meth c D κ A ρ H locs cells slots ls Q C (lv_mono hl (fun q hq => by
    obtain ⟨v, h1, h2⟩ := zL_mem.mp hq
    exact zL_mem.mpr ⟨v, h _ _ h1, h2⟩)) hP hD hS hc hs kk⟩
theorem zLv {ρ : Nat → Nat} {ls : Array Slot} {n i : Nat} {v : Value} (hl : lv_has ls n (zL ρ L)) (h : L[i]? = some (some v)) : ls[i]? = some (.val (zv ρ v)) := hl.2.2 (i, zv ρ v) (zL_mem.mpr ⟨v, h, rfl⟩)
/-! constants, loads -/
theorem zi_iconst {n : Int} {v : Int32} (hd : decode y.2.1 pc = .ok (.iconst n, 1)) (hv : Int32.ofInt n = v) (hq : pc + 1 = q) (k : Rn E y q L (.int v :: st) sh m rv sh' m') : Rn E y pc L st sh m rv sh' m' := by
  subst hq
  exact Rn.go (fun p l e R s mid args below meth c D κ A ρ H locs cells slots ls Q C hl hP hS k => lv_iconst C.1 C.2.1 hd hv k) k
theorem zi_bipush {n : Int} {v : Int32} (hd : decode y.2.1 pc = .ok (.bipush n, 2)) (hv : (Int8.ofInt n).toInt32 = v) (hq : pc + 2 = q) (k : Rn E y q L (.int v :: st) sh m rv sh' m') : Rn E y pc L st sh m rv sh' m' := by
  subst hq
  exact Rn.go (fun p l e R s mid args below meth c D κ A ρ H locs cells slots ls Q C hl hP hS k => lv_bipush C.1 C.2.1 hd hv k) k
theorem zi_sipush {n : Int} {v : Int32} (hd : decode y.2.1 pc = .ok (.sipush n, 3)) (hv : (Int16.ofInt n).toInt32 = v) (hq : pc + 3 = q) (k : Rn E y q L (.int v :: st) sh m rv sh' m') : Rn E y pc L st sh m rv sh' m' := by
  subst hq
  exact Rn.go (fun p l e R s mid args below meth c D κ A ρ H locs cells slots ls Q C hl hP hS k => lv_sipush C.1 C.2.1 hd hv k) k
theorem zi_ldc {i : Nat} {v : Int32} (hd : decode y.2.1 pc = .ok (.ldc i, 2)) (hw : Cond.constant y.1.cls i v ∈ zALL) (hq : pc + 2 = q) (k : Rn E y q L (.int v :: st) sh m rv sh' m') : Rn E y pc L st sh m rv sh' m' := by
  subst hq
  exact Rn.go (fun p l e R s mid args below meth c D κ A ρ H locs cells slots ls Q C hl hP hS k => lv_ldc C.1 C.2.1 C.2.2.2.1 (C.2.2.2.2.1 _ hw) hd k) k
theorem zi_ldcw {i : Nat} {v : Int32} (hd : decode y.2.1 pc = .ok (.ldc_w i, 3)) (hw : Cond.constant y.1.cls i v ∈ zALL) (hq : pc + 3 = q) (k : Rn E y q L (.int v :: st) sh m rv sh' m') : Rn E y pc L st sh m rv sh' m' := by
  subst hq
  exact Rn.go (fun p l e R s mid args below meth c D κ A ρ H locs cells slots ls Q C hl hP hS k => lv_ldcw C.1 C.2.1 C.2.2.2.1 (C.2.2.2.2.1 _ hw) hd k) k
theorem zi_ldc2 {i : Nat} {v : Int64} (hd : decode y.2.1 pc = .ok (.ldc2_w i, 3)) (hw : Cond.constantLong y.1.cls i v ∈ zALL) (hq : pc + 3 = q) (k : Rn E y q L (.long v :: st) sh m rv sh' m') : Rn E y pc L st sh m rv sh' m' := by
  subst hq
  exact Rn.go (fun p l e R s mid args below meth c D κ A ρ H locs cells slots ls Q C hl hP hS k => lv_ldc2 C.1 C.2.1 C.2.2.2.1 (C.2.2.2.2.1 _ hw) hd k) k
theorem zi_iloadn {f : Fin 4} {x : Int32} (hd : decode y.2.1 pc = .ok (.iload_n f, 1)) (hL : L[(f : Nat)]? = some (some (.int x))) (hq : pc + 1 = q) (k : Rn E y q L (.int x :: st) sh m rv sh' m') : Rn E y pc L st sh m rv sh' m' := by
  subst hq
  exact Rn.go (fun p l e R s mid args below meth c D κ A ρ H locs cells slots ls Q C hl hP hS k => lv_iload_n C.1 C.2.1 hd rfl (zLv hl hL) k) k
theorem zi_iload {i : Nat} {x : Int32} (hd : decode y.2.1 pc = .ok (.iload i, 2)) (hL : L[i]? = some (some (.int x))) (hq : pc + 2 = q) (k : Rn E y q L (.int x :: st) sh m rv sh' m') : Rn E y pc L st sh m rv sh' m' := by
  subst hq
  exact Rn.go (fun p l e R s mid args below meth c D κ A ρ H locs cells slots ls Q C hl hP hS k => lv_iload C.1 C.2.1 hd (zLv hl hL) k) k
theorem zi_lloadn {f : Fin 4} {x : Int64} (hd : decode y.2.1 pc = .ok (.lload_n f, 1)) (hL : L[(f : Nat)]? = some (some (.long x))) (hq : pc + 1 = q) (k : Rn E y q L (.long x :: st) sh m rv sh' m') : Rn E y pc L st sh m rv sh' m' := by
  subst hq
  exact Rn.go (fun p l e R s mid args below meth c D κ A ρ H locs cells slots ls Q C hl hP hS k => lv_lload_n C.1 C.2.1 hd rfl (zLv hl hL) k) k
theorem zi_aloadn {f : Fin 4} {a : Nat} (hd : decode y.2.1 pc = .ok (.aload_n f, 1)) (hL : L[(f : Nat)]? = some (some (.ref a))) (hq : pc + 1 = q) (k : Rn E y q L (.ref a :: st) sh m rv sh' m') : Rn E y pc L st sh m rv sh' m' := by
  subst hq
  exact Rn.go (fun p l e R s mid args below meth c D κ A ρ H locs cells slots ls Q C hl hP hS k => lv_aload_n C.1 C.2.1 hd rfl (zLv hl hL) k) k
theorem zi_aload {i a : Nat} (hd : decode y.2.1 pc = .ok (.aload i, 2)) (hL : L[i]? = some (some (.ref a))) (hq : pc + 2 = q) (k : Rn E y q L (.ref a :: st) sh m rv sh' m') : Rn E y pc L st sh m rv sh' m' := by
  subst hq
  exact Rn.go (fun p l e R s mid args below meth c D κ A ρ H locs cells slots ls Q C hl hP hS k => lv_aload C.1 C.2.1 hd (zLv hl hL) k) k
/-! arithmetic -/
theorem zi_iadd {a b : Int32} (hd : decode y.2.1 pc = .ok (.iadd, 1)) (hq : pc + 1 = q) (k : Rn E y q L (.int (a + b) :: st) sh m rv sh' m') : Rn E y pc L (.int b :: .int a :: st) sh m rv sh' m' := by
  subst hq
  exact Rn.go (fun p l e R s mid args below meth c D κ A ρ H locs cells slots ls Q C hl hP hS k => lv_iadd C.1 C.2.1 hd k) k
theorem zi_isub {a b : Int32} (hd : decode y.2.1 pc = .ok (.isub, 1)) (hq : pc + 1 = q) (k : Rn E y q L (.int (a - b) :: st) sh m rv sh' m') : Rn E y pc L (.int b :: .int a :: st) sh m rv sh' m' := by
  subst hq
  exact Rn.go (fun p l e R s mid args below meth c D κ A ρ H locs cells slots ls Q C hl hP hS k => lv_isub C.1 C.2.1 hd k) k
theorem zi_imul {a b : Int32} (hd : decode y.2.1 pc = .ok (.imul, 1)) (hq : pc + 1 = q) (k : Rn E y q L (.int (a * b) :: st) sh m rv sh' m') : Rn E y pc L (.int b :: .int a :: st) sh m rv sh' m' := by
  subst hq
  exact Rn.go (fun p l e R s mid args below meth c D κ A ρ H locs cells slots ls Q C hl hP hS k => lv_imul C.1 C.2.1 hd k) k
theorem zi_iand {a b : Int32} (hd : decode y.2.1 pc = .ok (.iand, 1)) (hq : pc + 1 = q) (k : Rn E y q L (.int (a &&& b) :: st) sh m rv sh' m') : Rn E y pc L (.int b :: .int a :: st) sh m rv sh' m' := by
  subst hq
  exact Rn.go (fun p l e R s mid args below meth c D κ A ρ H locs cells slots ls Q C hl hP hS k => lv_iand C.1 C.2.1 hd k) k
theorem zi_ior {a b : Int32} (hd : decode y.2.1 pc = .ok (.ior, 1)) (hq : pc + 1 = q) (k : Rn E y q L (.int (a ||| b) :: st) sh m rv sh' m') : Rn E y pc L (.int b :: .int a :: st) sh m rv sh' m' := by
  subst hq
  exact Rn.go (fun p l e R s mid args below meth c D κ A ρ H locs cells slots ls Q C hl hP hS k => lv_ior C.1 C.2.1 hd k) k
theorem zi_ixor {a b : Int32} (hd : decode y.2.1 pc = .ok (.ixor, 1)) (hq : pc + 1 = q) (k : Rn E y q L (.int (a ^^^ b) :: st) sh m rv sh' m') : Rn E y pc L (.int b :: .int a :: st) sh m rv sh' m' := by
  subst hq
  exact Rn.go (fun p l e R s mid args below meth c D κ A ρ H locs cells slots ls Q C hl hP hS k => lv_ixor C.1 C.2.1 hd k) k
theorem zi_ishl {a b : Int32} (hd : decode y.2.1 pc = .ok (.ishl, 1)) (hq : pc + 1 = q) (k : Rn E y q L (.int (a <<< (b &&& 31)) :: st) sh m rv sh' m') : Rn E y pc L (.int b :: .int a :: st) sh m rv sh' m' := by
  subst hq
  exact Rn.go (fun p l e R s mid args below meth c D κ A ρ H locs cells slots ls Q C hl hP hS k => lv_ishl C.1 C.2.1 hd k) k
theorem zi_ishr {a b : Int32} (hd : decode y.2.1 pc = .ok (.ishr, 1)) (hq : pc + 1 = q) (k : Rn E y q L (.int (a >>> (b &&& 31)) :: st) sh m rv sh' m') : Rn E y pc L (.int b :: .int a :: st) sh m rv sh' m' := by
  subst hq
  exact Rn.go (fun p l e R s mid args below meth c D κ A ρ H locs cells slots ls Q C hl hP hS k => lv_ishr C.1 C.2.1 hd k) k
theorem zi_idiv {a b : Int32} (hd : decode y.2.1 pc = .ok (.idiv, 1)) (hn : ¬ b = 0) (hq : pc + 1 = q) (k : Rn E y q L (.int (a / b) :: st) sh m rv sh' m') : Rn E y pc L (.int b :: .int a :: st) sh m rv sh' m' := by
  subst hq
  exact Rn.go (fun p l e R s mid args below meth c D κ A ρ H locs cells slots ls Q C hl hP hS k => lv_idiv C.1 C.2.1 hd hn k) k
theorem zi_irem {a b : Int32} (hd : decode y.2.1 pc = .ok (.irem, 1)) (hn : ¬ b = 0) (hq : pc + 1 = q) (k : Rn E y q L (.int (a - a / b * b) :: st) sh m rv sh' m') : Rn E y pc L (.int b :: .int a :: st) sh m rv sh' m' := by
  subst hq
  exact Rn.go (fun p l e R s mid args below meth c D κ A ρ H locs cells slots ls Q C hl hP hS k => lv_irem C.1 C.2.1 hd hn k) k
theorem zi_ineg {a : Int32} (hd : decode y.2.1 pc = .ok (.ineg, 1)) (hq : pc + 1 = q) (k : Rn E y q L (.int (-a) :: st) sh m rv sh' m') : Rn E y pc L (.int a :: st) sh m rv sh' m' := by
  subst hq
  exact Rn.go (fun p l e R s mid args below meth c D κ A ρ H locs cells slots ls Q C hl hP hS k => lv_ineg C.1 C.2.1 hd k) k
theorem zi_ladd {a b : Int64} (hd : decode y.2.1 pc = .ok (.ladd, 1)) (hq : pc + 1 = q) (k : Rn E y q L (.long (a + b) :: st) sh m rv sh' m') : Rn E y pc L (.long b :: .long a :: st) sh m rv sh' m' := by
  subst hq
  exact Rn.go (fun p l e R s mid args below meth c D κ A ρ H locs cells slots ls Q C hl hP hS k => lv_ladd C.1 C.2.1 hd k) k
theorem zi_lmul {a b : Int64} (hd : decode y.2.1 pc = .ok (.lmul, 1)) (hq : pc + 1 = q) (k : Rn E y q L (.long (a * b) :: st) sh m rv sh' m') : Rn E y pc L (.long b :: .long a :: st) sh m rv sh' m' := by
  subst hq
  exact Rn.go (fun p l e R s mid args below meth c D κ A ρ H locs cells slots ls Q C hl hP hS k => lv_lmul C.1 C.2.1 hd k) k
theorem zi_ldiv {a b : Int64} (hd : decode y.2.1 pc = .ok (.ldiv, 1)) (hn : ¬ b = 0) (hq : pc + 1 = q) (k : Rn E y q L (.long (a / b) :: st) sh m rv sh' m') : Rn E y pc L (.long b :: .long a :: st) sh m rv sh' m' := by
  subst hq
  exact Rn.go (fun p l e R s mid args below meth c D κ A ρ H locs cells slots ls Q C hl hP hS k => lv_ldiv C.1 C.2.1 hd hn k) k
theorem zi_lrem {a b : Int64} (hd : decode y.2.1 pc = .ok (.lrem, 1)) (hn : ¬ b = 0) (hq : pc + 1 = q) (k : Rn E y q L (.long (a - a / b * b) :: st) sh m rv sh' m') : Rn E y pc L (.long b :: .long a :: st) sh m rv sh' m' := by
  subst hq
  exact Rn.go (fun p l e R s mid args below meth c D κ A ρ H locs cells slots ls Q C hl hP hS k => lv_lrem C.1 C.2.1 hd hn k) k
theorem zi_i2l {a : Int32} (hd : decode y.2.1 pc = .ok (.i2l, 1)) (hq : pc + 1 = q) (k : Rn E y q L (.long a.toInt64 :: st) sh m rv sh' m') : Rn E y pc L (.int a :: st) sh m rv sh' m' := by
  subst hq
  exact Rn.go (fun p l e R s mid args below meth c D κ A ρ H locs cells slots ls Q C hl hP hS k => lv_i2l C.1 C.2.1 hd rfl k) k
theorem zi_l2i {a : Int64} (hd : decode y.2.1 pc = .ok (.l2i, 1)) (hq : pc + 1 = q) (k : Rn E y q L (.int a.toInt32 :: st) sh m rv sh' m') : Rn E y pc L (.long a :: st) sh m rv sh' m' := by
  subst hq
  exact Rn.go (fun p l e R s mid args below meth c D κ A ρ H locs cells slots ls Q C hl hP hS k => lv_l2i C.1 C.2.1 hd rfl k) k
theorem zi_lcmp {a b : Int64} (hd : decode y.2.1 pc = .ok (.lcmp, 1)) (hq : pc + 1 = q) (k : Rn E y q L (.int (lg_cmp a b) :: st) sh m rv sh' m') : Rn E y pc L (.long b :: .long a :: st) sh m rv sh' m' := by
  subst hq
  exact Rn.go (fun p l e R s mid args below meth c D κ A ρ H locs cells slots ls Q C hl hP hS k => W.lcmp C.1 C.2.1 hd k) k
/-! the stack -/
theorem zv_cat (ρ : Nat → Nat) (v : Value) : (zv ρ v).category = v.category := by cases v <;> rfl
theorem zi_dup {v : Value} (hd : decode y.2.1 pc = .ok (.dup, 1)) (hc : v.category = 1) (hq : pc + 1 = q) (k : Rn E y q L (v :: v :: st) sh m rv sh' m') : Rn E y pc L (v :: st) sh m rv sh' m' := by
  subst hq
  exact Rn.go (fun p l e R s mid args below meth c D κ A ρ H locs cells slots ls Q C hl hP hS k => lv_dup C.1 C.2.1 hd ((zv_cat ρ v).trans hc) k) k
theorem zi_dup2 {v w : Value} (hd : decode y.2.1 pc = .ok (.dup2, 1)) (hc : v.category = 1) (hc2 : w.category = 1) (hq : pc + 1 = q) (k : Rn E y q L (v :: w :: v :: w :: st) sh m rv sh' m') : Rn E y pc L (v :: w :: st) sh m rv sh' m' := by
  subst hq
  exact Rn.go (fun p l e R s mid args below meth c D κ A ρ H locs cells slots ls Q C hl hP hS k => lv_dup2_11 C.1 C.2.1 hd ((zv_cat ρ v).trans hc) ((zv_cat ρ w).trans hc2) k) k
theorem zi_pop {v : Value} (hd : decode y.2.1 pc = .ok (.pop, 1)) (hc : v.category = 1) (hq : pc + 1 = q) (k : Rn E y q L st sh m rv sh' m') : Rn E y pc L (v :: st) sh m rv sh' m' := by
  subst hq
  exact Rn.go (fun p l e R s mid args below meth c D κ A ρ H locs cells slots ls Q C hl hP hS k => lv_pop C.1 C.2.1 hd ((zv_cat ρ v).trans hc) k) k
end ZRULES
end
section
section ZRULES2
variable {E : Nat × (Nat → Int32)} {y : zY} {pc q : Nat} {L L' : List (Option Value)} {st : List Value} {sh sh' : List zS} {m m' m1 : zM} {rv : Option Value}
/-! stores to locals -/
/-- no long ends at this place -/
def znl (L : List (Option Value)) (i : Nat) : Bool := match i with
  | 0 => true
  | j + 1 => match L[j]? with
    | some (some v) => v.category == 1
    | _ => true
theorem znl_not {L : List (Option Value)} {i j : Nat} {v : Value} (h : znl L i = true) (hj : L[j]? = some (some v)) (e : j + 1 = i) : v.category = 1 := by
  subst e
  unfold znl at h
  simp only [hj] at h
  exact beq_iff_eq.mp h
theorem zL_set1 {ρ : Nat → Nat} {i : Nat} {v : Value} (hn : znl L i = true) (hL : L.set i (some v) = L') : ∀ q ∈ zL ρ L', q ∈ (i, zv ρ v) :: (zL ρ L).filter (fun q => !(q.1 == i) && !(q.1 + 1 == i && q.2.category == 2)) := by
  intro q hq
  obtain ⟨w, h1, h2⟩ := zL_mem.mp hq
  subst hL
  by_cases e : q.1 = i
  · have hlt : i < L.length := by
      have := (List.getElem?_eq_some_iff.mp h1).1
      rw [List.length_set] at this
      omega
    rw [e, List.getElem?_set_self hlt] at h1
    cases h1
    obtain ⟨a, b⟩ := q
    cases h2
    cases e
    exact List.mem_cons_self
  · rw [List.getElem?_set_ne (Ne.symm e)] at h1
    refine List.mem_cons_of_mem _ (List.mem_filter.mpr ⟨zL_mem.mpr ⟨w, h1, h2⟩, ?_⟩)
    simp only [Bool.and_eq_true, Bool.not_eq_true', beq_eq_false_iff_ne, ne_eq, Bool.and_eq_false_iff]
    refine ⟨e, ?_⟩
    by_cases e2 : q.1 + 1 = i
    · right
      rw [h2, zv_cat, znl_not hn h1 e2]
      decide
    · exact Or.inl e2
theorem zi_istoren {f : Fin 4} {x : Int32} (hd : decode y.2.1 pc = .ok (.istore_n f, 1)) (hn : (f : Nat) < y.2.2.1) (hz : znl L f = true) (hL : L.set f (some (.int x)) = L') (hq : pc + 1 = q) (k : Rn E y q L' st sh m rv sh' m') : Rn E y pc L (.int x :: st) sh m rv sh' m' := by
  subst hq
  exact Rn.loc (fun p l e R s mid args below meth c D κ A ρ H locs cells slots ls Q C hl k => lv_istore_n C.1 C.2.1 hd rfl hl hn rfl (fun ls' hl' => k ls' (lv_mono hl' (zL_set1 hz hL)))) k
theorem zi_istore {i : Nat} {x : Int32} (hd : decode y.2.1 pc = .ok (.istore i, 2)) (hn : i < y.2.2.1) (hz : znl L i = true) (hL : L.set i (some (.int x)) = L') (hq : pc + 2 = q) (k : Rn E y q L' st sh m rv sh' m') : Rn E y pc L (.int x :: st) sh m rv sh' m' := by
  subst hq
  exact Rn.loc (fun p l e R s mid args below meth c D κ A ρ H locs cells slots ls Q C hl k => lv_istore C.1 C.2.1 hd hl hn rfl (fun ls' hl' => k ls' (lv_mono hl' (zL_set1 hz hL)))) k
theorem zi_astoren {f : Fin 4} {a : Nat} (hd : decode y.2.1 pc = .ok (.astore_n f, 1)) (hn : (f : Nat) < y.2.2.1) (hz : znl L f = true) (hL : L.set f (some (.ref a)) = L') (hq : pc + 1 = q) (k : Rn E y q L' st sh m rv sh' m') : Rn E y pc L (.ref a :: st) sh m rv sh' m' := by
  subst hq
  exact Rn.loc (fun p l e R s mid args below meth c D κ A ρ H locs cells slots ls Q C hl k => lv_astore_n C.1 C.2.1 hd rfl hl hn rfl (fun ls' hl' => k ls' (lv_mono hl' (zL_set1 (v := .ref a) hz hL)))) k
theorem zi_astore {i a : Nat} (hd : decode y.2.1 pc = .ok (.astore i, 2)) (hn : i < y.2.2.1) (hz : znl L i = true) (hL : L.set i (some (.ref a)) = L') (hq : pc + 2 = q) (k : Rn E y q L' st sh m rv sh' m') : Rn E y pc L (.ref a :: st) sh m rv sh' m' := by
  subst hq
  exact Rn.loc (fun p l e R s mid args below meth c D κ A ρ H locs cells slots ls Q C hl k => lv_astore C.1 C.2.1 hd hl hn rfl (fun ls' hl' => k ls' (lv_mono hl' (zL_set1 (v := .ref a) hz hL)))) k
theorem zi_iinc {i : Nat} {n : Int} {x v : Int32} (hd : decode y.2.1 pc = .ok (.iinc i n, 3)) (hx : L[i]? = some (some (.int x))) (hv : x + Int32.ofInt n = v) (hn : i < y.2.2.1) (hz : znl L i = true) (hL : L.set i (some (.int v)) = L') (hq : pc + 3 = q) (k : Rn E y q L' st sh m rv sh' m') : Rn E y pc L st sh m rv sh' m' := by
  subst hq
  refine Rn.loc (fun p l e R s mid args below meth c D κ A ρ H locs cells slots ls Q C hl k => ?_) k
  obtain ⟨j, hj⟩ := List.getElem?_of_mem (zL_mem.mpr ⟨_, hx, rfl⟩ : (i, zv ρ (.int x)) ∈ zL ρ L)
  exact lv_iinc C.1 C.2.1 hd hl hj hv hn rfl (fun ls' hl' => k ls' (lv_mono hl' (zL_set1 hz hL)))
theorem zL_set2 {ρ : Nat → Nat} {i : Nat} {v : Value} (hn : znl L i = true) (hL : (L.set i (some v)).set (i + 1) none = L') : ∀ q ∈ zL ρ L', q ∈ (i, zv ρ v) :: (zL ρ L).filter (fun q => !(q.1 == i) && (!(q.1 == i + 1) && !(q.1 + 1 == i && q.2.category == 2))) := by
  intro q hq
  obtain ⟨w, h1, h2⟩ := zL_mem.mp hq
  subst hL
  have e3 : q.1 ≠ i + 1 := by
    intro e
    have hlt : i + 1 < (L.set i (some v)).length := by
      have := (List.getElem?_eq_some_iff.mp h1).1
      rw [List.length_set] at this
      omega
    rw [e, List.getElem?_set_self hlt] at h1
    cases h1
  rw [List.getElem?_set_ne (Ne.symm e3)] at h1
  by_cases e : q.1 = i
  · have hlt : i < L.length := by
      have := (List.getElem?_eq_some_iff.mp h1).1
      rw [List.length_set] at this
      omega
    rw [e, List.getElem?_set_self hlt] at h1
    cases h1
    obtain ⟨a, b⟩ := q
    cases h2
    cases e
    exact List.mem_cons_self
  · rw [List.getElem?_set_ne (Ne.symm e)] at h1
    refine List.mem_cons_of_mem _ (List.mem_filter.mpr ⟨zL_mem.mpr ⟨w, h1, h2⟩, ?_⟩)
    simp only [Bool.and_eq_true, Bool.not_eq_true', beq_eq_false_iff_ne, ne_eq, Bool.and_eq_false_iff]
    refine ⟨e, e3, ?_⟩
    by_cases e2 : q.1 + 1 = i
    · right
      rw [h2, zv_cat, znl_not hn h1 e2]
      decide
    · exact Or.inl e2
theorem zi_lstoren {f : Fin 4} {x : Int64} (hd : decode y.2.1 pc = .ok (.lstore_n f, 1)) (hn : (f : Nat) + 1 < y.2.2.1) (hz : znl L f = true) (hL : (L.set f (some (.long x))).set (f + 1) none = L') (hq : pc + 1 = q) (k : Rn E y q L' st sh m rv sh' m') : Rn E y pc L (.long x :: st) sh m rv sh' m' := by
  subst hq
  exact Rn.loc (fun p l e R s mid args below meth c D κ A ρ H locs cells slots ls Q C hl k => lv_lstore_n C.1 C.2.1 hd rfl hl hn rfl (fun ls' hl' => k ls' (lv_mono hl' (zL_set2 hz hL)))) k
/-! branches -/
theorem zi_goto {off : Int} (hd : decode y.2.1 pc = .ok (.goto off, 3)) (hq : (pc : Int) + off = (q : Int)) (k : Rn E y q L st sh m rv sh' m') : Rn E y pc L st sh m rv sh' m' :=
  Rn.go (fun p l e R s mid args below meth c D κ A ρ H locs cells slots ls Q C hl hP hS k => lv_goto C.1 C.2.1 hd hq k) k
variable {q2 : Nat} {off : Int} {a b : Int32}
theorem zi_ifeq (hd : decode y.2.1 pc = .ok (.ifCond .eq off, 3)) (hq : (pc : Int) + off = (q : Int)) (hq2 : pc + 3 = q2) (kt : a = 0 → Rn E y q L st sh m rv sh' m') (kf : ¬ a = 0 → Rn E y q2 L st sh m rv sh' m') : Rn E y pc L (.int a :: st) sh m rv sh' m' := by
  subst hq2
  exact Rn.br (fun p l e R s mid args below meth c D κ A ρ H locs cells slots ls Q C kt kf => lv_if_eq C.1 C.2.1 hd hq kt kf) kt kf
theorem zi_ifne (hd : decode y.2.1 pc = .ok (.ifCond .ne off, 3)) (hq : (pc : Int) + off = (q : Int)) (hq2 : pc + 3 = q2) (kt : ¬ a = 0 → Rn E y q L st sh m rv sh' m') (kf : a = 0 → Rn E y q2 L st sh m rv sh' m') : Rn E y pc L (.int a :: st) sh m rv sh' m' := by
  subst hq2
  exact Rn.br (c0 := ¬ a = 0) (fun p l e R s mid args below meth c D κ A ρ H locs cells slots ls Q C kt kf => lv_if_ne C.1 C.2.1 hd hq kt (fun h => kf (fun n => n h))) kt (fun h => kf (Classical.not_not.mp h))
theorem zi_iflt (hd : decode y.2.1 pc = .ok (.ifCond .lt off, 3)) (hq : (pc : Int) + off = (q : Int)) (hq2 : pc + 3 = q2) (kt : a < 0 → Rn E y q L st sh m rv sh' m') (kf : ¬ a < 0 → Rn E y q2 L st sh m rv sh' m') : Rn E y pc L (.int a :: st) sh m rv sh' m' := by
  subst hq2
  exact Rn.br (fun p l e R s mid args below meth c D κ A ρ H locs cells slots ls Q C kt kf => lv_if_lt C.1 C.2.1 hd hq kt kf) kt kf
theorem zi_ifge (hd : decode y.2.1 pc = .ok (.ifCond .ge off, 3)) (hq : (pc : Int) + off = (q : Int)) (hq2 : pc + 3 = q2) (kt : 0 ≤ a → Rn E y q L st sh m rv sh' m') (kf : ¬ 0 ≤ a → Rn E y q2 L st sh m rv sh' m') : Rn E y pc L (.int a :: st) sh m rv sh' m' := by
  subst hq2
  exact Rn.br (fun p l e R s mid args below meth c D κ A ρ H locs cells slots ls Q C kt kf => lv_if_ge C.1 C.2.1 hd hq kt kf) kt kf
theorem zi_ifgt (hd : decode y.2.1 pc = .ok (.ifCond .gt off, 3)) (hq : (pc : Int) + off = (q : Int)) (hq2 : pc + 3 = q2) (kt : 0 < a → Rn E y q L st sh m rv sh' m') (kf : ¬ 0 < a → Rn E y q2 L st sh m rv sh' m') : Rn E y pc L (.int a :: st) sh m rv sh' m' := by
  subst hq2
  exact Rn.br (fun p l e R s mid args below meth c D κ A ρ H locs cells slots ls Q C kt kf => lv_if_gt C.1 C.2.1 hd hq kt kf) kt kf
theorem zi_ifle (hd : decode y.2.1 pc = .ok (.ifCond .le off, 3)) (hq : (pc : Int) + off = (q : Int)) (hq2 : pc + 3 = q2) (kt : a ≤ 0 → Rn E y q L st sh m rv sh' m') (kf : ¬ a ≤ 0 → Rn E y q2 L st sh m rv sh' m') : Rn E y pc L (.int a :: st) sh m rv sh' m' := by
  subst hq2
  exact Rn.br (fun p l e R s mid args below meth c D κ A ρ H locs cells slots ls Q C kt kf => lv_if_le C.1 C.2.1 hd hq kt kf) kt kf
theorem zi_icmpeq (hd : decode y.2.1 pc = .ok (.if_icmp .eq off, 3)) (hq : (pc : Int) + off = (q : Int)) (hq2 : pc + 3 = q2) (kt : a = b → Rn E y q L st sh m rv sh' m') (kf : ¬ a = b → Rn E y q2 L st sh m rv sh' m') : Rn E y pc L (.int b :: .int a :: st) sh m rv sh' m' := by
  subst hq2
  exact Rn.br (fun p l e R s mid args below meth c D κ A ρ H locs cells slots ls Q C kt kf => lv_icmp_eq C.1 C.2.1 hd hq kt kf) kt kf
theorem zi_icmpne (hd : decode y.2.1 pc = .ok (.if_icmp .ne off, 3)) (hq : (pc : Int) + off = (q : Int)) (hq2 : pc + 3 = q2) (kt : ¬ a = b → Rn E y q L st sh m rv sh' m') (kf : a = b → Rn E y q2 L st sh m rv sh' m') : Rn E y pc L (.int b :: .int a :: st) sh m rv sh' m' := by
  subst hq2
  exact Rn.br (c0 := ¬ a = b) (fun p l e R s mid args below meth c D κ A ρ H locs cells slots ls Q C kt kf => lv_icmp_ne C.1 C.2.1 hd hq kt (fun h => kf (fun n => n h))) kt (fun h => kf (Classical.not_not.mp h))
theorem zi_icmplt (hd : decode y.2.1 pc = .ok (.if_icmp .lt off, 3)) (hq : (pc : Int) + off = (q : Int)) (hq2 : pc + 3 = q2) (kt : a < b → Rn E y q L st sh m rv sh' m') (kf : ¬ a < b → Rn E y q2 L st sh m rv sh' m') : Rn E y pc L (.int b :: .int a :: st) sh m rv sh' m' := by
  subst hq2
  exact Rn.br (fun p l e R s mid args below meth c D κ A ρ H locs cells slots ls Q C kt kf => lv_icmp_lt C.1 C.2.1 hd hq kt kf) kt kf
theorem zi_icmpge (hd : decode y.2.1 pc = .ok (.if_icmp .ge off, 3)) (hq : (pc : Int) + off = (q : Int)) (hq2 : pc + 3 = q2) (kt : b ≤ a → Rn E y q L st sh m rv sh' m') (kf : ¬ b ≤ a → Rn E y q2 L st sh m rv sh' m') : Rn E y pc L (.int b :: .int a :: st) sh m rv sh' m' := by
  subst hq2
  exact Rn.br (fun p l e R s mid args below meth c D κ A ρ H locs cells slots ls Q C kt kf => lv_icmp_ge C.1 C.2.1 hd hq kt kf) kt kf
theorem zi_icmpgt (hd : decode y.2.1 pc = .ok (.if_icmp .gt off, 3)) (hq : (pc : Int) + off = (q : Int)) (hq2 : pc + 3 = q2) (kt : b < a → Rn E y q L st sh m rv sh' m') (kf : ¬ b < a → Rn E y q2 L st sh m rv sh' m') : Rn E y pc L (.int b :: .int a :: st) sh m rv sh' m' := by
  subst hq2
  exact Rn.br (fun p l e R s mid args below meth c D κ A ρ H locs cells slots ls Q C kt kf => lv_icmp_gt C.1 C.2.1 hd hq kt kf) kt kf
theorem zi_icmple (hd : decode y.2.1 pc = .ok (.if_icmp .le off, 3)) (hq : (pc : Int) + off = (q : Int)) (hq2 : pc + 3 = q2) (kt : a ≤ b → Rn E y q L st sh m rv sh' m') (kf : ¬ a ≤ b → Rn E y q2 L st sh m rv sh' m') : Rn E y pc L (.int b :: .int a :: st) sh m rv sh' m' := by
  subst hq2
  exact Rn.br (fun p l e R s mid args below meth c D κ A ρ H locs cells slots ls Q C kt kf => lv_icmp_le C.1 C.2.1 hd hq kt kf) kt kf
/-- a table switch, at a number that it has -/
theorem zi_tsIn {dflt lo hi : Int} {offs : Array Int} {len : Nat} {x : Int32} {j : Nat} (hd : decode y.2.1 pc = .ok (.tableswitch dflt lo hi offs, len)) (hx : x.toInt = lo + j) (h2 : lo + j ≤ hi) (ho : offs[j]? = some off) (hq : (pc : Int) + off = (q : Int)) (k : Rn E y q L st sh m rv sh' m') : Rn E y pc L (.int x :: st) sh m rv sh' m' :=
  Rn.go (fun p l e R s mid args below meth c D κ A ρ H locs cells slots ls Q C hl hP hS k => lv_tableIn C.1 C.2.1 hd (by omega) (by omega) (by rw [show (x.toInt - lo).toNat = j by omega]; exact ho) hq k) k
/-- a table switch, at a number that it hasn't -/
theorem zi_tsOut {dflt lo hi : Int} {offs : Array Int} {len : Nat} {x : Int32} (hd : decode y.2.1 pc = .ok (.tableswitch dflt lo hi offs, len)) (hx : x.toInt < lo ∨ hi < x.toInt) (hq : (pc : Int) + dflt = (q : Int)) (k : Rn E y q L st sh m rv sh' m') : Rn E y pc L (.int x :: st) sh m rv sh' m' :=
  Rn.go (fun p l e R s mid args below meth c D κ A ρ H locs cells slots ls Q C hl hP hS k => lv_tableOut C.1 C.2.1 hd hx hq k) k
/-! returns -/
theorem zi_ret (rv : Option Value) (hd : zret y.2.1 pc rv) : Rn E y pc L rv.toList sh m rv sh m := by
  refine ⟨Nat.le_refl _, Nat.le_refl _, fun p l e R s mid args below meth c D κ A ρ H locs cells slots ls Q C hl hP hD hS hc hs kk => ?_⟩
  have h : rv.toList.map (zv ρ) = rv.toList := by
    match rv, hd with
    | none, _ => rfl
    | some (.int _), _ => rfl
    | some (.long _), _ => rfl
  rw [h]
  exact kk ρ H locs ls pc cells slots ⟨fun _ _ => rfl, fun _ => rfl⟩ hd hP hD hS rfl rfl
/-! fields -/
/-- field k of the objects of number ci, of kind t, linked at the place i of the pool of the class own -/
def zfl (own : String) (i ci k t : Nat) : Prop := ∃ q : vw_C, vwCl[ci]? = some q ∧ k < zn ci ∧ ztk (zty ci k) = t ∧ Cond.fieldLink own i (q.2.1 k).1 (q.2.1 k).2.1 (q.2.1 k).2.2.1 ∈ zALL
theorem zi_get {i ci k t n : Nat} {rs : List (Option Nat)} {v : Value} (hd : decode y.2.1 pc = .ok (.getfield i, 3)) (hf : zfl y.1.cls i ci k t) (ho : sh[n]? = some (.inr (ci, rs))) (hv : ∀ ρ : Nat → Nat, zfv ρ m n rs k t = zv ρ v) (hq : pc + 3 = q) (kk : Rn E y q L (v :: st) sh m rv sh' m') : Rn E y pc L (.ref n :: st) sh m rv sh' m' := by
  subst hq
  obtain ⟨r, h1, h2, h3, h4⟩ := hf
  obtain ⟨g1, g2, g3, g4⟩ := zcl ci r h1
  subst h3
  exact Rn.go (fun p l e R s mid args below meth c D κ A ρ H locs cells slots ls Q C hl hP hS kk => va_get (C := r.1) (T := r.2.1) (N := r.2.2) C.1 C.2.1 C.2.2.2.2.1 g2 C.2.2.2.1 C.2.2.2.2.2.1 hP n (zw_get ho) h1 k (by rw [g1]; exact h2) (C.2.2.2.2.1 _ h4) (fun _ h => h) (by rw [zfs_get h2, hv ρ]) hd kk) kk
theorem zi_getI {i ci k t n : Nat} {rs : List (Option Nat)} (hd : decode y.2.1 pc = .ok (.getfield i, 3)) (hf : zfl y.1.cls i ci k t) (ht : t < 2) (ho : sh[n]? = some (.inr (ci, rs))) (hq : pc + 3 = q) (kk : Rn E y q L (.int (m.1 n k) :: st) sh m rv sh' m') : Rn E y pc L (.ref n :: st) sh m rv sh' m' :=
  zi_get hd hf ho (fun ρ => by rcases (show t = 0 ∨ t = 1 by omega) with rfl | rfl <;> rfl) hq kk
theorem zi_getJ {i ci k n : Nat} {rs : List (Option Nat)} (hd : decode y.2.1 pc = .ok (.getfield i, 3)) (hf : zfl y.1.cls i ci k 2) (ho : sh[n]? = some (.inr (ci, rs))) (hq : pc + 3 = q) (kk : Rn E y q L (.long (m.2.1 n k) :: st) sh m rv sh' m') : Rn E y pc L (.ref n :: st) sh m rv sh' m' :=
  zi_get hd hf ho (fun ρ => rfl) hq kk
theorem zi_getA {i ci k n r : Nat} {rs : List (Option Nat)} (hd : decode y.2.1 pc = .ok (.getfield i, 3)) (hf : zfl y.1.cls i ci k 3) (ho : sh[n]? = some (.inr (ci, rs))) (hr : rs.getD k none = some r) (hq : pc + 3 = q) (kk : Rn E y q L (.ref r :: st) sh m rv sh' m') : Rn E y pc L (.ref n :: st) sh m rv sh' m' :=
  zi_get hd hf ho (fun ρ => by show va_rf ((rs.getD k none).map ρ) = _; rw [hr]; rfl) hq kk
end ZRULES2
end
section
section ZRULES3
variable {E : Nat × (Nat → Int32)} {y : zY} {pc q : Nat} {L L' : List (Option Value)} {st : List Value} {sh sh' : List zS} {m m' m1 : zM} {rv : Option Value}
/-! fields are written -/
/-- field k of the objects of number ci, of that type, linked at the place i of the pool of the class own -/
def zpl (own : String) (i ci k : Nat) (ty : FieldType) (fin : Bool) : Prop := ∃ q : vw_C, vwCl[ci]? = some q ∧ k < zn ci ∧ zty ci k = ty ∧ (q.2.1 k).2.2.2 = fin ∧ (fin = true → (q.2.1 k).1 = own) ∧ Cond.fieldLink own i (q.2.1 k).1 (q.2.1 k).2.1 (q.2.1 k).2.2.1 ∈ zALL
theorem zi_put {i ci k n : Nat} {rs : List (Option Nat)} {ty : FieldType} {v : Value} (hd : decode y.2.1 pc = .ok (.putfield i, 3)) (hf : zpl y.1.cls i ci k ty false) (ho : sh[n]? = some (.inr (ci, rs))) (hn : ∀ ρ : Nat → Nat, narrow ty (zv ρ v) = zv ρ v) (hfit : ∀ ρ : Nat → Nat, fits ty (zv ρ v) = true)
    (hm : ∀ i, i ≠ n → m1.1 i = m.1 i ∧ m1.2.1 i = m.2.1 i ∧ m1.2.2 i = m.2.2 i) (hv : ∀ ρ : Nat → Nat, zfv ρ m1 n rs k (ztk ty) = zv ρ v) (hr : ∀ (ρ : Nat → Nat) (j : Nat), j ≠ k → ∀ t, zfv ρ m1 n rs j t = zfv ρ m n rs j t) (hq : pc + 3 = q) (kk : Rn E y q L st sh m1 rv sh' m') : Rn E y pc L (v :: .ref n :: st) sh m rv sh' m' := by
  subst hq
  obtain ⟨r, h1, h2, h3, h4, -, h5⟩ := hf
  obtain ⟨g1, g2, g3, g4⟩ := zcl ci r h1
  subst h3
  refine Rn.mw (m1 := m1) (fun p l e R s mid args below meth c D κ A ρ H locs cells slots ls Q C hl hP hD hS kk => ?_) kk
  refine va_put (C := r.1) (T := r.2.1) (N := r.2.2) (ty := zty ci k) C.1 C.2.1 C.2.2.2.2.1 g2 (zty ci) g3 g4 C.2.2.2.1 C.2.2.2.2.2.1 hP hD hS n (zw_get ho) h1 k (by rw [g1]; exact h2) (C.2.2.2.2.1 _ h5) (fun _ h => h) h4 (g3 k (by rw [g1]; exact h2)) (hn ρ) (hfit ρ) (by rw [zfs_len]; exact h2) hd (fun H1 locs1 hP1 hD1 hS1 => ?_)
  have e : (zw ρ κ m sh).set n (ρ n, .inr (ci, (zfs ρ m n ci rs).set k (zv ρ v))) = zw ρ κ m1 sh := by
    rw [← zw_set ho hm]
    congr 2
    show Sum.inr _ = Sum.inr _
    rw [zfs_set h2 (hv ρ) (fun j _ hj => hr ρ j hj _)]
  rw [e] at hP1 hD1
  exact kk H1 locs1 hP1 hD1 hS1
theorem zfv_zi {m : zM} {n k : Nat} {x : Int32} {rs : List (Option Nat)} (ρ : Nat → Nat) (j : Nat) (hj : j ≠ k) (t : Nat) : zfv ρ (zi m n k x) n rs j t = zfv ρ m n rs j t := by
  unfold zfv
  split <;> simp [zi, hj]
theorem zi_putI {i ci k n : Nat} {rs : List (Option Nat)} {x : Int32} (hd : decode y.2.1 pc = .ok (.putfield i, 3)) (hf : zpl y.1.cls i ci k .int false) (ho : sh[n]? = some (.inr (ci, rs))) (hq : pc + 3 = q) (kk : Rn E y q L st sh (zi m n k x) rv sh' m') : Rn E y pc L (.int x :: .ref n :: st) sh m rv sh' m' :=
  zi_put (v := .int x) hd hf ho (fun _ => rfl) (fun _ => rfl) (zi_off m n k x) (fun ρ => by show Value.int ((zi m n k x).1 n k) = _; simp [zi, zv]) (fun ρ j hj t => zfv_zi ρ j hj t) hq kk
/-- 0 or 1 -/
def zb (x : Int32) : Bool := decide (x = 0) || decide (x = 1)
theorem zb_of {x : Int32} (h : zb x = true) : x = 0 ∨ x = 1 := by
  simpa [zb] using h
theorem zi_putZ {i ci k n : Nat} {rs : List (Option Nat)} {x : Int32} (hd : decode y.2.1 pc = .ok (.putfield i, 3)) (hf : zpl y.1.cls i ci k .boolean false) (ho : sh[n]? = some (.inr (ci, rs))) (hz : zb x = true) (hq : pc + 3 = q) (kk : Rn E y q L st sh (zi m n k x) rv sh' m') : Rn E y pc L (.int x :: .ref n :: st) sh m rv sh' m' :=
  zi_put (v := .int x) hd hf ho (fun _ => by rcases zb_of hz with rfl | rfl <;> rfl) (fun _ => by rcases zb_of hz with rfl | rfl <;> rfl) (zi_off m n k x) (fun ρ => by show Value.int ((zi m n k x).1 n k) = _; simp [zi, zv]) (fun ρ j hj t => zfv_zi ρ j hj t) hq kk
theorem zi_putJ {i ci k n : Nat} {rs : List (Option Nat)} {x : Int64} (hd : decode y.2.1 pc = .ok (.putfield i, 3)) (hf : zpl y.1.cls i ci k .long false) (ho : sh[n]? = some (.inr (ci, rs))) (hq : pc + 3 = q) (kk : Rn E y q L st sh (zl m n k x) rv sh' m') : Rn E y pc L (.long x :: .ref n :: st) sh m rv sh' m' :=
  zi_put (v := .long x) hd hf ho (fun _ => rfl) (fun _ => rfl) (zl_off m n k x) (fun ρ => by show Value.long ((zl m n k x).2.1 n k) = _; simp [zl, zv]) (fun ρ j hj t => by unfold zfv; split <;> simp [zl, hj]) hq kk
/-! arrays -/
theorem zi_iald {n len b : Nat} {i : Int32} (hd : decode y.2.1 pc = .ok (.iaload, 1)) (ho : sh[n]? = some (.inl (0, len, b))) (hi : vp_in i len) (hq : pc + 1 = q) (kk : Rn E y q L (.int (m.1 n i.toNatClampNeg) :: st) sh m rv sh' m') : Rn E y pc L (.int i :: .ref n :: st) sh m rv sh' m' := by
  subst hq
  exact Rn.go (fun p l e R s mid args below meth c D κ A ρ H locs cells slots ls Q C hl hP hS kk => va_iald C.1 C.2.1 C.2.2.2.2.2.1 hP n 0 (zw_get ho) rfl hi hd kk) kk
theorem zi_bald {n len b : Nat} {i : Int32} (hd : decode y.2.1 pc = .ok (.baload, 1)) (ho : sh[n]? = some (.inl (1, len, b))) (hi : vp_in i len) (hq : pc + 1 = q) (kk : Rn E y q L (.int (m.1 n i.toNatClampNeg) :: st) sh m rv sh' m') : Rn E y pc L (.int i :: .ref n :: st) sh m rv sh' m' := by
  subst hq
  exact Rn.go (fun p l e R s mid args below meth c D κ A ρ H locs cells slots ls Q C hl hP hS kk => va_zald C.1 C.2.1 C.2.2.2.2.2.1 hP n 1 (zw_get ho) rfl hi hd kk) kk
theorem zi_alen {n len b : Nat} {v : Int32} (hd : decode y.2.1 pc = .ok (.arraylength, 1)) (ho : sh[n]? = some (.inl (0, len, b))) (hv : Int32.ofNat len = v) (hq : pc + 1 = q) (kk : Rn E y q L (.int v :: st) sh m rv sh' m') : Rn E y pc L (.ref n :: st) sh m rv sh' m' := by
  subst hq
  exact Rn.go (fun p l e R s mid args below meth c D κ A ρ H locs cells slots ls Q C hl hP hS kk => va_alen (x := (len, .inl (m.1 n))) C.1 C.2.1 C.2.2.2.2.2.1 hP n 0 (zw_get ho) rfl hv hd kk) kk
theorem zi_iast {n len b : Nat} {i x : Int32} (hd : decode y.2.1 pc = .ok (.iastore, 1)) (ho : sh[n]? = some (.inl (0, len, b))) (hi : vp_in i len) (hq : pc + 1 = q) (kk : Rn E y q L st sh (zi m n i.toNatClampNeg x) rv sh' m') : Rn E y pc L (.int x :: .int i :: .ref n :: st) sh m rv sh' m' := by
  subst hq
  refine Rn.mw (fun p l e R s mid args below meth c D κ A ρ H locs cells slots ls Q C hl hP hD hS kk => ?_) kk
  refine va_iast C.1 C.2.1 C.2.2.2.2.2.1 hP hD hS n 0 (zw_get ho) rfl hi hd (fun H1 locs1 hP1 hD1 hS1 => ?_)
  have e : (zw ρ κ m sh).set n (ρ n, .inl (κ 0, len, .inl (upd (m.1 n) i.toNatClampNeg x))) = zw ρ κ (zi m n i.toNatClampNeg x) sh := by
    rw [← zw_set ho (zi_off m n i.toNatClampNeg x)]
    show _ = (zw ρ κ m sh).set n (ρ n, .inl (κ 0, len, .inl ((zi m n i.toNatClampNeg x).1 n)))
    rw [zi_row]
  rw [e] at hP1 hD1
  exact kk H1 locs1 hP1 hD1 hS1
theorem zb_nar {x : Int32} (h : zb x = true) : vp_nar .boolean x = x := by
  rcases zb_of h with rfl | rfl <;> rfl
theorem zi_bast {n len b : Nat} {i x : Int32} (hd : decode y.2.1 pc = .ok (.bastore, 1)) (ho : sh[n]? = some (.inl (1, len, b))) (hi : vp_in i len) (hz : zb x = true) (hq : pc + 1 = q) (kk : Rn E y q L st sh (zi m n i.toNatClampNeg x) rv sh' m') : Rn E y pc L (.int x :: .int i :: .ref n :: st) sh m rv sh' m' := by
  subst hq
  refine Rn.mw (fun p l e R s mid args below meth c D κ A ρ H locs cells slots ls Q C hl hP hD hS kk => ?_) kk
  refine va_zast C.1 C.2.1 C.2.2.2.2.2.1 hP hD hS n 1 (zw_get ho) rfl hi hd (fun H1 locs1 hP1 hD1 hS1 => ?_)
  have e : (zw ρ κ m sh).set n (ρ n, .inl (κ 1, len, .inl (upd (m.1 n) i.toNatClampNeg (vp_nar .boolean x)))) = zw ρ κ (zi m n i.toNatClampNeg x) sh := by
    rw [← zw_set ho (zi_off m n i.toNatClampNeg x), zb_nar hz]
    show _ = (zw ρ κ m sh).set n (ρ n, .inl (κ 1, len, .inl ((zi m n i.toNatClampNeg x).1 n)))
    rw [zi_row]
  rw [e] at hP1 hD1
  exact kk H1 locs1 hP1 hD1 hS1
theorem zi_aald {n len b : Nat} {i : Int32} (hd : decode y.2.1 pc = .ok (.aaload, 1)) (ho : sh[n]? = some (.inl (2, len, b))) (hi : vp_in i len) (hq : pc + 1 = q) (kk : Rn E y q L (.ref (b + m.2.2 n i.toNatClampNeg % len) :: st) sh m rv sh' m') : Rn E y pc L (.int i :: .ref n :: st) sh m rv sh' m' := by
  subst hq
  refine Rn.go (fun p l e R s mid args below meth c D κ A ρ H locs cells slots ls Q C hl hP hS kk => ?_) kk
  have hlt : i.toNatClampNeg < len := Nat.not_le.mp fun q => hi (Or.inr q)
  have ha : (zw ρ κ m sh)[n]? = some (ρ n, .inl (κ 2, len, .inr (.inr (.inr (.inr (fun j => some (ρ (b + m.2.2 n j % len)))))))) := zw_get ho
  have ht : (zt κ)[2]? = some (κ 2, .array .int) := rfl
  exact W.aald (v := va_rf (some (ρ (b + m.2.2 n i.toNatClampNeg % len)))) (ty := .array .int) C.1 C.2.1 (hP n _ ha) ((C.2.2.2.2.2.1.2 2 _ ht).1 len (fun j => va_rf (some (ρ (b + m.2.2 n j % len))))) rfl (fun q => by cases q) (by show ¬ (i < 0 ∨ (arrV _ _ _).slots.size ≤ _); rw [arrV_size]; exact hi) (by show (arrV _ _ _).slots[_]? = _; rw [arrV_read _ _ hlt]) rfl rfl hd kk
theorem zi_aast {n len b v k0 b0 : Nat} {i : Int32} (hd : decode y.2.1 pc = .ok (.aastore, 1)) (ho : sh[n]? = some (.inl (2, len, b))) (hi : vp_in i len) (hv : b ≤ v ∧ v < b + len) (hv2 : sh[v]? = some (.inl (0, k0, b0))) (hq : pc + 1 = q) (kk : Rn E y q L st sh (zr m n i.toNatClampNeg (v - b)) rv sh' m') : Rn E y pc L (.ref v :: .int i :: .ref n :: st) sh m rv sh' m' := by
  subst hq
  refine Rn.mw (fun p l e R s mid args below meth c D κ A ρ H locs cells slots ls Q C hl hP hD hS kk => ?_) kk
  have hlt : i.toNatClampNeg < len := Nat.not_le.mp fun q => hi (Or.inr q)
  have h0 : ¬ i < 0 := fun q => hi (Or.inl q)
  have ha : (zw ρ κ m sh)[n]? = some (ρ n, .inl (κ 2, len, .inr (.inr (.inr (.inr (fun j => some (ρ (b + m.2.2 n j % len)))))))) := zw_get ho
  have hw : (zw ρ κ m sh)[v]? = some (ρ v, .inl (κ 0, k0, .inl (m.1 v))) := zw_get hv2
  obtain ⟨kA, k1, k2⟩ := C.2.2.2.2.2.2.1
  have ht : (zt κ)[0]? = some (κ 0, .int) := rfl
  obtain ⟨-, kI, hkI, -⟩ := (C.2.2.2.2.2.1.2 0 _ ht).1 0 (fun _ => .int 0)
  refine W.aast C.1 C.2.1 (hP n _ ha) (fun q h => by cases h) (fun h => by cases h) k1 k2 rfl hkI ⟨h0, by show _ < (arrV _ _ _).slots.size; rw [arrV_size]; exact hlt⟩ (hP v _ hw) (fun q h => by cases h) hkI (va_asg _ _) rfl rfl hd fun H1 e z oq => ?_
  have e2 : (zw ρ κ m sh).set n (ρ n, zE ρ κ (zr m n i.toNatClampNeg (v - b)) n (.inl (2, len, b))) = zw ρ κ (zr m n i.toNatClampNeg (v - b)) sh := zw_set ho (zr_off m n i.toNatClampNeg (v - b))
  have hat : va_at D vwCl (ρ n, zE ρ κ (zr m n i.toNatClampNeg (v - b)) n (.inl (2, len, b))) H1 := by
    show H1[ρ n]? = some (vp_cell _ _)
    rw [e]
    rw [vp_cell_q, vp_cell_q, arrV_store]
    congr 2
    funext j
    by_cases hj : j = i.toNatClampNeg
    · subst hj
      have hm : (v - b) % len = v - b := Nat.mod_eq_of_lt (by omega)
      simp [updV, va_rf, zr, hm, show b + (v - b) = v by omega]
    · simp [updV, hj, zr]
  have hP1 := hP.set hD ha hat oq
  have hD1 := hD.set (e := zE ρ κ (zr m n i.toNatClampNeg (v - b)) n (.inl (2, len, b))) ha
  rw [e2] at hP1 hD1
  exact kk H1 _ hP1 hD1 (hS.put z oq (hD.2 n _ ha))
/-! the script and the tables of constants -/
theorem zi_xald {i : Int32} (hd : decode y.2.1 pc = .ok (.iaload, 1)) (hi : vp_in i E.1) (hq : pc + 1 = q) (kk : Rn E y q L (.int (E.2 i.toNatClampNeg) :: st) sh m rv sh' m') : Rn E y pc L (.int i :: .ref 1000 :: st) sh m rv sh' m' := by
  subst hq
  exact Rn.go (fun p l e R s mid args below meth c D κ A ρ H locs cells slots ls Q C hl hP hS kk => va_sld C.1 C.2.1 C.2.2.2.2.2.2.2.2.2.1.1.1 C.2.2.2.2.2.2.2.2.2.1.1.2.1 C.2.2.2.2.2.2.2.2.2.1.1.2.2 hS hi hd kk) kk
theorem zi_xlen (hd : decode y.2.1 pc = .ok (.arraylength, 1)) (hq : pc + 1 = q) (kk : Rn E y q L (.int (Int32.ofNat E.1) :: st) sh m rv sh' m') : Rn E y pc L (.ref 1000 :: st) sh m rv sh' m' := by
  subst hq
  exact Rn.go (fun p l e R s mid args below meth c D κ A ρ H locs cells slots ls Q C hl hP hS kk => va_slen C.1 C.2.1 C.2.2.2.2.2.2.2.2.2.1.1.1 C.2.2.2.2.2.2.2.2.2.1.1.2.1 C.2.2.2.2.2.2.2.2.2.1.1.2.2 hS hd kk) kk
theorem zi_t1ald {i : Int32} (hd : decode y.2.1 pc = .ok (.iaload, 1)) (hi : vp_in i 9) (hq : pc + 1 = q) (kk : Rn E y q L (.int (zxs 1001 i.toNatClampNeg) :: st) sh m rv sh' m') : Rn E y pc L (.int i :: .ref 1001 :: st) sh m rv sh' m' := by
  subst hq
  exact Rn.go (fun p l e R s mid args below meth c D κ A ρ H locs cells slots ls Q C hl hP hS kk => va_ti C.1 C.2.1 C.2.2.2.2.2.2.2.2.2.1.2.1.2 hS hi rfl hd kk) kk
theorem zi_t2ald {i : Int32} (hd : decode y.2.1 pc = .ok (.iaload, 1)) (hi : vp_in i 9) (hq : pc + 1 = q) (kk : Rn E y q L (.int (zxs 1002 i.toNatClampNeg) :: st) sh m rv sh' m') : Rn E y pc L (.int i :: .ref 1002 :: st) sh m rv sh' m' := by
  subst hq
  exact Rn.go (fun p l e R s mid args below meth c D κ A ρ H locs cells slots ls Q C hl hP hS kk => va_ti C.1 C.2.1 C.2.2.2.2.2.2.2.2.2.1.2.2.1.2 hS hi rfl hd kk) kk
theorem zi_gets1 {i : Nat} (hd : decode y.2.1 pc = .ok (.getstatic i, 3)) (hw : Cond.fieldLink y.1.cls i "FeltGlass" "LEAST_SETTING" "[I" ∈ zALL) (hq : pc + 3 = q) (kk : Rn E y q L (.ref 1001 :: st) sh m rv sh' m') : Rn E y pc L st sh m rv sh' m' := by
  subst hq
  exact Rn.go (fun p l e R s mid args below meth c D κ A ρ H locs cells slots ls Q C hl hP hS kk => va_gets C.1 C.2.1 C.2.2.2.2.2.2.2.2.2.1.2.1.1 hS C.2.2.2.1 (C.2.2.2.2.1 _ hw) (fun _ h => h) hd kk) kk
theorem zi_gets2 {i : Nat} (hd : decode y.2.1 pc = .ok (.getstatic i, 3)) (hw : Cond.fieldLink y.1.cls i "FeltGlass" "MOST_SETTING" "[I" ∈ zALL) (hq : pc + 3 = q) (kk : Rn E y q L (.ref 1002 :: st) sh m rv sh' m') : Rn E y pc L st sh m rv sh' m' := by
  subst hq
  exact Rn.go (fun p l e R s mid args below meth c D κ A ρ H locs cells slots ls Q C hl hP hS kk => va_gets C.1 C.2.1 C.2.2.2.2.2.2.2.2.2.1.2.2.1.1 hS C.2.2.2.1 (C.2.2.2.2.1 _ hw) (fun _ h => h) hd kk) kk
theorem zi_gets3 (hd : decode y.2.1 pc = .ok (.getstatic 89, 3)) (hy : y.1.cls = "FeltGlass$Panel") (hq : pc + 3 = q) (kk : Rn E y q L (.ref 1003 :: st) sh m rv sh' m') : Rn E y pc L st sh m rv sh' m' := by
  subst hq
  exact Rn.go (fun p l e R s mid args below meth c D κ A ρ H locs cells slots ls Q C hl hP hS kk => va_getsN (own := "FeltGlass$Panel") (host := "FeltGlass") C.1 C.2.1 C.2.2.2.2.2.2.2.2.2.1.2.2.2.1 hS (by rw [← hy]; exact C.2.2.2.1) (va_Nw.use rfl C.2.2.2.2.2.2.2.2.1.2.1) (fun _ h => h) hd kk) kk
end ZRULES3
section ZCOPY
variable {p : Program} {l : Launch} {e : Env} {R : Room} {s : State} {m : MethodId} {args : Array Value} {below : List Frame} {meth : Method} {c : Code} {H : Heap} {locs : List Loc} {cells slots : Nat} {Q : State → Prop}
variable {cc : ByteArray} {pc : Nat} {ls : Array Slot} {rest : List Value} {D : va_G} {cl : List vw_C} {A : Nat → Prop} {a : Nat} {tys : List (ClassId × FieldType)} {ws : va_W} {H0 : Heap}
/-- va_copyx, out of a table of constants (turned from the kit's row) -/
theorem zcopyT (hexec : p.tables.exec = Jvm.exec) (hb : c.code = cc) (hml : c.maxLocals = ls.size) {own : String} {index : Nat} (hown : s.vm.findClass own = some m.cls) (hlink : (Cond.methodLink own index arraycopyName).before args s = true) (hnat : (Cond.native arraycopyName).before args s = true) (hstat : (Cond.static arraycopyName).before args s = true) (hini : (Cond.initialized "java/lang/System").before args s = true)
    (hK : va_K D cl tys s) (hP : va_P D cl ws H) (hD : va_D A ws) (hS : va_S A s.heap H locs) {b0 n0 : Nat} {f : Nat → Int32} (hX : va_T .int b0 n0 (fun j => .int (f j)) A s s.heap) (q1 t1 : Nat) {c1 : ClassId} {n1 : Nat} {g : Nat → Int32} (ha1 : ws[q1]? = some (a, .inl (c1, n1, .inl g))) (ht1 : tys[t1]? = some (c1, .int))
    {sp dp n : Int32} (h1 : ¬ sp < 0) (h2 : ¬ dp < 0) (h3 : ¬ n < 0) (h4 : sp.toNatClampNeg + n.toNatClampNeg ≤ n0) (h5 : dp.toNatClampNeg + n.toNatClampNeg ≤ n1)
    (hframes : 1 ≤ R.frames) (hlocals : (rest.map fun v => v.category).sum + (nativeFrameWords "java/lang/System" "arraycopy" 5 + 11) ≤ R.locals) (hdg : decode cc pc = .ok (.invokestatic index, 3))
    (kk : ∀ (H1 : Heap) (locs1 : List Loc), va_P D cl (ws.set q1 (a, .inl (c1, n1, .inl (va_cpy f g sp.toNatClampNeg dp.toNatClampNeg n.toNatClampNeg)))) H1 → va_D A (ws.set q1 (a, .inl (c1, n1, .inl (va_cpy f g sp.toNatClampNeg dp.toNatClampNeg n.toNatClampNeg)))) → va_S A s.heap H1 locs1 → W p l e R s m args below meth c H1 locs1 cells slots Q (F0 m (pc + 3) ls rest)) : W p l e R s m args below meth c H locs cells slots Q (F0 m pc ls (.int n :: .int dp :: .ref a :: .int sp :: .ref b0 :: rest)) := by
  have nn : ∀ z : Int32, ¬ z < 0 → z.toInt = (z.toNatClampNeg : Int) := by
    intro z hz
    have hz0 : (0 : Int) ≤ z.toInt := by
      have := Int32.not_lt.mp hz
      simpa using Int32.le_iff_toInt_le.mp this
    show z.toInt = ((z.toInt.toNat : Nat) : Int)
    omega
  intro T hT X
  obtain ⟨scr, hs1, hs2, hs3, hs4, -, hs5, hbA⟩ := hX
  have hbl : b0 < s.heap.size := (Array.getElem?_eq_some_iff.mp hs1).1
  have hc0 : H[b0]? = some scr := by rw [hS.2.1 b0 hbl hbA]; exact hs1
  have hc1 : H[a]? = some (vp_cell c1 (n1, .inl g)) := hP q1 _ ha1
  obtain ⟨hs6, k0, hk0, cm0, hkk0⟩ := hs2
  obtain ⟨-, k1, hk1, cm1, hkk1⟩ := (hK.2 t1 _ ht1).1 n1 (fun j => .int (g j))
  obtain ⟨vm', X', step⟩ := X.arraycopy hexec hown hlink hnat hstat hini (src := b0) (dst := a) (cs := scr) (cd := vp_cell c1 (n1, .inl g)) (srcPos := sp) (destPos := dp) (n := n) (by rw [hT]; exact hc0) (by rw [hT]; exact hc1)
    hs6 (fun _ h => by cases h) hs3 (fun h => by cases h) hk0 hk1 hkk0 hkk1 (by simp [refKind]) h1 h2 h3
    (by rw [nn sp h1, nn n h3]; omega)
    (by rw [nn dp h2, nn n h3]; show ¬ _ > ((arrV c1 n1 (fun j => .int (g j))).slots.size : Int); rw [arrV_size]; omega)
    (fun vm₁ _ i hi => by
      have e : scr.slots.getD (sp.toNatClampNeg + i) .null = .int (f (sp.toNatClampNeg + i)) := by
        rw [Array.getD_eq_getD_getElem?, hs5 _ (by omega)]
        rfl
      refine ⟨?_, ?_⟩
      · rw [e]
        rfl
      · rw [e]
        exact trivial)
    (g := F0 m pc ls (.int n :: .int dp :: .ref a :: .int sp :: .ref b0 :: rest)) rfl (by rw [hml]) (rest := rest) rfl (by rw [hb]; exact hdg) hframes (by show 2 * 0 + _ + _ ≤ _; omega)
  have e1 : copied scr (vp_cell c1 (n1, .inl g)) sp dp n = vp_cell c1 (n1, .inl (va_cpy f g sp.toNatClampNeg dp.toNatClampNeg n.toNatClampNeg)) := va_copiedX (fun z => .int z) scr c1 f g hs5 h4
  rw [e1] at X' step
  have hl : a < H.size := (Array.getElem?_eq_some_iff.mp hc1).1
  have hheap : ((T.setVm vm').setCell a (vp_cell c1 (n1, .inl (va_cpy f g sp.toNatClampNeg dp.toNatClampNeg n.toNatClampNeg)))).heap = H.setIfInBounds a (vp_cell c1 (n1, .inl (va_cpy f g sp.toNatClampNeg dp.toNatClampNeg n.toNatClampNeg))) := by rw [← hT]; rfl
  have oq : ∀ q : Nat, q ≠ a → (H.setIfInBounds a (vp_cell c1 (n1, .inl (va_cpy f g sp.toNatClampNeg dp.toNatClampNeg n.toNatClampNeg))))[q]? = H[q]? := fun q hq => by simp [Array.getElem?_setIfInBounds, Ne.symm hq]
  obtain ⟨t, a1, b1⟩ := kk _ _ (hP.set hD ha1 (show (H.setIfInBounds a _)[a]? = some _ by simp [Array.getElem?_setIfInBounds, hl]) oq) (hD.set ha1) ⟨by simp; exact hS.1, fun q g1 g2 => by
      rw [oq q (fun e => g2 (by rw [e]; exact hD.2 q1 _ ha1))]
      exact hS.2.1 q g1 g2, fun q hq => by
      rcases List.mem_append.mp hq with h | h
      · exact hS.2.2 q h
      · obtain ⟨z, -, hz⟩ := List.mem_map.mp h
        rw [← hz]
        exact hD.2 q1 _ ha1⟩ _ hheap X'
  exact ⟨t, step t a1, b1⟩
end ZCOPY
section ZRULES4
variable {E : Nat × (Nat → Int32)} {y : zY} {pc q : Nat} {L L' : List (Option Value)} {st : List Value} {sh sh' : List zS} {m m' m1 : zM} {rv : Option Value}
/-- a stretch of a row is copied into another -/
def zcp (m : zM) (f : Nat → Int32) (a sp dp n : Nat) : zM := (fun b j => if b = a then va_cpy f (m.1 a) sp dp n j else m.1 b j, m.2)
theorem zcp_off (m : zM) (f : Nat → Int32) (a sp dp n : Nat) : ∀ i, i ≠ a → (zcp m f a sp dp n).1 i = m.1 i ∧ (zcp m f a sp dp n).2.1 i = m.2.1 i ∧ (zcp m f a sp dp n).2.2 i = m.2.2 i := fun i h => ⟨by funext j; simp [zcp, h], rfl, rfl⟩
/-- System.arraycopy(FIRST_SETTING, sp, n, dp, k) -/
theorem zi_copy {i n len b : Nat} {sp dp k : Int32} (hd : decode y.2.1 pc = .ok (.invokestatic i, 3)) (hw : Cond.methodLink y.1.cls i arraycopyName ∈ zALL) (hw1 : Cond.native arraycopyName ∈ zALL) (hw2 : Cond.static arraycopyName ∈ zALL) (hw3 : Cond.initialized "java/lang/System" ∈ zALL) (ho : sh[n]? = some (.inl (0, len, b))) (h1 : ¬ sp < 0) (h2 : ¬ dp < 0) (h3 : ¬ k < 0) (h4 : sp.toNatClampNeg + k.toNatClampNeg ≤ 9) (h5 : dp.toNatClampNeg + k.toNatClampNeg ≤ len) (hfr : 1 ≤ y.2.2.2.2.1) (hlo : 18 ≤ y.2.2.2.2.2) (hq : pc + 3 = q)
    (kk : Rn E y q L [] sh (zcp m (zxs 1003) n sp.toNatClampNeg dp.toNatClampNeg k.toNatClampNeg) rv sh' m') : Rn E y pc L [.int k, .int dp, .ref n, .int sp, .ref 1003] sh m rv sh' m' := by
  subst hq
  refine Rn.mw (fun p l e R s mid args below meth c D κ A ρ H locs cells slots ls Q C hl hP hD hS kk => ?_) kk
  have hlo2 : nativeFrameWords "java/lang/System" "arraycopy" 5 + 11 = 18 := by decide
  refine zcopyT C.1 C.2.1 (by rw [hl.1]; exact C.2.2.1) C.2.2.2.1 (C.2.2.2.2.1 _ hw) (C.2.2.2.2.1 _ hw1) (C.2.2.2.2.1 _ hw2) (C.2.2.2.2.1 _ hw3) C.2.2.2.2.2.1 hP hD hS (f := zxs 1003) C.2.2.2.2.2.2.2.2.2.1.2.2.2.2 n 0 (zw_get ho) rfl h1 h2 h3 h4 h5 (Nat.le_trans hfr C.2.2.2.2.2.2.2.2.2.2.1) (by rw [hlo2]; exact Nat.le_trans hlo C.2.2.2.2.2.2.2.2.2.2.2.1) hd (fun H1 locs1 hP1 hD1 hS1 => ?_)
  have e : (zw ρ κ m sh).set n (ρ n, .inl (κ 0, len, .inl (va_cpy (zxs 1003) (m.1 n) sp.toNatClampNeg dp.toNatClampNeg k.toNatClampNeg))) = zw ρ κ (zcp m (zxs 1003) n sp.toNatClampNeg dp.toNatClampNeg k.toNatClampNeg) sh := by
    rw [← zw_set ho (zcp_off m (zxs 1003) n sp.toNatClampNeg dp.toNatClampNeg k.toNatClampNeg)]
    show _ = (zw ρ κ m sh).set n (ρ n, .inl (κ 0, len, .inl ((zcp m (zxs 1003) n sp.toNatClampNeg dp.toNatClampNeg k.toNatClampNeg).1 n)))
    have hr : (zcp m (zxs 1003) n sp.toNatClampNeg dp.toNatClampNeg k.toNatClampNeg).1 n = va_cpy (zxs 1003) (m.1 n) sp.toNatClampNeg dp.toNatClampNeg k.toNatClampNeg := by
      funext j
      simp [zcp]
    rw [hr]
  rw [e] at hP1 hD1
  exact kk H1 locs1 hP1 hD1 hS1
end ZRULES4
end
section
/-! ===== contracts and calls ===== -/
def zfit (r : Option FieldType) (rv : Option Value) : Prop := match r, rv with
  | none, none => True
  | some ty, some (.int v) => narrow ty (.int v) = .int v
  | some .long, some (.long _) => True
  | _, _ => False
def zents (vs : List Value) : List (Option Value) := vs.flatMap (fun v => if v.category = 2 then [some v, none] else [some v])
theorem zents_in (ρ : Nat → Nat) (k : Nat) : ∀ (vs : List Value) (i j : Nat) (w : Value), (zents vs ++ List.replicate k none)[j]? = some (some w) → (i + j, zv ρ w) ∈ lv_args i (vs.map (zv ρ))
  | [], i, j, w, h => by
    simp only [zents, List.flatMap_nil, List.nil_append] at h
    have := List.mem_of_getElem? h
    rw [List.mem_replicate] at this
    cases this.2
  | v :: vs, i, j, w, h => by
    by_cases hc : v.category = 2
    · have e : zents (v :: vs) = some v :: none :: zents vs := by simp [zents, hc]
      rw [e] at h
      show (i + j, zv ρ w) ∈ (i, zv ρ v) :: lv_args (if (zv ρ v).category = 2 then i + 2 else i + 1) (vs.map (zv ρ))
      rw [zv_cat, if_pos hc]
      match j, h with
      | 0, h => cases h; exact List.mem_cons_self
      | 1, h => cases h
      | j + 2, h =>
        have := zents_in ρ k vs (i + 2) j w h
        rw [show i + 2 + j = i + (j + 2) by omega] at this
        exact List.mem_cons_of_mem _ this
    · have e : zents (v :: vs) = some v :: zents vs := by simp [zents, hc]
      rw [e] at h
      show (i + j, zv ρ w) ∈ (i, zv ρ v) :: lv_args (if (zv ρ v).category = 2 then i + 2 else i + 1) (vs.map (zv ρ))
      rw [zv_cat, if_neg hc]
      match j, h with
      | 0, h => cases h; exact List.mem_cons_self
      | j + 1, h =>
        have := zents_in ρ k vs (i + 1) j w h
        rw [show i + 1 + j = i + (j + 1) by omega] at this
        exact List.mem_cons_of_mem _ this
theorem zents_len (ρ : Nat → Nat) : ∀ (vs : List Value), (lg_sl (vs.map (zv ρ))).length = (zents vs).length
  | [] => rfl
  | v :: vs => by
    have ih := zents_len ρ vs
    unfold lg_sl zents at ih ⊢
    rw [List.map_cons, List.flatMap_cons, List.flatMap_cons, List.length_append, List.length_append, ih, zv_cat]
    by_cases hc : v.category = 2
    · rw [if_pos hc, if_pos hc]; rfl
    · rw [if_neg hc, if_neg hc]; rfl
/-- the method's contract, at these arguments and cells -/
def zMet (E : Nat × (Nat → Int32)) (y : zY) (vs : List Value) (sh : List zS) (m : zM) (rv : Option Value) (sh' : List zS) (m' : zM) : Prop :=
  sh.length ≤ sh'.length ∧ zsz sh ≤ zsz sh' ∧ zfit y.2.2.2.1 rv ∧ ∀ (l : Launch) (D : va_G) (κ : Nat → ClassId) (ρ : Nat → Nat) (sz : Nat),
   Met l y.1 (Cond.code y.1 y.2.1 y.2.2.1 y.2.2.2.1 :: zALL) ({ frames := y.2.2.2.2.1, cells := sh'.length - sh.length, slots := zsz sh' - zsz sh, locals := y.2.2.2.2.2 })
    (va_Pc (vs.map (zv ρ)) (fun U => U.heap.size = sz ∧ va_P D vwCl (zw ρ κ m sh) U.heap ∧ va_K D vwCl (zt κ) U ∧ va_D (fun _ => True) (zw ρ κ m sh) ∧ zQ κ U ∧ zNw U ∧ zX E ρ (va_A (zw ρ κ m sh) sz) U))
    (fun _ st oc t => (∃ ρ' : Nat → Nat, zsm ρ ρ' sh sh' ∧ oc = .returned rv ∧ va_P D vwCl (zw ρ' κ m' sh') t.heap ∧ va_D (va_A (zw ρ κ m sh) sz) (zw ρ' κ m' sh')) ∧ va_F (va_A (zw ρ κ m sh) sz) st t)
    (sh'.length - sh.length) (zsz sh' - zsz sh) (va_A (zw ρ κ m sh) sz)
theorem zMet.of {E : Nat × (Nat → Int32)} {y : zY} {vs : List Value} {L0 : List (Option Value)} {sh sh' : List zS} {m m' : zM} {rv : Option Value} (hp : plainName y.1.cls = true) (hf : zfit y.2.2.2.1 rv) (hn : (zents vs).length ≤ y.2.2.1) (hL : zents vs ++ List.replicate (y.2.2.1 - (zents vs).length) none = L0) (h : Rn E y 0 L0 [] sh m rv sh' m') : zMet E y vs sh m rv sh' m' := by
  subst hL
  refine ⟨h.1, h.2.1, hf, fun l D κ ρ sz => ?_⟩
  refine Met.ofW (cc := y.2.1) (maxL := y.2.2.1) (ret := y.2.2.2.1) hp rfl ?_
  intro p e s mid args below meth c s₁ B hml hv
  obtain ⟨rfl, hsz, hP, hK, hD0, hQ, hN, hX⟩ := hv
  subst hsz
  have hx := B.exec
  have hb := B.bytes
  have hr := B.returns
  have hts := atoms_spec (ws := Cond.code y.1 y.2.1 y.2.2.1 y.2.2.2.1 :: zALL) B.pre
  have hown : s.vm.findClass y.1.cls = some mid.cls := findClass_of_methodNamed B.named
  have hlocks := B.notSynchronized
  have hD := hD0.self (sz := s.heap.size)
  have hin : y.1.name = "<init>" → meth.name = "<init>" := fun h => (name_of_methodNamed B.named B.method).1.trans h
  have hl := lv_entry (vs.map (zv ρ)) (n := y.2.2.1) (by rw [zents_len]; exact hn)
  rw [lg_entry_eq]
  generalize (lg_sl (vs.map (zv ρ)) ++ List.replicate (y.2.2.1 - (lg_sl (vs.map (zv ρ))).length) Slot.unset).toArray = ls at hl ⊢
  have hl2 := lv_mono hl (fun q hq => by
    obtain ⟨w, h1, h2⟩ := zL_mem.mp hq
    have := zents_in ρ _ vs 0 q.1 w h1
    rw [Nat.zero_add, ← h2] at this
    exact this : ∀ q ∈ zL ρ (zents vs ++ List.replicate (y.2.2.1 - (zents vs).length) none), q ∈ lv_args 0 (vs.map (zv ρ)))
  refine h.2.2 p l e _ s mid _ below meth c D κ (va_A (zw ρ κ m sh) s.heap.size) ρ s.heap [] 0 0 ls _ ⟨hx, hb, hml, hown, fun w h => hts w (List.mem_cons_of_mem _ h), hK, hQ, fun q h => Or.inr h, hN, hX, Nat.le_refl _, Nat.le_refl _, hin⟩ hl2 hP hD va_S.rf ?_ ?_ ?_
  · show 0 + sh'.length ≤ (sh'.length - sh.length) + sh.length
    have := h.1
    omega
  · show 0 + zsz sh' ≤ (zsz sh' - zsz sh) + zsz sh
    have := h.2.1
    omega
  · intro ρ' H' locs' ls' pc' cells' slots' hsm hret hP' hD' hS' hc hs
    have e1 : cells' = sh'.length - sh.length := by have := h.1; omega
    have e2 : slots' = zsz sh' - zsz sh := by have := h.2.1; omega
    subst e1
    subst e2
    match rv, hret, hf with
    | none, hret, hf =>
      have hr2 : meth.sig.returnType = none := by
        rw [hr]
        cases hq : y.2.2.2.1 with
        | none => rfl
        | some ty => rw [hq] at hf; cases ty <;> exact absurd hf (by simp [zfit])
      exact W.vret hx hb hr2 (fun t ht hw => ⟨⟨ρ', hsm, rfl, by rw [ht]; exact hP', hD'⟩, hS'.F ht⟩) (fun q hq => hS'.2.2 q hq) hret hlocks
    | some (.int v), hret, hf =>
      cases hq : y.2.2.2.1 with
      | none => rw [hq] at hf; exact absurd hf (by simp [zfit])
      | some ty =>
        have hn2 : narrow ty (.int v) = .int v := by rw [hq] at hf; cases ty <;> exact hf
        exact W.zret hx hb (hr.trans hq) hn2 (fun t ht hw => ⟨⟨ρ', hsm, rfl, by rw [ht]; exact hP', hD'⟩, hS'.F ht⟩) (fun q hq => hS'.2.2 q hq) hret hlocks
    | some (.long v), hret, hf =>
      have hr2 : meth.sig.returnType = some .long := by
        rw [hr]
        cases hq : y.2.2.2.1 with
        | none => rw [hq] at hf; exact absurd hf (by simp [zfit])
        | some ty => rw [hq] at hf; cases ty <;> first | rfl | exact absurd hf (by simp [zfit])
      exact W.lret hx hb hr2 (fun t ht hw => ⟨⟨ρ', hsm, rfl, by rw [ht]; exact hP', hD'⟩, hS'.F ht⟩) (fun q hq => hS'.2.2 q hq) hret hlocks
theorem zfit_rv {r : Option FieldType} {rv : Option Value} (h : zfit r rv) (ρ : Nat → Nat) : rv.toList.map (zv ρ) = rv.toList := by
  cases rv with
  | none => rfl
  | some v =>
    cases v with
    | int x => rfl
    | long x => rfl
    | _ =>
      cases r with
      | none => exact absurd h (by simp [zfit])
      | some ty => cases ty <;> exact absurd h (by simp [zfit])
/-! what a caller keeps -/
def zok (n : Nat) (v : Value) : Bool := match v with
  | .ref a => decide (a < n) || decide (1000 ≤ a)
  | _ => true
theorem zok_eq {n : Nat} {v : Value} {ρ ρ' : Nat → Nat} (h : ∀ i, i < n ∨ 1000 ≤ i → ρ' i = ρ i) (hv : zok n v = true) : zv ρ' v = zv ρ v := by
  cases v with
  | ref a =>
    have : a < n ∨ 1000 ≤ a := by simpa [zok] using hv
    show Value.ref (ρ' a) = Value.ref (ρ a)
    rw [h a this]
  | _ => rfl
theorem zok_st {n : Nat} {st : List Value} {ρ ρ' : Nat → Nat} (h : ∀ i, i < n ∨ 1000 ≤ i → ρ' i = ρ i) (hv : st.all (zok n) = true) : st.map (zv ρ') = st.map (zv ρ) :=
  List.map_congr_left (fun v hm => zok_eq h (List.all_eq_true.mp hv v hm))
def zokL (n : Nat) (L : List (Option Value)) : Bool := L.all (fun o => match o with
  | some v => zok n v
  | none => true)
theorem zok_L {n : Nat} {L : List (Option Value)} {ρ ρ' : Nat → Nat} (h : ∀ i, i < n ∨ 1000 ≤ i → ρ' i = ρ i) (hv : zokL n L = true) : zL ρ' L = zL ρ L := by
  unfold zL
  congr 1
  funext j
  cases hj : L[j]? with
  | none => rfl
  | some o =>
    cases o with
    | none => rfl
    | some v =>
      have := List.all_eq_true.mp hv (some v) (List.mem_of_getElem? hj)
      show some (j, zv ρ' v) = some (j, zv ρ v)
      rw [zok_eq h this]
section ZCALL
variable {E : Nat × (Nat → Int32)} {y y2 : zY} {pc q i : Nat} {L L' : List (Option Value)} {S st vs : List Value} {sh sh2 sh' : List zS} {m m2 m' : zM} {rv rv2 : Option Value}
/-- behind a call -/
theorem Rn.call (hm1 : sh.length ≤ sh2.length) (hm2 : zsz sh ≤ zsz sh2) (hok : sh2.length = sh.length ∨ (st.all (zok sh.length) && zokL sh.length L) = true) (hrv : ∀ ρ : Nat → Nat, rv2.toList.map (zv ρ) = rv2.toList)
   (h : ∀ (p : Program) (l : Launch) (e : Env) (R : Room) (s : State) (mid : MethodId) (args : Array Value) (below : List Frame) (meth : Method) (c : Code) (D : va_G) (κ : Nat → ClassId) (A : Nat → Prop) (ρ : Nat → Nat) (H : Heap) (locs : List Loc) (cells slots : Nat) (ls : Array Slot),
   zC E p R s mid args meth c y D κ A ρ → lv_has ls y.2.2.1 (zL ρ L) → va_P D vwCl (zw ρ κ m sh) H → va_D A (zw ρ κ m sh) → va_S A s.heap H locs → (∀ q, va_A (zw ρ κ m sh) H.size q → A q) → cells + (sh2.length - sh.length) ≤ R.cells ∧ slots + (zsz sh2 - zsz sh) ≤ R.slots →
   va_Run p l e R s mid args below meth c H locs cells slots (sh2.length - sh.length) (zsz sh2 - zsz sh) (F0 mid pc ls (S.map (zv ρ))) (st.map (zv ρ)) (fun st oc t => (∃ ρ' : Nat → Nat, zsm ρ ρ' sh sh2 ∧ oc = .returned rv2 ∧ va_P D vwCl (zw ρ' κ m2 sh2) t.heap ∧ va_D (va_A (zw ρ κ m sh) H.size) (zw ρ' κ m2 sh2)) ∧ va_F (va_A (zw ρ κ m sh) H.size) st t) (va_A (zw ρ κ m sh) H.size))
   (k : Rn E y (pc + 3) L (rv2.toList ++ st) sh2 m2 rv sh' m') : Rn E y pc L S sh m rv sh' m' := by
  have k1 := k.1
  have k2 := k.2.1
  refine ⟨Nat.le_trans hm1 k1, Nat.le_trans hm2 k2, fun p l e R s mid args below meth c D κ A ρ H locs cells slots ls Q C hl hP hD hS hc hs kk => ?_⟩
  have hA := C.2.2.2.2.2.2.2.1
  have hFc : ∀ q, va_A (zw ρ κ m sh) H.size q → A q := by
    intro q hq
    rcases hq with ⟨j, e, hj⟩ | hq
    · exact hD.2 j (q, e) hj
    · exact hA q (Nat.le_trans hS.1 hq)
  have run := h p l e R s mid args below meth c D κ A ρ H locs cells slots ls C hl hP hD hS hFc ⟨by omega, by omega⟩
  intro T hT X
  obtain ⟨v, st₀, t, T', L', h0, X', hL, e1, e2, ⟨⟨ρ', hsm, hv, hP1, hD1⟩, hz, hkp⟩, stp⟩ := run T hT X
  cases hv
  rw [h0] at hz hkp
  rw [← e1] at hP1 hz hkp
  have hS1 : va_S A s.heap T'.heap (locs ++ L') := ⟨Nat.le_trans hS.1 hz, fun q g1 g2 => by
      rw [hkp q (Nat.lt_of_lt_of_le g1 hS.1) (fun z => g2 (hFc q z))]
      exact hS.2.1 q g1 g2, fun q hq => by
      rcases List.mem_append.mp hq with g | g
      · exact hS.2.2 q g
      · exact hFc _ (hL q g)⟩
  have hst : st.map (zv ρ') = st.map (zv ρ) := by
    rcases hok with hok | hok
    · rw [hsm.2 hok]
    · exact zok_st hsm.1 (Bool.and_eq_true_iff.mp hok).1
  have hLL : zL ρ' L = zL ρ L := by
    rcases hok with hok | hok
    · rw [hsm.2 hok]
    · exact zok_L hsm.1 (Bool.and_eq_true_iff.mp hok).2
  have C' : zC E p R s mid args meth c y D κ A ρ' := by
    obtain ⟨c1, c2, c3, c4, c5, c6, c7, c8, c9, c10, c11⟩ := C
    exact ⟨c1, c2, c3, c4, c5, c6, c7, c8, c9, c10.ext (fun i hi => hsm.1 i (Or.inr hi)), c11⟩
  have K := k.2.2 p l e R s mid args below meth c D κ A ρ' T'.heap (locs ++ L') (cells + (sh2.length - sh.length)) (slots + (zsz sh2 - zsz sh)) ls Q C' (by rw [hLL]; exact hl) hP1 (hD1.weaken (fun _ q _ g => hFc q.1 g)) hS1 (by omega) (by omega) (fun ρ2 H2 locs2 ls2 pc2 cells2 slots2 hsm2 hret2 hP2 hD2 hS2 hc2 hs2 => kk ρ2 H2 locs2 ls2 pc2 cells2 slots2 ⟨fun i hi => (hsm2.1 i (by omega)).trans (hsm.1 i hi), fun hh => (hsm2.2 (by omega)).trans (hsm.2 (by omega))⟩ hret2 hP2 hD2 hS2 (by omega) (by omega))
  rw [List.map_append, hrv ρ', hst] at K
  obtain ⟨t2, a1, b1⟩ := K T' rfl X'
  exact ⟨t2, stp t2 a1, b1⟩
theorem zALL_GoodIn {ws : List Cond} (h : ∀ w ∈ ws, w ∈ zALL) : GoodIn zALL ws := fun w hw => ⟨h w hw, good_of_word (zALL_good w (h w hw))⟩
/-- what a call needs of the tables: the method's class is no handle, it takes n arguments, its code is known -/
def zcB (y2 : zY) (n : Nat) : Prop := (y2.1.cls ≠ "java/lang/invoke/MethodHandle" ∧ y2.1.cls ≠ "java/lang/invoke/VarHandle" ∧ (parseMethodDescriptor y2.1.desc).map (fun d => d.parameters.length) = some n) ∧ Cond.code y2.1 y2.2.1 y2.2.2.1 y2.2.2.2.1 ∈ zALL ∧ Cond.initialized y2.1.cls ∈ zALL
/-- the callee's room within the caller's -/
def zrm (y y2 : zY) : Prop := y2.2.2.2.2.1 + 1 ≤ y.2.2.2.2.1 ∧ 8 + (y2.2.2.1 + 11) + y2.2.2.2.2.2 ≤ y.2.2.2.2.2
theorem zblind {E : Nat × (Nat → Int32)} {y : zY} {sh : List zS} {m : zM} {D : va_G} {κ : Nat → ClassId} {ρ : Nat → Nat} {sz : Nat} {vs : List Value} : FrameBlind (va_Pc (vs.map (zv ρ)) (fun U => U.heap.size = sz ∧ va_P D vwCl (zw ρ κ m sh) U.heap ∧ va_K D vwCl (zt κ) U ∧ va_D (fun _ => True) (zw ρ κ m sh) ∧ zQ κ U ∧ zNw U ∧ zX E ρ (va_A (zw ρ κ m sh) sz) U)) := by
  intro a U g mk h
  obtain ⟨h1, h2, h3, h4, h5, h6, h7, h8⟩ := h
  have hv : U.vm.Alike (U.calling g mk a).vm := Vm.Alike.refl U.vm
  obtain ⟨⟨x1, x2, x3⟩, ⟨a1, a2⟩, ⟨b1, b2⟩, c1, c2⟩ := h8
  refine ⟨h1, h2, h3, va_K.moved (u := U) (U := U.calling g mk a) hv h4, h5, zQ.moved (u := U) (U := U.calling g mk a) hv h6, ?_, ⟨x1.moved (u := U) (U := U.calling g mk a) hv, x2, x3⟩, ⟨a1.moved (u := U) (U := U.calling g mk a) hv, a2.moved (u := U) (U := U.calling g mk a) hv⟩, ⟨b1.moved (u := U) (U := U.calling g mk a) hv, b2.moved (u := U) (U := U.calling g mk a) hv⟩, c1.moved (u := U) (U := U.calling g mk a) hv, c2.moved (u := U) (U := U.calling g mk a) hv⟩
  exact ⟨fun q hq => va_tabs rfl (rfl : U.vm = (U.calling g mk a).vm) (h7.1 q hq), va_tabs rfl (rfl : U.vm = (U.calling g mk a).vm) h7.2.1, h7.2.2.moved (U := U.calling g mk a) hv⟩
theorem zpre {E : Nat × (Nat → Int32)} {y : zY} {p : Program} {R : Room} {s U : State} {mid : MethodId} {args : Array Value} {meth : Method} {c : Code} {D : va_G} {κ : Nat → ClassId} {A : Nat → Prop} {ρ : Nat → Nat} {H : Heap} {locs : List Loc} {sh : List zS} {m : zM} {vs : List Value} (C : zC E p R s mid args meth c y D κ A ρ) (hP : va_P D vwCl (zw ρ κ m sh) H) (hD : va_D A (zw ρ κ m sh)) (hS : va_S A s.heap H locs) (hFc : ∀ q, va_A (zw ρ κ m sh) H.size q → A q) (hU : U.heap = H) (hW : s.WarmedH U.vm) :
    va_Pc (vs.map (zv ρ)) (fun U => U.heap.size = H.size ∧ va_P D vwCl (zw ρ κ m sh) U.heap ∧ va_K D vwCl (zt κ) U ∧ va_D (fun _ => True) (zw ρ κ m sh) ∧ zQ κ U ∧ zNw U ∧ zX E ρ (va_A (zw ρ κ m sh) H.size) U) (vs.map (zv ρ)).toArray U := by
  obtain ⟨c1, c2, c3, c4, c5, c6, c7, c8, c9, c10, c11⟩ := C
  exact ⟨rfl, by rw [hU], by rw [hU]; exact hP, va_K.moved hW.alike c6, hD.weaken (fun _ _ _ _ => trivial), c7.moved hW.alike, c9.warm hW, c10.call hW.alike hS hU hFc⟩
theorem zcat_sum {ρ : Nat → Nat} {st : List Value} (h : (st.map fun v => v.category).sum ≤ 8) : ((st.map (zv ρ)).map fun v => v.category).sum ≤ 8 := by
  have e : (st.map (zv ρ)).map (fun v => v.category) = st.map (fun v => v.category) := by
    rw [List.map_map]
    exact List.map_congr_left (fun v _ => zv_cat ρ v)
  rw [e]
  exact h
/-- invokevirtual -/
theorem zc_V {n ci : Nat} {rs : List (Option Nat)} {r : vw_C} (hM : zMet E y2 (.ref n :: vs) sh m rv2 sh2 m2) (hd : decode y.2.1 pc = .ok (.invokevirtual i, 3)) (hB : zcB y2 vs.length) (h1 : Cond.methodLink y.1.cls i y2.1 ∈ zALL) (h2 : Cond.instanceMethod y2.1 ∈ zALL) (h3 : Cond.selects y2.1.cls y2.1 y2.1 ∈ zALL) (hR : zrm y y2) (ho : sh[n]? = some (.inr (ci, rs))) (hcl : vwCl[ci]? = some r) (hc2 : r.1 = y2.1.cls) (hS : S = vs.reverse ++ .ref n :: st) (hst : (st.map fun v => v.category).sum ≤ 8) (hok : sh2.length = sh.length ∨ (st.all (zok sh.length) && zokL sh.length L) = true) (hq : pc + 3 = q)
    (k : Rn E y q L (rv2.toList ++ st) sh2 m2 rv sh' m') : Rn E y pc L S sh m rv sh' m' := by
  subst hq
  subst hS
  refine Rn.call hM.1 hM.2.1 hok (zfit_rv hM.2.2.1) (fun p l e R s mid args below meth c D κ A ρ H locs cells slots ls C hl hP hD hSs hFc hf => ?_) k
  have hG : GoodIn zALL (wsV y.1.cls i y2.1.cls y2.1 (Cond.code y2.1 y2.2.1 y2.2.2.1 y2.2.2.2.1 :: zALL)) := zALL_GoodIn (fun w hw => by
    simp only [wsV, List.cons_append, List.nil_append, List.mem_cons] at hw
    rcases hw with rfl | rfl | rfl | rfl | rfl | hw
    · exact h1
    · exact h2
    · exact h3
    · exact hB.2.2
    · exact hB.2.1
    · exact hw)
  have cw := cwV (R := R) (rm := { frames := y2.2.2.2.2.1, cells := sh2.length - sh.length, slots := zsz sh2 - zsz sh, locals := y2.2.2.2.2.2 }) (mc := sh2.length - sh.length) (ms := zsz sh2 - zsz sh) vs.length C.2.2.2.2.1 hG rfl rfl rfl ⟨rfl, hB.1⟩ ⟨Nat.le_trans hR.1 C.2.2.2.2.2.2.2.2.2.2.1, Nat.le_trans hR.2 C.2.2.2.2.2.2.2.2.2.2.2.1⟩
  have recv := va_recv (q := r) C.2.2.2.2.2.1 hP hcl (zw_get ho)
  rw [hc2] at recv
  exact va_runV (As := vs.map (zv ρ)) (rest := st.map (zv ρ)) ⟨C.1, C.2.1, C.2.2.1, C.2.2.2.1, C.2.2.2.2.1⟩ (hM.2.2.2 l D κ ρ H.size) cw ⟨zblind (y := y), recv, fun U hU hW => zpre (vs := .ref n :: vs) C hP hD hSs hFc hU hW⟩ rfl (by rw [List.length_map]) hl.1 (by show ((vs.reverse ++ .ref n :: st).map (zv ρ)) = _; rw [List.map_append, List.map_reverse]; rfl) (lv_room (zcat_sum hst)) hd hf
/-- invokestatic -/
theorem zc_S (hM : zMet E y2 vs sh m rv2 sh2 m2) (hd : decode y.2.1 pc = .ok (.invokestatic i, 3)) (hB : zcB y2 vs.length) (h1 : Cond.methodLink y.1.cls i y2.1 ∈ zALL) (h2 : Cond.static y2.1 ∈ zALL) (hR : zrm y y2) (hS : S = vs.reverse ++ st) (hst : (st.map fun v => v.category).sum ≤ 8) (hok : sh2.length = sh.length ∨ (st.all (zok sh.length) && zokL sh.length L) = true) (hq : pc + 3 = q)
    (k : Rn E y q L (rv2.toList ++ st) sh2 m2 rv sh' m') : Rn E y pc L S sh m rv sh' m' := by
  subst hq
  subst hS
  refine Rn.call hM.1 hM.2.1 hok (zfit_rv hM.2.2.1) (fun p l e R s mid args below meth c D κ A ρ H locs cells slots ls C hl hP hD hSs hFc hf => ?_) k
  have hG : GoodIn zALL (va_wsS y.1.cls i y2.1 (Cond.code y2.1 y2.2.1 y2.2.2.1 y2.2.2.2.1 :: zALL)) := zALL_GoodIn (fun w hw => by
    simp only [va_wsS, List.cons_append, List.nil_append, List.mem_cons] at hw
    rcases hw with rfl | rfl | rfl | rfl | hw
    · exact h1
    · exact h2
    · exact hB.2.2
    · exact hB.2.1
    · exact hw)
  have cw := va_cwS (R := R) (rm := { frames := y2.2.2.2.2.1, cells := sh2.length - sh.length, slots := zsz sh2 - zsz sh, locals := y2.2.2.2.2.2 }) (mc := sh2.length - sh.length) (ms := zsz sh2 - zsz sh) vs.length C.2.2.2.2.1 hG rfl rfl rfl hB.1 ⟨Nat.le_trans hR.1 C.2.2.2.2.2.2.2.2.2.2.1, Nat.le_trans hR.2 C.2.2.2.2.2.2.2.2.2.2.2.1⟩
  exact va_runS (As := vs.map (zv ρ)) (rest := st.map (zv ρ)) ⟨C.1, C.2.1, C.2.2.1, C.2.2.2.1, C.2.2.2.2.1⟩ (hM.2.2.2 l D κ ρ H.size) cw ⟨zblind (y := y), fun U hU hW => zpre C hP hD hSs hFc hU hW⟩ rfl (by rw [List.length_map]) hl.1 (by show ((vs.reverse ++ st).map (zv ρ)) = _; rw [List.map_append, List.map_reverse]) (lv_room (zcat_sum hst)) hd hf
/-- invokestatic of a nest mate -/
theorem zc_SN {host : String} (hM : zMet E y2 vs sh m rv2 sh2 m2) (hd : decode y.2.1 pc = .ok (.invokestatic i, 3)) (hB : zcB y2 vs.length) (h1 : (y.1.cls, i, y2.1, host) ∈ zNm) (h2 : Cond.static y2.1 ∈ zALL) (hR : zrm y y2) (hS : S = vs.reverse ++ st) (hst : (st.map fun v => v.category).sum ≤ 8) (hok : sh2.length = sh.length ∨ (st.all (zok sh.length) && zokL sh.length L) = true) (hq : pc + 3 = q)
    (k : Rn E y q L (rv2.toList ++ st) sh2 m2 rv sh' m') : Rn E y pc L S sh m rv sh' m' := by
  subst hq
  subst hS
  refine Rn.call hM.1 hM.2.1 hok (zfit_rv hM.2.2.1) (fun p l e R s mid args below meth c D κ A ρ H locs cells slots ls C hl hP hD hSs hFc hf => ?_) k
  have hG : GoodIn zALL (Cond.code y2.1 y2.2.1 y2.2.2.1 y2.2.2.2.1 :: zALL) := zALL_GoodIn (fun w hw => by
    rcases List.mem_cons.mp hw with rfl | hw
    · exact hB.2.1
    · exact hw)
  have cw := va_cnB (R := R) (rm := { frames := y2.2.2.2.2.1, cells := sh2.length - sh.length, slots := zsz sh2 - zsz sh, locals := y2.2.2.2.2.2 }) (mc := sh2.length - sh.length) (ms := zsz sh2 - zsz sh) vs.length C.2.2.2.2.1 hG rfl rfl rfl (C.2.2.2.2.2.2.2.2.1.1 _ h1) (C.2.2.2.2.1 _ hB.2.2) hB.1 ⟨Nat.le_trans hR.1 C.2.2.2.2.2.2.2.2.2.2.1, Nat.le_trans hR.2 C.2.2.2.2.2.2.2.2.2.2.2.1⟩
  exact va_runSN (As := vs.map (zv ρ)) (rest := st.map (zv ρ)) ⟨C.1, C.2.1, C.2.2.1, C.2.2.2.1, C.2.2.2.2.1⟩ (hM.2.2.2 l D κ ρ H.size) ⟨cw, C.2.2.2.2.1 _ h2, trivial⟩ ⟨zblind (y := y), fun U hU hW => zpre C hP hD hSs hFc hU hW⟩ rfl (by rw [List.length_map]) hl.1 (by show ((vs.reverse ++ st).map (zv ρ)) = _; rw [List.map_append, List.map_reverse]) (lv_room (zcat_sum hst)) hd hf
/-- invokespecial of a constructor -/
theorem zc_I {n : Nat} (hM : zMet E y2 (.ref n :: vs) sh m none sh2 m2) (hret : y2.2.2.2.1 = none) (hd : decode y.2.1 pc = .ok (.invokespecial i, 3)) (hB : zcB y2 vs.length) (h1 : Cond.methodLink y.1.cls i y2.1 ∈ zALL) (h2 : Cond.instanceMethod y2.1 ∈ zALL) (h3 : y2.1.name = "<init>") (hR : zrm y y2) (hS : S = vs.reverse ++ .ref n :: st) (hst : (st.map fun v => v.category).sum ≤ 8) (hok : sh2.length = sh.length ∨ (st.all (zok sh.length) && zokL sh.length L) = true) (hq : pc + 3 = q)
    (k : Rn E y q L st sh2 m2 rv sh' m') : Rn E y pc L S sh m rv sh' m' := by
  subst hq
  subst hS
  refine Rn.call (rv2 := none) hM.1 hM.2.1 hok (fun _ => rfl) (fun p l e R s mid args below meth c D κ A ρ H locs cells slots ls C hl hP hD hSs hFc hf => ?_) k
  have hG : GoodIn zALL (Cond.code y2.1 y2.2.1 y2.2.2.1 y2.2.2.2.1 :: zALL) := zALL_GoodIn (fun w hw => by
    rcases List.mem_cons.mp hw with rfl | hw
    · exact hB.2.1
    · exact hw)
  have cw := cwI (R := R) (rm := { frames := y2.2.2.2.2.1, cells := sh2.length - sh.length, slots := zsz sh2 - zsz sh, locals := y2.2.2.2.2.2 }) (mc := sh2.length - sh.length) (ms := zsz sh2 - zsz sh) vs.length C.2.2.2.2.1 hG (by rw [hret]) rfl rfl (C.2.2.2.2.1 _ hB.2.2) (C.2.2.2.2.1 _ h1) (C.2.2.2.2.1 _ h2) h3 hB.1 ⟨Nat.le_trans hR.1 C.2.2.2.2.2.2.2.2.2.2.1, Nat.le_trans hR.2 C.2.2.2.2.2.2.2.2.2.2.2.1⟩
  exact va_runI (As := vs.map (zv ρ)) (rest := st.map (zv ρ)) ⟨C.1, C.2.1, C.2.2.1, C.2.2.2.1, C.2.2.2.2.1⟩ (hM.2.2.2 l D κ ρ H.size) cw ⟨zblind (y := y), fun U hU hW => zpre (vs := .ref n :: vs) C hP hD hSs hFc hU hW⟩ rfl (by rw [List.length_map]) hl.1 (by show ((vs.reverse ++ .ref n :: st).map (zv ρ)) = _; rw [List.map_append, List.map_reverse]; rfl) (lv_room (zcat_sum hst)) hd hf
/-- invokespecial of a nest mate's own constructor -/
theorem zc_IN {n : Nat} {host : String} (hM : zMet E y2 (.ref n :: vs) sh m none sh2 m2) (hret : y2.2.2.2.1 = none) (hd : decode y.2.1 pc = .ok (.invokespecial i, 3)) (hB : zcB y2 vs.length) (h1 : (y.1.cls, i, y2.1, host) ∈ zNm) (h2 : Cond.instanceMethod y2.1 ∈ zALL) (h3 : y2.1.name = "<init>") (hR : zrm y y2) (hS : S = vs.reverse ++ .ref n :: st) (hst : (st.map fun v => v.category).sum ≤ 8) (hok : sh2.length = sh.length ∨ (st.all (zok sh.length) && zokL sh.length L) = true) (hq : pc + 3 = q)
    (k : Rn E y q L st sh2 m2 rv sh' m') : Rn E y pc L S sh m rv sh' m' := by
  subst hq
  subst hS
  refine Rn.call (rv2 := none) hM.1 hM.2.1 hok (fun _ => rfl) (fun p l e R s mid args below meth c D κ A ρ H locs cells slots ls C hl hP hD hSs hFc hf => ?_) k
  have hG : GoodIn zALL (Cond.code y2.1 y2.2.1 y2.2.2.1 y2.2.2.2.1 :: zALL) := zALL_GoodIn (fun w hw => by
    rcases List.mem_cons.mp hw with rfl | hw
    · exact hB.2.1
    · exact hw)
  have cw := va_cnB (R := R) (ret := none) (ws' := zALL) (rm := { frames := y2.2.2.2.2.1, cells := sh2.length - sh.length, slots := zsz sh2 - zsz sh, locals := y2.2.2.2.2.2 }) (mc := sh2.length - sh.length) (ms := zsz sh2 - zsz sh) vs.length C.2.2.2.2.1 hG (by rw [hret]) rfl rfl (C.2.2.2.2.2.2.2.2.1.1 _ h1) (C.2.2.2.2.1 _ hB.2.2) hB.1 ⟨Nat.le_trans hR.1 C.2.2.2.2.2.2.2.2.2.2.1, Nat.le_trans hR.2 C.2.2.2.2.2.2.2.2.2.2.2.1⟩
  exact va_runIN (As := vs.map (zv ρ)) (rest := st.map (zv ρ)) ⟨C.1, C.2.1, C.2.2.1, C.2.2.2.1, C.2.2.2.2.1⟩ (hM.2.2.2 l D κ ρ H.size) ⟨cw, h3, C.2.2.2.2.1 _ h2⟩ ⟨zblind (y := y), fun U hU hW => zpre (vs := .ref n :: vs) C hP hD hSs hFc hU hW⟩ rfl (by rw [List.length_map]) hl.1 (by show ((vs.reverse ++ .ref n :: st).map (zv ρ)) = _; rw [List.map_append, List.map_reverse]; rfl) (lv_room (zcat_sum hst)) hd hf
/-- Object's constructor -/
theorem zc_O {n : Nat} (hd : decode y.2.1 pc = .ok (.invokespecial i, 3)) (h1 : Cond.methodLink y.1.cls i objectInit ∈ zALL) (h2 : Cond.instanceMethod objectInit ∈ zALL) (h3 : Cond.code objectInit ⟨#[0xb1]⟩ 1 none ∈ zALL) (hfr : 1 ≤ y.2.2.2.2.1) (hlo : 20 ≤ y.2.2.2.2.2) (hst : (st.map fun v => v.category).sum ≤ 8) (hq : pc + 3 = q) (k : Rn E y q L st sh m rv sh' m') : Rn E y pc L (.ref n :: st) sh m rv sh' m' := by
  subst hq
  refine Rn.go (fun p l e R s mid args below meth c D κ A ρ H locs cells slots ls Q C hl hP hS k => ?_) k
  exact W.objInit C.1 C.2.1 C.2.2.2.1 (C.2.2.2.2.1 _ h1) (C.2.2.2.2.1 _ h2) (C.2.2.2.2.1 _ h3) rfl (hl.1.trans C.2.2.1.symm) (rest := st.map (zv ρ)) rfl hd (Nat.le_trans hfr C.2.2.2.2.2.2.2.2.2.2.1) (by
    have a := lv_room (m := mid) (pc := pc) (ls := ls) (rest := (Value.ref n :: st).map (zv ρ)) (zcat_sum (ρ := ρ) hst)
    have b := Nat.le_trans hlo C.2.2.2.2.2.2.2.2.2.2.2.1
    omega) k
end ZCALL
end
section
/-! ===== BEGIN new T[n][m]: the outer array a place, the inner ones among the pooled ===== -/
/-- f, but v at every address of l -/
def vr_up {α : Type} (f : Nat → α) (l : List Nat) (v : α) : Nat → α := fun a => if a ∈ l then v else f a
theorem vr_up_in {α : Type} {f : Nat → α} {l : List Nat} {v : α} {a : Nat} (h : a ∈ l) : vr_up f l v a = v := if_pos h
theorem vr_up_ne {α : Type} {f : Nat → α} {l : List Nat} {v : α} {a : Nat} (h : a ∉ l) : vr_up f l v a = f a := if_neg h
theorem vr_rows {L l : List Nat} {f : Nat → va_E} {e : va_E} (h : ∀ a, a ∈ l → a ∉ L) : va_pl L f ++ l.map (fun a => (a, e)) = va_pl (L ++ l) (vr_up f l e) := by
  unfold va_pl
  rw [List.map_append]
  congr 1
  · apply List.map_congr_left
    intro a ha
    rw [vr_up_ne (fun q => h a q ha)]
  · apply List.map_congr_left
    intro a ha
    rw [vr_up_in ha]
theorem vr_lay {X rows : va_W} {x : Nat × va_E} {pl : va_W} {D : va_G} {cl : List vw_C} {H : Heap} (hP : va_P D cl (((X ++ pl) ++ [x]) ++ rows) H) : va_P D cl ((X ++ [x]) ++ (pl ++ rows)) H := by
  rw [List.append_assoc (X ++ pl)] at hP
  have h := va_P.swap hP
  rw [← List.append_assoc X] at h
  have h2 := va_P.swap h
  rw [List.append_assoc (X ++ [x])] at h2
  exact h2
theorem vr_layD {X rows : va_W} {x : Nat × va_E} {pl : va_W} {A : Nat → Prop} (hD : va_D A (((X ++ pl) ++ [x]) ++ rows)) : va_D A ((X ++ [x]) ++ (pl ++ rows)) := by
  rw [List.append_assoc (X ++ pl)] at hD
  have h := va_D.swap hD
  rw [← List.append_assoc X] at h
  have h2 := va_D.swap h
  rw [List.append_assoc (X ++ [x])] at h2
  exact h2
theorem vr_outer (c : ClassId) (N h0 : Nat) : ∀ i : Nat, Jvm.Free.Multi.outerC c N h0 i = arrV c N (fun j => va_rf (if j < i then some (h0 + 1 + j) else none))
  | 0 => by
    show ({ cls := c, slots := Array.replicate N .null, vm := .none } : Cell) = _
    rw [arrV_new]
    refine congrArg (arrV c N) (funext fun j => ?_)
    simp [va_rf]
  | i + 1 => by
    show (Jvm.Free.Multi.outerC c N h0 i).setSlot i (.ref (h0 + 1 + i)) = _
    rw [vr_outer c N h0 i, arrV_store]
    refine congrArg (arrV c N) (funext fun j => ?_)
    by_cases e : j = i
    · subst e
      simp [updV, va_rf]
    · by_cases h : j < i
      · simp [updV, e, h, Nat.lt_succ_of_lt h]
      · simp [updV, e, h, show ¬ j < i + 1 by omega]
section VGM
variable {p : Program} {l : Launch} {e : Env} {R : Room} {s : State} {m : MethodId} {args : Array Value} {below : List Frame} {meth : Method} {c : Code} {H : Heap} {locs : List Loc} {cells slots : Nat} {Q : State → Prop}
variable {cc : ByteArray} {pc : Nat} {ls : Array Slot} {rest : List Value} {D : va_G} {cl : List vw_C} {A : Nat → Prop} {a : Nat} {tys : List (ClassId × FieldType)} {ws : va_W} {H0 : Heap}
theorem va_mna {X : va_W} {L : List Nat} {f : Nat → va_E} {cc : ByteArray} (hexec : p.tables.exec = Jvm.exec) (hb : c.code = cc) {own : String} {index : Nat} {ty : FieldType} {cy : ClassId} (hown : s.vm.findClass own = some m.cls) (hclink : (Cond.classLink own index ("[" ++ (FieldType.array ty).toString)).before args s = true) (hover : va_AOA ty s) (harr : (Cond.arrayClass ty).before args s = true) (hcy : s.vm.findClass (FieldType.array ty).toString = some cy)
    (hK : va_K D cl tys s) (hP : va_P D cl (X ++ va_pl L f) H) (hD : va_D A (X ++ va_pl L f)) (hS : va_S A H0 H locs) (hA : ∀ q, H0.size ≤ q → A q) {n k : Int32} {N' K' : Nat} {z : vp_A} (hn : ¬ n < 0) (hk : ¬ k < 0) (hN : n.toNatClampNeg = N') (hM : k.toNatClampNeg = K')
    (hb1 : N' * 4 ≤ 536870912) (hb2 : K' * componentBytes ty ≤ 536870912) (hb3 : K' ≤ 536870912) (hdf : fits ty (defaultValue ty) = true) (hdd : (defaultValue ty).isDefault = true) (hcells : cells + (1 + N') ≤ R.cells) (hslots : slots + (N' + N' * K') ≤ R.slots) (hz : ∀ c : ClassId, Jvm.Free.Multi.innerC c K' (defaultValue ty) = vp_cell c z) (hdg : decode cc pc = .ok (.multianewarray index 2, 4))
    (kk : ∀ (q : Nat) (r : Nat → Nat) (cA : ClassId) (H1 : Heap), (∀ i j : Nat, i < N' → j < N' → r i = r j → i = j) → (∀ i : Nat, i < N' → r i ∉ L) → va_K D cl (tys ++ [(cA, .array ty)]) s →
      va_P D cl ((X ++ [(q, .inl (cA, N', .inr (.inr (.inr (.inr (fun i => if i < N' then some (r i) else none))))))]) ++ va_pl (L ++ (List.range N').map r) (vr_up f ((List.range N').map r) (.inl (cy, z)))) H1 → va_D A ((X ++ [(q, .inl (cA, N', .inr (.inr (.inr (.inr (fun i => if i < N' then some (r i) else none))))))]) ++ va_pl (L ++ (List.range N').map r) (vr_up f ((List.range N').map r) (.inl (cy, z)))) → va_S A H0 H1 locs →
      W p l e R s m args below meth c H1 locs (cells + 1 + N') (slots + N' + N' * K') Q (F0 m (pc + 4) ls (.ref q :: rest))) : W p l e R s m args below meth c H locs cells slots Q (F0 m pc ls (.int k :: .int n :: rest)) := by
  subst hN
  subst hM
  intro T hT Xs
  obtain ⟨vm₁, cA, comp, -, fA, fC, hO, -, X', step⟩ := Xs.multianewarray2F hexec hown hclink (va_AOA.use hover) harr (g := F0 m pc ls (.int k :: .int n :: rest)) rfl (by rw [hb]; exact hdg) rfl hn hk hb1 hb2 hb3 hdf hdd hcells hslots
  have ec : some cy = some comp := hcy.symm.trans fC
  cases ec
  generalize hF : Jvm.Free.Multi.fill (T.setVm vm₁) cA cy n.toNatClampNeg k.toNatClampNeg (defaultValue ty) n.toNatClampNeg = F at X' step
  have hTh : (T.setVm vm₁).heap = H := hT
  obtain ⟨f1, f2, -, -⟩ := Jvm.Free.Multi.fill_facts (T.setVm vm₁) cA cy n.toNatClampNeg k.toNatClampNeg (defaultValue ty) n.toNatClampNeg
  rw [hF, hTh] at f1 f2
  have hold : ∀ x : Nat, x < H.size → F.heap[x]? = H[x]? := fun x hx => by
    have := Jvm.Free.Multi.fill_old (T.setVm vm₁) cA cy n.toNatClampNeg k.toNatClampNeg (defaultValue ty) (a := x) (by rw [hTh]; exact hx) n.toNatClampNeg
    rw [hF, hTh] at this
    exact this
  have hrow : ∀ j : Nat, j < n.toNatClampNeg → F.heap[H.size + 1 + j]? = some (vp_cell cy z) := fun j hj => by
    have := Jvm.Free.Multi.fill_inner (T.setVm vm₁) cA cy n.toNatClampNeg k.toNatClampNeg (defaultValue ty) n.toNatClampNeg j hj
    rw [hF, hTh, hz] at this
    exact this
  have hout : Jvm.Free.Multi.outerC cA n.toNatClampNeg H.size n.toNatClampNeg = vp_cell cA (n.toNatClampNeg, .inr (.inr (.inr (.inr (fun i => if i < n.toNatClampNeg then some (H.size + 1 + i) else none))))) := by
    rw [vp_cell_q]
    exact vr_outer cA n.toNatClampNeg H.size n.toNatClampNeg
  rw [hout] at f2
  have hlt : ∀ a, a ∈ L → a < H.size := fun a ha => by
    obtain ⟨k9, hk9⟩ := va_pl_get (X := X) (f := f) ha
    exact (hP k9 _ hk9).lt
  have hnl : ∀ i : Nat, i < n.toNatClampNeg → H.size + 1 + i ∉ L := fun i _ h => by
    have := hlt _ h
    omega
  have hnm : ∀ a, a ∈ (List.range n.toNatClampNeg).map (fun i => H.size + 1 + i) → a ∉ L := fun a ha h => by
    obtain ⟨i, -, rfl⟩ := List.mem_map.mp ha
    have := hlt _ h
    omega
  have hP0 : va_P D cl (X ++ va_pl L f) F.heap := hP.kept (fun k9 x hx => hold x.1 ((hP k9 x hx).lt))
  have hP1 : va_P D cl ((X ++ va_pl L f) ++ [(H.size, .inl (cA, n.toNatClampNeg, .inr (.inr (.inr (.inr (fun i => if i < n.toNatClampNeg then some (H.size + 1 + i) else none))))))]) F.heap := hP0.app (fun k9 x hx => by
    have h0 : k9 < 1 := (List.getElem?_eq_some_iff.mp hx).1
    rw [show k9 = 0 by omega] at hx
    cases hx
    exact f2)
  have hP2 : va_P D cl (((X ++ va_pl L f) ++ [(H.size, .inl (cA, n.toNatClampNeg, .inr (.inr (.inr (.inr (fun i => if i < n.toNatClampNeg then some (H.size + 1 + i) else none))))))]) ++ ((List.range n.toNatClampNeg).map (fun i => H.size + 1 + i)).map (fun a => (a, .inl (cy, z)))) F.heap := hP1.app (fun k9 x hx => by
    obtain ⟨a, ha, rfl⟩ := List.mem_map.mp (List.mem_of_getElem? hx)
    obtain ⟨i, hi, rfl⟩ := List.mem_map.mp ha
    exact hrow i (List.mem_range.mp hi))
  have hD2 : va_D A (((X ++ va_pl L f) ++ [(H.size, .inl (cA, n.toNatClampNeg, .inr (.inr (.inr (.inr (fun i => if i < n.toNatClampNeg then some (H.size + 1 + i) else none))))))]) ++ ((List.range n.toNatClampNeg).map (fun i => H.size + 1 + i)).map (fun a => (a, .inl (cy, z)))) := by
    have hD1 := hD.push (e := .inl (cA, n.toNatClampNeg, .inr (.inr (.inr (.inr (fun i => if i < n.toNatClampNeg then some (H.size + 1 + i) else none)))))) hP rfl (hA _ hS.1)
    generalize hW1 : (X ++ va_pl L f) ++ [(H.size, .inl (cA, n.toNatClampNeg, .inr (.inr (.inr (.inr (fun i => if i < n.toNatClampNeg then some (H.size + 1 + i) else none))))))] = W1 at hD1 hP1 ⊢
    have hle : ∀ (k9 : Nat) (x : Nat × va_E), W1[k9]? = some x → x.1 ≤ H.size := fun k9 x hx => by
      rw [← hW1] at hx
      by_cases hl : k9 < (X ++ va_pl L f).length
      · rw [List.getElem?_append_left hl] at hx
        exact Nat.le_of_lt ((hP k9 x hx).lt)
      · rw [List.getElem?_append_right (by omega)] at hx
        have h0 : k9 - (X ++ va_pl L f).length < 1 := (List.getElem?_eq_some_iff.mp hx).1
        rw [show k9 - (X ++ va_pl L f).length = 0 by omega] at hx
        cases hx
        exact Nat.le_refl _
    have hr : ∀ (k9 : Nat) (x : Nat × va_E), (((List.range n.toNatClampNeg).map (fun i => H.size + 1 + i)).map (fun a => ((a, .inl (cy, z)) : Nat × va_E)))[k9]? = some x → x.1 = H.size + 1 + k9 := fun k9 x hx => by
      rw [List.getElem?_map, List.getElem?_map] at hx
      by_cases h9 : k9 < n.toNatClampNeg
      · rw [List.getElem?_range h9] at hx
        cases hx
        rfl
      · have hn0 : (List.range n.toNatClampNeg)[k9]? = none := List.getElem?_eq_none (by rw [List.length_range]; omega)
        rw [hn0] at hx
        cases hx
    refine ⟨fun i j x y hi hj hxy => ?_, fun k9 x hx => ?_⟩
    · by_cases h1 : i < W1.length <;> by_cases h2 : j < W1.length
      · rw [List.getElem?_append_left h1] at hi
        rw [List.getElem?_append_left h2] at hj
        exact hD1.1 i j x y hi hj hxy
      · rw [List.getElem?_append_left h1] at hi
        rw [List.getElem?_append_right (by omega)] at hj
        have := hle _ _ hi
        have := hr _ _ hj
        omega
      · rw [List.getElem?_append_right (by omega)] at hi
        rw [List.getElem?_append_left h2] at hj
        have := hle _ _ hj
        have := hr _ _ hi
        omega
      · rw [List.getElem?_append_right (by omega)] at hi hj
        have := hr _ _ hi
        have := hr _ _ hj
        omega
    · by_cases h1 : k9 < W1.length
      · rw [List.getElem?_append_left h1] at hx
        exact hD1.2 k9 x hx
      · rw [List.getElem?_append_right (by omega)] at hx
        have := hr _ _ hx
        exact hA _ (by have := hS.1; omega)
  have hAr : ArrOfT s cA (.array ty) := fun N9 z9 => by
    obtain ⟨-, k9, hk9, cm9, hkk9⟩ := (hO 0 0 0).1
    exact ⟨(fun q hq => by cases hq), k9, hk9, cm9, hkk9⟩
  have hK2 : va_K D cl (tys ++ [(cA, .array ty)]) s := ⟨hK.1, fun k9 x hx => by
    by_cases hl : k9 < tys.length
    · rw [List.getElem?_append_left hl] at hx
      exact hK.2 k9 x hx
    · rw [List.getElem?_append_right (by omega)] at hx
      have h0 : k9 - tys.length < 1 := (List.getElem?_eq_some_iff.mp hx).1
      rw [show k9 - tys.length = 0 by omega] at hx
      cases hx
      exact ⟨hAr, fA⟩⟩
  obtain ⟨t, a1, b1⟩ := kk H.size (fun i => H.size + 1 + i) cA F.heap (fun i j _ _ h => by have h9 : H.size + 1 + i = H.size + 1 + j := h; omega) hnl hK2 (by rw [← vr_rows hnm]; exact vr_lay hP2) (by rw [← vr_rows hnm]; exact vr_layD hD2) ⟨by rw [f1]; have := hS.1; omega, fun x h1 h2 => (hold x (Nat.lt_of_lt_of_le h1 hS.1)).trans (hS.2.1 x h1 h2), hS.2.2⟩ F rfl X'
  refine ⟨t, step t ?_, b1⟩
  have e : T.heap.size = H.size := by rw [hT]
  rw [e]
  exact a1
end VGM
/-! ===== END ===== -/
/-! ===== cells are made ===== -/
/-- memory with a cell cleared -/
def zz (m : zM) (n : Nat) : zM := (fun b j => if b = n then 0 else m.1 b j, fun b j => if b = n then 0 else m.2.1 b j, fun b j => if b = n then j else m.2.2 b j)
def zwfS (n : Nat) (s : zS) : Bool := match s with
  | .inl (0, _, _) => true
  | .inl (1, _, _) => true
  | .inl (_, len, b) => decide (0 < len) && decide (b + len ≤ n)
  | .inr (_, rs) => rs.all (fun o => match o with
    | some r => decide (r < n) || decide (1000 ≤ r)
    | none => true)
theorem zE_old {ρ ρ' : Nat → Nat} {κ : Nat → ClassId} {m m' : zM} {n i : Nat} {s : zS} (hr : ∀ j, j < n ∨ 1000 ≤ j → ρ' j = ρ j) (hw : zwfS n s = true) (h1 : m'.1 i = m.1 i) (h2 : m'.2.1 i = m.2.1 i) (h3 : m'.2.2 i = m.2.2 i) : zE ρ' κ m' i s = zE ρ κ m i s := by
  rw [zE_mem h1 h2 h3]
  match s, hw with
  | .inl (0, _, _), _ => rfl
  | .inl (1, _, _), _ => rfl
  | .inl (k + 2, len, b), hw =>
    have hw2 : 0 < len ∧ b + len ≤ n := by simpa [zwfS] using hw
    show Sum.inl (κ 2, len, Sum.inr (Sum.inr (Sum.inr (Sum.inr (fun j => some (ρ' (b + m.2.2 i j % len))))))) = Sum.inl (κ 2, len, Sum.inr (Sum.inr (Sum.inr (Sum.inr (fun j => some (ρ (b + m.2.2 i j % len)))))))
    have hf : (fun j => some (ρ' (b + m.2.2 i j % len))) = (fun j => some (ρ (b + m.2.2 i j % len))) := by
      funext j
      rw [hr (b + m.2.2 i j % len) (Or.inl (by have := Nat.mod_lt (m.2.2 i j) hw2.1; omega))]
    rw [hf]
  | .inr (c, rs), hw =>
    show Sum.inr (c, zfs ρ' m i c rs) = Sum.inr (c, zfs ρ m i c rs)
    congr 2
    unfold zfs
    apply List.map_congr_left
    intro k _
    unfold zfv
    split
    · rfl
    · cases hk : rs.getD k none with
      | none => rfl
      | some r =>
        have hm : some r ∈ rs := by
          rw [List.getD_eq_getElem?_getD] at hk
          cases hg : rs[k]? with
          | none => rw [hg] at hk; cases hk
          | some o => rw [hg] at hk; cases hk; exact List.mem_of_getElem? hg
        have hz := List.all_eq_true.mp (show rs.all _ = true from hw) _ hm
        have hz2 : r < n ∨ 1000 ≤ r := by simpa using hz
        show va_rf (some (ρ' r)) = va_rf (some (ρ r))
        rw [hr r hz2]
    · rfl
/-- the world with more cells, position by position -/
theorem zw_more {ρ ρ' : Nat → Nat} {κ : Nat → ClassId} {m m' : zM} {sh ex : List zS} (hr : ∀ j, j < sh.length ∨ 1000 ≤ j → ρ' j = ρ j) (hw : sh.all (zwfS sh.length) = true) (hm : ∀ i, i < sh.length → m'.1 i = m.1 i ∧ m'.2.1 i = m.2.1 i ∧ m'.2.2 i = m.2.2 i) : zw ρ' κ m' (sh ++ ex) = zw ρ κ m sh ++ (ex.zipIdx sh.length).map (fun q => (ρ' q.2, zE ρ' κ m' q.2 q.1)) := by
  unfold zw
  rw [List.zipIdx_append, List.map_append]
  congr 1
  · apply List.map_congr_left
    intro q hq
    have h1 := List.mem_zipIdx' hq
    obtain ⟨s, i⟩ := q
    have hlt : i < sh.length := h1.1
    have hs : s ∈ sh := by
      have h2 : s = sh[i] := h1.2
      rw [h2]
      exact List.getElem_mem _
    obtain ⟨g1, g2, g3⟩ := hm i hlt
    show (ρ' i, zE ρ' κ m' i s) = (ρ i, zE ρ κ m i s)
    rw [zE_old hr (List.all_eq_true.mp hw s hs) g1 g2 g3, hr i (Or.inl hlt)]
  · rw [Nat.zero_add]
theorem zz_off (m : zM) (n : Nat) : ∀ i, i < n → (zz m n).1 i = m.1 i ∧ (zz m n).2.1 i = m.2.1 i ∧ (zz m n).2.2 i = m.2.2 i := fun i h => by
  have e : i ≠ n := by omega
  exact ⟨by funext j; simp [zz, e], by funext j; simp [zz, e], by funext j; simp [zz, e]⟩
theorem zsz_app (a b : List zS) : zsz (a ++ b) = zsz a + zsz b := by
  unfold zsz
  rw [List.map_append, List.sum_append]
/-- the map of cells, with a new one -/
def zρ (ρ : Nat → Nat) (n q : Nat) : Nat → Nat := fun i => if i = n then q else ρ i
theorem zρ_old {ρ : Nat → Nat} {n q : Nat} (hn : n < 1000) : ∀ j, j < n ∨ 1000 ≤ j → zρ ρ n q j = ρ j := fun j hj => by
  have : j ≠ n := by omega
  simp [zρ, this]
section ZNEW
variable {E : Nat × (Nat → Int32)} {y : zY} {pc q i : Nat} {L L' : List (Option Value)} {st st' : List Value} {sh sh' ex : List zS} {m m1 m' : zM} {rv : Option Value}
/-- a step that makes cells -/
theorem Rn.nw (hlen : sh.length < 1000) (hw : sh.all (zwfS sh.length) = true) (hok : (st'.all (zok sh.length) && zokL sh.length L) = true) (top : List Value)
   (h : ∀ (p : Program) (l : Launch) (e : Env) (R : Room) (s : State) (mid : MethodId) (args : Array Value) (below : List Frame) (meth : Method) (c : Code) (D : va_G) (κ : Nat → ClassId) (A : Nat → Prop) (ρ : Nat → Nat) (H : Heap) (locs : List Loc) (cells slots : Nat) (ls : Array Slot) (Q : State → Prop),
   zC E p R s mid args meth c y D κ A ρ → lv_has ls y.2.2.1 (zL ρ L) → va_P D vwCl (zw ρ κ m sh) H → va_D A (zw ρ κ m sh) → va_S A s.heap H locs → cells + ex.length ≤ R.cells → slots + zsz ex ≤ R.slots →
   (∀ (ρ' : Nat → Nat) (H1 : Heap), (∀ j, j < sh.length ∨ 1000 ≤ j → ρ' j = ρ j) → va_P D vwCl (zw ρ' κ m1 (sh ++ ex)) H1 → va_D A (zw ρ' κ m1 (sh ++ ex)) → va_S A s.heap H1 locs → W p l e R s mid args below meth c H1 locs (cells + ex.length) (slots + zsz ex) Q (F0 mid q ls (top.map (zv ρ') ++ st'.map (zv ρ)))) → W p l e R s mid args below meth c H locs cells slots Q (F0 mid pc ls (st.map (zv ρ))))
   (k : Rn E y q L (top ++ st') (sh ++ ex) m1 rv sh' m') (hex : 0 < ex.length) : Rn E y pc L st sh m rv sh' m' := by
  have k1 := k.1
  have k2 := k.2.1
  rw [List.length_append] at k1
  rw [zsz_app] at k2
  refine ⟨by omega, by omega, fun p l e R s mid args below meth c D κ A ρ H locs cells slots ls Q C hl hP hD hS hc hs kk => ?_⟩
  refine h p l e R s mid args below meth c D κ A ρ H locs cells slots ls Q C hl hP hD hS (by omega) (by omega) (fun ρ' H1 hr hP1 hD1 hS1 => ?_)
  have C' : zC E p R s mid args meth c y D κ A ρ' := by
    obtain ⟨c1, c2, c3, c4, c5, c6, c7, c8, c9, c10, c11⟩ := C
    exact ⟨c1, c2, c3, c4, c5, c6, c7, c8, c9, c10.ext (fun i hi => hr i (Or.inr hi)), c11⟩
  have hst := zok_st hr (Bool.and_eq_true_iff.mp hok).1
  have hLL := zok_L hr (Bool.and_eq_true_iff.mp hok).2
  have K := k.2.2 p l e R s mid args below meth c D κ A ρ' H1 locs (cells + ex.length) (slots + zsz ex) ls Q C' (by rw [hLL]; exact hl) hP1 hD1 hS1 (by rw [List.length_append]; omega) (by rw [zsz_app]; omega) (fun ρ2 H2 locs2 ls2 pc2 cells2 slots2 hsm2 hret2 hP2 hD2 hS2 hc2 hs2 => kk ρ2 H2 locs2 ls2 pc2 cells2 slots2 ⟨fun i hi => (hsm2.1 i (by rw [List.length_append]; omega)).trans (hr i hi), fun hh => absurd hh (by omega)⟩ hret2 hP2 hD2 hS2 (by rw [List.length_append] at hc2; omega) (by rw [zsz_app] at hs2; omega))
  rw [List.map_append, hst] at K
  exact K
theorem zdef : ∀ c, c < 13 → ∀ j, j < zn c → zty c j ≠ .float ∧ zty c j ≠ .double := by decide +kernel
theorem zdefv {c j : Nat} (hc : c < 13) (hj : j < zn c) (ρ : Nat → Nat) (m : zM) (n k : Nat) : defaultValue (zty c j) = zfv ρ (zz m n) n (List.replicate k none) j (ztk (zty c j)) := by
  obtain ⟨h1, h2⟩ := zdef c hc j hj
  have hg : (List.replicate k (none : Option Nat)).getD j none = none := by
    rw [List.getD_eq_getElem?_getD]
    by_cases hk : j < k
    · rw [List.getElem?_replicate_of_lt hk]; rfl
    · rw [List.getElem?_eq_none (by rw [List.length_replicate]; omega)]; rfl
  cases ht : zty c j with
  | float => exact absurd ht h1
  | double => exact absurd ht h2
  | object _ => show Value.null = va_rf (((List.replicate k (none : Option Nat)).getD j none).map ρ); rw [hg]; rfl
  | array _ => show Value.null = va_rf (((List.replicate k (none : Option Nat)).getD j none).map ρ); rw [hg]; rfl
  | long => show Value.long 0 = Value.long ((zz m n).2.1 n j); simp [zz]
  | _ => show Value.int 0 = Value.int ((zz m n).1 n j); simp [zz]
/-- new -/
theorem zi_new {ci n : Nat} {r : vw_C} (hd : decode y.2.1 pc = .ok (.new i, 3)) (hcl : vwCl[ci]? = some r) (h1 : Cond.classLink y.1.cls i r.1 ∈ zALL) (h2 : Cond.instantiable r.1 r.2.2 ∈ zALL) (h3 : Cond.initialized r.1 ∈ zALL) (hn : sh.length = n) (hlen : n < 1000) (hw : sh.all (zwfS n) = true) (hok : (st.all (zok n) && zokL n L) = true) (hq : pc + 3 = q)
    (k : Rn E y q L (.ref n :: st) (sh ++ [.inr (ci, List.replicate (zn ci) none)]) (zz m n) rv sh' m') : Rn E y pc L st sh m rv sh' m' := by
  subst hq
  subst hn
  obtain ⟨g1, g2, g3, g4⟩ := zcl ci r hcl
  have hc13 : ci < 13 := by
    have := (List.getElem?_eq_some_iff.mp hcl).1
    simpa [vwCl] using this
  refine Rn.nw (ex := [.inr (ci, List.replicate (zn ci) none)]) hlen hw hok [.ref sh.length] (fun p l e R s mid args below meth c D κ A ρ H locs cells slots ls Q C hl hP hD hS hc hs kk => ?_) k (by simp)
  have hsz : zsz [.inr (ci, List.replicate (zn ci) none)] = zn ci := by simp [zsz]
  rw [hsz] at hs kk
  refine va_new (C := r.1) (T := r.2.1) (N := r.2.2) (fs := zfs ρ (zz m sh.length) sh.length ci (List.replicate (zn ci) none)) C.1 C.2.1 C.2.2.2.2.1 g2 (zty ci) g3 C.2.2.2.1 (C.2.2.2.2.1 _ h1) (C.2.2.2.2.1 _ h2) (C.2.2.2.2.1 _ h3) C.2.2.2.2.2.1 hP hD hS C.2.2.2.2.2.2.2.1 hcl (fun j hj => ?_) hc (by rw [g1]; exact hs) hd (fun q H1 hP1 hD1 hS1 => ?_)
  · rw [g1] at hj
    rw [vp_V, List.getD_eq_getElem?_getD, zfs_get hj]
    exact zdefv hc13 hj ρ m sh.length (zn ci)
  · have hr := zρ_old (ρ := ρ) (q := q) hlen
    have e : zw (zρ ρ sh.length q) κ (zz m sh.length) (sh ++ [.inr (ci, List.replicate (zn ci) none)]) = zw ρ κ m sh ++ [(q, .inr (ci, zfs ρ (zz m sh.length) sh.length ci (List.replicate (zn ci) none)))] := by
      rw [zw_more hr hw (zz_off m sh.length)]
      congr 1
      show [(zρ ρ sh.length q sh.length, Sum.inr (ci, zfs (zρ ρ sh.length q) (zz m sh.length) sh.length ci (List.replicate (zn ci) none)))] = _
      have e1 : zρ ρ sh.length q sh.length = q := by simp [zρ]
      have e2 : zfs (zρ ρ sh.length q) (zz m sh.length) sh.length ci (List.replicate (zn ci) none) = zfs ρ (zz m sh.length) sh.length ci (List.replicate (zn ci) none) := by
        unfold zfs
        apply List.map_congr_left
        intro j hj
        rw [← zdefv hc13 (List.mem_range.mp hj) ρ m sh.length (zn ci), ← zdefv hc13 (List.mem_range.mp hj) (zρ ρ sh.length q) m sh.length (zn ci)]
      rw [e1, e2]
    rw [← e] at hP1 hD1
    have K := kk (zρ ρ sh.length q) H1 hr hP1 hD1 hS1
    have e3 : ([Value.ref sh.length] : List Value).map (zv (zρ ρ sh.length q)) = [.ref q] := by simp [zv, zρ]
    rw [e3] at K
    rw [g1]
    exact K
theorem znewarr {kd : Nat} {n len : Nat} {x : Int32} {ty : FieldType} {aty : ArrayType} (hd : decode y.2.1 pc = .ok (.newarray aty, 2)) (hty : newarray.typeOf aty = ty) (h1 : Cond.arrayClass ty ∈ zALL) (hx : ¬ x < 0) (hl2 : x.toNatClampNeg = len) (hby : len * componentBytes ty ≤ 536870912) (hdv : defaultValue ty = .int 0) (hzt : ∀ κ : Nat → ClassId, (zt κ)[kd]? = some (κ kd, ty)) (hra : ∀ (U : State) (c : ClassId), va_RA U c ty → U.vm.findClass ("[" ++ ty.toString) = some c) (hE : ∀ (ρ : Nat → Nat) (κ : Nat → ClassId) (m : zM) (n : Nat), zE ρ κ m n (.inl (kd, len, 0)) = .inl (κ kd, len, .inl (m.1 n))) (hn : sh.length = n) (hlen : n < 1000) (hw : sh.all (zwfS n) = true) (hok : (st.all (zok n) && zokL n L) = true) (hq : pc + 2 = q)
    (k : Rn E y q L (.ref n :: st) (sh ++ [.inl (kd, len, 0)]) (zz m n) rv sh' m') : Rn E y pc L (.int x :: st) sh m rv sh' m' := by
  subst hq
  subst hn
  refine Rn.nw (ex := [.inl (kd, len, 0)]) hlen hw hok [.ref sh.length] (fun p l e R s mid args below meth c D κ A ρ H locs cells slots ls Q C hl hP hD hS hc hs kk => ?_) k (by simp)
  have hsz : zsz [.inl (kd, len, 0)] = len := by simp [zsz]
  rw [hsz] at hs kk
  have hT := C.2.2.2.2.2.1
  refine va_newa (atype := aty) (a0 := (len, .inl (fun _ => 0))) C.1 C.2.1 (by rw [hty]; exact C.2.2.2.2.1 _ h1) hty hT hP hD hS C.2.2.2.2.2.2.2.1 (fun cA => by rw [hdv]; rfl) hx hl2 hby hc hs hd (fun q cA H1 hK1 hP1 hD1 hS1 => ?_)
  have hcA : cA = κ kd := by
    have a := hra s cA (hK1.2 3 (cA, ty) (by simp [zt])).2
    have b := hra s (κ kd) (hT.2 kd (κ kd, ty) (hzt κ)).2
    exact Option.some.inj (a.symm.trans b)
  subst hcA
  have hr := zρ_old (ρ := ρ) (q := q) hlen
  have e : zw (zρ ρ sh.length q) κ (zz m sh.length) (sh ++ [.inl (kd, len, 0)]) = zw ρ κ m sh ++ [(q, .inl (κ kd, len, .inl (fun _ => 0)))] := by
    rw [zw_more hr hw (zz_off m sh.length)]
    congr 1
    show [(zρ ρ sh.length q sh.length, zE (zρ ρ sh.length q) κ (zz m sh.length) sh.length (.inl (kd, len, 0)))] = _
    have e1 : zρ ρ sh.length q sh.length = q := by simp [zρ]
    have e2 : (zz m sh.length).1 sh.length = fun _ => 0 := by funext j; simp [zz]
    rw [e1, hE, e2]
  rw [← e] at hP1 hD1
  have K := kk (zρ ρ sh.length q) H1 hr hP1 hD1 hS1
  have e3 : ([Value.ref sh.length] : List Value).map (zv (zρ ρ sh.length q)) = [.ref q] := by simp [zv, zρ]
  rw [e3] at K
  exact K
theorem zi_newI {n len : Nat} {x : Int32} (hd : decode y.2.1 pc = .ok (.newarray .int, 2)) (h1 : Cond.arrayClass .int ∈ zALL) (hx : ¬ x < 0) (hl2 : x.toNatClampNeg = len) (hby : len * 4 ≤ 536870912) (hn : sh.length = n) (hlen : n < 1000) (hw : sh.all (zwfS n) = true) (hok : (st.all (zok n) && zokL n L) = true) (hq : pc + 2 = q)
    (k : Rn E y q L (.ref n :: st) (sh ++ [.inl (0, len, 0)]) (zz m n) rv sh' m') : Rn E y pc L (.int x :: st) sh m rv sh' m' :=
  znewarr (kd := 0) (ty := .int) hd rfl h1 hx hl2 hby rfl (fun _ => rfl) (fun _ _ h => h) (fun _ _ _ _ => rfl) hn hlen hw hok hq k
theorem zi_newZ {n len : Nat} {x : Int32} (hd : decode y.2.1 pc = .ok (.newarray .boolean, 2)) (h1 : Cond.arrayClass .boolean ∈ zALL) (hx : ¬ x < 0) (hl2 : x.toNatClampNeg = len) (hby : len * 1 ≤ 536870912) (hn : sh.length = n) (hlen : n < 1000) (hw : sh.all (zwfS n) = true) (hok : (st.all (zok n) && zokL n L) = true) (hq : pc + 2 = q)
    (k : Rn E y q L (.ref n :: st) (sh ++ [.inl (1, len, 0)]) (zz m n) rv sh' m') : Rn E y pc L (.int x :: st) sh m rv sh' m' :=
  znewarr (kd := 1) (ty := .boolean) hd rfl h1 hx hl2 hby rfl (fun _ => rfl) (fun _ _ h => h) (fun _ _ _ _ => rfl) hn hlen hw hok hq k
/-! a reference is laid into a final field -/
theorem zsz_set {n ci : Nat} {rs rs' : List (Option Nat)} (ho : sh[n]? = some (.inr (ci, rs))) : zsz (sh.set n (.inr (ci, rs'))) = zsz sh := by
  unfold zsz
  congr 1
  apply List.ext_getElem?
  intro j
  rw [List.getElem?_map, List.getElem?_map]
  by_cases e : j = n
  · subst e
    rw [List.getElem?_set_self (List.getElem?_eq_some_iff.mp ho).1, ho]
    rfl
  · rw [List.getElem?_set_ne (Ne.symm e)]
theorem zw_sh {ρ : Nat → Nat} {κ : Nat → ClassId} {n : Nat} {x x' : zS} (ho : sh[n]? = some x) : zw ρ κ m (sh.set n x') = (zw ρ κ m sh).set n (ρ n, zE ρ κ m n x') := by
  have hlt : n < sh.length := (List.getElem?_eq_some_iff.mp ho).1
  apply List.ext_getElem?
  intro j
  by_cases e : j = n
  · subst e
    rw [List.getElem?_set_self (by rw [zw_len]; exact hlt), zw_get (List.getElem?_set_self hlt)]
  · rw [List.getElem?_set_ne (Ne.symm e)]
    cases hj : sh[j]? with
    | none => rw [zw_none hj, zw_none (by rw [List.getElem?_set_ne (Ne.symm e)]; exact hj)]
    | some z => rw [zw_get hj, zw_get (by rw [List.getElem?_set_ne (Ne.symm e)]; exact hj)]
theorem zi_putA {ci kf n r : Nat} {rs : List (Option Nat)} {ty : FieldType} {sh1 : List zS} (hd : decode y.2.1 pc = .ok (.putfield i, 3)) (hf : zpl y.1.cls i ci kf ty true) (hin : y.1.name = "<init>") (hk3 : ztk ty = 3) (ho : sh[n]? = some (.inr (ci, rs))) (hn : ∀ a : Nat, narrow ty (.ref a) = .ref a) (hfit : ∀ a : Nat, fits ty (.ref a) = true) (hkl : kf < rs.length) (hsh : sh.set n (.inr (ci, rs.set kf (some r))) = sh1) (hq : pc + 3 = q) (k : Rn E y q L st sh1 m rv sh' m') : Rn E y pc L (.ref r :: .ref n :: st) sh m rv sh' m' := by
  subst hq
  subst hsh
  obtain ⟨w, h1, h2, h3, h4, h6, h5⟩ := hf
  obtain ⟨g1, g2, g3, g4⟩ := zcl ci w h1
  subst h3
  have hln : (sh.set n (.inr (ci, rs.set kf (some r)))).length = sh.length := List.length_set
  have hsz := zsz_set (rs' := rs.set kf (some r)) ho
  refine ⟨by rw [← hln]; exact k.1, by rw [← hsz]; exact k.2.1, fun p l e R s mid args below meth c D κ A ρ H locs cells slots ls Q C hl hP hD hS hc hs kk => ?_⟩
  refine va_putF (C := w.1) (T := w.2.1) (N := w.2.2) (ty := zty ci kf) C.1 C.2.1 C.2.2.2.2.1 g2 (zty ci) g3 g4 C.2.2.2.1 C.2.2.2.2.2.1 hP hD hS n (zw_get ho) h1 kf (by rw [g1]; exact h2) (C.2.2.2.2.1 _ h5) (fun _ h => h) h4 (C.2.2.2.2.2.2.2.2.2.2.2.2 hin) (h6 rfl) (g3 kf (by rw [g1]; exact h2)) (hn (ρ r)) (hfit (ρ r)) (by rw [zfs_len]; exact h2) hd (fun H1 locs1 hP1 hD1 hS1 => ?_)
  have e2 : (zw ρ κ m sh).set n (ρ n, .inr (ci, (zfs ρ m n ci rs).set kf (zv ρ (.ref r)))) = zw ρ κ m (sh.set n (.inr (ci, rs.set kf (some r)))) := by
    rw [zw_sh ho]
    congr 2
    show Sum.inr _ = Sum.inr _
    rw [zfs_set (m' := m) (rs' := rs.set kf (some r)) h2]
    · rw [hk3]
      show va_rf (((rs.set kf (some r)).getD kf none).map ρ) = _
      rw [List.getD_eq_getElem?_getD, List.getElem?_set_self hkl]
      rfl
    · intro j _ hj
      unfold zfv
      split
      · rfl
      · rw [List.getD_eq_getElem?_getD, List.getElem?_set_ne (Ne.symm hj), ← List.getD_eq_getElem?_getD]
      · rfl
  rw [e2] at hP1 hD1
  exact k.2.2 p l e R s mid args below meth c D κ A ρ H1 locs1 cells slots ls Q C hl hP1 hD1 hS1 (by rw [hln]; exact hc) (by rw [hsz]; exact hs) (fun ρ2 H2 locs2 ls2 pc2 cells2 slots2 hsm2 hret2 hP2 hD2 hS2 hc2 hs2 => kk ρ2 H2 locs2 ls2 pc2 cells2 slots2 ⟨fun i hi => hsm2.1 i (by rw [hln]; exact hi), fun hh => hsm2.2 (by rw [hln]; exact hh)⟩ hret2 hP2 hD2 hS2 (by rw [hln] at hc2; exact hc2) (by rw [hsz] at hs2; exact hs2))
end ZNEW
end
section
/-! ===== new int[n][k] ===== -/
/-- memory with the cells n .. n + N cleared -/
def zzm (m : zM) (n N : Nat) : zM := (fun b j => if n ≤ b ∧ b ≤ n + N then 0 else m.1 b j, fun b j => if n ≤ b ∧ b ≤ n + N then 0 else m.2.1 b j, fun b j => if n ≤ b ∧ b ≤ n + N then j else m.2.2 b j)
theorem zzm_off (m : zM) (n N : Nat) : ∀ i, i < n → (zzm m n N).1 i = m.1 i ∧ (zzm m n N).2.1 i = m.2.1 i ∧ (zzm m n N).2.2 i = m.2.2 i := fun i h => by
  have e : ¬ (n ≤ i ∧ i ≤ n + N) := by omega
  exact ⟨by funext j; simp [zzm, e], by funext j; simp [zzm, e], by funext j; simp [zzm, e]⟩
def zρm (ρ : Nat → Nat) (n N q : Nat) (r : Nat → Nat) : Nat → Nat := fun i => if i = n then q else if n < i ∧ i ≤ n + N then r (i - n - 1) else ρ i
theorem zρm_old {ρ r : Nat → Nat} {n N q : Nat} (hn : n + N < 1000) : ∀ j, j < n ∨ 1000 ≤ j → zρm ρ n N q r j = ρ j := fun j hj => by
  have h1 : j ≠ n := by omega
  have h2 : ¬ (n < j ∧ j ≤ n + N) := by omega
  simp [zρm, h1, h2]
section ZMULTI
variable {E : Nat × (Nat → Int32)} {y : zY} {pc q i : Nat} {L L' : List (Option Value)} {st st' : List Value} {sh sh' ex : List zS} {m m1 m' : zM} {rv : Option Value}
theorem zi_mna {n N K : Nat} {x k : Int32} (hd : decode y.2.1 pc = .ok (.multianewarray i 2, 4)) (h1 : Cond.classLink y.1.cls i "[[I" ∈ zALL) (h2 : Cond.arrayClass .int ∈ zALL) (hx : ¬ x < 0) (hk : ¬ k < 0) (hN : x.toNatClampNeg = N) (hK : k.toNatClampNeg = K) (hb1 : N * 4 ≤ 536870912) (hb2 : K * 4 ≤ 536870912) (hN0 : 0 < N) (hn : sh.length = n) (hlen : n + N < 1000) (hw : sh.all (zwfS n) = true) (hok : (st.all (zok n) && zokL n L) = true) (hq : pc + 4 = q)
    (kk : Rn E y q L (.ref n :: st) (sh ++ (.inl (2, N, n + 1) :: List.replicate N (.inl (0, K, 0)))) (zzm m n N) rv sh' m') : Rn E y pc L (.int k :: .int x :: st) sh m rv sh' m' := by
  subst hq
  subst hn
  refine Rn.nw (ex := .inl (2, N, sh.length + 1) :: List.replicate N (.inl (0, K, 0))) (by omega) hw hok [.ref sh.length] (fun p l e R s mid args below meth c D κ A ρ H locs cells slots ls Q C hl hP hD hS hc hs kk => ?_) kk (by simp)
  have hsz : zsz (.inl (2, N, sh.length + 1) :: List.replicate N (.inl (0, K, 0))) = N + N * K := by
    simp [zsz]
  have hln : (Sum.inl (2, N, sh.length + 1) :: List.replicate N (.inl (0, K, 0)) : List zS).length = 1 + N := by
    simp; omega
  rw [hsz] at hs kk
  rw [hln] at hc kk
  have hT := C.2.2.2.2.2.1
  have hcy : s.vm.findClass (FieldType.array .int).toString = some (κ 0) := (hT.2 0 (κ 0, .int) rfl).2
  have hP0 : va_P D vwCl (zw ρ κ m sh ++ va_pl [] (fun _ => (.inr (0, []) : va_E))) H := by
    show va_P D vwCl (zw ρ κ m sh ++ []) H
    rw [List.append_nil]
    exact hP
  have hD0 : va_D A (zw ρ κ m sh ++ va_pl [] (fun _ => (.inr (0, []) : va_E))) := by
    show va_D A (zw ρ κ m sh ++ [])
    rw [List.append_nil]
    exact hD
  refine va_mna (X := zw ρ κ m sh) (L := []) (f := fun _ => (.inr (0, []) : va_E)) (ty := .int) (z := (K, .inl (fun _ => 0))) C.1 C.2.1 C.2.2.2.1 (C.2.2.2.2.1 _ h1) C.2.2.2.2.2.2.2.2.1.2.2 (C.2.2.2.2.1 _ h2) hcy hT hP0 hD0 hS C.2.2.2.2.2.2.2.1 hx hk hN hK hb1 hb2 (by omega) rfl rfl hc hs (fun c => arrV_new c K (.int 0)) hd (fun q r cA H1 hinj hnl hK1 hP1 hD1 hS1 => ?_)
  have hcA : cA = κ 2 := by
    have a : s.vm.findClass ("[" ++ (FieldType.array .int).toString) = some cA := (hK1.2 3 (cA, .array .int) (by simp [zt])).2
    have b : s.vm.findClass ("[" ++ (FieldType.array .int).toString) = some (κ 2) := (hT.2 2 (κ 2, .array .int) rfl).2
    exact Option.some.inj (a.symm.trans b)
  subst hcA
  have hr := zρm_old (ρ := ρ) (r := r) (q := q) hlen
  have hrows : va_pl ([] ++ (List.range N).map r) (vr_up (fun _ => (.inr (0, []) : va_E)) ((List.range N).map r) (.inl (κ 0, K, .inl (fun _ => 0)))) = (List.range N).map (fun j => (r j, (.inl (κ 0, K, .inl (fun _ => 0)) : va_E))) := by
    unfold va_pl
    rw [List.nil_append, List.map_map]
    apply List.map_congr_left
    intro j hj
    show (r j, vr_up _ _ _ (r j)) = _
    rw [vr_up_in (List.mem_map.mpr ⟨j, hj, rfl⟩)]
  rw [hrows, List.append_assoc] at hP1 hD1
  have hat0 : (zw ρ κ m sh ++ ([(q, (.inl (κ 2, N, .inr (.inr (.inr (.inr (fun i => if i < N then some (r i) else none))))) : va_E))] ++ (List.range N).map (fun j => (r j, (.inl (κ 0, K, .inl (fun _ => 0)) : va_E)))))[sh.length]? = some (q, (.inl (κ 2, N, .inr (.inr (.inr (.inr (fun i => if i < N then some (r i) else none))))) : va_E)) := by
    rw [List.getElem?_append_right (by rw [zw_len]; exact Nat.le_refl _), zw_len, Nat.sub_self]
    rfl
  have hcell : vp_cell (κ 2) (N, .inr (.inr (.inr (.inr (fun j => some (zρm ρ sh.length N q r (sh.length + 1 + (zzm m sh.length N).2.2 sh.length j % N))))))) = vp_cell (κ 2) (N, .inr (.inr (.inr (.inr (fun i => if i < N then some (r i) else none))))) := by
    rw [vp_cell_q, vp_cell_q]
    unfold arrV
    congr 2
    funext j
    have hj := j.isLt
    have e1 : (zzm m sh.length N).2.2 sh.length j.val = j.val := by simp [zzm]
    dsimp only
    rw [e1, Nat.mod_eq_of_lt hj, if_pos hj]
    have e2 : zρm ρ sh.length N q r (sh.length + 1 + j.val) = r j.val := by
      have a1 : ¬ sh.length + 1 + j.val = sh.length := by omega
      have a2 : sh.length < sh.length + 1 + j.val ∧ sh.length + 1 + j.val ≤ sh.length + N := by omega
      unfold zρm
      rw [if_neg a1, if_pos a2]
      congr 1
      omega
    rw [e2]
  have hat1 : va_at D vwCl (q, zE (zρm ρ sh.length N q r) κ (zzm m sh.length N) sh.length (.inl (2, N, sh.length + 1))) H1 := by
    have := hP1 sh.length _ hat0
    show H1[q]? = some (vp_cell _ _)
    rw [hcell]
    exact this
  have hP2 := hP1.set hD1 hat0 hat1 (fun _ _ => rfl)
  have hD2 := hD1.set (e := zE (zρm ρ sh.length N q r) κ (zzm m sh.length N) sh.length (.inl (2, N, sh.length + 1))) hat0
  have e : (zw ρ κ m sh ++ ([(q, (.inl (κ 2, N, .inr (.inr (.inr (.inr (fun i => if i < N then some (r i) else none))))) : va_E))] ++ (List.range N).map (fun j => (r j, (.inl (κ 0, K, .inl (fun _ => 0)) : va_E))))).set sh.length (q, zE (zρm ρ sh.length N q r) κ (zzm m sh.length N) sh.length (.inl (2, N, sh.length + 1))) = zw (zρm ρ sh.length N q r) κ (zzm m sh.length N) (sh ++ (.inl (2, N, sh.length + 1) :: List.replicate N (.inl (0, K, 0)))) := by
    rw [zw_more hr hw (zzm_off m sh.length N), List.set_append_right _ _ (by rw [zw_len]; exact Nat.le_refl _), zw_len, Nat.sub_self]
    congr 1
    show (q, _) :: _ = (zρm ρ sh.length N q r sh.length, _) :: _
    have e1 : zρm ρ sh.length N q r sh.length = q := by simp [zρm]
    rw [e1]
    congr 1
    apply List.ext_getElem?
    intro j
    show (List.map (fun j => (r j, (.inl (κ 0, K, .inl (fun _ => 0)) : va_E))) (List.range N))[j]? = _
    rw [List.getElem?_map, List.getElem?_map, List.getElem?_zipIdx]
    by_cases hj : j < N
    · rw [List.getElem?_range hj, List.getElem?_replicate_of_lt hj]
      show some (r j, _) = some (zρm ρ sh.length N q r (sh.length + 1 + j), (Sum.inl (κ 0, K, Sum.inl ((zzm m sh.length N).1 (sh.length + 1 + j))) : va_E))
      have a1 : ¬ sh.length + 1 + j = sh.length := by omega
      have a2 : sh.length < sh.length + 1 + j ∧ sh.length + 1 + j ≤ sh.length + N := by omega
      have a3 : sh.length ≤ sh.length + 1 + j ∧ sh.length + 1 + j ≤ sh.length + N := by omega
      have e2 : zρm ρ sh.length N q r (sh.length + 1 + j) = r j := by
        unfold zρm
        rw [if_neg a1, if_pos a2]
        congr 1
        omega
      have e3 : (zzm m sh.length N).1 (sh.length + 1 + j) = fun _ => 0 := by
        funext t
        simp [zzm, a3]
      rw [e2, e3]
    · rw [List.getElem?_eq_none (by rw [List.length_range]; omega), List.getElem?_eq_none (by rw [List.length_replicate]; omega)]
      rfl
  rw [e] at hP2 hD2
  have K2 := kk (zρm ρ sh.length N q r) H1 hr hP2 hD2 hS1
  have e3 : ([Value.ref sh.length] : List Value).map (zv (zρm ρ sh.length N q r)) = [.ref q] := by simp [zv, zρm]
  rw [e3] at K2
  rw [show cells + 1 + N = cells + (1 + N) by omega, show slots + N + N * K = slots + (N + N * K) by omega]
  exact K2
end ZMULTI
end
