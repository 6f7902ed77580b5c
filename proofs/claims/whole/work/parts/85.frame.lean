/-! ===== a frame ===== -/
def F2 (N W H : Nat) (mc mm : zM) : Prop := RP (cmb mc mm) ∧ RC (cmb mc mm) ∧ RRw mc ∧ Prs W H (cmb mc mm) ∧ RGr W H mc ∧ RJ2 N mc mm
theorem F2_of {N N' W H : Nat} {mc mm A B : zM} (h : F2 N W H mc mm) (k1 : ∀ c, c ∈ [0, 1, 2, 14, 15, 16, 17, 18, 20, 21, 22, 23, 25, 26, 32, 34, 68] → A.1 c = mc.1 c) (k13 : A.1 13 7 = mc.1 13 7) (k8 : A.1 13 8 = mc.1 13 8 + 1) (k14 : A.1 13 14 = mc.1 13 14 + 1) (m42 : B.1 68 42 = mm.1 68 42 + 1) (m17 : B.1 68 17 = mm.1 68 17 + 1) (m1 : ∀ c, c ∈ [69, 70, 75, 76, 77, 78, 79, 80] → B.1 c = mm.1 c) (m68 : ∀ p, p ∈ [0, 2, 3, 45, 46] → B.1 68 p = mm.1 68 p) (c9 : A.1 13 9 = B.1 68 43) (cid : A.1 60 2 = B.1 68 44) (c12 : A.1 13 12 = B.1 68 18) (c13 : A.1 13 13 = B.1 68 19 ∧ (B.1 68 19 = 0 ∨ B.1 68 19 = 1)) (dr : A.1 24 1 = B.1 68 15 ∧ ∃ d, d < 3 ∧ B.1 68 15 = nI d) (sd : A.1 24 2 = B.1 68 16 ∧ 0 ≤ B.1 68 16) (hR : RRw A) (hSf : RSf (W * H) (cmb A B)) (hSp : RSp (cmb A B)) (hTk : RTk (cmb A B)) (hJ : RJ2 N' A B) : F2 N' W H A B := by
  obtain ⟨hP, hC, _, ⟨g1, g2, g3, g4, g5, g6, g7, g8, g9⟩, g, _⟩ := h
  have l : ∀ c, c ∈ [0, 1, 2, 14, 15, 16, 17, 18, 20, 21, 22, 23, 25, 26, 32, 34] → (cmb A B).1 c = (cmb mc mm).1 c := by
    intro c hc
    have hc' : c < 68 := by simp at hc; omega
    rw [cmb_l hc', cmb_l hc']
    exact k1 c (by simp at hc ⊢; omega)
  have r : ∀ c, c ∈ [69, 70, 75, 76, 77, 78, 79, 80] → (cmb A B).1 c = (cmb mc mm).1 c := by
    intro c hc
    have hc' : 68 ≤ c := by simp at hc; omega
    rw [cmb_r hc', cmb_r hc']
    exact m1 c hc
  have q : ∀ p, p ∈ [0, 2, 3, 45, 46] → (cmb A B).1 68 p = (cmb mc mm).1 68 p := by
    intro p hp
    rw [cmb_r (by decide), cmb_r (by decide)]
    exact m68 p hp
  have e13 : (cmb A B).1 13 = A.1 13 := cmb_l (by decide)
  have e13' : (cmb mc mm).1 13 = mc.1 13 := cmb_l (by decide)
  have e24 : (cmb A B).1 24 = A.1 24 := cmb_l (by decide)
  have e60 : (cmb A B).1 60 = A.1 60 := cmb_l (by decide)
  have e68 : (cmb A B).1 68 = B.1 68 := cmb_r (by decide)
  have e68' : (cmb mc mm).1 68 = mm.1 68 := cmb_r (by decide)
  refine ⟨hP.cg (congrFun (l 1 (by decide)) 1) (q 0 (by decide)) (l 2 (by decide)) (r 69 (by decide)), ?_, hR, ⟨g1.cg ?_ (congrFun (l 14 (by decide)) 0) (congrFun (l 14 (by decide)) 1) (congrFun (l 14 (by decide)) 2) (q 2 (by decide)) (q 3 (by decide)) (l 15 (by decide)) (l 16 (by decide)) (l 17 (by decide)) (l 18 (by decide)), g2.cg (l 20 (by decide)) (l 21 (by decide)) (l 22 (by decide)) (l 23 (by decide)) (r 75 (by decide)) (r 76 (by decide)) (r 77 (by decide)) (r 78 (by decide)), g3.cg (l 34 (by decide)) (r 75 (by decide)) (r 76 (by decide)) (r 77 (by decide)) (r 78 (by decide)), hSf, g5.cg (l 26 (by decide)) (r 80 (by decide)), ?_, ?_, hSp, hTk⟩, ?_, hJ⟩
  · obtain ⟨x1, x2, x3, x4, x5⟩ := hC
    refine ⟨?_, ?_, ?_, ?_, ?_⟩
    · rw [e13, e68, k8, m42]
      rw [e13', e68'] at x1
      rw [x1]
    · rw [e13, e68]; exact c9
    · rw [e60, e68]; exact cid
    · rw [l 0 (by decide), q 45 (by decide)]; exact x4
    · rw [l 0 (by decide), q 46 (by decide)]; exact x5
  · rw [e13, e13', k13]
  · obtain ⟨y1, _⟩ := g6
    refine ⟨fun k hk => ?_, ?_, ?_, ?_, ?_⟩
    · rw [l 25 (by decide), r 79 (by decide)]; exact y1 k hk
    · rw [e24, e68]; exact dr.1
    · rw [e68]; exact dr.2
    · rw [e24, e68]; exact sd.1
    · rw [e68]; exact sd.2
  · obtain ⟨y1, _⟩ := g7
    rw [e13', e68'] at y1
    unfold RFr
    rw [e13, e68, k14, m17, y1]
    exact ⟨rfl, c12, c13.1, c13.2⟩
  · exact g.cg k13 (congrFun (k1 14 (by decide)) 0) (congrFun (k1 14 (by decide)) 1) (congrFun (k1 14 (by decide)) 2) (congrFun (k1 68 (by decide)) 2) (congrFun (k1 68 (by decide)) 3) (k1 15 (by decide)) (k1 16 (by decide)) (k1 17 (by decide)) (k1 18 (by decide))
theorem tch_iff {D : Nat → Int32} {thr : Int32} {k : Nat} : ztch D thr k = 0 ↔ (!decide (D k < thr)) = false := by
  unfold ztch
  by_cases h : D k < thr
  · rw [if_pos h]
    simp [h]
  · rw [if_neg h]
    simp [h]
theorem frame_ok {N W H : Nat} {mc mm : zM} (h : F2 N W H mc mm) (hN : N + 20 < 2 ^ 30) : ∃ mc' mm' N', f_X7_runFrame mc = some mc' ∧ f_X12_frame mm = some mm' ∧ F2 N' W H mc' mm' ∧ (∀ c, 68 ≤ c → mc'.1 c = mc.1 c) ∧ (∀ c, c < 68 → mm'.1 c = mm.1 c) ∧ mm'.2 = mm.2 ∧ N ≤ N' ∧ N' ≤ N + 12 := by
  obtain ⟨hP, hC, hRw, hG, g, hJ⟩ := id h
  obtain ⟨g1, g2, g3, g4, g5, g6, g7, g8, g9⟩ := id hG
  obtain ⟨_, w3, w8, h3, h8, _, _, q3, _⟩ := id g
  have h64 : W * H ≤ 64 := Nat.mul_le_mul w8 h8
  have hw : mm.1 68 2 = nI W := by
    have q := pr_wide hG
    rw [cmb_r (by decide)] at q
    exact q
  have hh : mm.1 68 3 = nI H := by
    have q := pr_high hG
    rw [cmb_r (by decide)] at q
    exact q
  have hSf : ∀ k, k < W * H → mc.1 32 k = mm.1 70 k ∧ mc.1 33 k = mm.1 71 k ∧ mc.1 35 k = mm.1 72 k ∧ mc.1 36 k = mm.1 73 k ∧ mc.1 52 k = mm.1 74 k := fun k hk => g4.1 k hk
  have hSf2 : ∀ k, k < W * H → 0 ≤ mm.1 70 k ∧ mm.1 70 k ≤ 999 ∧ -3000 ≤ mm.1 71 k ∧ mm.1 71 k ≤ 3000 := fun k hk => g4.2 k hk
  have hSn : ∀ k, k < W * H → mc.1 34 k = zfelt (mm.1 75) (mm.1 76) (mm.1 77) (mm.1 78) W k := fun k hk => g3 k hk
  have hSt : ∀ k, k < 9 → mc.1 26 k = mm.1 80 k ∧ zxs 1001 k ≤ mm.1 80 k ∧ mm.1 80 k ≤ zxs 1002 k := fun k hk => g5 k hk
  have hDl : ∀ k, k < 3 → mc.1 25 k = mm.1 79 k ∧ 0 ≤ mm.1 79 k ∧ mm.1 79 k ≤ 60 := fun k hk => g6.1 k hk
  have hD1 : mc.1 24 1 = mm.1 68 15 := g6.2.1
  obtain ⟨d, hd, ed⟩ : ∃ d : Nat, d < 3 ∧ mm.1 68 15 = nI d := g6.2.2.1
  have hD2 : mc.1 24 2 = mm.1 68 16 := g6.2.2.2.1
  have hs0 : 0 ≤ mm.1 68 16 := g6.2.2.2.2
  obtain ⟨L, hL, eL⟩ : ∃ L : Nat, L ≤ 60 ∧ mm.1 79 d = nI L := by
    obtain ⟨k, hk, e⟩ := (winK (k := 60) (by omega)).mp ⟨(hDl d hd).2.1, (hDl d hd).2.2⟩
    exact ⟨k, hk, e⟩
  have hFr : mc.1 13 14 = mm.1 68 17 := g7.1
  -- the cells sense
  obtain ⟨A0, hA0⟩ : ∃ A0, A0 = zi (zi mc 13 14 (mc.1 13 14 + 1)) 13 8 (mc.1 13 8 + 1) := ⟨_, rfl⟩
  obtain ⟨B0, hB0⟩ : ∃ B0, B0 = zi (zi mm 68 17 (mm.1 68 17 + 1)) 68 42 (mm.1 68 42 + 1) := ⟨_, rfl⟩
  have fA0 : Fr [13] mc A0 := by rw [hA0]; exact (Fr.refl.st (by decide)).st (by decide)
  have fB0 : Fr [68] mm B0 := by rw [hB0]; exact (Fr.refl.st (by decide)).st (by decide)
  have A0_13 : ∀ p, p ≠ 14 → p ≠ 8 → A0.1 13 p = mc.1 13 p := fun p h1 h2 => by rw [hA0, ziN h2, ziN h1]
  have A0_14 : A0.1 13 14 = mc.1 13 14 + 1 := by rw [hA0, ziN (by decide), ziE]
  have A0_8 : A0.1 13 8 = mc.1 13 8 + 1 := by rw [hA0, ziE]
  have B0_68 : ∀ p, p ≠ 17 → p ≠ 42 → B0.1 68 p = mm.1 68 p := fun p h1 h2 => by rw [hB0, ziN h2, ziN h1]
  have B0_17 : B0.1 68 17 = mm.1 68 17 + 1 := by rw [hB0, ziN (by decide), ziE]
  have B0_42 : B0.1 68 42 = mm.1 68 42 + 1 := by rw [hB0, ziE]
  obtain ⟨A1, s1, s2, s3, s4, s5⟩ := sense_c (m := A0) (n := W * H) (d := d) (thr := mc.1 26 1) (s0 := mm.1 68 16) (L := L) (A := mm.1 70) (S := fun k => zfelt (mm.1 75) (mm.1 76) (mm.1 77) (mm.1 78) W k) (U := mm.1 71) (by rw [fA0.2 14 (by decide)]; exact q3) h64 (fun k hk => by rw [fA0.2 32 (by decide)]; exact (hSf k hk).1) (fun k hk => by rw [fA0.2 34 (by decide)]; exact hSn k hk) (fun k hk => by rw [fA0.2 33 (by decide)]; exact (hSf k hk).2.1) hd (by rw [fA0.2 24 (by decide), hD1]; exact ed) (by rw [fA0.2 25 (by decide), (hDl d hd).1]; exact eL) hL (by rw [fA0.2 24 (by decide)]; exact hD2) hs0
  obtain ⟨B1, t1, t2, t3, t4, t5⟩ := layRaw_m (m := B0) (W := W) (H := H) (d := d) (s0 := mm.1 68 16) (L := L) (A := mm.1 70) (S := fun k => zfelt (mm.1 75) (mm.1 76) (mm.1 77) (mm.1 78) W k) (U := mm.1 71) (by rw [B0_68 2 (by decide) (by decide)]; exact hw) (by rw [B0_68 3 (by decide) (by decide)]; exact hh) w3 w8 h3 h8 (fun k hk => by rw [fB0.2 70 (by decide)]) (fun k hk => by rw [fB0.2 75 (by decide), fB0.2 76 (by decide), fB0.2 77 (by decide), fB0.2 78 (by decide)]) (fun k hk => by rw [fB0.2 71 (by decide)]) hd (by rw [B0_68 15 (by decide) (by decide)]; exact ed) (by rw [fB0.2 79 (by decide)]; exact eL) hL (B0_68 16 (by decide) (by decide)) hs0
  have bds : ∀ k, k < W * H → -60 ≤ (zraw (mm.1 70) (fun k => zfelt (mm.1 75) (mm.1 76) (mm.1 77) (mm.1 78) W k) (mm.1 68 16) (nI L) k).toInt ∧ (zraw (mm.1 70) (fun k => zfelt (mm.1 75) (mm.1 76) (mm.1 77) (mm.1 78) W k) (mm.1 68 16) (nI L) k).toInt ≤ 2309 ∧ (zdel (mm.1 70) (fun k => zfelt (mm.1 75) (mm.1 76) (mm.1 77) (mm.1 78) W k) (mm.1 71) (mm.1 68 16) (nI L) k).toInt = (zraw (mm.1 70) (fun k => zfelt (mm.1 75) (mm.1 76) (mm.1 77) (mm.1 78) W k) (mm.1 68 16) (nI L) k).toInt - (mm.1 71 k).toInt := by
    intro k hk
    obtain ⟨f, f1, f2⟩ := felt_bd (m := cmb mc mm) g2 w3 w8 h8 hk
    obtain ⟨x1, x2, x3, x4⟩ := hSf2 k hk
    exact raw_bd (f := f) hL hs0 x1 x2 f1 f2 x3 x4
  generalize hRR : zraw (mm.1 70) (fun k => zfelt (mm.1 75) (mm.1 76) (mm.1 77) (mm.1 78) W k) (mm.1 68 16) (nI L) = RR at s5 t5 bds
  generalize hDD : zdel (mm.1 70) (fun k => zfelt (mm.1 75) (mm.1 76) (mm.1 77) (mm.1 78) W k) (mm.1 71) (mm.1 68 16) (nI L) = D at s5 t5 bds
  have sdp : 0 ≤ sdn (mm.1 68 16) (nI L) (W * H) := sdn_pos hs0 _
  generalize sdn (mm.1 68 16) (nI L) (W * H) = sd at s4 t4 sdp
  have DI : ∀ k, k < W * H → -3060 ≤ (D k).toInt ∧ (D k).toInt ≤ 5309 := by
    intro k hk
    obtain ⟨x1, x2, x3⟩ := bds k hk
    obtain ⟨_, _, y3, y4⟩ := hSf2 k hk
    rw [le32, show (-3000 : Int32).toInt = -3000 by decide] at y3
    rw [le32, show (3000 : Int32).toInt = 3000 by decide] at y4
    omega
  have A1_13 : A1.1 13 = A0.1 13 := s2.2 13 (by decide)
  have A1_26 : A1.1 26 = mc.1 26 := (s2.2 26 (by decide)).trans (fA0.2 26 (by decide))
  have B1_80 : B1.1 80 = mm.1 80 := (t2.2 80 (by decide)).trans (fB0.2 80 (by decide))
  have cA1 : ∀ c, c ≠ 13 → c ∉ [24, 35, 36, 37] → A1.1 c = mc.1 c := fun c h1 h2 => (s2.2 c h2).trans (fA0.2 c (by simp [h1]))
  have cB1 : ∀ c, c ∉ [68, 72, 73, 74] → B1.1 c = mm.1 c := fun c h2 => (t2.2 c h2).trans (fB0.2 c (by simp at h2 ⊢; omega))
  have A1_2 : A1.2 = mc.2 := s2.1.trans fA0.1
  have B1_2 : B1.2 = mm.2 := t2.1.trans fB0.1
  have gA1 : RGr W H A1 := g.cg (by rw [A1_13]; exact A0_13 7 (by decide) (by decide)) (congrFun (cA1 14 (by decide) (by decide)) 0) (congrFun (cA1 14 (by decide) (by decide)) 1) (congrFun (cA1 14 (by decide) (by decide)) 2) (congrFun (cA1 68 (by decide) (by decide)) 2) (congrFun (cA1 68 (by decide) (by decide)) 3) (cA1 15 (by decide) (by decide)) (cA1 16 (by decide) (by decide)) (cA1 17 (by decide) (by decide)) (cA1 18 (by decide) (by decide))
  have thrE : mc.1 26 1 = mm.1 80 1 := (hSt 1 (by omega)).1
  rw [thrE] at s1 s5
  have eS := spread_c (m := A1) (P := fun k => !decide (D k < mm.1 80 1)) (D := D) gA1 (fun k hk => by rw [(s5 k hk).2.2]; exact tch_iff) (fun k hk => (s5 k hk).2.1)
  have B1_68 : ∀ p, p ≠ 16 → p ≠ 17 → p ≠ 42 → B1.1 68 p = mm.1 68 p := fun p h1 h2 h3 => by rw [t3 p h1]; exact B0_68 p h2 h3
  have eT := spread_m (m := zi B1 68 20 0) (W := W) (H := H) (P := fun k => !decide (D k < mm.1 80 1)) (D := D) (by rw [ziN (by decide), B1_68 2 (by decide) (by decide) (by decide)]; exact hw) (by rw [ziN (by decide), B1_68 3 (by decide) (by decide) (by decide)]; exact hh) w3 w8 h3 h8 (fun k hk => by rw [ziO (by decide), ziO (by decide), (t5 k hk).2.1, B1_80]) (fun k hk => by rw [ziO (by decide)]; exact (t5 k hk).2.1) (fun k hk => by
    have := DI k hk
    rw [lt32, lt32, show (-268435456 : Int32).toInt = -268435456 by decide, show (268435456 : Int32).toInt = 268435456 by decide]
    omega)
  generalize zspread (fun k => !decide (D k < mm.1 80 1)) D W H = sp at eS eT
  have m5 : ∀ c, c < 68 → B1.1 c = mm.1 c := fun c hc => cB1 c (by simp; omega)
  have m6 : ∀ c, 68 ≤ c → A1.1 c = mc.1 c := fun c hc => cA1 c (by omega) (by simp; omega)
  unfold f_X7_runFrame f_X12_frame
  rw [← hA0, ← hB0, thrE, s1, t1]
  simp only [Option.bind_some, eS, eT, A1_26, B1_80, (hSt 8 (by omega)).1]
  by_cases cq : sp ≤ mm.1 80 8
  · rw [if_pos cq, if_pos cq]
    unfold j_X7_runFrame_68 j_X12_frame_57
    rw [show zb (0 : Int32) = true by decide, zg_t, zg_t, if_pos rfl, if_pos rfl]
    obtain ⟨A, hA⟩ : ∃ A, A = zi (zi A1 13 12 sp) 13 13 0 := ⟨_, rfl⟩
    obtain ⟨B, hB⟩ : ∃ B, B = zi (zi (zi B1 68 20 0) 68 18 sp) 68 19 0 := ⟨_, rfl⟩
    rw [← hA, ← hB]
    have fA : Fr [13] A1 A := by rw [hA]; exact (Fr.refl.st (by decide)).st (by decide)
    have fB : Fr [68] B1 B := by rw [hB]; exact ((Fr.refl.st (by decide)).st (by decide)).st (by decide)
    have A_13 : ∀ p, p ≠ 12 → p ≠ 13 → A.1 13 p = A0.1 13 p := fun p h1 h2 => by rw [hA, ziN h2, ziN h1, A1_13]
    have A_12 : A.1 13 12 = sp := by rw [hA, ziN (by decide), ziE]
    have A_1313 : A.1 13 13 = 0 := by rw [hA, ziE]
    have B_68 : ∀ p, p ≠ 20 → p ≠ 18 → p ≠ 19 → B.1 68 p = B1.1 68 p := fun p h1 h2 h3 => by rw [hB, ziN h3, ziN h2, ziN h1]
    have B_18 : B.1 68 18 = sp := by rw [hB, ziN (by decide), ziE]
    have B_19 : B.1 68 19 = 0 := by rw [hB, ziE]
    have A_2 : A.2 = mc.2 := fA.1.trans A1_2
    have gA : RGr W H A := gA1.cg (by rw [A_13 7 (by decide) (by decide), A1_13]) (congrFun (fA.2 14 (by decide)) 0) (congrFun (fA.2 14 (by decide)) 1) (congrFun (fA.2 14 (by decide)) 2) (congrFun (fA.2 68 (by decide)) 2) (congrFun (fA.2 68 (by decide)) 3) (fA.2 15 (by decide)) (fA.2 16 (by decide)) (fA.2 17 (by decide)) (fA.2 18 (by decide))
    have A_26 : A.1 26 = mc.1 26 := (fA.2 26 (by decide)).trans A1_26
    have B_80 : B.1 80 = mm.1 80 := (fB.2 80 (by decide)).trans B1_80
    obtain ⟨T, hT6, c60, m27, hTT⟩ := RTk_to g9 hRw.2.1
    have A_60 : A.1 60 = mc.1 60 := (fA.2 60 (by decide)).trans (cA1 60 (by decide) (by decide))
    have hC3 : mc.1 60 2 = mm.1 68 44 := hC.2.2.1
    obtain ⟨A', B', N', u1, u2, u3, u4, u5, u6, u7, u8, u9, u10, u11, u12, u13⟩ := quiet_ok (A := A) (B := B) (W := W) (H := H) (N := N) (P := fun k => !decide (D k < mm.1 80 1)) (D := D) (R := RR) (U := mm.1 71) (pct := (zi A1 13 12 sp).1 26 2) gA (by rw [B_68 2 (by decide) (by decide) (by decide), B1_68 2 (by decide) (by decide) (by decide)]; exact hw) (by rw [B_68 3 (by decide) (by decide) (by decide), B1_68 3 (by decide) (by decide) (by decide)]; exact hh) (hRw.cg (by rw [A_2]) (by rw [A_2])) (fun k hk => by rw [A_26, B_80]; exact hSt k hk) (by rw [A_26, zi_ne (by decide), A1_26]) (fun k hk => by rw [fA.2 36 (by decide)]; exact (s5 k hk).2.1) (fun k hk => by rw [fB.2 73 (by decide)]; exact (t5 k hk).2.1) (fun k hk => by
      have := DI k hk
      rw [le32, show (6000 : Int32).toInt = 6000 by decide]
      omega) (fun k hk => by rw [fA.2 37 (by decide), (s5 k hk).2.2]; exact tch_iff) (fun k hk => by rw [B_80]) (fun k hk => by rw [fB.2 74 (by decide)]; exact (t5 k hk).2.2) (fun k hk => by rw [fA.2 35 (by decide), fB.2 72 (by decide)]; exact ⟨(s5 k hk).1, (t5 k hk).1⟩) (fun k hk => by
      rw [fA.2 33 (by decide), fB.2 71 (by decide), cA1 33 (by decide) (by decide), cB1 71 (by decide)]
      exact ⟨(hSf k hk).2.1, rfl⟩) ⟨T, hT6, by rw [A_60]; exact c60, by rw [B_68 27 (by decide) (by decide) (by decide), B1_68 27 (by decide) (by decide) (by decide)]; exact m27, fun j hj => by
        obtain ⟨z1, z2⟩ := hTT j hj
        have l1 := hRw.2.1 j (by omega)
        have eR : A.2.2 61 j = mc.2.2 61 j := by rw [A_2]
        rw [eR]
        refine ⟨z1.cg ?_ (fun c h1 h2 => by rw [fB.2 c (by simp; omega), cB1 c (by simp; omega)]), z2.cg (fun c h1 h2 => by rw [fB.2 c (by simp; omega), cB1 c (by simp; omega)])⟩
        rw [fA.2 _ (by simp; omega), cA1 _ (by omega) (by simp; omega)]⟩ (by rw [A_60, B_68 44 (by decide) (by decide) (by decide), B1_68 44 (by decide) (by decide) (by decide)]; exact hC3) (hJ.cg (by rw [fA.2 8 (by decide), cA1 8 (by decide) (by decide)]) (by rw [fA.2 9 (by decide), cA1 9 (by decide) (by decide)]) (by rw [fA.2 10 (by decide), cA1 10 (by decide) (by decide)]) (by rw [fA.2 11 (by decide), cA1 11 (by decide) (by decide)]) (by rw [fA.2 12 (by decide), cA1 12 (by decide) (by decide)]) (by rw [B_68 37 (by decide) (by decide) (by decide), B1_68 37 (by decide) (by decide) (by decide)]) (by rw [fB.2 96 (by decide), cB1 96 (by decide)]) (by rw [fB.2 97 (by decide), cB1 97 (by decide)]) (by rw [fB.2 98 (by decide), cB1 98 (by decide)]) (by rw [fB.2 99 (by decide), cB1 99 (by decide)])) hN (by rw [A_13 14 (by decide) (by decide), A0_14, B_68 17 (by decide) (by decide) (by decide), t3 17 (by decide), B0_17, hFr])
    have A'_13 : A'.1 13 = A.1 13 := u3.1 13 (by decide)
    have A'_24 : A'.1 24 = A1.1 24 := (u3.1 24 (by decide)).trans (fA.2 24 (by decide))
    have dd : B'.1 68 15 = nI d := by rw [u5 15 (by decide) (by decide) (by decide) (by decide), B_68 15 (by decide) (by decide) (by decide), B1_68 15 (by decide) (by decide) (by decide)]; exact ed
    have ss : B'.1 68 16 = sd := by rw [u5 16 (by decide) (by decide) (by decide) (by decide), B_68 16 (by decide) (by decide) (by decide)]; exact t4
    refine ⟨A', B', N', u1, u2, F2_of h ?_ ?_ ?_ ?_ ?_ ?_ ?_ ?_ ?_ u9 ?_ ?_ ?_ ?_ u6 ?_ u7 u8 u10, ?_, ?_, ?_, u11, u12⟩
    · intro c hc
      have h1 : c ≠ 13 := fun z => by rw [z] at hc; exact absurd hc (by decide)
      have h2 : c ∉ LQ := by simp [LQ] at hc ⊢; omega
      rw [u3.1 c h2, fA.2 c (by simp [h1]), cA1 c h1 (by simp at hc ⊢; omega)]
    · rw [A'_13, A_13 7 (by decide) (by decide), A0_13 7 (by decide) (by decide)]
    · rw [A'_13, A_13 8 (by decide) (by decide), A0_8]
    · rw [A'_13, A_13 14 (by decide) (by decide), A0_14]
    · rw [u5 42 (by decide) (by decide) (by decide) (by decide), B_68 42 (by decide) (by decide) (by decide), t3 42 (by decide), B0_42]
    · rw [u5 17 (by decide) (by decide) (by decide) (by decide), B_68 17 (by decide) (by decide) (by decide), t3 17 (by decide), B0_17]
    · intro c hc
      rw [u4.2 c (by simp [LN] at hc ⊢; omega), fB.2 c (by simp at hc ⊢; omega), cB1 c (by simp at hc ⊢; omega)]
    · intro p hp
      simp at hp
      rw [u5 p (by omega) (by omega) (by omega) (by omega), B_68 p (by omega) (by omega) (by omega), B1_68 p (by omega) (by omega) (by omega)]
    · have x2 : mc.1 13 9 = mm.1 68 43 := hC.2.1
      rw [A'_13, A_13 9 (by decide) (by decide), A0_13 9 (by decide) (by decide), u5 43 (by decide) (by decide) (by decide) (by decide), B_68 43 (by decide) (by decide) (by decide), B1_68 43 (by decide) (by decide) (by decide)]
      exact x2
    · rw [A'_13, A_12, u5 18 (by decide) (by decide) (by decide) (by decide), B_18]
    · rw [A'_13, A_1313, u5 19 (by decide) (by decide) (by decide) (by decide), B_19]
      exact ⟨rfl, Or.inl rfl⟩
    · rw [A'_24, s3, dd]
      exact ⟨rfl, d, hd, rfl⟩
    · rw [A'_24, s4, ss]
      exact ⟨rfl, sdp⟩
    · have e33 : (cmb A' B').1 33 = A'.1 33 := cmb_l (by decide)
      have e32 : (cmb A' B').1 32 = mc.1 32 := (cmb_l (by decide)).trans ((u3.1 32 (by decide)).trans ((fA.2 32 (by decide)).trans (cA1 32 (by decide) (by decide))))
      have e35 : (cmb A' B').1 35 = A1.1 35 := (cmb_l (by decide)).trans ((u3.1 35 (by decide)).trans (fA.2 35 (by decide)))
      have e36 : (cmb A' B').1 36 = A1.1 36 := (cmb_l (by decide)).trans ((u3.1 36 (by decide)).trans (fA.2 36 (by decide)))
      have e52 : (cmb A' B').1 52 = A'.1 52 := cmb_l (by decide)
      have e70 : (cmb A' B').1 70 = mm.1 70 := (cmb_r (by decide)).trans ((u4.2 70 (by decide)).trans ((fB.2 70 (by decide)).trans (cB1 70 (by decide))))
      have e71 : (cmb A' B').1 71 = B'.1 71 := cmb_r (by decide)
      have e72 : (cmb A' B').1 72 = B1.1 72 := (cmb_r (by decide)).trans ((u4.2 72 (by decide)).trans (fB.2 72 (by decide)))
      have e73 : (cmb A' B').1 73 = B1.1 73 := (cmb_r (by decide)).trans ((u4.2 73 (by decide)).trans (fB.2 73 (by decide)))
      have e74 : (cmb A' B').1 74 = B'.1 74 := cmb_r (by decide)
      refine ⟨fun k hk => ?_, fun k hk => ?_⟩
      · rw [e32, e33, e35, e36, e52, e70, e71, e72, e73, e74, (s5 k hk).1, (t5 k hk).1, (s5 k hk).2.1, (t5 k hk).2.1]
        exact ⟨(hSf k hk).1, (u13 k hk).1, rfl, rfl, (u13 k hk).2.1⟩
      · obtain ⟨x1, x2, x3, x4⟩ := hSf2 k hk
        obtain ⟨Q, hQ⟩ := (u13 k hk).2.2
        obtain ⟨y1, y2, _⟩ := bds k hk
        rw [e70, e71, hQ, B_80]
        have := drB_bd (P := Q) (R := RR) (U := mm.1 71) (x := mm.1 80 7) (W := W) (H := H) (k := k) (hSt 7 (by omega)).2.1 (hSt 7 (by omega)).2.2 y1 y2 x3 x4
        exact ⟨x1, x2, this.1, this.2⟩
    · intro c hc
      rw [u3.1 c (by simp [LQ]; omega), fA.2 c (by simp; omega)]
      exact m6 c hc
    · intro c hc
      rw [u4.2 c (by simp [LN]; omega), fB.2 c (by simp; omega)]
      exact m5 c hc
    · exact u4.1.trans (fB.1.trans B1_2)
  · rw [if_neg cq, if_neg cq]
    unfold j_X7_runFrame_68 j_X12_frame_57
    rw [show zb (1 : Int32) = true by decide, zg_t, zg_t, if_neg (by decide), if_neg (by decide)]
    obtain ⟨A, hA⟩ : ∃ A, A = zi (zi (zi A1 13 12 sp) 13 13 1) 13 9 ((zi A1 13 12 sp).1 13 9 + 1) := ⟨_, rfl⟩
    obtain ⟨B, hB⟩ : ∃ B, B = zi (zi (zi (zi (zi B1 68 20 0) 68 18 sp) 68 19 1) 68 43 ((zi (zi B1 68 20 0) 68 18 sp).1 68 43 + 1)) 68 15 (zrem ((zi (zi B1 68 20 0) 68 18 sp).1 68 15 + 1) 3) := ⟨_, rfl⟩
    rw [← hA, ← hB]
    have fA : Fr [13] A1 A := by rw [hA]; exact ((Fr.refl.st (by decide)).st (by decide)).st (by decide)
    have fB : Fr [68] B1 B := by rw [hB]; exact ((((Fr.refl.st (by decide)).st (by decide)).st (by decide)).st (by decide)).st (by decide)
    have A_13 : ∀ p, p ≠ 12 → p ≠ 13 → p ≠ 9 → A.1 13 p = A0.1 13 p := fun p h1 h2 h3 => by rw [hA, ziN h3, ziN h2, ziN h1, A1_13]
    have A_12 : A.1 13 12 = sp := by rw [hA, ziN (by decide), ziN (by decide), ziE]
    have A_1313 : A.1 13 13 = 1 := by rw [hA, ziN (by decide), ziE]
    have A_9 : A.1 13 9 = mc.1 13 9 + 1 := by rw [hA, ziE, ziN (by decide), A1_13, A0_13 9 (by decide) (by decide)]
    have B_68 : ∀ p, p ≠ 20 → p ≠ 18 → p ≠ 19 → p ≠ 43 → p ≠ 15 → B.1 68 p = B1.1 68 p := fun p h1 h2 h3 h4 h5 => by rw [hB, ziN h5, ziN h4, ziN h3, ziN h2, ziN h1]
    have B_18 : B.1 68 18 = sp := by rw [hB, ziN (by decide), ziN (by decide), ziN (by decide), ziE]
    have B_19 : B.1 68 19 = 1 := by rw [hB, ziN (by decide), ziN (by decide), ziE]
    have B_20 : B.1 68 20 = 0 := by rw [hB, ziN (by decide), ziN (by decide), ziN (by decide), ziN (by decide), ziE]
    have B_43 : B.1 68 43 = mm.1 68 43 + 1 := by rw [hB, ziN (by decide), ziE, ziN (by decide), ziN (by decide), B1_68 43 (by decide) (by decide) (by decide)]
    have rd : zrem (nI (d + 1)) 3 = nI ((d + 1) % 3) := pk_rem (d := 3) (by omega) (by omega) (by omega)
    have B_15 : B.1 68 15 = nI ((d + 1) % 3) := by rw [hB, ziE, ziN (by decide), ziN (by decide), B1_68 15 (by decide) (by decide) (by decide), ed, nI_1, rd]
    have A_24 : A.1 24 1 = nI d := by rw [fA.2 24 (by decide)]; exact s3
    have act : f_X0_activateNext A = some (zi A 24 1 (nI ((d + 1) % 3))) := by
      unfold f_X0_activateNext j_X0_activateNext_19
      rw [A_24]
      by_cases q : 2 ≤ d
      · rw [if_pos (show (2 : Int32) ≤ nI d from nI_le (a := 2) q (by omega)), show (d + 1) % 3 = 0 by omega]
        rfl
      · rw [if_neg (show ¬ (2 : Int32) ≤ nI d from nI_ge (b := 2) (by omega) (by omega)), nI_1, show (d + 1) % 3 = d + 1 by omega]
    obtain ⟨A', hA'⟩ : ∃ A', A' = zrow (zi (zi A 24 1 (nI ((d + 1) % 3))) 44 4 0) 52 (zup 64 (fun _ => -1) ((zi (zi A 24 1 (nI ((d + 1) % 3))) 44 4 0).1 52)) := ⟨_, rfl⟩
    have clr : f_X8_clear (zi A 24 1 (nI ((d + 1) % 3))) = some A' := by
      unfold f_X8_clear
      rw [fill_52, hA']
      rfl
    have fA' : Fr [24, 44, 52] A A' := by
      rw [hA']
      refine ⟨rfl, fun c hc => ?_⟩
      simp at hc
      rw [zrow_ne (by omega), zi_ne (by omega), zi_ne (by omega)]
    have A'_13 : A'.1 13 = A.1 13 := fA'.2 13 (by decide)
    have A'_24 : A'.1 24 1 = nI ((d + 1) % 3) := by rw [hA', zrow_ne (by decide), ziO (by decide), ziE]
    have A'_242 : A'.1 24 2 = sd := by rw [hA', zrow_ne (by decide), ziO (by decide), ziN (by decide), fA.2 24 (by decide)]; exact s4
    have A'_44 : A'.1 44 4 = nI 0 := by rw [hA', zrow_ne (by decide), ziE]; rfl
    have A'_52 : ∀ k, k < W * H → A'.1 52 k = -1 := fun k hk => by rw [hA', zrow_eq, zup_lt (by omega)]
    have A'_2 : A'.2 = mc.2 := fA'.1.trans (fA.1.trans A1_2)
    have cA' : ∀ c, c ≠ 13 → c ∉ [24, 35, 36, 37, 44, 52] → A'.1 c = mc.1 c := fun c h1 h2 => by
      simp at h2
      rw [fA'.2 c (by simp; omega), fA.2 c (by simp [h1]), cA1 c h1 (by simp; omega)]
    have cB' : ∀ c, c ∉ [68, 72, 73, 74] → B.1 c = mm.1 c := fun c h2 => by rw [fB.2 c (by simp at h2 ⊢; omega), cB1 c h2]
    rw [act]
    simp only [Option.bind_some]
    rw [clr]
    simp only [Option.bind_some]
    refine ⟨A', B, N, rfl, rfl, F2_of h ?_ ?_ ?_ ?_ ?_ ?_ ?_ ?_ ?_ ?_ ?_ ?_ ?_ ?_ ?_ ?_ ?_ ?_ ?_, ?_, ?_, ?_, Nat.le_refl _, by omega⟩
    · intro c hc
      have h1 : c ≠ 13 := fun z => by rw [z] at hc; exact absurd hc (by decide)
      exact cA' c h1 (by simp at hc ⊢; omega)
    · rw [A'_13, A_13 7 (by decide) (by decide) (by decide), A0_13 7 (by decide) (by decide)]
    · rw [A'_13, A_13 8 (by decide) (by decide) (by decide), A0_8]
    · rw [A'_13, A_13 14 (by decide) (by decide) (by decide), A0_14]
    · rw [B_68 42 (by decide) (by decide) (by decide) (by decide) (by decide), t3 42 (by decide), B0_42]
    · rw [B_68 17 (by decide) (by decide) (by decide) (by decide) (by decide), t3 17 (by decide), B0_17]
    · intro c hc
      exact cB' c (by simp at hc ⊢; omega)
    · intro p hp
      simp at hp
      rw [B_68 p (by omega) (by omega) (by omega) (by omega) (by omega), B1_68 p (by omega) (by omega) (by omega)]
    · have x2 : mc.1 13 9 = mm.1 68 43 := hC.2.1
      rw [A'_13, A_9, B_43, x2]
    · have x3 : mc.1 60 2 = mm.1 68 44 := hC.2.2.1
      rw [cA' 60 (by decide) (by decide), B_68 44 (by decide) (by decide) (by decide) (by decide) (by decide), B1_68 44 (by decide) (by decide) (by decide)]
      exact x3
    · rw [A'_13, A_12, B_18]
    · rw [A'_13, A_1313, B_19]
      exact ⟨rfl, Or.inr rfl⟩
    · rw [A'_24, B_15]
      exact ⟨rfl, (d + 1) % 3, Nat.mod_lt _ (by decide), rfl⟩
    · rw [A'_242, B_68 16 (by decide) (by decide) (by decide) (by decide) (by decide), t4]
      exact ⟨rfl, sdp⟩
    · exact hRw.cg (by rw [A'_2]) (by rw [A'_2])
    · have e32 : (cmb A' B).1 32 = mc.1 32 := (cmb_l (by decide)).trans (cA' 32 (by decide) (by decide))
      have e33 : (cmb A' B).1 33 = mc.1 33 := (cmb_l (by decide)).trans (cA' 33 (by decide) (by decide))
      have e35 : (cmb A' B).1 35 = A1.1 35 := (cmb_l (by decide)).trans ((fA'.2 35 (by decide)).trans (fA.2 35 (by decide)))
      have e36 : (cmb A' B).1 36 = A1.1 36 := (cmb_l (by decide)).trans ((fA'.2 36 (by decide)).trans (fA.2 36 (by decide)))
      have e52 : (cmb A' B).1 52 = A'.1 52 := cmb_l (by decide)
      have e70 : (cmb A' B).1 70 = mm.1 70 := (cmb_r (by decide)).trans (cB' 70 (by decide))
      have e71 : (cmb A' B).1 71 = mm.1 71 := (cmb_r (by decide)).trans (cB' 71 (by decide))
      have e72 : (cmb A' B).1 72 = B1.1 72 := (cmb_r (by decide)).trans (fB.2 72 (by decide))
      have e73 : (cmb A' B).1 73 = B1.1 73 := (cmb_r (by decide)).trans (fB.2 73 (by decide))
      have e74 : (cmb A' B).1 74 = B1.1 74 := (cmb_r (by decide)).trans (fB.2 74 (by decide))
      refine ⟨fun k hk => ?_, fun k hk => ?_⟩
      · rw [e32, e33, e35, e36, e52, e70, e71, e72, e73, e74, (s5 k hk).1, (t5 k hk).1, (s5 k hk).2.1, (t5 k hk).2.1, (t5 k hk).2.2, A'_52 k hk]
        exact ⟨(hSf k hk).1, (hSf k hk).2.1, rfl, rfl, rfl⟩
      · rw [e70, e71]
        exact hSf2 k hk
    · exact RSp_of (S := 0) (by omega) A'_44 (by rw [B_20]; rfl) (fun s hs => by omega)
    · obtain ⟨T, hT6, c60, m27, hTT⟩ := RTk_to g9 hRw.2.1
      refine RTk_of hT6 (by rw [cA' 60 (by decide) (by decide)]; exact c60) (by rw [B_68 27 (by decide) (by decide) (by decide) (by decide) (by decide), B1_68 27 (by decide) (by decide) (by decide)]; exact m27) (by rw [A'_2]; exact hRw.2.1) (fun j hj => ?_)
      obtain ⟨z1, z2⟩ := hTT j hj
      have l1 := hRw.2.1 j (by omega)
      rw [A'_2]
      exact ⟨z1.cg (cA' _ (by omega) (by simp; omega)) (fun c h1 h2 => by rw [cB' c (by simp; omega)]), z2.cg (fun c h1 h2 => by rw [cB' c (by simp; omega)])⟩
    · exact hJ.cg (by rw [cA' 8 (by decide) (by decide)]) (cA' 9 (by decide) (by decide)) (cA' 10 (by decide) (by decide)) (cA' 11 (by decide) (by decide)) (cA' 12 (by decide) (by decide)) (by rw [B_68 37 (by decide) (by decide) (by decide) (by decide) (by decide), B1_68 37 (by decide) (by decide) (by decide)]) (cB' 96 (by decide)) (cB' 97 (by decide)) (cB' 98 (by decide)) (cB' 99 (by decide))
    · intro c hc
      exact cA' c (by omega) (by simp; omega)
    · intro c hc
      exact cB' c (by simp; omega)
    · exact fB.1.trans B1_2
