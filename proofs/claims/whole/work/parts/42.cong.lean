/-! ===== what a relation reads ===== -/
theorem RP.cg  {m m' : zM} (h : RP m) (h0 : m'.1 1 1 = m.1 1 1) (h1 : m'.1 68 0 = m.1 68 0) (h2 : m'.1 2 = m.1 2) (h3 : m'.1 69 = m.1 69) : RP m' := by
  unfold RP at h ⊢
  simp only [h0, h1, h2, h3]
  exact h
theorem RJ.cg {t : Nat} {m m' : zM} (h : RJ t m) (h0 : m'.1 8 4 = m.1 8 4) (h1 : m'.1 68 37 = m.1 68 37) (h2 : m'.1 96 = m.1 96) (h3 : m'.1 97 = m.1 97) (h4 : m'.1 98 = m.1 98) (h5 : m'.1 9 = m.1 9) (h6 : m'.1 10 = m.1 10) (h7 : m'.1 11 = m.1 11) (h8 : m'.1 12 = m.1 12) (h9 : m'.1 99 = m.1 99) : RJ t m' := by
  unfold RJ at h ⊢
  simp only [h0, h1, h2, h3, h4, h5, h6, h7, h8, h9]
  exact h
theorem RC.cg  {m m' : zM} (h : RC m) (h0 : m'.1 13 8 = m.1 13 8) (h1 : m'.1 68 42 = m.1 68 42) (h2 : m'.1 13 9 = m.1 13 9) (h3 : m'.1 68 43 = m.1 68 43) (h4 : m'.1 60 2 = m.1 60 2) (h5 : m'.1 68 44 = m.1 68 44) (h6 : m'.1 0 3 = m.1 0 3) (h7 : m'.1 68 45 = m.1 68 45) (h8 : m'.1 0 4 = m.1 0 4) (h9 : m'.1 68 46 = m.1 68 46) : RC m' := by
  unfold RC at h ⊢
  simp only [h0, h1, h2, h3, h4, h5, h6, h7, h8, h9]
  exact h
theorem RRw.cg  {m m' : zM} (h : RRw m) (h0 : m'.2.2 45 = m.2.2 45) (h1 : m'.2.2 61 = m.2.2 61) : RRw m' := by
  unfold RRw at h ⊢
  simp only [h0, h1]
  exact h
theorem Abs.cg  {m m' : zM} (h : Abs m) (h0 : m'.1 13 7 = m.1 13 7) (h1 : m'.1 68 2 = m.1 68 2) (h2 : m'.1 21 = m.1 21) (h3 : m'.1 22 = m.1 22) (h4 : m'.1 23 = m.1 23) (h5 : m'.1 76 = m.1 76) (h6 : m'.1 77 = m.1 77) (h7 : m'.1 78 = m.1 78) : Abs m' := by
  unfold Abs at h ⊢
  simp only [h0, h1, h2, h3, h4, h5, h6, h7]
  exact h
theorem RGr.cg {W H : Nat} {m m' : zM} (h : RGr W H m) (h0 : m'.1 13 7 = m.1 13 7) (h1 : m'.1 14 0 = m.1 14 0) (h2 : m'.1 14 1 = m.1 14 1) (h3 : m'.1 14 2 = m.1 14 2) (h4 : m'.1 68 2 = m.1 68 2) (h5 : m'.1 68 3 = m.1 68 3) (h6 : m'.1 15 = m.1 15) (h7 : m'.1 16 = m.1 16) (h8 : m'.1 17 = m.1 17) (h9 : m'.1 18 = m.1 18) : RGr W H m' := by
  unfold RGr at h ⊢
  simp only [h0, h1, h2, h3, h4, h5, h6, h7, h8, h9]
  exact h
theorem RHd.cg {W H : Nat} {m m' : zM} (h : RHd W H m) (h0 : m'.1 20 = m.1 20) (h1 : m'.1 21 = m.1 21) (h2 : m'.1 22 = m.1 22) (h3 : m'.1 23 = m.1 23) (h4 : m'.1 75 = m.1 75) (h5 : m'.1 76 = m.1 76) (h6 : m'.1 77 = m.1 77) (h7 : m'.1 78 = m.1 78) : RHd W H m' := by
  unfold RHd at h ⊢
  simp only [h0, h1, h2, h3, h4, h5, h6, h7]
  exact h
theorem RSn.cg {W H : Nat} {m m' : zM} (h : RSn W H m) (h0 : m'.1 34 = m.1 34) (h1 : m'.1 75 = m.1 75) (h2 : m'.1 76 = m.1 76) (h3 : m'.1 77 = m.1 77) (h4 : m'.1 78 = m.1 78) : RSn W H m' := by
  unfold RSn at h ⊢
  simp only [h0, h1, h2, h3, h4]
  exact h
theorem RSf.cg {n : Nat} {m m' : zM} (h : RSf n m) (h0 : m'.1 32 = m.1 32) (h1 : m'.1 33 = m.1 33) (h2 : m'.1 35 = m.1 35) (h3 : m'.1 36 = m.1 36) (h4 : m'.1 52 = m.1 52) (h5 : m'.1 70 = m.1 70) (h6 : m'.1 71 = m.1 71) (h7 : m'.1 72 = m.1 72) (h8 : m'.1 73 = m.1 73) (h9 : m'.1 74 = m.1 74) : RSf n m' := by
  unfold RSf at h ⊢
  simp only [h0, h1, h2, h3, h4, h5, h6, h7, h8, h9]
  exact h
theorem RSt.cg  {m m' : zM} (h : RSt m) (h0 : m'.1 26 = m.1 26) (h1 : m'.1 80 = m.1 80) : RSt m' := by
  unfold RSt at h ⊢
  simp only [h0, h1]
  exact h
theorem RDr.cg  {m m' : zM} (h : RDr m) (h0 : m'.1 25 = m.1 25) (h1 : m'.1 79 = m.1 79) (h2 : m'.1 24 1 = m.1 24 1) (h3 : m'.1 68 15 = m.1 68 15) (h4 : m'.1 24 2 = m.1 24 2) (h5 : m'.1 68 16 = m.1 68 16) : RDr m' := by
  unfold RDr at h ⊢
  simp only [h0, h1, h2, h3, h4, h5]
  exact h
theorem RFr.cg  {m m' : zM} (h : RFr m) (h0 : m'.1 13 14 = m.1 13 14) (h1 : m'.1 68 17 = m.1 68 17) (h2 : m'.1 13 12 = m.1 13 12) (h3 : m'.1 68 18 = m.1 68 18) (h4 : m'.1 13 13 = m.1 13 13) (h5 : m'.1 68 19 = m.1 68 19) : RFr m' := by
  unfold RFr at h ⊢
  simp only [h0, h1, h2, h3, h4, h5]
  exact h
theorem RSp.cg  {m m' : zM} (h : RSp m) (h0 : m'.1 44 4 = m.1 44 4) (h1 : m'.1 68 20 = m.1 68 20) (h2 : m'.1 46 = m.1 46) (h3 : m'.1 47 = m.1 47) (h4 : m'.1 48 = m.1 48) (h5 : m'.1 49 = m.1 49) (h6 : m'.1 50 = m.1 50) (h7 : m'.1 51 = m.1 51) (h8 : m'.1 81 = m.1 81) (h9 : m'.1 82 = m.1 82) (h10 : m'.1 83 = m.1 83) (h11 : m'.1 84 = m.1 84) (h12 : m'.1 85 = m.1 85) (h13 : m'.1 86 = m.1 86) : RSp m' := by
  have hr : ∀ q, q < 6 → m'.1 (46 + q) = m.1 (46 + q) := by
    intro q hq
    rcases (show q = 0 ∨ q = 1 ∨ q = 2 ∨ q = 3 ∨ q = 4 ∨ q = 5 by omega) with rfl | rfl | rfl | rfl | rfl | rfl
    · exact h2
    · exact h3
    · exact h4
    · exact h5
    · exact h6
    · exact h7
  obtain ⟨S, a1, a2, a3, a4⟩ := h
  refine ⟨S, a1, by rw [h0]; exact a2, by rw [h1]; exact a3, fun s hs => ?_⟩
  rw [hr s (by omega), h8, h9, h10, h11, h12, h13]
  exact a4 s hs
theorem RTk.cg  {m m' : zM} (h : RTk m) (hR : RRw m) (h0 : m'.1 60 1 = m.1 60 1) (h1 : m'.1 68 27 = m.1 68 27) (h2 : m'.2.2 61 = m.2.2 61) (h3 : m'.1 62 = m.1 62) (h4 : m'.1 63 = m.1 63) (h5 : m'.1 64 = m.1 64) (h6 : m'.1 65 = m.1 65) (h7 : m'.1 66 = m.1 66) (h8 : m'.1 67 = m.1 67) (h9 : m'.1 87 = m.1 87) (h10 : m'.1 88 = m.1 88) (h11 : m'.1 89 = m.1 89) (h12 : m'.1 90 = m.1 90) (h13 : m'.1 91 = m.1 91) (h14 : m'.1 92 = m.1 92) (h15 : m'.1 93 = m.1 93) (h16 : m'.1 94 = m.1 94) (h17 : m'.1 95 = m.1 95) : RTk m' := by
  have hr : ∀ q, q < 6 → m'.1 (62 + q) = m.1 (62 + q) := by
    intro q hq
    rcases (show q = 0 ∨ q = 1 ∨ q = 2 ∨ q = 3 ∨ q = 4 ∨ q = 5 by omega) with rfl | rfl | rfl | rfl | rfl | rfl
    · exact h3
    · exact h4
    · exact h5
    · exact h6
    · exact h7
    · exact h8
  obtain ⟨T, a1, a2, a3, a4⟩ := h
  refine ⟨T, a1, by rw [h0]; exact a2, by rw [h1]; exact a3, fun j hj => ?_⟩
  rw [h2, hr (m.2.2 61 j) (hR.2.1 j (by omega)), h9, h10, h11, h12, h13, h14, h15, h16, h17]
  exact a4 j hj
