/-! ===== a frame: a track followed, a track missed ===== -/
def TE (mc mm : zM) (r j : Nat) : Prop := mc.1 (62 + r) 0 = mm.1 87 j ∧ mc.1 (62 + r) 1 = mm.1 88 j ∧ mc.1 (62 + r) 2 = mm.1 89 j ∧ mc.1 (62 + r) 3 = mm.1 90 j ∧ mc.1 (62 + r) 4 = mm.1 91 j ∧ mc.1 (62 + r) 5 = mm.1 92 j ∧ mc.1 (62 + r) 6 = mm.1 93 j ∧ mc.1 (62 + r) 7 = mm.1 94 j ∧ mc.1 (62 + r) 8 = mm.1 95 j
def TB (mm : zM) (j : Nat) : Prop := 0 ≤ mm.1 88 j ∧ mm.1 88 j ≤ 112 ∧ 0 ≤ mm.1 89 j ∧ mm.1 89 j ≤ 112 ∧ (mm.1 95 j = 0 ∨ mm.1 95 j = 1)
def SE (mc mm : zM) (s : Nat) : Prop := mc.1 (46 + s) 0 = mm.1 81 s ∧ mc.1 (46 + s) 1 = mm.1 82 s ∧ mc.1 (46 + s) 2 = mm.1 83 s ∧ mc.1 (46 + s) 3 = mm.1 84 s ∧ mc.1 (46 + s) 4 = mm.1 85 s ∧ mc.1 (46 + s) 5 = mm.1 86 s
def SB (mm : zM) (s : Nat) : Prop := 0 ≤ mm.1 84 s ∧ mm.1 84 s ≤ 112 ∧ 0 ≤ mm.1 85 s ∧ mm.1 85 s ≤ 112
/-- only the journal has changed -/
def EvR (N N' : Nat) (X Y X' Y' : zM) : Prop := Fr [8, 9, 10, 11, 12] X X' ∧ Fr [68, 96, 97, 98, 99] Y Y' ∧ (∀ p, p ≠ 37 → Y'.1 68 p = Y.1 68 p) ∧ RJ2 N' X' Y' ∧ N ≤ N' ∧ N' ≤ N + 1
theorem EvR.refl {N : Nat} {X Y : zM} (h : RJ2 N X Y) : EvR N N X Y X Y := ⟨Fr.refl, Fr.refl, fun _ _ => rfl, h, Nat.le_refl _, by omega⟩
theorem EvR.te {N N' r j : Nat} {X Y X' Y' : zM} (h : EvR N N' X Y X' Y') (t : TE X Y r j) : TE X' Y' r j := by
  obtain ⟨f, g, _⟩ := h
  unfold TE at t ⊢
  rw [f.2 (62 + r) (by simp; omega), g.2 87 (by decide), g.2 88 (by decide), g.2 89 (by decide), g.2 90 (by decide), g.2 91 (by decide), g.2 92 (by decide), g.2 93 (by decide), g.2 94 (by decide), g.2 95 (by decide)]
  exact t
section MOV
variable {N r j s : Nat} {fr : Int32}
theorem down_ok {X Y : zM} (hr : r < 6) (hj : j < 6) (hT : TE X Y r j) (hJ : RJ2 N X Y) (hN : N < 2 ^ 30) (hfr : Y.1 68 17 = fr) : ∃ X' Y' N', j_X10_move_85 r fr X = some X' ∧ j_X12_follow_129 (nI j) Y = some Y' ∧ EvR N N' X Y X' Y' := by
  obtain ⟨t0, t1, t2, t3, t4, t5, t6, t7, t8⟩ := id hT
  unfold j_X10_move_85 j_X12_follow_129
  simp only [Nat.mod_eq_of_lt hr, zin_nI hj (show 6 < 2 ^ 31 by decide), zg_t, nI_clamp (show j < 2 ^ 31 by omega), t0, t5, t8]
  by_cases c1 : Y.1 92 j = 2
  · by_cases c2 : Y.1 95 j = 0
    · obtain ⟨X', Y', e1, e2, e3, e4, e5, e6⟩ := ev_ok hJ hN (k := 1) (by omega) (by omega) (Y.1 87 j) hfr
      refine ⟨X', Y', N + 1, ?_, ?_, e3, e4, e5, e6, by omega, by omega⟩
      · rw [if_pos c1, if_pos c2, show (1 : Int32) = nI 1 from rfl, e1]
        rfl
      · rw [if_pos c1, if_pos c2, show (1 : Int32) = nI 1 from rfl, e2]
        rfl
    · exact ⟨X, Y, N, by rw [if_pos c1, if_neg c2], by rw [if_pos c1, if_neg c2], EvR.refl hJ⟩
  · exact ⟨X, Y, N, by rw [if_neg c1], by rw [if_neg c1], EvR.refl hJ⟩
theorem pos_nI {x : Int32} (h0 : 0 ≤ x) (h1 : x ≤ 112) : ∃ k : Nat, k ≤ 112 ∧ x = nI k := by
  obtain ⟨k, hk, e⟩ := (winK (k := 112) (by omega)).mp ⟨h0, h1⟩
  exact ⟨k, hk, e⟩
theorem adN_comm {a b : Nat} : adN a b = adN b a := by
  unfold adN
  by_cases h : b ≤ a
  · by_cases h2 : a ≤ b
    · rw [if_pos h, if_pos h2]; omega
    · rw [if_pos h, if_neg h2]
  · rw [if_neg h, if_pos (by omega)]
/-- what a follow leaves -/
def FoR (N N' r j s : Nat) (mc mm mc' mm' : zM) : Prop := Fr [8, 9, 10, 11, 12, 46 + s, 62 + r] mc mc' ∧ Fr [68, 86, 88, 89, 90, 91, 92, 93, 94, 95, 96, 97, 98, 99] mm mm' ∧ (∀ p, p ≠ 37 → mm'.1 68 p = mm.1 68 p) ∧ (∀ c, 88 ≤ c → c ≤ 95 → ∀ p, p ≠ j → mm'.1 c p = mm.1 c p) ∧ (∀ p, p ≠ s → mm'.1 86 p = mm.1 86 p) ∧ TE mc' mm' r j ∧ TB mm' j ∧ SE mc' mm' s ∧ RJ2 N' mc' mm' ∧ N ≤ N' ∧ N' ≤ N + 2
theorem move_ok {mc mm : zM} (hr : r < 6) (hj : j < 6) (hs : s < 6) (hT : TE mc mm r j) (hB : TB mm j) (hS : SE mc mm s) (hSB : SB mm s) (h26 : mc.1 26 3 = mm.1 80 3) (hJ : RJ2 N mc mm) (hN : N + 1 < 2 ^ 30) (hfr : mm.1 68 17 = fr) :
    ∃ mc' mm' N', f_X10_move r s fr mc = some mc' ∧ f_X12_follow (nI j) (nI s) mm = some mm' ∧ FoR N N' r j s mc mm mc' mm' := by
  obtain ⟨t0, t1, t2, t3, t4, t5, t6, t7, t8⟩ := id hT
  obtain ⟨s0, s1, s2, s3, s4, s5⟩ := id hS
  obtain ⟨b1, b2, b3, b4, b5⟩ := id hB
  obtain ⟨d1, d2, d3, d4⟩ := id hSB
  obtain ⟨ux, hux, eux⟩ := pos_nI b1 b2
  obtain ⟨uy, huy, euy⟩ := pos_nI b3 b4
  obtain ⟨vx, hvx, evx⟩ := pos_nI d1 d2
  obtain ⟨vy, hvy, evy⟩ := pos_nI d3 d4
  have nab : 62 + r ≠ 46 + s := by omega
  have nba : 46 + s ≠ 62 + r := by omega
  have n26a : 26 ≠ 62 + r := by omega
  have n26b : 26 ≠ 46 + s := by omega
  obtain ⟨X, hX⟩ : ∃ X, X = zi (zi (zi (zi (zi (zi (zi (zi mc (62 + r) 7 (mc.1 (62 + r) 7 + (nI (adN ux vx) + nI (adN uy vy)))) (62 + r) 1 (mc.1 (46 + s) 3)) (62 + r) 2 (mc.1 (46 + s) 4)) (62 + r) 3 (mc.1 (46 + s) 1)) (62 + r) 4 (mc.1 (46 + s) 2)) (46 + s) 5 (mc.1 (62 + r) 0)) (62 + r) 5 (mc.1 (62 + r) 5 + 1)) (62 + r) 6 0 := ⟨_, rfl⟩
  obtain ⟨Y, hY⟩ : ∃ Y, Y = zi (zi (zi (zi (zi (zi (zi (zi mm 94 j (mm.1 94 j + (nI (adN ux vx) + nI (adN uy vy)))) 88 j (mm.1 84 s)) 89 j (mm.1 85 s)) 90 j (mm.1 82 s)) 91 j (mm.1 83 s)) 92 j (mm.1 92 j + 1)) 93 j 0) 86 s (mm.1 87 j) := ⟨_, rfl⟩
  have eC : f_X10_move r s fr mc = if X.1 (62 + r) 8 = 0 then (if X.1 (46 + s) 1 < X.1 26 3 then j_X10_move_85 r fr X else (if X.1 (62 + r) 5 ≤ 2 then j_X10_move_85 r fr (zi X (62 + r) 8 1) else (f_X4_write 3 (X.1 (62 + r) 0) fr (zi X (62 + r) 8 1)).bind fun m6 => j_X10_move_85 r fr m6)) else j_X10_move_85 r fr X := by
    rw [hX]
    unfold f_X10_move f_X10_takeOver f_J9_abs_0f7a4 f_X10_isPalm
    simp only [Nat.mod_eq_of_lt hr, Nat.mod_eq_of_lt hs, t1, t2, s3, s4, eux, euy, evx, evy, ad_abs hvx hux, ad_abs hvy huy, Option.bind_some, adN_comm (a := vx), adN_comm (a := vy), ziA, ziO nab, ziO nba, ziO n26a, ziO n26b]
    by_cases c : mc.1 (46 + s) 1 < mc.1 26 3
    · simp [c, bi_f]
    · simp [c, bi_nt]
  have eM : f_X12_follow (nI j) (nI s) mm = if Y.1 90 j < Y.1 80 3 then j_X12_follow_129 (nI j) Y else (if Y.1 95 j = 0 then (if Y.1 92 j ≤ 2 then j_X12_follow_129 (nI j) (zi Y 95 j 1) else (f_X12_happens 3 (Y.1 87 j) (zi Y 95 j 1)).bind fun m24 => j_X12_follow_129 (nI j) m24) else j_X12_follow_129 (nI j) Y) := by
    rw [hY]
    unfold f_X12_follow f_X12_lay f_X12_abs
    simp only [zin_nI hj (show 6 < 2 ^ 31 by decide), zin_nI hs (show 6 < 2 ^ 31 by decide), zg_t, nI_clamp (show j < 2 ^ 31 by omega), nI_clamp (show s < 2 ^ 31 by omega), eux, euy, evx, evy, ad_abs hux hvx, ad_abs huy hvy, Option.bind_some]
    simp [ziA, ziO, eux, euy, evx, evy]
  have fX : Fr [46 + s, 62 + r] mc X := by
    rw [hX]
    have ha : 62 + r ∈ [46 + s, 62 + r] := by simp
    have hb : 46 + s ∈ [46 + s, 62 + r] := by simp
    exact (((((((Fr.refl.st ha).st ha).st ha).st ha).st ha).st hb).st ha).st ha
  have fY : Fr [86, 88, 89, 90, 91, 92, 93, 94] mm Y := by
    rw [hY]
    exact (((((((Fr.refl.st (by decide)).st (by decide)).st (by decide)).st (by decide)).st (by decide)).st (by decide)).st (by decide)).st (by decide)
  have oY : ∀ c, 88 ≤ c → c ≤ 95 → ∀ p, p ≠ j → Y.1 c p = mm.1 c p := by
    intro c h1 h2 p hp
    have : c ≠ 86 := by omega
    rw [hY]
    simp [zi, hp, this]
  have oY2 : ∀ p, p ≠ s → Y.1 86 p = mm.1 86 p := by
    intro p hp
    rw [hY]
    simp [zi, hp]
  have tXY : TE X Y r j := by
    rw [hX, hY]
    unfold TE
    simp only [ziA, ziO nab, ziO nba]
    simp [zi, t0, t5, t7, t8, s1, s2, s3, s4]
  have bY : TB Y j := by
    rw [hY]
    unfold TB
    simp [zi]
    exact ⟨d1, d2, d3, d4, b5⟩
  have sXY : SE X Y s := by
    rw [hX, hY]
    unfold SE
    simp only [ziA, ziO nab, ziO nba]
    simp [zi, s0, s1, s2, s3, s4, t0]
  have jXY : RJ2 N X Y := hJ.cg (congrFun (fX.2 8 (by simp; omega)) 4) (fX.2 9 (by simp; omega)) (fX.2 10 (by simp; omega)) (fX.2 11 (by simp; omega)) (fX.2 12 (by simp; omega)) (congrFun (fY.2 68 (by decide)) 37) (fY.2 96 (by decide)) (fY.2 97 (by decide)) (fY.2 98 (by decide)) (fY.2 99 (by decide))
  have frY : Y.1 68 17 = fr := by rw [fY.2 68 (by decide)]; exact hfr
  -- from a pair of memories that are right, over events, to the end
  have fin : ∀ X1 Y1 M, Fr [46 + s, 62 + r] mc X1 → Fr [86, 88, 89, 90, 91, 92, 93, 94, 95] mm Y1 → (∀ c, 88 ≤ c → c ≤ 95 → ∀ p, p ≠ j → Y1.1 c p = mm.1 c p) → (∀ p, p ≠ s → Y1.1 86 p = mm.1 86 p) → TE X1 Y1 r j → TB Y1 j → SE X1 Y1 s → RJ2 N X1 Y1 → ∀ X2 Y2, EvR N M X1 Y1 X2 Y2 → M ≤ N + 1 → ∃ mc' mm' N', j_X10_move_85 r fr X2 = some mc' ∧ j_X12_follow_129 (nI j) Y2 = some mm' ∧ FoR N N' r j s mc mm mc' mm' := by
    intro X1 Y1 M f1 f2 f3 f4 f5 f6 f7 f8 X2 Y2 e12 hM
    obtain ⟨g1, g2, g3, g4, g5, g6⟩ := id e12
    have fr2 : Y2.1 68 17 = fr := by rw [g3 17 (by decide), f2.2 68 (by decide)]; exact hfr
    obtain ⟨X3, Y3, N', k1, k2, k3⟩ := down_ok hr hj (e12.te f5) g4 (by omega) fr2
    obtain ⟨l1, l2, l3, l4, l5, l6⟩ := id k3
    refine ⟨X3, Y3, N', k1, k2, ?_, ?_, ?_, ?_, ?_, k3.te (e12.te f5), ?_, ?_, l4, by omega, by omega⟩
    · refine (f1.wide (fun c hc => ?_)).trans ((g1.wide (fun c hc => ?_)).trans (l1.wide (fun c hc => ?_)))
      · simp at hc ⊢
        omega
      · simp at hc ⊢
        omega
      · simp at hc ⊢
        omega
    · exact (f2.wide (by decide)).trans ((g2.wide (by decide)).trans (l2.wide (by decide)))
    · intro p hp
      rw [l3 p hp, g3 p hp, f2.2 68 (by decide)]
    · intro c h1 h2 p hp
      rw [l2.2 c (by simp; omega), g2.2 c (by simp; omega)]
      exact f3 c h1 h2 p hp
    · intro p hp
      rw [l2.2 86 (by decide), g2.2 86 (by decide)]
      exact f4 p hp
    · unfold TB at f6 ⊢
      rw [l2.2 88 (by decide), g2.2 88 (by decide), l2.2 89 (by decide), g2.2 89 (by decide), l2.2 95 (by decide), g2.2 95 (by decide)]
      exact f6
    · unfold SE at f7 ⊢
      rw [l1.2 (46 + s) (by simp; omega), g1.2 (46 + s) (by simp; omega), l2.2 81 (by decide), g2.2 81 (by decide), l2.2 82 (by decide), g2.2 82 (by decide), l2.2 83 (by decide), g2.2 83 (by decide), l2.2 84 (by decide), g2.2 84 (by decide), l2.2 85 (by decide), g2.2 85 (by decide), l2.2 86 (by decide), g2.2 86 (by decide)]
      exact f7
  have plain := fin X Y N fX (fY.wide (by decide)) oY oY2 tXY bY sXY jXY X Y (EvR.refl jXY) (by omega)
  have h1 : X.1 (62 + r) 8 = Y.1 95 j := tXY.2.2.2.2.2.2.2.2
  have h2 : X.1 (46 + s) 1 = Y.1 90 j := by
    rw [hX, hY]
    simp only [ziA, ziO nba]
    simp [zi, s1]
  have h3 : X.1 26 3 = Y.1 80 3 := by rw [fX.2 26 (by simp; omega), fY.2 80 (by decide)]; exact h26
  have h4 : X.1 (62 + r) 5 = Y.1 92 j := tXY.2.2.2.2.2.1
  have h5 : X.1 (62 + r) 0 = Y.1 87 j := tXY.1
  rw [eC, eM, h1, h2, h3, h4, h5]
  by_cases c1 : Y.1 90 j < Y.1 80 3
  · simp only [c1, if_true]
    by_cases c2 : Y.1 95 j = 0
    · simp only [c2, if_true]
      exact plain
    · simp only [c2, if_false]
      exact plain
  · simp only [c1, if_false]
    by_cases c2 : Y.1 95 j = 0
    · simp only [c2, if_true]
      have fX1 : Fr [46 + s, 62 + r] mc (zi X (62 + r) 8 1) := fX.st (by simp)
      have fY1 : Fr [86, 88, 89, 90, 91, 92, 93, 94, 95] mm (zi Y 95 j 1) := (fY.wide (by decide)).st (by decide)
      have oY1 : ∀ c, 88 ≤ c → c ≤ 95 → ∀ p, p ≠ j → (zi Y 95 j 1).1 c p = mm.1 c p := by
        intro c h1 h2 p hp
        rw [← oY c h1 h2 p hp]
        simp [zi, hp]
      have oY3 : ∀ p, p ≠ s → (zi Y 95 j 1).1 86 p = mm.1 86 p := by
        intro p hp
        rw [ziO (by decide)]
        exact oY2 p hp
      have tXY1 : TE (zi X (62 + r) 8 1) (zi Y 95 j 1) r j := by
        unfold TE at tXY ⊢
        obtain ⟨q0, q1, q2, q3, q4, q5, q6, q7, q8⟩ := tXY
        simp only [ziA]
        simp [zi, q0, q1, q2, q3, q4, q5, q6, q7]
      have bY1 : TB (zi Y 95 j 1) j := by
        obtain ⟨q0, q1, q2, q3, q4⟩ := bY
        unfold TB
        simp [zi, q0, q1, q2, q3]
      have sXY1 : SE (zi X (62 + r) 8 1) (zi Y 95 j 1) s := by
        unfold SE at sXY ⊢
        simp only [ziO nba]
        simpa [zi] using sXY
      have jXY1 : RJ2 N (zi X (62 + r) 8 1) (zi Y 95 j 1) := jXY.cg (ziO (by omega)) (zi_ne (by omega)) (zi_ne (by omega)) (zi_ne (by omega)) (zi_ne (by omega)) (ziO (by decide)) (zi_ne (by decide)) (zi_ne (by decide)) (zi_ne (by decide)) (zi_ne (by decide))
      have frY1 : (zi Y 95 j 1).1 68 17 = fr := by rw [ziO (by decide)]; exact frY
      by_cases c3 : Y.1 92 j ≤ 2
      · simp only [c3, if_true]
        exact fin _ _ N fX1 fY1 oY1 oY3 tXY1 bY1 sXY1 jXY1 _ _ (EvR.refl jXY1) (by omega)
      · simp only [c3, if_false]
        obtain ⟨X2, Y2, e1, e2, e3, e4, e5, e6⟩ := ev_ok jXY1 (by omega) (k := 3) (by omega) (by omega) (Y.1 87 j) frY1
        rw [show (3 : Int32) = nI 3 from rfl, e1, e2]
        simp only [Option.bind_some]
        exact fin _ _ (N + 1) fX1 fY1 oY1 oY3 tXY1 bY1 sXY1 jXY1 X2 Y2 ⟨e3, e4, e5, e6, by omega, by omega⟩ (by omega)
    · simp only [c2, if_false]
      exact plain
/-- what a miss leaves -/
def MiR (N N' r j : Nat) (mc mm mc' mm' : zM) : Prop := Fr [8, 9, 10, 11, 12, 62 + r] mc mc' ∧ Fr [68, 93, 96, 97, 98, 99] mm mm' ∧ (∀ p, p ≠ 37 → mm'.1 68 p = mm.1 68 p) ∧ (∀ p, p ≠ j → mm'.1 93 p = mm.1 93 p) ∧ TE mc' mm' r j ∧ RJ2 N' mc' mm' ∧ N ≤ N' ∧ N' ≤ N + 2
theorem miss_ok {mc mm : zM} (hr : r < 6) (hj : j < 6) (hT : TE mc mm r j) (h265 : mc.1 26 5 = mm.1 80 5) (h266 : mc.1 26 6 = mm.1 80 6) (hJ : RJ2 N mc mm) (hN : N + 1 < 2 ^ 30) (hfr : mm.1 68 17 = fr) :
    ∃ b mc' mm' N', f_X10_miss r fr mc = some (!b, mc') ∧ f_X12_isLost (nI j) mm = some (b, mm') ∧ MiR N N' r j mc mm mc' mm' := by
  obtain ⟨t0, t1, t2, t3, t4, t5, t6, t7, t8⟩ := id hT
  have n26a : 26 ≠ 62 + r := by omega
  obtain ⟨X, hX⟩ : ∃ X, X = zi mc (62 + r) 6 (mc.1 (62 + r) 6 + 1) := ⟨_, rfl⟩
  obtain ⟨Y, hY⟩ : ∃ Y, Y = zi mm 93 j (mm.1 93 j + 1) := ⟨_, rfl⟩
  have fX : Fr [62 + r] mc X := by
    rw [hX]
    exact Fr.refl.st (by simp)
  have fY : Fr [93] mm Y := by
    rw [hY]
    exact Fr.refl.st (by decide)
  have oY : ∀ p, p ≠ j → Y.1 93 p = mm.1 93 p := by
    intro p hp
    rw [hY, ziN hp]
  have tXY : TE X Y r j := by
    rw [hX, hY]
    unfold TE
    simp only [ziA]
    simp [zi, t0, t1, t2, t3, t4, t5, t6, t7, t8]
  have jXY : RJ2 N X Y := hJ.cg (congrFun (fX.2 8 (by simp; omega)) 4) (fX.2 9 (by simp; omega)) (fX.2 10 (by simp; omega)) (fX.2 11 (by simp; omega)) (fX.2 12 (by simp; omega)) (congrFun (fY.2 68 (by decide)) 37) (fY.2 96 (by decide)) (fY.2 97 (by decide)) (fY.2 98 (by decide)) (fY.2 99 (by decide))
  have frY : Y.1 68 17 = fr := by rw [fY.2 68 (by decide)]; exact hfr
  have fin : ∀ M X2 Y2, EvR N M X Y X2 Y2 → MiR N M r j mc mm X2 Y2 := by
    intro M X2 Y2 e12
    obtain ⟨g1, g2, g3, g4, g5, g6⟩ := id e12
    refine ⟨?_, ?_, ?_, ?_, e12.te tXY, g4, g5, by omega⟩
    · refine (fX.wide (fun c hc => ?_)).trans (g1.wide (fun c hc => ?_))
      · simp at hc ⊢
        omega
      · simp at hc ⊢
        omega
    · exact (fY.wide (by decide)).trans (g2.wide (by decide))
    · intro p hp
      rw [g3 p hp, fY.2 68 (by decide)]
    · intro p hp
      rw [g2.2 93 (by decide)]
      exact oY p hp
  have x265 : X.1 26 5 = mm.1 80 5 := by rw [fX.2 26 (by simp; omega)]; exact h265
  have x266 : X.1 26 6 = mm.1 80 6 := by rw [fX.2 26 (by simp; omega)]; exact h266
  obtain ⟨q0, q1, q2, q3, q4, q5, q6, q7, q8⟩ := id tXY
  have y92 : Y.1 92 = mm.1 92 := fY.2 92 (by decide)
  have y94 : Y.1 94 = mm.1 94 := fY.2 94 (by decide)
  have y95 : Y.1 95 = mm.1 95 := fY.2 95 (by decide)
  have y87 : Y.1 87 = mm.1 87 := fY.2 87 (by decide)
  rw [y92] at q5
  rw [y94] at q7
  rw [y95] at q8
  rw [y87] at q0
  unfold f_X10_miss f_X12_isLost j_X10_miss_63 j_X10_miss_64 j_X10_miss_78 j_X12_isLost_78 j_X12_isLost_79
  simp only [Nat.mod_eq_of_lt hr, zin_nI hj (show 6 < 2 ^ 31 by decide), zg_t, nI_clamp (show j < 2 ^ 31 by omega)]
  rw [← hX, ← hY]
  simp only [x265, x266, q0, q5, q6, q7, q8, y87, if_true, show ¬ (1 : Int32) = 0 by decide, if_false]
  have evs : ∀ k, 1 ≤ k → k ≤ 4 → ∃ b mc' mm' N', ((f_X4_write (nI k) (mm.1 87 j) fr X).bind fun m1 => some (false, m1)) = some (!b, mc') ∧ ((f_X12_happens (nI k) (mm.1 87 j) Y).bind fun m8 => some (true, m8)) = some (b, mm') ∧ MiR N N' r j mc mm mc' mm' := by
    intro k hk hk4
    obtain ⟨X2, Y2, e1, e2, e3, e4, e5, e6⟩ := ev_ok jXY (by omega) hk hk4 (mm.1 87 j) frY
    exact ⟨true, X2, Y2, N + 1, by rw [e1]; rfl, by rw [e2]; rfl, fin _ _ _ ⟨e3, e4, e5, e6, by omega, by omega⟩⟩
  by_cases c1 : mm.1 80 5 < Y.1 93 j
  · simp only [c1, if_true]
    by_cases c2 : mm.1 95 j = 0
    · simp only [c2, if_true]
      have c3' : mm.1 92 j < 2 ↔ mm.1 92 j ≤ 1 := by
        rw [lt32, le32, show (2 : Int32).toInt = 2 by decide, show (1 : Int32).toInt = 1 by decide]
        omega
      by_cases c3 : mm.1 92 j ≤ 1
      · simp only [c3, c3'.mpr c3, if_true]
        exact ⟨true, X, Y, N, rfl, rfl, fin _ _ _ (EvR.refl jXY)⟩
      · simp only [c3, show ¬ mm.1 92 j < 2 from fun z => c3 (c3'.mp z), if_false]
        by_cases c4 : mm.1 80 6 < mm.1 92 j
        · simp only [c4, if_true]
          exact evs 2 (by omega) (by omega)
        · simp only [c4, if_false]
          by_cases c5 : 16 < mm.1 94 j
          · simp only [c5, if_true]
            exact evs 2 (by omega) (by omega)
          · simp only [c5, if_false]
            exact evs 4 (by omega) (by omega)
    · simp only [c2, if_false]
      exact ⟨true, X, Y, N, rfl, rfl, fin _ _ _ (EvR.refl jXY)⟩
  · simp only [c1, if_false]
    exact ⟨false, X, Y, N, rfl, rfl, fin _ _ _ (EvR.refl jXY)⟩
end MOV
