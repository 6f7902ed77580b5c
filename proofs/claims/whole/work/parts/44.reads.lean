/-! ===== the calls that only read ===== -/
theorem winK {x : Int32} {k : Nat} (hk : k < 2 ^ 31) : ((0 : Int32) ≤ x ∧ x ≤ nI k) ↔ ∃ c, c ≤ k ∧ x = nI c := by
  constructor
  · rintro ⟨h1, h2⟩
    obtain ⟨j, hj, rfl⟩ := nI_of (Int32.not_lt.mpr h1)
    exact ⟨j, (nI_leI hj hk).mp h2, rfl⟩
  · rintro ⟨c, hc, rfl⟩
    exact ⟨nI_pos' (by omega), (nI_leI (by omega) hk).mpr hc⟩
theorem win {x : Int32} {n : Nat} (hn : n < 2 ^ 31) : ((0 : Int32) ≤ x ∧ x ≤ nI n - 1) ↔ ∃ c, c < n ∧ x = nI c := by
  cases n with
  | zero =>
    constructor
    · rintro ⟨h1, h2⟩
      have h3 : (0 : Int32) ≤ nI 0 - 1 := by
        rw [le32] at h1 h2 ⊢
        omega
      exact absurd h3 (by decide)
    · rintro ⟨c, hc, _⟩
      omega
  | succ k =>
    rw [nI_pred, winK (by omega)]
    exact ⟨fun ⟨c, a, b⟩ => ⟨c, by omega, b⟩, fun ⟨c, a, b⟩ => ⟨c, by omega, b⟩⟩
theorem nI_ne {a b : Nat} (ha : a < 2 ^ 31) (hb : b < 2 ^ 31) (h : a ≠ b) : ¬ nI a = nI b := fun e => h ((nI_eq ha hb).mp e)
/-! fingers -/
theorem fact_finger {W H : Nat} {m : zM} (h : RHd W H m) {k w : Nat} (hk : k < 5) (hw : w < 4) : ∃ v, f_X2_fact (nI k) (nI w) m = some v ∧ f_X12_fingerNow (nI k) (nI w) m = some v := by
  obtain ⟨e1, e2, e3, e4⟩ := h.1 k hk
  unfold f_X2_fact f_X12_fingerNow
  simp only [zin_nI hk (show (5 : Nat) < 2 ^ 31 by omega), zg_t, nI_clamp (show k < 2 ^ 31 by omega), e1, e2, e3, e4]
  rcases (show w = 0 ∨ w = 1 ∨ w = 2 ∨ w = 3 by omega) with rfl | rfl | rfl | rfl
  · have a0 : nI 0 = 0 := rfl
    by_cases h0 : m.1 75 k = 0
    · exact ⟨0, by simp [h0, a0], by simp [h0, a0]⟩
    · exact ⟨1, by simp [h0, a0], by simp [h0, a0]⟩
  · have a0 : ¬ nI 1 = 0 := by decide
    have a1 : nI 1 = 1 := rfl
    by_cases h0 : m.1 75 k = 0
    · exact ⟨-1, by simp [h0, a0], by simp [h0, a0, a1]⟩
    · exact ⟨m.1 76 k, by simp [h0, a0, a1], by simp [h0, a0, a1]⟩
  · have a0 : ¬ nI 2 = 0 := by decide
    have a1 : ¬ nI 2 = 1 := by decide
    have a2 : nI 2 = 2 := rfl
    by_cases h0 : m.1 75 k = 0
    · exact ⟨-1, by simp [h0, a0], by simp [h0, a0, a1, a2]⟩
    · exact ⟨m.1 77 k, by simp [h0, a0, a1, a2], by simp [h0, a0, a1, a2]⟩
  · have a0 : ¬ nI 3 = 0 := by decide
    have a1 : ¬ nI 3 = 1 := by decide
    have a2 : ¬ nI 3 = 2 := by decide
    by_cases h0 : m.1 75 k = 0
    · exact ⟨-1, by simp [h0, a0], by simp [h0, a0, a1, a2]⟩
    · exact ⟨m.1 78 k, by simp [h0, a0, a1, a2], by simp [h0, a0, a1, a2]⟩
theorem op_finger {t : Nat} {m : zM} (x y : Int32) (h : Rel t m) : ∃ v, f_X11_finger x y m = some v ∧ f_X12_finger x y m = some v := by
  obtain ⟨hP, hJ, hC, hR, hG⟩ := id h
  unfold f_X11_finger f_X12_finger
  rcases hG with hG | ⟨W, H, hG⟩
  · exact ⟨-10003, by rw [if_pos hG.1], by rw [isG_f hG.2.1]; rfl⟩
  · rw [pr_class hG, if_neg (by decide), isG_t (pr_wide hG) hG.1.2.1 hG.1.2.2.1, Option.bind_some, if_neg (by decide)]
    simp only [w11, w12, Option.bind_some]
    by_cases h1 : (0 : Int32) ≤ x ∧ x ≤ 4
    · by_cases h2 : (0 : Int32) ≤ y ∧ y ≤ 3
      · obtain ⟨k, hk, rfl⟩ := (winK (k := 4) (by omega)).mp h1
        obtain ⟨w, hw, rfl⟩ := (winK (k := 3) (by omega)).mp h2
        obtain ⟨v, a, b⟩ := fact_finger hG.2.1 (show k < 5 by omega) (show w < 4 by omega)
        exact ⟨v, by simp [h1, h2, bi_t, a], by simp [h1, h2, bi_t, b]⟩
      · exact ⟨-10002, by simp [h1, h2, bi_t, bi_f], by simp [h1, h2, bi_t, bi_f]⟩
    · exact ⟨-10001, by simp [h1, bi_f], by simp [h1, bi_f]⟩
/-! cells -/
theorem feltOf_eq {W : Nat} {m : zM} (hw : m.1 68 2 = nI W) (h3 : 3 ≤ W) (h8 : W ≤ 8) {c k : Nat} (hc : c < 64) (hk : k < 5) : f_X12_feltOf (nI c) (nI k) m = some (zfelt1 (m.1 75 k) (m.1 76 k) (m.1 77 k) (m.1 78 k) (nI (c % W)) (nI (c / W))) := by
  unfold f_X12_feltOf zfelt1 j_X12_feltOf_65
  have z1 : znz (nI W) = true := by
    simp [znz, nI_ne0 (show 0 < W by omega) (show W < 2 ^ 31 by omega)]
  have r1 : zrem (nI c) (nI W) = nI (c % W) := pk_rem (by omega) (by omega) (by omega)
  have r2 : nI c / nI W = nI (c / W) := pk_div (by omega) (by omega) (by omega)
  rw [hw]
  simp only [z1, zg_t, zin_nI hk (show (5 : Nat) < 2 ^ 31 by omega), nI_clamp (show k < 2 ^ 31 by omega), r1, r2]
  by_cases h0 : m.1 75 k = 0
  · simp [h0]
  · rw [if_neg h0, if_neg h0]
    generalize m.1 78 k - 12 * ((2 * nI (c % W) - m.1 76 k) * (2 * nI (c % W) - m.1 76 k) + (2 * nI (c / W) - m.1 77 k) * (2 * nI (c / W) - m.1 77 k)) = z
    by_cases hz : 0 < z
    · rw [if_pos hz, if_neg (Int32.not_le.mpr hz)]
    · rw [if_neg hz, if_pos (Int32.not_lt.mp hz)]
theorem feltAll_eq {W : Nat} {m : zM} (hw : m.1 68 2 = nI W) (h3 : 3 ≤ W) (h8 : W ≤ 8) {c : Nat} (hc : c < 64) : f_X12_feltAll (nI c) m = some (zfelt (m.1 75) (m.1 76) (m.1 77) (m.1 78) W c) := by
  unfold f_X12_feltAll
  have h := zfor (b := b_X12_feltAll_4 (nI c) m) (fun k => (zfeltN (m.1 75) (m.1 76) (m.1 77) (m.1 78) (nI (c % W)) (nI (c / W)) k, nI k)) 5 (s := (0, 0)) (r := zfelt (m.1 75) (m.1 76) (m.1 77) (m.1 78) W c) rfl (fun k hk => ?_) ?_ (by omega)
  · rw [h]
    rfl
  · unfold b_X12_feltAll_4
    have : ¬ (5 : Int32) ≤ nI k := nI_ge (b := 5) hk (by omega)
    simp only [this, if_false, feltOf_eq hw h3 h8 hc hk, Option.bind_some, nI_1]
    rfl
  · rfl
theorem fact_cell {W H : Nat} {m : zM} (h : Prs W H m) {c k : Nat} (hc : c < W * H) (hk : k < 6) : ∃ v, f_X7_cellFact (nI c) (nI k) m = some v ∧ f_X12_cellNow (nI c) (nI k) m = some v := by
  obtain ⟨g1, g2, g3, g4, g5⟩ := id h
  have h64 : W * H ≤ 64 := Nat.mul_le_mul g1.2.2.1 g1.2.2.2.2.1
  obtain ⟨e1, e2, e3, e4, e5⟩ := g4.1 c hc
  have e6 := g3 c hc
  unfold f_X7_cellFact f_X12_cellNow
  simp only [zin_nI (show c < 64 by omega) (show (64 : Nat) < 2 ^ 31 by omega), zg_t, nI_clamp (show c < 2 ^ 31 by omega), e1, e2, e3, e4, e5, e6, feltAll_eq (pr_wide h) g1.2.1 g1.2.2.1 (show c < 64 by omega), Option.bind_some]
  rcases (show k = 0 ∨ k = 1 ∨ k = 2 ∨ k = 3 ∨ k = 4 ∨ k = 5 by omega) with rfl | rfl | rfl | rfl | rfl | rfl
  · exact ⟨_, rfl, rfl⟩
  · exact ⟨_, rfl, rfl⟩
  · exact ⟨_, rfl, rfl⟩
  · exact ⟨_, rfl, rfl⟩
  · exact ⟨_, rfl, rfl⟩
  · exact ⟨_, rfl, rfl⟩
theorem hasCell_eq {W H : Nat} {m : zM} (h : Prs W H m) (x : Int32) : f_X7_hasCell x m = some (decide (∃ c, c < W * H ∧ x = nI c)) ∧ f_X12_isCell x m = some (decide (∃ c, c < W * H ∧ x = nI c)) := by
  have g1 := h.1
  have h64 : W * H ≤ 64 := Nat.mul_le_mul g1.2.2.1 g1.2.2.2.2.1
  unfold f_X7_hasCell f_X12_isCell
  rw [pr_class h, if_neg (by decide), isG_t (pr_wide h) g1.2.1 g1.2.2.1, Option.bind_some, if_neg (by decide), cells_eq (pr_wide h) (pr_high h), Option.bind_some, w11, w12, g1.2.2.2.2.2.2.2.1]
  simp only [Option.bind_some, win (show W * H < 2 ^ 31 by omega)]
  by_cases hq : ∃ c, c < W * H ∧ x = nI c
  · simp [hq, bi_t]
  · simp [hq, bi_f]
theorem absCell {m : zM} (h : Abs m) (x : Int32) : f_X7_hasCell x m = some false ∧ f_X12_isCell x m = some false := by
  unfold f_X7_hasCell f_X12_isCell
  rw [if_pos h.1, isG_f h.2.1]
  exact ⟨rfl, rfl⟩
theorem op_cell {t : Nat} {m : zM} (x y : Int32) (h : Rel t m) : ∃ v, f_X11_cell x y m = some v ∧ f_X12_cell x y m = some v := by
  obtain ⟨hP, hJ, hC, hR, hG⟩ := id h
  unfold f_X11_cell f_X12_cell
  rcases hG with hG | ⟨W, H, hG⟩
  · rw [(absCell hG x).1, (absCell hG x).2]
    exact ⟨-10001, rfl, rfl⟩
  · rw [(hasCell_eq hG x).1, (hasCell_eq hG x).2]
    by_cases hq : ∃ c, c < W * H ∧ x = nI c
    · obtain ⟨c, hc, rfl⟩ := id hq
      simp only [hq, decide_true, Option.bind_some, bi_t, w11, w12]
      by_cases h2 : (0 : Int32) ≤ y ∧ y ≤ 5
      · obtain ⟨w, hw, rfl⟩ := (winK (k := 5) (by omega)).mp h2
        obtain ⟨v, a, b⟩ := fact_cell hG hc (show w < 6 by omega)
        exact ⟨v, by simp [h2, bi_t, a], by simp [h2, bi_t, b]⟩
      · exact ⟨-10002, by simp [h2, bi_f], by simp [h2, bi_f]⟩
    · exact ⟨-10001, by simp [hq, bi_f], by simp [hq, bi_f]⟩
/-! about -/
theorem fact_about {W H : Nat} {m : zM} (h : Prs W H m) {k : Nat} (hk : k < 9) : ∃ v, f_X7_fact (nI k) m = some v ∧ f_X12_aboutNow (nI k) m = some v := by
  obtain ⟨g1, g2, g3, g4, g5, g6, g7, ⟨S, s1, s2, s3, s4⟩, ⟨T, t1, t2, t3, t4⟩⟩ := id h
  unfold f_X7_fact f_X12_aboutNow
  rw [g1.2.2.2.2.2.1, g1.2.2.2.2.2.2.1, g6.2.1, g7.2.1, g7.2.2.1, s2, t2, g6.2.2.2.1, g7.1, pr_wide h, pr_high h, s3, t3]
  rcases (show k = 0 ∨ k = 1 ∨ k = 2 ∨ k = 3 ∨ k = 4 ∨ k = 5 ∨ k = 6 ∨ k = 7 ∨ k = 8 by omega) with rfl | rfl | rfl | rfl | rfl | rfl | rfl | rfl | rfl
  · exact ⟨_, rfl, rfl⟩
  · exact ⟨_, rfl, rfl⟩
  · exact ⟨_, rfl, rfl⟩
  · exact ⟨_, rfl, rfl⟩
  · by_cases h0 : m.1 68 19 = 0
    · exact ⟨0, by rw [h0]; rfl, by rw [h0]; rfl⟩
    · have h1 : m.1 68 19 = 1 := g7.2.2.2.resolve_left h0
      exact ⟨1, by rw [h1]; rfl, by rw [h1]; rfl⟩
  · exact ⟨_, rfl, rfl⟩
  · exact ⟨_, rfl, rfl⟩
  · exact ⟨_, rfl, rfl⟩
  · exact ⟨_, rfl, rfl⟩
theorem op_about {t : Nat} {m : zM} (x : Int32) (h : Rel t m) : ∃ v, f_X11_about x m = some v ∧ f_X12_about x m = some v := by
  obtain ⟨hP, hJ, hC, hR, hG⟩ := id h
  unfold f_X11_about f_X12_about
  rcases hG with hG | ⟨W, H, hG⟩
  · exact ⟨-10003, by rw [if_pos hG.1], by rw [isG_f hG.2.1]; rfl⟩
  · rw [pr_class hG, if_neg (by decide), isG_t (pr_wide hG) hG.1.2.1 hG.1.2.2.1, Option.bind_some, if_neg (by decide)]
    simp only [w11, w12, Option.bind_some]
    by_cases h1 : (0 : Int32) ≤ x ∧ x ≤ 8
    · obtain ⟨k, hk, rfl⟩ := (winK (k := 8) (by omega)).mp h1
      obtain ⟨v, a, b⟩ := fact_about hG (show k < 9 by omega)
      exact ⟨v, by simp [h1, bi_t, a], by simp [h1, bi_t, b]⟩
    · exact ⟨-10002, by simp [h1, bi_f], by simp [h1, bi_f]⟩
/-! spots and tracks -/
theorem fact_spot {W H : Nat} {m : zM} (h : Prs W H m) (hR : RRw m) {S s k : Nat} (hS : m.1 44 4 = nI S) (hS6 : S ≤ 6) (hs : s < S) (hk : k < 6) : ∃ v, (zg (zin (nI s) 6) (zg (zin (nI k) 6) (some (m.1 (46 + (m.2.2 45 (nI s).toNatClampNeg) % 6) (nI k).toNatClampNeg)))) = some v ∧ f_X12_spotNow (nI s) (nI k) m = some v := by
  obtain ⟨g1, g2, g3, g4, g5, g6, g7, ⟨S', s1, s2, s3, s4⟩, g9⟩ := id h
  have : S' = S := (nI_eq (by omega) (by omega)).mp (s2.symm.trans hS)
  subst this
  obtain ⟨⟨e0, e1, e2, e3, e4, e5⟩, -⟩ := s4 s hs
  unfold f_X12_spotNow
  simp only [zin_nI (show s < 6 by omega) (show (6 : Nat) < 2 ^ 31 by omega), zin_nI hk (show (6 : Nat) < 2 ^ 31 by omega), zg_t, nI_clamp (show s < 2 ^ 31 by omega), nI_clamp (show k < 2 ^ 31 by omega), hR.1 s (by omega), Nat.mod_eq_of_lt (show s < 6 by omega)]
  rcases (show k = 0 ∨ k = 1 ∨ k = 2 ∨ k = 3 ∨ k = 4 ∨ k = 5 by omega) with rfl | rfl | rfl | rfl | rfl | rfl
  · exact ⟨_, rfl, by rw [e0]; rfl⟩
  · exact ⟨_, rfl, by rw [e1]; rfl⟩
  · exact ⟨_, rfl, by rw [e2]; rfl⟩
  · exact ⟨_, rfl, by rw [e3]; rfl⟩
  · exact ⟨_, rfl, by rw [e4]; rfl⟩
  · exact ⟨_, rfl, by rw [e5]; rfl⟩
theorem hasSpot_eq {W H : Nat} {m : zM} (h : Prs W H m) {S : Nat} (hS : m.1 44 4 = nI S) (hS6 : S ≤ 6) (x : Int32) : f_X7_hasSpot x m = some (decide (∃ c, c < S ∧ x = nI c)) := by
  unfold f_X7_hasSpot
  rw [pr_class h, if_neg (by decide), w11, hS]
  simp only [Option.bind_some, win (show S < 2 ^ 31 by omega)]
  by_cases hq : ∃ c, c < S ∧ x = nI c
  · simp [hq, bi_t]
  · simp [hq, bi_f]
theorem op_spot {t : Nat} {m : zM} (x y : Int32) (h : Rel t m) : ∃ v, f_X11_spot x y m = some v ∧ f_X12_spot x y m = some v := by
  obtain ⟨hP, hJ, hC, hR, hG⟩ := id h
  unfold f_X11_spot f_X12_spot
  rcases hG with hG | ⟨W, H, hG⟩
  · refine ⟨-10001, ?_, by rw [isG_f hG.2.1]; rfl⟩
    unfold f_X7_hasSpot
    rw [if_pos hG.1]
    rfl
  · obtain ⟨S, s1, s2, s3, s4⟩ := hG.2.2.2.2.2.2.2.1
    rw [hasSpot_eq hG s2 s1 x, isG_t (pr_wide hG) hG.1.2.1 hG.1.2.2.1, Option.bind_some, Option.bind_some, if_neg (show ¬ bi true = 0 by decide), s3]
    simp only [w11, w12, Option.bind_some, win (show S < 2 ^ 31 by omega)]
    by_cases hq : ∃ c, c < S ∧ x = nI c
    · obtain ⟨c, hc, rfl⟩ := id hq
      by_cases h2 : (0 : Int32) ≤ y ∧ y ≤ 5
      · obtain ⟨w, hw, rfl⟩ := (winK (k := 5) (by omega)).mp h2
        obtain ⟨v, a, b⟩ := fact_spot hG hR s2 s1 hc (show w < 6 by omega)
        exact ⟨v, by simp only [hq, h2, and_self, decide_true, bi_t]; exact a, by simp [hq, h2, bi_t, b]⟩
      · exact ⟨-10002, by simp [hq, h2, bi_t, bi_f], by simp [hq, h2, bi_t, bi_f]⟩
    · exact ⟨-10001, by simp [hq, bi_f], by simp [hq, bi_f]⟩
theorem fact_track {W H : Nat} {m : zM} (h : Prs W H m) (hR : RRw m) {T s k : Nat} (hT : m.1 60 1 = nI T) (hT6 : T ≤ 6) (hs : s < T) (hk : k < 9) : ∃ v, (zg (zin (nI s) 6) (zg (zin (nI k) 9) (some (m.1 (62 + (m.2.2 61 (nI s).toNatClampNeg) % 6) (nI k).toNatClampNeg)))) = some v ∧ f_X12_trackNow (nI s) (nI k) m = some v := by
  obtain ⟨g1, g2, g3, g4, g5, g6, g7, g8, ⟨T', t1, t2, t3, t4⟩⟩ := id h
  have : T' = T := (nI_eq (by omega) (by omega)).mp (t2.symm.trans hT)
  subst this
  obtain ⟨⟨e0, e1, e2, e3, e4, e5, e6, e7, e8⟩, -, -, -, -, e9⟩ := t4 s hs
  unfold f_X12_trackNow
  simp only [zin_nI (show s < 6 by omega) (show (6 : Nat) < 2 ^ 31 by omega), zin_nI hk (show (9 : Nat) < 2 ^ 31 by omega), zg_t, nI_clamp (show s < 2 ^ 31 by omega), nI_clamp (show k < 2 ^ 31 by omega), Nat.mod_eq_of_lt (hR.2.1 s (by omega))]
  rcases (show k = 0 ∨ k = 1 ∨ k = 2 ∨ k = 3 ∨ k = 4 ∨ k = 5 ∨ k = 6 ∨ k = 7 ∨ k = 8 by omega) with rfl | rfl | rfl | rfl | rfl | rfl | rfl | rfl | rfl
  · exact ⟨_, rfl, by rw [e0]; rfl⟩
  · exact ⟨_, rfl, by rw [e1]; rfl⟩
  · exact ⟨_, rfl, by rw [e2]; rfl⟩
  · exact ⟨_, rfl, by rw [e3]; rfl⟩
  · exact ⟨_, rfl, by rw [e4]; rfl⟩
  · exact ⟨_, rfl, by rw [e5]; rfl⟩
  · exact ⟨_, rfl, by rw [e6]; rfl⟩
  · exact ⟨_, rfl, by rw [e7]; rfl⟩
  · rcases e9 with e9 | e9
    · exact ⟨0, by rw [e8, e9], by rw [e9]; rfl⟩
    · exact ⟨1, by rw [e8, e9], by rw [e9]; rfl⟩
theorem hasTrack_eq {W H : Nat} {m : zM} (h : Prs W H m) {T : Nat} (hT : m.1 60 1 = nI T) (hT2 : m.1 68 27 = nI T) (hT6 : T ≤ 6) (x : Int32) : f_X7_hasTrack x m = some (decide (∃ c, c < T ∧ x = nI c)) ∧ f_X12_isTrack x m = some (decide (∃ c, c < T ∧ x = nI c)) := by
  unfold f_X7_hasTrack f_X12_isTrack
  rw [pr_class h, if_neg (by decide), isG_t (pr_wide h) h.1.2.1 h.1.2.2.1, Option.bind_some, if_neg (by decide), w11, w12, hT, hT2]
  simp only [Option.bind_some, win (show T < 2 ^ 31 by omega)]
  by_cases hq : ∃ c, c < T ∧ x = nI c
  · simp [hq, bi_t]
  · simp [hq, bi_f]
theorem absTrack {m : zM} (h : Abs m) (x : Int32) : f_X7_hasTrack x m = some false ∧ f_X12_isTrack x m = some false := by
  unfold f_X7_hasTrack f_X12_isTrack
  rw [if_pos h.1, isG_f h.2.1]
  exact ⟨rfl, rfl⟩
theorem op_track {t : Nat} {m : zM} (x y : Int32) (h : Rel t m) : ∃ v, f_X11_track x y m = some v ∧ f_X12_track x y m = some v := by
  obtain ⟨hP, hJ, hC, hR, hG⟩ := id h
  unfold f_X11_track f_X12_track
  rcases hG with hG | ⟨W, H, hG⟩
  · rw [(absTrack hG x).1, (absTrack hG x).2]
    exact ⟨-10001, rfl, rfl⟩
  · obtain ⟨T, t1, t2, t3, t4⟩ := hG.2.2.2.2.2.2.2.2
    rw [(hasTrack_eq hG t2 t3 t1 x).1, (hasTrack_eq hG t2 t3 t1 x).2]
    simp only [w11, w12, Option.bind_some]
    by_cases hq : ∃ c, c < T ∧ x = nI c
    · obtain ⟨c, hc, rfl⟩ := id hq
      by_cases h2 : (0 : Int32) ≤ y ∧ y ≤ 8
      · obtain ⟨w, hw, rfl⟩ := (winK (k := 8) (by omega)).mp h2
        obtain ⟨v, a, b⟩ := fact_track hG hR t2 t1 hc (show w < 9 by omega)
        exact ⟨v, by simp only [hq, h2, and_self, decide_true, bi_t]; exact a, by simp [hq, h2, bi_t, b]⟩
      · exact ⟨-10002, by simp [hq, h2, bi_t, bi_f], by simp [hq, h2, bi_t, bi_f]⟩
    · exact ⟨-10001, by simp [hq, bi_f], by simp [hq, bi_f]⟩
theorem op_as {t : Nat} {m : zM} (x y : Int32) (h : Rel t m) : ∃ v, f_X11_as x y m = some v ∧ f_X12_as x y m = some v := by
  obtain ⟨hP, hJ, hC, hR, hG⟩ := id h
  unfold f_X11_as f_X12_as
  rcases hG with hG | ⟨W, H, hG⟩
  · rw [(absTrack hG x).1, (absTrack hG x).2]
    exact ⟨-10001, rfl, rfl⟩
  · obtain ⟨T, t1, t2, t3, t4⟩ := hG.2.2.2.2.2.2.2.2
    rw [(hasTrack_eq hG t2 t3 t1 x).1, (hasTrack_eq hG t2 t3 t1 x).2]
    simp only [w11, w12, Option.bind_some]
    by_cases hq : ∃ c, c < T ∧ x = nI c
    · obtain ⟨c, hc, rfl⟩ := id hq
      by_cases h2 : (0 : Int32) ≤ y ∧ y ≤ 1
      · obtain ⟨w, hw, rfl⟩ := (winK (k := 1) (by omega)).mp h2
        obtain ⟨⟨e0, -, -, -, -, -, -, -, e8⟩, -, -, -, -, e9⟩ := t4 c hc
        have hd : decide (∃ c', c' < T ∧ nI c = nI c') = true := decide_eq_true hq
        have hd2 : decide ((0 : Int32) ≤ nI w ∧ nI w ≤ 1) = true := decide_eq_true h2
        simp only [hd, hd2, bi_t, zin_nI (show c < 6 by omega) (show (6 : Nat) < 2 ^ 31 by omega), zg_t, nI_clamp (show c < 2 ^ 31 by omega), Nat.mod_eq_of_lt (hR.2.1 c (by omega)), e0, e8, j_X12_as_41]
        rcases (show w = 0 ∨ w = 1 by omega) with rfl | rfl
        · by_cases hp : m.1 95 c = 0
          · exact ⟨m.1 87 c, by rw [hp]; rfl, by rw [hp]; rfl⟩
          · have hp1 := e9.resolve_left hp
            exact ⟨-1, by rw [hp1]; rfl, by rw [hp1]; rfl⟩
        · by_cases hp : m.1 95 c = 0
          · exact ⟨-1, by rw [hp]; rfl, by rw [hp]; rfl⟩
          · have hp1 := e9.resolve_left hp
            exact ⟨m.1 87 c, by rw [hp1]; rfl, by rw [hp1]; rfl⟩
      · exact ⟨-10002, by simp [hq, h2, bi_t, bi_f], by simp [hq, h2, bi_t, bi_f]⟩
    · exact ⟨-10001, by simp [hq, bi_f], by simp [hq, bi_f]⟩
/-! counts and events -/
theorem fact_count {m : zM} (hP : RP m) (hC : RC m) (x : Int32) : ∃ v, f_X11_count x m = some v ∧ f_X12_howMany x m = some v := by
  unfold f_X11_count f_X12_howMany
  obtain ⟨c1, c2, c3, c4, c5⟩ := hC
  rw [hP.1, c1, c2, c3, c4, c5]
  split
  · exact ⟨_, rfl, rfl⟩
  split
  · exact ⟨_, rfl, rfl⟩
  split
  · exact ⟨_, rfl, rfl⟩
  split
  · exact ⟨_, rfl, rfl⟩
  split
  · exact ⟨_, rfl, rfl⟩
  split
  · exact ⟨_, rfl, rfl⟩
  · exact ⟨_, rfl, rfl⟩
theorem op_count {t : Nat} {m : zM} (x : Int32) (h : Rel t m) : ∃ v, f_X11_count x m = some v ∧ f_X12_count x m = some v := by
  obtain ⟨v, a, b⟩ := fact_count h.1 h.2.2.1 x
  exact ⟨v, a, by unfold f_X12_count; rw [b]; rfl⟩
theorem op_events {t : Nat} {m : zM} (x : Int32) (h : Rel t m) : ∃ v, f_X11_events x m = some v ∧ f_X12_events x m = some v := by
  obtain ⟨hP, ⟨N, j1, j2, j3, j4, j5, j6⟩, hC, hR, hG⟩ := id h
  unfold f_X11_events f_X12_events
  simp only [w11, w12, Option.bind_some]
  by_cases h1 : (1 : Int32) ≤ x ∧ x ≤ 4
  · have h0 : (0 : Int32) ≤ x ∧ x ≤ 4 := ⟨Int32.le_trans (by decide) h1.1, h1.2⟩
    obtain ⟨k, hk, rfl⟩ := (winK (k := 4) (by omega)).mp h0
    exact ⟨m.1 99 k, by simp [h1, bi_t, zin_nI (show k < 5 by omega) (show (5 : Nat) < 2 ^ 31 by omega), zg_t, nI_clamp (show k < 2 ^ 31 by omega), j5 k (by omega)], by simp [h1, bi_t, zin_nI (show k < 5 by omega) (show (5 : Nat) < 2 ^ 31 by omega), zg_t, nI_clamp (show k < 2 ^ 31 by omega)]⟩
  · exact ⟨-10002, by simp [h1, bi_f], by simp [h1, bi_f]⟩
theorem kept_eq {m : zM} {N : Nat} (h : m.1 8 4 = nI N) (hN : N < 2 ^ 31) : f_X4_kept m = some (nI (min N 12)) := by
  unfold f_X4_kept f_J9_min_7cf53
  rw [h]
  by_cases h12 : 12 < N
  · have : (12 : Int32) < nI N := nI_lt (a := 12) h12 hN
    rw [if_pos this, Nat.min_eq_right (by omega)]
    rfl
  · have : ¬ (12 : Int32) < nI N := nI_nlt (b := N) (a := 12) (by omega) (by omega)
    rw [if_neg this, Nat.min_eq_left (by omega)]
    rfl
theorem fact_event {t : Nat} {m : zM} (h : RJ t m) (ht : t ≤ 600) {N p k : Nat} (hN : m.1 8 4 = nI N) (hN2 : N ≤ 240 * t) (hp : p < min N 12) (hk : k < 3) : ∃ v, f_X4_fact (nI p) (nI k) m = some v ∧ f_X12_eventNow (nI p) (nI k) m = some v := by
  obtain ⟨N', j1, j2, j3, j4, j5, j6⟩ := h
  have : N' = N := (nI_eq (by omega) (by omega)).mp (j2.symm.trans hN)
  subst this
  have hp1 : p < N' := by omega
  have hp2 : p < 12 := by omega
  obtain ⟨e1, e2, e3⟩ := j4 p hp
  unfold f_X4_fact f_X12_eventNow f_J9_floorMod_7cf53
  have a1 : nI N' - 1 - nI p = nI (N' - 1 - p) := by
    obtain ⟨q, rfl⟩ : ∃ q, N' = q + 1 := ⟨N' - 1, by omega⟩
    rw [nI_pred, pk_sub (by omega)]
    rfl
  have a2 : znz 12 = true := by decide
  have a3 : zrem (nI (N' - 1 - p)) 12 = nI ((N' - 1 - p) % 12) := pk_rem (d := 12) (by omega) (by omega) (by omega)
  have a4 : (0 : Int32) ≤ nI (N' - 1 - p) ^^^ 12 := by
    rw [show (12 : Int32) = nI 12 from rfl, show nI (N' - 1 - p) ^^^ nI 12 = nI ((N' - 1 - p) ^^^ 12) from ?_]
    · refine nI_pos' ?_
      exact Nat.xor_lt_two_pow (by omega) (by omega)
    · apply Int32.toBitVec_inj.mp
      rw [Int32.toBitVec_xor]
      show BitVec.ofNat 32 _ ^^^ BitVec.ofNat 32 _ = BitVec.ofNat 32 _
      rw [BitVec.ofNat_xor]
  rw [hN, a1]
  simp only [a2, zg_t, a3, a4, if_true, Option.bind_some, zin_nI (Nat.mod_lt _ (by omega)) (show (12 : Nat) < 2 ^ 31 by omega), zin_nI hp2 (show (12 : Nat) < 2 ^ 31 by omega), nI_clamp (show (N' - 1 - p) % 12 < 2 ^ 31 by omega), nI_clamp (show p < 2 ^ 31 by omega), e1, e2, e3]
  rcases (show k = 0 ∨ k = 1 ∨ k = 2 by omega) with rfl | rfl | rfl
  · exact ⟨_, rfl, rfl⟩
  · exact ⟨_, rfl, rfl⟩
  · exact ⟨_, rfl, rfl⟩
theorem op_event {t : Nat} {m : zM} (x y : Int32) (h : Rel t m) (ht : t ≤ 600) : ∃ v, f_X11_event x y m = some v ∧ f_X12_event x y m = some v := by
  obtain ⟨hP, hJ, hC, hR, hG⟩ := id h
  obtain ⟨N, j1, j2, j3, j4, j5, j6⟩ := id hJ
  unfold f_X11_event f_X12_event
  rw [kept_eq j2 (by omega), Option.bind_some, j3]
  simp only [w11, w12, Option.bind_some, win (show min N 12 < 2 ^ 31 by omega)]
  by_cases hq : ∃ c, c < min N 12 ∧ x = nI c
  · obtain ⟨c, hc, rfl⟩ := id hq
    by_cases h2 : (0 : Int32) ≤ y ∧ y ≤ 2
    · obtain ⟨w, hw, rfl⟩ := (winK (k := 2) (by omega)).mp h2
      obtain ⟨v, a, b⟩ := fact_event hJ ht j2 j1 hc (show w < 3 by omega)
      exact ⟨v, by simp [hq, h2, bi_t, a], by simp [hq, h2, bi_t, b]⟩
    · exact ⟨-10002, by simp [hq, h2, bi_t, bi_f], by simp [hq, h2, bi_t, bi_f]⟩
  · exact ⟨-10001, by simp [hq, bi_f], by simp [hq, bi_f]⟩
