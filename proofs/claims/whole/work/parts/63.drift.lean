/-! ===== a frame: the drift ===== -/
theorem RGr.fr {W H : Nat} {S : List Nat} {m m' : zM} (h : RGr W H m) (f : Fr S m m') (h1 : 13 ∉ S) (h2 : 14 ∉ S) (h3 : 15 ∉ S) (h4 : 16 ∉ S) (h5 : 17 ∉ S) (h6 : 18 ∉ S) (h7 : 68 ∉ S) : RGr W H m' :=
  RGr.cg h (congrFun (f.2 13 h1) 7) (congrFun (f.2 14 h2) 0) (congrFun (f.2 14 h2) 1) (congrFun (f.2 14 h2) 2) (congrFun (f.2 68 h7) 2) (congrFun (f.2 68 h7) 3) (f.2 15 h3) (f.2 16 h4) (f.2 17 h5) (f.2 18 h6)
def zdr (x gap : Int32) : Int32 := if gap ≤ x then (if -x ≤ gap then gap else -x) else x
def zdrB (P : Nat → Bool) (R U : Nat → Int32) (x : Int32) (W H k : Nat) : Int32 := if near P W H k then U k else U k + zdr x (R k - U k)
theorem drift_mm {x gap : Int32} (h0 : 0 ≤ x) (h1 : x ≤ 50) (m : zM) : ((f_J9_min_7cf53 x gap m).bind fun r5 => f_J9_max_7cf53 (-x) r5 m) = some (zdr x gap) := by
  obtain ⟨k, hk, rfl⟩ := (winK (k := 50) (by omega)).mp ⟨h0, h1⟩
  have hn : (-(nI k)).toInt = -(k : Int) := by
    rw [Int32.toInt_neg, nI_toInt (by omega)]
    exact Int.bmod_eq_of_le (by omega) (by omega)
  have hp := nI_toInt (n := k) (by omega)
  unfold f_J9_min_7cf53 f_J9_max_7cf53 zdr
  by_cases c1 : gap < nI k
  · have c2 : gap ≤ nI k := Int32.le_of_lt c1
    simp only [c1, c2, if_true, Option.bind_some]
    by_cases c3 : -(nI k) < gap
    · simp only [c3, if_true, Int32.le_of_lt c3]
    · simp only [c3, if_false]
      by_cases c4 : -(nI k) ≤ gap
      · simp only [c4, if_true]
        rw [Int32.le_antisymm c4 (Int32.not_lt.mp c3)]
      · simp only [c4, if_false]
  · simp only [c1, if_false, Option.bind_some]
    by_cases c2 : gap ≤ nI k
    · have e : gap = nI k := Int32.le_antisymm c2 (Int32.not_lt.mp c1)
      subst e
      simp only [c2, if_true]
      by_cases c3 : -(nI k) < nI k
      · simp only [c3, if_true, Int32.le_of_lt c3]
      · simp only [c3, if_false]
        by_cases c4 : -(nI k) ≤ nI k
        · simp only [c4, if_true]
          rw [Int32.le_antisymm c4 (Int32.not_lt.mp c3)]
        · simp only [c4, if_false]
    · simp only [c2, if_false]
      by_cases c3 : -(nI k) < nI k
      · simp only [c3, if_true]
      · simp only [c3, if_false]
        rw [lt32, hn, hp] at c3
        have : k = 0 := by omega
        subst this
        rfl
theorem drift_c {W H : Nat} {m : zM} {P : Nat → Bool} {R U : Nat → Int32} {x : Int32} (g : RGr W H m) (h0 : 0 ≤ x) (h1 : x ≤ 50) (hT : ∀ k, k < W * H → (m.1 53 k = 0 ↔ P k = false)) (hR : ∀ k, k < W * H → m.1 35 k = R k) (hU : ∀ k, k < W * H → m.1 33 k = U k) : ∃ m', f_X9_driftBaselines x m = some m' ∧ Fr [33] m m' ∧ ∀ k, k < W * H → m'.1 33 k = zdrB P R U x W H k := by
  obtain ⟨_, w3, w8, h3, h8, _, _, q3, _⟩ := id g
  have h64 : W * H ≤ 64 := Nat.mul_le_mul w8 h8
  unfold f_X9_driftBaselines
  have key : ∃ m', zloop (b_X9_driftBaselines_2 x) zFU (0, m) = some m' ∧ Fr [33] m m' ∧ ∀ k, k < W * H → m'.1 33 k = zdrB P R U x W H k := by
    refine zforQ (fun i s => s.1 = nI i ∧ Fr [33] m s.2 ∧ (∀ k, k < i → s.2.1 33 k = zdrB P R U x W H k) ∧ ∀ k, i ≤ k → k < W * H → s.2.1 33 k = U k) (W * H) _ ⟨rfl, Fr.refl, fun k hk => by omega, fun k _ hk => hU k hk⟩ ?_ ?_ (by omega)
    · rintro i ⟨y, w⟩ hi ⟨rfl, f1, f2, f3⟩
      simp only at f1 f2 f3
      have gw : RGr W H w := g.fr f1 (by decide) (by decide) (by decide) (by decide) (by decide) (by decide) (by decide)
      have hz := zin_nI (show i < 64 by omega) (show 64 < 2 ^ 31 by decide)
      have hcl := nI_clamp (show i < 2 ^ 31 by omega)
      have e14 := f1.2 14 (by decide)
      have e35 := f1.2 35 (by decide)
      have e53 := f1.2 53 (by decide)
      unfold b_X9_driftBaselines_2 j_X9_driftBaselines_60
      rw [meets_v1_eq gw (P := P) (fun k hk => by rw [e53]; exact hT k hk) hi]
      simp only [e14, q3, nI_ge hi (show W * H < 2 ^ 31 by omega), if_false, Option.bind_some, hz, zg_t, hcl, e35, hR i hi, f3 i (Nat.le_refl _) hi, nI_1]
      cases hn : near P W H i with
      | true =>
        refine ⟨_, rfl, rfl, f1, fun k hk => ?_, fun k hk hk2 => f3 k (by omega) hk2⟩
        by_cases hk2 : k = i
        · subst hk2
          show w.1 33 k = _
          unfold zdrB
          rw [f3 k (Nat.le_refl _) hi, hn]
          rfl
        · exact f2 k (by omega)
      | false =>
        have hmm := drift_mm h0 h1 (gap := R i - U i) w
        simp only [bi_f, if_true]
        have hb : ∀ (F : Int32 → Option ((Int32 × zM) ⊕ zM)), ((f_J9_min_7cf53 x (R i - U i) w).bind fun r5 => (f_J9_max_7cf53 (-x) r5 w).bind F) = F (zdr x (R i - U i)) := by
          intro F
          rw [← Option.bind_assoc, hmm]
          rfl
        rw [hb]
        refine ⟨_, rfl, rfl, f1.st (by decide), fun k hk => ?_, fun k hk hk2 => ?_⟩
        · by_cases hk2 : k = i
          · subst hk2
            unfold zdrB
            rw [hn]
            simp [zi]
          · have := f2 k (by omega)
            simpa [zi, hk2] using this
        · have := f3 k (by omega) hk2
          simpa [zi, show ¬ k = i by omega] using this
    · rintro ⟨y, w⟩ ⟨rfl, f1, f2, f3⟩
      simp only at f1 f2 f3
      have e14 := f1.2 14 (by decide)
      refine ⟨w, ?_, f1, f2⟩
      unfold b_X9_driftBaselines_2
      simp only [e14, q3, nI_le (Nat.le_refl (W * H)) (show W * H < 2 ^ 31 by omega), if_true]
  obtain ⟨m', e, q⟩ := key
  exact ⟨m', by rw [e]; rfl, q⟩
theorem drift_m {W H : Nat} {m : zM} {P : Nat → Bool} {R U : Nat → Int32} (hw : m.1 68 2 = nI W) (hh : m.1 68 3 = nI H) (w3 : 3 ≤ W) (w8 : W ≤ 8) (h3 : 3 ≤ H) (h8 : H ≤ 8) (hT : ∀ k, k < W * H → (m.1 74 k = -1 ↔ P k = false)) (hR : ∀ k, k < W * H → m.1 72 k = R k) (hU : ∀ k, k < W * H → m.1 71 k = U k) : ∃ m', f_X12_drift m = some m' ∧ Fr [71] m m' ∧ ∀ k, k < W * H → m'.1 71 k = zdrB P R U (m.1 80 7) W H k := by
  have h64 : W * H ≤ 64 := Nat.mul_le_mul w8 h8
  unfold f_X12_drift
  have key : ∃ m', zloop b_X12_drift_2 zFU (0, m) = some m' ∧ Fr [71] m m' ∧ ∀ k, k < W * H → m'.1 71 k = zdrB P R U (m.1 80 7) W H k := by
    refine zforQ (fun i s => s.1 = nI i ∧ Fr [71] m s.2 ∧ (∀ k, k < i → s.2.1 71 k = zdrB P R U (m.1 80 7) W H k) ∧ ∀ k, i ≤ k → k < W * H → s.2.1 71 k = U k) (W * H) _ ⟨rfl, Fr.refl, fun k hk => by omega, fun k _ hk => hU k hk⟩ ?_ ?_ (by omega)
    · rintro i ⟨y, w⟩ hi ⟨rfl, f1, f2, f3⟩
      simp only at f1 f2 f3
      have hz := zin_nI (show i < 64 by omega) (show 64 < 2 ^ 31 by decide)
      have hcl := nI_clamp (show i < 2 ^ 31 by omega)
      have e68 := f1.2 68 (by decide)
      have e72 := f1.2 72 (by decide)
      have e74 := f1.2 74 (by decide)
      have e80 := f1.2 80 (by decide)
      have ew : w.1 68 2 = nI W := by rw [e68, hw]
      have eh : w.1 68 3 = nI H := by rw [e68, hh]
      have fin : ∀ (v : Int32), near P W H i = false → v = zdr (m.1 80 7) (R i - U i) → ∃ s1 : Int32 × zM, j_X12_drift_84 (nI i) v (U i) (nI i) w = some (.inl s1) ∧ s1.1 = nI (i + 1) ∧ Fr [71] m s1.2 ∧ (∀ k, k < i + 1 → s1.2.1 71 k = zdrB P R U (m.1 80 7) W H k) ∧ ∀ k, i + 1 ≤ k → k < W * H → s1.2.1 71 k = U k := by
        intro v hn hv
        unfold j_X12_drift_84 j_X12_drift_86
        simp only [hz, zg_t, hcl, nI_1]
        refine ⟨_, rfl, rfl, f1.st (by decide), fun k hk => ?_, fun k hk hk2 => ?_⟩
        · by_cases hk2 : k = i
          · subst hk2
            unfold zdrB
            rw [hn]
            simp [zi, hv]
          · have := f2 k (by omega)
            simpa [zi, hk2] using this
        · have := f3 k (by omega) hk2
          simpa [zi, show ¬ k = i by omega] using this
      unfold b_X12_drift_2
      rw [cells_eq ew eh]
      simp only [Option.bind_some, nI_ge hi (show W * H < 2 ^ 31 by omega), if_false, nearSpot_eq ew eh w3 w8 h3 h8 (P := P) (fun k hk => by rw [e74]; exact hT k hk) hi, hz, zg_t, hcl, e72, hR i hi, f3 i (Nat.le_refl _) hi, e80]
      cases hn : near P W H i with
      | true =>
        refine ⟨_, rfl, by rw [nI_1], f1, fun k hk => ?_, fun k hk hk2 => f3 k (by omega) hk2⟩
        by_cases hk2 : k = i
        · subst hk2
          show w.1 71 k = _
          unfold zdrB
          rw [f3 k (Nat.le_refl _) hi, hn]
          rfl
        · exact f2 k (by omega)
      | false =>
        simp only [bi_f, if_true]
        unfold zdr at fin
        by_cases c1 : R i - U i ≤ m.1 80 7
        · rw [if_pos c1]
          by_cases c2 : -(m.1 80 7) ≤ R i - U i
          · rw [if_pos c2]
            exact fin _ hn (by rw [if_pos c1, if_pos c2])
          · rw [if_neg c2]
            exact fin _ hn (by rw [if_pos c1, if_neg c2])
        · rw [if_neg c1]
          exact fin _ hn (by rw [if_neg c1])
    · rintro ⟨y, w⟩ ⟨rfl, f1, f2, f3⟩
      simp only at f1 f2 f3
      have e68 := f1.2 68 (by decide)
      have ew : w.1 68 2 = nI W := by rw [e68, hw]
      have eh : w.1 68 3 = nI H := by rw [e68, hh]
      refine ⟨w, ?_, f1, f2⟩
      unfold b_X12_drift_2
      rw [cells_eq ew eh]
      simp only [Option.bind_some, nI_le (Nat.le_refl (W * H)) (show W * H < 2 ^ 31 by omega), if_true]
  obtain ⟨m', e, q⟩ := key
  exact ⟨m', by rw [e]; rfl, q⟩
