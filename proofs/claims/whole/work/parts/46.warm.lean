/-! ===== warm, settle ===== -/
def zsum (f : Nat → Int32) : Nat → Int32
  | 0 => 0
  | k + 1 => zsum f k + f k
theorem zsum_congr {f g : Nat → Int32} : ∀ n, (∀ k, k < n → f k = g k) → zsum f n = zsum g n
  | 0, _ => rfl
  | n + 1, h => by
    show zsum f n + f n = zsum g n + g n
    rw [zsum_congr n (fun k hk => h k (by omega)), h n (by omega)]
theorem zup_same {i : Nat} {G g : Nat → Int32} (h : G i = g i) : zup (i + 1) G g = zup i G g := by
  funext j
  unfold zup
  by_cases h1 : j < i
  · simp [h1, Nat.lt_succ_of_lt h1]
  · by_cases h2 : j = i
    · subst h2; simp [h]
    · have : ¬ j < i + 1 := by omega
      simp [h1, this]
def zheld (x : Int32) : Int32 := if 0 ≤ x then (if x ≤ 999 then x else 999) else 0
theorem held_eq (x : Int32) (m : zM) : f_X12_held x m = some (zheld x) := by
  unfold f_X12_held zheld
  split
  · split <;> rfl
  · rfl
theorem held_mm (x : Int32) (m : zM) : ((f_J9_min_7cf53 999 x m).bind fun r2 => f_J9_max_7cf53 0 r2 m) = some (zheld x) := by
  unfold f_J9_min_7cf53 f_J9_max_7cf53 zheld
  by_cases h1 : x < 999
  · have h2 : x ≤ 999 := Int32.le_of_lt h1
    by_cases h3 : 0 < x
    · simp [h1, h2, h3, Int32.le_of_lt h3]
    · by_cases h4 : 0 ≤ x
      · have : x = 0 := Int32.le_antisymm (Int32.not_lt.mp h3) h4
        subst this
        rfl
      · simp [h1, h3, h4]
  · have h2 : (999 : Int32) ≤ x := Int32.not_lt.mp h1
    have h4 : 0 ≤ x := Int32.le_trans (by decide) h2
    by_cases h5 : x ≤ 999
    · have : x = 999 := Int32.le_antisymm h5 h2
      subst this
      rfl
    · simp only [h1, h4, h5, if_true, if_false, Option.bind_some]
      rfl
theorem zheld_in (x : Int32) : 0 ≤ zheld x ∧ zheld x ≤ 999 := by
  unfold zheld
  split
  · split
    · exact ⟨by assumption, by assumption⟩
    · decide
  · decide
theorem warm_c {m : zM} {n : Nat} (hn : m.1 14 2 = nI n) (h64 : n ≤ 64) (y : Int32) : f_X9_addToBackgrounds y m = some (zsum (fun k => if zheld (m.1 32 k + y) = m.1 32 k then 0 else 1) n, zrow m 32 (zup n (fun k => zheld (m.1 32 k + y)) (m.1 32))) := by
  unfold f_X9_addToBackgrounds
  rw [zfor (fun i => (zsum (fun k => if zheld (m.1 32 k + y) = m.1 32 k then 0 else 1) i, nI i, zrow m 32 (zup i (fun k => zheld (m.1 32 k + y)) (m.1 32)))) n (r := (zsum (fun k => if zheld (m.1 32 k + y) = m.1 32 k then 0 else 1) n, zrow m 32 (zup n (fun k => zheld (m.1 32 k + y)) (m.1 32)))) ?_ ?_ ?_ (by omega)]
  · rfl
  · simp only [zup_0, zrow_self]
    rfl
  · intro i hi
    unfold b_X9_addToBackgrounds_4 j_X9_addToBackgrounds_57
    have e1 : (zrow m 32 (zup i (fun k => zheld (m.1 32 k + y)) (m.1 32))).1 14 2 = nI n := by rw [← hn]; simp [zrow]
    have e2 : (zrow m 32 (zup i (fun k => zheld (m.1 32 k + y)) (m.1 32))).1 32 i = m.1 32 i := by rw [zrow_eq, zup_ge (Nat.le_refl _)]
    have hc : ¬ nI n ≤ nI i := nI_ge hi (by omega)
    simp only [e1, hc, if_false, zin_nI (show i < 64 by omega) (show (64 : Nat) < 2 ^ 31 by omega), zg_t, nI_clamp (show i < 2 ^ 31 by omega), e2, nI_1]
    have hm := held_mm (m.1 32 i + y) (zrow m 32 (zup i (fun k => zheld (m.1 32 k + y)) (m.1 32)))
    obtain ⟨r2, h2, h3⟩ := Option.bind_eq_some_iff.mp hm
    simp only [h2, Option.bind_some, h3]
    by_cases hz : zheld (m.1 32 i + y) = m.1 32 i
    · rw [if_pos hz, zup_same hz]
      simp [zsum, hz]
    · rw [if_neg hz, zi_zrow, zup_succ (G := fun k => zheld (m.1 32 k + y)) (g := m.1 32) rfl]
      simp [zsum, hz]
  · unfold b_X9_addToBackgrounds_4
    have e1 : (zrow m 32 (zup n (fun k => zheld (m.1 32 k + y)) (m.1 32))).1 14 2 = nI n := by rw [← hn]; simp [zrow]
    simp only [e1, Int32.le_refl, if_true]
theorem warm_m {m : zM} {W H : Nat} (hw : m.1 68 2 = nI W) (hh : m.1 68 3 = nI H) (h64 : W * H ≤ 64) (y : Int32) : (zloop (b_X12_warm_30 y) zFU (0, 0, m)) = some (zsum (fun k => if zheld (m.1 70 k + y) = m.1 70 k then 0 else 1) (W * H), zrow m 70 (zup (W * H) (fun k => zheld (m.1 70 k + y)) (m.1 70))) := by
  refine zfor (fun i => (zsum (fun k => if zheld (m.1 70 k + y) = m.1 70 k then 0 else 1) i, nI i, zrow m 70 (zup i (fun k => zheld (m.1 70 k + y)) (m.1 70)))) (W * H) ?_ ?_ ?_ (by omega)
  · simp only [zup_0, zrow_self]
    rfl
  · intro i hi
    unfold b_X12_warm_30 j_X12_warm_68
    have e1 : (zrow m 70 (zup i (fun k => zheld (m.1 70 k + y)) (m.1 70))).1 68 2 = nI W := by rw [← hw]; simp [zrow]
    have e3 : (zrow m 70 (zup i (fun k => zheld (m.1 70 k + y)) (m.1 70))).1 68 3 = nI H := by rw [← hh]; simp [zrow]
    have e2 : (zrow m 70 (zup i (fun k => zheld (m.1 70 k + y)) (m.1 70))).1 70 i = m.1 70 i := by rw [zrow_eq, zup_ge (Nat.le_refl _)]
    have hc : ¬ nI (W * H) ≤ nI i := nI_ge hi (by omega)
    simp only [cells_eq e1 e3, Option.bind_some, hc, if_false, zin_nI (show i < 64 by omega) (show (64 : Nat) < 2 ^ 31 by omega), zg_t, nI_clamp (show i < 2 ^ 31 by omega), e2, nI_1, held_eq]
    by_cases hz : zheld (m.1 70 i + y) = m.1 70 i
    · rw [if_pos hz, zi_zrow, zup_succ (G := fun k => zheld (m.1 70 k + y)) (g := m.1 70) rfl]
      simp [zsum, hz]
    · rw [if_neg hz, zi_zrow, zup_succ (G := fun k => zheld (m.1 70 k + y)) (g := m.1 70) rfl]
      simp [zsum, hz]
  · unfold b_X12_warm_30
    have e1 : (zrow m 70 (zup (W * H) (fun k => zheld (m.1 70 k + y)) (m.1 70))).1 68 2 = nI W := by rw [← hw]; simp [zrow]
    have e3 : (zrow m 70 (zup (W * H) (fun k => zheld (m.1 70 k + y)) (m.1 70))).1 68 3 = nI H := by rw [← hh]; simp [zrow]
    simp only [cells_eq e1 e3, Option.bind_some, Int32.le_refl, if_true]
theorem op_warm {t : Nat} {m : zM} (y : Int32) (h : Rel t m) : ∃ v m1 m2, f_X11_warm y m = some (v, m1) ∧ f_X12_warm y m1 = some (v, m2) ∧ Rel (t + 1) m2 := by
  obtain ⟨hP, hJ, hC, hR, hG⟩ := id h
  unfold f_X11_warm f_X12_warm
  rcases hG with hG | ⟨W, H, hG⟩
  · exact ⟨-10003, m, m, by rw [if_pos hG.1], by rw [isG_f hG.2.1]; rfl, h.mono (by omega)⟩
  · obtain ⟨g1, g2, g3, g4, g5, g6, g7, g8, g9⟩ := id hG
    have h64 := hG.n64
    by_cases h1 : (-99 : Int32) ≤ y ∧ y ≤ 99
    · have hs : zsum (fun k => if zheld (m.1 70 k + y) = m.1 70 k then 0 else 1) (W * H) = zsum (fun k => if zheld (m.1 32 k + y) = m.1 32 k then 0 else 1) (W * H) := zsum_congr _ (fun k hk => by rw [(g4.1 k hk).1])
      refine ⟨zsum (fun k => if zheld (m.1 32 k + y) = m.1 32 k then 0 else 1) (W * H), zrow m 32 (zup (W * H) (fun k => zheld (m.1 32 k + y)) (m.1 32)), zrow (zrow m 32 (zup (W * H) (fun k => zheld (m.1 32 k + y)) (m.1 32))) 70 (zup (W * H) (fun k => zheld (m.1 70 k + y)) (m.1 70)), ?_, ?_, ?_⟩
      · rw [pr_class hG, if_neg (by decide), w11, warm_c g1.2.2.2.2.2.2.2.1 h64 y]
        simp only [Option.bind_some, h1, and_self, decide_true, bi_t]
        rfl
      · have e1 : (zrow m 32 (zup (W * H) (fun k => zheld (m.1 32 k + y)) (m.1 32))).1 68 2 = nI W := by rw [← pr_wide hG]; simp [zrow]
        have e2 : (zrow m 32 (zup (W * H) (fun k => zheld (m.1 32 k + y)) (m.1 32))).1 68 3 = nI H := by rw [← pr_high hG]; simp [zrow]
        have e3 : (zrow m 32 (zup (W * H) (fun k => zheld (m.1 32 k + y)) (m.1 32))).1 70 = m.1 70 := zrow_ne (by decide)
        rw [isG_t e1 g1.2.1 g1.2.2.1, w12, warm_m e1 e2 h64 y, e3, hs]
        simp only [Option.bind_some, h1, and_self, decide_true, bi_t]
        rfl
      · refine ⟨(RP.cg hP (by first | rfl | (simp [zi, zrow]; done) | (funext j; simp [zi, zrow]; done)) (by first | rfl | (simp [zi, zrow]; done) | (funext j; simp [zi, zrow]; done)) (by first | rfl | (simp [zi, zrow]; done) | (funext j; simp [zi, zrow]; done)) (by first | rfl | (simp [zi, zrow]; done) | (funext j; simp [zi, zrow]; done))), RJ.mono (RJ.cg hJ (by first | rfl | (simp [zi, zrow]; done) | (funext j; simp [zi, zrow]; done)) (by first | rfl | (simp [zi, zrow]; done) | (funext j; simp [zi, zrow]; done)) (by first | rfl | (simp [zi, zrow]; done) | (funext j; simp [zi, zrow]; done)) (by first | rfl | (simp [zi, zrow]; done) | (funext j; simp [zi, zrow]; done)) (by first | rfl | (simp [zi, zrow]; done) | (funext j; simp [zi, zrow]; done)) (by first | rfl | (simp [zi, zrow]; done) | (funext j; simp [zi, zrow]; done)) (by first | rfl | (simp [zi, zrow]; done) | (funext j; simp [zi, zrow]; done)) (by first | rfl | (simp [zi, zrow]; done) | (funext j; simp [zi, zrow]; done)) (by first | rfl | (simp [zi, zrow]; done) | (funext j; simp [zi, zrow]; done)) (by first | rfl | (simp [zi, zrow]; done) | (funext j; simp [zi, zrow]; done))) (by omega), (RC.cg hC (by first | rfl | (simp [zi, zrow]; done) | (funext j; simp [zi, zrow]; done)) (by first | rfl | (simp [zi, zrow]; done) | (funext j; simp [zi, zrow]; done)) (by first | rfl | (simp [zi, zrow]; done) | (funext j; simp [zi, zrow]; done)) (by first | rfl | (simp [zi, zrow]; done) | (funext j; simp [zi, zrow]; done)) (by first | rfl | (simp [zi, zrow]; done) | (funext j; simp [zi, zrow]; done)) (by first | rfl | (simp [zi, zrow]; done) | (funext j; simp [zi, zrow]; done)) (by first | rfl | (simp [zi, zrow]; done) | (funext j; simp [zi, zrow]; done)) (by first | rfl | (simp [zi, zrow]; done) | (funext j; simp [zi, zrow]; done)) (by first | rfl | (simp [zi, zrow]; done) | (funext j; simp [zi, zrow]; done)) (by first | rfl | (simp [zi, zrow]; done) | (funext j; simp [zi, zrow]; done))), (RRw.cg hR (by first | rfl | (simp [zi, zrow]; done) | (funext j; simp [zi, zrow]; done)) (by first | rfl | (simp [zi, zrow]; done) | (funext j; simp [zi, zrow]; done))), Or.inr ⟨W, H, (RGr.cg g1 (by first | rfl | (simp [zi, zrow]; done) | (funext j; simp [zi, zrow]; done)) (by first | rfl | (simp [zi, zrow]; done) | (funext j; simp [zi, zrow]; done)) (by first | rfl | (simp [zi, zrow]; done) | (funext j; simp [zi, zrow]; done)) (by first | rfl | (simp [zi, zrow]; done) | (funext j; simp [zi, zrow]; done)) (by first | rfl | (simp [zi, zrow]; done) | (funext j; simp [zi, zrow]; done)) (by first | rfl | (simp [zi, zrow]; done) | (funext j; simp [zi, zrow]; done)) (by first | rfl | (simp [zi, zrow]; done) | (funext j; simp [zi, zrow]; done)) (by first | rfl | (simp [zi, zrow]; done) | (funext j; simp [zi, zrow]; done)) (by first | rfl | (simp [zi, zrow]; done) | (funext j; simp [zi, zrow]; done)) (by first | rfl | (simp [zi, zrow]; done) | (funext j; simp [zi, zrow]; done))), (RHd.cg g2 (by first | rfl | (simp [zi, zrow]; done) | (funext j; simp [zi, zrow]; done)) (by first | rfl | (simp [zi, zrow]; done) | (funext j; simp [zi, zrow]; done)) (by first | rfl | (simp [zi, zrow]; done) | (funext j; simp [zi, zrow]; done)) (by first | rfl | (simp [zi, zrow]; done) | (funext j; simp [zi, zrow]; done)) (by first | rfl | (simp [zi, zrow]; done) | (funext j; simp [zi, zrow]; done)) (by first | rfl | (simp [zi, zrow]; done) | (funext j; simp [zi, zrow]; done)) (by first | rfl | (simp [zi, zrow]; done) | (funext j; simp [zi, zrow]; done)) (by first | rfl | (simp [zi, zrow]; done) | (funext j; simp [zi, zrow]; done))), (RSn.cg g3 (by first | rfl | (simp [zi, zrow]; done) | (funext j; simp [zi, zrow]; done)) (by first | rfl | (simp [zi, zrow]; done) | (funext j; simp [zi, zrow]; done)) (by first | rfl | (simp [zi, zrow]; done) | (funext j; simp [zi, zrow]; done)) (by first | rfl | (simp [zi, zrow]; done) | (funext j; simp [zi, zrow]; done)) (by first | rfl | (simp [zi, zrow]; done) | (funext j; simp [zi, zrow]; done))), ?_, (RSt.cg g5 (by first | rfl | (simp [zi, zrow]; done) | (funext j; simp [zi, zrow]; done)) (by first | rfl | (simp [zi, zrow]; done) | (funext j; simp [zi, zrow]; done))), (RDr.cg g6 (by first | rfl | (simp [zi, zrow]; done) | (funext j; simp [zi, zrow]; done)) (by first | rfl | (simp [zi, zrow]; done) | (funext j; simp [zi, zrow]; done)) (by first | rfl | (simp [zi, zrow]; done) | (funext j; simp [zi, zrow]; done)) (by first | rfl | (simp [zi, zrow]; done) | (funext j; simp [zi, zrow]; done)) (by first | rfl | (simp [zi, zrow]; done) | (funext j; simp [zi, zrow]; done)) (by first | rfl | (simp [zi, zrow]; done) | (funext j; simp [zi, zrow]; done))), (RFr.cg g7 (by first | rfl | (simp [zi, zrow]; done) | (funext j; simp [zi, zrow]; done)) (by first | rfl | (simp [zi, zrow]; done) | (funext j; simp [zi, zrow]; done)) (by first | rfl | (simp [zi, zrow]; done) | (funext j; simp [zi, zrow]; done)) (by first | rfl | (simp [zi, zrow]; done) | (funext j; simp [zi, zrow]; done)) (by first | rfl | (simp [zi, zrow]; done) | (funext j; simp [zi, zrow]; done)) (by first | rfl | (simp [zi, zrow]; done) | (funext j; simp [zi, zrow]; done))), (RSp.cg g8 (by first | rfl | (simp [zi, zrow]; done) | (funext j; simp [zi, zrow]; done)) (by first | rfl | (simp [zi, zrow]; done) | (funext j; simp [zi, zrow]; done)) (by first | rfl | (simp [zi, zrow]; done) | (funext j; simp [zi, zrow]; done)) (by first | rfl | (simp [zi, zrow]; done) | (funext j; simp [zi, zrow]; done)) (by first | rfl | (simp [zi, zrow]; done) | (funext j; simp [zi, zrow]; done)) (by first | rfl | (simp [zi, zrow]; done) | (funext j; simp [zi, zrow]; done)) (by first | rfl | (simp [zi, zrow]; done) | (funext j; simp [zi, zrow]; done)) (by first | rfl | (simp [zi, zrow]; done) | (funext j; simp [zi, zrow]; done)) (by first | rfl | (simp [zi, zrow]; done) | (funext j; simp [zi, zrow]; done)) (by first | rfl | (simp [zi, zrow]; done) | (funext j; simp [zi, zrow]; done)) (by first | rfl | (simp [zi, zrow]; done) | (funext j; simp [zi, zrow]; done)) (by first | rfl | (simp [zi, zrow]; done) | (funext j; simp [zi, zrow]; done)) (by first | rfl | (simp [zi, zrow]; done) | (funext j; simp [zi, zrow]; done)) (by first | rfl | (simp [zi, zrow]; done) | (funext j; simp [zi, zrow]; done))), (RTk.cg g9 hR (by first | rfl | (simp [zi, zrow]; done) | (funext j; simp [zi, zrow]; done)) (by first | rfl | (simp [zi, zrow]; done) | (funext j; simp [zi, zrow]; done)) (by first | rfl | (simp [zi, zrow]; done) | (funext j; simp [zi, zrow]; done)) (by first | rfl | (simp [zi, zrow]; done) | (funext j; simp [zi, zrow]; done)) (by first | rfl | (simp [zi, zrow]; done) | (funext j; simp [zi, zrow]; done)) (by first | rfl | (simp [zi, zrow]; done) | (funext j; simp [zi, zrow]; done)) (by first | rfl | (simp [zi, zrow]; done) | (funext j; simp [zi, zrow]; done)) (by first | rfl | (simp [zi, zrow]; done) | (funext j; simp [zi, zrow]; done)) (by first | rfl | (simp [zi, zrow]; done) | (funext j; simp [zi, zrow]; done)) (by first | rfl | (simp [zi, zrow]; done) | (funext j; simp [zi, zrow]; done)) (by first | rfl | (simp [zi, zrow]; done) | (funext j; simp [zi, zrow]; done)) (by first | rfl | (simp [zi, zrow]; done) | (funext j; simp [zi, zrow]; done)) (by first | rfl | (simp [zi, zrow]; done) | (funext j; simp [zi, zrow]; done)) (by first | rfl | (simp [zi, zrow]; done) | (funext j; simp [zi, zrow]; done)) (by first | rfl | (simp [zi, zrow]; done) | (funext j; simp [zi, zrow]; done)) (by first | rfl | (simp [zi, zrow]; done) | (funext j; simp [zi, zrow]; done)) (by first | rfl | (simp [zi, zrow]; done) | (funext j; simp [zi, zrow]; done)) (by first | rfl | (simp [zi, zrow]; done) | (funext j; simp [zi, zrow]; done)))⟩⟩
        refine ⟨fun j hj => ?_, fun j hj => ?_⟩
        · have a := g4.1 j hj
          refine ⟨?_, by simpa [zrow] using a.2⟩
          simp [zrow, zup_lt hj, a.1]
        · have a := g4.2 j hj
          have b := zheld_in (m.1 70 j + y)
          simpa [zrow, zup_lt hj] using ⟨b.1, b.2, a.2.2⟩
    · refine ⟨-10002, m, m, ?_, ?_, h.mono (by omega)⟩
      · rw [pr_class hG, if_neg (by decide), w11]
        simp [h1, bi_f]
      · rw [isG_t (pr_wide hG) g1.2.1 g1.2.2.1]
        simp [w12, h1, bi_t, bi_f]
theorem settle_c {m : zM} {n : Nat} (hn : m.1 14 2 = nI n) (h64 : n ≤ 64) : f_X9_baselinesToBackgrounds m = some (zsum (fun k => if m.1 33 k = m.1 32 k then 0 else 1) n, zrow m 33 (zup n (m.1 32) (m.1 33))) := by
  unfold f_X9_baselinesToBackgrounds
  rw [zfor (fun i => (zsum (fun k => if m.1 33 k = m.1 32 k then 0 else 1) i, nI i, zrow m 33 (zup i (m.1 32) (m.1 33)))) n (r := (zsum (fun k => if m.1 33 k = m.1 32 k then 0 else 1) n, zrow m 33 (zup n (m.1 32) (m.1 33)))) ?_ ?_ ?_ (by omega)]
  · rfl
  · simp only [zup_0, zrow_self]
    rfl
  · intro i hi
    unfold b_X9_baselinesToBackgrounds_4 j_X9_baselinesToBackgrounds_45
    have e1 : (zrow m 33 (zup i (m.1 32) (m.1 33))).1 14 2 = nI n := by rw [← hn]; simp [zrow]
    have e2 : (zrow m 33 (zup i (m.1 32) (m.1 33))).1 33 i = m.1 33 i := by rw [zrow_eq, zup_ge (Nat.le_refl _)]
    have e3 : (zrow m 33 (zup i (m.1 32) (m.1 33))).1 32 i = m.1 32 i := by rw [zrow_ne (by decide)]
    have hc : ¬ nI n ≤ nI i := nI_ge hi (by omega)
    simp only [e1, hc, if_false, zin_nI (show i < 64 by omega) (show (64 : Nat) < 2 ^ 31 by omega), zg_t, nI_clamp (show i < 2 ^ 31 by omega), e2, e3, nI_1]
    by_cases hz : m.1 33 i = m.1 32 i
    · rw [if_pos hz, zup_same hz.symm]
      simp [zsum, hz]
    · rw [if_neg hz, zi_zrow, zup_succ (G := m.1 32) (g := m.1 33) rfl]
      simp [zsum, hz]
  · unfold b_X9_baselinesToBackgrounds_4
    have e1 : (zrow m 33 (zup n (m.1 32) (m.1 33))).1 14 2 = nI n := by rw [← hn]; simp [zrow]
    simp only [e1, Int32.le_refl, if_true]
theorem settle_m {m : zM} {W H : Nat} (hw : m.1 68 2 = nI W) (hh : m.1 68 3 = nI H) (h64 : W * H ≤ 64) : (zloop (b_X12_settle_15) zFU (0, 0, m)) = some (zsum (fun k => if m.1 71 k = m.1 70 k then 0 else 1) (W * H), zrow m 71 (zup (W * H) (m.1 70) (m.1 71))) := by
  refine zfor (fun i => (zsum (fun k => if m.1 71 k = m.1 70 k then 0 else 1) i, nI i, zrow m 71 (zup i (m.1 70) (m.1 71)))) (W * H) ?_ ?_ ?_ (by omega)
  · simp only [zup_0, zrow_self]
    rfl
  · intro i hi
    unfold b_X12_settle_15 j_X12_settle_44
    have e1 : (zrow m 71 (zup i (m.1 70) (m.1 71))).1 68 2 = nI W := by rw [← hw]; simp [zrow]
    have e3 : (zrow m 71 (zup i (m.1 70) (m.1 71))).1 68 3 = nI H := by rw [← hh]; simp [zrow]
    have e2 : (zrow m 71 (zup i (m.1 70) (m.1 71))).1 71 i = m.1 71 i := by rw [zrow_eq, zup_ge (Nat.le_refl _)]
    have e4 : (zrow m 71 (zup i (m.1 70) (m.1 71))).1 70 i = m.1 70 i := by rw [zrow_ne (by decide)]
    have hc : ¬ nI (W * H) ≤ nI i := nI_ge hi (by omega)
    simp only [cells_eq e1 e3, Option.bind_some, hc, if_false, zin_nI (show i < 64 by omega) (show (64 : Nat) < 2 ^ 31 by omega), zg_t, nI_clamp (show i < 2 ^ 31 by omega), e2, e4, nI_1]
    by_cases hz : m.1 71 i = m.1 70 i
    · rw [if_pos hz, zi_zrow, zup_succ (G := m.1 70) (g := m.1 71) rfl]
      simp [zsum, hz]
    · rw [if_neg hz, zi_zrow, zup_succ (G := m.1 70) (g := m.1 71) rfl]
      simp [zsum, hz]
  · unfold b_X12_settle_15
    have e1 : (zrow m 71 (zup (W * H) (m.1 70) (m.1 71))).1 68 2 = nI W := by rw [← hw]; simp [zrow]
    have e3 : (zrow m 71 (zup (W * H) (m.1 70) (m.1 71))).1 68 3 = nI H := by rw [← hh]; simp [zrow]
    simp only [cells_eq e1 e3, Option.bind_some, Int32.le_refl, if_true]
theorem op_settle {t : Nat} {m : zM} (h : Rel t m) : ∃ v m1 m2, f_X11_settle m = some (v, m1) ∧ f_X12_settle m1 = some (v, m2) ∧ Rel (t + 1) m2 := by
  obtain ⟨hP, hJ, hC, hR, hG⟩ := id h
  unfold f_X11_settle f_X12_settle
  rcases hG with hG | ⟨W, H, hG⟩
  · exact ⟨-10003, m, m, by rw [if_pos hG.1], by rw [isG_f hG.2.1]; rfl, h.mono (by omega)⟩
  · obtain ⟨g1, g2, g3, g4, g5, g6, g7, g8, g9⟩ := id hG
    have h64 := hG.n64
    have hs : zsum (fun k => if m.1 71 k = m.1 70 k then 0 else 1) (W * H) = zsum (fun k => if m.1 33 k = m.1 32 k then 0 else 1) (W * H) := zsum_congr _ (fun k hk => by rw [(g4.1 k hk).1, (g4.1 k hk).2.1])
    refine ⟨zsum (fun k => if m.1 33 k = m.1 32 k then 0 else 1) (W * H), zrow m 33 (zup (W * H) (m.1 32) (m.1 33)), zrow (zrow m 33 (zup (W * H) (m.1 32) (m.1 33))) 71 (zup (W * H) (m.1 70) (m.1 71)), ?_, ?_, ?_⟩
    · rw [pr_class hG, if_neg (by decide), settle_c g1.2.2.2.2.2.2.2.1 h64]
      rfl
    · have e1 : (zrow m 33 (zup (W * H) (m.1 32) (m.1 33))).1 68 2 = nI W := by rw [← pr_wide hG]; simp [zrow]
      have e2 : (zrow m 33 (zup (W * H) (m.1 32) (m.1 33))).1 68 3 = nI H := by rw [← pr_high hG]; simp [zrow]
      have e3 : (zrow m 33 (zup (W * H) (m.1 32) (m.1 33))).1 70 = m.1 70 := zrow_ne (by decide)
      have e4 : (zrow m 33 (zup (W * H) (m.1 32) (m.1 33))).1 71 = m.1 71 := zrow_ne (by decide)
      rw [isG_t e1 g1.2.1 g1.2.2.1, settle_m e1 e2 h64, e3, e4, hs]
      rfl
    · refine ⟨(RP.cg hP (by first | rfl | (simp [zi, zrow]; done) | (funext j; simp [zi, zrow]; done)) (by first | rfl | (simp [zi, zrow]; done) | (funext j; simp [zi, zrow]; done)) (by first | rfl | (simp [zi, zrow]; done) | (funext j; simp [zi, zrow]; done)) (by first | rfl | (simp [zi, zrow]; done) | (funext j; simp [zi, zrow]; done))), RJ.mono (RJ.cg hJ (by first | rfl | (simp [zi, zrow]; done) | (funext j; simp [zi, zrow]; done)) (by first | rfl | (simp [zi, zrow]; done) | (funext j; simp [zi, zrow]; done)) (by first | rfl | (simp [zi, zrow]; done) | (funext j; simp [zi, zrow]; done)) (by first | rfl | (simp [zi, zrow]; done) | (funext j; simp [zi, zrow]; done)) (by first | rfl | (simp [zi, zrow]; done) | (funext j; simp [zi, zrow]; done)) (by first | rfl | (simp [zi, zrow]; done) | (funext j; simp [zi, zrow]; done)) (by first | rfl | (simp [zi, zrow]; done) | (funext j; simp [zi, zrow]; done)) (by first | rfl | (simp [zi, zrow]; done) | (funext j; simp [zi, zrow]; done)) (by first | rfl | (simp [zi, zrow]; done) | (funext j; simp [zi, zrow]; done)) (by first | rfl | (simp [zi, zrow]; done) | (funext j; simp [zi, zrow]; done))) (by omega), (RC.cg hC (by first | rfl | (simp [zi, zrow]; done) | (funext j; simp [zi, zrow]; done)) (by first | rfl | (simp [zi, zrow]; done) | (funext j; simp [zi, zrow]; done)) (by first | rfl | (simp [zi, zrow]; done) | (funext j; simp [zi, zrow]; done)) (by first | rfl | (simp [zi, zrow]; done) | (funext j; simp [zi, zrow]; done)) (by first | rfl | (simp [zi, zrow]; done) | (funext j; simp [zi, zrow]; done)) (by first | rfl | (simp [zi, zrow]; done) | (funext j; simp [zi, zrow]; done)) (by first | rfl | (simp [zi, zrow]; done) | (funext j; simp [zi, zrow]; done)) (by first | rfl | (simp [zi, zrow]; done) | (funext j; simp [zi, zrow]; done)) (by first | rfl | (simp [zi, zrow]; done) | (funext j; simp [zi, zrow]; done)) (by first | rfl | (simp [zi, zrow]; done) | (funext j; simp [zi, zrow]; done))), (RRw.cg hR (by first | rfl | (simp [zi, zrow]; done) | (funext j; simp [zi, zrow]; done)) (by first | rfl | (simp [zi, zrow]; done) | (funext j; simp [zi, zrow]; done))), Or.inr ⟨W, H, (RGr.cg g1 (by first | rfl | (simp [zi, zrow]; done) | (funext j; simp [zi, zrow]; done)) (by first | rfl | (simp [zi, zrow]; done) | (funext j; simp [zi, zrow]; done)) (by first | rfl | (simp [zi, zrow]; done) | (funext j; simp [zi, zrow]; done)) (by first | rfl | (simp [zi, zrow]; done) | (funext j; simp [zi, zrow]; done)) (by first | rfl | (simp [zi, zrow]; done) | (funext j; simp [zi, zrow]; done)) (by first | rfl | (simp [zi, zrow]; done) | (funext j; simp [zi, zrow]; done)) (by first | rfl | (simp [zi, zrow]; done) | (funext j; simp [zi, zrow]; done)) (by first | rfl | (simp [zi, zrow]; done) | (funext j; simp [zi, zrow]; done)) (by first | rfl | (simp [zi, zrow]; done) | (funext j; simp [zi, zrow]; done)) (by first | rfl | (simp [zi, zrow]; done) | (funext j; simp [zi, zrow]; done))), (RHd.cg g2 (by first | rfl | (simp [zi, zrow]; done) | (funext j; simp [zi, zrow]; done)) (by first | rfl | (simp [zi, zrow]; done) | (funext j; simp [zi, zrow]; done)) (by first | rfl | (simp [zi, zrow]; done) | (funext j; simp [zi, zrow]; done)) (by first | rfl | (simp [zi, zrow]; done) | (funext j; simp [zi, zrow]; done)) (by first | rfl | (simp [zi, zrow]; done) | (funext j; simp [zi, zrow]; done)) (by first | rfl | (simp [zi, zrow]; done) | (funext j; simp [zi, zrow]; done)) (by first | rfl | (simp [zi, zrow]; done) | (funext j; simp [zi, zrow]; done)) (by first | rfl | (simp [zi, zrow]; done) | (funext j; simp [zi, zrow]; done))), (RSn.cg g3 (by first | rfl | (simp [zi, zrow]; done) | (funext j; simp [zi, zrow]; done)) (by first | rfl | (simp [zi, zrow]; done) | (funext j; simp [zi, zrow]; done)) (by first | rfl | (simp [zi, zrow]; done) | (funext j; simp [zi, zrow]; done)) (by first | rfl | (simp [zi, zrow]; done) | (funext j; simp [zi, zrow]; done)) (by first | rfl | (simp [zi, zrow]; done) | (funext j; simp [zi, zrow]; done))), ?_, (RSt.cg g5 (by first | rfl | (simp [zi, zrow]; done) | (funext j; simp [zi, zrow]; done)) (by first | rfl | (simp [zi, zrow]; done) | (funext j; simp [zi, zrow]; done))), (RDr.cg g6 (by first | rfl | (simp [zi, zrow]; done) | (funext j; simp [zi, zrow]; done)) (by first | rfl | (simp [zi, zrow]; done) | (funext j; simp [zi, zrow]; done)) (by first | rfl | (simp [zi, zrow]; done) | (funext j; simp [zi, zrow]; done)) (by first | rfl | (simp [zi, zrow]; done) | (funext j; simp [zi, zrow]; done)) (by first | rfl | (simp [zi, zrow]; done) | (funext j; simp [zi, zrow]; done)) (by first | rfl | (simp [zi, zrow]; done) | (funext j; simp [zi, zrow]; done))), (RFr.cg g7 (by first | rfl | (simp [zi, zrow]; done) | (funext j; simp [zi, zrow]; done)) (by first | rfl | (simp [zi, zrow]; done) | (funext j; simp [zi, zrow]; done)) (by first | rfl | (simp [zi, zrow]; done) | (funext j; simp [zi, zrow]; done)) (by first | rfl | (simp [zi, zrow]; done) | (funext j; simp [zi, zrow]; done)) (by first | rfl | (simp [zi, zrow]; done) | (funext j; simp [zi, zrow]; done)) (by first | rfl | (simp [zi, zrow]; done) | (funext j; simp [zi, zrow]; done))), (RSp.cg g8 (by first | rfl | (simp [zi, zrow]; done) | (funext j; simp [zi, zrow]; done)) (by first | rfl | (simp [zi, zrow]; done) | (funext j; simp [zi, zrow]; done)) (by first | rfl | (simp [zi, zrow]; done) | (funext j; simp [zi, zrow]; done)) (by first | rfl | (simp [zi, zrow]; done) | (funext j; simp [zi, zrow]; done)) (by first | rfl | (simp [zi, zrow]; done) | (funext j; simp [zi, zrow]; done)) (by first | rfl | (simp [zi, zrow]; done) | (funext j; simp [zi, zrow]; done)) (by first | rfl | (simp [zi, zrow]; done) | (funext j; simp [zi, zrow]; done)) (by first | rfl | (simp [zi, zrow]; done) | (funext j; simp [zi, zrow]; done)) (by first | rfl | (simp [zi, zrow]; done) | (funext j; simp [zi, zrow]; done)) (by first | rfl | (simp [zi, zrow]; done) | (funext j; simp [zi, zrow]; done)) (by first | rfl | (simp [zi, zrow]; done) | (funext j; simp [zi, zrow]; done)) (by first | rfl | (simp [zi, zrow]; done) | (funext j; simp [zi, zrow]; done)) (by first | rfl | (simp [zi, zrow]; done) | (funext j; simp [zi, zrow]; done)) (by first | rfl | (simp [zi, zrow]; done) | (funext j; simp [zi, zrow]; done))), (RTk.cg g9 hR (by first | rfl | (simp [zi, zrow]; done) | (funext j; simp [zi, zrow]; done)) (by first | rfl | (simp [zi, zrow]; done) | (funext j; simp [zi, zrow]; done)) (by first | rfl | (simp [zi, zrow]; done) | (funext j; simp [zi, zrow]; done)) (by first | rfl | (simp [zi, zrow]; done) | (funext j; simp [zi, zrow]; done)) (by first | rfl | (simp [zi, zrow]; done) | (funext j; simp [zi, zrow]; done)) (by first | rfl | (simp [zi, zrow]; done) | (funext j; simp [zi, zrow]; done)) (by first | rfl | (simp [zi, zrow]; done) | (funext j; simp [zi, zrow]; done)) (by first | rfl | (simp [zi, zrow]; done) | (funext j; simp [zi, zrow]; done)) (by first | rfl | (simp [zi, zrow]; done) | (funext j; simp [zi, zrow]; done)) (by first | rfl | (simp [zi, zrow]; done) | (funext j; simp [zi, zrow]; done)) (by first | rfl | (simp [zi, zrow]; done) | (funext j; simp [zi, zrow]; done)) (by first | rfl | (simp [zi, zrow]; done) | (funext j; simp [zi, zrow]; done)) (by first | rfl | (simp [zi, zrow]; done) | (funext j; simp [zi, zrow]; done)) (by first | rfl | (simp [zi, zrow]; done) | (funext j; simp [zi, zrow]; done)) (by first | rfl | (simp [zi, zrow]; done) | (funext j; simp [zi, zrow]; done)) (by first | rfl | (simp [zi, zrow]; done) | (funext j; simp [zi, zrow]; done)) (by first | rfl | (simp [zi, zrow]; done) | (funext j; simp [zi, zrow]; done)) (by first | rfl | (simp [zi, zrow]; done) | (funext j; simp [zi, zrow]; done)))⟩⟩
      refine ⟨fun j hj => ?_, fun j hj => ?_⟩
      · have a := g4.1 j hj
        simpa [zrow, zup_lt hj, a.1] using a.2.2
      · have a := g4.2 j hj
        have b1 : (-3000 : Int32) ≤ m.1 70 j := Int32.le_trans (by decide) a.1
        have b2 : m.1 70 j ≤ 3000 := Int32.le_trans a.2.1 (by decide)
        simpa [zrow, zup_lt hj] using ⟨a.1, a.2.1, b1, b2⟩
