/-! ===== a frame: pairs of tracks and spots, in the model ===== -/
/-- where tracks and spots lie, in the model -/
def PosM (R S T : Nat) (tx ty sx sy : Nat → Nat) (m : zM) : Prop := m.1 80 4 = nI R ∧ R < 1000 ∧ S ≤ 6 ∧ T ≤ 6 ∧ m.1 68 20 = nI S ∧ m.1 68 27 = nI T ∧ (∀ t, t < T → m.1 88 t = nI (tx t) ∧ m.1 89 t = nI (ty t) ∧ tx t ≤ 112 ∧ ty t ≤ 112) ∧ ∀ q, q < S → m.1 84 q = nI (sx q) ∧ m.1 85 q = nI (sy q) ∧ sx q ≤ 112 ∧ sy q ≤ 112
theorem PosM.fr {R S T : Nat} {tx ty sx sy : Nat → Nat} {L : List Nat} {m m' : zM} (h : PosM R S T tx ty sx sy m) (f : Fr L m m') (h1 : 80 ∉ L) (h2 : 68 ∉ L) (h3 : 88 ∉ L) (h4 : 89 ∉ L) (h5 : 84 ∉ L) (h6 : 85 ∉ L) : PosM R S T tx ty sx sy m' := by
  unfold PosM at h ⊢
  rw [f.2 80 h1, f.2 68 h2, f.2 88 h3, f.2 89 h4, f.2 84 h5, f.2 85 h6]
  exact h
section PRM
variable {R S T : Nat} {tx ty sx sy : Nat → Nat} {nr : Nat → Nat → Bool} {co : Nat → Nat → Nat}
theorem isNear_m {m : zM} (h : PosM R S T tx ty sx sy m) {t q : Nat} (ht : t < T) (hq : q < S) : f_X12_isNear (nI t) (nI q) m = some (nrF R tx ty sx sy t q) := by
  obtain ⟨hR, hR2, hS, hT, _, _, pt, ps⟩ := h
  obtain ⟨t1, t2, t3, t4⟩ := pt t ht
  obtain ⟨s1, s2, s3, s4⟩ := ps q hq
  have a1 := adN_le t3 s3
  have a2 := adN_le t4 s4
  unfold f_X12_isNear f_X12_abs nrF
  simp only [zin_nI (show t < 6 by omega) (show 6 < 2 ^ 31 by decide), zin_nI (show q < 6 by omega) (show 6 < 2 ^ 31 by decide), zg_t, nI_clamp (show t < 2 ^ 31 by omega), nI_clamp (show q < 2 ^ 31 by omega), t1, t2, s1, s2, ad_abs t3 s3, ad_abs t4 s4, Option.bind_some, hR]
  have c1 : nI R < nI (adN (tx t) (sx q)) ↔ R < adN (tx t) (sx q) := nI_ltI (by omega) (by omega)
  have c2 : nI R < nI (adN (ty t) (sy q)) ↔ R < adN (ty t) (sy q) := nI_ltI (by omega) (by omega)
  by_cases q1 : R < adN (tx t) (sx q)
  · rw [if_pos (c1.mpr q1)]
    simp [Nat.not_le.mpr q1]
  · rw [if_neg (fun z => q1 (c1.mp z))]
    by_cases q2 : R < adN (ty t) (sy q)
    · rw [if_pos (c2.mpr q2)]
      simp [Nat.not_le.mpr q2]
    · rw [if_neg (fun z => q2 (c2.mp z))]
      simp [Nat.not_lt.mp q1, Nat.not_lt.mp q2]
theorem pairCost_m {m : zM} (h : PosM R S T tx ty sx sy m) {t q : Nat} (ht : t < T) (hq : q < S) : f_X12_pairCost (nI t) (nI q) m = some (nI (coF tx ty sx sy t q)) := by
  obtain ⟨hR, hR2, hS, hT, _, _, pt, ps⟩ := h
  obtain ⟨t1, t2, t3, t4⟩ := pt t ht
  obtain ⟨s1, s2, s3, s4⟩ := ps q hq
  unfold f_X12_pairCost coF
  simp only [zin_nI (show t < 6 by omega) (show 6 < 2 ^ 31 by decide), zin_nI (show q < 6 by omega) (show 6 < 2 ^ 31 by decide), zg_t, nI_clamp (show t < 2 ^ 31 by omega), nI_clamp (show q < 2 ^ 31 by omega), t1, t2, s1, s2, ad_sq, nI_add]
theorem isBetter_m {m : zM} {a b a' b' k : Nat} (hk : k < 448) (h1 : m.1 101 k = nI a') (h2 : m.1 102 k = nI b') (ha : a < 2 ^ 31) (hb : b < 2 ^ 31) (ha' : a' < 2 ^ 31) (hb' : b' < 2 ^ 31) : f_X12_isBetter (nI a) (nI b) (nI k) m = some (btr (a, b) (a', b')) := by
  unfold f_X12_isBetter j_X12_isBetter_30 btr
  simp only [zin_nI hk (show 448 < 2 ^ 31 by decide), zg_t, nI_clamp (show k < 2 ^ 31 by omega), h1, h2]
  have c1 : nI a' < nI a ↔ a' < a := nI_ltI ha' ha
  have c2 : nI a = nI a' ↔ a = a' := nI_eq ha ha'
  have c3 : nI b' ≤ nI b ↔ b' ≤ b := nI_leI hb' hb
  by_cases q1 : a' < a
  · rw [if_pos (c1.mpr q1)]
    simp [q1]
  · rw [if_neg (fun z => q1 (c1.mp z))]
    by_cases q2 : a = a'
    · rw [if_pos (c2.mpr q2)]
      by_cases q3 : b' ≤ b
      · rw [if_pos (c3.mpr q3)]
        simp [q1, q2, Nat.not_lt.mpr q3]
      · rw [if_neg (fun z => q3 (c3.mp z))]
        simp [q1, q2, Nat.not_le.mp q3]
    · rw [if_neg (fun z => q2 (c2.mp z))]
      simp [q1, q2]
/-- row t of the tables holds the best of d tracks -/
def TbM (nr : Nat → Nat → Bool) (co : Nat → Nat → Nat) (S T t : Nat) (m : zM) : Prop := ∀ set, set < 64 → m.1 101 (64 * t + set) = nI (PV nr co S T (T - t) set).1 ∧ m.1 102 (64 * t + set) = nI (PV nr co S T (T - t) set).2
theorem i64 {t set : Nat} : 64 * nI t + nI set = nI (64 * t + set) := by
  rw [show (64 : Int32) = nI 64 from rfl, pk_mul, nI_add]
theorem pairsOf_m {m : zM} (h : PosM R S T tx ty sx sy m) (hnr : nr = nrF R tx ty sx sy) (hco : co = coF tx ty sx sy) (hcb : ∀ t q, co t q ≤ 25088) {t set : Nat} (ht : t < T) (hset : set < 64) (tb : TbM nr co S T (t + 1) m) :
    ∃ m', f_X12_layPairsOf (nI t) (nI set) m = some m' ∧ Fr [101, 102] m m' ∧ (∀ j, m'.1 101 j = if j = 64 * t + set then nI (PV nr co S T (T - t) set).1 else m.1 101 j) ∧ ∀ j, m'.1 102 j = if j = 64 * t + set then nI (PV nr co S T (T - t) set).2 else m.1 102 j := by
  obtain ⟨hR, hR2, hS, hT, h20, h27, pt, ps⟩ := id h
  have hk : 64 * t + set < 448 := by omega
  have hk2 : 64 * t + set + 64 < 448 := by omega
  have e64 : 64 * t + set + 64 = 64 * (t + 1) + set := by omega
  have hbd : ∀ q, Bd (tP nr co S T t set q) := fun q => tP_Bd hT hcb ht
  have hz : Bd (PV nr co S T (T - (t + 1)) set) := PV_Bd hT hcb (by omega)
  unfold f_X12_layPairsOf
  rw [i64, show nI (64 * t + set) + 64 = nI (64 * t + set + 64) from nI_add _ _, zin_nI hk (by decide), zin_nI hk2 (by decide), zg_t, zg_t, zg_t, zg_t, nI_clamp (by omega), nI_clamp (by omega), e64, (tb set hset).1, (tb set hset).2]
  have key : ∃ m', zloop (b_X12_layPairsOf_40 (nI t) (nI set) (nI (64 * t + set))) zFU (0, zi (zi m 101 (64 * t + set) (nI (PV nr co S T (T - (t + 1)) set).1)) 102 (64 * t + set) (nI (PV nr co S T (T - (t + 1)) set).2)) = some m' ∧ Fr [101, 102] m m' ∧ (∀ j, m'.1 101 j = if j = 64 * t + set then nI (PV nr co S T (T - t) set).1 else m.1 101 j) ∧ ∀ j, m'.1 102 j = if j = 64 * t + set then nI (PV nr co S T (T - t) set).2 else m.1 102 j := by
    rw [PV_t ht]
    refine zforQ (fun q st => st.1 = nI q ∧ Fr [101, 102] m st.2 ∧ (∀ j, st.2.1 101 j = if j = 64 * t + set then nI (PVs (okP nr set t) (tP nr co S T t set) (PV nr co S T (T - (t + 1)) set) q).1 else m.1 101 j) ∧ ∀ j, st.2.1 102 j = if j = 64 * t + set then nI (PVs (okP nr set t) (tP nr co S T t set) (PV nr co S T (T - (t + 1)) set) q).2 else m.1 102 j) S _ ⟨rfl, (Fr.refl.st (by decide)).st (by decide), fun j => ?_, fun j => ?_⟩ ?_ ?_ (by omega)
    · rw [ziO (by decide), ziA]
      rfl
    · rw [ziA, ziO (by decide)]
      rfl
    · rintro q ⟨y, w⟩ hq ⟨rfl, f1, f2, f3⟩
      simp only at f1 f2 f3
      have hw : PosM R S T tx ty sx sy w := h.fr f1 (by decide) (by decide) (by decide) (by decide) (by decide) (by decide)
      have e68 := f1.2 68 (by decide)
      obtain ⟨bt1, bt2, bt3⟩ := bt_ok hset (show q < 6 by omega)
      have hi : 64 * (t + 1) + sb set q < 448 := by omega
      have hne : 64 * (t + 1) + sb set q ≠ 64 * t + set := by omega
      have hB := PVs_bd (ok := okP nr set t) (tot := tP nr co S T t set) hz (fun q _ => hbd q) q
      have step : PVs (okP nr set t) (tP nr co S T t set) (PV nr co S T (T - (t + 1)) set) (q + 1) = if okP nr set t q && btr (tP nr co S T t set q) (PVs (okP nr set t) (tP nr co S T t set) (PV nr co S T (T - (t + 1)) set) q) then tP nr co S T t set q else PVs (okP nr set t) (tP nr co S T t set) (PV nr co S T (T - (t + 1)) set) q := rfl
      generalize hA : PVs (okP nr set t) (tP nr co S T t set) (PV nr co S T (T - (t + 1)) set) q = A at f2 f3 hB step
      have stay : (okP nr set t q && btr (tP nr co S T t set q) A) = false → ∃ s1 : Int32 × zM, j_X12_layPairsOf_142 (nI t) (nI set) (nI (64 * t + set)) (nI q) w = some (.inl s1) ∧ s1.1 = nI (q + 1) ∧ Fr [101, 102] m s1.2 ∧ (∀ j, s1.2.1 101 j = if j = 64 * t + set then nI (PVs (okP nr set t) (tP nr co S T t set) (PV nr co S T (T - (t + 1)) set) (q + 1)).1 else m.1 101 j) ∧ ∀ j, s1.2.1 102 j = if j = 64 * t + set then nI (PVs (okP nr set t) (tP nr co S T t set) (PV nr co S T (T - (t + 1)) set) (q + 1)).2 else m.1 102 j := by
        intro hf
        unfold j_X12_layPairsOf_142
        rw [nI_1, step, hf]
        exact ⟨_, rfl, rfl, f1, f2, f3⟩
      unfold b_X12_layPairsOf_40
      simp only [e68, h20, nI_ge hq (show S < 2 ^ 31 by omega), if_false, bt1]
      cases hb : Nat.testBit set q with
      | true =>
        simp only [if_true, show ¬ (1 : Int32) = 0 by decide, if_false]
        exact stay (by unfold okP; rw [hb]; rfl)
      | false =>
        simp only [Bool.false_eq_true, if_false, if_true]
        rw [isNear_m hw ht hq, ← hnr]
        simp only [Option.bind_some]
        cases hn : nr t q with
        | false =>
          rw [if_pos bi_f]
          exact stay (by unfold okP; rw [hn, Bool.and_false]; rfl)
        | true =>
          have hok : okP nr set t q = true := by unfold okP; rw [hn, hb]; rfl
          have t1 : w.1 101 (64 * (t + 1) + sb set q) = nI (PV nr co S T (T - (t + 1)) (sb set q)).1 := by rw [f2, if_neg hne]; exact (tb _ bt3).1
          have t2 : w.1 102 (64 * (t + 1) + sb set q) = nI (PV nr co S T (T - (t + 1)) (sb set q)).2 := by rw [f3, if_neg hne]; exact (tb _ bt3).2
          have hx := hbd q
          have hB2 := id hB
          unfold Bd at hx hB2
          rw [if_neg bi_nt, nI_1, bt2, i64, zin_nI hi (by decide), zg_t, pairCost_m hw ht hq, ← hco]
          simp only [Option.bind_some, zg_t, nI_clamp (show 64 * (t + 1) + sb set q < 2 ^ 31 by omega), t1, t2, nI_1, nI_add]
          have eb := isBetter_m (m := w) (a := (tP nr co S T t set q).1) (b := (tP nr co S T t set q).2) (a' := A.1) (b' := A.2) hk (by rw [f2, if_pos rfl]) (by rw [f3, if_pos rfl]) (by omega) (by omega) (by omega) (by omega)
          have eb' : f_X12_isBetter (nI ((PV nr co S T (T - (t + 1)) (sb set q)).1 + 1)) (nI ((PV nr co S T (T - (t + 1)) (sb set q)).2 + co t q)) (nI (64 * t + set)) w = some (btr (tP nr co S T t set q) A) := eb
          rw [eb']
          simp only [Option.bind_some]
          cases hbt : btr (tP nr co S T t set q) A with
          | false =>
            rw [if_pos bi_f]
            exact stay (by rw [hbt, Bool.and_false])
          | true =>
            rw [if_neg bi_nt, zin_nI hk (by decide), zg_t, zg_t, nI_clamp (by omega)]
            unfold j_X12_layPairsOf_142
            rw [nI_1, step, hok, hbt]
            refine ⟨_, rfl, rfl, (f1.st (by decide)).st (by decide), fun j => ?_, fun j => ?_⟩
            · show (zi (zi w 101 (64 * t + set) _) 102 (64 * t + set) _).1 101 j = _
              rw [ziO (by decide), ziA]
              by_cases e : j = 64 * t + set
              · rw [if_pos e, if_pos e]
                rfl
              · rw [if_neg e, if_neg e, f2, if_neg e]
            · show (zi (zi w 101 (64 * t + set) _) 102 (64 * t + set) _).1 102 j = _
              rw [ziA, ziO (by decide)]
              by_cases e : j = 64 * t + set
              · rw [if_pos e, if_pos e]
                rfl
              · rw [if_neg e, if_neg e, f3, if_neg e]
    · rintro ⟨y, w⟩ ⟨rfl, f1, f2, f3⟩
      simp only at f1 f2 f3
      have e68 := f1.2 68 (by decide)
      refine ⟨w, ?_, f1, f2, f3⟩
      unfold b_X12_layPairsOf_40
      simp only [e68, h20, nI_le (Nat.le_refl S) (show S < 2 ^ 31 by omega), if_true]
  obtain ⟨m', e, q⟩ := key
  exact ⟨m', by rw [e]; rfl, q⟩
theorem isBest_m {m : zM} (h : PosM R S T tx ty sx sy m) (hnr : nr = nrF R tx ty sx sy) (hco : co = coF tx ty sx sy) (hcb : ∀ t q, co t q ≤ 25088) {t set q : Nat} (ht : t < T) (hset : set < 64) (hq : q < S) (tb0 : TbM nr co S T t m) (tb : TbM nr co S T (t + 1) m) : f_X12_isBestPair (nI t) (nI q) (nI set) m = some (okP nr set t q && decide (tP nr co S T t set q = PV nr co S T (T - t) set)) := by
  obtain ⟨hR, hR2, hS, hT, h20, h27, pt, ps⟩ := id h
  obtain ⟨bt1, bt2, bt3⟩ := bt_ok hset (show q < 6 by omega)
  have hbd : Bd (tP nr co S T t set q) := tP_Bd hT hcb ht
  have hz : Bd (PV nr co S T (T - t) set) := PV_Bd hT hcb (by omega)
  unfold Bd at hbd hz
  unfold f_X12_isBestPair
  rw [bt1]
  cases hb : Nat.testBit set q with
  | true =>
    simp only [if_true]
    unfold okP
    rw [hb]
    rfl
  | false =>
    simp only [Bool.false_eq_true, if_false, show ¬ (0 : Int32) = 1 by decide]
    rw [isNear_m h ht hq, ← hnr]
    simp only [Option.bind_some]
    cases hn : nr t q with
    | false =>
      rw [if_pos bi_f]
      unfold okP
      rw [hn, Bool.and_false]
      rfl
    | true =>
      have hok : okP nr set t q = true := by unfold okP; rw [hn, hb]; rfl
      have hi : 64 * (t + 1) + sb set q < 448 := by omega
      have hk : 64 * t + set < 448 := by omega
      rw [if_neg bi_nt, nI_1, bt2, i64, i64, zin_nI hi (by decide), zin_nI hk (by decide), pairCost_m h ht hq, ← hco]
      simp only [Option.bind_some, zg_t, nI_clamp (show 64 * (t + 1) + sb set q < 2 ^ 31 by omega), nI_clamp (show 64 * t + set < 2 ^ 31 by omega), (tb _ bt3).1, (tb _ bt3).2, (tb0 _ hset).1, (tb0 _ hset).2, nI_1, nI_add]
      have e1 : (PV nr co S T (T - (t + 1)) (sb set q)).1 + 1 = (tP nr co S T t set q).1 := rfl
      have e2 : (PV nr co S T (T - (t + 1)) (sb set q)).2 + co t q = (tP nr co S T t set q).2 := rfl
      rw [e1, e2, hok, Bool.true_and]
      generalize tP nr co S T t set q = A at hbd
      generalize PV nr co S T (T - t) set = B at hz
      have c1 : nI A.1 = nI B.1 ↔ A.1 = B.1 := nI_eq (by omega) (by omega)
      have c2 : nI A.2 = nI B.2 ↔ A.2 = B.2 := nI_eq (by omega) (by omega)
      by_cases q1 : A.1 = B.1
      · rw [if_pos (c1.mpr q1)]
        by_cases q2 : A.2 = B.2
        · rw [if_pos (c2.mpr q2)]
          exact (congrArg some (decide_eq_true (Prod.ext q1 q2))).symm
        · rw [if_neg (fun z => q2 (c2.mp z))]
          exact (congrArg some (decide_eq_false (fun z => q2 (congrArg Prod.snd z)))).symm
      · rw [if_neg (fun z => q1 (c1.mp z))]
        exact (congrArg some (decide_eq_false (fun z => q1 (congrArg Prod.fst z)))).symm
theorem sub1 (x : Int32) : x + (-1) = x - 1 := (Int32.sub_eq_add_neg x 1).symm
theorem pairs_m {m : zM} (h : PosM R S T tx ty sx sy m) (hnr : nr = nrF R tx ty sx sy) (hco : co = coF tx ty sx sy) (hcb : ∀ t q, co t q ≤ 25088) : ∃ m', f_X12_layPairs m = some m' ∧ Fr [101, 102, 103] m m' ∧ ∀ t, t < T → m'.1 103 t = enP (chP nr co S T t (stP nr co S T t)) := by
  obtain ⟨hR, hR2, hS, hT, h20, h27, pt, ps⟩ := id h
  unfold f_X12_layPairs
  -- the last row
  have one : ∃ m1, zloop b_X12_layPairs_2 zFU (0, m) = some m1 ∧ Fr [101, 102] m m1 ∧ TbM nr co S T T m1 := by
    refine zforQ (fun k st => st.1 = nI k ∧ Fr [101, 102] m st.2 ∧ ∀ set, set < k → st.2.1 101 (64 * T + set) = 0 ∧ st.2.1 102 (64 * T + set) = 0) 64 _ ⟨rfl, Fr.refl, fun k hk => by omega⟩ ?_ ?_ (by omega)
    · rintro k ⟨y, w⟩ hk ⟨rfl, f1, f2⟩
      simp only at f1 f2
      have e68 := f1.2 68 (by decide)
      unfold b_X12_layPairs_2
      simp only [e68, h27, show ¬ (64 : Int32) ≤ nI k from nI_ge (b := 64) hk (by decide), if_false, i64, zin_nI (show 64 * T + k < 448 by omega) (show 448 < 2 ^ 31 by decide), zg_t, nI_clamp (show 64 * T + k < 2 ^ 31 by omega), nI_1]
      refine ⟨_, rfl, rfl, (f1.st (by decide)).st (by decide), fun set hs => ?_⟩
      rw [ziO (show 101 ≠ 102 by decide), ziA, ziA, ziO (show 102 ≠ 101 by decide)]
      by_cases e : set = k
      · rw [if_pos (by omega), if_pos (by omega)]
        exact ⟨rfl, rfl⟩
      · rw [if_neg (by omega), if_neg (by omega)]
        exact f2 set (by omega)
    · rintro ⟨y, w⟩ ⟨rfl, f1, f2⟩
      simp only at f1 f2
      refine ⟨w, ?_, f1, fun set hs => ?_⟩
      · unfold b_X12_layPairs_2
        simp only [show (64 : Int32) ≤ nI 64 from nI_le (a := 64) (Nat.le_refl 64) (by decide), if_true]
      · rw [Nat.sub_self]
        exact f2 set hs
  obtain ⟨m1, a1, a2, a3⟩ := one
  rw [a1]
  simp only [Option.bind_some]
  have h1 : PosM R S T tx ty sx sy m1 := h.fr a2 (by decide) (by decide) (by decide) (by decide) (by decide) (by decide)
  have e27 : m1.1 68 27 = nI T := h1.2.2.2.2.2.1
  rw [e27]
  -- the rows, the last track first
  have two : ∃ m2, zloop b_X12_layPairs_51 zFU (nI T - 1, m1) = some m2 ∧ Fr [101, 102] m m2 ∧ ∀ t, t ≤ T → TbM nr co S T t m2 := by
    refine zforQ (fun k st => st.1 = nI (T - k) - 1 ∧ Fr [101, 102] m st.2 ∧ ∀ t, T - k ≤ t → t ≤ T → TbM nr co S T t st.2) T _ ⟨rfl, a2, fun t h1 h2 => by rw [show t = T by omega]; exact a3⟩ ?_ ?_ (by omega)
    · rintro k ⟨y, w⟩ hk ⟨rfl, f1, f2⟩
      simp only at f1 f2
      obtain ⟨t, et⟩ : ∃ t, T - k = t + 1 := ⟨T - k - 1, by omega⟩
      have ek : T - (k + 1) = t := by omega
      rw [et, ek]
      rw [et] at f2
      rw [nI_pred]
      unfold b_X12_layPairs_51
      simp only [nI_pos (show t < 2 ^ 31 by omega), if_false]
      have inner : ∃ m2, zloop (b_X12_layPairs_57 (nI t)) zFU (0, w) = some m2 ∧ Fr [101, 102] w m2 ∧ (∀ set, set < 64 → m2.1 101 (64 * t + set) = nI (PV nr co S T (T - t) set).1 ∧ m2.1 102 (64 * t + set) = nI (PV nr co S T (T - t) set).2) ∧ ∀ j, 64 * (t + 1) ≤ j → m2.1 101 j = w.1 101 j ∧ m2.1 102 j = w.1 102 j := by
        refine zforQ (fun k st => st.1 = nI k ∧ Fr [101, 102] w st.2 ∧ (∀ set, set < k → st.2.1 101 (64 * t + set) = nI (PV nr co S T (T - t) set).1 ∧ st.2.1 102 (64 * t + set) = nI (PV nr co S T (T - t) set).2) ∧ ∀ j, 64 * (t + 1) ≤ j → st.2.1 101 j = w.1 101 j ∧ st.2.1 102 j = w.1 102 j) 64 _ ⟨rfl, Fr.refl, fun k hk => by omega, fun _ _ => ⟨rfl, rfl⟩⟩ ?_ ?_ (by omega)
        · rintro set ⟨y, v⟩ hs ⟨rfl, g1, g2, g3⟩
          simp only at g1 g2 g3
          have hv : PosM R S T tx ty sx sy v := h.fr (f1.trans g1) (by decide) (by decide) (by decide) (by decide) (by decide) (by decide)
          have tb : TbM nr co S T (t + 1) v := fun s hs2 => by
            rw [(g3 (64 * (t + 1) + s) (by omega)).1, (g3 (64 * (t + 1) + s) (by omega)).2]
            exact f2 (t + 1) (by omega) (by omega) s hs2
          obtain ⟨m', p1, p2, p3, p4⟩ := pairsOf_m hv hnr hco hcb (show t < T by omega) hs tb
          unfold b_X12_layPairs_57
          simp only [show ¬ (64 : Int32) ≤ nI set from nI_ge (b := 64) hs (by decide), if_false, p1, Option.bind_some, nI_1]
          refine ⟨_, rfl, rfl, g1.trans p2, fun s hs2 => ?_, fun j hj => ?_⟩
          · rw [p3, p4]
            by_cases e : s = set
            · subst e
              rw [if_pos rfl, if_pos rfl]
              exact ⟨rfl, rfl⟩
            · rw [if_neg (by omega), if_neg (by omega)]
              exact g2 s (by omega)
          · rw [p3, p4, if_neg (by omega), if_neg (by omega)]
            exact g3 j hj
        · rintro ⟨y, v⟩ ⟨rfl, g1, g2, g3⟩
          simp only at g1 g2 g3
          refine ⟨v, ?_, g1, g2, g3⟩
          unfold b_X12_layPairs_57
          simp only [show (64 : Int32) ≤ nI 64 from nI_le (a := 64) (Nat.le_refl 64) (by decide), if_true]
      obtain ⟨m2, i1, i2, i3, i4⟩ := inner
      rw [i1]
      simp only [Option.bind_some, sub1]
      refine ⟨_, rfl, rfl, f1.trans i2, fun u hu hu2 => ?_⟩
      by_cases e : u = t
      · subst e
        exact i3
      · intro s hs
        rw [(i4 (64 * u + s) (by omega)).1, (i4 (64 * u + s) (by omega)).2]
        exact f2 u (by omega) hu2 s hs
    · rintro ⟨y, w⟩ ⟨rfl, f1, f2⟩
      simp only at f1 f2
      refine ⟨w, ?_, f1, fun t ht => f2 t (by omega) ht⟩
      unfold b_X12_layPairs_51
      simp only [Nat.sub_self, show nI 0 - 1 < 0 by decide, if_true]
  obtain ⟨m2, b1, b2, b3⟩ := two
  rw [b1]
  simp only [Option.bind_some]
  have stl : ∀ t, stP nr co S T t < 64 := by
    intro t
    induction t with
    | zero => exact (by decide : (0 : Nat) < 64)
    | succ t ih =>
      show nxP nr co S T t (stP nr co S T t) < 64
      unfold nxP
      cases hc : chP nr co S T t (stP nr co S T t) with
      | none => exact ih
      | some x =>
        have := chP_lt hc
        exact (bt_ok ih (show x < 6 by omega)).2.2
  have three : ∃ m3, zloop b_X12_layPairs_85 zFU (0, 0, m2) = some m3 ∧ Fr [101, 102, 103] m m3 ∧ ∀ t, t < T → m3.1 103 t = enP (chP nr co S T t (stP nr co S T t)) := by
    refine zforQ (fun t st => st.1 = nI (stP nr co S T t) ∧ st.2.1 = nI t ∧ Fr [103] m2 st.2.2 ∧ ∀ u, u < t → st.2.2.1 103 u = enP (chP nr co S T u (stP nr co S T u))) T _ ⟨rfl, rfl, Fr.refl, fun k hk => by omega⟩ ?_ ?_ (by omega)
    · rintro t ⟨u, y, w⟩ ht ⟨rfl, rfl, f1, f2⟩
      simp only at f1 f2
      have hw : PosM R S T tx ty sx sy w := (h.fr b2 (by decide) (by decide) (by decide) (by decide) (by decide) (by decide)).fr f1 (by decide) (by decide) (by decide) (by decide) (by decide) (by decide)
      have e27 : w.1 68 27 = nI T := hw.2.2.2.2.2.1
      have e20 : w.1 68 20 = nI S := hw.2.2.2.2.1
      have e101 := f1.2 101 (by decide)
      have e102 := f1.2 102 (by decide)
      have tb : ∀ t, t ≤ T → TbM nr co S T t w := fun t ht s hs => by
        rw [e101, e102]
        exact b3 t ht s hs
      have good : ∀ q, q < S → f_X12_isBestPair (nI t) (nI q) (nI (stP nr co S T t)) w = some (okP nr (stP nr co S T t) t q && decide (tP nr co S T t (stP nr co S T t) q = PV nr co S T (T - t) (stP nr co S T t))) := fun q hq => isBest_m hw hnr hco hcb ht (stl t) hq (tb t (by omega)) (tb (t + 1) (by omega))
      have hstp : stP nr co S T (t + 1) = nxP nr co S T t (stP nr co S T t) := rfl
      unfold b_X12_layPairs_85
      simp only [e27, nI_ge ht (show T < 2 ^ 31 by omega), if_false]
      have cs := fstP_cases (fun q => okP nr (stP nr co S T t) t q && decide (tP nr co S T t (stP nr co S T t) q = PV nr co S T (T - t) (stP nr co S T t))) S
      have hch : chP nr co S T t (stP nr co S T t) = fstP (fun q => okP nr (stP nr co S T t) t q && decide (tP nr co S T t (stP nr co S T t) q = PV nr co S T (T - t) (stP nr co S T t))) S := rfl
      rw [← hch] at cs
      have go : ∀ K r, K ≤ S → (∀ j, j < K → (okP nr (stP nr co S T t) t j && decide (tP nr co S T t (stP nr co S T t) j = PV nr co S T (T - t) (stP nr co S T t))) = false) → b_X12_layPairs_95 (nI (stP nr co S T t)) (nI t) w (nI K) = some (.inr r) → zloop (b_X12_layPairs_95 (nI (stP nr co S T t)) (nI t) w) zFU 0 = some r := by
        intro K r hK hj he
        refine zfor (fun j => nI j) K rfl (fun j hjK => ?_) he (by omega)
        unfold b_X12_layPairs_95
        rw [e20, if_neg (nI_ge (by omega) (by omega)), good j (by omega), hj j hjK]
        simp only [Option.bind_some]
        rw [if_pos bi_f, nI_1]
      rcases cs with ⟨c1, c2⟩ | ⟨x, c1, c2, c3, c4⟩
      · rw [go S (nI S) (Nat.le_refl _) c2 (by
          unfold b_X12_layPairs_95
          rw [e20, if_pos (nI_le (Nat.le_refl _) (by omega))])]
        simp only [Option.bind_some]
        unfold j_X12_layPairs_119 j_X12_layPairs_137 j_X12_layPairs_154
        rw [e20, if_pos (nI_le (Nat.le_refl _) (by omega)), zin_nI (show t < 6 by omega) (by decide), zg_t, if_pos (nI_le (Nat.le_refl _) (by omega)), nI_clamp (by omega), nI_1]
        refine ⟨_, rfl, ?_, rfl, f1.st (by decide), fun u hu => ?_⟩
        · rw [hstp]
          unfold nxP
          rw [c1]
          simp
        · show (zi w 103 t (-1)).1 103 u = _
          by_cases e : u = t
          · subst e
            rw [ziE, c1]
            rfl
          · rw [ziN e]
            exact f2 u (by omega)
      · rw [go x (nI x) (by omega) c4 (by
          unfold b_X12_layPairs_95
          rw [e20, if_neg (nI_ge c1 (by omega)), good x c1, c3]
          simp only [Option.bind_some]
          rw [if_neg bi_nt])]
        simp only [Option.bind_some]
        unfold j_X12_layPairs_119 j_X12_layPairs_137 j_X12_layPairs_154
        rw [e20, if_neg (nI_ge c1 (by omega)), zin_nI (show t < 6 by omega) (by decide), zg_t, if_neg (nI_ge c1 (by omega)), nI_clamp (by omega), nI_1, (bt_ok (stl t) (show x < 6 by omega)).2.1]
        refine ⟨_, rfl, ?_, rfl, f1.st (by decide), fun u hu => ?_⟩
        · rw [hstp]
          unfold nxP
          rw [c2]
        · show (zi w 103 t (nI x)).1 103 u = _
          by_cases e : u = t
          · subst e
            rw [ziE, c2]
            rfl
          · rw [ziN e]
            exact f2 u (by omega)
    · rintro ⟨u, y, w⟩ ⟨rfl, rfl, f1, f2⟩
      simp only at f1 f2
      have hw : PosM R S T tx ty sx sy w := (h.fr b2 (by decide) (by decide) (by decide) (by decide) (by decide) (by decide)).fr f1 (by decide) (by decide) (by decide) (by decide) (by decide) (by decide)
      have e27 : w.1 68 27 = nI T := hw.2.2.2.2.2.1
      refine ⟨w, ?_, (b2.wide (by decide)).trans (f1.wide (by decide)), f2⟩
      unfold b_X12_layPairs_85
      simp only [e27, nI_le (Nat.le_refl T) (show T < 2 ^ 31 by omega), if_true]
  obtain ⟨m3, c1, c2, c3⟩ := three
  exact ⟨m3, by rw [c1]; rfl, c2, c3⟩
end PRM
