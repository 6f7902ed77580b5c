/-! ===== a frame: pairs of tracks and spots, in the class ===== -/
/-- where tracks and spots lie, in the class -/
def PosC (S T : Nat) (tx ty sx sy : Nat → Nat) (m : zM) : Prop := S ≤ 6 ∧ T ≤ 6 ∧ m.1 27 3 = nI S ∧ m.1 60 1 = nI T ∧ (∀ t, t < T → m.1 (62 + m.2.2 61 t % 6) 1 = nI (tx t) ∧ m.1 (62 + m.2.2 61 t % 6) 2 = nI (ty t) ∧ tx t ≤ 112 ∧ ty t ≤ 112) ∧ ∀ q, q < S → m.1 (46 + m.2.2 45 q % 6) 3 = nI (sx q) ∧ m.1 (46 + m.2.2 45 q % 6) 4 = nI (sy q) ∧ sx q ≤ 112 ∧ sy q ≤ 112
theorem PosC.fr {S T : Nat} {tx ty sx sy : Nat → Nat} {L : List Nat} {m m' : zM} (h : PosC S T tx ty sx sy m) (f : Fr L m m') (h1 : 27 ∉ L) (h2 : 60 ∉ L) (h3 : ∀ k, 62 + k % 6 ∉ L) (h4 : ∀ k, 46 + k % 6 ∉ L) : PosC S T tx ty sx sy m' := by
  unfold PosC at h ⊢
  obtain ⟨a, b, c, d, e, g⟩ := h
  rw [f.2 27 h1, f.2 60 h2, f.1]
  refine ⟨a, b, c, d, fun t ht => ?_, fun q hq => ?_⟩
  · rw [f.2 _ (h3 _)]
    exact e t ht
  · rw [f.2 _ (h4 _)]
    exact g q hq
section PRC
variable {R S T : Nat} {tx ty sx sy : Nat → Nat} {nr : Nat → Nat → Bool} {co : Nat → Nat → Nat}
/-- the worths of the pairs -/
def WoC (nr : Nat → Nat → Bool) (co : Nat → Nat → Nat) (S T : Nat) (m : zM) : Prop := ∀ t q, t < T → q < S → m.1 29 (6 * t + q) = if nr t q then nI (1000000 - co t q) else -1
theorem n29 {k : Nat} {c : Nat} (h : 46 ≤ c) : c + k % 6 ∉ [28, 29, 30] := by
  simp
  omega
theorem weighPairs_c {m : zM} (h : PosC S T tx ty sx sy m) (hR2 : R < 1000) (hnr : nr = nrF R tx ty sx sy) (hco : co = coF tx ty sx sy) (hcb : ∀ t q, co t q ≤ 25088) : ∃ m', f_X6_weighPairs (nI R) m = some m' ∧ Fr [28, 29, 30] m m' ∧ WoC nr co S T m' := by
  obtain ⟨hS, hT, h27, h60, _⟩ := id h
  unfold f_X6_weighPairs
  have key : ∃ m', zloop (b_X6_weighPairs_3 (nI R)) zFU (0, m) = some m' ∧ Fr [28, 29, 30] m m' ∧ WoC nr co S T m' := by
    refine zforQ (fun t st => st.1 = nI t ∧ Fr [28, 29, 30] m st.2 ∧ WoC nr co S t st.2) T _ ⟨rfl, Fr.refl, fun t q ht => by omega⟩ ?_ ?_ (by omega)
    · rintro t ⟨y, w⟩ ht ⟨rfl, f1, f2⟩
      simp only at f1 f2
      have hw : PosC S T tx ty sx sy w := h.fr f1 (by decide) (by decide) (fun k => n29 (by decide)) (fun k => n29 (by decide))
      have inner : ∃ m2, zloop (b_X6_weighPairs_15 (nI R) (nI t)) zFU (0, w) = some m2 ∧ Fr [28, 29, 30] w m2 ∧ (∀ q, q < S → m2.1 29 (6 * t + q) = if nr t q then nI (1000000 - co t q) else -1) ∧ ∀ j, j < 6 * t → m2.1 29 j = w.1 29 j := by
        refine zforQ (fun q st => st.1 = nI q ∧ Fr [28, 29, 30] w st.2 ∧ (∀ p, p < q → st.2.1 29 (6 * t + p) = if nr t p then nI (1000000 - co t p) else -1) ∧ ∀ j, j < 6 * t → st.2.1 29 j = w.1 29 j) S _ ⟨rfl, Fr.refl, fun p hp => by omega, fun _ _ => rfl⟩ ?_ ?_ (by omega)
        · rintro q ⟨y, v⟩ hq ⟨rfl, g1, g2, g3⟩
          simp only at g1 g2 g3
          have hv : PosC S T tx ty sx sy v := hw.fr g1 (by decide) (by decide) (fun k => n29 (by decide)) (fun k => n29 (by decide))
          obtain ⟨_, _, v27, v60, pt, ps⟩ := hv
          obtain ⟨t1, t2, t3, t4⟩ := pt t ht
          obtain ⟨s1, s2, s3, s4⟩ := ps q hq
          have a1 := adN_le t3 s3
          have a2 := adN_le t4 s4
          have cc := hcb t q
          have hk : 6 * t + q < 36 := by omega
          have fin : ∀ x, (x = if nr t q then nI (1000000 - co t q) else -1) → ∃ s1 : Int32 × zM, j_X6_weighPairs_126 (nI R) (nI t) (nI q) x (6 * nI t + nI q) v = some (.inl s1) ∧ s1.1 = nI (q + 1) ∧ Fr [28, 29, 30] w s1.2 ∧ (∀ p, p < q + 1 → s1.2.1 29 (6 * t + p) = if nr t p then nI (1000000 - co t p) else -1) ∧ ∀ j, j < 6 * t → s1.2.1 29 j = w.1 29 j := by
            intro x hx
            unfold j_X6_weighPairs_126
            rw [show (6 : Int32) = nI 6 from rfl, pk_mul, nI_add, zin_nI hk (by decide), zg_t, nI_clamp (by omega), nI_1]
            refine ⟨_, rfl, rfl, g1.st (by decide), fun p hp => ?_, fun j hj => ?_⟩
            · show (zi v 29 (6 * t + q) x).1 29 (6 * t + p) = _
              by_cases e : p = q
              · subst e
                rw [ziE]
                exact hx
              · rw [ziN (by omega)]
                exact g2 p (by omega)
            · show (zi v 29 (6 * t + q) x).1 29 j = _
              rw [ziN (by omega)]
              exact g3 j hj
          have enr : nr t q = (decide (adN (tx t) (sx q) ≤ R) && decide (adN (ty t) (sy q) ≤ R)) := by rw [hnr]; rfl
          have eco : co t q = adN (tx t) (sx q) * adN (tx t) (sx q) + adN (ty t) (sy q) * adN (ty t) (sy q) := by rw [hco]; rfl
          have c1 : nI R < nI (adN (tx t) (sx q)) ↔ R < adN (tx t) (sx q) := nI_ltI (by omega) (by omega)
          have c2 : nI R < nI (adN (ty t) (sy q)) ↔ R < adN (ty t) (sy q) := nI_ltI (by omega) (by omega)
          have wv : (1000000 : Int32) - nI (adN (tx t) (sx q)) * nI (adN (tx t) (sx q)) - nI (adN (ty t) (sy q)) * nI (adN (ty t) (sy q)) = nI (1000000 - co t q) := by
            rw [pk_mul, pk_mul, show (1000000 : Int32) = nI 1000000 from rfl, pk_sub (by omega), pk_sub (by omega), eco]
            congr 1
            omega
          unfold b_X6_weighPairs_15 f_J9_abs_0f7a4 j_X6_weighPairs_88 j_X6_weighPairs_89
          simp only [v27, nI_ge hq (show S < 2 ^ 31 by omega), if_false, zin_nI (show t < 6 by omega) (show 6 < 2 ^ 31 by decide), zin_nI (show q < 6 by omega) (show 6 < 2 ^ 31 by decide), zg_t, nI_clamp (show t < 2 ^ 31 by omega), nI_clamp (show q < 2 ^ 31 by omega), t1, t2, s1, s2, ad_abs t3 s3, ad_abs t4 s4, Option.bind_some, if_true, show ¬ (1 : Int32) = 0 by decide]
          by_cases q1 : R < adN (tx t) (sx q)
          · rw [if_pos (c1.mpr q1)]
            exact fin (-1) (by rw [enr]; simp [Nat.not_le.mpr q1])
          · rw [if_neg (fun z => q1 (c1.mp z))]
            by_cases q2 : R < adN (ty t) (sy q)
            · rw [if_pos (c2.mpr q2)]
              exact fin (-1) (by rw [enr]; simp [Nat.not_le.mpr q2])
            · rw [if_neg (fun z => q2 (c2.mp z)), wv]
              exact fin _ (by rw [enr]; simp [Nat.not_lt.mp q1, Nat.not_lt.mp q2])
        · rintro ⟨y, v⟩ ⟨rfl, g1, g2, g3⟩
          simp only at g1 g2 g3
          have e27 := g1.2 27 (by decide)
          refine ⟨v, ?_, g1, g2, g3⟩
          unfold b_X6_weighPairs_15
          simp only [e27, hw.2.2.1, nI_le (Nat.le_refl S) (show S < 2 ^ 31 by omega), if_true]
      obtain ⟨m2, i1, i2, i3, i4⟩ := inner
      unfold b_X6_weighPairs_3
      simp only [hw.2.2.2.1, nI_ge ht (show T < 2 ^ 31 by omega), if_false, i1, Option.bind_some, nI_1]
      refine ⟨_, rfl, rfl, f1.trans i2, fun u q hu hq => ?_⟩
      by_cases e : u = t
      · subst e
        exact i3 q hq
      · show m2.1 29 (6 * u + q) = _
        rw [i4 _ (by omega)]
        exact f2 u q (by omega) hq
    · rintro ⟨y, w⟩ ⟨rfl, f1, f2⟩
      simp only at f1 f2
      have e60 := f1.2 60 (by decide)
      refine ⟨w, ?_, f1, f2⟩
      unfold b_X6_weighPairs_3
      simp only [e60, h60, nI_le (Nat.le_refl T) (show T < 2 ^ 31 by omega), if_true]
  obtain ⟨m', e, q⟩ := key
  exact ⟨m', by rw [e]; rfl, q⟩
/-- row t of the table -/
def TbC (nr : Nat → Nat → Bool) (co : Nat → Nat → Nat) (S T t : Nat) (m : zM) : Prop := ∀ set, set < 2 ^ S → m.1 30 (64 * t + set) = nI (pV (PV nr co S T (T - t) set))
theorem worth_none {m : zM} (hS : S ≤ 6) {t set : Nat} (ht : t < 6) (hset : set < 2 ^ S) (tb : TbC nr co S T (t + 1) m) : f_X6_worthOf (nI t) (nI set) (-1) m = some (nI (pV (PV nr co S T (T - (t + 1)) set))) := by
  have hs := (bs_ok hS).2.1
  unfold f_X6_worthOf f_X6_withSpot
  rw [if_pos rfl]
  simp only [Option.bind_some, if_true]
  rw [nI_1, i64, zin_nI (show 64 * (t + 1) + set < 448 by omega) (by decide), zg_t, nI_clamp (by omega), tb set hset]
theorem worth_spot {m : zM} (hS : S ≤ 6) (hT : T ≤ 6) (hcb : ∀ t q, co t q ≤ 25088) {t set q : Nat} (ht : t < T) (hset : set < 2 ^ S) (hq : q < S) (hn : nr t q = true) (wo : WoC nr co S T m) (tb : TbC nr co S T (t + 1) m) : f_X6_worthOf (nI t) (nI set) (nI q) m = some (nI (pV (tP nr co S T t set q))) := by
  obtain ⟨_, hs, hsb⟩ := bs_ok hS
  have hb := hsb set q hset hq
  have bt := bt_ok (show set < 64 by omega) (show q < 6 by omega)
  have bd : Bd (PV nr co S T (T - (t + 1)) (sb set q)) := PV_Bd hT hcb (by omega)
  unfold Bd at bd
  have cc := hcb t q
  unfold f_X6_worthOf f_X6_withSpot
  rw [if_neg (nI_nm1 (by omega))]
  simp only [Option.bind_some]
  rw [if_neg (nI_nm1 (by omega)), bt.2.1, nI_1, i64, zin_nI (show 64 * (t + 1) + sb set q < 448 by omega) (by decide), zg_t, nI_clamp (show 64 * (t + 1) + sb set q < 2 ^ 31 by omega), tb _ hb, show (6 : Int32) = nI 6 from rfl, pk_mul, nI_add, zin_nI (show 6 * t + q < 36 by omega) (by decide), zg_t, nI_clamp (show 6 * t + q < 2 ^ 31 by omega), wo t q ht hq, if_pos hn, nI_add]
  congr 2
  unfold pV tP
  simp only
  omega
theorem best_c {m : zM} (hS : S ≤ 6) (hT : T ≤ 6) (h27 : m.1 27 3 = nI S) (hcb : ∀ t q, co t q ≤ 25088) {t set : Nat} (ht : t < T) (hset : set < 2 ^ S) (wo : WoC nr co S T m) (tb : TbC nr co S T (t + 1) m) : f_X6_bestSpot (nI t) (nI set) m = some (enP (chP nr co S T t set)) ∧ f_X6_worthOf (nI t) (nI set) (enP (chP nr co S T t set)) m = some (nI (pV (PV nr co S T (T - t) set))) := by
  obtain ⟨_, hs, hsb⟩ := bs_ok hS
  have hbd : ∀ q, Bd (tP nr co S T t set q) := fun q => tP_Bd hT hcb ht
  have hz : Bd (PV nr co S T (T - (t + 1)) set) := PV_Bd hT hcb (by omega)
  have pVb : ∀ {x}, Bd x → pV x < 2 ^ 31 := fun {x} hx => by
    unfold Bd at hx
    unfold pV
    omega
  have key : ∃ r : Int32 × Int32, zloop (b_X6_bestSpot_8 (nI t) (nI set) m) zFU (-1, -1, 0) = some r ∧ ((r.1 = -1 ∧ r.2 = -1 ∧ ∀ j, j < S → okP nr set t j = false) ∨ ∃ x, x < S ∧ okP nr set t x = true ∧ r.1 = nI x ∧ r.2 = nI (pV (tP nr co S T t set x)) ∧ (∀ j, j < S → okP nr set t j = true → pV (tP nr co S T t set j) ≤ pV (tP nr co S T t set x)) ∧ ∀ j, j < x → okP nr set t j = true → pV (tP nr co S T t set j) < pV (tP nr co S T t set x)) := by
    refine zforQ (fun i st => st.2.2 = nI i ∧ ((st.1 = -1 ∧ st.2.1 = -1 ∧ ∀ j, j < i → okP nr set t j = false) ∨ ∃ x, x < i ∧ okP nr set t x = true ∧ st.1 = nI x ∧ st.2.1 = nI (pV (tP nr co S T t set x)) ∧ (∀ j, j < i → okP nr set t j = true → pV (tP nr co S T t set j) ≤ pV (tP nr co S T t set x)) ∧ ∀ j, j < x → okP nr set t j = true → pV (tP nr co S T t set j) < pV (tP nr co S T t set x))) S _ ⟨rfl, Or.inl ⟨rfl, rfl, fun k hk => by omega⟩⟩ ?_ ?_ (by omega)
    · rintro i ⟨c, b, y⟩ hi ⟨rfl, hinv⟩
      simp only at hinv
      have bt := bt_ok (show set < 64 by omega) (show i < 6 by omega)
      have stay : okP nr set t i = false → ∃ s1 : Int32 × Int32 × Int32, j_X6_bestSpot_78 (nI t) (nI set) c b (nI i) m = some (.inl s1) ∧ s1.2.2 = nI (i + 1) ∧ ((s1.1 = -1 ∧ s1.2.1 = -1 ∧ ∀ j, j < i + 1 → okP nr set t j = false) ∨ ∃ x, x < i + 1 ∧ okP nr set t x = true ∧ s1.1 = nI x ∧ s1.2.1 = nI (pV (tP nr co S T t set x)) ∧ (∀ j, j < i + 1 → okP nr set t j = true → pV (tP nr co S T t set j) ≤ pV (tP nr co S T t set x)) ∧ ∀ j, j < x → okP nr set t j = true → pV (tP nr co S T t set j) < pV (tP nr co S T t set x)) := by
        intro hf
        unfold j_X6_bestSpot_78
        rw [nI_1]
        refine ⟨_, rfl, rfl, ?_⟩
        rcases hinv with ⟨a1, a2, a3⟩ | ⟨x, a1, a2, a3, a4, a5, a6⟩
        · refine Or.inl ⟨a1, a2, fun j hj => ?_⟩
          by_cases e : j = i
          · rw [e]; exact hf
          · exact a3 j (by omega)
        · refine Or.inr ⟨x, by omega, a2, a3, a4, fun j hj hk => ?_, a6⟩
          have : j ≠ i := fun z => by rw [z, hf] at hk; cases hk
          exact a5 j (by omega) hk
      unfold b_X6_bestSpot_8 j_X6_bestSpot_31
      simp only [h27, nI_ge hi (show S < 2 ^ 31 by omega), if_false, bt.1]
      cases hb : Nat.testBit set i with
      | true =>
        simp only [if_true, show ¬ (1 : Int32) = 0 by decide, if_false]
        exact stay (by unfold okP; rw [hb]; rfl)
      | false =>
        simp only [Bool.false_eq_true, if_false, if_true, show ¬ (1 : Int32) = 0 by decide]
        rw [show (6 : Int32) = nI 6 from rfl, pk_mul, nI_add, zin_nI (show 6 * t + i < 36 by omega) (by decide), zg_t, nI_clamp (show 6 * t + i < 2 ^ 31 by omega), wo t i ht hi]
        cases hn : nr t i with
        | false =>
          rw [if_neg (show ¬ false = true by decide), if_pos rfl]
          exact stay (by unfold okP; rw [hn, Bool.and_false])
        | true =>
          have hok : okP nr set t i = true := by unfold okP; rw [hn, hb]; rfl
          have cc := hcb t i
          rw [if_pos rfl, if_neg (nI_nm1 (by omega)), worth_spot hS hT hcb ht hset hi hn wo tb]
          simp only [Option.bind_some]
          unfold j_X6_bestSpot_78
          rw [nI_1]
          have hv := pVb (hbd i)
          rcases hinv with ⟨a1, a2, a3⟩ | ⟨x, a1, a2, a3, a4, a5, a6⟩
          · subst a2
            have hp : ¬ nI (pV (tP nr co S T t set i)) ≤ -1 := fun z => by
              have := Int32.le_trans (nI_pos' hv) z
              exact absurd this (by decide)
            rw [if_neg hp]
            refine ⟨_, rfl, rfl, Or.inr ⟨i, by omega, hok, rfl, rfl, fun j hj hk => ?_, fun j hj hk => ?_⟩⟩
            · by_cases e : j = i
              · rw [e]; exact Nat.le_refl _
              · rw [a3 j (by omega)] at hk
                cases hk
            · rw [a3 j (by omega)] at hk
              cases hk
          · subst a4
            have cl : nI (pV (tP nr co S T t set i)) ≤ nI (pV (tP nr co S T t set x)) ↔ pV (tP nr co S T t set i) ≤ pV (tP nr co S T t set x) := nI_leI hv (pVb (hbd x))
            by_cases q : pV (tP nr co S T t set i) ≤ pV (tP nr co S T t set x)
            · rw [if_pos (cl.mpr q)]
              refine ⟨_, rfl, rfl, Or.inr ⟨x, by omega, a2, a3, rfl, fun j hj hk => ?_, a6⟩⟩
              by_cases e : j = i
              · rw [e]; exact q
              · exact a5 j (by omega) hk
            · rw [if_neg (fun z => q (cl.mp z))]
              refine ⟨_, rfl, rfl, Or.inr ⟨i, by omega, hok, rfl, rfl, fun j hj hk => ?_, fun j hj hk => ?_⟩⟩
              · by_cases e : j = i
                · rw [e]; exact Nat.le_refl _
                · have := a5 j (by omega) hk
                  omega
              · have := a5 j (by omega) hk
                omega
    · rintro ⟨c, b, y⟩ ⟨rfl, hinv⟩
      refine ⟨(c, b), ?_, hinv⟩
      unfold b_X6_bestSpot_8
      simp only [h27, nI_le (Nat.le_refl S) (show S < 2 ^ 31 by omega), if_true]
  obtain ⟨⟨c, b⟩, k1, k2⟩ := key
  simp only at k2
  have hr : ∃ r, f_X6_bestSpot (nI t) (nI set) m = some r ∧ ((r = -1 ∧ ∀ j, j < S → okP nr set t j = true → pV (tP nr co S T t set j) < pV (PV nr co S T (T - (t + 1)) set)) ∨ ∃ x, x < S ∧ okP nr set t x = true ∧ r = nI x ∧ pV (PV nr co S T (T - (t + 1)) set) ≤ pV (tP nr co S T t set x) ∧ (∀ j, j < S → okP nr set t j = true → pV (tP nr co S T t set j) ≤ pV (tP nr co S T t set x)) ∧ ∀ j, j < x → okP nr set t j = true → pV (tP nr co S T t set j) < pV (tP nr co S T t set x)) := by
    unfold f_X6_bestSpot
    rw [k1]
    simp only [Option.bind_some]
    rw [worth_none hS (show t < 6 by omega) hset tb]
    simp only [Option.bind_some]
    rcases k2 with ⟨a1, a2, a3⟩ | ⟨x, a1, a2, a3, a4, a5, a6⟩
    · subst a2
      have hp : ¬ nI (pV (PV nr co S T (T - (t + 1)) set)) ≤ -1 := fun z => by
        have := Int32.le_trans (nI_pos' (pVb hz)) z
        exact absurd this (by decide)
      rw [if_neg hp]
      refine ⟨-1, rfl, Or.inl ⟨rfl, fun j hj hk => ?_⟩⟩
      rw [a3 j hj] at hk
      cases hk
    · subst a4
      subst a3
      have cl : nI (pV (PV nr co S T (T - (t + 1)) set)) ≤ nI (pV (tP nr co S T t set x)) ↔ pV (PV nr co S T (T - (t + 1)) set) ≤ pV (tP nr co S T t set x) := nI_leI (pVb hz) (pVb (hbd x))
      by_cases q : pV (PV nr co S T (T - (t + 1)) set) ≤ pV (tP nr co S T t set x)
      · rw [if_pos (cl.mpr q)]
        exact ⟨nI x, rfl, Or.inr ⟨x, a1, a2, rfl, q, a5, a6⟩⟩
      · rw [if_neg (fun z => q (cl.mp z))]
        refine ⟨-1, rfl, Or.inl ⟨rfl, fun j hj hk => ?_⟩⟩
        have := a5 j hj hk
        omega
  obtain ⟨r, r1, r2⟩ := hr
  obtain ⟨e1, e2⟩ := chP_class hT hcb ht r2
  subst e1
  refine ⟨r1, ?_⟩
  cases hc : chP nr co S T t set with
  | none =>
    rw [hc] at e2
    show f_X6_worthOf (nI t) (nI set) (-1) m = _
    rw [worth_none hS (show t < 6 by omega) hset tb, e2]
  | some x =>
    rw [hc] at e2
    have hx := chP_lt hc
    have hn : nr t x = true := by
      unfold chP at hc
      rcases fstP_cases (fun q => okP nr set t q && decide (tP nr co S T t set q = PV nr co S T (T - t) set)) S with ⟨a, _⟩ | ⟨y, _, b, c, _⟩
      · rw [a] at hc; cases hc
      · rw [b] at hc
        cases hc
        rw [Bool.and_eq_true] at c
        have c1 := c.1
        unfold okP at c1
        rw [Bool.and_eq_true] at c1
        exact c1.2
    show f_X6_worthOf (nI t) (nI set) (nI x) m = _
    rw [worth_spot hS hT hcb ht hset hx hn wo tb, e2]
theorem solve_c {m : zM} (h : PosC S T tx ty sx sy (zi m 27 3 (nI S))) (h44 : m.1 44 4 = nI S) (hR2 : R < 1000) (hnr : nr = nrF R tx ty sx sy) (hco : co = coF tx ty sx sy) (hcb : ∀ t q, co t q ≤ 25088) : ∃ m', f_X6_solve (nI R) m = some m' ∧ Fr [27, 28, 29, 30] m m' ∧ ∀ t, t < T → m'.1 28 t = enP (chP nr co S T t (stP nr co S T t)) := by
  obtain ⟨hS, hT, h27, h60, _⟩ := id h
  obtain ⟨hsh, hs, hsb⟩ := bs_ok hS
  obtain ⟨m1, a1, a2, a3⟩ := weighPairs_c h hR2 hnr hco hcb
  have e27 : m1.1 27 3 = nI S := by rw [a2.2 27 (by decide)]; exact h27
  have e60 : m1.1 60 1 = nI T := by rw [a2.2 60 (by decide)]; exact h60
  unfold f_X6_solve
  rw [h44, a1]
  simp only [Option.bind_some, e27, hsh]
  have one : ∃ m2, zloop (b_X6_solve_26 (nI (2 ^ S))) zFU (0, m1) = some m2 ∧ Fr [30] m1 m2 ∧ TbC nr co S T T m2 := by
    refine zforQ (fun k st => st.1 = nI k ∧ Fr [30] m1 st.2 ∧ ∀ set, set < k → st.2.1 30 (64 * T + set) = 0) (2 ^ S) _ ⟨rfl, Fr.refl, fun k hk => by omega⟩ ?_ ?_ (by omega)
    · rintro k ⟨y, w⟩ hk ⟨rfl, f1, f2⟩
      simp only at f1 f2
      have w60 := f1.2 60 (by decide)
      unfold b_X6_solve_26
      simp only [w60, e60, nI_ge hk (show 2 ^ S < 2 ^ 31 by omega), if_false, i64, zin_nI (show 64 * T + k < 448 by omega) (show 448 < 2 ^ 31 by decide), zg_t, nI_clamp (show 64 * T + k < 2 ^ 31 by omega), nI_1]
      refine ⟨_, rfl, rfl, f1.st (by decide), fun set hs => ?_⟩
      show (zi w 30 (64 * T + k) 0).1 30 (64 * T + set) = 0
      by_cases e : set = k
      · subst e
        rw [ziE]
      · rw [ziN (by omega)]
        exact f2 set (by omega)
    · rintro ⟨y, w⟩ ⟨rfl, f1, f2⟩
      simp only at f1 f2
      refine ⟨w, ?_, f1, fun set hs => ?_⟩
      · unfold b_X6_solve_26
        simp only [nI_le (Nat.le_refl (2 ^ S)) (show 2 ^ S < 2 ^ 31 by omega), if_true]
      · rw [Nat.sub_self]
        exact f2 set hs
  obtain ⟨m2, b1, b2, b3⟩ := one
  rw [b1]
  simp only [Option.bind_some]
  have g60 : m2.1 60 1 = nI T := by rw [b2.2 60 (by decide)]; exact e60
  rw [g60]
  have two : ∃ m3, zloop (b_X6_solve_63 (nI (2 ^ S))) zFU (nI T - 1, m2) = some m3 ∧ Fr [30] m1 m3 ∧ ∀ t, t ≤ T → TbC nr co S T t m3 := by
    refine zforQ (fun k st => st.1 = nI (T - k) - 1 ∧ Fr [30] m1 st.2 ∧ ∀ t, T - k ≤ t → t ≤ T → TbC nr co S T t st.2) T _ ⟨rfl, b2, fun t h1 h2 => by rw [show t = T by omega]; exact b3⟩ ?_ ?_ (by omega)
    · rintro k ⟨y, w⟩ hk ⟨rfl, f1, f2⟩
      simp only at f1 f2
      obtain ⟨t, et⟩ : ∃ t, T - k = t + 1 := ⟨T - k - 1, by omega⟩
      have ek : T - (k + 1) = t := by omega
      rw [et, ek]
      rw [et] at f2
      rw [nI_pred]
      unfold b_X6_solve_63
      simp only [nI_pos (show t < 2 ^ 31 by omega), if_false]
      have inner : ∃ m2, zloop (b_X6_solve_71 (nI (2 ^ S)) (nI t)) zFU (0, w) = some m2 ∧ Fr [30] w m2 ∧ (∀ set, set < 2 ^ S → m2.1 30 (64 * t + set) = nI (pV (PV nr co S T (T - t) set))) ∧ ∀ j, 64 * (t + 1) ≤ j → m2.1 30 j = w.1 30 j := by
        refine zforQ (fun k st => st.1 = nI k ∧ Fr [30] w st.2 ∧ (∀ set, set < k → st.2.1 30 (64 * t + set) = nI (pV (PV nr co S T (T - t) set))) ∧ ∀ j, 64 * (t + 1) ≤ j → st.2.1 30 j = w.1 30 j) (2 ^ S) _ ⟨rfl, Fr.refl, fun k hk => by omega, fun _ _ => rfl⟩ ?_ ?_ (by omega)
        · rintro set ⟨y, v⟩ hset ⟨rfl, g1, g2, g3⟩
          simp only at g1 g2 g3
          have v27 : v.1 27 3 = nI S := by rw [g1.2 27 (by decide), f1.2 27 (by decide)]; exact e27
          have wo : WoC nr co S T v := fun t q ht hq => by rw [g1.2 29 (by decide), f1.2 29 (by decide)]; exact a3 t q ht hq
          have tb : TbC nr co S T (t + 1) v := fun s hs2 => by
            rw [g3 (64 * (t + 1) + s) (by omega)]
            exact f2 (t + 1) (by omega) (by omega) s hs2
          obtain ⟨x1, x2⟩ := best_c hS hT v27 hcb (show t < T by omega) hset wo tb
          unfold b_X6_solve_71
          simp only [nI_ge hset (show 2 ^ S < 2 ^ 31 by omega), if_false, x1, x2, Option.bind_some, i64, zin_nI (show 64 * t + set < 448 by omega) (show 448 < 2 ^ 31 by decide), zg_t, nI_clamp (show 64 * t + set < 2 ^ 31 by omega), nI_1]
          refine ⟨_, rfl, rfl, g1.st (by decide), fun s hs2 => ?_, fun j hj => ?_⟩
          · show (zi v 30 (64 * t + set) _).1 30 (64 * t + s) = _
            by_cases e : s = set
            · subst e
              rw [ziE]
            · rw [ziN (by omega)]
              exact g2 s (by omega)
          · show (zi v 30 (64 * t + set) _).1 30 j = _
            rw [ziN (by omega)]
            exact g3 j hj
        · rintro ⟨y, v⟩ ⟨rfl, g1, g2, g3⟩
          simp only at g1 g2 g3
          refine ⟨v, ?_, g1, g2, g3⟩
          unfold b_X6_solve_71
          simp only [nI_le (Nat.le_refl (2 ^ S)) (show 2 ^ S < 2 ^ 31 by omega), if_true]
      obtain ⟨m2, i1, i2, i3, i4⟩ := inner
      rw [i1]
      simp only [Option.bind_some, sub1]
      refine ⟨_, rfl, rfl, f1.trans i2, fun u hu hu2 => ?_⟩
      by_cases e : u = t
      · subst e
        exact i3
      · intro s hs
        show m2.1 30 (64 * u + s) = _
        rw [i4 (64 * u + s) (by omega)]
        exact f2 u (by omega) hu2 s hs
    · rintro ⟨y, w⟩ ⟨rfl, f1, f2⟩
      simp only at f1 f2
      refine ⟨w, ?_, f1, fun t ht => f2 t (by omega) ht⟩
      unfold b_X6_solve_63
      simp only [Nat.sub_self, show nI 0 - 1 < 0 by decide, if_true]
  obtain ⟨m3, c1, c2, c3⟩ := two
  rw [c1]
  simp only [Option.bind_some]
  have stl : ∀ t, stP nr co S T t < 2 ^ S := by
    intro t
    induction t with
    | zero => exact Nat.two_pow_pos S
    | succ t ih =>
      show nxP nr co S T t (stP nr co S T t) < 2 ^ S
      unfold nxP
      cases hc : chP nr co S T t (stP nr co S T t) with
      | none => exact ih
      | some x => exact hsb _ _ ih (chP_lt hc)
  have three : ∃ m4, zloop b_X6_solve_125 zFU (0, 0, m3) = some m4 ∧ Fr [28] m3 m4 ∧ ∀ t, t < T → m4.1 28 t = enP (chP nr co S T t (stP nr co S T t)) := by
    refine zforQ (fun t st => st.1 = nI (stP nr co S T t) ∧ st.2.1 = nI t ∧ Fr [28] m3 st.2.2 ∧ ∀ u, u < t → st.2.2.1 28 u = enP (chP nr co S T u (stP nr co S T u))) T _ ⟨rfl, rfl, Fr.refl, fun k hk => by omega⟩ ?_ ?_ (by omega)
    · rintro t ⟨u, y, w⟩ ht ⟨rfl, rfl, f1, f2⟩
      simp only at f1 f2
      have w60 : w.1 60 1 = nI T := by rw [f1.2 60 (by decide), c2.2 60 (by decide)]; exact e60
      have w27 : w.1 27 3 = nI S := by rw [f1.2 27 (by decide), c2.2 27 (by decide)]; exact e27
      have wo : WoC nr co S T w := fun t q ht hq => by rw [f1.2 29 (by decide), c2.2 29 (by decide)]; exact a3 t q ht hq
      have tb : TbC nr co S T (t + 1) w := fun s hs2 => by
        rw [f1.2 30 (by decide)]
        exact c3 (t + 1) (by omega) s hs2
      obtain ⟨x1, _⟩ := best_c hS hT w27 hcb ht (stl t) wo tb
      have hstp : stP nr co S T (t + 1) = nxP nr co S T t (stP nr co S T t) := rfl
      have hws : ∀ v, f_X6_withSpot (nI (stP nr co S T t)) (enP (chP nr co S T t (stP nr co S T t))) v = some (nI (stP nr co S T (t + 1))) := by
        intro v
        rw [hstp]
        unfold nxP f_X6_withSpot
        cases hc : chP nr co S T t (stP nr co S T t) with
        | none => exact if_pos rfl
        | some x =>
          have hx := chP_lt hc
          have hl := stl t
          show (if nI x = -1 then some (nI (stP nr co S T t)) else some (nI (stP nr co S T t) ||| zshl 1 (nI x))) = some (nI (sb (stP nr co S T t) x))
          rw [if_neg (nI_nm1 (by omega)), (bt_ok (show stP nr co S T t < 64 by omega) (show x < 6 by omega)).2.1]
      unfold b_X6_solve_125
      simp only [w60, nI_ge ht (show T < 2 ^ 31 by omega), if_false, x1, Option.bind_some, zin_nI (show t < 6 by omega) (show 6 < 2 ^ 31 by decide), zg_t, nI_clamp (show t < 2 ^ 31 by omega), hws, nI_1]
      refine ⟨_, rfl, rfl, rfl, f1.st (by decide), fun u hu => ?_⟩
      show (zi w 28 t _).1 28 u = _
      by_cases e : u = t
      · subst e
        rw [ziE]
      · rw [ziN e]
        exact f2 u (by omega)
    · rintro ⟨u, y, w⟩ ⟨rfl, rfl, f1, f2⟩
      simp only at f1 f2
      have w60 : w.1 60 1 = nI T := by rw [f1.2 60 (by decide), c2.2 60 (by decide)]; exact e60
      refine ⟨w, ?_, f1, f2⟩
      unfold b_X6_solve_125
      simp only [w60, nI_le (Nat.le_refl T) (show T < 2 ^ 31 by omega), if_true]
  obtain ⟨m4, d1, d2, d3⟩ := three
  refine ⟨m4, by rw [d1]; rfl, ?_, d3⟩
  exact ((Fr.refl.st (by decide)).trans (a2.wide (by decide))).trans ((c2.wide (by decide)).trans (d2.wide (by decide)))
end PRC
