/-! ===== a frame: what the cells sense ===== -/
def nxs (s : Int32) : Int32 := (zlrem (((1103515245 : Int64) * (s.toInt64)) + (12345 : Int64)) (2147483648 : Int64)).toInt32
def sdn (s0 L : Int32) : Nat → Int32
  | 0 => s0
  | k + 1 => if L ≤ 0 then sdn s0 L k else nxs (sdn s0 L k)
def zno (s0 L : Int32) (k : Nat) : Int32 := if L ≤ 0 then 0 else zrem (nxs (sdn s0 L k) / 65536) (2 * L + 1) - L
/-- the seed's step: never negative, and the long way is the short way -/
theorem seed_step {s : Int32} (hs : 0 ≤ s) : ∃ v : Nat, v < 2 ^ 31 ∧ zlrem (((1103515245 : Int64) * (s.toInt64)) + (12345 : Int64)) (2147483648 : Int64) = lN v ∧ nxs s = nI v := by
  obtain ⟨k, hk, rfl⟩ := nI_of (Int32.not_lt.mpr hs)
  have e : zlrem (((1103515245 : Int64) * ((nI k).toInt64)) + (12345 : Int64)) (2147483648 : Int64) = lN ((1103515245 * k + 12345) % 2147483648) := by
    rw [nI_l hk, show (1103515245 : Int64) = lN 1103515245 from rfl, lN_mul, show (12345 : Int64) = lN 12345 from rfl, lN_add, show (2147483648 : Int64) = lN 2147483648 from rfl]
    exact pk_lRem (by omega) (by omega) (by omega)
  refine ⟨(1103515245 * k + 12345) % 2147483648, Nat.mod_lt _ (by omega), e, ?_⟩
  unfold nxs
  rw [e, lN_i]
theorem sdn_pos {s0 L : Int32} (h : 0 ≤ s0) : ∀ k, 0 ≤ sdn s0 L k
  | 0 => h
  | k + 1 => by
    unfold sdn
    split
    · exact sdn_pos h k
    · obtain ⟨v, hv, _, e⟩ := seed_step (sdn_pos h k)
      rw [e]
      exact nI_pos' hv
theorem draw_c {s : Int32} {L : Nat} (h0 : 0 < L) (hL : L ≤ 60) (hs : 0 ≤ s) : ∃ r : Nat, r < 2 * L + 1 ∧ zrem (nxs s / 65536) (2 * nI L + 1) = nI r ∧ (zlrem ((zlrem (((1103515245 : Int64) * (s.toInt64)) + (12345 : Int64)) (2147483648 : Int64)) / (65536 : Int64)) (2 * nI L + 1).toInt64).toInt32 = nI r := by
  obtain ⟨v, hv, e1, e2⟩ := seed_step hs
  have e3 : 2 * nI L + 1 = nI (2 * L + 1) := by rw [show (2 : Int32) = nI 2 from rfl, pk_mul, nI_1]
  refine ⟨v / 65536 % (2 * L + 1), Nat.mod_lt _ (by omega), ?_, ?_⟩
  · rw [e2, e3, show (65536 : Int32) = nI 65536 from rfl, pk_div hv (by omega) (by omega)]
    exact pk_rem (by omega) (by omega) (by omega)
  · rw [e1, e3, nI_l (by omega), show (65536 : Int64) = lN 65536 from rfl, pk_lDiv (by omega) (by omega) (by omega)]
    have : zlrem (lN (v / 65536)) (lN (2 * L + 1)) = lN (v / 65536 % (2 * L + 1)) := pk_lRem (by omega) (by omega) (by omega)
    rw [this, lN_i]
def zraw (A S : Nat → Int32) (s0 L : Int32) (k : Nat) : Int32 := A k + S k + zno s0 L k
def zdel (A S U : Nat → Int32) (s0 L : Int32) (k : Nat) : Int32 := zraw A S s0 L k - U k
def ztch (D : Nat → Int32) (thr : Int32) (k : Nat) : Int32 := if D k < thr then 0 else 1
theorem sense_c {m : zM} {n d : Nat} {thr s0 : Int32} {L : Nat} {A S U : Nat → Int32} (hn : m.1 14 2 = nI n) (h64 : n ≤ 64) (hA : ∀ k, k < n → m.1 32 k = A k) (hS : ∀ k, k < n → m.1 34 k = S k) (hU : ∀ k, k < n → m.1 33 k = U k) (hd : d < 3) (h1 : m.1 24 1 = nI d) (h2 : m.1 25 d = nI L) (hL : L ≤ 60) (hs : m.1 24 2 = s0) (hs0 : 0 ≤ s0) :
    ∃ m', f_X9_sense thr m = some m' ∧ Fr [24, 35, 36, 37] m m' ∧ m'.1 24 1 = nI d ∧ m'.1 24 2 = sdn s0 (nI L) n ∧ ∀ k, k < n → m'.1 35 k = zraw A S s0 (nI L) k ∧ m'.1 36 k = zdel A S U s0 (nI L) k ∧ m'.1 37 k = ztch (zdel A S U s0 (nI L)) thr k := by
  unfold f_X9_sense f_X0_activeLevel
  rw [h1, zin_nI hd (by decide), zg_t, nI_clamp (by omega), h2]
  simp only [Option.bind_some]
  have key : ∃ m', zloop (b_X9_sense_8 thr (nI L)) zFU (0, m) = some m' ∧ Fr [24, 35, 36, 37] m m' ∧ m'.1 24 1 = nI d ∧ m'.1 24 2 = sdn s0 (nI L) n ∧ ∀ k, k < n → m'.1 35 k = zraw A S s0 (nI L) k ∧ m'.1 36 k = zdel A S U s0 (nI L) k ∧ m'.1 37 k = ztch (zdel A S U s0 (nI L)) thr k := by
    refine zforQ (fun i s => s.1 = nI i ∧ Fr [24, 35, 36, 37] m s.2 ∧ s.2.1 24 1 = nI d ∧ s.2.1 24 2 = sdn s0 (nI L) i ∧ ∀ k, k < i → s.2.1 35 k = zraw A S s0 (nI L) k ∧ s.2.1 36 k = zdel A S U s0 (nI L) k ∧ s.2.1 37 k = ztch (zdel A S U s0 (nI L)) thr k) n _ ⟨rfl, Fr.refl, h1, hs, fun k hk => by omega⟩ ?_ ?_ (by omega)
    · rintro i ⟨x, w⟩ hi ⟨rfl, f1, f2, f3, f4⟩
      simp only at f1 f2 f3 f4
      have e14 := f1.2 14 (by decide)
      have e32 := f1.2 32 (by decide)
      have e33 := f1.2 33 (by decide)
      have e34 := f1.2 34 (by decide)
      have hz := zin_nI (show i < 64 by omega) (show 64 < 2 ^ 31 by decide)
      have hcl := nI_clamp (show i < 2 ^ 31 by omega)
      -- the second half, for any memory that is right so far
      have half : ∀ (w' : zM) (nz : Int32), Fr [24, 35, 36, 37] m w' → w'.1 24 1 = nI d → w'.1 24 2 = sdn s0 (nI L) (i + 1) → (∀ k, k < i → w'.1 35 k = zraw A S s0 (nI L) k ∧ w'.1 36 k = zdel A S U s0 (nI L) k ∧ w'.1 37 k = ztch (zdel A S U s0 (nI L)) thr k) → nz = zno s0 (nI L) i → ∃ s1 : Int32 × zM, j_X9_sense_33 thr (nI L) (nI i) nz w' = some (.inl s1) ∧ s1.1 = nI (i + 1) ∧ Fr [24, 35, 36, 37] m s1.2 ∧ s1.2.1 24 1 = nI d ∧ s1.2.1 24 2 = sdn s0 (nI L) (i + 1) ∧ ∀ k, k < i + 1 → s1.2.1 35 k = zraw A S s0 (nI L) k ∧ s1.2.1 36 k = zdel A S U s0 (nI L) k ∧ s1.2.1 37 k = ztch (zdel A S U s0 (nI L)) thr k := by
        intro w' nz g1 g2 g3 g4 hnz
        have a32 := g1.2 32 (by decide)
        have a33 := g1.2 33 (by decide)
        have a34 := g1.2 34 (by decide)
        unfold j_X9_sense_33 j_X9_sense_104
        simp only [hz, zg_t, hcl, ziE, a32, a33, a34, hA i hi, hU i hi, hS i hi, nI_1, show zb (0 : Int32) = true by decide, show zb (1 : Int32) = true by decide]
        have er : A i + S i + nz = zraw A S s0 (nI L) i := by rw [hnz]; rfl
        rw [er]
        have ed : zraw A S s0 (nI L) i - U i = zdel A S U s0 (nI L) i := rfl
        rw [ed]
        have fin : ∀ b, b = ztch (zdel A S U s0 (nI L)) thr i → ∃ s1 : Int32 × zM, (some (.inl (nI (i + 1), zi (zi (zi w' 35 i (zraw A S s0 (nI L) i)) 36 i (zdel A S U s0 (nI L) i)) 37 i b)) : Option ((Int32 × zM) ⊕ zM)) = some (.inl s1) ∧ s1.1 = nI (i + 1) ∧ Fr [24, 35, 36, 37] m s1.2 ∧ s1.2.1 24 1 = nI d ∧ s1.2.1 24 2 = sdn s0 (nI L) (i + 1) ∧ ∀ k, k < i + 1 → s1.2.1 35 k = zraw A S s0 (nI L) k ∧ s1.2.1 36 k = zdel A S U s0 (nI L) k ∧ s1.2.1 37 k = ztch (zdel A S U s0 (nI L)) thr k := by
          intro b hb
          refine ⟨_, rfl, rfl, ((g1.st (by decide)).st (by decide)).st (by decide), ?_, ?_, ?_⟩
          · simpa [zi] using g2
          · simpa [zi] using g3
          · intro k hk
            by_cases hk2 : k = i
            · subst hk2
              simp [zi, hb]
            · have := g4 k (by omega)
              simpa [zi, hk2] using this
        by_cases ht : zdel A S U s0 (nI L) i < thr
        · rw [if_pos ht]
          exact fin 0 (by unfold ztch; rw [if_pos ht])
        · rw [if_neg ht]
          exact fin 1 (by unfold ztch; rw [if_neg ht])
      unfold b_X9_sense_8
      simp only [e14, hn, nI_ge hi (show n < 2 ^ 31 by omega), if_false]
      by_cases hl : nI L ≤ 0
      · rw [if_pos hl]
        exact half w 0 f1 f2 (by rw [f3]; show _ = if nI L ≤ 0 then _ else _; rw [if_pos hl]) f4 (by unfold zno; rw [if_pos hl])
      · rw [if_neg hl]
        have hL0 : 0 < L := by
          rcases Nat.eq_zero_or_pos L with q | q
          · subst q
            exact absurd (by decide) hl
          · exact q
        unfold f_X0_drawNoise f_X0_drawBelow
        have hp : ¬ (2 * nI L + 1) ≤ 0 := by
          rw [show (2 : Int32) = nI 2 from rfl, pk_mul, nI_1]
          exact nI_nle (by omega) (by omega)
        have hnz : znz (2 * nI L + 1) = true := by
          rw [show (2 : Int32) = nI 2 from rfl, pk_mul, nI_1]
          simp [znz, nI_ne0 (show 0 < 2 * L + 1 by omega) (show 2 * L + 1 < 2 ^ 31 by omega)]
        rw [if_neg hp, hnz, zg_t]
        simp only [Option.bind_some, f3]
        refine half _ _ (f1.st (by decide)) (by simpa [zi] using f2) ?_ ?_ ?_
        · show (zi w 24 2 (nxs (sdn s0 (nI L) i))).1 24 2 = if nI L ≤ 0 then _ else _
          rw [if_neg hl, ziE]
        · intro k hk
          have := f4 k hk
          simpa [zi] using this
        · unfold zno
          rw [if_neg hl]
          rfl
    · rintro ⟨x, w⟩ ⟨rfl, f1, f2, f3, f4⟩
      simp only at f1 f2 f3 f4
      have e14 := f1.2 14 (by decide)
      refine ⟨w, ?_, f1, f2, f3, f4⟩
      unfold b_X9_sense_8
      simp only [e14, hn, nI_le (Nat.le_refl n) (show n < 2 ^ 31 by omega), if_true]
  obtain ⟨m', e, q⟩ := key
  exact ⟨m', by rw [e]; rfl, q⟩
theorem layRaw_m {m : zM} {W H d : Nat} {s0 : Int32} {L : Nat} {A S U : Nat → Int32} (hw : m.1 68 2 = nI W) (hh : m.1 68 3 = nI H) (w3 : 3 ≤ W) (w8 : W ≤ 8) (h3 : 3 ≤ H) (h8 : H ≤ 8) (hA : ∀ k, k < W * H → m.1 70 k = A k) (hS : ∀ k, k < W * H → zfelt (m.1 75) (m.1 76) (m.1 77) (m.1 78) W k = S k) (hU : ∀ k, k < W * H → m.1 71 k = U k) (hd : d < 3) (h1 : m.1 68 15 = nI d) (h2 : m.1 79 d = nI L) (hL : L ≤ 60) (hs : m.1 68 16 = s0) (hs0 : 0 ≤ s0) :
    ∃ m', f_X12_layRaw m = some m' ∧ Fr [68, 72, 73, 74] m m' ∧ (∀ j, j ≠ 16 → m'.1 68 j = m.1 68 j) ∧ m'.1 68 16 = sdn s0 (nI L) (W * H) ∧ ∀ k, k < W * H → m'.1 72 k = zraw A S s0 (nI L) k ∧ m'.1 73 k = zdel A S U s0 (nI L) k ∧ m'.1 74 k = -1 := by
  have h64 : W * H ≤ 64 := Nat.mul_le_mul w8 h8
  unfold f_X12_layRaw
  rw [h1, zin_nI hd (by decide), zg_t, nI_clamp (by omega), h2]
  have key : ∃ m', zloop (b_X12_layRaw_12 (nI L)) zFU (0, m) = some m' ∧ Fr [68, 72, 73, 74] m m' ∧ (∀ j, j ≠ 16 → m'.1 68 j = m.1 68 j) ∧ m'.1 68 16 = sdn s0 (nI L) (W * H) ∧ ∀ k, k < W * H → m'.1 72 k = zraw A S s0 (nI L) k ∧ m'.1 73 k = zdel A S U s0 (nI L) k ∧ m'.1 74 k = -1 := by
    refine zforQ (fun i s => s.1 = nI i ∧ Fr [68, 72, 73, 74] m s.2 ∧ (∀ j, j ≠ 16 → s.2.1 68 j = m.1 68 j) ∧ s.2.1 68 16 = sdn s0 (nI L) i ∧ ∀ k, k < i → s.2.1 72 k = zraw A S s0 (nI L) k ∧ s.2.1 73 k = zdel A S U s0 (nI L) k ∧ s.2.1 74 k = -1) (W * H) _ ⟨rfl, Fr.refl, fun _ _ => rfl, hs, fun k hk => by omega⟩ ?_ ?_ (by omega)
    · rintro i ⟨x, w⟩ hi ⟨rfl, f1, f2, f3, f4⟩
      simp only at f1 f2 f3 f4
      have ew : w.1 68 2 = nI W := by rw [f2 2 (by decide), hw]
      have eh : w.1 68 3 = nI H := by rw [f2 3 (by decide), hh]
      have e70 := f1.2 70 (by decide)
      have e75 := f1.2 75 (by decide)
      have e76 := f1.2 76 (by decide)
      have e77 := f1.2 77 (by decide)
      have e78 := f1.2 78 (by decide)
      have hz := zin_nI (show i < 64 by omega) (show 64 < 2 ^ 31 by decide)
      have hcl := nI_clamp (show i < 2 ^ 31 by omega)
      have half : ∀ (w' : zM) (nz : Int32), Fr [68, 72, 73, 74] m w' → (∀ j, j ≠ 16 → w'.1 68 j = m.1 68 j) → w'.1 68 16 = sdn s0 (nI L) (i + 1) → (∀ k, k < i → w'.1 72 k = zraw A S s0 (nI L) k ∧ w'.1 73 k = zdel A S U s0 (nI L) k ∧ w'.1 74 k = -1) → nz = zno s0 (nI L) i → ∃ s1 : Int32 × zM, j_X12_layRaw_56 (nI L) (nI i) nz (A i + S i) (nI i) w' = some (.inl s1) ∧ s1.1 = nI (i + 1) ∧ Fr [68, 72, 73, 74] m s1.2 ∧ (∀ j, j ≠ 16 → s1.2.1 68 j = m.1 68 j) ∧ s1.2.1 68 16 = sdn s0 (nI L) (i + 1) ∧ ∀ k, k < i + 1 → s1.2.1 72 k = zraw A S s0 (nI L) k ∧ s1.2.1 73 k = zdel A S U s0 (nI L) k ∧ s1.2.1 74 k = -1 := by
        intro w' nz g1 g2 g3 g4 hnz
        have a71 := g1.2 71 (by decide)
        unfold j_X12_layRaw_56
        simp only [hz, zg_t, hcl, ziE, a71, hU i hi, nI_1]
        have er : A i + S i + nz = zraw A S s0 (nI L) i := by rw [hnz]; rfl
        rw [er]
        have ed : zraw A S s0 (nI L) i - U i = zdel A S U s0 (nI L) i := rfl
        rw [ed]
        refine ⟨_, rfl, rfl, ((g1.st (by decide)).st (by decide)).st (by decide), ?_, ?_, ?_⟩
        · intro j hj
          have := g2 j hj
          simpa [zi] using this
        · simpa [zi] using g3
        · intro k hk
          by_cases hk2 : k = i
          · subst hk2
            simp [zi]
          · have := g4 k (by omega)
            simpa [zi, hk2] using this
      unfold b_X12_layRaw_12
      rw [cells_eq ew eh]
      simp only [Option.bind_some, nI_ge hi (show W * H < 2 ^ 31 by omega), if_false, hz, zg_t, hcl]
      rw [feltAll_eq ew w3 w8 (show i < 64 by omega)]
      simp only [Option.bind_some, e70, e75, e76, e77, e78, hA i hi, hS i hi]
      by_cases hl : nI L ≤ 0
      · rw [if_pos hl]
        exact half w 0 f1 f2 (by rw [f3]; show _ = if nI L ≤ 0 then _ else _; rw [if_pos hl]) f4 (by unfold zno; rw [if_pos hl])
      · rw [if_neg hl]
        have hL0 : 0 < L := by
          rcases Nat.eq_zero_or_pos L with q | q
          · subst q
            exact absurd (by decide) hl
          · exact q
        have hpos := sdn_pos (L := nI L) hs0 i
        obtain ⟨r, hr, d1, d2⟩ := draw_c hL0 hL hpos
        unfold f_X12_draw
        have hnz : znzl (2 * nI L + 1).toInt64 = true := by
          rw [show (2 : Int32) = nI 2 from rfl, pk_mul, nI_1, nI_l (by omega)]
          have : ¬ lN (2 * L + 1) = 0 := fun z => by
            have := (lN_eq (a := 2 * L + 1) (b := 0) (by omega) (by omega)).mp z
            omega
          simp [znzl, this]
        rw [hnz, zg_t]
        simp only [Option.bind_some, f3, d2]
        refine half _ _ (f1.st (by decide)) ?_ ?_ ?_ ?_
        · intro j hj
          have := f2 j hj
          simpa [zi, hj] using this
        · show (zi w 68 16 (nxs (sdn s0 (nI L) i))).1 68 16 = if nI L ≤ 0 then _ else _
          rw [if_neg hl, ziE]
        · intro k hk
          have := f4 k hk
          simpa [zi] using this
        · unfold zno
          rw [if_neg hl, d1]
    · rintro ⟨x, w⟩ ⟨rfl, f1, f2, f3, f4⟩
      simp only at f1 f2 f3 f4
      have ew : w.1 68 2 = nI W := by rw [f2 2 (by decide), hw]
      have eh : w.1 68 3 = nI H := by rw [f2 3 (by decide), hh]
      refine ⟨w, ?_, f1, f2, f3, f4⟩
      unfold b_X12_layRaw_12
      rw [cells_eq ew eh]
      simp only [Option.bind_some, nI_le (Nat.le_refl (W * H)) (show W * H < 2 ^ 31 by omega), if_true]
  obtain ⟨m', e, q⟩ := key
  exact ⟨m', by rw [e]; rfl, q⟩
