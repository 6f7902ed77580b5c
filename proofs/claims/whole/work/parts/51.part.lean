/-! ===== a part of the text, read by both ===== -/
section PRT
variable {mc mm : zM} {n W H : Nat} {i : Nat} {h hc : zH}
theorem most3 (P : PH mc mm n W H) {b c d e f : Int32} : f_X12_mostNow (MK mm 3 b c d e f h) = some (nI (2 * W - 2)) := by
  unfold f_X12_mostNow
  have := P.w3
  simp only [MK47, if_true, MKW, P.mW]
  obtain ⟨k, hk⟩ : ∃ k, W = k + 1 := ⟨W - 1, by omega⟩
  rw [show (2 : Int32) = nI 2 from rfl, pk_mul, show 2 * W = (2 * W - 2) + 2 by omega, ← nI_add, Int32.add_sub_cancel]
  rw [show 2 * W - 2 + 2 - 2 = 2 * W - 2 by omega]
theorem most4 (P : PH mc mm n W H) {b c d e f : Int32} : f_X12_mostNow (MK mm 4 b c d e f h) = some (nI (2 * H - 2)) := by
  unfold f_X12_mostNow
  have := P.h3
  simp only [MK47, if_true, MKH, P.mH, show ¬ (4 : Int32) = 3 by decide, if_false]
  rw [show (2 : Int32) = nI 2 from rfl, pk_mul, show 2 * H = (2 * H - 2) + 2 by omega, ← nI_add, Int32.add_sub_cancel]
  rw [show 2 * H - 2 + 2 - 2 = 2 * H - 2 by omega]
theorem most5 {b c d e f : Int32} : f_X12_mostNow (MK mm 5 b c d e f h) = some (nI 250) := rfl
/-- a part that fails: the model's road ends at the same place, and isn't taken -/
def Pbad (mc mm : zM) (n i : Nat) (hc h : zH) (b c d e tk : Int32) (R : Option (Bool × zM)) (s : Int32) : Prop :=
  ∃ (j : Nat), i ≤ j ∧ j ≤ n ∧ R = some (false, CK mc (nI j) hc) ∧ ∃ (a' b' c' d' e' : Int32), Lp n i (MK mm s b c d e tk h) (nI j, MK mm a' b' c' d' e' tk h) ∧ (j = n → a' ≠ 2 ∧ (a' = 5 → b' < 10))
theorem place_ok (P : PH mc mm n W H) {k : Nat} (hk : k < 5) {d e tk : Int32} (hi : i ≤ n) :
    Pbad mc mm n i hc h (-1) (nI k) d e tk (f_X5_readPlace (nI k) (CK mc (nI i) hc)) 3 ∨
    (∃ (j u v p : Nat), i ≤ j ∧ j ≤ n ∧ u ≤ 2 * W - 2 ∧ v ≤ 2 * H - 2 ∧ 10 ≤ p ∧ p ≤ 250 ∧ f_X5_readPlace (nI k) (CK mc (nI i) hc) = some (true, CK mc (nI j) (hput hc k (nI u) (nI v) (nI p))) ∧ (j < n → ¬ (48 ≤ mm.1 69 j ∧ mm.1 69 j ≤ 57)) ∧ ∀ r, Lp n j (MK mm 5 (nI p) (nI k) (nI u) (nI v) tk h) r → Lp n i (MK mm 3 (-1) (nI k) d e tk h) r) := by
  have hn := P.hn
  have w3 := P.w3
  have w8 := P.w8
  have h3 := P.h3
  have h8 := P.h8
  have e4 : ∀ (x : Int32), (CK mc x hc).1 1 4 = nI (2 * W - 2) := fun x => P.c14
  have e5 : ∀ (x : Int32), (CK mc x hc).1 1 5 = nI (2 * H - 2) := fun x => P.c15
  have nm1 : ∀ w : Nat, w ≤ 250 → ¬ nI w = -1 := fun w hw q => by
    have := nI_pos' (n := w) (by omega)
    rw [q] at this
    exact absurd this (by decide)
  have m1 : ((-1 : Int32) = -1) := rfl
  unfold f_X5_readPlace
  simp only [e4, show (0 : Int32) = nI 0 from rfl]
  -- the first number
  rcases rn_ok (h := h) (hc := hc) P (s := 3) (nf := nI k) (nu := d) (nv := e) (tk := tk) (Or.inl rfl) (M := 2 * W - 2) (lo := 0) (by omega) (by omega) (fun b => most3 P) hi with ⟨j, w, j1, j2, j3, j4⟩ | ⟨j, w, j1, j2, j3, j4, j5, j6, j7⟩ | ⟨j, w, j1, j2, j3, _, j5, j6, j7⟩
  · left
    refine ⟨j, j1, by omega, ?_, 3, w, nI k, d, e, j4, fun q => by omega⟩
    rw [j3]
    rfl
  · left
    have hw : w = -1 := j5.resolve_right (by omega)
    subst hw
    by_cases hj : j < n
    · refine ⟨j, j1, j2, by rw [j3]; rfl, 3, -1, nI k, -1, e, j7 _ (Lp_stop P.m0 hn hj ?_), fun q => by omega⟩
      rw [MK69, tk_nd (Or.inl rfl) (j6 hj), ts3_f (Or.inl rfl)]
    · have : j = n := by omega
      subst this
      exact ⟨j, j1, j2, by rw [j3]; rfl, 3, -1, nI k, d, e, j7 _ (Lp_end P.m0 hn), fun q => ⟨by decide, fun q => absurd q (by decide)⟩⟩
  rw [j3]
  simp only [Option.bind_some, nm1 w (by omega), if_false]
  by_cases hj : j < n ∧ mm.1 69 j = 44
  case neg =>
    left
    have hj' : j < n → ¬ mm.1 69 j = 44 := fun a b => hj ⟨a, b⟩
    rw [take_f P j2 hj' (by decide)]
    by_cases hj2 : j < n
    · refine ⟨j, j1, j2, rfl, 3, nI w, nI k, nI w, e, j7 _ (Lp_stop P.m0 hn hj2 ?_), fun q => by omega⟩
      rw [MK69, tk_nd (Or.inl rfl) (j6 hj2), ts3_f (Or.inr (hj' hj2))]
    · have : j = n := by omega
      subst this
      exact ⟨j, j1, j2, rfl, 3, nI w, nI k, d, e, j7 _ (Lp_end P.m0 hn), fun q => ⟨by decide, fun q => absurd q (by decide)⟩⟩
  obtain ⟨hj, hj44⟩ := hj
  rw [take_t P hj hj44]
  have g1 : ∀ r, Lp n (j + 1) (MK mm 4 (-1) (nI k) (nI w) e tk h) r → Lp n i (MK mm 3 (-1) (nI k) d e tk h) r := fun r hr => j7 r (Lp_step P.m0 hn hj (by rw [MK69, tk_nd (Or.inl rfl) (j6 hj), hj44, ts3_t (nm1 w (by omega))]) hr)
  simp only [Option.bind_some, bi_t, show ¬ (1 : Int32) = nI 0 by decide, if_false, e5]
  clear j3 j6 j7
  -- the second
  rcases rn_ok (h := h) (hc := hc) P (s := 4) (nf := nI k) (nu := nI w) (nv := e) (tk := tk) (Or.inr (Or.inl rfl)) (M := 2 * H - 2) (lo := 0) (by omega) (by omega) (fun b => most4 P) (show j + 1 ≤ n by omega) with ⟨l, x, l1, l2, l3, l4⟩ | ⟨l, x, l1, l2, l3, l4, l5, l6, l7⟩ | ⟨l, x, l1, l2, l3, _, l5, l6, l7⟩
  · left
    refine ⟨l, by omega, by omega, ?_, 4, x, nI k, nI w, e, g1 _ l4, fun q => by omega⟩
    rw [l3]
    rfl
  · left
    have hx : x = -1 := l5.resolve_right (by omega)
    subst hx
    by_cases hl : l < n
    · refine ⟨l, by omega, l2, by rw [l3]; rfl, 4, -1, nI k, nI w, -1, g1 _ (l7 _ (Lp_stop P.m0 hn hl ?_)), fun q => by omega⟩
      rw [MK69, tk_nd (Or.inr (Or.inl rfl)) (l6 hl), ts4_f (Or.inl rfl)]
    · have : l = n := by omega
      subst this
      exact ⟨l, by omega, l2, by rw [l3]; rfl, 4, -1, nI k, nI w, e, g1 _ (l7 _ (Lp_end P.m0 hn)), fun q => ⟨by decide, fun q => absurd q (by decide)⟩⟩
  rw [l3]
  simp only [Option.bind_some, nm1 x (by omega), if_false]
  by_cases hl : l < n ∧ mm.1 69 l = 42
  case neg =>
    left
    have hl' : l < n → ¬ mm.1 69 l = 42 := fun a b => hl ⟨a, b⟩
    rw [take_f P l2 hl' (by decide)]
    by_cases hl2 : l < n
    · refine ⟨l, by omega, l2, rfl, 4, nI x, nI k, nI w, nI x, g1 _ (l7 _ (Lp_stop P.m0 hn hl2 ?_)), fun q => by omega⟩
      rw [MK69, tk_nd (Or.inr (Or.inl rfl)) (l6 hl2), ts4_f (Or.inr (hl' hl2))]
    · have : l = n := by omega
      subst this
      exact ⟨l, by omega, l2, rfl, 4, nI x, nI k, nI w, e, g1 _ (l7 _ (Lp_end P.m0 hn)), fun q => ⟨by decide, fun q => absurd q (by decide)⟩⟩
  obtain ⟨hl, hl42⟩ := hl
  rw [take_t P hl hl42]
  have g2 : ∀ r, Lp n (l + 1) (MK mm 5 (-1) (nI k) (nI w) (nI x) tk h) r → Lp n i (MK mm 3 (-1) (nI k) d e tk h) r := fun r hr => g1 r (l7 r (Lp_step P.m0 hn hl (by rw [MK69, tk_nd (Or.inr (Or.inl rfl)) (l6 hl), hl42, ts4_t (nm1 x (by omega))]) hr))
  simp only [Option.bind_some, bi_t, show ¬ (1 : Int32) = nI 0 by decide, if_false, show (10 : Int32) = nI 10 from rfl, show (250 : Int32) = nI 250 from rfl]
  clear l3 l6 l7
  -- the power
  rcases rn_ok (h := h) (hc := hc) P (s := 5) (nf := nI k) (nu := nI w) (nv := nI x) (tk := tk) (Or.inr (Or.inr rfl)) (M := 250) (lo := 10) (by omega) (by omega) (fun b => most5) (show l + 1 ≤ n by omega) with ⟨q, y, q1, q2, q3, q4⟩ | ⟨q, y, q1, q2, q3, q4, q5, q6, q7⟩ | ⟨q, y, q1, q2, q3, q4, q5, q6, q7⟩
  · left
    refine ⟨q, by omega, by omega, ?_, 5, y, nI k, nI w, nI x, g2 _ q4, fun z => by omega⟩
    rw [q3]
    rfl
  · left
    by_cases hq : q < n
    · refine ⟨q, by omega, q2, by rw [q3]; rfl, 5, y, nI k, nI w, nI x, g2 _ (q7 _ (Lp_stop P.m0 hn hq ?_)), fun z => by omega⟩
      rw [MK69, tk_nd (Or.inr (Or.inr rfl)) (q6 hq), ts5_f (Or.inl q4)]
    · have : q = n := by omega
      subst this
      exact ⟨q, by omega, q2, by rw [q3]; rfl, 5, y, nI k, nI w, nI x, g2 _ (q7 _ (Lp_end P.m0 hn)), fun z => ⟨by decide, fun _ => q4⟩⟩
  · right
    refine ⟨q, w, x, y, by omega, q2, j5, l5, q4, q5, ?_, q6, fun r hr => g2 r (q7 r hr)⟩
    rw [q3]
    unfold f_X2_put
    simp only [Option.bind_some, nm1 y (by omega), if_false, zin_nI hk (show 5 < 2 ^ 31 by decide), zg_t, nI_clamp (show k < 2 ^ 31 by omega), CK_put]
/-- a part that is right -/
def Pgood (mc mm : zM) (n W H i : Nat) (hc h : zH) (b c d e tk : Int32) (R : Option (Bool × zM)) : Prop :=
  ∃ (j k : Nat), i < j ∧ j ≤ n ∧ k < 5 ∧ ((R = some (true, CK mc (nI j) (hoff hc k)) ∧ ∃ (b' d' e' : Int32), ∀ r, Lp n j (MK mm 2 b' (nI k) d' e' tk (if tk = 0 then h else hoff h k)) r → Lp n i (MK mm 0 b c d e tk h) r) ∨
    ∃ (u v p : Nat), u ≤ 2 * W - 2 ∧ v ≤ 2 * H - 2 ∧ 10 ≤ p ∧ p ≤ 250 ∧ R = some (true, CK mc (nI j) (hput hc k (nI u) (nI v) (nI p))) ∧ (j < n → ¬ (48 ≤ mm.1 69 j ∧ mm.1 69 j ≤ 57)) ∧ ∀ r, Lp n j (MK mm 5 (nI p) (nI k) (nI u) (nI v) tk h) r → Lp n i (MK mm 0 b c d e tk h) r)
theorem part_ok (P : PH mc mm n W H) {b c d e tk : Int32} (h01 : ∀ k, k < 5 → h.1 k = 0 ∨ h.1 k = 1) (htk : tk = 0 ∨ tk = 1) (hi : i ≤ n) :
    Pbad mc mm n i hc h b c d e tk (f_X5_readPart (CK mc (nI i) hc)) 0 ∨ Pgood mc mm n W H i hc h b c d e tk (f_X5_readPart (CK mc (nI i) hc)) := by
  have hn := P.hn
  unfold f_X5_readPart
  by_cases hd : i < n ∧ 48 ≤ mm.1 69 i ∧ mm.1 69 i ≤ 52
  case neg =>
    left
    have hcl : ∃ x, f_X5_digitHere (CK mc (nI i) hc) = some x ∧ ¬ (0 ≤ x ∧ x ≤ 4) := by
      by_cases h1 : i < n ∧ 48 ≤ mm.1 69 i ∧ mm.1 69 i ≤ 57
      · refine ⟨_, digit_t P h1.1 h1.2, ?_⟩
        obtain ⟨g, hg, g1, g2⟩ := dig_of h1.2
        rw [g2]
        intro z
        have z4 : g ≤ 4 := (nI_leI (by omega) (by decide)).mp z.2
        refine hd ⟨h1.1, h1.2.1, ?_⟩
        rw [g1]
        exact nI_le (b := 52) (by omega) (by decide)
      · exact ⟨-1, digit_f P hi (fun a z => h1 ⟨a, z⟩), by decide⟩
    obtain ⟨x, hx1, hx2⟩ := hcl
    rw [hx1]
    simp only [Option.bind_some, w11, hx2, decide_false, bi_f, if_true]
    by_cases h1 : i < n
    · refine ⟨i, Nat.le_refl _, hi, rfl, 0, b, mm.1 69 i - 48, d, e, Lp_stop P.m0 hn h1 ?_, fun q => by omega⟩
      rw [MK69, tk0_f (fun z => hd ⟨h1, z⟩)]
    · have : i = n := by omega
      subst this
      exact ⟨i, Nat.le_refl _, hi, rfl, 0, b, c, d, e, Lp_end P.m0 hn, fun q => ⟨by decide, fun z => absurd z (by decide)⟩⟩
  obtain ⟨hin, hd⟩ := hd
  have hd57 : 48 ≤ mm.1 69 i ∧ mm.1 69 i ≤ 57 := ⟨hd.1, Int32.le_trans hd.2 (by decide)⟩
  obtain ⟨k, hk9, k1, k2⟩ := dig_of hd57
  have hk : k < 5 := by
    have := hd.2
    rw [k1] at this
    have := (nI_leI (a := 48 + k) (b := 52) (by omega) (by decide)).mp this
    omega
  have e2 : (CK mc (nI i) hc).1 1 3 = nI i := rfl
  have hw : (0 : Int32) ≤ nI k ∧ nI k ≤ 4 := ⟨nI_pos' (by omega), nI_le (b := 4) (by omega) (by decide)⟩
  have g1 : ∀ r, Lp n (i + 1) (MK mm 1 (-1) (nI k) d e tk h) r → Lp n i (MK mm 0 b c d e tk h) r := fun r hr => Lp_step P.m0 hn hin (by rw [MK69, tk0_t hd, k2]) hr
  rw [digit_t P hin hd57, k2]
  simp only [Option.bind_some, w11, hw, and_self, decide_true, bi_t, show ¬ (1 : Int32) = 0 by decide, if_false, e2, nI_1, CK_at]
  by_cases ha : i + 1 < n ∧ mm.1 69 (i + 1) = 45
  · right
    obtain ⟨ha, ha45⟩ := ha
    rw [take_t P ha ha45]
    simp only [Option.bind_some, bi_t, show ¬ (1 : Int32) = 0 by decide, if_false, zin_nI hk (show 5 < 2 ^ 31 by decide), zg_t, nI_clamp (show k < 2 ^ 31 by omega), CK_off]
    exact ⟨i + 1 + 1, k, by omega, by omega, hk, Or.inl ⟨rfl, -1, d, e, fun r hr => g1 r (Lp_step P.m0 hn ha (by rw [MK69, ha45, tk1_off hk (h01 k hk) htk]) hr)⟩⟩
  have ha' : i + 1 < n → ¬ mm.1 69 (i + 1) = 45 := fun a z => ha ⟨a, z⟩
  rw [take_f P (show i + 1 ≤ n by omega) ha' (by decide)]
  simp only [Option.bind_some, bi_f, if_true]
  by_cases hb : i + 1 < n ∧ mm.1 69 (i + 1) = 64
  case neg =>
    left
    have hb' : i + 1 < n → ¬ mm.1 69 (i + 1) = 64 := fun a z => hb ⟨a, z⟩
    rw [take_f P (show i + 1 ≤ n by omega) hb' (by decide)]
    simp only [Option.bind_some, bi_f, if_true]
    by_cases h1 : i + 1 < n
    · refine ⟨i + 1, by omega, by omega, rfl, 1, -1, nI k, d, e, g1 _ (Lp_stop P.m0 hn h1 ?_), fun q => by omega⟩
      rw [MK69, tk1_f (ha' h1) (hb' h1)]
    · have : i + 1 = n := by omega
      subst this
      exact ⟨i + 1, by omega, by omega, rfl, 1, -1, nI k, d, e, g1 _ (Lp_end P.m0 hn), fun q => ⟨by decide, fun z => absurd z (by decide)⟩⟩
  obtain ⟨hb, hb64⟩ := hb
  rw [take_t P hb hb64]
  simp only [Option.bind_some, bi_t, show ¬ (1 : Int32) = 0 by decide, if_false]
  have g2 : ∀ r, Lp n (i + 1 + 1) (MK mm 3 (-1) (nI k) d e tk h) r → Lp n i (MK mm 0 b c d e tk h) r := fun r hr => g1 r (Lp_step P.m0 hn hb (by rw [MK69, hb64, tk1_at]) hr)
  rcases place_ok (h := h) (hc := hc) P hk (d := d) (e := e) (tk := tk) (show i + 1 + 1 ≤ n by omega) with ⟨j, j1, j2, j3, a', b', c', d', e', j4, j5⟩ | ⟨j, u, v, p, j1, j2, j3, j4, j5, j6, j7, j8, j9⟩
  · left
    rw [j3]
    exact ⟨j, by omega, j2, rfl, a', b', c', d', e', g2 _ j4, j5⟩
  · right
    rw [j7]
    exact ⟨j, k, by omega, j2, hk, Or.inr ⟨u, v, p, j3, j4, j5, j6, rfl, j8, fun r hr => g2 r (j9 r hr)⟩⟩
end PRT
