/-! ===== a frame: bounds; two memories as one ===== -/
theorem addI {a b : Int32} (h1 : -2147483648 ≤ a.toInt + b.toInt) (h2 : a.toInt + b.toInt < 2147483648) : (a + b).toInt = a.toInt + b.toInt := by
  rw [Int32.toInt_add]
  exact Int.bmod_eq_of_le (by omega) (by omega)
theorem subI {a b : Int32} (h1 : -2147483648 ≤ a.toInt - b.toInt) (h2 : a.toInt - b.toInt < 2147483648) : (a - b).toInt = a.toInt - b.toInt := by
  rw [Int32.toInt_sub]
  exact Int.bmod_eq_of_le (by omega) (by omega)
theorem felt1_bd {o u v p : Int32} {W H x y : Nat} (h01 : o = 0 ∨ o = 1) (h1 : o = 1 → ∃ a b q : Nat, a ≤ 2 * W - 2 ∧ b ≤ 2 * H - 2 ∧ 10 ≤ q ∧ q ≤ 250 ∧ u = nI a ∧ v = nI b ∧ p = nI q) (w8 : W ≤ 8) (h8 : H ≤ 8) (hx : x ≤ 7) (hy : y ≤ 7) : ∃ f : Nat, f ≤ 250 ∧ zfelt1 o u v p (nI x) (nI y) = nI f := by
  unfold zfelt1
  rcases h01 with h | h
  · exact ⟨0, by omega, if_pos h⟩
  · obtain ⟨a, b, q, ha, hb, _, hq, rfl, rfl, rfl⟩ := h1 h
    rw [h, if_neg (by decide), show (2 : Int32) = nI 2 from rfl, pk_mul, pk_mul, ad_sq, ad_sq, nI_add, show (12 : Int32) = nI 12 from rfl, pk_mul]
    have k1 : adN (2 * x) a ≤ 14 := by unfold adN; split <;> omega
    have k2 : adN (2 * y) b ≤ 14 := by unfold adN; split <;> omega
    have k3 := Nat.mul_le_mul k1 k1
    have k4 := Nat.mul_le_mul k2 k2
    have k5 : adN (2 * x) a * adN (2 * x) a + adN (2 * y) b * adN (2 * y) b ≤ 392 := by omega
    generalize adN (2 * x) a * adN (2 * x) a + adN (2 * y) b * adN (2 * y) b = s at k5 ⊢
    by_cases c : 12 * s ≤ q
    · rw [pk_sub c]
      by_cases c2 : 0 < nI (q - 12 * s)
      · exact ⟨q - 12 * s, by omega, by rw [if_pos c2]⟩
      · exact ⟨0, by omega, by rw [if_neg c2]; rfl⟩
    · by_cases c3 : 12 * s < 2 ^ 30
      · have := pk_sneg (a := q) (b := 12 * s) c3 (by omega)
        refine ⟨0, by omega, ?_⟩
        rw [if_neg (fun z => absurd (Int32.lt_trans z this) (by decide))]
        rfl
      · omega
theorem felt_bd {W H : Nat} {m : zM} (h : RHd W H m) (w3 : 3 ≤ W) (w8 : W ≤ 8) (h8 : H ≤ 8) {c : Nat} (hc : c < W * H) : ∃ f : Nat, f ≤ 1250 ∧ zfelt (m.1 75) (m.1 76) (m.1 77) (m.1 78) W c = nI f := by
  have cm : c % W ≤ 7 := by have := Nat.mod_lt c (show 0 < W by omega); omega
  have cd : c / W ≤ 7 := by
    have : c / W < H := Nat.div_lt_of_lt_mul hc
    omega
  have : ∀ k, k ≤ 5 → ∃ f : Nat, f ≤ 250 * k ∧ zfeltN (m.1 75) (m.1 76) (m.1 77) (m.1 78) (nI (c % W)) (nI (c / W)) k = nI f := by
    intro k
    induction k with
    | zero => exact fun _ => ⟨0, by omega, rfl⟩
    | succ k ih =>
      intro hk
      obtain ⟨f, f1, f2⟩ := ih (by omega)
      obtain ⟨q1, q2⟩ := h.2 k (by omega)
      obtain ⟨g, g1, g2⟩ := felt1_bd q1 q2 w8 h8 cm cd
      refine ⟨f + g, by omega, ?_⟩
      show zfeltN _ _ _ _ _ _ k + zfelt1 _ _ _ _ _ _ = _
      rw [f2, g2, nI_add]
  obtain ⟨f, f1, f2⟩ := this 5 (by omega)
  exact ⟨f, by omega, f2⟩
theorem zno_bd {s0 : Int32} {L : Nat} (hL : L ≤ 60) (hs : 0 ≤ s0) (k : Nat) : -60 ≤ (zno s0 (nI L) k).toInt ∧ (zno s0 (nI L) k).toInt ≤ 60 := by
  unfold zno
  by_cases h : nI L ≤ 0
  · rw [if_pos h]
    decide
  · rw [if_neg h]
    have h0 : 0 < L := by
      rcases Nat.eq_zero_or_pos L with q | q
      · subst q
        exact absurd (by decide) h
      · exact q
    obtain ⟨r, r1, r2, _⟩ := draw_c h0 hL (sdn_pos (L := nI L) hs k)
    rw [r2, pk_sub_toInt (by omega) (by omega)]
    omega
theorem raw_bd {A S U : Nat → Int32} {s0 : Int32} {L k f : Nat} (hL : L ≤ 60) (hs : 0 ≤ s0) (hA0 : 0 ≤ A k) (hA1 : A k ≤ 999) (hf : f ≤ 1250) (hS : S k = nI f) (hU0 : -3000 ≤ U k) (hU1 : U k ≤ 3000) : -60 ≤ (zraw A S s0 (nI L) k).toInt ∧ (zraw A S s0 (nI L) k).toInt ≤ 2309 ∧ (zdel A S U s0 (nI L) k).toInt = (zraw A S s0 (nI L) k).toInt - (U k).toInt := by
  have n := zno_bd hL hs k
  rw [le32, show (0 : Int32).toInt = 0 by decide] at hA0
  rw [le32, show (999 : Int32).toInt = 999 by decide] at hA1
  rw [le32, show (-3000 : Int32).toInt = -3000 by decide] at hU0
  rw [le32, show (3000 : Int32).toInt = 3000 by decide] at hU1
  have ef := nI_toInt (n := f) (by omega)
  have e1 : (A k + S k).toInt = (A k).toInt + f := by
    rw [hS, addI (by rw [ef]; omega) (by rw [ef]; omega), ef]
  have e2 : (zraw A S s0 (nI L) k).toInt = (A k).toInt + f + (zno s0 (nI L) k).toInt := by
    unfold zraw
    rw [addI (by rw [e1]; omega) (by rw [e1]; omega), e1]
  refine ⟨by omega, by omega, ?_⟩
  unfold zdel
  exact subI (by omega) (by omega)
/-- the drift doesn't leave the bounds -/
theorem drB_bd {P : Nat → Bool} {R U : Nat → Int32} {x : Int32} {W H k : Nat} (h0 : 0 ≤ x) (h1 : x ≤ 50) (r0 : -60 ≤ (R k).toInt) (r1 : (R k).toInt ≤ 2309) (u0 : -3000 ≤ U k) (u1 : U k ≤ 3000) : -3000 ≤ zdrB P R U x W H k ∧ zdrB P R U x W H k ≤ 3000 := by
  unfold zdrB
  cases near P W H k with
  | true => exact ⟨u0, u1⟩
  | false =>
    simp only [Bool.false_eq_true, if_false]
    rw [le32, show (0 : Int32).toInt = 0 by decide] at h0
    rw [le32, show (50 : Int32).toInt = 50 by decide] at h1
    rw [le32, show (-3000 : Int32).toInt = -3000 by decide] at u0 ⊢
    rw [le32, show (3000 : Int32).toInt = 3000 by decide] at u1 ⊢
    have eg : (R k - U k).toInt = (R k).toInt - (U k).toInt := subI (by omega) (by omega)
    have en : (-x).toInt = -x.toInt := by
      rw [Int32.toInt_neg]
      exact Int.bmod_eq_of_le (by omega) (by omega)
    unfold zdr
    by_cases c1 : R k - U k ≤ x
    · rw [if_pos c1]
      rw [le32, eg] at c1
      by_cases c2 : -x ≤ R k - U k
      · rw [if_pos c2]
        rw [le32, eg, en] at c2
        rw [addI (by rw [eg]; omega) (by rw [eg]; omega), eg]
        omega
      · rw [if_neg c2]
        rw [le32, eg, en] at c2
        rw [addI (by rw [en]; omega) (by rw [en]; omega), en]
        omega
    · rw [if_neg c1]
      rw [le32, eg] at c1
      rw [addI (by omega) (by omega)]
      omega
/-- the class's cells of one memory, the model's of the other -/
def cmb (mc mm : zM) : zM := (fun c => if c < 68 then mc.1 c else mm.1 c, mc.2)
theorem cmb_l {mc mm : zM} {c : Nat} (h : c < 68) : (cmb mc mm).1 c = mc.1 c := if_pos h
theorem cmb_r {mc mm : zM} {c : Nat} (h : 68 ≤ c) : (cmb mc mm).1 c = mm.1 c := if_neg (by omega)
theorem cmb_2 {mc mm : zM} : (cmb mc mm).2 = mc.2 := rfl
theorem cmb_self {m : zM} : cmb m m = m := by
  unfold cmb
  refine Prod.ext ?_ rfl
  funext c
  exact ite_self _
theorem cmb_of {mc mm : zM} (h1 : ∀ c, c < 68 → mm.1 c = mc.1 c) (h2 : mm.2 = mc.2) : cmb mc mm = mm := by
  unfold cmb
  refine Prod.ext ?_ h2.symm
  funext c
  show (if c < 68 then mc.1 c else mm.1 c) = mm.1 c
  by_cases h : c < 68
  · rw [if_pos h, h1 c h]
  · rw [if_neg h]
theorem cmb_mm {mc mm mm' : zM} (h : ∀ c, 68 ≤ c → mm'.1 c = mm.1 c) : cmb mc mm' = cmb mc mm := by
  unfold cmb
  refine Prod.ext ?_ rfl
  funext c
  show (if c < 68 then mc.1 c else mm'.1 c) = if c < 68 then mc.1 c else mm.1 c
  by_cases q : c < 68
  · rw [if_pos q, if_pos q]
  · rw [if_neg q, if_neg q, h c (by omega)]
theorem RSp_of {mc mm : zM} {S : Nat} (h6 : S ≤ 6) (h1 : mc.1 44 4 = nI S) (h2 : mm.1 68 20 = nI S) (h3 : ∀ s, s < S → SE mc mm s ∧ SB mm s) : RSp (cmb mc mm) := by
  refine ⟨S, h6, ?_, ?_, fun s hs => ?_⟩
  · rw [cmb_l (by decide)]; exact h1
  · rw [cmb_r (by decide)]; exact h2
  · obtain ⟨a, b⟩ := h3 s hs
    unfold SE at a
    unfold SB at b
    rw [cmb_l (show 46 + s < 68 by omega), cmb_r (show 68 ≤ 81 by decide), cmb_r (show 68 ≤ 82 by decide), cmb_r (show 68 ≤ 83 by decide), cmb_r (show 68 ≤ 84 by decide), cmb_r (show 68 ≤ 85 by decide), cmb_r (show 68 ≤ 86 by decide)]
    exact ⟨a, b⟩
theorem RTk_of {mc mm : zM} {T : Nat} (h6 : T ≤ 6) (h1 : mc.1 60 1 = nI T) (h2 : mm.1 68 27 = nI T) (p : ∀ j, j < 6 → mc.2.2 61 j < 6) (h3 : ∀ j, j < T → TE mc mm (mc.2.2 61 j) j ∧ TB mm j) : RTk (cmb mc mm) := by
  refine ⟨T, h6, ?_, ?_, fun j hj => ?_⟩
  · rw [cmb_l (by decide)]; exact h1
  · rw [cmb_r (by decide)]; exact h2
  · obtain ⟨a, b⟩ := h3 j hj
    have := p j (by omega)
    unfold TE at a
    unfold TB at b
    rw [cmb_2, cmb_l (show 62 + mc.2.2 61 j < 68 by omega), cmb_r (show 68 ≤ 87 by decide), cmb_r (show 68 ≤ 88 by decide), cmb_r (show 68 ≤ 89 by decide), cmb_r (show 68 ≤ 90 by decide), cmb_r (show 68 ≤ 91 by decide), cmb_r (show 68 ≤ 92 by decide), cmb_r (show 68 ≤ 93 by decide), cmb_r (show 68 ≤ 94 by decide), cmb_r (show 68 ≤ 95 by decide)]
    exact ⟨a, b⟩
theorem RTk_to {mc mm : zM} (h : RTk (cmb mc mm)) (p : ∀ j, j < 6 → mc.2.2 61 j < 6) : ∃ T, T ≤ 6 ∧ mc.1 60 1 = nI T ∧ mm.1 68 27 = nI T ∧ ∀ j, j < T → TE mc mm (mc.2.2 61 j) j ∧ TB mm j := by
  obtain ⟨T, h6, h1, h2, h3⟩ := h
  rw [cmb_l (by decide)] at h1
  rw [cmb_r (by decide)] at h2
  refine ⟨T, h6, h1, h2, fun j hj => ?_⟩
  have := p j (by omega)
  have q := h3 j hj
  rw [cmb_2, cmb_l (show 62 + mc.2.2 61 j < 68 by omega), cmb_r (show 68 ≤ 87 by decide), cmb_r (show 68 ≤ 88 by decide), cmb_r (show 68 ≤ 89 by decide), cmb_r (show 68 ≤ 90 by decide), cmb_r (show 68 ≤ 91 by decide), cmb_r (show 68 ≤ 92 by decide), cmb_r (show 68 ≤ 93 by decide), cmb_r (show 68 ≤ 94 by decide), cmb_r (show 68 ≤ 95 by decide)] at q
  unfold TE TB
  exact q
theorem RJ2_to {N : Nat} {mc mm : zM} {t : Nat} (h : RJ2 N mc mm) (hN : N ≤ 240 * t) : RJ t (cmb mc mm) := ⟨N, hN, h⟩
theorem RJ_to {t : Nat} {m : zM} (h : RJ t m) : ∃ N, N ≤ 240 * t ∧ RJ2 N m m := h
