/-! ===== a frame: the peaks ===== -/
def blk (W c : Nat) : Nat := c % W / 2 + 4 * (c / W / 2)
def ckBL : Bool := allLt 6 fun W' => allLt 6 fun H' => allLt ((W' + 3) * (H' + 3)) fun c => decide (blk (W' + 3) c < 16) && allLt ((W' + 3) * (H' + 3)) fun x => !(decide (blk (W' + 3) c = blk (W' + 3) x) && decide (c ≠ x)) || (NB (W' + 3) (H' + 3) c).contains x
theorem ckBL_ok : ckBL = true := by decide +kernel
theorem blk_ok {W H : Nat} (w3 : 3 ≤ W) (w8 : W ≤ 8) (h3 : 3 ≤ H) (h8 : H ≤ 8) {c : Nat} (hc : c < W * H) : blk W c < 16 ∧ ∀ x, x < W * H → blk W c = blk W x → c ≠ x → x ∈ NB W H c := by
  obtain ⟨W', rfl⟩ : ∃ k, W = k + 3 := ⟨W - 3, by omega⟩
  obtain ⟨H', rfl⟩ : ∃ k, H = k + 3 := ⟨H - 3, by omega⟩
  have := allLt_spec (allLt_spec (allLt_spec ckBL_ok (i := W') (by omega)) (i := H') (by omega)) hc
  rw [Bool.and_eq_true, decide_eq_true_eq] at this
  refine ⟨this.1, fun x hx h1 h2 => ?_⟩
  have q := allLt_spec this.2 hx
  simpa [h1, h2] using q
theorem pigeon : ∀ (N s : Nat) (f : Nat → Nat), (∀ i, i < s → f i < N) → (∀ i j, i < s → j < s → f i = f j → i = j) → s ≤ N
  | 0, s, f, h, _ => by
    cases s with
    | zero => exact Nat.le_refl _
    | succ s => exact absurd (h 0 (by omega)) (by omega)
  | N + 1, s, f, h, hi => by
    by_cases hx : ∃ i, i < s ∧ f i = N
    · obtain ⟨i0, h0, e0⟩ := hx
      cases s with
      | zero => omega
      | succ s =>
        have := pigeon N s (fun i => if i = i0 then f s else f i) ?_ ?_
        · omega
        · intro i his
          show (if i = i0 then f s else f i) < N
          by_cases q : i = i0
          · rw [if_pos q]
            have := h s (by omega)
            have : f s ≠ N := fun z => by
              have := hi s i0 (by omega) h0 (z.trans e0.symm)
              omega
            omega
          · rw [if_neg q]
            have := h i (by omega)
            have : f i ≠ N := fun z => q (hi i i0 (by omega) h0 (z.trans e0.symm))
            omega
        · intro i j his hjs hij
          by_cases q1 : i = i0 <;> by_cases q2 : j = i0
          · omega
          · rw [if_pos q1, if_neg q2] at hij
            have := hi s j (by omega) (by omega) hij
            omega
          · rw [if_neg q1, if_pos q2] at hij
            have := hi i s (by omega) (by omega) hij
            omega
          · rw [if_neg q1, if_neg q2] at hij
            exact hi i j (by omega) (by omega) hij
    · have := pigeon N s f (fun i his => by
        have a := h i his
        have b : f i ≠ N := fun z => hx ⟨i, his, z⟩
        omega) hi
      omega
/-- the first of a kind, in order -/
def lst (Q : Nat → Bool) (i : Nat) : List Nat := (List.range i).filter Q
theorem lst_t {Q : Nat → Bool} {i : Nat} (h : Q i = true) : lst Q (i + 1) = lst Q i ++ [i] := by
  unfold lst
  rw [List.range_succ, List.filter_append]
  simp [h]
theorem lst_f {Q : Nat → Bool} {i : Nat} (h : Q i = false) : lst Q (i + 1) = lst Q i := by
  unfold lst
  rw [List.range_succ, List.filter_append]
  simp [h]
theorem lst_mono {Q : Nat → Bool} {i : Nat} : ∀ d, (lst Q i).length ≤ (lst Q (i + d)).length
  | 0 => Nat.le_refl _
  | d + 1 => by
    have := lst_mono (Q := Q) (i := i) d
    cases h : Q (i + d) with
    | true =>
      rw [← Nat.add_assoc, lst_t h, List.length_append]
      simp
      omega
    | false =>
      rw [← Nat.add_assoc, lst_f h]
      exact this
theorem lst_le {Q : Nat → Bool} {i j : Nat} (h : i ≤ j) : (lst Q i).length ≤ (lst Q j).length := by
  obtain ⟨d, rfl⟩ : ∃ d, j = i + d := ⟨j - i, by omega⟩
  exact lst_mono d
theorem lst_lt {Q : Nat → Bool} {i j : Nat} (h : i < j) (hq : Q i = true) : (lst Q i).length < (lst Q j).length := by
  have := lst_le (Q := Q) (show i + 1 ≤ j by omega)
  rw [lst_t hq, List.length_append] at this
  simp at this
  omega
theorem getD_app_lt {l : List Nat} {a j : Nat} (h : j < l.length) : (l ++ [a]).getD j 0 = l.getD j 0 := by
  simp [List.getD, List.getElem?_append_left h]
theorem getD_app_eq {l : List Nat} {a : Nat} : (l ++ [a]).getD l.length 0 = a := by
  simp [List.getD]
theorem lst_at {Q : Nat → Bool} : ∀ (n j : Nat), j < (lst Q n).length → (lst Q n).getD j 0 < n ∧ Q ((lst Q n).getD j 0) = true ∧ (lst Q ((lst Q n).getD j 0)).length = j
  | 0, j, h => by simp [lst] at h
  | n + 1, j, h => by
    cases hq : Q n with
    | true =>
      rw [lst_t hq] at h ⊢
      by_cases hj : j < (lst Q n).length
      · rw [getD_app_lt hj]
        have := lst_at n j hj
        exact ⟨by omega, this.2⟩
      · have : j = (lst Q n).length := by
          rw [List.length_append] at h
          simp at h
          omega
        subst this
        rw [getD_app_eq]
        exact ⟨by omega, hq, rfl⟩
    | false =>
      rw [lst_f hq] at h ⊢
      have := lst_at n j h
      exact ⟨by omega, this.2⟩
theorem lst_ix {Q : Nat → Bool} : ∀ (n c : Nat), c < n → Q c = true → (lst Q c).length < (lst Q n).length ∧ (lst Q n).getD (lst Q c).length 0 = c
  | 0, c, h, _ => by omega
  | n + 1, c, h, hc => by
    by_cases e : c = n
    · subst e
      refine ⟨lst_lt (by omega) hc, ?_⟩
      rw [lst_t hc, getD_app_eq]
    · have := lst_ix n c (by omega) hc
      cases hq : Q n with
      | true =>
        rw [lst_t hq, getD_app_lt this.1, List.length_append]
        exact ⟨by omega, this.2⟩
      | false =>
        rw [lst_f hq]
        exact this
theorem lst_inc {Q : Nat → Bool} {n i j : Nat} (hij : i < j) (hj : j < (lst Q n).length) : (lst Q n).getD i 0 < (lst Q n).getD j 0 := by
  have a := lst_at (Q := Q) n i (by omega)
  have b := lst_at (Q := Q) n j hj
  refine Nat.lt_of_not_le fun q => ?_
  have := lst_le (Q := Q) q
  omega
def Qp (P : Nat → Bool) (D : Nat → Int32) (W H c : Nat) : Bool := P c && decide (up D W H c = c)
section PKS
variable {P : Nat → Bool} {D : Nat → Int32} {W H : Nat}
theorem peaks16 (w3 : 3 ≤ W) (w8 : W ≤ 8) (h3 : 3 ≤ H) (h8 : H ≤ 8) : (lst (Qp P D W H) (W * H)).length ≤ 16 := by
  refine pigeon 16 _ (fun j => blk W ((lst (Qp P D W H) (W * H)).getD j 0)) (fun j hj => (blk_ok w3 w8 h3 h8 (lst_at _ j hj).1).1) ?_
  intro i j hi hj e
  have a := lst_at _ i hi
  have b := lst_at _ j hj
  have hpk : ∀ c, Qp P D W H c = true → up D W H c = c := fun c hc => by
    unfold Qp at hc
    rw [Bool.and_eq_true, decide_eq_true_eq] at hc
    exact hc.2
  by_cases q : (lst (Qp P D W H) (W * H)).getD i 0 = (lst (Qp P D W H) (W * H)).getD j 0
  · rw [← a.2.2, ← b.2.2, q]
  · have n1 := (blk_ok w3 w8 h3 h8 a.1).2 _ b.1 e q
    have n2 := (blk_ok w3 w8 h3 h8 b.1).2 _ a.1 e.symm (Ne.symm q)
    have t1 := up_top (hpk _ a.2.1) n1
    have t2 := up_top (hpk _ b.2.1) n2
    have nf : ∀ p q, hiB D p q = false ↔ ¬ ((D p).toInt < (D q).toInt ∨ ((D p).toInt = (D q).toInt ∧ q < p)) := fun p q => by
      rw [← hi_iff]
      simp
    rw [nf] at t1 t2
    omega
theorem findPeaks_c {m : zM} (g : RGr W H m) (hD : ∀ k, k < W * H → m.1 36 k = D k) (hT : ∀ k, k < W * H → (m.1 37 k = 0 ↔ P k = false)) : ∃ m', f_X3_findPeaks m = some m' ∧ Fr [38, 39, 40, 41, 42] m m' ∧ m'.1 38 4 = nI (lst (Qp P D W H) (W * H)).length ∧ (∀ j, j < (lst (Qp P D W H) (W * H)).length → m'.1 39 j = nI ((lst (Qp P D W H) (W * H)).getD j 0) ∧ m'.1 40 j = 1) ∧ (∀ k, k < W * H → m'.1 41 k = if Qp P D W H k then nI (lst (Qp P D W H) k).length else -1) ∧ ∀ k, k < W * H → P k = true → m'.1 42 k = nI (up D W H k) := by
  obtain ⟨_, w3, w8, h3, h8, _, _, q3, _⟩ := id g
  have h64 : W * H ≤ 64 := Nat.mul_le_mul w8 h8
  have h16 := peaks16 (P := P) (D := D) w3 w8 h3 h8
  unfold f_X3_findPeaks
  have key : ∃ m', zloop b_X3_findPeaks_7 zFU (0, zi m 38 4 0) = some m' ∧ Fr [38, 39, 40, 41, 42] m m' ∧ m'.1 38 4 = nI (lst (Qp P D W H) (W * H)).length ∧ (∀ j, j < (lst (Qp P D W H) (W * H)).length → m'.1 39 j = nI ((lst (Qp P D W H) (W * H)).getD j 0) ∧ m'.1 40 j = 1) ∧ (∀ k, k < W * H → m'.1 41 k = if Qp P D W H k then nI (lst (Qp P D W H) k).length else -1) ∧ ∀ k, k < W * H → P k = true → m'.1 42 k = nI (up D W H k) := by
    refine zforQ (fun i s => s.1 = nI i ∧ Fr [38, 39, 40, 41, 42] m s.2 ∧ s.2.1 38 4 = nI (lst (Qp P D W H) i).length ∧ (∀ j, j < (lst (Qp P D W H) i).length → s.2.1 39 j = nI ((lst (Qp P D W H) i).getD j 0) ∧ s.2.1 40 j = 1) ∧ (∀ k, k < i → s.2.1 41 k = if Qp P D W H k then nI (lst (Qp P D W H) k).length else -1) ∧ ∀ k, k < i → P k = true → s.2.1 42 k = nI (up D W H k)) (W * H) _ ⟨rfl, Fr.refl.st (by decide), by simp [zi, lst]; rfl, fun j hj => by simp [lst] at hj, fun k hk => by omega, fun k hk => by omega⟩ ?_ ?_ (by omega)
    · rintro i ⟨y, w⟩ hi ⟨rfl, f1, f2, f3, f4, f5⟩
      simp only at f1 f2 f3 f4 f5
      have e14 := f1.2 14 (by decide)
      have e36 := f1.2 36 (by decide)
      have e37 := f1.2 37 (by decide)
      have hz := zin_nI (show i < 64 by omega) (show 64 < 2 ^ 31 by decide)
      have hcl := nI_clamp (show i < 2 ^ 31 by omega)
      have gw : RGr W H (zi w 41 i (-1)) := g.fr (f1.st (by decide)) (by decide) (by decide) (by decide) (by decide) (by decide) (by decide) (by decide)
      have hst := steep_c (D := D) gw (fun k hk => by rw [zi_ne (by decide), e36]; exact hD k hk) hi
      unfold b_X3_findPeaks_7 j_X3_findPeaks_108
      simp only [e14, q3, nI_ge hi (show W * H < 2 ^ 31 by omega), if_false, hz, zg_t, hcl, hst, Option.bind_some, e37, ziE, nI_1, f2]
      cases hp : P i with
      | false =>
        have hQ : Qp P D W H i = false := by unfold Qp; rw [hp]; rfl
        rw [if_pos ((hT i hi).mpr hp)]
        refine ⟨_, rfl, rfl, f1.st (by decide), ?_, ?_, ?_, ?_⟩
        · rw [lst_f hQ]
          simpa [zi] using f2
        · intro j hj
          rw [lst_f hQ] at hj ⊢
          have := f3 j hj
          simpa [zi] using this
        · intro k hk
          by_cases hk2 : k = i
          · subst hk2
            simp [zi, hQ]
          · have := f4 k (by omega)
            simpa [zi, hk2] using this
        · intro k hk hpk
          have hk2 : k ≠ i := fun z => by rw [z, hp] at hpk; cases hpk
          have := f5 k (by omega) hpk
          simpa [zi] using this
      | true =>
        rw [if_neg (fun z => Bool.noConfusion (((hT i hi).mp z).symm.trans hp))]
        by_cases hu : up D W H i = i
        · have hQ : Qp P D W H i = true := by unfold Qp; rw [hp, hu]; simp
          have hlt := lst_lt (Q := Qp P D W H) hi hQ
          rw [hu, if_pos rfl, if_neg (show ¬ (16 : Int32) ≤ nI (lst (Qp P D W H) i).length from nI_ge (b := 16) (show (lst (Qp P D W H) i).length < 16 by omega) (by decide)), zin_nI (show (lst (Qp P D W H) i).length < 16 by omega) (by decide), zg_t, zg_t, nI_clamp (show (lst (Qp P D W H) i).length < 2 ^ 31 by omega)]
          refine ⟨_, rfl, rfl, (((((f1.st (by decide)).st (by decide)).st (by decide)).st (by decide)).st (by decide)).st (by decide), ?_, ?_, ?_, ?_⟩
          · rw [lst_t hQ, List.length_append]
            simp [zi]
          · intro j hj
            rw [lst_t hQ] at hj ⊢
            by_cases hj2 : j = (lst (Qp P D W H) i).length
            · subst hj2
              rw [getD_app_eq]
              simp [zi]
            · have hj3 : j < (lst (Qp P D W H) i).length := by
                rw [List.length_append] at hj
                simp at hj
                omega
              rw [getD_app_lt hj3]
              have := f3 j hj3
              simpa [zi, hj2] using this
          · intro k hk
            by_cases hk2 : k = i
            · subst hk2
              simp [zi, hQ]
            · have := f4 k (by omega)
              simpa [zi, hk2] using this
          · intro k hk hpk
            by_cases hk2 : k = i
            · subst hk2
              simp [zi, hu]
            · have := f5 k (by omega) hpk
              simpa [zi, hk2] using this
        · have hQ : Qp P D W H i = false := by unfold Qp; rw [hp]; simp [hu]
          have hul := up_lt (D := D) w3 w8 h3 h8 hi
          rw [if_neg (nI_ne (by omega) (by omega) hu)]
          refine ⟨_, rfl, rfl, (f1.st (by decide)).st (by decide), ?_, ?_, ?_, ?_⟩
          · rw [lst_f hQ]
            simpa [zi] using f2
          · intro j hj
            rw [lst_f hQ] at hj ⊢
            have := f3 j hj
            simpa [zi] using this
          · intro k hk
            by_cases hk2 : k = i
            · subst hk2
              simp [zi, hQ]
            · have := f4 k (by omega)
              simpa [zi, hk2] using this
          · intro k hk hpk
            by_cases hk2 : k = i
            · subst hk2
              simp [zi]
            · have := f5 k (by omega) hpk
              simpa [zi, hk2] using this
    · rintro ⟨y, w⟩ ⟨rfl, f1, f2, f3, f4, f5⟩
      simp only at f1 f2 f3 f4 f5
      have e14 := f1.2 14 (by decide)
      refine ⟨w, ?_, f1, f2, f3, f4, f5⟩
      unfold b_X3_findPeaks_7
      simp only [e14, q3, nI_le (Nat.le_refl (W * H)) (show W * H < 2 ^ 31 by omega), if_true]
  obtain ⟨m', e, q⟩ := key
  exact ⟨m', by rw [e]; rfl, q⟩
end PKS
