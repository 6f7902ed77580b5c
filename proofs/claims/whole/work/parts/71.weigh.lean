/-! ===== a frame: the hills weighed ===== -/
def nsum (F : Nat → Nat) : Nat → Nat
  | 0 => 0
  | k + 1 => nsum F k + F k
theorem nsum_congr {F G : Nat → Nat} : ∀ n, (∀ k, k < n → F k = G k) → nsum F n = nsum G n
  | 0, _ => rfl
  | n + 1, h => by
    show nsum F n + F n = nsum G n + G n
    rw [nsum_congr n (fun k hk => h k (by omega)), h n (by omega)]
theorem nsum_le {F G : Nat → Nat} : ∀ n, (∀ k, k < n → F k ≤ G k) → nsum F n ≤ nsum G n
  | 0, _ => Nat.le_refl _
  | n + 1, h => by
    show nsum F n + F n ≤ nsum G n + G n
    have := nsum_le n (fun k hk => h k (by omega))
    have := h n (by omega)
    omega
theorem nsum_mul {F : Nat → Nat} {a : Nat} : ∀ n, nsum (fun k => a * F k) n = a * nsum F n
  | 0 => rfl
  | n + 1 => by
    show nsum (fun k => a * F k) n + a * F n = a * (nsum F n + F n)
    rw [nsum_mul n, Nat.mul_add]
theorem nsum_const {a : Nat} : ∀ n, nsum (fun _ => a) n = n * a
  | 0 => by simp [nsum]
  | n + 1 => by
    show nsum (fun _ => a) n + a = (n + 1) * a
    rw [nsum_const n, Nat.add_mul, Nat.one_mul]
theorem nsum_ge {F : Nat → Nat} : ∀ n k, k < n → F k ≤ nsum F n
  | 0, k, h => by omega
  | n + 1, k, h => by
    show F k ≤ nsum F n + F n
    by_cases e : k = n
    · subst e; omega
    · have := nsum_ge (F := F) n k (by omega)
      omega
/-- the sums over a hill: cells, mass, columns, rows -/
def hN (h : Nat → Int32) (a : Int32) (n : Nat) : Nat := nsum (fun c => if h c = a then 1 else 0) n
def hM (dn : Nat → Nat) (h : Nat → Int32) (a : Int32) (n : Nat) : Nat := nsum (fun c => if h c = a then dn c else 0) n
def hC (W : Nat) (dn : Nat → Nat) (h : Nat → Int32) (a : Int32) (n : Nat) : Nat := nsum (fun c => if h c = a then 16 * (c % W) * dn c else 0) n
def hR (W : Nat) (dn : Nat → Nat) (h : Nat → Int32) (a : Int32) (n : Nat) : Nat := nsum (fun c => if h c = a then 16 * (c / W) * dn c else 0) n
section WGH
variable {D : Nat → Int32} {W H s : Nat} {dn : Nat → Nat}
theorem weigh_c {m : zM} (g : RGr W H m) (hs : s ≤ 16) (h38 : m.1 38 4 = nI s) (h41 : ∀ c, c < W * H → m.1 41 c = -1 ∨ ∃ i, i < s ∧ m.1 41 c = nI i) (hD : ∀ c, c < W * H → ¬ m.1 41 c = -1 → m.1 36 c = nI (dn c)) : ∃ m', f_X8_weigh m = some m' ∧ Fr [56, 57, 58, 59] m m' ∧ ∀ i, i < s → m'.1 56 i = nI (hN (m.1 41) (nI i) (W * H)) ∧ m'.1 57 i = nI (hM dn (m.1 41) (nI i) (W * H)) ∧ m'.1 58 i = nI (hC W dn (m.1 41) (nI i) (W * H)) ∧ m'.1 59 i = nI (hR W dn (m.1 41) (nI i) (W * H)) := by
  obtain ⟨_, w3, w8, h3, h8, _, _, q3, _, _, q6⟩ := id g
  have h64 : W * H ≤ 64 := Nat.mul_le_mul w8 h8
  unfold f_X8_weigh
  have one : ∃ m1, zloop b_X8_weigh_2 zFU (0, m) = some m1 ∧ Fr [56, 57, 58, 59] m m1 ∧ ∀ i, i < s → m1.1 56 i = 0 ∧ m1.1 57 i = 0 ∧ m1.1 58 i = 0 ∧ m1.1 59 i = 0 := by
    refine zforQ (fun i st => st.1 = nI i ∧ Fr [56, 57, 58, 59] m st.2 ∧ ∀ k, k < i → st.2.1 56 k = 0 ∧ st.2.1 57 k = 0 ∧ st.2.1 58 k = 0 ∧ st.2.1 59 k = 0) s _ ⟨rfl, Fr.refl, fun k hk => by omega⟩ ?_ ?_ (by omega)
    · rintro i ⟨y, w⟩ hi ⟨rfl, f1, f2⟩
      simp only at f1 f2
      have e38 := f1.2 38 (by decide)
      unfold b_X8_weigh_2
      simp only [e38, h38, nI_ge hi (show s < 2 ^ 31 by omega), if_false, zin_nI (show i < 16 by omega) (show 16 < 2 ^ 31 by decide), zg_t, nI_clamp (show i < 2 ^ 31 by omega), nI_1]
      refine ⟨_, rfl, rfl, (((f1.st (by decide)).st (by decide)).st (by decide)).st (by decide), fun k hk => ?_⟩
      by_cases hk2 : k = i
      · subst hk2
        simp [zi]
      · have := f2 k (by omega)
        simpa [zi, hk2] using this
    · rintro ⟨y, w⟩ ⟨rfl, f1, f2⟩
      simp only at f1 f2
      have e38 := f1.2 38 (by decide)
      refine ⟨w, ?_, f1, f2⟩
      unfold b_X8_weigh_2
      simp only [e38, h38, nI_le (Nat.le_refl s) (show s < 2 ^ 31 by omega), if_true]
  obtain ⟨m1, a1, a2, a3⟩ := one
  rw [a1]
  simp only [Option.bind_some]
  have two : ∃ m2, zloop b_X8_weigh_46 zFU (0, m1) = some m2 ∧ Fr [56, 57, 58, 59] m m2 ∧ ∀ i, i < s → m2.1 56 i = nI (hN (m.1 41) (nI i) (W * H)) ∧ m2.1 57 i = nI (hM dn (m.1 41) (nI i) (W * H)) ∧ m2.1 58 i = nI (hC W dn (m.1 41) (nI i) (W * H)) ∧ m2.1 59 i = nI (hR W dn (m.1 41) (nI i) (W * H)) := by
    refine zforQ (fun k st => st.1 = nI k ∧ Fr [56, 57, 58, 59] m st.2 ∧ ∀ i, i < s → st.2.1 56 i = nI (hN (m.1 41) (nI i) k) ∧ st.2.1 57 i = nI (hM dn (m.1 41) (nI i) k) ∧ st.2.1 58 i = nI (hC W dn (m.1 41) (nI i) k) ∧ st.2.1 59 i = nI (hR W dn (m.1 41) (nI i) k)) (W * H) _ ⟨rfl, a2, fun i hi => a3 i hi⟩ ?_ ?_ (by omega)
    · rintro k ⟨y, w⟩ hk ⟨rfl, f1, f2⟩
      simp only at f1 f2
      have e14 := f1.2 14 (by decide)
      have e15 := f1.2 15 (by decide)
      have e16 := f1.2 16 (by decide)
      have e36 := f1.2 36 (by decide)
      have e41 := f1.2 41 (by decide)
      have hz := zin_nI (show k < 64 by omega) (show 64 < 2 ^ 31 by decide)
      have hcl := nI_clamp (show k < 2 ^ 31 by omega)
      unfold b_X8_weigh_46 j_X8_weigh_147
      simp only [e14, q3, nI_ge hk (show W * H < 2 ^ 31 by omega), if_false, hz, zg_t, hcl, e15, e16, e36, e41, (q6 k hk).1, (q6 k hk).2.1, nI_1]
      have nN : ∀ a, hN (m.1 41) a (k + 1) = hN (m.1 41) a k + if m.1 41 k = a then 1 else 0 := fun a => rfl
      have nM : ∀ a, hM dn (m.1 41) a (k + 1) = hM dn (m.1 41) a k + if m.1 41 k = a then dn k else 0 := fun a => rfl
      have nC : ∀ a, hC W dn (m.1 41) a (k + 1) = hC W dn (m.1 41) a k + if m.1 41 k = a then 16 * (k % W) * dn k else 0 := fun a => rfl
      have nR : ∀ a, hR W dn (m.1 41) a (k + 1) = hR W dn (m.1 41) a k + if m.1 41 k = a then 16 * (k / W) * dn k else 0 := fun a => rfl
      rcases h41 k hk with q | ⟨p, hp, q⟩
      · rw [if_pos q]
        refine ⟨_, rfl, rfl, f1, fun i hi => ?_⟩
        have hne : ¬ m.1 41 k = nI i := fun z => nI_nm1 (k := i) (by omega) (z.symm.trans q)
        rw [nN, nM, nC, nR, if_neg hne, if_neg hne, if_neg hne, if_neg hne]
        exact f2 i hi
      · have hDk := hD k hk (by rw [q]; exact nI_nm1 (by omega))
        rw [q, if_neg (nI_nm1 (show p < 2 ^ 31 by omega))]
        simp only [zin_nI (show p < 16 by omega) (show 16 < 2 ^ 31 by decide), zg_t, nI_clamp (show p < 2 ^ 31 by omega), hDk, show (16 : Int32) = nI 16 from rfl, pk_mul]
        have fp := f2 p hp
        refine ⟨_, rfl, rfl, (((f1.st (by decide)).st (by decide)).st (by decide)).st (by decide), fun i hi => ?_⟩
        rw [nN, nM, nC, nR]
        by_cases hip : i = p
        · subst hip
          rw [if_pos q, if_pos q, if_pos q, if_pos q]
          simp [zi, fp.1, fp.2.1, fp.2.2.1, fp.2.2.2, nI_add, nI_1]
        · have hne : ¬ m.1 41 k = nI i := fun z => hip ((nI_eq (by omega) (by omega)).mp (z.symm.trans q))
          rw [if_neg hne, if_neg hne, if_neg hne, if_neg hne]
          have := f2 i hi
          simpa [zi, hip] using this
    · rintro ⟨y, w⟩ ⟨rfl, f1, f2⟩
      simp only at f1 f2
      have e14 := f1.2 14 (by decide)
      refine ⟨w, ?_, f1, f2⟩
      unfold b_X8_weigh_46
      simp only [e14, q3, nI_le (Nat.le_refl (W * H)) (show W * H < 2 ^ 31 by omega), if_true]
  obtain ⟨m2, c1, c2, c3⟩ := two
  exact ⟨m2, by rw [c1]; rfl, c2, c3⟩
theorem massOf_m {m : zM} (hw : m.1 68 2 = nI W) (hh : m.1 68 3 = nI H) (w8 : W ≤ 8) (h8 : H ≤ 8) {x : Nat} (hx : x < 2 ^ 31) (hD : ∀ c, c < W * H → ¬ m.1 100 c = -1 → m.1 73 c = nI (dn c)) : f_X12_massOf (nI x) m = some (nI (hM dn (m.1 100) (nI x) (W * H))) := by
  have h64 : W * H ≤ 64 := Nat.mul_le_mul w8 h8
  unfold f_X12_massOf
  rw [zfor (fun k => (nI (hM dn (m.1 100) (nI x) k), nI k)) (W * H) (r := nI (hM dn (m.1 100) (nI x) (W * H)))]
  · rfl
  · rfl
  · intro k hk
    unfold b_X12_massOf_4 j_X12_massOf_33
    rw [cells_eq hw hh]
    simp only [Option.bind_some, nI_ge hk (show W * H < 2 ^ 31 by omega), if_false, zin_nI (show k < 64 by omega) (show 64 < 2 ^ 31 by decide), zg_t, nI_clamp (show k < 2 ^ 31 by omega), nI_1]
    have nM : hM dn (m.1 100) (nI x) (k + 1) = hM dn (m.1 100) (nI x) k + if m.1 100 k = nI x then dn k else 0 := rfl
    rw [nM]
    by_cases q : m.1 100 k = nI x
    · rw [if_pos q, if_pos q, hD k hk (by rw [q]; exact nI_nm1 hx), nI_add]
    · rw [if_neg q, if_neg q]
      simp
  · unfold b_X12_massOf_4
    rw [cells_eq hw hh]
    simp only [Option.bind_some, nI_le (Nat.le_refl (W * H)) (show W * H < 2 ^ 31 by omega), if_true]
  · omega
theorem sizeOf_m {m : zM} (hw : m.1 68 2 = nI W) (hh : m.1 68 3 = nI H) (w8 : W ≤ 8) (h8 : H ≤ 8) {x : Nat} : f_X12_sizeOf (nI x) m = some (nI (hN (m.1 100) (nI x) (W * H))) := by
  have h64 : W * H ≤ 64 := Nat.mul_le_mul w8 h8
  unfold f_X12_sizeOf
  rw [zfor (fun k => (nI (hN (m.1 100) (nI x) k), nI k)) (W * H) (r := nI (hN (m.1 100) (nI x) (W * H)))]
  · rfl
  · rfl
  · intro k hk
    unfold b_X12_sizeOf_4 j_X12_sizeOf_28
    rw [cells_eq hw hh]
    simp only [Option.bind_some, nI_ge hk (show W * H < 2 ^ 31 by omega), if_false, zin_nI (show k < 64 by omega) (show 64 < 2 ^ 31 by decide), zg_t, nI_clamp (show k < 2 ^ 31 by omega), nI_1]
    have nN : hN (m.1 100) (nI x) (k + 1) = hN (m.1 100) (nI x) k + if m.1 100 k = nI x then 1 else 0 := rfl
    rw [nN]
    by_cases q : m.1 100 k = nI x
    · rw [if_pos q, if_pos q]
    · rw [if_neg q, if_neg q]
      simp
  · unfold b_X12_sizeOf_4
    rw [cells_eq hw hh]
    simp only [Option.bind_some, nI_le (Nat.le_refl (W * H)) (show W * H < 2 ^ 31 by omega), if_true]
  · omega
end WGH
