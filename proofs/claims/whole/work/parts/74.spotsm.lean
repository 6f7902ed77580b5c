/-! ===== a frame: the spots, in the model ===== -/
theorem bi_nt : ¬ bi true = 0 := by decide
def Qm (m : zM) (k : Nat) : Bool := decide (m.1 100 k = nI k) && !decide (m.1 73 k < m.1 80 0)
theorem isHigh_eq {m : zM} {k : Nat} (hk : k < 64) : f_X12_isHigh (nI k) m = some (Qm m k) := by
  unfold f_X12_isHigh f_X12_isTop Qm
  rw [zin_nI hk (by decide), zg_t, zg_t, nI_clamp (by omega)]
  by_cases q : m.1 100 k = nI k
  · rw [if_pos q]
    simp only [Option.bind_some, bi_t, show ¬ (1 : Int32) = 0 by decide, if_false]
    by_cases q2 : m.1 73 k < m.1 80 0
    · simp [q, q2]
    · simp [q, q2]
  · rw [if_neg q]
    simp [bi_f, q]
section SPM
variable {W H : Nat} {dn : Nat → Nat}
theorem ahead_m {m : zM} (hw : m.1 68 2 = nI W) (hh : m.1 68 3 = nI H) (w8 : W ≤ 8) (h8 : H ≤ 8) (hD : ∀ c, c < W * H → ¬ m.1 100 c = -1 → m.1 73 c = nI (dn c)) (hB : ∀ x, hM dn (m.1 100) (nI x) (W * H) < 2 ^ 31) {x : Nat} (hx : x < W * H) : f_X12_aheadOf (nI x) m = some (nI (lst (fun k => Qm m k && ahN (fun x => hM dn (m.1 100) (nI x) (W * H)) k x) (W * H)).length) := by
  have h64 : W * H ≤ 64 := Nat.mul_le_mul w8 h8
  unfold f_X12_aheadOf
  rw [massOf_m hw hh w8 h8 (show x < 2 ^ 31 by omega) hD]
  simp only [Option.bind_some]
  generalize hMM : (fun x => hM dn (m.1 100) (nI x) (W * H)) = MM
  have hMx : ∀ x, hM dn (m.1 100) (nI x) (W * H) = MM x := fun x => by rw [← hMM]
  have hBB : ∀ x, MM x < 2 ^ 31 := fun x => by rw [← hMx]; exact hB x
  rw [hMx]
  rw [zfor (fun k => (nI (lst (fun k => Qm m k && ahN MM k x) k).length, nI k)) (W * H) (r := nI (lst (fun k => Qm m k && ahN MM k x) (W * H)).length)]
  · rfl
  · rfl
  · intro k hk
    have no : ∀ v : Bool, v = false → (Qm m k && ahN MM k x) = v → (some (.inl (nI (lst (fun k => Qm m k && ahN MM k x) k).length, nI (k + 1))) : Option ((Int32 × Int32) ⊕ Int32)) = some (.inl (nI (lst (fun k => Qm m k && ahN MM k x) (k + 1)).length, nI (k + 1))) := by
      intro v hv h
      rw [lst_f (Q := fun k => Qm m k && ahN MM k x) (h.trans hv)]
    have far : j_X12_aheadOf_44 (nI x) (nI (lst (fun k => Qm m k && ahN MM k x) k).length) (nI (MM x)) (nI k) m = some (.inl (nI (lst (fun k => Qm m k && ahN MM k x) k).length, nI (k + 1))) := by
      unfold j_X12_aheadOf_44 j_X12_aheadOf_47 j_X12_aheadOf_72 j_X12_aheadOf_73
      have hp := nI_pos' (hBB x)
      have c1 : ¬ nI (MM x) < -268435456 := fun z => by
        have := Int32.lt_of_le_of_lt hp z
        exact absurd this (by decide)
      have c2 : ¬ (-268435456 : Int32) = nI (MM x) := fun z => by
        rw [← z] at hp
        exact absurd hp (by decide)
      rw [if_neg c1, if_neg c2, nI_1]
      simp
    unfold b_X12_aheadOf_11
    rw [cells_eq hw hh]
    simp only [Option.bind_some, nI_ge hk (show W * H < 2 ^ 31 by omega), if_false]
    by_cases e : k = x
    · subst e
      rw [if_pos rfl, far]
      exact no false rfl (by rw [ah_self, Bool.and_false])
    · rw [if_neg (nI_ne (by omega) (by omega) e), isHigh_eq (show k < 64 by omega)]
      simp only [Option.bind_some]
      cases hQ : Qm m k with
      | false =>
        rw [if_pos bi_f, far]
        exact no false rfl (by rw [hQ]; rfl)
      | true =>
        rw [if_neg bi_nt, massOf_m hw hh w8 h8 (show k < 2 ^ 31 by omega) hD, hMx]
        simp only [Option.bind_some]
        unfold j_X12_aheadOf_47 j_X12_aheadOf_68 j_X12_aheadOf_72 j_X12_aheadOf_73
        have c1 : nI (MM x) < nI (MM k) ↔ MM x < MM k := nI_ltI (hBB x) (hBB k)
        have c2 : nI (MM k) = nI (MM x) ↔ MM k = MM x := nI_eq (hBB k) (hBB x)
        have c3 : nI x ≤ nI k ↔ x ≤ k := nI_leI (by omega) (by omega)
        have yes : ahN MM k x = true → (some (.inl (nI (lst (fun k => Qm m k && ahN MM k x) k).length + 1, nI k + 1)) : Option ((Int32 × Int32) ⊕ Int32)) = some (.inl (nI (lst (fun k => Qm m k && ahN MM k x) (k + 1)).length, nI (k + 1))) := by
          intro h
          rw [lst_t (Q := fun k => Qm m k && ahN MM k x) (by rw [hQ, h]; rfl), List.length_append, nI_1, nI_1]
          rfl
        have nay : ahN MM k x = false → (some (.inl (nI (lst (fun k => Qm m k && ahN MM k x) k).length + 0, nI k + 1)) : Option ((Int32 × Int32) ⊕ Int32)) = some (.inl (nI (lst (fun k => Qm m k && ahN MM k x) (k + 1)).length, nI (k + 1))) := by
          intro h
          rw [Int32.add_zero, nI_1]
          exact no false rfl (by rw [h, Bool.and_false])
        have nf : ∀ {z : Prop}, z → (z → ¬ (MM x < MM k ∨ (MM k = MM x ∧ k < x))) → ahN MM k x = false := fun hz h => by
          cases q : ahN MM k x with
          | false => rfl
          | true => exact absurd (ah_iff.mp q) (h hz)
        by_cases q1 : MM x < MM k
        · rw [if_pos (c1.mpr q1)]
          exact yes (ah_iff.mpr (Or.inl q1))
        · rw [if_neg (fun z => q1 (c1.mp z))]
          by_cases q2 : MM k = MM x
          · rw [if_pos (c2.mpr q2)]
            by_cases q3 : x ≤ k
            · rw [if_pos (c3.mpr q3)]
              exact nay (nf q3 (fun _ => by omega))
            · rw [if_neg (fun z => q3 (c3.mp z))]
              exact yes (ah_iff.mpr (Or.inr ⟨q2, by omega⟩))
          · rw [if_neg (fun z => q2 (c2.mp z))]
            exact nay (nf q2 (fun _ => by omega))
  · unfold b_X12_aheadOf_11
    rw [cells_eq hw hh]
    simp only [Option.bind_some, nI_le (Nat.le_refl (W * H)) (show W * H < 2 ^ 31 by omega), if_true]
  · omega
theorem laySpot_m {m : zM} (hw : m.1 68 2 = nI W) (hh : m.1 68 3 = nI H) (w3 : 3 ≤ W) (w8 : W ≤ 8) (h8 : H ≤ 8) (hD : ∀ c, c < W * H → ¬ m.1 100 c = -1 → m.1 73 c = nI (dn c)) {x q : Nat} (hx : x < W * H) (hq : q < 6) (h20 : m.1 68 20 = nI q) (b1 : 0 < hM dn (m.1 100) (nI x) (W * H)) (b2 : hM dn (m.1 100) (nI x) (W * H) < 2 ^ 31) (b3 : hC W dn (m.1 100) (nI x) (W * H) < 2 ^ 31) (b4 : hR W dn (m.1 100) (nI x) (W * H) < 2 ^ 31) :
    ∃ m', f_X12_laySpot (nI x) m = some m' ∧ Fr [68, 74, 81, 82, 83, 84, 85, 86] m m' ∧ (∀ j, m'.1 68 j = if j = 20 then nI (q + 1) else m.1 68 j) ∧ (∀ c, c < W * H → m'.1 74 c = if m.1 100 c = nI x then nI q else m.1 74 c) ∧ SpF W dn (m.1 100) (W * H) (nI x) x (fun j => m'.1 (81 + j) q) ∧ ∀ a, 81 ≤ a → a ≤ 86 → ∀ j, j ≠ q → m'.1 a j = m.1 a j := by
  have h64 : W * H ≤ 64 := Nat.mul_le_mul w8 h8
  have z1 : znz (nI W) = true := by simp [znz, nI_ne0 (show 0 < W by omega) (show W < 2 ^ 31 by omega)]
  have z2 : znz (nI (hM dn (m.1 100) (nI x) (W * H))) = true := by simp [znz, nI_ne0 b1 b2]
  unfold f_X12_laySpot
  rw [massOf_m hw hh w8 h8 (show x < 2 ^ 31 by omega) hD]
  simp only [Option.bind_some]
  have key : ∃ r : Int32 × Int32 × zM, zloop (b_X12_laySpot_14 (nI x) (nI (hM dn (m.1 100) (nI x) (W * H)))) zFU (0, 0, 0, m) = some r ∧ r.1 = nI (hC W dn (m.1 100) (nI x) (W * H)) ∧ r.2.1 = nI (hR W dn (m.1 100) (nI x) (W * H)) ∧ Fr [74] m r.2.2 ∧ ∀ c, c < W * H → r.2.2.1 74 c = if m.1 100 c = nI x then nI q else m.1 74 c := by
    refine zforQ (fun k st => st.1 = nI (hC W dn (m.1 100) (nI x) k) ∧ st.2.1 = nI (hR W dn (m.1 100) (nI x) k) ∧ st.2.2.1 = nI k ∧ Fr [74] m st.2.2.2 ∧ (∀ c, c < k → st.2.2.2.1 74 c = if m.1 100 c = nI x then nI q else m.1 74 c) ∧ ∀ c, k ≤ c → st.2.2.2.1 74 c = m.1 74 c) (W * H) _ ⟨rfl, rfl, rfl, Fr.refl, fun c hc => by omega, fun _ _ => rfl⟩ ?_ ?_ (by omega)
    · rintro k ⟨u, v, y, w⟩ hk ⟨rfl, rfl, rfl, f1, f2, f3⟩
      simp only at f1 f2 f3
      have e68 := f1.2 68 (by decide)
      have e73 := f1.2 73 (by decide)
      have e100 := f1.2 100 (by decide)
      have r1 : zrem (nI k) (nI W) = nI (k % W) := pk_rem (by omega) (by omega) (by omega)
      have r2 : nI k / nI W = nI (k / W) := pk_div (by omega) (by omega) (by omega)
      have nC : hC W dn (m.1 100) (nI x) (k + 1) = hC W dn (m.1 100) (nI x) k + if m.1 100 k = nI x then 16 * (k % W) * dn k else 0 := rfl
      have nR : hR W dn (m.1 100) (nI x) (k + 1) = hR W dn (m.1 100) (nI x) k + if m.1 100 k = nI x then 16 * (k / W) * dn k else 0 := rfl
      unfold b_X12_laySpot_14 j_X12_laySpot_89
      rw [cells_eq (m := w) (by rw [e68]; exact hw) (by rw [e68]; exact hh)]
      simp only [Option.bind_some, nI_ge hk (show W * H < 2 ^ 31 by omega), if_false, zin_nI (show k < 64 by omega) (show 64 < 2 ^ 31 by decide), zg_t, nI_clamp (show k < 2 ^ 31 by omega), e68, e73, e100, hw, z1, r1, r2, h20, show (16 : Int32) = nI 16 from rfl, pk_mul, nI_1]
      by_cases c1 : m.1 100 k = nI x
      · rw [if_pos c1, hD k hk (by rw [c1]; exact nI_nm1 (by omega)), pk_mul, pk_mul, nI_add, nI_add]
        refine ⟨_, rfl, ?_, ?_, rfl, f1.st (by decide), fun c hc => ?_, fun c hc => ?_⟩
        · rw [nC, if_pos c1]
        · rw [nR, if_pos c1]
        · by_cases e : c = k
          · subst e
            show (zi w 74 c (nI q)).1 74 c = _
            rw [ziE, if_pos c1]
          · show (zi w 74 k (nI q)).1 74 c = _
            rw [ziN e]
            exact f2 c (by omega)
        · show (zi w 74 k (nI q)).1 74 c = _
          rw [ziN (by omega)]
          exact f3 c (by omega)
      · rw [if_neg c1]
        refine ⟨_, rfl, ?_, ?_, rfl, f1, fun c hc => ?_, fun c hc => f3 c (by omega)⟩
        · rw [nC, if_neg c1]
          rfl
        · rw [nR, if_neg c1]
          rfl
        · by_cases e : c = k
          · subst e
            show w.1 74 c = _
            rw [f3 c (Nat.le_refl _), if_neg c1]
          · exact f2 c (by omega)
    · rintro ⟨u, v, y, w⟩ ⟨rfl, rfl, rfl, f1, f2, f3⟩
      simp only at f1 f2 f3
      have e68 := f1.2 68 (by decide)
      refine ⟨(nI (hC W dn (m.1 100) (nI x) (W * H)), nI (hR W dn (m.1 100) (nI x) (W * H)), w), ?_, rfl, rfl, f1, f2⟩
      unfold b_X12_laySpot_14
      rw [cells_eq (m := w) (by rw [e68]; exact hw) (by rw [e68]; exact hh)]
      simp only [Option.bind_some, nI_le (Nat.le_refl (W * H)) (show W * H < 2 ^ 31 by omega), if_true]
  obtain ⟨⟨u, v, w⟩, a1, a2, a3, a4, a5⟩ := key
  simp only at a2 a3 a4 a5
  subst a2
  subst a3
  rw [a1]
  have e68 := a4.2 68 (by decide)
  have e100 := a4.2 100 (by decide)
  have e20 : w.1 68 20 = nI q := by rw [e68]; exact h20
  simp only [Option.bind_some, e20, zin_nI hq (show 6 < 2 ^ 31 by decide), zg_t, nI_clamp (show q < 2 ^ 31 by omega), z2, pk_div b3 b1 b2, pk_div b4 b1 b2, nI_1]
  rw [sizeOf_m (m := zi w 81 q (nI x)) (W := W) (H := H) (by rw [ziO (by decide), e68]; exact hw) (by rw [ziO (by decide), e68]; exact hh) w8 h8, zi_ne (show 100 ≠ 81 by decide), e100]
  simp only [Option.bind_some]
  refine ⟨_, rfl, ((((((((a4.wide (by decide)).st (by decide)).st (by decide)).st (by decide)).st (by decide)).st (by decide)).st (by decide)).st (by decide)), ?_, ?_, ?_, ?_⟩
  · intro j
    rw [ziA]
    by_cases e : j = 20
    · rw [if_pos e, if_pos e]
    · rw [if_neg e, if_neg e]
      simp only [ziO (show 68 ≠ 86 by decide), ziO (show 68 ≠ 85 by decide), ziO (show 68 ≠ 84 by decide), ziO (show 68 ≠ 83 by decide), ziO (show 68 ≠ 82 by decide), ziO (show 68 ≠ 81 by decide), e68]
  · intro c hc
    simp only [ziO (show 74 ≠ 68 by decide), ziO (show 74 ≠ 86 by decide), ziO (show 74 ≠ 85 by decide), ziO (show 74 ≠ 84 by decide), ziO (show 74 ≠ 83 by decide), ziO (show 74 ≠ 82 by decide), ziO (show 74 ≠ 81 by decide)]
    exact a5 c hc
  · unfold SpF
    simp [zi]
  · intro a h1 h2 j hj
    have ea := a4.2 a (by simp; omega)
    have n1 : a ≠ 68 := by omega
    rw [ziO n1, ← ea]
    simp [zi, hj]
def spoU (C : Nat → Bool) (i : Nat) (x : Option Nat) : Int32 := match x with
  | none => -1
  | some k => if k < i then (if C k then nI (lst C k).length else -1) else -1
theorem spoU_n {C : Nat → Bool} {i : Nat} : spoU C i none = -1 := by rw [spoU]
theorem spoU_s {C : Nat → Bool} {i k : Nat} : spoU C i (some k) = if k < i then (if C k then nI (lst C k).length else -1) else -1 := by rw [spoU]
theorem laySpots_m {m : zM} {tx : Nat → Option Nat} {C : Nat → Bool} (hw : m.1 68 2 = nI W) (hh : m.1 68 3 = nI H) (w3 : 3 ≤ W) (w8 : W ≤ 8) (h8 : H ≤ 8) (hD : ∀ c, c < W * H → ¬ m.1 100 c = -1 → m.1 73 c = nI (dn c)) (hB : ∀ x, hM dn (m.1 100) (nI x) (W * H) < 2 ^ 31 ∧ hC W dn (m.1 100) (nI x) (W * H) < 2 ^ 31 ∧ hR W dn (m.1 100) (nI x) (W * H) < 2 ^ 31) (hP : ∀ x, x < W * H → m.1 100 x = nI x → 0 < hM dn (m.1 100) (nI x) (W * H)) (hC : C = cho (fun x => hM dn (m.1 100) (nI x) (W * H)) (Qm m) (W * H)) (h6 : (lst C (W * H)).length ≤ 6) (h74 : ∀ c, c < W * H → m.1 74 c = -1) (h100 : ∀ c, c < W * H → (tx c = none ∧ m.1 100 c = -1) ∨ ∃ k, k < W * H ∧ tx c = some k ∧ m.1 100 c = nI k) :
    ∃ m', f_X12_laySpots m = some m' ∧ Fr [68, 74, 81, 82, 83, 84, 85, 86] m m' ∧ (∀ j, j ≠ 20 → m'.1 68 j = m.1 68 j) ∧ m'.1 68 20 = nI (lst C (W * H)).length ∧ (∀ c, c < W * H → m'.1 74 c = spo C (tx c)) ∧ ∀ k, k < W * H → C k = true → SpF W dn (m.1 100) (W * H) (nI k) k (fun j => m'.1 (81 + j) (lst C k).length) := by
  have h64 : W * H ≤ 64 := Nat.mul_le_mul w8 h8
  have hCQ : ∀ k, C k = true → Qm m k = true := fun k h => by
    rw [hC] at h
    unfold cho at h
    rw [Bool.and_eq_true] at h
    exact h.1
  unfold f_X12_laySpots
  have key : ∃ m', zloop b_X12_laySpots_7 zFU (0, zi m 68 20 0) = some m' ∧ Fr [68, 74, 81, 82, 83, 84, 85, 86] m m' ∧ (∀ j, j ≠ 20 → m'.1 68 j = m.1 68 j) ∧ m'.1 68 20 = nI (lst C (W * H)).length ∧ (∀ c, c < W * H → m'.1 74 c = spo C (tx c)) ∧ ∀ k, k < W * H → C k = true → SpF W dn (m.1 100) (W * H) (nI k) k (fun j => m'.1 (81 + j) (lst C k).length) := by
    refine zforQ (fun i st => st.1 = nI i ∧ Fr [68, 74, 81, 82, 83, 84, 85, 86] m st.2 ∧ (∀ j, j ≠ 20 → st.2.1 68 j = m.1 68 j) ∧ st.2.1 68 20 = nI (lst C i).length ∧ (∀ c, c < W * H → st.2.1 74 c = spoU C i (tx c)) ∧ ∀ k, k < i → C k = true → SpF W dn (m.1 100) (W * H) (nI k) k (fun j => st.2.1 (81 + j) (lst C k).length)) (W * H) _ ⟨rfl, Fr.refl.st (by decide), fun j hj => ziN hj, ziE, fun c hc => ?_, fun k hk => by omega⟩ ?_ ?_ (by omega)
    · rw [ziO (by decide), h74 c hc]
      rcases h100 c hc with ⟨a, _⟩ | ⟨k, _, a, _⟩
      · rw [a, spoU_n]
      · rw [a, spoU_s, if_neg (by omega)]
    · rintro i ⟨y, w⟩ hi ⟨rfl, f1, f2, f3, f4, f5⟩
      simp only at f1 f2 f3 f4 f5
      have e73 := f1.2 73 (by decide)
      have e80 := f1.2 80 (by decide)
      have e100 := f1.2 100 (by decide)
      have ew : w.1 68 2 = nI W := by rw [f2 2 (by decide)]; exact hw
      have eh : w.1 68 3 = nI H := by rw [f2 3 (by decide)]; exact hh
      have hQ : Qm w = Qm m := by
        funext k
        unfold Qm
        rw [e73, e80, e100]
      have hDw : ∀ c, c < W * H → ¬ w.1 100 c = -1 → w.1 73 c = nI (dn c) := by rw [e73, e100]; exact hD
      have stay : C i = false → ∃ s1 : Int32 × zM, j_X12_laySpots_38 (nI i) w = some (.inl s1) ∧ s1.1 = nI (i + 1) ∧ Fr [68, 74, 81, 82, 83, 84, 85, 86] m s1.2 ∧ (∀ j, j ≠ 20 → s1.2.1 68 j = m.1 68 j) ∧ s1.2.1 68 20 = nI (lst C (i + 1)).length ∧ (∀ c, c < W * H → s1.2.1 74 c = spoU C (i + 1) (tx c)) ∧ ∀ k, k < i + 1 → C k = true → SpF W dn (m.1 100) (W * H) (nI k) k (fun j => s1.2.1 (81 + j) (lst C k).length) := by
        intro hCi
        unfold j_X12_laySpots_38
        rw [nI_1]
        refine ⟨_, rfl, rfl, f1, f2, ?_, ?_, ?_⟩
        · rw [lst_f hCi]
          exact f3
        · intro c hc
          rw [f4 c hc]
          cases hx : tx c with
          | none => rw [spoU_n, spoU_n]
          | some k =>
            rw [spoU_s, spoU_s]
            by_cases a : k < i
            · rw [if_pos a, if_pos (show k < i + 1 by omega)]
            · rw [if_neg a]
              by_cases b : k = i
              · subst b
                rw [if_pos (show k < k + 1 by omega), hCi]
                rfl
              · rw [if_neg (show ¬ k < i + 1 by omega)]
        · intro k hk hCk
          have : k ≠ i := fun z => by rw [z, hCi] at hCk; cases hCk
          exact f5 k (by omega) hCk
      unfold b_X12_laySpots_7
      rw [cells_eq ew eh]
      simp only [Option.bind_some, nI_ge hi (show W * H < 2 ^ 31 by omega), if_false, isHigh_eq (show i < 64 by omega), hQ]
      cases hq : Qm m i with
      | false =>
        rw [if_pos bi_f]
        exact stay (by rw [hC]; unfold cho; rw [hq]; rfl)
      | true =>
        rw [if_neg bi_nt, ahead_m ew eh w8 h8 hDw (by rw [e100]; exact fun x => (hB x).1) hi, hQ, e100]
        simp only [Option.bind_some]
        have hlen : (lst (fun k => Qm m k && ahN (fun x => hM dn (m.1 100) (nI x) (W * H)) k i) (W * H)).length ≤ 64 := by
          unfold lst
          refine Nat.le_trans (List.length_filter_le _ _) ?_
          rw [List.length_range]
          exact h64
        by_cases h66 : (lst (fun k => Qm m k && ahN (fun x => hM dn (m.1 100) (nI x) (W * H)) k i) (W * H)).length < 6
        · rw [if_neg (show ¬ (6 : Int32) ≤ nI _ from nI_ge (b := 6) h66 (by decide))]
          have hCi : C i = true := by
            rw [hC]
            unfold cho
            rw [hq, Bool.true_and]
            exact decide_eq_true h66
          have hl := lst_lt (Q := C) (i := i) (j := W * H) hi hCi
          have htop : m.1 100 i = nI i := by
            unfold Qm at hq
            rw [Bool.and_eq_true, decide_eq_true_eq] at hq
            exact hq.1
          obtain ⟨b2, b3, b4⟩ := hB i
          have b1 := hP i hi htop
          obtain ⟨m1, g1, g2, g3, g4, g5, g6⟩ := laySpot_m (m := w) (dn := dn) ew eh w3 w8 h8 hDw hi (show (lst C i).length < 6 by omega) f3 (by rw [e100]; exact b1) (by rw [e100]; exact b2) (by rw [e100]; exact b3) (by rw [e100]; exact b4)
          rw [e100] at g4 g5
          rw [g1]
          simp only [Option.bind_some]
          unfold j_X12_laySpots_38
          rw [nI_1]
          refine ⟨_, rfl, rfl, f1.trans g2, fun j hj => ?_, ?_, fun c hc => ?_, fun k hk hCk => ?_⟩
          · rw [g3 j, if_neg hj]
            exact f2 j hj
          · rw [g3 20, if_pos rfl, lst_t hCi, List.length_append]
            rfl
          · rw [g4 c hc, f4 c hc]
            rcases h100 c hc with ⟨a, b⟩ | ⟨k, hk, a, b⟩
            · rw [a, b, if_neg (fun z => nI_nm1 (k := i) (by omega) z.symm), spoU_n, spoU_n]
            · rw [a, b, spoU_s, spoU_s]
              by_cases e : k = i
              · subst e
                rw [if_pos rfl, if_pos (show k < k + 1 by omega), hCi]
                rfl
              · rw [if_neg (nI_ne (by omega) (by omega) e)]
                by_cases e2 : k < i
                · rw [if_pos e2, if_pos (show k < i + 1 by omega)]
                · rw [if_neg e2, if_neg (show ¬ k < i + 1 by omega)]
          · by_cases e : k = i
            · subst e
              exact g5
            · have hl2 := lst_lt (Q := C) (i := k) (j := i) (by omega) hCk
              have hk5 := f5 k (by omega) hCk
              unfold SpF at hk5 ⊢
              simp only [g6 (81 + 0) (by omega) (by omega) _ (show (lst C k).length ≠ (lst C i).length by omega), g6 (81 + 1) (by omega) (by omega) _ (show (lst C k).length ≠ (lst C i).length by omega), g6 (81 + 2) (by omega) (by omega) _ (show (lst C k).length ≠ (lst C i).length by omega), g6 (81 + 3) (by omega) (by omega) _ (show (lst C k).length ≠ (lst C i).length by omega), g6 (81 + 4) (by omega) (by omega) _ (show (lst C k).length ≠ (lst C i).length by omega), g6 (81 + 5) (by omega) (by omega) _ (show (lst C k).length ≠ (lst C i).length by omega)]
              exact hk5
        · rw [if_pos (show (6 : Int32) ≤ nI (lst (fun k => Qm m k && ahN (fun x => hM dn (m.1 100) (nI x) (W * H)) k i) (W * H)).length from nI_le (a := 6) (by omega) (by omega))]
          exact stay (by
            rw [hC]
            unfold cho
            rw [hq, Bool.true_and]
            exact decide_eq_false h66)
    · rintro ⟨y, w⟩ ⟨rfl, f1, f2, f3, f4, f5⟩
      simp only at f1 f2 f3 f4 f5
      have ew : w.1 68 2 = nI W := by rw [f2 2 (by decide)]; exact hw
      have eh : w.1 68 3 = nI H := by rw [f2 3 (by decide)]; exact hh
      refine ⟨w, ?_, f1, f2, f3, fun c hc => ?_, f5⟩
      · unfold b_X12_laySpots_7
        rw [cells_eq ew eh]
        simp only [Option.bind_some, nI_le (Nat.le_refl (W * H)) (show W * H < 2 ^ 31 by omega), if_true]
      · rw [f4 c hc]
        rcases h100 c hc with ⟨a, b⟩ | ⟨k, hk, a, b⟩
        · rw [a, spoU_n, spo_n]
        · rw [a, spoU_s, spo_s, if_pos hk]
  obtain ⟨m', e, q⟩ := key
  exact ⟨m', by rw [e]; rfl, q⟩
end SPM
