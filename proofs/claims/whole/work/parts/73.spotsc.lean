/-! ===== a frame: the spots, in the class ===== -/
theorem fillRow_eq {m : zM} {x1 i a b c d p : Nat} (hx : x1 < 6) (hi : i < 16) (h56 : m.1 56 i = nI a) (h57 : m.1 57 i = nI b) (h58 : m.1 58 i = nI c) (h59 : m.1 59 i = nI d) (hb : 0 < b) (hb2 : b < 2 ^ 31) (hc : c < 2 ^ 31) (hd : d < 2 ^ 31) : f_X8_fillRow x1 (nI i) (nI p) m = some (zi (zi (zi (zi (zi (zi m (46 + x1) 0 (nI p)) (46 + x1) 1 (nI a)) (46 + x1) 2 (nI b)) (46 + x1) 3 (nI (c / b))) (46 + x1) 4 (nI (d / b))) (46 + x1) 5 (-1)) := by
  have z0 : znz (nI b) = true := by simp [znz, nI_ne0 hb hb2]
  unfold f_X8_fillRow j_X8_fillRow_46 j_X8_fillRow_67
  simp only [Nat.mod_eq_of_lt hx, zin_nI hi (show 16 < 2 ^ 31 by decide), zg_t, nI_clamp (show i < 2 ^ 31 by omega), ziO (show 56 ≠ 46 + x1 by omega), ziO (show 58 ≠ 46 + x1 by omega), ziO (show 59 ≠ 46 + x1 by omega), h56, h57, h58, h59, nI_nle hb hb2, if_false, z0, pk_div hc hb hb2, pk_div hd hb hb2, show zin (3 : Int32) 6 = true by decide, show zin (4 : Int32) 6 = true by decide, show (3 : Int32).toNatClampNeg = 3 by decide, show (4 : Int32).toNatClampNeg = 4 by decide]
/-- what a spot's row holds: of hill a, peak p -/
def SpF (W : Nat) (dn : Nat → Nat) (hl : Nat → Int32) (n : Nat) (a : Int32) (p : Nat) (r : Nat → Int32) : Prop := r 0 = nI p ∧ r 1 = nI (hN hl a n) ∧ r 2 = nI (hM dn hl a n) ∧ r 3 = nI (hC W dn hl a n / hM dn hl a n) ∧ r 4 = nI (hR W dn hl a n / hM dn hl a n) ∧ r 5 = -1
theorem mem46 {q : Nat} (h : q < 6) : 46 + q ∈ [44, 46, 47, 48, 49, 50, 51, 55] := by
  rcases (show q = 0 ∨ q = 1 ∨ q = 2 ∨ q = 3 ∨ q = 4 ∨ q = 5 by omega) with rfl | rfl | rfl | rfl | rfl | rfl <;> decide
section SPC
variable {W n s : Nat} {dn : Nat → Nat} {pk : Nat → Nat} {C : Nat → Bool}
theorem number_c {m : zM} (hs : s ≤ 16) (h38 : m.1 38 4 = nI s) (h39 : ∀ i, i < s → m.1 39 i = nI (pk i)) (h54 : ∀ i, i < s → m.1 54 i = bi (C i)) (h6 : (lst C s).length ≤ 6) (h45 : ∀ j, j < 6 → m.2.2 45 j = j) (hw : ∀ i, i < s → m.1 56 i = nI (hN (m.1 41) (nI i) n) ∧ m.1 57 i = nI (hM dn (m.1 41) (nI i) n) ∧ m.1 58 i = nI (hC W dn (m.1 41) (nI i) n) ∧ m.1 59 i = nI (hR W dn (m.1 41) (nI i) n)) (hb : ∀ i, i < s → C i = true → 0 < hM dn (m.1 41) (nI i) n ∧ hM dn (m.1 41) (nI i) n < 2 ^ 31 ∧ hC W dn (m.1 41) (nI i) n < 2 ^ 31 ∧ hR W dn (m.1 41) (nI i) n < 2 ^ 31) :
    ∃ m', f_X8_numberHills m = some m' ∧ Fr [44, 46, 47, 48, 49, 50, 51, 55] m m' ∧ m'.1 44 4 = nI (lst C s).length ∧ (∀ i, i < s → m'.1 55 i = if C i then nI (lst C i).length else -1) ∧ ∀ i, i < s → C i = true → SpF W dn (m.1 41) n (nI i) (pk i) (m'.1 (46 + (lst C i).length)) := by
  unfold f_X8_numberHills
  have key : ∃ m', zloop b_X8_numberHills_7 zFU (0, zi m 44 4 0) = some m' ∧ Fr [44, 46, 47, 48, 49, 50, 51, 55] m m' ∧ m'.1 44 4 = nI (lst C s).length ∧ (∀ i, i < s → m'.1 55 i = if C i then nI (lst C i).length else -1) ∧ ∀ i, i < s → C i = true → SpF W dn (m.1 41) n (nI i) (pk i) (m'.1 (46 + (lst C i).length)) := by
    refine zforQ (fun i st => st.1 = nI i ∧ Fr [44, 46, 47, 48, 49, 50, 51, 55] m st.2 ∧ st.2.1 44 4 = nI (lst C i).length ∧ (∀ k, k < i → st.2.1 55 k = if C k then nI (lst C k).length else -1) ∧ ∀ k, k < i → C k = true → SpF W dn (m.1 41) n (nI k) (pk k) (st.2.1 (46 + (lst C k).length))) s _ ⟨rfl, Fr.refl.st (by decide), ziE, fun k hk => by omega, fun k hk => by omega⟩ ?_ ?_ (by omega)
    · rintro i ⟨y, w⟩ hi ⟨rfl, f1, f2, f3, f4⟩
      simp only at f1 f2 f3 f4
      have e38 := f1.2 38 (by decide)
      have e39 := f1.2 39 (by decide)
      have e54 := f1.2 54 (by decide)
      have e56 := f1.2 56 (by decide)
      have e57 := f1.2 57 (by decide)
      have e58 := f1.2 58 (by decide)
      have e59 := f1.2 59 (by decide)
      unfold b_X8_numberHills_7 j_X8_numberHills_80
      simp only [e38, h38, nI_ge hi (show s < 2 ^ 31 by omega), if_false, zin_nI (show i < 16 by omega) (show 16 < 2 ^ 31 by decide), zg_t, nI_clamp (show i < 2 ^ 31 by omega), e54, h54 i hi, nI_1]
      cases hC : C i with
      | false =>
        refine ⟨_, if_pos rfl, rfl, f1.st (by decide), ?_, ?_, ?_⟩
        · rw [lst_f hC, ziO (by decide)]
          exact f2
        · intro k hk
          by_cases hk2 : k = i
          · subst hk2
            rw [ziE, hC]
            rfl
          · rw [ziN hk2]
            exact f3 k (by omega)
        · intro k hk hCk
          have hk2 : k ≠ i := fun z => by rw [z, hC] at hCk; cases hCk
          have hl := lst_lt (Q := C) (i := k) (j := s) (by omega) hCk
          rw [zi_ne (show 46 + (lst C k).length ≠ 55 by omega)]
          exact f4 k (by omega) hCk
      | true =>
        have hl := lst_lt (Q := C) (i := i) (j := s) hi hC
        have hq : (lst C i).length < 6 := by omega
        have h45' : w.2.2 45 (lst C i).length = (lst C i).length := by rw [f1.1]; exact h45 _ hq
        obtain ⟨b1, b2, b3, b4⟩ := hb i hi hC
        obtain ⟨w1, w2, w3, w4⟩ := hw i hi
        simp only [bi_t, show ¬ (1 : Int32) = 0 by decide, if_false, f2, show ¬ (6 : Int32) ≤ nI (lst C i).length from nI_ge (b := 6) hq (by decide), zin_nI hq (show 6 < 2 ^ 31 by decide), zg_t, nI_clamp (show (lst C i).length < 2 ^ 31 by omega), e39, h39 i hi, h45']
        have ef := fillRow_eq (m := zi (zi w 55 i (-1)) 55 i (nI (lst C i).length)) (p := pk i) hq (show i < 16 by omega) (by rw [ziO (by decide), ziO (by decide), e56]; exact w1) (by rw [ziO (by decide), ziO (by decide), e57]; exact w2) (by rw [ziO (by decide), ziO (by decide), e58]; exact w3) (by rw [ziO (by decide), ziO (by decide), e59]; exact w4) b1 b2 b3 b4
        rw [ef]
        simp only [Option.bind_some, nI_1]
        have m46 := mem46 hq
        have n44 : (44 : Nat) ≠ 46 + (lst C i).length := by omega
        have n55 : (55 : Nat) ≠ 46 + (lst C i).length := by omega
        refine ⟨_, rfl, rfl, ((((((((f1.st (by decide)).st (by decide)).st m46).st m46).st m46).st m46).st m46).st m46).st (by decide), ?_, ?_, ?_⟩
        · rw [ziE]
          simp only [ziO n44, ziO (show 44 ≠ 55 by decide), f2, nI_1]
          rw [lst_t hC, List.length_append]
          rfl
        · intro k hk
          simp only [ziO n55, ziO (show 55 ≠ 44 by decide)]
          by_cases hk2 : k = i
          · subst hk2
            rw [ziE, hC]
            rfl
          · rw [ziN hk2, ziN hk2]
            exact f3 k (by omega)
        · intro k hk hCk
          by_cases hk2 : k = i
          · subst hk2
            rw [zi_ne (show 46 + (lst C k).length ≠ 44 by omega)]
            unfold SpF
            simp [ziA]
          · have hl2 := lst_lt (Q := C) (i := k) (j := i) (by omega) hCk
            have nn : 46 + (lst C k).length ≠ 46 + (lst C i).length := by omega
            rw [zi_ne (show 46 + (lst C k).length ≠ 44 by omega), zi_ne nn, zi_ne nn, zi_ne nn, zi_ne nn, zi_ne nn, zi_ne nn, zi_ne (show 46 + (lst C k).length ≠ 55 by omega), zi_ne (show 46 + (lst C k).length ≠ 55 by omega)]
            exact f4 k (by omega) hCk
    · rintro ⟨y, w⟩ ⟨rfl, f1, f2, f3, f4⟩
      simp only at f1 f2 f3 f4
      have e38 := f1.2 38 (by decide)
      refine ⟨w, ?_, f1, f2, f3, f4⟩
      unfold b_X8_numberHills_7
      simp only [e38, h38, nI_le (Nat.le_refl s) (show s < 2 ^ 31 by omega), if_true]
  obtain ⟨m', e, q⟩ := key
  exact ⟨m', by rw [e]; rfl, q⟩
def spo (C : Nat → Bool) (x : Option Nat) : Int32 := match x with
  | none => -1
  | some i => if C i then nI (lst C i).length else -1
theorem spo_n {C : Nat → Bool} : spo C none = -1 := by rw [spo]
theorem spo_s {C : Nat → Bool} {i : Nat} : spo C (some i) = if C i then nI (lst C i).length else -1 := by rw [spo]
theorem mark_c {m : zM} {hx : Nat → Option Nat} (h64 : n ≤ 64) (h14 : m.1 14 2 = nI n) (hs : s ≤ 16) (h41 : ∀ c, c < n → (hx c = none ∧ m.1 41 c = -1) ∨ ∃ i, i < s ∧ hx c = some i ∧ m.1 41 c = nI i) (h55 : ∀ i, i < s → m.1 55 i = if C i then nI (lst C i).length else -1) :
    ∃ m', f_X8_markCells m = some m' ∧ Fr [52, 53] m m' ∧ ∀ c, c < n → m'.1 52 c = spo C (hx c) ∧ (m'.1 53 c = 0 ↔ spo C (hx c) = -1) := by
  unfold f_X8_markCells
  have key : ∃ m', zloop b_X8_markCells_2 zFU (0, m) = some m' ∧ Fr [52, 53] m m' ∧ ∀ c, c < n → m'.1 52 c = spo C (hx c) ∧ (m'.1 53 c = 0 ↔ spo C (hx c) = -1) := by
    refine zforQ (fun i st => st.1 = nI i ∧ Fr [52, 53] m st.2 ∧ ∀ c, c < i → st.2.1 52 c = spo C (hx c) ∧ (st.2.1 53 c = 0 ↔ spo C (hx c) = -1)) n _ ⟨rfl, Fr.refl, fun k hk => by omega⟩ ?_ ?_ (by omega)
    · rintro i ⟨y, w⟩ hi ⟨rfl, f1, f2⟩
      simp only at f1 f2
      have e14 := f1.2 14 (by decide)
      have e41 := f1.2 41 (by decide)
      have e55 := f1.2 55 (by decide)
      have hz := zin_nI (show i < 64 by omega) (show 64 < 2 ^ 31 by decide)
      have hcl := nI_clamp (show i < 2 ^ 31 by omega)
      have fin : ∀ v, v = spo C (hx i) → ∃ s1 : Int32 × zM, j_X8_markCells_37 (nI i) v (nI i) w = some (.inl s1) ∧ s1.1 = nI (i + 1) ∧ Fr [52, 53] m s1.2 ∧ ∀ c, c < i + 1 → s1.2.1 52 c = spo C (hx c) ∧ (s1.2.1 53 c = 0 ↔ spo C (hx c) = -1) := by
        intro v hv
        unfold j_X8_markCells_37 j_X8_markCells_58
        simp only [hz, zg_t, hcl, ziE, nI_1, show zb (0 : Int32) = true by decide, show zb (1 : Int32) = true by decide]
        have tl : ∀ b, (b = 0 ↔ v = -1) → ∀ c, c < i + 1 → (zi (zi w 52 i v) 53 i b).1 52 c = spo C (hx c) ∧ ((zi (zi w 52 i v) 53 i b).1 53 c = 0 ↔ spo C (hx c) = -1) := by
          intro b hb c hc
          rw [ziO (show 52 ≠ 53 by decide)]
          by_cases e : c = i
          · subst e
            rw [ziE, ziE, ← hv]
            exact ⟨rfl, hb⟩
          · rw [ziN e, ziN e, ziO (show 53 ≠ 52 by decide)]
            exact f2 c (by omega)
        by_cases q : v = -1
        · rw [if_pos q]
          exact ⟨_, rfl, rfl, (f1.st (by decide)).st (by decide), tl 0 ⟨fun _ => q, fun _ => rfl⟩⟩
        · rw [if_neg q]
          exact ⟨_, rfl, rfl, (f1.st (by decide)).st (by decide), tl 1 ⟨fun z => absurd z (by decide), fun z => absurd z q⟩⟩
      unfold b_X8_markCells_2
      rw [show (nI i, w).2.1 14 2 = nI n from by rw [← h14]; exact congrFun e14 2, if_neg (nI_ge hi (show n < 2 ^ 31 by omega))]
      rw [hz, zg_t, zg_t, hcl, e41]
      rcases h41 i hi with ⟨a, b⟩ | ⟨p, hp, a, b⟩
      · rw [if_pos b]
        exact fin (-1) (by rw [a, spo_n])
      · rw [b, if_neg (nI_nm1 (show p < 2 ^ 31 by omega))]
        simp only [zin_nI (show p < 16 by omega) (show 16 < 2 ^ 31 by decide), zg_t, nI_clamp (show p < 2 ^ 31 by omega), e55, h55 p hp]
        exact fin _ (by rw [a, spo_s])
    · rintro ⟨y, w⟩ ⟨rfl, f1, f2⟩
      simp only at f1 f2
      have e14 := f1.2 14 (by decide)
      refine ⟨w, ?_, f1, f2⟩
      unfold b_X8_markCells_2
      simp only [e14, h14, nI_le (Nat.le_refl n) (show n < 2 ^ 31 by omega), if_true]
  obtain ⟨m', e, q⟩ := key
  exact ⟨m', by rw [e]; rfl, q⟩
end SPC
