/-! ===== the law: every call answers alike ===== -/
theorem Rel_0 : Rel 0 zm0 := by
  refine ⟨⟨rfl, ⟨0, by omega, rfl⟩, rfl⟩, ⟨0, by omega, rfl, rfl, fun p hp => by omega, fun k _ => rfl, ?_⟩, ⟨rfl, rfl, rfl, rfl, rfl⟩, ⟨fun j _ => rfl, fun j hj => hj, fun i j _ _ h => h⟩, Or.inl ⟨rfl, rfl, fun k _ => ⟨rfl, rfl, rfl⟩⟩⟩
  show nI 0 = (0 : Int32) + 0 + 0 + 0
  decide
theorem law_step {L : Nat} {xs : Nat → Int32} (hL : L ≤ 1536) {j : Nat} {w : zM} (hj : 3 * j + 3 ≤ L) (hR : Rel j w) : ∃ s1 : Int32 × zM, b_L_law_18 (L, xs) (nI (3 * j), w) = some (.inl s1) ∧ s1.1 = nI (3 * (j + 1)) ∧ Rel (j + 1) s1.2 := by
  have ht : j ≤ 600 := by omega
  have fin : ∀ w', Rel (j + 1) w' → ∃ s1 : Int32 × zM, j_L_law_693 (L, xs) (nI (3 * j)) w' = some (.inl s1) ∧ s1.1 = nI (3 * (j + 1)) ∧ Rel (j + 1) s1.2 := by
    intro w' hw'
    unfold j_L_law_693
    refine ⟨(nI (3 * (j + 1)), w'), ?_, rfl, hw'⟩
    rw [show nI (3 * j) + 3 = nI (3 * j + 3) from nI_add _ _, show 3 * j + 3 = 3 * (j + 1) by omega]
  have same : Rel (j + 1) w := hR.mono (by omega)
  have c0 : ¬ (Int32.ofNat L) - 3 < nI (3 * j) := by
    rw [lt32, show (Int32.ofNat L) - 3 = nI L - nI 3 from rfl, pk_sub_toInt (by omega) (by omega), nI_toInt (by omega)]
    omega
  have e1 : nI (3 * j) + 1 = nI (3 * j + 1) := nI_1 _
  have e2 : nI (3 * j) + 2 = nI (3 * j + 2) := nI_add _ _
  unfold b_L_law_18
  simp only [c0, if_false, e1, e2, zin_nI (show 3 * j < L by omega) (show L < 2 ^ 31 by omega), zin_nI (show 3 * j + 1 < L by omega) (show L < 2 ^ 31 by omega), zin_nI (show 3 * j + 2 < L by omega) (show L < 2 ^ 31 by omega), zg_t, nI_clamp (show 3 * j < 2 ^ 31 by omega), nI_clamp (show 3 * j + 1 < 2 ^ 31 by omega), nI_clamp (show 3 * j + 2 < 2 ^ 31 by omega)]
  generalize xs (3 * j) &&& 31 = c
  generalize xs (3 * j + 1) = p
  generalize xs (3 * j + 2) = q
  by_cases h0 : c = 0
  · rw [if_pos h0]
    obtain ⟨v, m1, m2, x1, x2, x3⟩ := op_letter p hR
    rw [x1]
    simp only [Option.bind_some]
    rw [x2]
    simp only [Option.bind_some, if_true]
    exact fin m2 x3
  rw [if_neg h0]
  by_cases h1 : c = 1
  · rw [if_pos h1]
    obtain ⟨v, m1, m2, x1, x2, x3⟩ := op_blank hR
    rw [x1]
    simp only [Option.bind_some]
    rw [x2]
    simp only [Option.bind_some, if_true]
    exact fin m2 x3
  rw [if_neg h1]
  by_cases h2 : c = 2
  · rw [if_pos h2]
    obtain ⟨v, m1, m2, x1, x2, x3⟩ := op_fault hR
    rw [x1]
    simp only [Option.bind_some]
    rw [x2]
    simp only [Option.bind_some, if_true]
    exact fin m2 x3
  rw [if_neg h2]
  by_cases h3 : c = 3
  · rw [if_pos h3]
    obtain ⟨v, m1, m2, x1, x2, x3⟩ := op_fingers hR
    rw [x1]
    simp only [Option.bind_some]
    rw [x2]
    simp only [Option.bind_some, if_true]
    exact fin m2 x3
  rw [if_neg h3]
  by_cases h4 : c = 4
  · rw [if_pos h4]
    obtain ⟨v, m1, m2, x1, x2, x3⟩ := op_glass p q hR
    rw [x1]
    simp only [Option.bind_some]
    rw [x2]
    simp only [Option.bind_some, if_true]
    exact fin m2 x3
  rw [if_neg h4]
  by_cases h5 : c = 5
  · rw [if_pos h5]
    obtain ⟨v, m1, m2, x1, x2, x3⟩ := op_air p q hR
    rw [x1]
    simp only [Option.bind_some]
    rw [x2]
    simp only [Option.bind_some, if_true]
    exact fin m2 x3
  rw [if_neg h5]
  by_cases h6 : c = 6
  · rw [if_pos h6]
    obtain ⟨v, m1, m2, x1, x2, x3⟩ := op_warm p hR
    rw [x1]
    simp only [Option.bind_some]
    rw [x2]
    simp only [Option.bind_some, if_true]
    exact fin m2 x3
  rw [if_neg h6]
  by_cases h7 : c = 7
  · rw [if_pos h7]
    obtain ⟨v, m1, m2, x1, x2, x3⟩ := op_noise p q hR
    rw [x1]
    simp only [Option.bind_some]
    rw [x2]
    simp only [Option.bind_some, if_true]
    exact fin m2 x3
  rw [if_neg h7]
  by_cases h8 : c = 8
  · rw [if_pos h8]
    obtain ⟨v, m1, m2, x1, x2, x3⟩ := op_seed p hR
    rw [x1]
    simp only [Option.bind_some]
    rw [x2]
    simp only [Option.bind_some, if_true]
    exact fin m2 x3
  rw [if_neg h8]
  by_cases h9 : c = 9
  · rw [if_pos h9]
    obtain ⟨v, m1, m2, x1, x2, x3⟩ := op_bound p q hR
    rw [x1]
    simp only [Option.bind_some]
    rw [x2]
    simp only [Option.bind_some, if_true]
    exact fin m2 x3
  rw [if_neg h9]
  by_cases h10 : c = 10
  · rw [if_pos h10]
    obtain ⟨v, m1, m2, x1, x2, x3⟩ := op_settle hR
    rw [x1]
    simp only [Option.bind_some]
    rw [x2]
    simp only [Option.bind_some, if_true]
    exact fin m2 x3
  rw [if_neg h10]
  by_cases h11 : c = 11
  · rw [if_pos h11]
    obtain ⟨v, m1, m2, x1, x2, x3⟩ := op_frames p hR ht
    rw [x1]
    simp only [Option.bind_some]
    rw [x2]
    simp only [Option.bind_some, if_true]
    exact fin m2 x3
  rw [if_neg h11]
  by_cases h12 : c = 12
  · rw [if_pos h12]
    obtain ⟨v, x1, x2⟩ := op_finger p q hR
    rw [x1, x2]
    simp only [Option.bind_some, if_true]
    exact fin w same
  rw [if_neg h12]
  by_cases h13 : c = 13
  · rw [if_pos h13]
    obtain ⟨v, x1, x2⟩ := op_cell p q hR
    rw [x1, x2]
    simp only [Option.bind_some, if_true]
    exact fin w same
  rw [if_neg h13]
  by_cases h14 : c = 14
  · rw [if_pos h14]
    obtain ⟨v, x1, x2⟩ := op_about p hR
    rw [x1, x2]
    simp only [Option.bind_some, if_true]
    exact fin w same
  rw [if_neg h14]
  by_cases h15 : c = 15
  · rw [if_pos h15]
    obtain ⟨v, x1, x2⟩ := op_spot p q hR
    rw [x1, x2]
    simp only [Option.bind_some, if_true]
    exact fin w same
  rw [if_neg h15]
  by_cases h16 : c = 16
  · rw [if_pos h16]
    obtain ⟨v, x1, x2⟩ := op_track p q hR
    rw [x1, x2]
    simp only [Option.bind_some, if_true]
    exact fin w same
  rw [if_neg h16]
  by_cases h17 : c = 17
  · rw [if_pos h17]
    obtain ⟨v, x1, x2⟩ := op_as p q hR
    rw [x1, x2]
    simp only [Option.bind_some, if_true]
    exact fin w same
  rw [if_neg h17]
  by_cases h18 : c = 18
  · rw [if_pos h18]
    obtain ⟨v, x1, x2⟩ := op_event p q hR ht
    rw [x1, x2]
    simp only [Option.bind_some, if_true]
    exact fin w same
  rw [if_neg h18]
  by_cases h19 : c = 19
  · rw [if_pos h19]
    obtain ⟨v, x1, x2⟩ := op_count p hR
    rw [x1, x2]
    simp only [Option.bind_some, if_true]
    exact fin w same
  rw [if_neg h19]
  by_cases h20 : c = 20
  · rw [if_pos h20]
    obtain ⟨v, x1, x2⟩ := op_events p hR
    rw [x1, x2]
    simp only [Option.bind_some, if_true]
    exact fin w same
  rw [if_neg h20]
  by_cases h21 : c = 21
  · rw [if_pos h21]
    obtain ⟨v, m2, x1, x2, x3⟩ := op_digest hR ht
    rw [x1]
    simp only [Option.bind_some]
    rw [x2]
    simp only [Option.bind_some]
    rw [if_pos ((lg_cmp_eq v v).mpr rfl)]
    exact fin m2 x3
  rw [if_neg h21]
  exact fin w same
theorem pure_law (L : Nat) (xs : Nat → Int32) (hL : L ≤ 1536) : ∃ mE : zM, f_L_law (L, xs) 0 zm0 = some (true, mE) := by
  have key : ∃ r, zloop (b_L_law_18 (L, xs)) zFU (0, zm0) = some r ∧ ∃ mE, r = .inl mE := by
    refine zforQ (fun j (st : Int32 × zM) => st.1 = nI (3 * j) ∧ Rel j st.2) (L / 3) _ ⟨rfl, Rel_0⟩ ?_ ?_ (by omega)
    · rintro j ⟨x, w⟩ hj ⟨rfl, hR⟩
      obtain ⟨s1, h1, h2, h3⟩ := law_step (xs := xs) hL (show 3 * j + 3 ≤ L by omega) hR
      exact ⟨s1, h1, h2, h3⟩
    · rintro ⟨x, w⟩ ⟨rfl, hR⟩
      refine ⟨.inl w, ?_, w, rfl⟩
      have c0 : (Int32.ofNat L) - 3 < nI (3 * (L / 3)) := by
        rw [lt32, show (Int32.ofNat L) - 3 = nI L - nI 3 from rfl, pk_sub_toInt (by omega) (by omega), nI_toInt (by omega)]
        omega
      unfold b_L_law_18
      simp only [c0, if_true]
  obtain ⟨r, h1, mE, h2⟩ := key
  subst h2
  refine ⟨mE, ?_⟩
  unfold f_L_law
  rw [h1]
  rfl
