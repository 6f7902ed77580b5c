/-! what the class lays down first -/
theorem copy_c {W H : Nat} {m : zM} (o : HOK W H (m.1 20, m.1 21, m.1 22, m.1 23)) : f_X2_copyFrom m = some (CK m (m.1 1 3) (zup 5 (m.1 20) (m.1 4), zup 5 (m.1 21) (m.1 5), zup 5 (m.1 22) (m.1 6), zup 5 (m.1 23) (m.1 7))) := by
  unfold f_X2_copyFrom
  rw [zfor (fun i => (nI i, CK m (m.1 1 3) (zup i (m.1 20) (m.1 4), zup i (m.1 21) (m.1 5), zup i (m.1 22) (m.1 6), zup i (m.1 23) (m.1 7)))) 5 (r := CK m (m.1 1 3) (zup 5 (m.1 20) (m.1 4), zup 5 (m.1 21) (m.1 5), zup 5 (m.1 22) (m.1 6), zup 5 (m.1 23) (m.1 7)))]
  · rfl
  · refine Prod.ext rfl (Prod.ext (funext fun x => funext fun y => ?_) rfl)
    simp only [CK, zup_0]
    by_cases h1 : x = 1
    · subst h1; by_cases h2 : y = 3 <;> simp [h2]
    · by_cases h4 : x = 4
      · subst h4; simp
      · by_cases h5 : x = 5
        · subst h5; simp
        · by_cases h6 : x = 6
          · subst h6; simp
          · by_cases h7 : x = 7
            · subst h7; simp
            · simp [h1, h4, h5, h6, h7]
  · intro j hj
    unfold b_X2_copyFrom_2
    have hz := zin_nI (show j < 5 by omega) (show 5 < 2 ^ 31 by decide)
    have e20 : ∀ (a : Int32) (g : zH), (CK m a g).1 20 = m.1 20 := fun _ _ => rfl
    have hb : zb (m.1 20 j) = true := by
      rcases (o j hj).1 with q | q
      · have q' : m.1 20 j = 0 := q
        rw [q']; rfl
      · have q' : m.1 20 j = 1 := q
        rw [q']; rfl
    simp only [nI_ge hj (show 5 < 2 ^ 31 by decide), show (5 : Int32) = nI 5 from rfl, if_false, hz, zg_t, nI_clamp (show j < 2 ^ 31 by omega), e20, hb, nI_1]
    refine congrArg some (congrArg Sum.inl (Prod.ext rfl ?_))
    refine Prod.ext (funext fun x => funext fun y => ?_) rfl
    simp only [zi, CK]
    by_cases h4 : x = 4
    · subst h4
      have := congrFun (zup_succ (i := j) (G := m.1 20) (g := m.1 4) rfl) y
      simpa using this
    · by_cases h5 : x = 5
      · subst h5
        have := congrFun (zup_succ (i := j) (G := m.1 21) (g := m.1 5) rfl) y
        simpa using this
      · by_cases h6 : x = 6
        · subst h6
          have := congrFun (zup_succ (i := j) (G := m.1 22) (g := m.1 6) rfl) y
          simpa using this
        · by_cases h7 : x = 7
          · subst h7
            have := congrFun (zup_succ (i := j) (G := m.1 23) (g := m.1 7) rfl) y
            simpa using this
          · simp [h4, h5, h6, h7]
  · rfl
  · decide
