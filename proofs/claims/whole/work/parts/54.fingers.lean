/-! ===== fault and fingers ===== -/
/-- what the class reads: the place where it ends, and what it holds then -/
theorem read_ok {n W H : Nat} {m : zM} (hn : n ≤ 40) (h11 : m.1 1 1 = nI n) (h68 : m.1 68 0 = nI n) (h2 : m.1 2 = m.1 69) (g1 : RGr W H m) (g2 : RHd W H m) :
    ∃ (ok : Bool) (j : Nat) (hE : zH), j ≤ n ∧ f_X5_read m = some (ok, CK (zi (zi m 1 4 (nI (2 * W - 2))) 1 5 (nI (2 * H - 2))) (nI j) hE) ∧ (ok = true → HOK W H hE) ∧
      ∀ (mm : zM) (tk : Int32), tk = 0 ∨ tk = 1 → mm.1 68 0 = nI n → mm.1 69 = m.1 69 → mm.1 68 2 = nI W → mm.1 68 3 = nI H → mm.1 75 = m.1 75 → mm.1 76 = m.1 76 → mm.1 77 = m.1 77 → mm.1 78 = m.1 78 →
        ∃ (a' b' c' d' e' : Int32) (h' : zH), f_X12_goAlong tk mm = some (nI j, MK mm a' b' c' d' e' tk h') ∧ (tk = 0 → h' = (m.1 75, m.1 76, m.1 77, m.1 78)) ∧ (ok = false → j = n → a' ≠ 2 ∧ (a' = 5 → b' < 10)) ∧
        (ok = true → j = n ∧ ((a' = 2 ∧ (tk = 1 → HE hE h')) ∨ (a' = 5 ∧ ¬ b' < 10 ∧ ∃ q, q < 5 ∧ c' = nI q ∧ (tk = 1 → HE hE (hput h' q d' e' b'))))) := by
  obtain ⟨_, w3, w8, h3, h8, q1, q2, _, q4, q5, _⟩ := id g1
  have o75 : HOK W H (m.1 75, m.1 76, m.1 77, m.1 78) := fun k hk => g2.2 k hk
  have e20 : HE (m.1 20, m.1 21, m.1 22, m.1 23) (m.1 75, m.1 76, m.1 77, m.1 78) := fun k hk => g2.1 k hk
  have o20 : HOK W H (m.1 20, m.1 21, m.1 22, m.1 23) := fun k hk => by
    have a := e20 k hk
    have b := o75 k hk
    simp only at a b ⊢
    rw [a.1, a.2.1, a.2.2.1, a.2.2.2]
    exact b
  have m2w : ∀ k : Nat, 3 ≤ k → 2 * nI k - 2 = nI (2 * k - 2) := fun k hk => by
    rw [show (2 : Int32) = nI 2 from rfl, pk_mul]
    conv => lhs; rw [show 2 * k = (2 * k - 2) + 2 by omega, ← nI_add, Int32.add_sub_cancel]
  generalize hmc : zi (zi m 1 4 (nI (2 * W - 2))) 1 5 (nI (2 * H - 2)) = mc
  have c20 : mc.1 20 = m.1 20 := by rw [← hmc]; simp [zi]
  have c21 : mc.1 21 = m.1 21 := by rw [← hmc]; simp [zi]
  have c22 : mc.1 22 = m.1 22 := by rw [← hmc]; simp [zi]
  have c23 : mc.1 23 = m.1 23 := by rw [← hmc]; simp [zi]
  have hc0 : HOK W H (zup 5 (mc.1 20) (mc.1 4), zup 5 (mc.1 21) (mc.1 5), zup 5 (mc.1 22) (mc.1 6), zup 5 (mc.1 23) (mc.1 7)) := fun k hk => by
    have := o20 k hk
    simp only [zup_lt hk, c20, c21, c22, c23]
    exact this
  have he0 : HE (zup 5 (mc.1 20) (mc.1 4), zup 5 (mc.1 21) (mc.1 5), zup 5 (mc.1 22) (mc.1 6), zup 5 (mc.1 23) (mc.1 7)) (m.1 75, m.1 76, m.1 77, m.1 78) := fun k hk => by
    have := e20 k hk
    simp only [zup_lt hk, c20, c21, c22, c23]
    exact this
  have hrd : f_X5_read m = ((zloop b_X5_read_39 zFU (nI 0, CK mc (nI 0) (zup 5 (mc.1 20) (mc.1 4), zup 5 (mc.1 21) (mc.1 5), zup 5 (mc.1 22) (mc.1 6), zup 5 (mc.1 23) (mc.1 7)))).bind fun r4 => Sum.elim (fun r4 => some (false, r4)) (fun v5 => some v5) r4) := by
    unfold f_X5_read
    rw [q1, q2, m2w W w3, m2w H h3, hmc, copy_c (W := W) (H := H) (by rw [c20, c21, c22, c23]; exact o20)]
    simp only [Option.bind_some, CK_at]
    rfl
  have ph : ∀ mm : zM, mm.1 68 0 = nI n → mm.1 69 = m.1 69 → mm.1 68 2 = nI W → mm.1 68 3 = nI H → PH mc mm n W H := fun mm a b c d => by
    refine ⟨?_, ?_, ?_, ?_, a, c, d, hn, w3, w8, h3, h8⟩
    · rw [← hmc, ← h11]; simp [zi]
    · rw [← hmc, b, ← h2]; simp [zi]
    · rw [← hmc]; simp [zi]
    · rw [← hmc]; simp [zi]
  have main : ∀ (mm : zM) (tk : Int32), tk = 0 ∨ tk = 1 → mm.1 68 0 = nI n → mm.1 69 = m.1 69 → mm.1 68 2 = nI W → mm.1 68 3 = nI H → mm.1 75 = m.1 75 → mm.1 76 = m.1 76 → mm.1 77 = m.1 77 → mm.1 78 = m.1 78 →
      ∃ (ok : Bool) (j : Nat) (hE : zH), j ≤ n ∧ f_X5_read m = some (ok, CK mc (nI j) hE) ∧ (ok = true → HOK W H hE) ∧
        ∃ (a' b' c' d' e' : Int32) (h' : zH), f_X12_goAlong tk mm = some (nI j, MK mm a' b' c' d' e' tk h') ∧ (tk = 0 → h' = (m.1 75, m.1 76, m.1 77, m.1 78)) ∧ (ok = false → j = n → a' ≠ 2 ∧ (a' = 5 → b' < 10)) ∧
        (ok = true → j = n ∧ ((a' = 2 ∧ (tk = 1 → HE hE h')) ∨ (a' = 5 ∧ ¬ b' < 10 ∧ ∃ q, q < 5 ∧ c' = nI q ∧ (tk = 1 → HE hE (hput h' q d' e' b'))))) := by
    intro mm tk htk a b c d x75 x76 x77 x78
    obtain ⟨ok, j, hE, l1, l2, x1, x2, x3, x4, x5, x6, l3, l4, l5, l6⟩ := read_loop (ph mm a b c d) o75 htk n 0 0 _ (m.1 75, m.1 76, m.1 77, m.1 78) (-1) (mm.1 68 49) (mm.1 68 50) (mm.1 68 51) zFU (by omega) (by omega) (by omega) hc0 (fun _ => rfl) (fun _ => he0) (by unfold zFU; omega)
    refine ⟨ok, j, hE, l1, by rw [hrd]; exact l2, fun z => (l6 z).2.1, x1, x2, x3, x4, x5, x6, ?_, l4, l5, fun z => ⟨(l6 z).1, (l6 z).2.2⟩⟩
    unfold f_X12_goAlong
    have hst : zi (zi (zi mm 68 47 0) 68 48 (-1)) 68 52 tk = MK mm 0 (-1) (mm.1 68 49) (mm.1 68 50) (mm.1 68 51) tk (m.1 75, m.1 76, m.1 77, m.1 78) := by
      refine Prod.ext (funext fun p => funext fun y => ?_) rfl
      simp only [zi, MK, ← x75, ← x76, ← x77, ← x78]
      by_cases z : p = 68
      · subst z
        by_cases z1 : y = 47
        · subst z1; simp
        · by_cases z2 : y = 48
          · subst z2; simp
          · by_cases z3 : y = 49
            · subst z3; simp
            · by_cases z4 : y = 50
              · subst z4; simp
              · by_cases z5 : y = 51
                · subst z5; simp
                · by_cases z6 : y = 52
                  · subst z6; simp
                  · simp [z1, z2, z3, z4, z5, z6]
      · by_cases z1 : p = 75
        · subst z1; simp
        · by_cases z2 : p = 76
          · subst z2; simp
          · by_cases z3 : p = 77
            · subst z3; simp
            · by_cases z4 : p = 78
              · subst z4; simp
              · simp [z, z1, z2, z3, z4]
    have hz : zb tk = true := by rcases htk with rfl | rfl <;> rfl
    have l3' : zloop b_X12_goAlong_17 zFU (0, MK mm 0 (-1) (mm.1 68 49) (mm.1 68 50) (mm.1 68 51) tk (m.1 75, m.1 76, m.1 77, m.1 78)) = some (nI j, MK mm x1 x2 x3 x4 x5 tk x6) := l3 zFU (by unfold zFU; omega)
    rw [hst, hz, zg_t, l3']
    rfl
  obtain ⟨ok, j, hE, l1, l2, l3, _⟩ := main m 0 (Or.inl rfl) h68 rfl q4 q5 rfl rfl rfl rfl
  refine ⟨ok, j, hE, l1, l2, l3, fun mm tk htk a b c d x75 x76 x77 x78 => ?_⟩
  obtain ⟨ok2, j2, hE2, k1, k2, k3, k4⟩ := main mm tk htk a b c d x75 x76 x77 x78
  rw [l2] at k2
  injection k2 with k2
  obtain ⟨e1, e2⟩ := Prod.mk.inj k2
  subst e1
  have ej : nI j = nI j2 := congrArg (fun x : zM => x.1 1 3) e2
  have ejj : j = j2 := (nI_eq (by omega) (by omega)).mp ej
  have eh : hE = hE2 := Prod.ext (congrArg (fun x : zM => x.1 4) e2) (Prod.ext (congrArg (fun x : zM => x.1 5) e2) (Prod.ext (congrArg (fun x : zM => x.1 6) e2) (congrArg (fun x : zM => x.1 7) e2)))
  subst ejj
  subst eh
  exact k4
theorem op_fault {t : Nat} {m : zM} (h : Rel t m) : ∃ v m1 m2, f_X11_fault m = some (v, m1) ∧ f_X12_fault m1 = some (v, m2) ∧ Rel (t + 1) m2 := by
  obtain ⟨hP, hJ, hC, hR, hG⟩ := id h
  unfold f_X11_fault f_X12_fault
  rcases hG with hG | ⟨W, H, hG⟩
  · exact ⟨-10003, m, m, by rw [if_pos hG.1], by rw [isG_f hG.2.1]; rfl, h.mono (by omega)⟩
  · obtain ⟨g1, g2, g3, g4, g5, g6, g7, g8, g9⟩ := id hG
    obtain ⟨p1, ⟨n, p2, p3⟩, p4⟩ := id hP
    obtain ⟨ok, j, hE, l1, l2, l3, l4⟩ := read_ok p2 (by rw [p1, p3]) p3 p4 g1 g2
    obtain ⟨a', b', c', d', e', h', k1, k2, k3, k4⟩ := l4 (CK (zi (zi m 1 4 (nI (2 * W - 2))) 1 5 (nI (2 * H - 2))) (nI j) hE) 0 (Or.inl rfl) (by rw [← p3]; rfl) rfl (by rw [← pr_wide hG]; rfl) (by rw [← pr_high hG]; rfl) rfl rfl rfl rfl
    have k2' := k2 rfl
    subst k2'
    refine ⟨nI j, CK (zi (zi m 1 4 (nI (2 * W - 2))) 1 5 (nI (2 * H - 2))) (nI j) hE, MK (CK (zi (zi m 1 4 (nI (2 * W - 2))) 1 5 (nI (2 * H - 2))) (nI j) hE) a' b' c' d' e' 0 (m.1 75, m.1 76, m.1 77, m.1 78), ?_, ?_, ?_⟩
    · rw [pr_class hG, if_neg (by decide), l2]
      rfl
    · have e1 : (CK (zi (zi m 1 4 (nI (2 * W - 2))) 1 5 (nI (2 * H - 2))) (nI j) hE).1 68 2 = nI W := by rw [← pr_wide hG]; rfl
      rw [isG_t e1 g1.2.1 g1.2.2.1, k1]
      rfl
    · exact ⟨(RP.cg hP rfl rfl rfl rfl), RJ.mono (RJ.cg hJ rfl rfl rfl rfl rfl rfl rfl rfl rfl rfl) (by omega), (RC.cg hC rfl rfl rfl rfl rfl rfl rfl rfl rfl rfl), (RRw.cg hR rfl rfl), Or.inr ⟨W, H, (RGr.cg g1 rfl rfl rfl rfl rfl rfl rfl rfl rfl rfl), (RHd.cg g2 rfl rfl rfl rfl rfl rfl rfl rfl), (RSn.cg g3 rfl rfl rfl rfl rfl), (RSf.cg g4 rfl rfl rfl rfl rfl rfl rfl rfl rfl rfl), (RSt.cg g5 rfl rfl), (RDr.cg g6 rfl rfl rfl rfl rfl rfl), (RFr.cg g7 rfl rfl rfl rfl rfl rfl), (RSp.cg g8 rfl rfl rfl rfl rfl rfl rfl rfl rfl rfl rfl rfl rfl rfl), (RTk.cg g9 hR rfl rfl rfl rfl rfl rfl rfl rfl rfl rfl rfl rfl rfl rfl rfl rfl rfl rfl)⟩⟩
/-! the fingers are laid -/
def CJ (m : zM) (h : zH) : zM := (fun x y => if x = 20 then h.1 y else if x = 21 then h.2.1 y else if x = 22 then h.2.2.1 y else if x = 23 then h.2.2.2 y else m.1 x y, m.2)
theorem copy_v1 {W H : Nat} {m : zM} (o : HOK W H (m.1 4, m.1 5, m.1 6, m.1 7)) : f_X2_copyFrom_v1 m = some (CJ m (zup 5 (m.1 4) (m.1 20), zup 5 (m.1 5) (m.1 21), zup 5 (m.1 6) (m.1 22), zup 5 (m.1 7) (m.1 23))) := by
  unfold f_X2_copyFrom_v1
  rw [zfor (fun i => (nI i, CJ m (zup i (m.1 4) (m.1 20), zup i (m.1 5) (m.1 21), zup i (m.1 6) (m.1 22), zup i (m.1 7) (m.1 23)))) 5 (r := CJ m (zup 5 (m.1 4) (m.1 20), zup 5 (m.1 5) (m.1 21), zup 5 (m.1 6) (m.1 22), zup 5 (m.1 7) (m.1 23)))]
  · rfl
  · refine Prod.ext rfl (Prod.ext (funext fun x => funext fun y => ?_) rfl)
    simp only [CJ, zup_0]
    by_cases h4 : x = 20
    · subst h4; simp
    · by_cases h5 : x = 21
      · subst h5; simp
      · by_cases h6 : x = 22
        · subst h6; simp
        · by_cases h7 : x = 23
          · subst h7; simp
          · simp [h4, h5, h6, h7]
  · intro j hj
    unfold b_X2_copyFrom_v1_2
    have hz := zin_nI (show j < 5 by omega) (show 5 < 2 ^ 31 by decide)
    have e4 : ∀ (g : zH), (CJ m g).1 4 = m.1 4 := fun _ => rfl
    have e5 : ∀ (g : zH), (CJ m g).1 5 = m.1 5 := fun _ => rfl
    have e6 : ∀ (g : zH), (CJ m g).1 6 = m.1 6 := fun _ => rfl
    have e7 : ∀ (g : zH), (CJ m g).1 7 = m.1 7 := fun _ => rfl
    have hb : zb (m.1 4 j) = true := by
      rcases (o j hj).1 with q | q
      · have q' : m.1 4 j = 0 := q
        rw [q']; rfl
      · have q' : m.1 4 j = 1 := q
        rw [q']; rfl
    simp only [nI_ge hj (show 5 < 2 ^ 31 by decide), show (5 : Int32) = nI 5 from rfl, if_false, hz, zg_t, nI_clamp (show j < 2 ^ 31 by omega), e4, e5, e6, e7, hb, nI_1]
    refine congrArg some (congrArg Sum.inl (Prod.ext rfl ?_))
    refine Prod.ext (funext fun x => funext fun y => ?_) rfl
    simp only [zi, CJ]
    by_cases h4 : x = 20
    · subst h4
      have := congrFun (zup_succ (i := j) (G := m.1 4) (g := m.1 20) rfl) y
      simpa using this
    · by_cases h5 : x = 21
      · subst h5
        have := congrFun (zup_succ (i := j) (G := m.1 5) (g := m.1 21) rfl) y
        simpa using this
      · by_cases h6 : x = 22
        · subst h6
          have := congrFun (zup_succ (i := j) (G := m.1 6) (g := m.1 22) rfl) y
          simpa using this
        · by_cases h7 : x = 23
          · subst h7
            have := congrFun (zup_succ (i := j) (G := m.1 7) (g := m.1 23) rfl) y
            simpa using this
          · simp [h4, h5, h6, h7]
  · rfl
  · decide
theorem sensed_eq (x y : Int32) (m : zM) : f_X2_sensedAt x y m = some (zfeltN (m.1 20) (m.1 21) (m.1 22) (m.1 23) x y 5) := by
  unfold f_X2_sensedAt
  rw [zfor (fun k => (zfeltN (m.1 20) (m.1 21) (m.1 22) (m.1 23) x y k, nI k)) 5 (r := zfeltN (m.1 20) (m.1 21) (m.1 22) (m.1 23) x y 5)]
  · rfl
  · rfl
  · intro k hk
    unfold b_X2_sensedAt_5 j_X2_sensedAt_76 f_J9_max_7cf53
    have hz := zin_nI (show k < 5 by omega) (show 5 < 2 ^ 31 by decide)
    simp only [nI_ge hk (show 5 < 2 ^ 31 by decide), show (5 : Int32) = nI 5 from rfl, if_false, hz, zg_t, nI_clamp (show k < 2 ^ 31 by omega), nI_1]
    have e : zfeltN (m.1 20) (m.1 21) (m.1 22) (m.1 23) x y (k + 1) = zfeltN (m.1 20) (m.1 21) (m.1 22) (m.1 23) x y k + zfelt1 (m.1 20 k) (m.1 21 k) (m.1 22 k) (m.1 23 k) x y := rfl
    rw [e]
    unfold zfelt1
    by_cases h0 : m.1 20 k = 0
    · simp [h0]
    · simp only [h0, if_false]
      generalize m.1 23 k - 12 * ((2 * x - m.1 21 k) * (2 * x - m.1 21 k) + (2 * y - m.1 22 k) * (2 * y - m.1 22 k)) = z
      by_cases hz2 : 0 < z
      · simp only [hz2, if_true, Option.bind_some]
      · simp only [hz2, if_false, Option.bind_some]
  · rfl
  · decide
theorem zfeltN_congr {o u v p o' u' v' p' : Nat → Int32} {x y : Int32} : ∀ (N : Nat), (∀ k, k < N → o k = o' k ∧ u k = u' k ∧ v k = v' k ∧ p k = p' k) → zfeltN o u v p x y N = zfeltN o' u' v' p' x y N
  | 0, _ => rfl
  | N + 1, h => by
    unfold zfeltN
    rw [zfeltN_congr N (fun k hk => h k (by omega)), (h N (by omega)).1, (h N (by omega)).2.1, (h N (by omega)).2.2.1, (h N (by omega)).2.2.2]
theorem feel_eq {W H : Nat} {m : zM} (g : RGr W H m) (h64 : W * H ≤ 64) : f_X9_feel m = some (zrow m 34 (zup (W * H) (zfelt (m.1 20) (m.1 21) (m.1 22) (m.1 23) W) (m.1 34))) := by
  obtain ⟨_, _, _, _, _, _, _, q3, _, _, q6⟩ := g
  unfold f_X9_feel
  rw [zfor (fun i => (nI i, zrow m 34 (zup i (zfelt (m.1 20) (m.1 21) (m.1 22) (m.1 23) W) (m.1 34)))) (W * H) (r := zrow m 34 (zup (W * H) (zfelt (m.1 20) (m.1 21) (m.1 22) (m.1 23) W) (m.1 34)))]
  · rfl
  · rw [zup_0, zrow_self]
    rfl
  · intro c hc
    unfold b_X9_feel_2
    have hz := zin_nI (show c < 64 by omega) (show 64 < 2 ^ 31 by decide)
    have e14 : ∀ g, (zrow m 34 g).1 14 = m.1 14 := fun g => zrow_ne (by decide)
    have e15 : ∀ g, (zrow m 34 g).1 15 = m.1 15 := fun g => zrow_ne (by decide)
    have e16 : ∀ g, (zrow m 34 g).1 16 = m.1 16 := fun g => zrow_ne (by decide)
    have e20 : ∀ g, (zrow m 34 g).1 20 = m.1 20 := fun g => zrow_ne (by decide)
    have e21 : ∀ g, (zrow m 34 g).1 21 = m.1 21 := fun g => zrow_ne (by decide)
    have e22 : ∀ g, (zrow m 34 g).1 22 = m.1 22 := fun g => zrow_ne (by decide)
    have e23 : ∀ g, (zrow m 34 g).1 23 = m.1 23 := fun g => zrow_ne (by decide)
    simp only [e14, q3, nI_ge hc (show W * H < 2 ^ 31 by omega), if_false, hz, zg_t, nI_clamp (show c < 2 ^ 31 by omega), e15, e16, (q6 c hc).1, (q6 c hc).2.1, sensed_eq, e20, e21, e22, e23, Option.bind_some, nI_1, zi_zrow]
    rw [zup_succ (i := c) (G := zfelt (m.1 20) (m.1 21) (m.1 22) (m.1 23) W) (g := m.1 34) rfl]
  · unfold b_X9_feel_2
    have e14 : ∀ g, (zrow m 34 g).1 14 = m.1 14 := fun g => zrow_ne (by decide)
    simp only [e14, q3, nI_le (Nat.le_refl (W * H)) (show W * H < 2 ^ 31 by omega), if_true]
  · omega
theorem onCount_eq (m : zM) : f_X2_onCount m = some (zsum (fun k => if m.1 20 k = 0 then 0 else 1) 5) := by
  unfold f_X2_onCount
  rw [zfor (fun k => (zsum (fun k => if m.1 20 k = 0 then 0 else 1) k, nI k)) 5 (r := zsum (fun k => if m.1 20 k = 0 then 0 else 1) 5)]
  · rfl
  · rfl
  · intro k hk
    unfold b_X2_onCount_4 j_X2_onCount_21
    have hz := zin_nI (show k < 5 by omega) (show 5 < 2 ^ 31 by decide)
    simp only [nI_ge hk (show 5 < 2 ^ 31 by decide), show (5 : Int32) = nI 5 from rfl, if_false, hz, zg_t, nI_clamp (show k < 2 ^ 31 by omega), nI_1, zsum]
    by_cases h0 : m.1 20 k = 0
    · simp [h0]
    · simp [h0]
  · rfl
  · decide
theorem onMany_eq (m : zM) : f_X12_onMany m = some (zsum (fun k => if m.1 75 k = 0 then 0 else 1) 5) := by
  unfold f_X12_onMany
  rw [zfor (fun k => (zsum (fun k => if m.1 75 k = 0 then 0 else 1) k, nI k)) 5 (r := zsum (fun k => if m.1 75 k = 0 then 0 else 1) 5)]
  · rfl
  · rfl
  · intro k hk
    unfold b_X12_onMany_4 j_X12_onMany_24
    have hz := zin_nI (show k < 5 by omega) (show 5 < 2 ^ 31 by decide)
    simp only [nI_ge hk (show 5 < 2 ^ 31 by decide), show (5 : Int32) = nI 5 from rfl, if_false, hz, zg_t, nI_clamp (show k < 2 ^ 31 by omega), nI_1, zsum]
    by_cases h0 : m.1 75 k = 0
    · simp [h0]
    · simp [h0]
  · rfl
  · decide
