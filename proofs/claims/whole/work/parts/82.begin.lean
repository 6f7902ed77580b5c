/-! ===== a frame: new tracks ===== -/
theorem begin_ok {mc mm : zM} {S T : Nat} (hT6 : T ≤ 6) (hS6 : S ≤ 6) (c60 : mc.1 60 1 = nI T) (m27 : mm.1 68 27 = nI T) (c44 : mc.1 44 4 = nI S) (m20 : mm.1 68 20 = nI S) (hid : mc.1 60 2 = mm.1 68 44) (h45 : ∀ j, j < 6 → mc.2.2 45 j = j) (p1 : ∀ j, j < 6 → mc.2.2 61 j < 6) (p2 : ∀ i j, i < 6 → j < 6 → mc.2.2 61 i = mc.2.2 61 j → i = j) (hTk : ∀ j, j < T → TE mc mm (mc.2.2 61 j) j ∧ TB mm j) (hSp : ∀ s, s < S → SE mc mm s ∧ SB mm s) (h26 : mc.1 26 3 = mm.1 80 3) :
    ∃ mc' mm' T', f_X10_beginNew mc = some mc' ∧ f_X12_beginAll mm = some mm' ∧ Fr [46, 47, 48, 49, 50, 51, 60, 62, 63, 64, 65, 66, 67] mc mc' ∧ Fr [68, 86, 87, 88, 89, 90, 91, 92, 93, 94, 95] mm mm' ∧ (∀ p, p ≠ 27 → p ≠ 44 → mm'.1 68 p = mm.1 68 p) ∧ T' ≤ 6 ∧ mc'.1 60 1 = nI T' ∧ mm'.1 68 27 = nI T' ∧ mc'.1 60 2 = mm'.1 68 44 ∧ (∀ j, j < T' → TE mc' mm' (mc.2.2 61 j) j ∧ TB mm' j) ∧ ∀ s, s < S → SE mc' mm' s := by
  have loop : ∃ (w v : zM), zloop b_X10_beginNew_2 zFU (0, mc) = some w ∧ zloop b_X12_beginAll_2 zFU (0, mm) = some v ∧ ∃ T', Fr [46, 47, 48, 49, 50, 51, 60, 62, 63, 64, 65, 66, 67] mc w ∧ Fr [68, 86, 87, 88, 89, 90, 91, 92, 93, 94, 95] mm v ∧ (∀ p, p ≠ 27 → p ≠ 44 → v.1 68 p = mm.1 68 p) ∧ T' ≤ 6 ∧ w.1 60 1 = nI T' ∧ v.1 68 27 = nI T' ∧ w.1 60 2 = v.1 68 44 ∧ (∀ j, j < T' → TE w v (mc.2.2 61 j) j ∧ TB v j) ∧ ∀ s, s < S → SE w v s := by
    refine zfor2 (fun i (st : Int32 × zM) (st' : Int32 × zM) => st.1 = nI i ∧ st'.1 = nI i ∧ ∃ T', Fr [46, 47, 48, 49, 50, 51, 60, 62, 63, 64, 65, 66, 67] mc st.2 ∧ Fr [68, 86, 87, 88, 89, 90, 91, 92, 93, 94, 95] mm st'.2 ∧ (∀ p, p ≠ 27 → p ≠ 44 → st'.2.1 68 p = mm.1 68 p) ∧ T' ≤ 6 ∧ st.2.1 60 1 = nI T' ∧ st'.2.1 68 27 = nI T' ∧ st.2.1 60 2 = st'.2.1 68 44 ∧ (∀ j, j < T' → TE st.2 st'.2 (mc.2.2 61 j) j ∧ TB st'.2 j) ∧ ∀ s, s < S → SE st.2 st'.2 s) S _ ⟨rfl, rfl, T, Fr.refl, Fr.refl, fun _ _ _ => rfl, hT6, c60, m27, hid, hTk, fun s hs => (hSp s hs).1⟩ ?_ ?_ (by omega)
    · rintro i ⟨x, w⟩ ⟨x', v⟩ hi ⟨rfl, rfl, t, f1, f2, f3, f4, f5, f6, f7, f8, f9⟩
      simp only at f1 f2 f3 f5 f6 f7 f8 f9
      have ew44 : w.1 44 = mc.1 44 := f1.2 44 (by decide)
      have ew26 : w.1 26 = mc.1 26 := f1.2 26 (by decide)
      have ev80 : v.1 80 = mm.1 80 := f2.2 80 (by decide)
      have ev20 : v.1 68 20 = nI S := by rw [f3 20 (by decide) (by decide)]; exact m20
      have e45 : w.2.2 45 i = i := by rw [f1.1]; exact h45 i (by omega)
      obtain ⟨s0, s1, s2, s3, s4, s5⟩ := id (f9 i hi)
      have hi6 : i < 6 := by omega
      unfold b_X10_beginNew_2 b_X12_beginAll_2 j_X10_beginNew_60 j_X12_beginAll_140
      simp only [ew44, c44, ev20, nI_ge hi (show S < 2 ^ 31 by omega), if_false, zin_nI hi6 (show 6 < 2 ^ 31 by decide), zg_t, nI_clamp (show i < 2 ^ 31 by omega), e45, Nat.mod_eq_of_lt hi6, s5, f5, f6, nI_1]
      by_cases c1 : v.1 86 i = -1
      · rw [if_pos c1, if_pos c1]
        by_cases c2 : 6 ≤ t
        · rw [if_pos (show (6 : Int32) ≤ nI t from nI_le (a := 6) c2 (by omega)), if_pos (show (6 : Int32) ≤ nI t from nI_le (a := 6) c2 (by omega))]
          exact ⟨_, _, rfl, rfl, rfl, rfl, t, f1, f2, f3, f4, f5, f6, f7, f8, f9⟩
        · have ht6 : t < 6 := by omega
          rw [if_neg (show ¬ (6 : Int32) ≤ nI t from nI_ge (b := 6) ht6 (by decide)), if_neg (show ¬ (6 : Int32) ≤ nI t from nI_ge (b := 6) ht6 (by decide))]
          have hr := p1 t ht6
          have ew61 : w.2.2 61 = mc.2.2 61 := by rw [f1.1]
          simp only [zin_nI ht6 (show 6 < 2 ^ 31 by decide), zg_t, nI_clamp (show t < 2 ^ 31 by omega), ew61]
          obtain ⟨r, er⟩ : ∃ r, mc.2.2 61 t = r := ⟨_, rfl⟩
          rw [er] at hr ⊢
          have nab : 62 + r ≠ 46 + i := by omega
          have nba : 46 + i ≠ 62 + r := by omega
          have n26a : 26 ≠ 62 + r := by omega
          have n26b : 26 ≠ 46 + i := by omega
          have n60a : 60 ≠ 62 + r := by omega
          have n60b : 60 ≠ 46 + i := by omega
          have na60 : 62 + r ≠ 60 := by omega
          have nb60 : 46 + i ≠ 60 := by omega
          have n2660 : (26 : Nat) ≠ 60 := by decide
          obtain ⟨pv, hpv⟩ : ∃ pv : Int32, pv = if v.1 82 i < v.1 80 3 then 0 else 1 := ⟨_, rfl⟩
          have hpvb : pv = 0 ∨ pv = 1 := by rw [hpv]; split <;> simp
          have h26' : w.1 26 3 = v.1 80 3 := by rw [ew26, ev80]; exact h26
          obtain ⟨X, hX⟩ : ∃ X, X = zi (zi (zi (zi (zi (zi (zi (zi (zi (zi (zi (zi w 60 2 (v.1 68 44 + 1)) (62 + r) 0 (v.1 68 44 + 1)) (62 + r) 1 (w.1 (46 + i) 3)) (62 + r) 2 (w.1 (46 + i) 4)) (62 + r) 3 (w.1 (46 + i) 1)) (62 + r) 4 (w.1 (46 + i) 2)) (46 + i) 5 (v.1 68 44 + 1)) (62 + r) 5 1) (62 + r) 6 0) (62 + r) 7 0) (62 + r) 8 pv) 60 1 (nI (t + 1)) := ⟨_, rfl⟩
          obtain ⟨Y, hY⟩ : ∃ Y, Y = zi (zi (zi (zi (zi (zi (zi (zi (zi (zi (zi (zi v 68 44 (v.1 68 44 + 1)) 87 t (v.1 68 44 + 1)) 88 t (v.1 84 i)) 89 t (v.1 85 i)) 90 t (v.1 82 i)) 91 t (v.1 83 i)) 92 t 1) 93 t 0) 94 t 0) 95 t pv) 86 i (v.1 68 44 + 1)) 68 27 (nI (t + 1)) := ⟨_, rfl⟩
          have eC : ((f_X10_begin r i w).bind fun m4 => (some (.inl (nI (i + 1), zi m4 60 1 (m4.1 60 1 + 1))) : Option ((Int32 × zM) ⊕ zM))) = some (.inl (nI (i + 1), X)) := by
            rw [hX]
            unfold f_X10_begin f_X10_takeOver f_X10_isPalm j_X10_begin_53
            simp only [Nat.mod_eq_of_lt hr, Nat.mod_eq_of_lt hi6, Option.bind_some, ziA, ziO nab, ziO nba, ziO n26a, ziO n26b, ziO n60a, ziO n60b, ziO na60, ziO nb60, ziO n2660, f7, s1, h26', show zin (8 : Int32) 9 = true by decide, zg_t, show (8 : Int32).toNatClampNeg = 8 by decide]
            by_cases c : v.1 82 i < v.1 80 3
            · rw [if_pos c] at hpv
              subst hpv
              simp [c, bi_f, ziO n60a, f5, nI_1, ziA, ziO n60b]
            · rw [if_neg c] at hpv
              subst hpv
              simp [c, bi_nt, ziO n60a, f5, nI_1, ziA, ziO n60b]
          have eM : ((f_X12_lay (nI t) (nI i) (zi (zi v 68 44 (v.1 68 44 + 1)) 87 t (v.1 68 44 + 1))).bind fun m3 => zg (zin (m3.1 68 27) 6) (zg (zin (m3.1 68 27) 6) (zg (zin (m3.1 68 27) 6) (if (m3.1 82 i) < (m3.1 80 3) then (j_X12_beginAll_119 (nI i) 0 (m3.1 68 27) (zi (zi (zi m3 92 ((m3.1 68 27).toNatClampNeg) 1) 93 ((m3.1 68 27).toNatClampNeg) 0) 94 ((m3.1 68 27).toNatClampNeg) 0)) else (j_X12_beginAll_119 (nI i) 1 (m3.1 68 27) (zi (zi (zi m3 92 ((m3.1 68 27).toNatClampNeg) 1) 93 ((m3.1 68 27).toNatClampNeg) 0) 94 ((m3.1 68 27).toNatClampNeg) 0)))))) = some (.inl (nI (i + 1), Y)) := by
            rw [hY]
            unfold f_X12_lay j_X12_beginAll_119 j_X12_beginAll_140
            simp only [zin_nI hi6 (show 6 < 2 ^ 31 by decide), zin_nI ht6 (show 6 < 2 ^ 31 by decide), zg_t, nI_clamp (show i < 2 ^ 31 by omega), nI_clamp (show t < 2 ^ 31 by omega), Option.bind_some]
            by_cases c : v.1 82 i < v.1 80 3
            · rw [if_pos c] at hpv
              subst hpv
              simp [c, ziA, ziO, f6, zin_nI ht6 (show 6 < 2 ^ 31 by decide), zg_t, nI_clamp (show t < 2 ^ 31 by omega), show zb (0 : Int32) = true by decide, nI_1]
            · rw [if_neg c] at hpv
              subst hpv
              simp [c, ziA, ziO, f6, zin_nI ht6 (show 6 < 2 ^ 31 by decide), zg_t, nI_clamp (show t < 2 ^ 31 by omega), show zb (1 : Int32) = true by decide, nI_1]
          refine ⟨(nI (i + 1), X), (nI (i + 1), Y), eC, eM, rfl, rfl, t + 1, ?_, ?_, ?_, by omega, ?_, ?_, ?_, ?_, ?_⟩
          · have ha : 62 + r ∈ [46, 47, 48, 49, 50, 51, 60, 62, 63, 64, 65, 66, 67] := by simp; omega
            have hb : 46 + i ∈ [46, 47, 48, 49, 50, 51, 60, 62, 63, 64, 65, 66, 67] := by simp; omega
            show Fr _ mc X
            rw [hX]
            exact (((((((((((f1.st (by decide)).st ha).st ha).st ha).st ha).st ha).st hb).st ha).st ha).st ha).st ha).st (by decide)
          · show Fr _ mm Y
            rw [hY]
            exact (((((((((((f2.st (by decide)).st (by decide)).st (by decide)).st (by decide)).st (by decide)).st (by decide)).st (by decide)).st (by decide)).st (by decide)).st (by decide)).st (by decide)).st (by decide)
          · intro p hp hp2
            show Y.1 68 p = _
            rw [← f3 p hp hp2, hY]
            simp [zi, hp, hp2]
          · show X.1 60 1 = _
            rw [hX, ziE]
          · show Y.1 68 27 = _
            rw [hY, ziE]
          · show X.1 60 2 = Y.1 68 44
            rw [hX, hY]
            simp [ziA, ziO n60a, ziO n60b, ziO]
          · intro j hj
            show TE X Y (mc.2.2 61 j) j ∧ TB Y j
            by_cases ej : j = t
            · subst ej
              rw [er]
              constructor
              · rw [hX, hY]
                unfold TE
                simp [ziA, ziO nab, ziO nba, ziO na60, ziO nb60, ziO, s1, s2, s3, s4]
              · have hb := (hSp i hi).2
                unfold SB at hb
                rw [← f2.2 84 (by decide), ← f2.2 85 (by decide)] at hb
                rw [hY]
                unfold TB
                simp [ziA, ziO]
                exact ⟨hb.1, hb.2.1, hb.2.2.1, hb.2.2.2, hpvb⟩
            · obtain ⟨z1, z2⟩ := f8 j (by omega)
              have hne : mc.2.2 61 j ≠ r := fun z => ej (p2 j t (by omega) ht6 (z.trans er.symm))
              have hjl := p1 j (by omega)
              have oth : ∀ c, 87 ≤ c → c ≤ 95 → Y.1 c j = v.1 c j := by
                intro c h1 h2
                have n1 : c ≠ 68 := by omega
                have n2 : c ≠ 86 := by omega
                rw [hY]
                simp [zi, ej, n1, n2]
              have rowE : X.1 (62 + mc.2.2 61 j) = w.1 (62 + mc.2.2 61 j) := by
                have q1 : 62 + mc.2.2 61 j ≠ 60 := by omega
                have q2 : 62 + mc.2.2 61 j ≠ 62 + r := by omega
                have q3 : 62 + mc.2.2 61 j ≠ 46 + i := by omega
                rw [hX, zi_ne q1, zi_ne q2, zi_ne q2, zi_ne q2, zi_ne q2, zi_ne q3, zi_ne q2, zi_ne q2, zi_ne q2, zi_ne q2, zi_ne q2, zi_ne q1]
              exact ⟨z1.cg rowE oth, z2.cg oth⟩
          · intro s hs
            show SE X Y s
            by_cases es : s = i
            · subst es
              rw [hX, hY]
              unfold SE
              simp [ziA, ziO nab, ziO nba, ziO na60, ziO nb60, ziO, s0, s1, s2, s3, s4]
            · refine (f9 s hs).cg ?_ ?_
              · have q1 : 46 + s ≠ 60 := by omega
                have q2 : 46 + s ≠ 62 + r := by omega
                have q3 : 46 + s ≠ 46 + i := by omega
                rw [hX, zi_ne q1, zi_ne q2, zi_ne q2, zi_ne q2, zi_ne q2, zi_ne q3, zi_ne q2, zi_ne q2, zi_ne q2, zi_ne q2, zi_ne q2, zi_ne q1]
              · intro c h1 h2
                have n1 : c ≠ 68 := by omega
                have n87 : c ≠ 87 := by omega
                have n88 : c ≠ 88 := by omega
                have n89 : c ≠ 89 := by omega
                have n90 : c ≠ 90 := by omega
                have n91 : c ≠ 91 := by omega
                have n92 : c ≠ 92 := by omega
                have n93 : c ≠ 93 := by omega
                have n94 : c ≠ 94 := by omega
                have n95 : c ≠ 95 := by omega
                rw [hY]
                simp [zi, es, n1, n87, n88, n89, n90, n91, n92, n93, n94, n95]
      · rw [if_neg c1, if_neg c1]
        exact ⟨_, _, rfl, rfl, rfl, rfl, t, f1, f2, f3, f4, f5, f6, f7, f8, f9⟩
    · rintro ⟨x, w⟩ ⟨x', v⟩ ⟨rfl, rfl, t, f1, f2, f3, f4, f5, f6, f7, f8, f9⟩
      simp only at f1 f2 f3 f5 f6 f7 f8 f9
      have ew44 : w.1 44 = mc.1 44 := f1.2 44 (by decide)
      have ev20 : v.1 68 20 = nI S := by rw [f3 20 (by decide) (by decide)]; exact m20
      refine ⟨w, v, ?_, ?_, t, f1, f2, f3, f4, f5, f6, f7, f8, f9⟩
      · unfold b_X10_beginNew_2
        simp only [ew44, c44, nI_le (Nat.le_refl S) (show S < 2 ^ 31 by omega), if_true]
      · unfold b_X12_beginAll_2
        simp only [ev20, nI_le (Nat.le_refl S) (show S < 2 ^ 31 by omega), if_true]
  obtain ⟨w, v, l1, l2, t, f⟩ := loop
  refine ⟨w, v, t, ?_, ?_, f⟩
  · unfold f_X10_beginNew
    rw [l1]
    rfl
  · unfold f_X12_beginAll
    rw [l2]
    rfl
