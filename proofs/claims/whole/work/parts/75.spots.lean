/-! ===== a frame: the spots of both sides ===== -/
theorem nsum_ite {F : Nat → Nat} {h h' : Nat → Int32} {a a' : Int32} {n : Nat} (e : ∀ c, c < n → (h c = a ↔ h' c = a')) : nsum (fun c => if h c = a then F c else 0) n = nsum (fun c => if h' c = a' then F c else 0) n := by
  refine nsum_congr n fun k hk => ?_
  by_cases q : h k = a
  · rw [if_pos q, if_pos ((e k hk).mp q)]
  · rw [if_neg q, if_neg (fun z => q ((e k hk).mpr z))]
theorem nsum_bd {F : Nat → Nat} {h : Nat → Int32} {a : Int32} {n B : Nat} (hn : n ≤ 64) (hF : ∀ c, c < n → F c ≤ B) : nsum (fun c => if h c = a then F c else 0) n ≤ 64 * B := by
  have h1 : nsum (fun c => if h c = a then F c else 0) n ≤ nsum (fun _ => B) n := by
    refine nsum_le n fun k hk => ?_
    have := hF k hk
    split <;> omega
  rw [nsum_const] at h1
  exact Nat.le_trans h1 (Nat.mul_le_mul_right _ hn)
theorem nsum_q {F G : Nat → Nat} {h : Nat → Int32} {a : Int32} {n B : Nat} (hF : ∀ c, c < n → F c ≤ B * G c) : nsum (fun c => if h c = a then F c else 0) n ≤ B * nsum (fun c => if h c = a then G c else 0) n := by
  rw [← nsum_mul]
  refine nsum_le n fun k hk => ?_
  have := hF k hk
  split <;> omega
theorem spots_ok {mc mm : zM} {D : Nat → Int32} {W H s : Nat} {pk : Nat → Nat} {mp : Int32} (g : RGr W H mc) (hI : HI D W H mc (mm.1 100) s pk) (h10 : ∀ c, c < W * H → ¬ mc.1 41 c = -1 → 10 ≤ D c) (hDB : ∀ c, c < W * H → D c ≤ 6000) (hDc : ∀ k, k < W * H → mc.1 36 k = D k) (hDm : ∀ k, k < W * H → mm.1 73 k = D k) (hw : mm.1 68 2 = nI W) (hh : mm.1 68 3 = nI H) (hmp : mm.1 80 0 = mp) (h74 : ∀ c, c < W * H → mm.1 74 c = -1) (h45 : ∀ j, j < 6 → mc.2.2 45 j = j) :
    ∃ mc' mm' S, f_X8_choose mp mc = some mc' ∧ f_X12_laySpots mm = some mm' ∧ Fr [44, 46, 47, 48, 49, 50, 51, 52, 53, 54, 55, 56, 57, 58, 59] mc mc' ∧ Fr [68, 74, 81, 82, 83, 84, 85, 86] mm mm' ∧ (∀ j, j ≠ 20 → mm'.1 68 j = mm.1 68 j) ∧ S ≤ 6 ∧ mc'.1 44 4 = nI S ∧ mm'.1 68 20 = nI S ∧ (∀ q, q < S → (mc'.1 (46 + q) 0 = mm'.1 81 q ∧ mc'.1 (46 + q) 1 = mm'.1 82 q ∧ mc'.1 (46 + q) 2 = mm'.1 83 q ∧ mc'.1 (46 + q) 3 = mm'.1 84 q ∧ mc'.1 (46 + q) 4 = mm'.1 85 q ∧ mc'.1 (46 + q) 5 = mm'.1 86 q) ∧ 0 ≤ mm'.1 84 q ∧ mm'.1 84 q ≤ 112 ∧ 0 ≤ mm'.1 85 q ∧ mm'.1 85 q ≤ 112) ∧ ∀ c, c < W * H → mc'.1 52 c = mm'.1 74 c ∧ (mc'.1 53 c = 0 ↔ mm'.1 74 c = -1) := by
  obtain ⟨_, w3, w8, h3, h8, _, _, q3, _⟩ := id g
  have h64 : W * H ≤ 64 := Nat.mul_le_mul w8 h8
  obtain ⟨hs, k38, k39, kpk, k40, k41, kal, _⟩ := id hI
  have hmono : ∀ i j, i < s → j < s → (pk i < pk j ↔ i < j) := by
    intro i j hi hj
    constructor
    · intro q
      rcases Nat.lt_trichotomy i j with z | z | z
      · exact z
      · subst z; omega
      · have := kpk j i z hi
        omega
    · intro q
      exact kpk i j q hj
  generalize hdn : (fun c => (D c).toNatClampNeg) = dn
  have hdnB : ∀ c, c < W * H → dn c ≤ 6000 := by
    intro c hc
    have := hDB c hc
    rw [← hdn]
    show (D c).toNatClampNeg ≤ 6000
    rw [le32] at this
    have e : (6000 : Int32).toInt = 6000 := by decide
    rw [e] at this
    rw [Int32.toNatClampNeg]
    omega
  have hdnE : ∀ c, c < W * H → 10 ≤ D c → D c = nI (dn c) ∧ 10 ≤ dn c := by
    intro c hc h
    have hn : ¬ D c < 0 := fun z => by
      rw [le32] at h
      rw [lt32] at z
      have e : (10 : Int32).toInt = 10 := by decide
      have e0 : (0 : Int32).toInt = 0 := by decide
      omega
    obtain ⟨j, hj, e⟩ := nI_of hn
    have ed : dn c = j := by
      rw [← hdn]
      show (D c).toNatClampNeg = j
      rw [e, nI_clamp hj]
    rw [ed]
    refine ⟨e, ?_⟩
    rw [e] at h
    exact (nI_leI (a := 10) (by decide) hj).mp h
  have hill : ∀ i, i < s → ∀ c, c < W * H → (mc.1 41 c = nI i ↔ mm.1 100 c = nI (pk i)) := fun i hi c hc => hI.hill h64 hc hi
  have eN : ∀ i, i < s → hN (mc.1 41) (nI i) (W * H) = hN (mm.1 100) (nI (pk i)) (W * H) := fun i hi => nsum_ite (hill i hi)
  have eM : ∀ i, i < s → hM dn (mc.1 41) (nI i) (W * H) = hM dn (mm.1 100) (nI (pk i)) (W * H) := fun i hi => nsum_ite (hill i hi)
  have eC : ∀ i, i < s → hC W dn (mc.1 41) (nI i) (W * H) = hC W dn (mm.1 100) (nI (pk i)) (W * H) := fun i hi => nsum_ite (hill i hi)
  have eR : ∀ i, i < s → hR W dn (mc.1 41) (nI i) (W * H) = hR W dn (mm.1 100) (nI (pk i)) (W * H) := fun i hi => nsum_ite (hill i hi)
  have cm : ∀ c, c < W * H → c % W ≤ 7 := fun c _ => by have := Nat.mod_lt c (show 0 < W by omega); omega
  have cd : ∀ c, c < W * H → c / W ≤ 7 := fun c hc => by
    have : c / W < H := Nat.div_lt_of_lt_mul hc
    omega
  have bM : ∀ (h : Nat → Int32) a, hM dn h a (W * H) ≤ 64 * 6000 := fun h a => nsum_bd h64 hdnB
  have bC : ∀ (h : Nat → Int32) a, hC W dn h a (W * H) ≤ 64 * (112 * 6000) := fun h a => nsum_bd h64 (fun c hc => Nat.mul_le_mul (by have := cm c hc; omega) (hdnB c hc))
  have bR : ∀ (h : Nat → Int32) a, hR W dn h a (W * H) ≤ 64 * (112 * 6000) := fun h a => nsum_bd h64 (fun c hc => Nat.mul_le_mul (by have := cd c hc; omega) (hdnB c hc))
  have qC : ∀ (h : Nat → Int32) a, hC W dn h a (W * H) ≤ 112 * hM dn h a (W * H) := fun h a => nsum_q (fun c hc => Nat.mul_le_mul_right _ (by have := cm c hc; omega))
  have qR : ∀ (h : Nat → Int32) a, hR W dn h a (W * H) ≤ 112 * hM dn h a (W * H) := fun h a => nsum_q (fun c hc => Nat.mul_le_mul_right _ (by have := cd c hc; omega))
  have posM : ∀ i, i < s → mc.1 40 i = 1 → 0 < hM dn (mc.1 41) (nI i) (W * H) := by
    intro i hi ai
    have h1 := kal i hi ai
    have h2 := (k39 i hi).2
    have h3 := hdnE _ h2 (h10 _ h2 (by rw [h1]; exact nI_nm1 (by omega)))
    have h4 := nsum_ge (F := fun c => if mc.1 41 c = nI i then dn c else 0) (W * H) (pk i) h2
    simp only [h1, if_true] at h4
    unfold hM
    omega
  -- the two pictures of 'high' and 'chosen'
  generalize hMc : (fun i => hM dn (mc.1 41) (nI i) (W * H)) = Mc
  generalize hMm : (fun x => hM dn (mm.1 100) (nI x) (W * H)) = Mm
  have eMc : ∀ i, hM dn (mc.1 41) (nI i) (W * H) = Mc i := fun i => by rw [← hMc]
  have eMm : ∀ x, hM dn (mm.1 100) (nI x) (W * H) = Mm x := fun x => by rw [← hMm]
  have eMM : ∀ i, i < s → Mm (pk i) = Mc i := fun i hi => by rw [← eMc, ← eMm, eM i hi]
  generalize hQC : (fun i => decide (mc.1 40 i = 1) && !decide (D (pk i) < mp)) = QC
  have eQC : ∀ i, QC i = (decide (mc.1 40 i = 1) && !decide (D (pk i) < mp)) := fun i => by rw [← hQC]
  have qtop : ∀ i, i < s → (mm.1 100 (pk i) = nI (pk i) ↔ mc.1 40 i = 1) := by
    intro i hi
    rw [hI.top h64 (k39 i hi).2]
    constructor
    · rintro ⟨j, hj, aj, e⟩
      rw [← hI.inj hj hi e]
      exact aj
    · intro a
      exact ⟨i, hi, a, rfl⟩
  have eQ : ∀ i, i < s → Qm mm (pk i) = QC i := by
    intro i hi
    rw [eQC]
    unfold Qm
    rw [hDm _ (k39 i hi).2, hmp]
    congr 1
    exact decide_eq_decide.mpr (qtop i hi)
  have qEx : ∀ k, k < W * H → Qm mm k = true → ∃ i, i < s ∧ pk i = k := by
    intro k hk h
    unfold Qm at h
    rw [Bool.and_eq_true, decide_eq_true_eq] at h
    obtain ⟨i, hi, _, e⟩ := (hI.top h64 hk).mp h.1
    exact ⟨i, hi, e⟩
  have eAh : ∀ i j, i < s → j < s → ahN Mm (pk j) (pk i) = ahN Mc j i := by
    intro i j hi hj
    have : ahN Mm (pk j) (pk i) = true ↔ ahN Mc j i = true := by
      rw [ah_iff, ah_iff, eMM i hi, eMM j hj, hmono j i hj hi]
    cases a : ahN Mc j i with
    | true => exact this.mpr a
    | false =>
      cases b : ahN Mm (pk j) (pk i) with
      | false => rfl
      | true => rw [this.mp b] at a; cases a
  have eCh : ∀ i, i < s → cho Mm (Qm mm) (W * H) (pk i) = cho Mc QC s i := by
    intro i hi
    unfold cho
    rw [eQ i hi]
    rw [cnt_map (pk := pk) (Q := fun j => QC j && ahN Mc j i) (Q' := fun k => Qm mm k && ahN Mm k (pk i)) (W * H) s (fun j hj => (k39 j hj).2) kpk ?_]
    intro k hk
    rw [Bool.and_eq_true]
    constructor
    · rintro ⟨a, b⟩
      obtain ⟨j, hj, e⟩ := qEx k hk a
      subst e
      refine ⟨j, hj, rfl, ?_⟩
      rw [Bool.and_eq_true, ← eQ j hj, ← eAh i j hi hj]
      exact ⟨a, b⟩
    · rintro ⟨j, hj, e, h⟩
      subst e
      rw [Bool.and_eq_true, ← eQ j hj, ← eAh i j hi hj] at h
      exact h
  generalize hCc : cho Mc QC s = Cc
  generalize hCm : cho Mm (Qm mm) (W * H) = Cm
  rw [hCc, hCm] at eCh
  have cEx : ∀ k, k < W * H → Cm k = true → ∃ i, i < s ∧ pk i = k := by
    intro k hk h
    rw [← hCm] at h
    unfold cho at h
    rw [Bool.and_eq_true] at h
    exact qEx k hk h.1
  have cIff : ∀ k, k < W * H → (Cm k = true ↔ ∃ i, i < s ∧ pk i = k ∧ Cc i = true) := by
    intro k hk
    constructor
    · intro h
      obtain ⟨i, hi, e⟩ := cEx k hk h
      subst e
      exact ⟨i, hi, rfl, by rw [← eCh i hi]; exact h⟩
    · rintro ⟨i, hi, e, h⟩
      subst e
      rw [eCh i hi]
      exact h
  have cntAll : (lst Cm (W * H)).length = (lst Cc s).length := cnt_map (pk := pk) (W * H) s (fun j hj => (k39 j hj).2) kpk cIff
  have cntAt : ∀ i, i < s → (lst Cm (pk i)).length = (lst Cc i).length := by
    intro i hi
    refine cnt_map (pk := pk) (pk i) i (fun j hj => kpk j i hj hi) (fun a b hab hb => kpk a b hab (by omega)) (fun k hk => ?_)
    have hpi := (k39 i hi).2
    rw [cIff k (by omega)]
    constructor
    · rintro ⟨j, hj, e, h⟩
      refine ⟨j, ?_, e, h⟩
      rw [← hmono j i hj hi, e]
      exact hk
    · rintro ⟨j, hj, e, h⟩
      exact ⟨j, by omega, e, h⟩
  -- the class
  obtain ⟨m1, a1, a2, a3⟩ := weigh_c (dn := dn) g hs k38 (fun c hc => by
    rcases k41 c hc with q | ⟨i, hi, q, _⟩
    · exact Or.inl q.1
    · exact Or.inr ⟨i, hi, q⟩) (fun c hc hne => by
    rw [hDc c hc]
    exact (hdnE c hc (h10 c hc hne)).1)
  have b36 := a2.2 36 (by decide)
  have b38 := a2.2 38 (by decide)
  have b39 := a2.2 39 (by decide)
  have b40 := a2.2 40 (by decide)
  have b41 := a2.2 41 (by decide)
  obtain ⟨m2, c1, c2, c3, c4⟩ := chosen_c (m := m1) (M := Mc) (Q := QC) (mp := mp) (D := D) (W := W) (H := H) (pk := pk) hs (by rw [b38]; exact k38) (by rw [b39]; exact k39) h64 (by rw [b40]; exact k40) (by rw [b36]; exact hDc) (fun i hi => by rw [(a3 i hi).2.1, eMc]) (fun i hi => by rw [← eMc]; have := bM (mc.1 41) (nI i); omega) (fun i hi => by rw [b40]; exact eQC i)
  rw [hCc] at c3 c4
  have d38 : m2.1 38 = mc.1 38 := (c2.2 38 (by decide)).trans b38
  have d39 : m2.1 39 = mc.1 39 := (c2.2 39 (by decide)).trans b39
  have d41 : m2.1 41 = mc.1 41 := (c2.2 41 (by decide)).trans b41
  have d56 := c2.2 56 (by decide)
  have d57 := c2.2 57 (by decide)
  have d58 := c2.2 58 (by decide)
  have d59 := c2.2 59 (by decide)
  have cAl : ∀ i, i < s → Cc i = true → mc.1 40 i = 1 := by
    intro i hi h
    rw [← hCc] at h
    unfold cho at h
    rw [Bool.and_eq_true, eQC, Bool.and_eq_true, decide_eq_true_eq] at h
    exact h.1.1
  obtain ⟨m3, n1, n2, n3, n4, n5⟩ := number_c (m := m2) (W := W) (n := W * H) (dn := dn) (pk := pk) (C := Cc) hs (by rw [d38]; exact k38) (fun i hi => by rw [d39]; exact (k39 i hi).1) c3 c4 (fun j hj => by rw [c2.1, a2.1]; exact h45 j hj) (fun i hi => by rw [d56, d57, d58, d59, d41]; exact a3 i hi) (fun i hi h => by
    rw [d41]
    have x1 := bM (mc.1 41) (nI i)
    have x2 := bC (mc.1 41) (nI i)
    have x3 := bR (mc.1 41) (nI i)
    exact ⟨posM i hi (cAl i hi h), by omega, by omega, by omega⟩)
  rw [d41] at n5
  have e14 : m3.1 14 = mc.1 14 := (n2.2 14 (by decide)).trans ((c2.2 14 (by decide)).trans (a2.2 14 (by decide)))
  have e41 : m3.1 41 = mc.1 41 := (n2.2 41 (by decide)).trans d41
  obtain ⟨m4, p1, p2, p3⟩ := mark_c (m := m3) (n := W * H) (C := Cc) (s := s) (hx := fun c => if mc.1 41 c = -1 then none else some (mc.1 41 c).toNatClampNeg) h64 (by rw [e14]; exact q3) hs (fun c hc => by
    rw [e41]
    rcases k41 c hc with q | ⟨i, hi, q, _⟩
    · left
      rw [if_pos q.1]
      exact ⟨rfl, q.1⟩
    · right
      refine ⟨i, hi, ?_, q⟩
      rw [q, if_neg (nI_nm1 (by omega)), nI_clamp (by omega)]) n4
  -- the model
  obtain ⟨mm', r1, r2, r3, r4, r5, r6⟩ := laySpots_m (m := mm) (dn := dn) (C := Cm) (tx := fun c => if mm.1 100 c = -1 then none else some (mm.1 100 c).toNatClampNeg) hw hh w3 w8 h8 (fun c hc hne => by
    rw [hDm c hc]
    refine (hdnE c hc (h10 c hc (fun z => hne ?_))).1
    rcases k41 c hc with q | ⟨i, hi, q, _⟩
    · exact q.2
    · rw [q] at z
      exact absurd z (nI_nm1 (by omega))) (fun x => by
    have x1 := bM (mm.1 100) (nI x)
    have x2 := bC (mm.1 100) (nI x)
    have x3 := bR (mm.1 100) (nI x)
    exact ⟨by omega, by omega, by omega⟩) (fun x hx ht => by
    obtain ⟨i, hi, ai, e⟩ := (hI.top h64 hx).mp ht
    subst e
    rw [← eM i hi]
    exact posM i hi ai) (by rw [hMm]; exact hCm.symm) (by rw [cntAll]; exact c4) h74 (fun c hc => by
    rcases k41 c hc with q | ⟨i, hi, _, q, _⟩
    · left
      rw [if_pos q.2]
      exact ⟨rfl, q.2⟩
    · right
      have := (k39 i hi).2
      refine ⟨pk i, this, ?_, q⟩
      rw [q, if_neg (nI_nm1 (by omega)), nI_clamp (by omega)])
  have hsp : ∀ c, c < W * H → spo Cm (if mm.1 100 c = -1 then none else some (mm.1 100 c).toNatClampNeg) = spo Cc (if mc.1 41 c = -1 then none else some (mc.1 41 c).toNatClampNeg) := by
    intro c hc
    rcases k41 c hc with q | ⟨i, hi, q, q', _⟩
    · rw [if_pos q.1, if_pos q.2, spo_n, spo_n]
    · have := (k39 i hi).2
      rw [q, q', if_neg (nI_nm1 (by omega)), if_neg (nI_nm1 (by omega)), nI_clamp (by omega), nI_clamp (by omega), spo_s, spo_s, eCh i hi, cntAt i hi]
  refine ⟨m4, mm', (lst Cc s).length, ?_, r1, ?_, r2, r3, c4, ?_, ?_, ?_, ?_⟩
  · unfold f_X8_choose
    rw [a1]
    simp only [Option.bind_some]
    rw [← Option.bind_assoc, c1]
    simp only [Option.bind_some, n1, p1]
  · exact ((a2.wide (by decide)).trans (c2.wide (by decide))).trans ((n2.wide (by decide)).trans (p2.wide (by decide)))
  · rw [p2.2 44 (by decide)]
    exact n3
  · rw [r4, cntAll]
  · intro q hq
    obtain ⟨i1, i2, i3⟩ := lst_at (Q := Cc) s q hq
    generalize (lst Cc s).getD q 0 = i at i1 i2 i3
    have hpi := (k39 i i1).2
    have x := n5 i i1 i2
    have y := r6 (pk i) hpi (by rw [eCh i i1]; exact i2)
    rw [cntAt i i1, i3] at y
    rw [i3] at x
    have e46 : m4.1 (46 + q) = m3.1 (46 + q) := p2.2 (46 + q) (by simp; omega)
    unfold SpF at x y
    obtain ⟨x0, x1, x2, x3, x4, x5⟩ := x
    obtain ⟨y0, y1, y2, y3, y4, y5⟩ := y
    rw [← eN i i1] at y1
    rw [← eM i i1] at y2
    rw [← eC i i1, ← eM i i1] at y3
    rw [← eR i i1, ← eM i i1] at y4
    have hp := posM i i1 (cAl i i1 i2)
    have l1 : hC W dn (mc.1 41) (nI i) (W * H) / hM dn (mc.1 41) (nI i) (W * H) ≤ 112 := Nat.div_le_of_le_mul (Nat.le_trans (qC _ _) (Nat.le_of_eq (Nat.mul_comm _ _)))
    have l2 : hR W dn (mc.1 41) (nI i) (W * H) / hM dn (mc.1 41) (nI i) (W * H) ≤ 112 := Nat.div_le_of_le_mul (Nat.le_trans (qR _ _) (Nat.le_of_eq (Nat.mul_comm _ _)))
    rw [e46]
    have z3 : mm'.1 84 q = _ := y3
    have z4 : mm'.1 85 q = _ := y4
    refine ⟨⟨x0.trans y0.symm, x1.trans y1.symm, x2.trans y2.symm, x3.trans y3.symm, x4.trans y4.symm, x5.trans y5.symm⟩, ?_, ?_, ?_, ?_⟩
    · rw [z3]; exact nI_pos' (by omega)
    · rw [z3]; exact nI_le (b := 112) l1 (by decide)
    · rw [z4]; exact nI_pos' (by omega)
    · rw [z4]; exact nI_le (b := 112) l2 (by decide)
  · intro c hc
    rw [(p3 c hc).1, r5 c hc, hsp c hc]
    exact ⟨rfl, (p3 c hc).2⟩
