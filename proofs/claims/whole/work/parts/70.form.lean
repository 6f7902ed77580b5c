/-! ===== a frame: the hills formed ===== -/
section FRM
variable {D : Nat → Int32} {W H : Nat} {s : Nat} {pk : Nat → Nat}
theorem hills_loop {pct : Int32} (w3 : 3 ≤ W) (w8 : W ≤ 8) (h3 : 3 ≤ H) (h8 : H ≤ 8) : ∀ (N k : Nat) (mc mm : zM), acnt mc s ≤ N → k + N ≤ 16 → HI D W H mc (mm.1 100) s pk → mc.1 14 2 = nI (W * H) → mm.1 68 2 = nI W → mm.1 68 3 = nI H → mm.1 80 2 = pct → (∀ k, k < W * H → mc.1 36 k = D k) → (∀ k, k < W * H → mm.1 73 k = D k) → (∀ c, c < W * H → ¬ mc.1 41 c = -1 → 10 ≤ D c) →
    ∃ mc' mm', (∀ f, N < f → ((zloop (b_X3_form_23 pct) f (nI k, mc)).bind fun r5 => Sum.elim (fun r5 => some r5) (fun v6 => some v6) r5) = some mc') ∧ (∀ f, N + 1 < f → zloop b_X12_layHills_6 f (1, mm) = some mm') ∧ Fr [40, 41, 43] mc mc' ∧ Fr [100] mm mm' ∧ HI D W H mc' (mm'.1 100) s pk ∧ ∀ c, c < W * H → ¬ mc'.1 41 c = -1 → 10 ≤ D c := by
  intro N
  induction N with
  | zero =>
    intro k mc mm ha hk hI h14 hw hh hp hDc hDm h10
    rcases merge_two hI w3 w8 h3 h8 h14 hw hh hp hDc hDm h10 with ⟨e1, e2⟩ | ⟨mc', mm', _, _, _, _, _, _, hlt⟩
    · refine ⟨mc, mm, ?_, ?_, Fr.refl, Fr.refl, hI, h10⟩
      · intro f hf
        obtain ⟨f', rfl⟩ : ∃ q, f = q + 1 := ⟨f - 1, by omega⟩
        by_cases hk16 : (16 : Int32) ≤ nI k
        · rw [zloop_0 (r := .inl mc) (by unfold b_X3_form_23; simp only [hk16, if_true])]
          rfl
        · rw [zloop_0 (r := .inr mc) (by unfold b_X3_form_23; simp only [hk16, if_false, e1, Option.bind_some, bi_f, if_true])]
          rfl
      · intro f hf
        obtain ⟨f', rfl⟩ : ∃ q, f = q + 1 + 1 := ⟨f - 2, by omega⟩
        rw [zloop_s (s1 := (0, mm)) (by unfold b_X12_layHills_6; simp only [show ¬ (1 : Int32) = 0 by decide, if_false, e2, Option.bind_some, bi_f])]
        exact zloop_0 (by unfold b_X12_layHills_6; simp only [if_true])
    · omega
  | succ N ih =>
    intro k mc mm ha hk hI h14 hw hh hp hDc hDm h10
    rcases merge_two hI w3 w8 h3 h8 h14 hw hh hp hDc hDm h10 with ⟨e1, e2⟩ | ⟨mc', mm', e1, e2, f1, f2, hI', h10', hlt⟩
    · refine ⟨mc, mm, ?_, ?_, Fr.refl, Fr.refl, hI, h10⟩
      · intro f hf
        obtain ⟨f', rfl⟩ : ∃ q, f = q + 1 := ⟨f - 1, by omega⟩
        have hk16 : ¬ (16 : Int32) ≤ nI k := nI_ge (b := 16) (by omega) (by decide)
        rw [zloop_0 (r := .inr mc) (by unfold b_X3_form_23; simp only [hk16, if_false, e1, Option.bind_some, bi_f, if_true])]
        rfl
      · intro f hf
        obtain ⟨f', rfl⟩ : ∃ q, f = q + 1 + 1 := ⟨f - 2, by omega⟩
        rw [zloop_s (s1 := (0, mm)) (by unfold b_X12_layHills_6; simp only [show ¬ (1 : Int32) = 0 by decide, if_false, e2, Option.bind_some, bi_f])]
        exact zloop_0 (by unfold b_X12_layHills_6; simp only [if_true])
    · have a14 := f1.2 14 (by decide)
      have a36 := f1.2 36 (by decide)
      have b68 := f2.2 68 (by decide)
      have b73 := f2.2 73 (by decide)
      have b80 := f2.2 80 (by decide)
      obtain ⟨mc2, mm2, g1, g2, g3, g4, g5, g6⟩ := ih (k + 1) mc' mm' (by omega) (by omega) hI' (by rw [a14]; exact h14) (by rw [b68]; exact hw) (by rw [b68]; exact hh) (by rw [b80]; exact hp) (by rw [a36]; exact hDc) (by rw [b73]; exact hDm) h10'
      refine ⟨mc2, mm2, ?_, ?_, f1.trans g3, f2.trans g4, g5, g6⟩
      · intro f hf
        obtain ⟨f', rfl⟩ : ∃ q, f = q + 1 := ⟨f - 1, by omega⟩
        have hk16 : ¬ (16 : Int32) ≤ nI k := nI_ge (b := 16) (by omega) (by decide)
        rw [zloop_s (s1 := (nI (k + 1), mc')) (by unfold b_X3_form_23; simp only [hk16, if_false, e1, Option.bind_some, bi_t, show ¬ (1 : Int32) = 0 by decide, nI_1])]
        exact g1 f' (by omega)
      · intro f hf
        obtain ⟨f', rfl⟩ : ∃ q, f = q + 1 := ⟨f - 1, by omega⟩
        rw [zloop_s (s1 := (1, mm')) (by unfold b_X12_layHills_6; simp only [show ¬ (1 : Int32) = 0 by decide, if_false, e2, Option.bind_some, bi_t])]
        exact g2 f' (by omega)
end FRM
theorem P_itr {P : Nat → Bool} {D : Nat → Int32} {W H : Nat} (w3 : 3 ≤ W) (w8 : W ≤ 8) (h3 : 3 ≤ H) (h8 : H ≤ 8) (hup : ∀ c, c < W * H → P c = true → P (up D W H c) = true) : ∀ (k c : Nat), c < W * H → P c = true → P (itr D W H k c) = true
  | 0, c, _, h => h
  | k + 1, c, hc, h => P_itr w3 w8 h3 h8 hup k _ (up_lt w3 w8 h3 h8 hc) (hup c hc h)
theorem P_up {D : Nat → Int32} {W H : Nat} {thr : Int32} (P : Nat → Bool) (hP : ∀ k, k < W * H → P k = !decide (D k < thr)) (w3 : 3 ≤ W) (w8 : W ≤ 8) (h3 : 3 ≤ H) (h8 : H ≤ 8) : ∀ c, c < W * H → P c = true → P (up D W H c) = true := by
  intro c hc h
  rw [hP c hc] at h
  rw [hP _ (up_lt w3 w8 h3 h8 hc)]
  have h' : ¬ D c < thr := by simpa using h
  have : ¬ D (up D W H c) < thr := by
    rcases up_hi (D := D) (W := W) (H := H) (c := c) with q | q
    · rw [q]; exact h'
    · rw [hi_iff] at q
      rw [lt32] at h' ⊢
      omega
  simp [this]
/-- the hills of both sides -/
theorem hills_ok {mc mm : zM} {P : Nat → Bool} {D : Nat → Int32} {W H : Nat} {thr pct : Int32} (g : RGr W H mc) (hw : mm.1 68 2 = nI W) (hh : mm.1 68 3 = nI H) (hp : mm.1 80 2 = pct) (ht : mm.1 80 1 = thr) (ht10 : 10 ≤ thr) (hP : ∀ k, k < W * H → P k = !decide (D k < thr)) (hDc : ∀ k, k < W * H → mc.1 36 k = D k) (hDm : ∀ k, k < W * H → mm.1 73 k = D k) (hT : ∀ k, k < W * H → (mc.1 37 k = 0 ↔ P k = false)) :
    ∃ mc' mm' s pk, f_X3_form pct mc = some mc' ∧ f_X12_layHills mm = some mm' ∧ Fr [38, 39, 40, 41, 42, 43] mc mc' ∧ Fr [100] mm mm' ∧ HI D W H mc' (mm'.1 100) s pk ∧ ∀ c, c < W * H → ¬ mc'.1 41 c = -1 → 10 ≤ D c := by
  obtain ⟨_, w3, w8, h3, h8, _, _, q3, _⟩ := id g
  have h64 : W * H ≤ 64 := Nat.mul_le_mul w8 h8
  have hup := P_up P hP w3 w8 h3 h8
  have h16 := peaks16 (P := P) (D := D) w3 w8 h3 h8
  obtain ⟨m1, a1, a2, a3, a4, a5, a6⟩ := findPeaks_c g hDc hT
  have e37 := a2.2 37 (by decide)
  have g1 : RGr W H m1 := g.fr a2 (by decide) (by decide) (by decide) (by decide) (by decide) (by decide) (by decide)
  obtain ⟨m2, b1, b2, b3⟩ := gather_c g1 hup (by rw [e37]; exact hT) a5 a6
  have g2 : RGr W H m2 := g1.fr b2 (by decide) (by decide) (by decide) (by decide) (by decide) (by decide) (by decide)
  have e36 : m2.1 36 = mc.1 36 := (b2.2 36 (by decide)).trans (a2.2 36 (by decide))
  have ix : ∀ c, c < W * H → P c = true → Qp P D W H (tpc D W H c) = true ∧ (lst (Qp P D W H) (tpc D W H c)).length < (lst (Qp P D W H) (W * H)).length ∧ (lst (Qp P D W H) (W * H)).getD (lst (Qp P D W H) (tpc D W H c)).length 0 = tpc D W H c := by
    intro c hc hPc
    have hQ : Qp P D W H (tpc D W H c) = true := by
      unfold Qp
      rw [Bool.and_eq_true, decide_eq_true_eq]
      exact ⟨P_itr w3 w8 h3 h8 hup 64 c hc hPc, tpc_top w3 w8 h3 h8 hc⟩
    exact ⟨hQ, lst_ix _ _ (tpc_lt w3 w8 h3 h8 hc) hQ⟩
  obtain ⟨m3, c1, c2, c3⟩ := passes_c g2 (by rw [e36]; exact hDc) (fun k hk => by
    rw [b3 k hk]
    cases hPk : P k with
    | false => exact Or.inl rfl
    | true => exact Or.inr ⟨_, by have := (ix k hk hPk).2.1; omega, rfl⟩)
  obtain ⟨n1, d1, d2, d3⟩ := layTops_m (D := D) (P := P) hw hh w3 w8 h3 h8 hDm (fun k hk => by rw [hDm k hk, ht, hP k hk])
  have f38 : m3.1 38 = m1.1 38 := (c2.2 38 (by decide)).trans (b2.2 38 (by decide))
  have f39 : m3.1 39 = m1.1 39 := (c2.2 39 (by decide)).trans (b2.2 39 (by decide))
  have f40 : m3.1 40 = m1.1 40 := (c2.2 40 (by decide)).trans (b2.2 40 (by decide))
  have f41 : m3.1 41 = m2.1 41 := c2.2 41 (by decide)
  have hI : HI D W H m3 (n1.1 100) (lst (Qp P D W H) (W * H)).length (fun j => (lst (Qp P D W H) (W * H)).getD j 0) := by
    refine ⟨h16, by rw [f38]; exact a3, fun i hi => ?_, fun i j hij hj => lst_inc hij hj, fun i hi => ?_, fun c hc => ?_, fun i hi ai => ?_, fun i j hi hj _ _ _ => ?_⟩
    · rw [f39]
      exact ⟨(a4 i hi).1, (lst_at _ i hi).1⟩
    · rw [f40]
      exact Or.inr (a4 i hi).2
    · rw [f41, b3 c hc, d3 c hc]
      cases hPc : P c with
      | false => exact Or.inl ⟨rfl, rfl⟩
      | true =>
        obtain ⟨_, x2, x3⟩ := ix c hc hPc
        refine Or.inr ⟨_, x2, rfl, ?_, by rw [f40]; exact (a4 _ x2).2⟩
        simp only [if_true]
        rw [x3]
    · obtain ⟨y1, y2, y3⟩ := lst_at (Q := Qp P D W H) (W * H) i hi
      have hpk : P ((lst (Qp P D W H) (W * H)).getD i 0) = true ∧ up D W H ((lst (Qp P D W H) (W * H)).getD i 0) = (lst (Qp P D W H) (W * H)).getD i 0 := by
        unfold Qp at y2
        rw [Bool.and_eq_true, decide_eq_true_eq] at y2
        exact y2
      rw [f41, b3 _ y1, hpk.1, tpc_fix hpk.2, y3]
      rfl
    · rw [f41]
      exact c3 i j (by omega) (by omega)
  have h10 : ∀ c, c < W * H → ¬ m3.1 41 c = -1 → 10 ≤ D c := by
    intro c hc hne
    rw [f41, b3 c hc] at hne
    cases hPc : P c with
    | false => rw [hPc] at hne; exact absurd rfl hne
    | true =>
      rw [hP c hc] at hPc
      have : ¬ D c < thr := by simpa using hPc
      exact Int32.le_trans ht10 (Int32.not_lt.mp this)
  have e68 := d2.2 68 (by decide)
  have e73 := d2.2 73 (by decide)
  have e80 := d2.2 80 (by decide)
  have e14 : m3.1 14 = mc.1 14 := (c2.2 14 (by decide)).trans ((b2.2 14 (by decide)).trans (a2.2 14 (by decide)))
  have e36' : m3.1 36 = mc.1 36 := (c2.2 36 (by decide)).trans e36
  have hac : acnt m3 (lst (Qp P D W H) (W * H)).length ≤ 16 := by
    unfold acnt lst
    refine Nat.le_trans (List.length_filter_le _ _) ?_
    rw [List.length_range]
    exact h16
  obtain ⟨m4, n4, l1, l2, l3, l4, l5, l6⟩ := hills_loop (D := D) (pct := pct) w3 w8 h3 h8 16 0 m3 n1 hac (by omega) hI (by rw [e14]; exact q3) (by rw [e68]; exact hw) (by rw [e68]; exact hh) (by rw [e80]; exact hp) (by rw [e36']; exact hDc) (by rw [e73]; exact hDm) h10
  refine ⟨m4, n4, _, _, ?_, ?_, ?_, d2.trans l4, l5, l6⟩
  · unfold f_X3_form
    rw [a1]
    simp only [Option.bind_some, b1, c1]
    have := l1 zFU (by unfold zFU; omega)
    exact this
  · unfold f_X12_layHills
    rw [d1]
    simp only [Option.bind_some]
    rw [l2 zFU (by unfold zFU; omega)]
    rfl
  · exact ((a2.wide (by decide)).trans (b2.wide (by decide))).trans ((c2.wide (by decide)).trans (l3.wide (by decide)))
