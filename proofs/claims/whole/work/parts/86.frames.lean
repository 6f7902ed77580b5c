/-! ===== frames ===== -/
theorem F2_start {t W H : Nat} {m : zM} (h : Rel t m) (hG : Prs W H m) : ∃ N, N ≤ 240 * t ∧ F2 N W H m m := by
  obtain ⟨hP, hJ, hC, hR, _⟩ := h
  obtain ⟨N, hN, hJ2⟩ := RJ_to hJ
  refine ⟨N, hN, ?_⟩
  unfold F2
  rw [cmb_self]
  exact ⟨hP, hC, hR, hG, hG.1, hJ2⟩
theorem frames_loop {N W H n : Nat} {mc mm : zM} (y z : Int32) (h : F2 N W H mc mm) (hn : n ≤ 20) (hN : N + 300 < 2 ^ 30) : ∃ mc' mm', zloop (b_X11_frames_38 (nI n) y) zFU (0, mc) = some mc' ∧ zloop (b_X12_frames_32 (nI n) z) zFU (0, mm) = some mm' ∧ ∃ N', F2 N' W H mc' mm' ∧ (∀ c, 68 ≤ c → mc'.1 c = mc.1 c) ∧ (∀ c, c < 68 → mm'.1 c = mm.1 c) ∧ mm'.2 = mm.2 ∧ N ≤ N' ∧ N' ≤ N + 12 * n := by
  refine zfor2 (fun i (st : Int32 × zM) (st' : Int32 × zM) => st.1 = nI i ∧ st'.1 = nI i ∧ ∃ N', F2 N' W H st.2 st'.2 ∧ (∀ c, 68 ≤ c → st.2.1 c = mc.1 c) ∧ (∀ c, c < 68 → st'.2.1 c = mm.1 c) ∧ st'.2.2 = mm.2 ∧ N ≤ N' ∧ N' ≤ N + 12 * i) n _ ⟨rfl, rfl, N, h, fun _ _ => rfl, fun _ _ => rfl, rfl, Nat.le_refl _, by omega⟩ ?_ ?_ (by omega)
  · rintro i ⟨x, w⟩ ⟨x', v⟩ hi ⟨rfl, rfl, M, f1, f2, f3, f4, f5, f6⟩
    simp only at f1 f2 f3 f4
    obtain ⟨w1, v1, M1, g1, g2, g3, g4, g5, g6, g7, g8⟩ := frame_ok f1 (by omega)
    refine ⟨(nI (i + 1), w1), (nI (i + 1), v1), ?_, ?_, rfl, rfl, M1, g3, fun c hc => (g4 c hc).trans (f2 c hc), fun c hc => (g5 c hc).trans (f3 c hc), g6.trans f4, by omega, by omega⟩
    · unfold b_X11_frames_38
      simp only [nI_ge hi (show n < 2 ^ 31 by omega), if_false, g1, Option.bind_some, nI_1]
    · unfold b_X12_frames_32
      simp only [nI_ge hi (show n < 2 ^ 31 by omega), if_false, g2, Option.bind_some, nI_1]
  · rintro ⟨x, w⟩ ⟨x', v⟩ ⟨rfl, rfl, M, f⟩
    refine ⟨w, v, ?_, ?_, M, f⟩
    · unfold b_X11_frames_38
      simp only [nI_le (Nat.le_refl n) (show n < 2 ^ 31 by omega), if_true]
    · unfold b_X12_frames_32
      simp only [nI_le (Nat.le_refl n) (show n < 2 ^ 31 by omega), if_true]
theorem op_frames {t : Nat} {m : zM} (x : Int32) (h : Rel t m) (ht : t ≤ 600) : ∃ v m1 m2, f_X11_frames x m = some (v, m1) ∧ f_X12_frames x m1 = some (v, m2) ∧ Rel (t + 1) m2 := by
  obtain ⟨hP, hJ, hC, hR, hG⟩ := id h
  unfold f_X11_frames f_X12_frames
  rcases hG with hG | ⟨W, H, hG⟩
  · exact ⟨-10003, m, m, by rw [if_pos hG.1], by rw [isG_f hG.2.1]; rfl, h.mono (by omega)⟩
  · obtain ⟨g1, _⟩ := id hG
    have w3 := g1.2.1
    have w8 := g1.2.2.1
    rw [pr_class hG, if_neg (by decide), w11]
    simp only [Option.bind_some]
    by_cases hx : (1 : Int32) ≤ x ∧ x ≤ 20
    · obtain ⟨n, hn, rfl⟩ := (winK (k := 20) (by omega)).mp ⟨Int32.le_trans (by decide) hx.1, hx.2⟩
      rw [decide_eq_true hx, if_neg bi_nt]
      obtain ⟨N, hN, hF⟩ := F2_start h hG
      obtain ⟨m1, m1', a1, _, N1, a3, a4, _⟩ := frames_loop (m.1 8 4) 0 hF hn (by omega)
      -- the model runs over what the class has left
      have hJ1 : RJ2 N m m1 := hF.2.2.2.2.2.cg rfl rfl rfl rfl rfl (congrFun (a4 68 (by decide)) 37) (a4 96 (by decide)) (a4 97 (by decide)) (a4 98 (by decide)) (a4 99 (by decide))
      have hF1 : F2 N W H m m1 := by
        obtain ⟨b1, b2, b3, b4, b5, _⟩ := hF
        unfold F2
        rw [cmb_mm a4]
        exact ⟨b1, b2, b3, b4, b5, hJ1⟩
      obtain ⟨m1'', m2, c1, c2, N2, c3, c4, c5, c6, c7, c8⟩ := frames_loop (m.1 8 4) (nI N) hF1 hn (by omega)
      have em : m1'' = m1 := Option.some.inj (c1.symm.trans a1)
      subst em
      have ev1 : f_X12_eventsAll m1'' = some (nI N) := by
        unfold f_X12_eventsAll
        rw [hJ1.2.2.2.2]
      have ev2 : f_X12_eventsAll m2 = some (nI N2) := by
        unfold f_X12_eventsAll
        rw [c3.2.2.2.2.2.2.2.2.2]
      have hw : m1''.1 68 2 = nI W := by rw [a4 68 (by decide)]; exact pr_wide hG
      refine ⟨nI N2 - nI N, m1'', m2, ?_, ?_, ?_⟩
      · rw [c1]
        simp only [Option.bind_some]
        rw [c3.2.2.2.2.2.1, hF.2.2.2.2.2.1]
      · rw [isG_t hw w3 w8]
        simp only [Option.bind_some]
        rw [if_neg bi_nt, w12]
        simp only [Option.bind_some]
        rw [decide_eq_true hx, if_neg bi_nt, ev1]
        simp only [Option.bind_some]
        rw [c2]
        simp only [Option.bind_some]
        rw [ev2]
        rfl
      · have ec : cmb m1'' m2 = m2 := cmb_of c5 c6
        obtain ⟨b1, b2, b3, b4, b5, b6⟩ := c3
        have b6' := RJ2_to (t := t + 1) b6 (by omega)
        rw [ec] at b1 b2 b4 b6'
        refine ⟨b1, b6', b2, ?_, Or.inr ⟨W, H, b4⟩⟩
        exact b3.cg (by rw [c6]) (by rw [c6])
    · rw [decide_eq_false hx, if_pos bi_f]
      refine ⟨-10002, m, m, rfl, ?_, h.mono (by omega)⟩
      rw [isG_t (pr_wide hG) w3 w8]
      simp only [Option.bind_some]
      rw [if_neg bi_nt, w12]
      simp only [Option.bind_some]
      rw [decide_eq_false hx, if_pos bi_f]
