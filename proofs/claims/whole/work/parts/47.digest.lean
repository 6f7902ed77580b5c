/-! ===== digest ===== -/
def zhash (V : Nat → Int32) : Nat → Int64 → Int64
  | 0, h => h
  | n + 1, h => 31 * zhash V n h + (V n).toInt64
theorem zhash_add (V : Nat → Int32) (n : Nat) (h : Int64) : ∀ k, zhash V (n + k) h = zhash (fun j => V (n + j)) k (zhash V n h)
  | 0 => rfl
  | k + 1 => by
    show 31 * zhash V (n + k) h + (V (n + k)).toInt64 = _
    rw [zhash_add V n h k]
    rfl
theorem zl_zl {m : zM} {a k : Nat} {x y : Int64} : zl (zl m a k x) a k y = zl m a k y := by
  unfold zl
  refine Prod.ext rfl (Prod.ext ?_ rfl)
  funext c j
  by_cases h : c = a ∧ j = k <;> simp [h]
theorem zl_get {m : zM} {a k : Nat} {x : Int64} : (zl m a k x).2.1 a k = x := by
  simp [zl]
theorem mix_eq (m : zM) (h : Int64) (x : Int64) : f_X12_mix x (zl m 68 57 h) = some (zl m 68 57 (31 * h + x)) := by
  unfold f_X12_mix
  rw [zl_zl, zl_get]
theorem mixloop {b : Int32 × zM → Option ((Int32 × zM) ⊕ zM)} (V : Nat → Int32) (i0 N : Nat) (m : zM) (hs : ∀ j h, j < N → b (nI (i0 + j), zl m 68 57 h) = some (.inl (nI (i0 + j + 1), zl m 68 57 (31 * h + (V j).toInt64)))) (he : ∀ h, b (nI (i0 + N), zl m 68 57 h) = some (.inr (zl m 68 57 h))) (hN : N < 4096) (h0 : Int64) : zloop b zFU (nI i0, zl m 68 57 h0) = some (zl m 68 57 (zhash V N h0)) :=
  zfor (fun j => (nI (i0 + j), zl m 68 57 (zhash V j h0))) N rfl (fun j hj => hs j _ hj) (he _) hN
theorem clsloop {b : Int64 × Int32 → Option ((Int64 × Int32) ⊕ Int64)} (V : Nat → Int32) (i0 N : Nat) (hs : ∀ j h, j < N → b (h, nI (i0 + j)) = some (.inl (31 * h + (V j).toInt64, nI (i0 + j + 1)))) (he : ∀ h, b (h, nI (i0 + N)) = some (.inr h)) (hN : N < 4096) (h0 : Int64) : zloop b zFU (h0, nI i0) = some (zhash V N h0) :=
  zfor (fun j => (zhash V j h0, nI (i0 + j))) N rfl (fun j hj => hs j _ hj) (he _) hN
theorem clsouter {b : Int64 × Int32 → Option ((Int64 × Int32) ⊕ Int64)} (V : Nat → Int32) (B A : Nat) (hs : ∀ i h, i < A → b (h, nI i) = some (.inl (zhash (fun k => V (i * B + k)) B h, nI (i + 1)))) (he : ∀ h, b (h, nI A) = some (.inr h)) (hN : A < 4096) (h0 : Int64) : zloop b zFU (h0, 0) = some (zhash V (A * B) h0) := by
  refine zfor (fun j => (zhash V (j * B) h0, nI j)) A ?_ (fun j hj => ?_) ?_ hN
  · rw [Nat.zero_mul]
    rfl
  · rw [hs j _ hj, Nat.succ_mul, zhash_add]
  · exact he _
theorem get_some {α : Type} {o : Option α} {v d : α} (h : o = some v) : o.getD d = v := by rw [h]; rfl
/-- the two sides' loops over one kind of facts -/
theorem dg_pair {W H t : Nat} {m : zM} (h : Rel t m) (hG : Prs W H m) (ht : t ≤ 600) : ∃ V : Int64 → Int64, (∀ x, ((f_X11_hashPanelAndFingers x m).bind fun r8 => (f_X11_hashCells r8 m).bind fun r9 => (f_X11_hashSpots r9 m).bind fun r10 => f_X11_hashTracks r10 m) = some (V x)) ∧ ∀ x, f_X12_mixGlass (zl m 68 57 x) = some (zl m 68 57 (V x)) := by
  obtain ⟨hP, hJ, hC, hR, -⟩ := id h
  obtain ⟨g1, g2, g3, g4, g5, g6, g7, ⟨S, s1, s2, s3, s4⟩, ⟨T, t1, t2, t3, t4⟩⟩ := id hG
  have h64 := hG.n64
  have hW := pr_wide hG
  have hH := pr_high hG
  have hg : f_X12_isGlass m = some true := isG_t hW g1.2.1 g1.2.2.1
  let A : Nat → Int32 := fun k => (f_X12_aboutNow (nI k) m).getD 0
  let F : Nat → Int32 := fun j => (f_X12_fingerNow (nI (j / 4)) (nI (j % 4)) m).getD 0
  let C : Nat → Int32 := fun j => (f_X12_cellNow (nI (j / 6)) (nI (j % 6)) m).getD 0
  let Sp : Nat → Int32 := fun j => (f_X12_spotNow (nI (j / 6)) (nI (j % 6)) m).getD 0
  let Tk : Nat → Int32 := fun j => (f_X12_trackNow (nI (j / 9)) (nI (j % 9)) m).getD 0
  have hA : ∀ k, k < 9 → f_X11_about (nI k) m = some (A k) ∧ f_X12_aboutNow (nI k) m = some (A k) := by
    intro k hk
    obtain ⟨v, a, b⟩ := fact_about hG hk
    have e : A k = v := get_some b
    rw [e]
    refine ⟨?_, b⟩
    unfold f_X11_about
    rw [pr_class hG, if_neg (by decide), w11, decide_eq_true (show (0 : Int32) ≤ nI k ∧ nI k ≤ 8 from (winK (k := 8) (by omega)).mpr ⟨k, by omega, rfl⟩)]
    simp [bi_t, a]
  have hF : ∀ i k, i < 5 → k < 4 → f_X11_finger (nI i) (nI k) m = some (F (i * 4 + k)) ∧ f_X12_fingerNow (nI i) (nI k) m = some (F (i * 4 + k)) := by
    intro i k hi hk
    obtain ⟨v, a, b⟩ := fact_finger g2 hi hk
    have e : F (i * 4 + k) = v := by
      have e1 : (i * 4 + k) / 4 = i := by omega
      have e2 : (i * 4 + k) % 4 = k := by omega
      show (f_X12_fingerNow (nI ((i * 4 + k) / 4)) (nI ((i * 4 + k) % 4)) m).getD 0 = v
      rw [e1, e2]
      exact get_some b
    rw [e]
    refine ⟨?_, b⟩
    unfold f_X11_finger
    rw [pr_class hG, if_neg (by decide), w11, w11, decide_eq_true (show (0 : Int32) ≤ nI i ∧ nI i ≤ 4 from (winK (k := 4) (by omega)).mpr ⟨i, by omega, rfl⟩), decide_eq_true (show (0 : Int32) ≤ nI k ∧ nI k ≤ 3 from (winK (k := 3) (by omega)).mpr ⟨k, by omega, rfl⟩)]
    simp [bi_t, a]
  have hCc : ∀ i k, i < W * H → k < 6 → f_X11_cell (nI i) (nI k) m = some (C (i * 6 + k)) ∧ f_X12_cellNow (nI i) (nI k) m = some (C (i * 6 + k)) := by
    intro i k hi hk
    obtain ⟨v, a, b⟩ := fact_cell hG hi hk
    have e : C (i * 6 + k) = v := by
      have e1 : (i * 6 + k) / 6 = i := by omega
      have e2 : (i * 6 + k) % 6 = k := by omega
      show (f_X12_cellNow (nI ((i * 6 + k) / 6)) (nI ((i * 6 + k) % 6)) m).getD 0 = v
      rw [e1, e2]
      exact get_some b
    rw [e]
    refine ⟨?_, b⟩
    unfold f_X11_cell
    rw [(hasCell_eq hG (nI i)).1, w11, decide_eq_true (show ∃ c, c < W * H ∧ nI i = nI c from ⟨i, hi, rfl⟩), decide_eq_true (show (0 : Int32) ≤ nI k ∧ nI k ≤ 5 from (winK (k := 5) (by omega)).mpr ⟨k, by omega, rfl⟩)]
    simp [bi_t, a]
  have hSp : ∀ i k, i < S → k < 6 → f_X11_spot (nI i) (nI k) m = some (Sp (i * 6 + k)) ∧ f_X12_spotNow (nI i) (nI k) m = some (Sp (i * 6 + k)) := by
    intro i k hi hk
    obtain ⟨v, a, b⟩ := fact_spot hG hR s2 s1 hi hk
    have e : Sp (i * 6 + k) = v := by
      have e1 : (i * 6 + k) / 6 = i := by omega
      have e2 : (i * 6 + k) % 6 = k := by omega
      show (f_X12_spotNow (nI ((i * 6 + k) / 6)) (nI ((i * 6 + k) % 6)) m).getD 0 = v
      rw [e1, e2]
      exact get_some b
    rw [e]
    refine ⟨?_, b⟩
    unfold f_X11_spot
    rw [hasSpot_eq hG s2 s1 (nI i), w11, decide_eq_true (show ∃ c, c < S ∧ nI i = nI c from ⟨i, hi, rfl⟩), decide_eq_true (show (0 : Int32) ≤ nI k ∧ nI k ≤ 5 from (winK (k := 5) (by omega)).mpr ⟨k, by omega, rfl⟩)]
    simp only [Option.bind_some, bi_t]
    exact a
  have hTk : ∀ i k, i < T → k < 9 → f_X11_track (nI i) (nI k) m = some (Tk (i * 9 + k)) ∧ f_X12_trackNow (nI i) (nI k) m = some (Tk (i * 9 + k)) := by
    intro i k hi hk
    obtain ⟨v, a, b⟩ := fact_track hG hR t2 t1 hi hk
    have e : Tk (i * 9 + k) = v := by
      have e1 : (i * 9 + k) / 9 = i := by omega
      have e2 : (i * 9 + k) % 9 = k := by omega
      show (f_X12_trackNow (nI ((i * 9 + k) / 9)) (nI ((i * 9 + k) % 9)) m).getD 0 = v
      rw [e1, e2]
      exact get_some b
    rw [e]
    refine ⟨?_, b⟩
    unfold f_X11_track
    rw [(hasTrack_eq hG t2 t3 t1 (nI i)).1, w11, decide_eq_true (show ∃ c, c < T ∧ nI i = nI c from ⟨i, hi, rfl⟩), decide_eq_true (show (0 : Int32) ≤ nI k ∧ nI k ≤ 8 from (winK (k := 8) (by omega)).mpr ⟨k, by omega, rfl⟩)]
    simp only [Option.bind_some, bi_t]
    exact a
  refine ⟨fun x => zhash Tk (T * 9) (zhash Sp (S * 6) (zhash C (W * H * 6) (zhash F (5 * 4) (zhash A 9 x)))), fun x => ?_, fun x => ?_⟩
  · have k1 : ∀ x, f_X11_hashPanelAndFingers x m = some (zhash F (5 * 4) (zhash A 9 x)) := by
      intro x
      unfold f_X11_hashPanelAndFingers
      have l1 := clsloop (b := b_X11_hashPanelAndFingers_5 m) A 0 9 (fun j h hj => by
        unfold b_X11_hashPanelAndFingers_5
        have c : ¬ (9 : Int32) ≤ nI j := nI_ge (b := 9) hj (by omega)
        simp only [Nat.zero_add, c, if_false, (hA j hj).1, Option.bind_some, nI_1]) (fun h => rfl) (by omega) x
      have l2 := clsouter (b := b_X11_hashPanelAndFingers_35 m) F 4 5 (fun i h hi => by
        unfold b_X11_hashPanelAndFingers_35
        have c : ¬ (5 : Int32) ≤ nI i := nI_ge (b := 5) hi (by omega)
        have l3 := clsloop (b := b_X11_hashPanelAndFingers_44 (nI i) m) (fun k => F (i * 4 + k)) 0 4 (fun j h hj => by
          unfold b_X11_hashPanelAndFingers_44
          have c : ¬ (4 : Int32) ≤ nI j := nI_ge (b := 4) hj (by omega)
          simp only [Nat.zero_add, c, if_false, (hF i j hi hj).1, Option.bind_some, nI_1]) (fun h => rfl) (by omega) h
        have l3' : zloop (b_X11_hashPanelAndFingers_44 (nI i) m) zFU (h, 0) = _ := l3
        simp only [c, if_false, l3', Option.bind_some, nI_1]) (fun h => rfl) (by omega) (zhash A 9 x)
      have l1' : zloop (b_X11_hashPanelAndFingers_5 m) zFU (x, 0) = _ := l1
      rw [l1', Option.bind_some, l2]
      rfl
    have k2 : ∀ x, f_X11_hashCells x m = some (zhash C (W * H * 6) x) := by
      intro x
      unfold f_X11_hashCells
      have l2 := clsouter (b := b_X11_hashCells_5 m) C 6 (W * H) (fun i h hi => by
        unfold b_X11_hashCells_5
        have c : ¬ nI (W * H) ≤ nI i := nI_ge hi (by omega)
        have l3 := clsloop (b := b_X11_hashCells_23 (nI i) m) (fun k => C (i * 6 + k)) 0 6 (fun j h hj => by
          unfold b_X11_hashCells_23
          have c : ¬ (6 : Int32) ≤ nI j := nI_ge (b := 6) hj (by omega)
          simp only [Nat.zero_add, c, if_false, (hCc i j hi hj).1, Option.bind_some, nI_1]) (fun h => rfl) (by omega) h
        have l3' : zloop (b_X11_hashCells_23 (nI i) m) zFU (h, 0) = _ := l3
        simp only [g1.2.2.2.2.2.2.2.1, c, if_false, l3', Option.bind_some, nI_1]) (fun h => by unfold b_X11_hashCells_5; simp only [g1.2.2.2.2.2.2.2.1, Int32.le_refl, if_true]) (by omega) x
      rw [l2]
      rfl
    have k3 : ∀ x, f_X11_hashSpots x m = some (zhash Sp (S * 6) x) := by
      intro x
      unfold f_X11_hashSpots
      have l2 := clsouter (b := b_X11_hashSpots_5 m) Sp 6 S (fun i h hi => by
        unfold b_X11_hashSpots_5
        have c : ¬ nI S ≤ nI i := nI_ge hi (by omega)
        have l3 := clsloop (b := b_X11_hashSpots_23 (nI i) m) (fun k => Sp (i * 6 + k)) 0 6 (fun j h hj => by
          unfold b_X11_hashSpots_23
          have c : ¬ (6 : Int32) ≤ nI j := nI_ge (b := 6) hj (by omega)
          simp only [Nat.zero_add, c, if_false, (hSp i j hi hj).1, Option.bind_some, nI_1]) (fun h => rfl) (by omega) h
        have l3' : zloop (b_X11_hashSpots_23 (nI i) m) zFU (h, 0) = _ := l3
        simp only [s2, c, if_false, l3', Option.bind_some, nI_1]) (fun h => by unfold b_X11_hashSpots_5; simp only [s2, Int32.le_refl, if_true]) (by omega) x
      rw [l2]
      rfl
    have k4 : ∀ x, f_X11_hashTracks x m = some (zhash Tk (T * 9) x) := by
      intro x
      unfold f_X11_hashTracks
      have l2 := clsouter (b := b_X11_hashTracks_5 m) Tk 9 T (fun i h hi => by
        unfold b_X11_hashTracks_5
        have c : ¬ nI T ≤ nI i := nI_ge hi (by omega)
        have l3 := clsloop (b := b_X11_hashTracks_23 (nI i) m) (fun k => Tk (i * 9 + k)) 0 9 (fun j h hj => by
          unfold b_X11_hashTracks_23
          have c : ¬ (9 : Int32) ≤ nI j := nI_ge (b := 9) hj (by omega)
          simp only [Nat.zero_add, c, if_false, (hTk i j hi hj).1, Option.bind_some, nI_1]) (fun h => rfl) (by omega) h
        have l3' : zloop (b_X11_hashTracks_23 (nI i) m) zFU (h, 0) = _ := l3
        simp only [t2, c, if_false, l3', Option.bind_some, nI_1]) (fun h => by unfold b_X11_hashTracks_5; simp only [t2, Int32.le_refl, if_true]) (by omega) x
      rw [l2]
      rfl
    rw [k1, Option.bind_some, k2, Option.bind_some, k3, Option.bind_some, k4]
  · unfold f_X12_mixGlass
    have q : ∀ {j B : Nat}, 0 < B → B < 2 ^ 31 → j < 2 ^ 31 → nI j / nI B = nI (j / B) ∧ zrem (nI j) (nI B) = nI (j % B) := fun h1 h2 h3 => ⟨pk_div h3 h1 h2, pk_rem h3 h1 h2⟩
    have l1 := mixloop (b := b_X12_mixGlass_2) A 0 9 m (fun j h hj => by
      unfold b_X12_mixGlass_2
      have c : ¬ (9 : Int32) ≤ nI j := nI_ge (b := 9) hj (by omega)
      have e : f_X12_aboutNow (nI j) (zl m 68 57 h) = some (A j) := (hA j hj).2
      simp only [Nat.zero_add, c, if_false, e, Option.bind_some, mix_eq, nI_1]) (fun h => rfl) (by omega) x
    have l1' : zloop b_X12_mixGlass_2 zFU (0, zl m 68 57 x) = _ := l1
    rw [l1', Option.bind_some]
    have l2 := mixloop (b := b_X12_mixGlass_26) F 0 20 m (fun j h hj => by
      unfold b_X12_mixGlass_26
      have c : ¬ (20 : Int32) ≤ nI j := nI_ge (b := 20) hj (by omega)
      have hq := q (j := j) (B := 4) (by omega) (by omega) (by omega)
      have e0 := (hF (j / 4) (j % 4) (by omega) (by omega)).2
      rw [show j / 4 * 4 + j % 4 = j by omega] at e0
      have e : f_X12_fingerNow (nI j / 4) (zrem (nI j) 4) (zl m 68 57 h) = some (F j) := by
        rw [show (4 : Int32) = nI 4 from rfl, hq.1, hq.2]
        exact e0
      simp only [Nat.zero_add, c, if_false, e, Option.bind_some, mix_eq, nI_1]) (fun h => rfl) (by omega) (zhash A 9 x)
    have l2' : zloop b_X12_mixGlass_26 zFU (0, zl m 68 57 (zhash A 9 x)) = _ := l2
    rw [l2', Option.bind_some]
    have l3 := mixloop (b := b_X12_mixGlass_55) C 0 (W * H * 6) m (fun j h hj => by
      unfold b_X12_mixGlass_55
      have ec : f_X12_cells (zl m 68 57 h) = some (nI (W * H)) := cells_eq hW hH
      have e6 : 6 * nI (W * H) = nI (W * H * 6) := by rw [show (6 : Int32) = nI 6 from rfl, pk_mul, Nat.mul_comm]
      have c : ¬ nI (W * H * 6) ≤ nI j := nI_ge hj (by omega)
      have hq := q (j := j) (B := 6) (by omega) (by omega) (by omega)
      have e0 := (hCc (j / 6) (j % 6) (by omega) (by omega)).2
      rw [show j / 6 * 6 + j % 6 = j by omega] at e0
      have e : f_X12_cellNow (nI j / 6) (zrem (nI j) 6) (zl m 68 57 h) = some (C j) := by
        rw [show (6 : Int32) = nI 6 from rfl, hq.1, hq.2]
        exact e0
      simp only [Nat.zero_add, ec, Option.bind_some, e6, c, if_false, e, mix_eq, nI_1]) (fun h => by
      unfold b_X12_mixGlass_55
      have ec : f_X12_cells (zl m 68 57 h) = some (nI (W * H)) := cells_eq hW hH
      have e6 : 6 * nI (W * H) = nI (W * H * 6) := by rw [show (6 : Int32) = nI 6 from rfl, pk_mul, Nat.mul_comm]
      simp only [Nat.zero_add, ec, Option.bind_some, e6, Int32.le_refl, if_true]) (by omega) (zhash F 20 (zhash A 9 x))
    have l3' : zloop b_X12_mixGlass_55 zFU (0, zl m 68 57 (zhash F 20 (zhash A 9 x))) = _ := l3
    rw [l3', Option.bind_some]
    have l4 := mixloop (b := b_X12_mixGlass_91) Sp 0 (S * 6) m (fun j h hj => by
      unfold b_X12_mixGlass_91
      have ec : (zl m 68 57 h).1 68 20 = nI S := s3
      have e6 : 6 * nI S = nI (S * 6) := by rw [show (6 : Int32) = nI 6 from rfl, pk_mul, Nat.mul_comm]
      have c : ¬ nI (S * 6) ≤ nI j := nI_ge hj (by omega)
      have hq := q (j := j) (B := 6) (by omega) (by omega) (by omega)
      have e0 := (hSp (j / 6) (j % 6) (by omega) (by omega)).2
      rw [show j / 6 * 6 + j % 6 = j by omega] at e0
      have e : f_X12_spotNow (nI j / 6) (zrem (nI j) 6) (zl m 68 57 h) = some (Sp j) := by
        rw [show (6 : Int32) = nI 6 from rfl, hq.1, hq.2]
        exact e0
      simp only [Nat.zero_add, ec, Option.bind_some, e6, c, if_false, e, mix_eq, nI_1]) (fun h => by
      unfold b_X12_mixGlass_91
      have ec : (zl m 68 57 h).1 68 20 = nI S := s3
      have e6 : 6 * nI S = nI (S * 6) := by rw [show (6 : Int32) = nI 6 from rfl, pk_mul, Nat.mul_comm]
      simp only [Nat.zero_add, ec, e6, Int32.le_refl, if_true]) (by omega) (zhash C (W * H * 6) (zhash F 20 (zhash A 9 x)))
    have l4' : zloop b_X12_mixGlass_91 zFU (0, zl m 68 57 (zhash C (W * H * 6) (zhash F 20 (zhash A 9 x)))) = _ := l4
    rw [l4', Option.bind_some]
    have l5 := mixloop (b := b_X12_mixGlass_127) Tk 0 (T * 9) m (fun j h hj => by
      unfold b_X12_mixGlass_127
      have ec : (zl m 68 57 h).1 68 27 = nI T := t3
      have e6 : 9 * nI T = nI (T * 9) := by rw [show (9 : Int32) = nI 9 from rfl, pk_mul, Nat.mul_comm]
      have c : ¬ nI (T * 9) ≤ nI j := nI_ge hj (by omega)
      have hq := q (j := j) (B := 9) (by omega) (by omega) (by omega)
      have e0 := (hTk (j / 9) (j % 9) (by omega) (by omega)).2
      rw [show j / 9 * 9 + j % 9 = j by omega] at e0
      have e : f_X12_trackNow (nI j / 9) (zrem (nI j) 9) (zl m 68 57 h) = some (Tk j) := by
        rw [show (9 : Int32) = nI 9 from rfl, hq.1, hq.2]
        exact e0
      simp only [Nat.zero_add, ec, Option.bind_some, e6, c, if_false, e, mix_eq, nI_1]) (fun h => by
      unfold b_X12_mixGlass_127
      have ec : (zl m 68 57 h).1 68 27 = nI T := t3
      have e6 : 9 * nI T = nI (T * 9) := by rw [show (9 : Int32) = nI 9 from rfl, pk_mul, Nat.mul_comm]
      simp only [Nat.zero_add, ec, e6, Int32.le_refl, if_true]) (by omega) (zhash Sp (S * 6) (zhash C (W * H * 6) (zhash F 20 (zhash A 9 x))))
    have l5' : zloop b_X12_mixGlass_127 zFU (0, zl m 68 57 (zhash Sp (S * 6) (zhash C (W * H * 6) (zhash F 20 (zhash A 9 x))))) = _ := l5
    rw [l5', Option.bind_some]
theorem dg_rest {t : Nat} {m : zM} (h : Rel t m) (ht : t ≤ 600) : ∃ V : Int64 → Int64, (∀ x, j_X11_digest_38 x m = some (V x)) ∧ ∀ x, j_X12_digest_18 (zl m 68 57 x) = some (V x, zl m 68 57 (V x)) := by
  obtain ⟨⟨p1, ⟨n, hn, p2⟩, p3⟩, hJ, hC, hR, -⟩ := id h
  obtain ⟨N, j1, j2, j3, j4, j5, j6⟩ := id hJ
  let Ev : Nat → Int32 := fun j => (f_X12_eventNow (nI (j / 3)) (nI (j % 3)) m).getD 0
  let Ct : Nat → Int32 := fun j => (f_X12_howMany (nI j) m).getD 0
  have hEv : ∀ i k, i < min N 12 → k < 3 → f_X11_event (nI i) (nI k) m = some (Ev (i * 3 + k)) ∧ f_X12_eventNow (nI i) (nI k) m = some (Ev (i * 3 + k)) := by
    intro i k hi hk
    obtain ⟨v, a, b⟩ := fact_event hJ ht j2 j1 hi hk
    have e : Ev (i * 3 + k) = v := by
      have e1 : (i * 3 + k) / 3 = i := by omega
      have e2 : (i * 3 + k) % 3 = k := by omega
      show (f_X12_eventNow (nI ((i * 3 + k) / 3)) (nI ((i * 3 + k) % 3)) m).getD 0 = v
      rw [e1, e2]
      exact get_some b
    rw [e]
    refine ⟨?_, b⟩
    unfold f_X11_event
    rw [kept_eq j2 (by omega), Option.bind_some]
    simp only [w11, Option.bind_some, win (show min N 12 < 2 ^ 31 by omega)]
    rw [decide_eq_true (show ∃ c, c < min N 12 ∧ nI i = nI c from ⟨i, hi, rfl⟩), decide_eq_true (show (0 : Int32) ≤ nI k ∧ nI k ≤ 2 from (winK (k := 2) (by omega)).mpr ⟨k, by omega, rfl⟩)]
    simp [bi_t, a]
  have hCt : ∀ k, k < 6 → f_X11_count (nI k) m = some (Ct k) ∧ f_X12_howMany (nI k) m = some (Ct k) := by
    intro k hk
    obtain ⟨v, a, b⟩ := fact_count h.1 hC (nI k)
    have e : Ct k = v := get_some b
    rw [e]
    exact ⟨a, b⟩
  have hK : min N 12 ≤ 12 := Nat.min_le_right _ _
  refine ⟨fun x => zhash (fun k => m.1 99 (1 + k)) 4 (zhash Ct 6 (zhash (m.1 69) n (zhash Ev (min N 12 * 3) x))), fun x => ?_, fun x => ?_⟩
  · unfold j_X11_digest_38
    have k1 : f_X11_hashJournal x m = some (zhash Ev (min N 12 * 3) x) := by
      unfold f_X11_hashJournal
      have l2 := clsouter (b := b_X11_hashJournal_5 m) Ev 3 (min N 12) (fun i h hi => by
        unfold b_X11_hashJournal_5
        have c : ¬ nI (min N 12) ≤ nI i := nI_ge hi (by omega)
        have l3 := clsloop (b := b_X11_hashJournal_20 (nI i) m) (fun k => Ev (i * 3 + k)) 0 3 (fun j h hj => by
          unfold b_X11_hashJournal_20
          have c : ¬ (3 : Int32) ≤ nI j := nI_ge (b := 3) hj (by omega)
          simp only [Nat.zero_add, c, if_false, (hEv i j hi hj).1, Option.bind_some, nI_1]) (fun h => rfl) (by omega) h
        have l3' : zloop (b_X11_hashJournal_20 (nI i) m) zFU (h, 0) = _ := l3
        simp only [kept_eq j2 (show N < 2 ^ 31 by omega), Option.bind_some, c, if_false, l3', nI_1]) (fun h => by
        unfold b_X11_hashJournal_5
        simp only [kept_eq j2 (show N < 2 ^ 31 by omega), Option.bind_some, Int32.le_refl, if_true]) (by omega) x
      rw [l2]
      rfl
    have l1 := clsloop (b := b_X11_digest_46 m) (m.1 69) 0 n (fun j h hj => by
      unfold b_X11_digest_46
      have c : ¬ nI n ≤ nI j := nI_ge hj (by omega)
      simp only [Nat.zero_add, p1, p2, c, if_false, zin_nI (show j < 40 by omega) (show (40 : Nat) < 2 ^ 31 by omega), zg_t, nI_clamp (show j < 2 ^ 31 by omega), p3, nI_1]) (fun h => by
      unfold b_X11_digest_46
      simp only [Nat.zero_add, p1, p2, Int32.le_refl, if_true]) (by omega) (zhash Ev (min N 12 * 3) x)
    have l1' : zloop (b_X11_digest_46 m) zFU (zhash Ev (min N 12 * 3) x, 0) = _ := l1
    have l2 := clsloop (b := b_X11_digest_82 m) Ct 0 6 (fun j h hj => by
      unfold b_X11_digest_82
      have c : ¬ (6 : Int32) ≤ nI j := nI_ge (b := 6) hj (by omega)
      simp only [Nat.zero_add, c, if_false, (hCt j hj).1, Option.bind_some, nI_1]) (fun h => rfl) (by omega) (zhash (m.1 69) n (zhash Ev (min N 12 * 3) x))
    have l2' : zloop (b_X11_digest_82 m) zFU (zhash (m.1 69) n (zhash Ev (min N 12 * 3) x), 0) = _ := l2
    have l3 := clsloop (b := b_X11_digest_109 m) (fun k => m.1 99 (1 + k)) 1 4 (fun j h hj => by
      unfold b_X11_digest_109
      have c : ¬ (4 : Int32) < nI (1 + j) := nI_nlt (b := 1 + j) (a := 4) (by omega) (by omega)
      have e : f_X11_events (nI (1 + j)) m = some (m.1 99 (1 + j)) := by
        unfold f_X11_events
        have hh : (1 : Int32) ≤ nI (1 + j) ∧ nI (1 + j) ≤ 4 := ⟨nI_le (a := 1) (b := 1 + j) (by omega) (by omega), nI_le (a := 1 + j) (b := 4) (by omega) (by omega)⟩
        rw [w11, decide_eq_true hh]
        simp only [Option.bind_some, bi_t, zin_nI (show 1 + j < 5 by omega) (show (5 : Nat) < 2 ^ 31 by omega), zg_t, nI_clamp (show 1 + j < 2 ^ 31 by omega), j5 (1 + j) (by omega)]
        rfl
      simp only [c, if_false, e, Option.bind_some, nI_1]) (fun h => rfl) (by omega) (zhash Ct 6 (zhash (m.1 69) n (zhash Ev (min N 12 * 3) x)))
    have l3' : zloop (b_X11_digest_109 m) zFU (zhash Ct 6 (zhash (m.1 69) n (zhash Ev (min N 12 * 3) x)), 1) = _ := l3
    rw [k1, Option.bind_some, l1', Option.bind_some, l2', Option.bind_some, l3', Option.bind_some]
  · unfold j_X12_digest_18
    have l0 := mixloop (b := b_X12_digest_20) Ev 0 (min N 12 * 3) m (fun j h hj => by
      unfold b_X12_digest_20
      have ec : (zl m 68 57 h).1 68 37 = nI (min N 12) := j3
      have e6 : 3 * nI (min N 12) = nI (min N 12 * 3) := by rw [show (3 : Int32) = nI 3 from rfl, pk_mul, Nat.mul_comm]
      have c : ¬ nI (min N 12 * 3) ≤ nI j := nI_ge hj (by omega)
      have e0 := (hEv (j / 3) (j % 3) (by omega) (by omega)).2
      rw [show j / 3 * 3 + j % 3 = j by omega] at e0
      have e : f_X12_eventNow (nI j / 3) (zrem (nI j) 3) (zl m 68 57 h) = some (Ev j) := by
        rw [show (3 : Int32) = nI 3 from rfl, pk_div (by omega) (by omega) (by omega), show zrem (nI j) (nI 3) = nI (j % 3) from pk_rem (by omega) (by omega) (by omega)]
        exact e0
      simp only [Nat.zero_add, ec, e6, c, if_false, e, Option.bind_some, mix_eq, nI_1]) (fun h => by
      unfold b_X12_digest_20
      have ec : (zl m 68 57 h).1 68 37 = nI (min N 12) := j3
      have e6 : 3 * nI (min N 12) = nI (min N 12 * 3) := by rw [show (3 : Int32) = nI 3 from rfl, pk_mul, Nat.mul_comm]
      simp only [Nat.zero_add, ec, e6, Int32.le_refl, if_true]) (by omega) x
    have l0' : zloop b_X12_digest_20 zFU (0, zl m 68 57 x) = _ := l0
    rw [l0', Option.bind_some]
    have l1 := mixloop (b := b_X12_digest_53) (m.1 69) 0 n m (fun j h hj => by
      unfold b_X12_digest_53
      have ec : (zl m 68 57 h).1 68 0 = nI n := p2
      have e9 : (zl m 68 57 h).1 69 = m.1 69 := rfl
      have c : ¬ nI n ≤ nI j := nI_ge hj (by omega)
      simp only [Nat.zero_add, ec, c, if_false, zin_nI (show j < 40 by omega) (show (40 : Nat) < 2 ^ 31 by omega), zg_t, nI_clamp (show j < 2 ^ 31 by omega), e9, Option.bind_some, mix_eq, nI_1]) (fun h => by
      unfold b_X12_digest_53
      have ec : (zl m 68 57 h).1 68 0 = nI n := p2
      simp only [Nat.zero_add, ec, Int32.le_refl, if_true]) (by omega) (zhash Ev (min N 12 * 3) x)
    have l1' : zloop b_X12_digest_53 zFU (0, zl m 68 57 (zhash Ev (min N 12 * 3) x)) = _ := l1
    rw [l1', Option.bind_some]
    have l2 := mixloop (b := b_X12_digest_80) Ct 0 6 m (fun j h hj => by
      unfold b_X12_digest_80
      have c : ¬ (6 : Int32) ≤ nI j := nI_ge (b := 6) hj (by omega)
      have e : f_X12_howMany (nI j) (zl m 68 57 h) = some (Ct j) := (hCt j hj).2
      simp only [Nat.zero_add, c, if_false, e, Option.bind_some, mix_eq, nI_1]) (fun h => rfl) (by omega) (zhash (m.1 69) n (zhash Ev (min N 12 * 3) x))
    have l2' : zloop b_X12_digest_80 zFU (0, zl m 68 57 (zhash (m.1 69) n (zhash Ev (min N 12 * 3) x))) = _ := l2
    rw [l2', Option.bind_some]
    have l3 := mixloop (b := b_X12_digest_104) (fun k => m.1 99 (1 + k)) 1 4 m (fun j h hj => by
      unfold b_X12_digest_104
      have c : ¬ (5 : Int32) ≤ nI (1 + j) := nI_ge (b := 5) (by omega) (by omega)
      have e9 : (zl m 68 57 h).1 99 = m.1 99 := rfl
      simp only [c, if_false, zin_nI (show 1 + j < 5 by omega) (show (5 : Nat) < 2 ^ 31 by omega), zg_t, nI_clamp (show 1 + j < 2 ^ 31 by omega), e9, Option.bind_some, mix_eq, nI_1]) (fun h => rfl) (by omega) (zhash Ct 6 (zhash (m.1 69) n (zhash Ev (min N 12 * 3) x)))
    have l3' : zloop b_X12_digest_104 zFU (1, zl m 68 57 (zhash Ct 6 (zhash (m.1 69) n (zhash Ev (min N 12 * 3) x)))) = _ := l3
    rw [l3', Option.bind_some, zl_get]
theorem Rel.zl {t : Nat} {m : zM} {x : Int64} (h : Rel t m) : Rel t (zl m 68 57 x) := h
theorem op_digest {t : Nat} {m : zM} (h : Rel t m) (ht : t ≤ 600) : ∃ v m2, f_X11_digest m = some v ∧ f_X12_digest m = some (v, m2) ∧ Rel (t + 1) m2 := by
  obtain ⟨V2, b1, b2⟩ := dg_rest h ht
  unfold f_X11_digest f_X12_digest
  rcases h.2.2.2.2 with hG | ⟨W, H, hG⟩
  · have e : f_X12_isGlass (zl m 68 57 1583) = some false := isG_f hG.2.1
    refine ⟨V2 1583, zl m 68 57 (V2 1583), ?_, ?_, (h.mono (by omega)).zl⟩
    · rw [if_pos hG.1]
      exact b1 _
    · rw [e, Option.bind_some, if_pos (by decide)]
      exact b2 _
  · obtain ⟨V1, a1, a2⟩ := dg_pair h hG ht
    have e : f_X12_isGlass (zl m 68 57 1583) = some true := isG_t (pr_wide hG) hG.1.2.1 hG.1.2.2.1
    refine ⟨V2 (V1 1583), zl m 68 57 (V2 (V1 1583)), ?_, ?_, (h.mono (by omega)).zl⟩
    · rw [pr_class hG, if_neg (by decide)]
      have := a1 1583
      obtain ⟨r8, q1, this⟩ := Option.bind_eq_some_iff.mp this
      obtain ⟨r9, q2, this⟩ := Option.bind_eq_some_iff.mp this
      obtain ⟨r10, q3, q4⟩ := Option.bind_eq_some_iff.mp this
      rw [q1, Option.bind_some, q2, Option.bind_some, q3, Option.bind_some, q4, Option.bind_some]
      exact b1 _
    · rw [e, Option.bind_some, if_neg (by decide), a2, Option.bind_some]
      exact b2 _
