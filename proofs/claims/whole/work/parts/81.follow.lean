/-! ===== a frame: the tracks followed ===== -/
/-- all but the cells of a list, and the order of the tracks' rows, is as it was -/
def FrT (L : List Nat) (m m' : zM) : Prop := (∀ c, c ∉ L → m'.1 c = m.1 c) ∧ m'.2.1 = m.2.1 ∧ ∀ a, a ≠ 61 → m'.2.2 a = m.2.2 a
theorem FrT.refl {L : List Nat} {m : zM} : FrT L m m := ⟨fun _ _ => rfl, rfl, fun _ _ => rfl⟩
theorem FrT.fr {L L' : List Nat} {m m1 m2 : zM} (h : FrT L m m1) (f : Fr L' m1 m2) (hs : ∀ c, c ∈ L' → c ∈ L) : FrT L m m2 := ⟨fun c hc => (f.2 c (fun q => hc (hs c q))).trans (h.1 c hc), by rw [f.1]; exact h.2.1, fun a ha => by rw [f.1]; exact h.2.2 a ha⟩
theorem FrT.tr {L L' : List Nat} {m m1 m2 : zM} (h : FrT L m m1) (f : FrT L' m1 m2) (hs : ∀ c, c ∈ L' → c ∈ L) : FrT L m m2 := ⟨fun c hc => (f.1 c (fun q => hc (hs c q))).trans (h.1 c hc), f.2.1.trans h.2.1, fun a ha => (f.2.2 a ha).trans (h.2.2 a ha)⟩
theorem Fr.toT {L : List Nat} {m m1 : zM} (h : Fr L m m1) : FrT L m m1 := FrT.refl.fr h (fun _ q => q)
theorem TE.cg {w v w1 v1 : zM} {r j : Nat} (h : TE w v r j) (h1 : w1.1 (62 + r) = w.1 (62 + r)) (h2 : ∀ c, 87 ≤ c → c ≤ 95 → v1.1 c j = v.1 c j) : TE w1 v1 r j := by
  unfold TE at h ⊢
  rw [h1, h2 87 (by omega) (by omega), h2 88 (by omega) (by omega), h2 89 (by omega) (by omega), h2 90 (by omega) (by omega), h2 91 (by omega) (by omega), h2 92 (by omega) (by omega), h2 93 (by omega) (by omega), h2 94 (by omega) (by omega), h2 95 (by omega) (by omega)]
  exact h
theorem TB.cg {v v1 : zM} {j : Nat} (h : TB v j) (h2 : ∀ c, 87 ≤ c → c ≤ 95 → v1.1 c j = v.1 c j) : TB v1 j := by
  unfold TB at h ⊢
  rw [h2 88 (by omega) (by omega), h2 89 (by omega) (by omega), h2 95 (by omega) (by omega)]
  exact h
theorem SE.cg {w v w1 v1 : zM} {s : Nat} (h : SE w v s) (h1 : w1.1 (46 + s) = w.1 (46 + s)) (h2 : ∀ c, 81 ≤ c → c ≤ 86 → v1.1 c s = v.1 c s) : SE w1 v1 s := by
  unfold SE at h ⊢
  rw [h1, h2 81 (by omega) (by omega), h2 82 (by omega) (by omega), h2 83 (by omega) (by omega), h2 84 (by omega) (by omega), h2 85 (by omega) (by omega), h2 86 (by omega) (by omega)]
  exact h
theorem SB.cg {v v1 : zM} {s : Nat} (h : SB v s) (h1 : v1.1 84 s = v.1 84 s) (h2 : v1.1 85 s = v.1 85 s) : SB v1 s := by
  unfold SB at h ⊢
  rw [h1, h2]
  exact h
theorem keep_m {v : zM} {i k : Nat} (hi : i < 6) (hk : k < 6) (hb : v.1 95 i = 0 ∨ v.1 95 i = 1) : ∃ v', f_X12_keepAs (nI i) (nI k) v = some v' ∧ Fr [87, 88, 89, 90, 91, 92, 93, 94, 95] v v' ∧ (∀ c, 87 ≤ c → c ≤ 95 → ∀ p, v'.1 c p = if p = k then v.1 c i else v.1 c p) := by
  have hz : zb (v.1 95 i) = true := by
    rcases hb with h | h <;> rw [h] <;> decide
  unfold f_X12_keepAs
  simp only [zin_nI hi (show 6 < 2 ^ 31 by decide), zin_nI hk (show 6 < 2 ^ 31 by decide), zg_t, nI_clamp (show i < 2 ^ 31 by omega), nI_clamp (show k < 2 ^ 31 by omega), hz]
  refine ⟨_, rfl, ((((((((Fr.refl.st (by decide)).st (by decide)).st (by decide)).st (by decide)).st (by decide)).st (by decide)).st (by decide)).st (by decide)).st (by decide), fun c h1 h2 p => ?_⟩
  rcases (show c = 87 ∨ c = 88 ∨ c = 89 ∨ c = 90 ∨ c = 91 ∨ c = 92 ∨ c = 93 ∨ c = 94 ∨ c = 95 by omega) with rfl | rfl | rfl | rfl | rfl | rfl | rfl | rfl | rfl <;> simp [zi]
theorem memLC {c : Nat} (h : (8 ≤ c ∧ c ≤ 12) ∨ (46 ≤ c ∧ c ≤ 51) ∨ (62 ≤ c ∧ c ≤ 67)) : c ∈ [8, 9, 10, 11, 12, 46, 47, 48, 49, 50, 51, 62, 63, 64, 65, 66, 67] := by
  simp
  omega
theorem zr_22 {m : zM} {a k x c p : Nat} : (zr m a k x).2.2 c p = if c = a ∧ p = k then x else m.2.2 c p := rfl
theorem follow_ok {mc mm : zM} {S T N : Nat} {e : Nat → Option Nat} {fr : Int32} (hT6 : T ≤ 6) (hS6 : S ≤ 6) (c60 : mc.1 60 1 = nI T) (m27 : mm.1 68 27 = nI T) (h28 : ∀ t, t < T → mc.1 28 t = enP (e t)) (h103 : ∀ t, t < T → mm.1 103 t = enP (e t)) (he : ∀ t x, t < T → e t = some x → x < S) (h45 : ∀ j, j < 6 → mc.2.2 45 j = j) (p1 : ∀ j, j < 6 → mc.2.2 61 j < 6) (p2 : ∀ i j, i < 6 → j < 6 → mc.2.2 61 i = mc.2.2 61 j → i = j) (hTk : ∀ j, j < T → TE mc mm (mc.2.2 61 j) j ∧ TB mm j) (hSp : ∀ s, s < S → SE mc mm s ∧ SB mm s) (h26 : ∀ k, k < 9 → mc.1 26 k = mm.1 80 k) (hJ : RJ2 N mc mm) (hN : N + 20 < 2 ^ 30) (hfr : mm.1 68 17 = fr) :
    ∃ mc' mm' T' N', f_X10_follow fr mc = some mc' ∧ f_X12_followAll mm = some mm' ∧ FrT [8, 9, 10, 11, 12, 46, 47, 48, 49, 50, 51, 60, 62, 63, 64, 65, 66, 67] mc mc' ∧ (∀ p, p ≠ 1 → mc'.1 60 p = mc.1 60 p) ∧ Fr [68, 86, 87, 88, 89, 90, 91, 92, 93, 94, 95, 96, 97, 98, 99] mm mm' ∧ (∀ p, p ≠ 37 → p ≠ 27 → mm'.1 68 p = mm.1 68 p) ∧ T' ≤ T ∧ mc'.1 60 1 = nI T' ∧ mm'.1 68 27 = nI T' ∧ (∀ j, j < 6 → mc'.2.2 61 j < 6) ∧ (∀ i j, i < 6 → j < 6 → mc'.2.2 61 i = mc'.2.2 61 j → i = j) ∧ (∀ j, j < T' → TE mc' mm' (mc'.2.2 61 j) j ∧ TB mm' j) ∧ (∀ s, s < S → SE mc' mm' s) ∧ RJ2 N' mc' mm' ∧ N ≤ N' ∧ N' ≤ N + 12 := by
  have loop : ∃ (r : Int32 × zM) (r' : Int32 × zM), zloop (b_X10_follow_6 fr) zFU (0, 0, mc) = some r ∧ zloop b_X12_followAll_4 zFU (0, 0, mm) = some r' ∧ ∃ k M, k ≤ T ∧ r.1 = nI k ∧ r'.1 = nI k ∧ FrT [8, 9, 10, 11, 12, 46, 47, 48, 49, 50, 51, 62, 63, 64, 65, 66, 67] mc r.2 ∧ Fr [68, 86, 87, 88, 89, 90, 91, 92, 93, 94, 95, 96, 97, 98, 99] mm r'.2 ∧ (∀ p, p ≠ 37 → r'.2.1 68 p = mm.1 68 p) ∧ (∀ j, j < 6 → r.2.2.2 61 j < 6) ∧ (∀ i j, i < 6 → j < 6 → r.2.2.2 61 i = r.2.2.2 61 j → i = j) ∧ (∀ j, j < T → (j < k ∨ T ≤ j) → TE r.2 r'.2 (r.2.2.2 61 j) j ∧ TB r'.2 j) ∧ (∀ s, s < S → SE r.2 r'.2 s) ∧ RJ2 M r.2 r'.2 ∧ N ≤ M ∧ M ≤ N + 2 * T := by
    refine zfor2 (fun i (st : Int32 × Int32 × zM) (st' : Int32 × Int32 × zM) => ∃ k M, k ≤ i ∧ st.1 = nI k ∧ st'.1 = nI k ∧ st.2.1 = nI i ∧ st'.2.1 = nI i ∧ FrT [8, 9, 10, 11, 12, 46, 47, 48, 49, 50, 51, 62, 63, 64, 65, 66, 67] mc st.2.2 ∧ Fr [68, 86, 87, 88, 89, 90, 91, 92, 93, 94, 95, 96, 97, 98, 99] mm st'.2.2 ∧ (∀ p, p ≠ 37 → st'.2.2.1 68 p = mm.1 68 p) ∧ (∀ j, j < 6 → st.2.2.2.2 61 j < 6) ∧ (∀ i j, i < 6 → j < 6 → st.2.2.2.2 61 i = st.2.2.2.2 61 j → i = j) ∧ (∀ j, j < T → (j < k ∨ i ≤ j) → TE st.2.2 st'.2.2 (st.2.2.2.2 61 j) j ∧ TB st'.2.2 j) ∧ (∀ s, s < S → SE st.2.2 st'.2.2 s) ∧ RJ2 M st.2.2 st'.2.2 ∧ N ≤ M ∧ M ≤ N + 2 * i) T _ ⟨0, N, Nat.le_refl _, rfl, rfl, rfl, rfl, FrT.refl, Fr.refl, fun _ _ => rfl, p1, p2, fun j hj _ => hTk j hj, fun s hs => (hSp s hs).1, hJ, Nat.le_refl _, by omega⟩ ?_ ?_ (by omega)
    · rintro i ⟨x, y, w⟩ ⟨x', y', v⟩ hi ⟨k, M, hk, rfl, rfl, rfl, rfl, f1, f2, f3, f4, f5, f6, f7, f8, f9, f10⟩
      simp only at f1 f2 f3 f4 f5 f6 f7 f8
      obtain ⟨te, tb⟩ := f6 i hi (Or.inr (Nat.le_refl _))
      generalize hP : w.2.2 61 = P at f4 f5 f6 te
      have w61 : ∀ q, w.2.2 61 q = P q := fun q => by rw [← hP]
      have hr := f4 i (by omega)
      have ew26 : w.1 26 = mc.1 26 := f1.1 26 (by decide)
      have ew60 : w.1 60 = mc.1 60 := f1.1 60 (by decide)
      have ew28 : w.1 28 = mc.1 28 := f1.1 28 (by decide)
      have ew45 : w.2.2 45 = mc.2.2 45 := f1.2.2 45 (by decide)
      have ev80 : v.1 80 = mm.1 80 := f2.2 80 (by decide)
      have ev103 : v.1 103 = mm.1 103 := f2.2 103 (by decide)
      have ev27 : v.1 68 27 = nI T := by rw [f3 27 (by decide)]; exact m27
      have evfr : v.1 68 17 = fr := by rw [f3 17 (by decide)]; exact hfr
      -- the track stays
      have stay : ∀ w1 v1 M1, FrT [8, 9, 10, 11, 12, 46, 47, 48, 49, 50, 51, 62, 63, 64, 65, 66, 67] mc w1 → w1.2 = w.2 → Fr [68, 86, 87, 88, 89, 90, 91, 92, 93, 94, 95, 96, 97, 98, 99] mm v1 → (∀ p, p ≠ 37 → v1.1 68 p = mm.1 68 p) → (∀ j, j < T → j ≠ i → (j < k ∨ i + 1 ≤ j) → TE w1 v1 (P j) j ∧ TB v1 j) → TE w1 v1 (P i) i → TB v1 i → (∀ s, s < S → SE w1 v1 s) → RJ2 M1 w1 v1 → N ≤ M1 → M1 ≤ N + 2 * (i + 1) → ∃ s1 s1', j_X10_follow_65 fr (nI k) (nI i) (P i) 1 w1 = some (.inl s1) ∧ j_X12_followAll_44 (nI k) (nI i) 0 v1 = some (.inl s1') ∧ ∃ k' M', k' ≤ i + 1 ∧ s1.1 = nI k' ∧ s1'.1 = nI k' ∧ s1.2.1 = nI (i + 1) ∧ s1'.2.1 = nI (i + 1) ∧ FrT [8, 9, 10, 11, 12, 46, 47, 48, 49, 50, 51, 62, 63, 64, 65, 66, 67] mc s1.2.2 ∧ Fr [68, 86, 87, 88, 89, 90, 91, 92, 93, 94, 95, 96, 97, 98, 99] mm s1'.2.2 ∧ (∀ p, p ≠ 37 → s1'.2.2.1 68 p = mm.1 68 p) ∧ (∀ j, j < 6 → s1.2.2.2.2 61 j < 6) ∧ (∀ i j, i < 6 → j < 6 → s1.2.2.2.2 61 i = s1.2.2.2.2 61 j → i = j) ∧ (∀ j, j < T → (j < k' ∨ i + 1 ≤ j) → TE s1.2.2 s1'.2.2 (s1.2.2.2.2 61 j) j ∧ TB s1'.2.2 j) ∧ (∀ s, s < S → SE s1.2.2 s1'.2.2 s) ∧ RJ2 M' s1.2.2 s1'.2.2 ∧ N ≤ M' ∧ M' ≤ N + 2 * (i + 1) := by
        intro w1 v1 M1 g1 g2 g3 g4 g5 g6 g7 g8 g9 g10 g11
        obtain ⟨v2, k1, k2, k3⟩ := keep_m (v := v1) (i := i) (k := k) (by omega) (by omega) g7.2.2.2.2
        have hw61 : ∀ q, w1.2.2 61 q = P q := fun q => by rw [g2]; exact w61 q
        unfold j_X10_follow_65 j_X10_follow_96 j_X12_followAll_44 j_X12_followAll_57
        rw [if_neg (show ¬ (1 : Int32) = 0 by decide), if_pos rfl, k1]
        simp only [Option.bind_some, zin_nI (show k < 6 by omega) (show 6 < 2 ^ 31 by decide), zin_nI (show i < 6 by omega) (show 6 < 2 ^ 31 by decide), zg_t, nI_clamp (show k < 2 ^ 31 by omega), nI_clamp (show i < 2 ^ 31 by omega), hw61, Nat.mod_eq_of_lt hr, Nat.mod_eq_of_lt (f4 k (by omega)), nI_1]
        have hP2 : ∀ q, (zr (zr w1 61 i (P k)) 61 k (P i)).2.2 61 q = if q = k then P i else if q = i then P k else P q := by
          intro q
          rw [zr_22, zr_22, hw61]
          by_cases a : q = k
          · simp [a]
          · by_cases b : q = i
            · simp [b]
            · simp [a, b]
        have sw : ∀ q, ∃ x, (if q = k then P i else if q = i then P k else P q) = P x ∧ ((x = i ∧ q = k) ∨ (x = k ∧ q = i ∧ q ≠ k) ∨ (x = q ∧ q ≠ k ∧ q ≠ i)) := by
          intro q
          by_cases a : q = k
          · exact ⟨i, if_pos a, Or.inl ⟨rfl, a⟩⟩
          · by_cases b : q = i
            · exact ⟨k, by rw [if_neg a, if_pos b], Or.inr (Or.inl ⟨rfl, b, a⟩)⟩
            · exact ⟨q, by rw [if_neg a, if_neg b], Or.inr (Or.inr ⟨rfl, a, b⟩)⟩
        refine ⟨_, _, rfl, rfl, k + 1, M1, by omega, rfl, rfl, rfl, rfl, ⟨g1.1, g1.2.1, fun a ha => ?_⟩, g3.trans (k2.wide (by decide)), fun p hp => ?_, fun j hj => ?_, fun a b ha hb hab => ?_, fun j hj hjk => ?_, fun s hs => ?_, ?_, g10, g11⟩
        · rw [← g1.2.2 a ha]
          funext q
          rw [zr_22, zr_22, if_neg (fun z => ha z.1), if_neg (fun z => ha z.1)]
        · show v2.1 68 p = _
          rw [k2.2 68 (by decide)]
          exact g4 p hp
        · show (zr (zr w1 61 i (P k)) 61 k (P i)).2.2 61 j < 6
          rw [hP2]
          split
          · exact hr
          · split
            · exact f4 k (by omega)
            · exact f4 j hj
        · have hab' : (zr (zr w1 61 i (P k)) 61 k (P i)).2.2 61 a = (zr (zr w1 61 i (P k)) 61 k (P i)).2.2 61 b := hab
          rw [hP2, hP2] at hab'
          obtain ⟨x, x1, x2⟩ := sw a
          obtain ⟨z, z1, z2⟩ := sw b
          rw [x1, z1] at hab'
          have := f5 x z (by omega) (by omega) hab'
          omega
        · show TE (zr (zr w1 61 i (P k)) 61 k (P i)) v2 ((zr (zr w1 61 i (P k)) 61 k (P i)).2.2 61 j) j ∧ TB v2 j
          rw [hP2]
          by_cases a : j = k
          · subst a
            rw [if_pos rfl]
            constructor
            · unfold TE at g6 ⊢
              rw [k3 87 (by omega) (by omega), k3 88 (by omega) (by omega), k3 89 (by omega) (by omega), k3 90 (by omega) (by omega), k3 91 (by omega) (by omega), k3 92 (by omega) (by omega), k3 93 (by omega) (by omega), k3 94 (by omega) (by omega), k3 95 (by omega) (by omega)]
              simp only [if_true]
              exact g6
            · unfold TB at g7 ⊢
              rw [k3 88 (by omega) (by omega), k3 89 (by omega) (by omega), k3 95 (by omega) (by omega)]
              simp only [if_true]
              exact g7
          · have hji : j ≠ i := by omega
            rw [if_neg a, if_neg hji]
            obtain ⟨z1, z2⟩ := g5 j hj hji (by omega)
            exact ⟨z1.cg rfl (fun c h1 h2 => by rw [k3 c h1 h2, if_neg a]), z2.cg (fun c h1 h2 => by rw [k3 c h1 h2, if_neg a])⟩
        · exact (g8 s hs).cg rfl (fun c h1 h2 => by rw [k2.2 c (by simp; omega)])
        · exact g9.cg rfl rfl rfl rfl rfl (congrFun (k2.2 68 (by decide)) 37) (k2.2 96 (by decide)) (k2.2 97 (by decide)) (k2.2 98 (by decide)) (k2.2 99 (by decide))
      unfold b_X10_follow_6 b_X12_followAll_4
      simp only [ew60, c60, ev27, nI_ge hi (show T < 2 ^ 31 by omega), if_false, zin_nI (show i < 6 by omega) (show 6 < 2 ^ 31 by decide), zg_t, nI_clamp (show i < 2 ^ 31 by omega), ew28, ev103, h28 i hi, h103 i hi, ew45, w61]
      cases hei : e i with
      | none =>
        obtain ⟨b, w1, v1, M1, q1, q2, q3⟩ := miss_ok (N := M) (mc := w) (mm := v) hr (show i < 6 by omega) te (by rw [ew26, ev80]; exact h26 5 (by omega)) (by rw [ew26, ev80]; exact h26 6 (by omega)) f8 (by omega) evfr
        obtain ⟨r1, r2, r3, r4, r5, r6, r7, r8⟩ := q3
        rw [show enP none = -1 from rfl, if_pos rfl, if_pos rfl, q1, q2]
        simp only [Option.bind_some]
        have g1 : FrT [8, 9, 10, 11, 12, 46, 47, 48, 49, 50, 51, 62, 63, 64, 65, 66, 67] mc w1 := f1.fr r1 (fun c hc => memLC (by simp at hc; omega))
        have g3 : Fr [68, 86, 87, 88, 89, 90, 91, 92, 93, 94, 95, 96, 97, 98, 99] mm v1 := f2.trans (r2.wide (by decide))
        have g4 : ∀ p, p ≠ 37 → v1.1 68 p = mm.1 68 p := fun p hp => by rw [r3 p hp]; exact f3 p hp
        have oth : ∀ c, 87 ≤ c → c ≤ 95 → ∀ p, p ≠ i → v1.1 c p = v.1 c p := by
          intro c h1 h2 p hp
          by_cases z : c = 93
          · rw [z]; exact r4 p hp
          · rw [r2.2 c (by simp; omega)]
        have g5 : ∀ j, j < T → j ≠ i → (j < k ∨ i + 1 ≤ j) → TE w1 v1 (P j) j ∧ TB v1 j := by
          intro j hj hji hjk
          obtain ⟨z1, z2⟩ := f6 j hj (by omega)
          have hne : P j ≠ P i := fun z => hji (f5 j i (by omega) (by omega) z)
          have hlt := f4 j (by omega)
          exact ⟨z1.cg (r1.2 _ (by simp; omega)) (fun c h1 h2 => oth c h1 h2 j hji), z2.cg (fun c h1 h2 => oth c h1 h2 j hji)⟩
        have g7 : TB v1 i := by
          unfold TB at tb ⊢
          rw [r2.2 88 (by decide), r2.2 89 (by decide), r2.2 95 (by decide)]
          exact tb
        have g8 : ∀ s, s < S → SE w1 v1 s := fun s hs => (f7 s hs).cg (r1.2 _ (by simp; omega)) (fun c h1 h2 => by rw [r2.2 c (by simp; omega)])
        cases b with
        | false => exact stay w1 v1 M1 g1 r1.1 g3 g4 g5 r5 g7 g8 r6 (by omega) (by omega)
        | true =>
          unfold j_X10_follow_65 j_X10_follow_96 j_X12_followAll_44 j_X12_followAll_57
          rw [show bi (!true) = 0 from rfl, if_pos rfl, if_neg bi_nt, nI_1]
          refine ⟨_, _, rfl, rfl, k, M1, by omega, rfl, rfl, rfl, rfl, g1, g3, g4, fun j hj => ?_, fun a b ha hb hab => ?_, fun j hj hjk => ?_, g8, r6, by omega, by omega⟩
          · show w1.2.2 61 j < 6
            rw [r1.1, w61]
            exact f4 j hj
          · have hab' : w1.2.2 61 a = w1.2.2 61 b := hab
            rw [r1.1, w61, w61] at hab'
            exact f5 a b ha hb hab'
          · show TE w1 v1 (w1.2.2 61 j) j ∧ TB v1 j
            rw [r1.1, w61]
            exact g5 j hj (by omega) (by omega)
      | some q =>
        have hq := he i q hi hei
        obtain ⟨w1, v1, M1, q1, q2, q3⟩ := move_ok (N := M) (mc := w) (mm := v) (s := q) hr (show i < 6 by omega) (show q < 6 by omega) te tb (f7 q hq) ((hSp q hq).2.cg (by rw [f2.2 84 (by decide)]) (by rw [f2.2 85 (by decide)])) (by rw [ew26, ev80]; exact h26 3 (by omega)) f8 (by omega) evfr
        obtain ⟨r1, r2, r3, r4, r5, r6, r7, r8, r9, r10, r11⟩ := q3
        rw [show enP (some q) = nI q from rfl, if_neg (nI_nm1 (show q < 2 ^ 31 by omega)), if_neg (nI_nm1 (show q < 2 ^ 31 by omega)), zin_nI (show q < 6 by omega) (by decide), zg_t, nI_clamp (show q < 2 ^ 31 by omega), h45 q (by omega), q1, q2]
        simp only [Option.bind_some]
        have oth : ∀ c, 87 ≤ c → c ≤ 95 → ∀ p, p ≠ i → v1.1 c p = v.1 c p := by
          intro c h1 h2 p hp
          by_cases z : c = 87
          · rw [z, r2.2 87 (by decide)]
          · exact r4 c (by omega) h2 p hp
        refine stay w1 v1 M1 (f1.fr r1 (fun c hc => memLC (by simp at hc; omega))) r1.1 (f2.trans (r2.wide (by decide))) (fun p hp => by rw [r3 p hp]; exact f3 p hp) ?_ r6 r7 ?_ r9 (by omega) (by omega)
        · intro j hj hji hjk
          obtain ⟨z1, z2⟩ := f6 j hj (by omega)
          have hne : P j ≠ P i := fun z => hji (f5 j i (by omega) (by omega) z)
          have hlt := f4 j (by omega)
          exact ⟨z1.cg (r1.2 _ (by simp; omega)) (fun c h1 h2 => oth c h1 h2 j hji), z2.cg (fun c h1 h2 => oth c h1 h2 j hji)⟩
        · intro s hs
          by_cases z : s = q
          · rw [z]; exact r8
          · refine (f7 s hs).cg (r1.2 _ (by simp; omega)) (fun c h1 h2 => ?_)
            by_cases z2 : c = 86
            · rw [z2]; exact r5 s z
            · rw [r2.2 c (by simp; omega)]
    · rintro ⟨x, y, w⟩ ⟨x', y', v⟩ ⟨k, M, hk, rfl, rfl, rfl, rfl, f1, f2, f3, f4, f5, f6, f7, f8, f9, f10⟩
      simp only at f1 f2 f3 f4 f5 f6 f7 f8
      have ew60 : w.1 60 = mc.1 60 := f1.1 60 (by decide)
      have ev27 : v.1 68 27 = nI T := by rw [f3 27 (by decide)]; exact m27
      refine ⟨(nI k, w), (nI k, v), ?_, ?_, k, M, hk, rfl, rfl, f1, f2, f3, f4, f5, f6, f7, f8, f9, f10⟩
      · unfold b_X10_follow_6
        simp only [ew60, c60, nI_le (Nat.le_refl T) (show T < 2 ^ 31 by omega), if_true]
      · unfold b_X12_followAll_4
        simp only [ev27, nI_le (Nat.le_refl T) (show T < 2 ^ 31 by omega), if_true]
  obtain ⟨⟨x, w⟩, ⟨x', v⟩, l1, l2, k, M, hk, rfl, rfl, f1, f2, f3, f4, f5, f6, f7, f8, f9, f10⟩ := loop
  simp only at f1 f2 f3 f4 f5 f6 f7 f8
  refine ⟨zi w 60 1 (nI k), zi v 68 27 (nI k), k, M, ?_, ?_, ?_, ?_, f2.st (by decide), ?_, hk, ziE, ziE, f4, f5, ?_, ?_, ?_, f9, by omega⟩
  · unfold f_X10_follow
    rw [l1]
    rfl
  · unfold f_X12_followAll
    rw [l2]
    rfl
  · refine ⟨fun c hc => ?_, f1.2.1, f1.2.2⟩
    rw [zi_ne (fun z => hc (by rw [z]; decide))]
    refine f1.1 c (fun z => hc ?_)
    simp at z ⊢
    omega
  · intro p hp
    rw [ziN hp, f1.1 60 (by decide)]
  · intro p hp hp2
    rw [ziN hp2]
    exact f3 p hp
  · intro j hj
    obtain ⟨z1, z2⟩ := f6 j (by omega) (Or.inl hj)
    exact ⟨z1.cg (zi_ne (by show 62 + w.2.2 61 j ≠ 60; omega)) (fun c h1 h2 => ziO (by omega)), z2.cg (fun c h1 h2 => ziO (by omega))⟩
  · intro s hs
    exact (f7 s hs).cg (zi_ne (by omega)) (fun c h1 h2 => ziO (by omega))
  · exact f8.cg (ziO (by decide)) (zi_ne (by decide)) (zi_ne (by decide)) (zi_ne (by decide)) (zi_ne (by decide)) (ziN (by decide)) (zi_ne (by decide)) (zi_ne (by decide)) (zi_ne (by decide)) (zi_ne (by decide))
