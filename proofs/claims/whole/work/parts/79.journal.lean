/-! ===== a frame: the journal ===== -/
/-- two loops side by side -/
theorem zforI2 {σ ρ σ' ρ' : Type} {b : σ → Option (σ ⊕ ρ)} {b' : σ' → Option (σ' ⊕ ρ')} (I : Nat → σ → σ' → Prop) (N : Nat) (Q : ρ → ρ' → Prop) (hs : ∀ i s s', i < N → I i s s' → ∃ s1 s1', b s = some (.inl s1) ∧ b' s' = some (.inl s1') ∧ I (i + 1) s1 s1') (he : ∀ s s', I N s s' → ∃ r r', b s = some (.inr r) ∧ b' s' = some (.inr r') ∧ Q r r') : ∀ (k i n : Nat) (s : σ) (s' : σ'), i + k = N → I i s s' → k < n → ∃ r r', zloop b n s = some r ∧ zloop b' n s' = some r' ∧ Q r r'
  | 0, i, n, s, s', hk, hI, hn => by
    obtain ⟨k, rfl⟩ : ∃ k, n = k + 1 := ⟨n - 1, by omega⟩
    rw [Nat.add_zero] at hk
    subst hk
    obtain ⟨r, r', h1, h2, h3⟩ := he s s' hI
    exact ⟨r, r', zloop_0 h1, zloop_0 h2, h3⟩
  | k + 1, i, n, s, s', hk, hI, hn => by
    obtain ⟨n', rfl⟩ : ∃ k, n = k + 1 := ⟨n - 1, by omega⟩
    obtain ⟨s1, s1', h1, h2, h3⟩ := hs i s s' (by omega) hI
    rw [zloop_s h1, zloop_s h2]
    exact zforI2 I N Q hs he k (i + 1) n' s1 s1' (by omega) h3 (by omega)
theorem zfor2 {σ ρ σ' ρ' : Type} {b : σ → Option (σ ⊕ ρ)} {b' : σ' → Option (σ' ⊕ ρ')} (I : Nat → σ → σ' → Prop) (N : Nat) (Q : ρ → ρ' → Prop) {s : σ} {s' : σ'} (h0 : I 0 s s') (hs : ∀ i s s', i < N → I i s s' → ∃ s1 s1', b s = some (.inl s1) ∧ b' s' = some (.inl s1') ∧ I (i + 1) s1 s1') (he : ∀ s s', I N s s' → ∃ r r', b s = some (.inr r) ∧ b' s' = some (.inr r') ∧ Q r r') (hN : N < 4096) : ∃ r r', zloop b zFU s = some r ∧ zloop b' zFU s' = some r' ∧ Q r r' :=
  zforI2 I N Q hs he N 0 zFU s s' (by omega) h0 hN
def RJ2 (N : Nat) (mc mm : zM) : Prop := mc.1 8 4 = nI N ∧ mm.1 68 37 = nI (min N 12) ∧ (∀ p, p < min N 12 → mm.1 96 p = mc.1 9 ((N - 1 - p) % 12) ∧ mm.1 97 p = mc.1 10 ((N - 1 - p) % 12) ∧ mm.1 98 p = mc.1 11 ((N - 1 - p) % 12)) ∧ (∀ k, k < 5 → mc.1 12 k = mm.1 99 k) ∧ nI N = mm.1 99 1 + mm.1 99 2 + mm.1 99 3 + mm.1 99 4
theorem RJ2.cg {N : Nat} {mc mm mc' mm' : zM} (h : RJ2 N mc mm) (h1 : mc'.1 8 4 = mc.1 8 4) (h2 : mc'.1 9 = mc.1 9) (h3 : mc'.1 10 = mc.1 10) (h4 : mc'.1 11 = mc.1 11) (h5 : mc'.1 12 = mc.1 12) (h6 : mm'.1 68 37 = mm.1 68 37) (h7 : mm'.1 96 = mm.1 96) (h8 : mm'.1 97 = mm.1 97) (h9 : mm'.1 98 = mm.1 98) (h10 : mm'.1 99 = mm.1 99) : RJ2 N mc' mm' := by
  unfold RJ2 at h ⊢
  rw [h1, h2, h3, h4, h5, h6, h7, h8, h9, h10]
  exact h
theorem happens_loop {x1 x2 : Int32} {K : Nat} {m : zM} (hK : 1 ≤ K) (hK2 : K ≤ 12) : ∃ m', zloop (b_X12_happens_30 x1 x2) zFU (nI K - 1, m) = some m' ∧ Fr [96, 97, 98] m m' ∧ ∀ a, a = 96 ∨ a = 97 ∨ a = 98 → ∀ p, p < K → m'.1 a p = if p = 0 then m.1 a 0 else m.1 a (p - 1) := by
  obtain ⟨L, rfl⟩ : ∃ L, K = L + 1 := ⟨K - 1, by omega⟩
  rw [nI_pred]
  refine zforQ (fun i st => st.1 = nI (L - i) ∧ Fr [96, 97, 98] m st.2 ∧ ∀ a, a = 96 ∨ a = 97 ∨ a = 98 → ∀ p, p < L + 1 → st.2.1 a p = if L - i < p then m.1 a (p - 1) else m.1 a p) L _ ⟨rfl, Fr.refl, fun a ha p hp => ?_⟩ ?_ ?_ (by omega)
  · rw [if_neg (by omega)]
  · rintro i ⟨y, w⟩ hi ⟨rfl, f1, f2⟩
    simp only at f1 f2
    obtain ⟨q, hq⟩ : ∃ q, L - i = q + 1 := ⟨L - i - 1, by omega⟩
    have hq2 : L - (i + 1) = q := by omega
    rw [hq] at f2
    rw [hq, hq2]
    unfold b_X12_happens_30
    simp only [nI_nle (show 0 < q + 1 by omega) (show q + 1 < 2 ^ 31 by omega), if_false, nI_pred, zin_nI (show q < 12 by omega) (show 12 < 2 ^ 31 by decide), zin_nI (show q + 1 < 12 by omega) (show 12 < 2 ^ 31 by decide), zg_t, nI_clamp (show q < 2 ^ 31 by omega), nI_clamp (show q + 1 < 2 ^ 31 by omega), pk_m1]
    refine ⟨_, rfl, rfl, ((f1.st (by decide)).st (by decide)).st (by decide), fun a ha p hp => ?_⟩
    have old : ∀ a, a = 96 ∨ a = 97 ∨ a = 98 → w.1 a q = m.1 a q := fun a ha => by
      rw [f2 a ha q (by omega), if_neg (by omega)]
    by_cases e : p = q + 1
    · subst e
      rw [if_pos (by omega)]
      rcases ha with rfl | rfl | rfl
      · rw [ziO (show 96 ≠ 98 by decide), ziO (show 96 ≠ 97 by decide), ziE]
        exact old 96 (by simp)
      · rw [ziO (show 97 ≠ 98 by decide), ziE]
        exact old 97 (by simp)
      · rw [ziE]
        exact old 98 (by simp)
    · have h1 := f2 a ha p hp
      have h2 : (if q < p then m.1 a (p - 1) else m.1 a p) = if q + 1 < p then m.1 a (p - 1) else m.1 a p := by
        by_cases z : q + 1 < p
        · rw [if_pos (by omega), if_pos z]
        · rw [if_neg (by omega), if_neg z]
      rw [h2, ← h1]
      rcases ha with rfl | rfl | rfl <;> simp [zi, e]
  · rintro ⟨y, w⟩ ⟨rfl, f1, f2⟩
    simp only at f1 f2
    refine ⟨w, ?_, f1, fun a ha p hp => ?_⟩
    · unfold b_X12_happens_30
      simp only [Nat.sub_self, show nI 0 ≤ 0 by decide, if_true]
    · rw [f2 a ha p hp, Nat.sub_self]
      by_cases e : p = 0
      · rw [if_neg (by omega), if_pos e, e]
      · rw [if_pos (by omega), if_neg e]
/-- an event, on both sides -/
theorem ev_ok {N : Nat} {mc mm : zM} (h : RJ2 N mc mm) (hN : N < 2 ^ 30) {k : Nat} (hk : 1 ≤ k) (hk4 : k ≤ 4) (x : Int32) {fr : Int32} (hfr : mm.1 68 17 = fr) :
    ∃ mc' mm', f_X4_write (nI k) x fr mc = some mc' ∧ f_X12_happens (nI k) x mm = some mm' ∧ Fr [8, 9, 10, 11, 12] mc mc' ∧ Fr [68, 96, 97, 98, 99] mm mm' ∧ (∀ j, j ≠ 37 → mm'.1 68 j = mm.1 68 j) ∧ RJ2 (N + 1) mc' mm' := by
  obtain ⟨h1, h2, h3, h4, h5⟩ := id h
  have r1 : zrem (nI N) 12 = nI (N % 12) := pk_rem (d := 12) (by omega) (by omega) (by omega)
  have hr := Nat.mod_lt N (show 0 < 12 by omega)
  have hw : f_X11_within (nI k) 1 4 mc = some true := by
    rw [w11]
    congr 1
    refine decide_eq_true ⟨nI_le (a := 1) hk (by omega), nI_le (b := 4) hk4 (by decide)⟩
  -- the model
  have hm : ∃ mm', f_X12_happens (nI k) x mm = some mm' ∧ Fr [68, 96, 97, 98, 99] mm mm' ∧ (∀ j, j ≠ 37 → mm'.1 68 j = mm.1 68 j) ∧ mm'.1 68 37 = nI (min (N + 1) 12) ∧ (∀ p, p < min (N + 1) 12 → mm'.1 96 p = (if p = 0 then nI k else mm.1 96 (p - 1)) ∧ mm'.1 97 p = (if p = 0 then x else mm.1 97 (p - 1)) ∧ mm'.1 98 p = if p = 0 then fr else mm.1 98 (p - 1)) ∧ ∀ j, mm'.1 99 j = if j = k then mm.1 99 k + 1 else mm.1 99 j := by
    have go : ∀ s0, nI (min N 12) + s0 = nI (min (N + 1) 12) → ∃ mm', j_X12_happens_19 (nI k) x s0 (nI (min N 12)) mm = some mm' ∧ Fr [68, 96, 97, 98, 99] mm mm' ∧ (∀ j, j ≠ 37 → mm'.1 68 j = mm.1 68 j) ∧ mm'.1 68 37 = nI (min (N + 1) 12) ∧ (∀ p, p < min (N + 1) 12 → mm'.1 96 p = (if p = 0 then nI k else mm.1 96 (p - 1)) ∧ mm'.1 97 p = (if p = 0 then x else mm.1 97 (p - 1)) ∧ mm'.1 98 p = if p = 0 then fr else mm.1 98 (p - 1)) ∧ ∀ j, mm'.1 99 j = if j = k then mm.1 99 k + 1 else mm.1 99 j := by
      intro s0 hs0
      unfold j_X12_happens_19
      rw [hs0]
      obtain ⟨w, l1, l2, l3⟩ := happens_loop (x1 := nI k) (x2 := x) (K := min (N + 1) 12) (m := zi mm 68 37 (nI (min (N + 1) 12))) (by omega) (by omega)
      rw [l1]
      have w68 := l2.2 68 (by decide)
      have w99 := l2.2 99 (by decide)
      simp only [Option.bind_some, zin_nI (show k < 5 by omega) (show 5 < 2 ^ 31 by decide), zg_t, nI_clamp (show k < 2 ^ 31 by omega)]
      refine ⟨_, rfl, (((((Fr.refl.st (by decide)).trans (l2.wide (by decide))).st (by decide)).st (by decide)).st (by decide)).st (by decide), fun j hj => ?_, ?_, fun p hp => ?_, fun j => ?_⟩
      · simp only [ziO (show 68 ≠ 99 by decide), ziO (show 68 ≠ 98 by decide), ziO (show 68 ≠ 97 by decide), ziO (show 68 ≠ 96 by decide), w68]
        rw [ziN hj]
      · simp only [ziO (show 68 ≠ 99 by decide), ziO (show 68 ≠ 98 by decide), ziO (show 68 ≠ 97 by decide), ziO (show 68 ≠ 96 by decide), w68]
        rw [ziE]
      · have f17 : w.1 68 17 = fr := by rw [w68, ziN (by decide)]; exact hfr
        have q1 := l3 96 (by simp) p hp
        have q2 := l3 97 (by simp) p hp
        have q3 := l3 98 (by simp) p hp
        rw [zi_ne (show 96 ≠ 68 by decide)] at q1
        rw [zi_ne (show 97 ≠ 68 by decide)] at q2
        rw [zi_ne (show 98 ≠ 68 by decide)] at q3
        by_cases e : p = 0
        · subst e
          simp [zi, f17]
        · rw [if_neg e] at q1 q2 q3
          rw [if_neg e, if_neg e, if_neg e, ← q1, ← q2, ← q3]
          simp [zi, e]
      · rw [ziA]
        simp only [ziO (show 99 ≠ 98 by decide), ziO (show 99 ≠ 97 by decide), ziO (show 99 ≠ 96 by decide), w99, ziO (show 99 ≠ 68 by decide)]
    unfold f_X12_happens
    rw [h2]
    by_cases e : 12 ≤ N
    · rw [if_pos (show (12 : Int32) ≤ nI (min N 12) from nI_le (a := 12) (by omega) (by omega))]
      exact go 0 (by rw [Int32.add_zero]; congr 1; omega)
    · rw [if_neg (show ¬ (12 : Int32) ≤ nI (min N 12) from nI_ge (b := 12) (by omega) (by omega))]
      exact go 1 (by rw [nI_1]; congr 1; omega)
  obtain ⟨mm', g1, g2, g3, g4, g5, g6⟩ := hm
  refine ⟨zi (zi (zi (zi (zi mc 9 (N % 12) (nI k)) 10 (N % 12) x) 11 (N % 12) fr) 12 k (mc.1 12 k + 1)) 8 4 (nI (N + 1)), mm', ?_, g1, ((((Fr.refl.st (by decide)).st (by decide)).st (by decide)).st (by decide)).st (by decide), g2, g3, ?_⟩
  · unfold f_X4_write
    rw [h1, r1, if_neg (nI_pos (by omega)), hw]
    simp only [Option.bind_some]
    rw [if_neg bi_nt, zin_nI hr (by decide), zin_nI (show k < 5 by omega) (by decide), zg_t, zg_t, zg_t, zg_t, zg_t, nI_clamp (by omega), nI_clamp (by omega), nI_1]
  · refine ⟨ziE, g4, fun p hp => ?_, fun j hj => ?_, ?_⟩
    · obtain ⟨q1, q2, q3⟩ := g5 p hp
      rw [q1, q2, q3]
      simp only [ziO (show 9 ≠ 8 by decide), ziO (show 9 ≠ 12 by decide), ziO (show 9 ≠ 11 by decide), ziO (show 9 ≠ 10 by decide), ziO (show 10 ≠ 8 by decide), ziO (show 10 ≠ 12 by decide), ziO (show 10 ≠ 11 by decide), ziO (show 11 ≠ 8 by decide), ziO (show 11 ≠ 12 by decide), ziA, ziO (show 10 ≠ 9 by decide), ziO (show 11 ≠ 9 by decide), ziO (show 11 ≠ 10 by decide)]
      by_cases e : p = 0
      · subst e
        rw [if_pos rfl, if_pos rfl, if_pos rfl, if_pos (by omega), if_pos (by omega), if_pos (by omega)]
        exact ⟨rfl, rfl, rfl⟩
      · have z := h3 (p - 1) (by omega)
        have e1 : (N + 1 - 1 - p) % 12 = (N - 1 - (p - 1)) % 12 := by
          congr 1
          omega
        rw [if_neg e, if_neg e, if_neg e, e1, if_neg (by omega), if_neg (by omega), if_neg (by omega)]
        exact z
    · rw [ziO (show 12 ≠ 8 by decide), ziA, g6 j]
      simp only [ziO (show 12 ≠ 11 by decide), ziO (show 12 ≠ 10 by decide), ziO (show 12 ≠ 9 by decide)]
      by_cases e : j = k
      · rw [if_pos e, if_pos e, h4 k (by omega)]
      · rw [if_neg e, if_neg e]
        exact h4 j hj
    · rw [← nI_1, h5, g6 1, g6 2, g6 3, g6 4]
      rcases (show k = 1 ∨ k = 2 ∨ k = 3 ∨ k = 4 by omega) with rfl | rfl | rfl | rfl
      · simp only [if_true, show ¬ (2 : Nat) = 1 by decide, show ¬ (3 : Nat) = 1 by decide, show ¬ (4 : Nat) = 1 by decide, if_false]
        ac_rfl
      · simp only [if_true, show ¬ (1 : Nat) = 2 by decide, show ¬ (3 : Nat) = 2 by decide, show ¬ (4 : Nat) = 2 by decide, if_false]
        ac_rfl
      · simp only [if_true, show ¬ (1 : Nat) = 3 by decide, show ¬ (2 : Nat) = 3 by decide, show ¬ (4 : Nat) = 3 by decide, if_false]
        ac_rfl
      · simp only [if_true, show ¬ (1 : Nat) = 4 by decide, show ¬ (2 : Nat) = 4 by decide, show ¬ (3 : Nat) = 4 by decide, if_false]
        ac_rfl
