/-! ===== pure tools: memory, checks, loops ===== -/
/-- a cell's row replaced -/
def zrow (m : zM) (a : Nat) (g : Nat → Int32) : zM := (fun c => if c = a then g else m.1 c, m.2)
theorem zi_ne {m : zM} {a k c : Nat} {x : Int32} (h : c ≠ a) : (zi m a k x).1 c = m.1 c := by
  funext j
  simp [zi, h]
theorem zi_eq {m : zM} {a k : Nat} {x : Int32} : (zi m a k x).1 a = fun j => if j = k then x else m.1 a j := by
  funext j
  simp [zi]
theorem zi_2 {m : zM} {a k : Nat} {x : Int32} : (zi m a k x).2 = m.2 := rfl
theorem zl_1 {m : zM} {a k : Nat} {x : Int64} : (zl m a k x).1 = m.1 := rfl
theorem zl_22 {m : zM} {a k : Nat} {x : Int64} : (zl m a k x).2.2 = m.2.2 := rfl
theorem zr_1 {m : zM} {a k : Nat} {x : Nat} : (zr m a k x).1 = m.1 := rfl
theorem zr_21 {m : zM} {a k : Nat} {x : Nat} : (zr m a k x).2.1 = m.2.1 := rfl
theorem zrow_ne {m : zM} {a c : Nat} {g : Nat → Int32} (h : c ≠ a) : (zrow m a g).1 c = m.1 c := by
  simp [zrow, h]
theorem zrow_eq {m : zM} {a : Nat} {g : Nat → Int32} : (zrow m a g).1 a = g := by
  simp [zrow]
theorem zrow_2 {m : zM} {a : Nat} {g : Nat → Int32} : (zrow m a g).2 = m.2 := rfl
theorem zi_zrow {m : zM} {a k : Nat} {g : Nat → Int32} {x : Int32} : zi (zrow m a g) a k x = zrow m a (fun j => if j = k then x else g j) := by
  unfold zi zrow
  refine Prod.ext ?_ rfl
  funext c j
  by_cases h : c = a <;> simp [h]
theorem zi_as {m : zM} {a k : Nat} {x : Int32} : zi m a k x = zrow m a (fun j => if j = k then x else m.1 a j) := by
  unfold zi zrow
  refine Prod.ext ?_ rfl
  funext c j
  by_cases h : c = a
  · subst h; simp
  · simp [h]
theorem zrow_zrow {m : zM} {a : Nat} {g g' : Nat → Int32} : zrow (zrow m a g) a g' = zrow m a g' := by
  unfold zrow
  refine Prod.ext ?_ rfl
  funext c
  by_cases h : c = a <;> simp [h]
theorem zrow_self {m : zM} {a : Nat} : zrow m a (m.1 a) = m := by
  unfold zrow
  refine Prod.ext ?_ rfl
  funext c
  by_cases h : c = a
  · subst h; simp
  · simp [h]
/-- the order of two rows doesn't matter -/
theorem zrow_swap {m : zM} {a b : Nat} {g g' : Nat → Int32} (h : a ≠ b) : zrow (zrow m a g) b g' = zrow (zrow m b g') a g := by
  unfold zrow
  refine Prod.ext ?_ rfl
  funext c
  by_cases h1 : c = a
  · subst h1; simp [h]
  · simp [h1]
theorem zi_zrow_ne {m : zM} {a b k : Nat} {g : Nat → Int32} {x : Int32} (h : a ≠ b) : zi (zrow m a g) b k x = zrow (zi m b k x) a g := by
  rw [zi_as, zi_as, zrow_swap h, zrow_ne (Ne.symm h)]
/-- up to place i one function, from there on the other -/
def zup (i : Nat) (G g : Nat → Int32) : Nat → Int32 := fun j => if j < i then G j else g j
theorem zup_0 {G g : Nat → Int32} : zup 0 G g = g := by
  funext j
  simp [zup]
theorem zup_succ {i : Nat} {G g : Nat → Int32} {x : Int32} (hx : x = G i) : (fun j => if j = i then x else zup i G g j) = zup (i + 1) G g := by
  funext j
  unfold zup
  by_cases h : j = i
  · subst h; simp [hx]
  · by_cases h2 : j < i
    · simp [h, h2, Nat.lt_succ_of_lt h2]
    · have : ¬ j < i + 1 := by omega
      simp [h, h2, this]
theorem zup_lt {i j : Nat} {G g : Nat → Int32} (h : j < i) : zup i G g j = G j := by simp [zup, h]
theorem zup_ge {i j : Nat} {G g : Nat → Int32} (h : i ≤ j) : zup i G g j = g j := by simp [zup, Nat.not_lt.mpr h]
/-! checks -/
theorem zg_t {α : Type} {k : Option α} : zg true k = k := rfl
theorem zg_f {α : Type} {k : Option α} : zg false k = none := rfl
theorem zin_nI {k n : Nat} (h : k < n) (hn : n < 2 ^ 31) : zin (nI k) n = true := by
  unfold zin
  have h1 := nI_pos (n := k) (by omega)
  have h2 := nI_clamp (n := k) (by omega)
  simp [h1, h2, h]
theorem zin_of {x : Int32} {n : Nat} (h : zin x n = true) (hn : n < 2 ^ 31) : ∃ j, j < n ∧ x = nI j := vp_in_of (zin_vp h) hn
theorem bi_0 {b : Bool} : bi b = 0 ↔ b = false := by cases b <;> decide
theorem bi_t : bi true = 1 := rfl
theorem bi_f : bi false = 0 := rfl
theorem w11 (x a b : Int32) (m : zM) : f_X11_within x a b m = some (decide (a ≤ x ∧ x ≤ b)) := by
  unfold f_X11_within
  by_cases h1 : x < a
  · have : ¬ a ≤ x := Int32.not_le.mpr h1
    simp [h1, this]
  · have h1' : a ≤ x := Int32.not_lt.mp h1
    by_cases h2 : b < x
    · have : ¬ x ≤ b := Int32.not_le.mpr h2
      simp [h1, h1', h2, this]
    · have h2' : x ≤ b := Int32.not_lt.mp h2
      simp [h1, h1', h2, h2']
theorem w12 (x a b : Int32) (m : zM) : f_X12_within x a b m = some (decide (a ≤ x ∧ x ≤ b)) := w11 x a b m
/-! loops -/
theorem zloop_0 {σ ρ : Type} {b : σ → Option (σ ⊕ ρ)} {n : Nat} {s : σ} {r : ρ} (h : b s = some (.inr r)) : zloop b (n + 1) s = some r := by
  unfold zloop
  rw [h]
theorem zloop_s {σ ρ : Type} {b : σ → Option (σ ⊕ ρ)} {n : Nat} {s s1 : σ} (h : b s = some (.inl s1)) : zloop b (n + 1) s = zloop b n s1 := by
  rw [zloop, h]
/-- a loop whose states are known -/
theorem zforN {σ ρ : Type} {b : σ → Option (σ ⊕ ρ)} (F : Nat → σ) {r : ρ} : ∀ (N i n : Nat), (∀ j, i ≤ j → j < i + N → b (F j) = some (.inl (F (j + 1)))) → b (F (i + N)) = some (.inr r) → N < n → zloop b n (F i) = some r
  | 0, i, n, _, he, hn => by
    obtain ⟨k, rfl⟩ : ∃ k, n = k + 1 := ⟨n - 1, by omega⟩
    exact zloop_0 he
  | N + 1, i, n, hs, he, hn => by
    obtain ⟨k, rfl⟩ : ∃ k, n = k + 1 := ⟨n - 1, by omega⟩
    rw [zloop_s (hs i (Nat.le_refl _) (by omega))]
    refine zforN F N (i + 1) k (fun j h1 h2 => hs j (by omega) (by omega)) ?_ (by omega)
    rw [show i + 1 + N = i + (N + 1) by omega]
    exact he
theorem zfor {σ ρ : Type} {b : σ → Option (σ ⊕ ρ)} (F : Nat → σ) (N : Nat) {s : σ} {r : ρ} (h0 : s = F 0) (hs : ∀ j, j < N → b (F j) = some (.inl (F (j + 1)))) (he : b (F N) = some (.inr r)) (hN : N < 4096) : zloop b zFU s = some r := by
  subst h0
  refine zforN F N 0 zFU (fun j _ h => hs j (by omega)) ?_ hN
  rw [Nat.zero_add]
  exact he
/-- a loop that comes out early: its states are known up to there -/
theorem zforB {σ ρ : Type} {b : σ → Option (σ ⊕ ρ)} (F : Nat → σ) (K : Nat) {s : σ} {r : ρ} (h0 : s = F 0) (hs : ∀ j, j < K → b (F j) = some (.inl (F (j + 1)))) (he : b (F K) = some (.inr r)) (hN : K < 4096) : zloop b zFU s = some r := zfor F K h0 hs he hN
/-- a loop with an invariant that falls -/
theorem zwhile {σ ρ : Type} {b : σ → Option (σ ⊕ ρ)} (I : σ → Prop) (μ : σ → Nat) (Q : ρ → Prop) (hs : ∀ s, I s → (∃ s1, b s = some (.inl s1) ∧ I s1 ∧ μ s1 < μ s) ∨ (∃ r, b s = some (.inr r) ∧ Q r)) : ∀ (n : Nat) (s : σ), I s → μ s < n → ∃ r, zloop b n s = some r ∧ Q r
  | 0, s, _, h => by omega
  | n + 1, s, hI, hn => by
    rcases hs s hI with ⟨s1, h1, h2, h3⟩ | ⟨r, h1, h2⟩
    · rw [zloop_s h1]
      exact zwhile I μ Q hs n s1 h2 (by omega)
    · exact ⟨r, zloop_0 h1, h2⟩
/-- a loop over 0 .. N - 1 with an invariant -/
theorem zforI {σ ρ : Type} {b : σ → Option (σ ⊕ ρ)} (I : Nat → σ → Prop) (N : Nat) (Q : ρ → Prop) (hs : ∀ i s, i < N → I i s → ∃ s1, b s = some (.inl s1) ∧ I (i + 1) s1) (he : ∀ s, I N s → ∃ r, b s = some (.inr r) ∧ Q r) : ∀ (k i n : Nat) (s : σ), i + k = N → I i s → k < n → ∃ r, zloop b n s = some r ∧ Q r
  | 0, i, n, s, hk, hI, hn => by
    obtain ⟨k, rfl⟩ : ∃ k, n = k + 1 := ⟨n - 1, by omega⟩
    rw [Nat.add_zero] at hk
    subst hk
    obtain ⟨r, h1, h2⟩ := he s hI
    exact ⟨r, zloop_0 h1, h2⟩
  | k + 1, i, n, s, hk, hI, hn => by
    obtain ⟨n', rfl⟩ : ∃ k, n = k + 1 := ⟨n - 1, by omega⟩
    obtain ⟨s1, h1, h2⟩ := hs i s (by omega) hI
    rw [zloop_s h1]
    exact zforI I N Q hs he k (i + 1) n' s1 (by omega) h2 (by omega)
theorem zforQ {σ ρ : Type} {b : σ → Option (σ ⊕ ρ)} (I : Nat → σ → Prop) (N : Nat) (Q : ρ → Prop) {s : σ} (h0 : I 0 s) (hs : ∀ i s, i < N → I i s → ∃ s1, b s = some (.inl s1) ∧ I (i + 1) s1) (he : ∀ s, I N s → ∃ r, b s = some (.inr r) ∧ Q r) (hN : N < 4096) : ∃ r, zloop b zFU s = some r ∧ Q r :=
  zforI I N Q hs he N 0 zFU s (by omega) h0 hN
/-! numbers -/
theorem lit_nI (n : Nat) : (OfNat.ofNat n : Int32) = nI n := rfl
theorem nI_le_iff {a b : Nat} (ha : a < 2 ^ 31) (hb : b < 2 ^ 31) : nI a ≤ nI b ↔ a ≤ b := nI_leI ha hb
theorem le32 {a b : Int32} : a ≤ b ↔ a.toInt ≤ b.toInt := Int32.le_iff_toInt_le
theorem lt32 {a b : Int32} : a < b ↔ a.toInt < b.toInt := Int32.lt_iff_toInt_lt
theorem eq32 {a b : Int32} : a = b ↔ a.toInt = b.toInt := Int32.toInt_inj.symm
