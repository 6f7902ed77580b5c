/-! ===== a frame: pairs of tracks and spots, the pure picture ===== -/
def sb (set q : Nat) : Nat := set ||| 2 ^ q
def btr (a b : Nat × Nat) : Bool := decide (b.1 < a.1) || (decide (a.1 = b.1) && decide (a.2 < b.2))
def pV (x : Nat × Nat) : Nat := 1000000 * x.1 - x.2
def Bd (x : Nat × Nat) : Prop := x.1 ≤ 7 ∧ x.2 ≤ 25088 * x.1
theorem btr_V {a b : Nat × Nat} (ha : Bd a) (hb : Bd b) : btr a b = true ↔ pV b < pV a := by
  unfold Bd at ha hb
  unfold btr pV
  rw [Bool.or_eq_true, Bool.and_eq_true, decide_eq_true_eq, decide_eq_true_eq, decide_eq_true_eq]
  omega
theorem pV_inj {a b : Nat × Nat} (ha : Bd a) (hb : Bd b) (h : pV a = pV b) : a = b := by
  unfold Bd at ha hb
  unfold pV at h
  exact Prod.ext (by omega) (by omega)
/-- the best of a track's ways: none, then spot by spot -/
def PVs (ok : Nat → Bool) (tot : Nat → Nat × Nat) (z : Nat × Nat) : Nat → Nat × Nat
  | 0 => z
  | q + 1 => if ok q && btr (tot q) (PVs ok tot z q) then tot q else PVs ok tot z q
theorem PVs_mem {ok : Nat → Bool} {tot : Nat → Nat × Nat} {z : Nat × Nat} : ∀ n, PVs ok tot z n = z ∨ ∃ x, x < n ∧ ok x = true ∧ PVs ok tot z n = tot x
  | 0 => Or.inl rfl
  | n + 1 => by
    show (if ok n && btr (tot n) (PVs ok tot z n) then tot n else PVs ok tot z n) = z ∨ ∃ x, x < n + 1 ∧ ok x = true ∧ (if ok n && btr (tot n) (PVs ok tot z n) then tot n else PVs ok tot z n) = tot x
    cases h : (ok n && btr (tot n) (PVs ok tot z n)) with
    | true =>
      rw [Bool.and_eq_true] at h
      exact Or.inr ⟨n, by omega, h.1, rfl⟩
    | false =>
      rcases PVs_mem (ok := ok) (tot := tot) (z := z) n with q | ⟨x, q1, q2, q3⟩
      · exact Or.inl q
      · exact Or.inr ⟨x, by omega, q2, q3⟩
theorem PVs_bd {ok : Nat → Bool} {tot : Nat → Nat × Nat} {z : Nat × Nat} (hz : Bd z) (ht : ∀ q, ok q = true → Bd (tot q)) (n : Nat) : Bd (PVs ok tot z n) := by
  rcases PVs_mem (ok := ok) (tot := tot) (z := z) n with q | ⟨x, _, q2, q3⟩
  · rw [q]; exact hz
  · rw [q3]; exact ht x q2
theorem PVs_max {ok : Nat → Bool} {tot : Nat → Nat × Nat} {z : Nat × Nat} (hz : Bd z) (ht : ∀ q, ok q = true → Bd (tot q)) : ∀ n, pV z ≤ pV (PVs ok tot z n) ∧ ∀ j, j < n → ok j = true → pV (tot j) ≤ pV (PVs ok tot z n)
  | 0 => ⟨Nat.le_refl _, fun j hj => by omega⟩
  | n + 1 => by
    obtain ⟨h1, h2⟩ := PVs_max hz ht n
    have hb := PVs_bd hz ht n
    show pV z ≤ pV (if ok n && btr (tot n) (PVs ok tot z n) then tot n else PVs ok tot z n) ∧ ∀ j, j < n + 1 → ok j = true → pV (tot j) ≤ pV (if ok n && btr (tot n) (PVs ok tot z n) then tot n else PVs ok tot z n)
    cases h : (ok n && btr (tot n) (PVs ok tot z n)) with
    | true =>
      rw [Bool.and_eq_true] at h
      have := (btr_V (ht n h.1) hb).mp h.2
      simp only [if_true]
      refine ⟨by omega, fun j hj hk => ?_⟩
      by_cases e : j = n
      · subst e; exact Nat.le_refl _
      · have := h2 j (by omega) hk
        omega
    | false =>
      simp only [Bool.false_eq_true, if_false]
      refine ⟨h1, fun j hj hk => ?_⟩
      by_cases e : j = n
      · subst e
        refine Nat.le_of_not_lt fun q => ?_
        rw [hk, Bool.true_and, (btr_V (ht j hk) hb).mpr q] at h
        cases h
      · exact h2 j (by omega) hk
/-- the first of a kind -/
def fstP (p : Nat → Bool) : Nat → Option Nat
  | 0 => none
  | n + 1 => match fstP p n with
    | some x => some x
    | none => if p n then some n else none
theorem fstP_none {p : Nat → Bool} : ∀ n, (∀ j, j < n → p j = false) → fstP p n = none
  | 0, _ => rfl
  | n + 1, h => by
    unfold fstP
    rw [fstP_none n (fun j hj => h j (by omega)), h n (by omega)]
    rfl
theorem fstP_some {p : Nat → Bool} {x : Nat} (hx : p x = true) (hl : ∀ j, j < x → p j = false) : ∀ n, x < n → fstP p n = some x
  | 0, h => by omega
  | n + 1, h => by
    unfold fstP
    by_cases e : x = n
    · subst e
      rw [fstP_none x hl, hx]
      rfl
    · rw [fstP_some hx hl n (by omega)]
theorem fstP_cases (p : Nat → Bool) : ∀ n, (fstP p n = none ∧ ∀ j, j < n → p j = false) ∨ ∃ x, x < n ∧ fstP p n = some x ∧ p x = true ∧ ∀ j, j < x → p j = false
  | 0 => Or.inl ⟨rfl, fun j hj => by omega⟩
  | n + 1 => by
    rcases fstP_cases p n with ⟨a, b⟩ | ⟨x, a, b, c, d⟩
    · cases h : p n with
      | true => exact Or.inr ⟨n, by omega, fstP_some h b _ (by omega), h, b⟩
      | false =>
        have hb : ∀ j, j < n + 1 → p j = false := fun j hj => by
          by_cases e : j = n
          · rw [e]; exact h
          · exact b j (by omega)
        exact Or.inl ⟨fstP_none _ hb, hb⟩
    · exact Or.inr ⟨x, by omega, fstP_some c d _ (by omega), c, d⟩
section PRS
variable (nr : Nat → Nat → Bool) (co : Nat → Nat → Nat) (S T : Nat)
def okP (set t q : Nat) : Bool := !(Nat.testBit set q) && nr t q
def PV : Nat → Nat → Nat × Nat
  | 0, _ => (0, 0)
  | d + 1, set => PVs (okP nr set (T - 1 - d)) (fun q => ((PV d (sb set q)).1 + 1, (PV d (sb set q)).2 + co (T - 1 - d) q)) (PV d set) S
/-- the ways of track t, what is used is set -/
def tP (t set q : Nat) : Nat × Nat := ((PV nr co S T (T - (t + 1)) (sb set q)).1 + 1, (PV nr co S T (T - (t + 1)) (sb set q)).2 + co t q)
def chP (t set : Nat) : Option Nat := fstP (fun q => okP nr set t q && decide (tP nr co S T t set q = PV nr co S T (T - t) set)) S
def enP : Option Nat → Int32
  | none => -1
  | some x => nI x
def nxP (t set : Nat) : Nat := match chP nr co S T t set with
  | none => set
  | some x => sb set x
def stP : Nat → Nat
  | 0 => 0
  | t + 1 => nxP nr co S T t (stP t)
end PRS
section PRT
variable {nr : Nat → Nat → Bool} {co : Nat → Nat → Nat} {S T : Nat}
theorem PV_t {t set : Nat} (ht : t < T) : PV nr co S T (T - t) set = PVs (okP nr set t) (tP nr co S T t set) (PV nr co S T (T - (t + 1)) set) S := by
  have e : T - t = (T - (t + 1)) + 1 := by omega
  rw [e]
  show PVs (okP nr set (T - 1 - (T - (t + 1)))) _ _ S = _
  rw [show T - 1 - (T - (t + 1)) = t by omega]
  rfl
theorem PV_bd (hco : ∀ t q, co t q ≤ 25088) : ∀ d set, d ≤ T → (PV nr co S T d set).1 ≤ d ∧ (PV nr co S T d set).2 ≤ 25088 * (PV nr co S T d set).1
  | 0, set, _ => ⟨Nat.le_refl _, Nat.le_refl _⟩
  | d + 1, set, hd => by
    show (PVs _ _ _ S).1 ≤ d + 1 ∧ (PVs _ _ _ S).2 ≤ 25088 * (PVs _ _ _ S).1
    rcases PVs_mem (ok := okP nr set (T - 1 - d)) (tot := fun q => ((PV nr co S T d (sb set q)).1 + 1, (PV nr co S T d (sb set q)).2 + co (T - 1 - d) q)) (z := PV nr co S T d set) S with q | ⟨x, _, _, q3⟩
    · rw [q]
      have := PV_bd hco d set (by omega)
      exact ⟨by omega, this.2⟩
    · rw [q3]
      have a := PV_bd hco d (sb set x) (by omega)
      have b := hco (T - 1 - d) x
      exact ⟨by simp only; omega, by simp only; omega⟩
theorem PV_Bd (hT : T ≤ 6) (hco : ∀ t q, co t q ≤ 25088) {d set : Nat} (hd : d ≤ T) : Bd (PV nr co S T d set) := by
  have := PV_bd (nr := nr) (S := S) hco d set hd
  exact ⟨by omega, this.2⟩
theorem tP_Bd (hT : T ≤ 6) (hco : ∀ t q, co t q ≤ 25088) {t set q : Nat} (ht : t < T) : Bd (tP nr co S T t set q) := by
  have a := PV_bd (nr := nr) (S := S) (T := T) hco (T - (t + 1)) (sb set q) (by omega)
  have b := hco t q
  unfold tP Bd
  exact ⟨by simp only; omega, by simp only; omega⟩
/-- the class's choice is the first best one -/
theorem chP_class (hT : T ≤ 6) (hco : ∀ t q, co t q ≤ 25088) {t set : Nat} (ht : t < T) {r : Int32} (h : (r = -1 ∧ ∀ j, j < S → okP nr set t j = true → pV (tP nr co S T t set j) < pV (PV nr co S T (T - (t + 1)) set)) ∨ ∃ x, x < S ∧ okP nr set t x = true ∧ r = nI x ∧ pV (PV nr co S T (T - (t + 1)) set) ≤ pV (tP nr co S T t set x) ∧ (∀ j, j < S → okP nr set t j = true → pV (tP nr co S T t set j) ≤ pV (tP nr co S T t set x)) ∧ ∀ j, j < x → okP nr set t j = true → pV (tP nr co S T t set j) < pV (tP nr co S T t set x)) :
    r = enP (chP nr co S T t set) ∧ pV (PV nr co S T (T - t) set) = match chP nr co S T t set with
      | none => pV (PV nr co S T (T - (t + 1)) set)
      | some x => pV (tP nr co S T t set x) := by
  have hz : Bd (PV nr co S T (T - (t + 1)) set) := PV_Bd hT hco (by omega)
  have htt : ∀ q, okP nr set t q = true → Bd (tP nr co S T t set q) := fun q _ => tP_Bd hT hco ht
  have hb : Bd (PV nr co S T (T - t) set) := PV_Bd hT hco (by omega)
  have e := PV_t (nr := nr) (co := co) (S := S) (set := set) ht
  have m1 := PVs_mem (ok := okP nr set t) (tot := tP nr co S T t set) (z := PV nr co S T (T - (t + 1)) set) S
  have m2 := PVs_max hz htt S
  rw [← e] at m1 m2
  rcases h with ⟨h1, h2⟩ | ⟨x, h1, h2, h3, h4, h5, h6⟩
  · have ev : PV nr co S T (T - t) set = PV nr co S T (T - (t + 1)) set := by
      rcases m1 with q | ⟨x, q1, q2, q3⟩
      · exact q
      · have a := h2 x q1 q2
        rw [← q3] at a
        have := m2.1
        omega
    have hc : chP nr co S T t set = none := by
      unfold chP
      refine fstP_none S fun j hj => ?_
      cases ho : okP nr set t j with
      | false => rfl
      | true =>
        rw [Bool.true_and]
        refine decide_eq_false fun q => ?_
        have a := h2 j hj ho
        rw [q, ev] at a
        omega
    rw [hc]
    exact ⟨h1, by rw [ev]⟩
  · have ev : PV nr co S T (T - t) set = tP nr co S T t set x := by
      refine pV_inj hb (htt x h2) ?_
      have b := m2.2 x h1 h2
      rcases m1 with q | ⟨y, q1, q2, q3⟩
      · rw [q] at b ⊢
        omega
      · have a := h5 y q1 q2
        rw [q3] at b ⊢
        omega
    have hc : chP nr co S T t set = some x := by
      unfold chP
      refine fstP_some ?_ ?_ S h1
      · rw [h2, Bool.true_and]
        exact decide_eq_true ev.symm
      · intro j hj
        cases ho : okP nr set t j with
        | false => rfl
        | true =>
          rw [Bool.true_and]
          refine decide_eq_false fun q => ?_
          have a := h6 j hj ho
          rw [q, ev] at a
          omega
    rw [hc]
    exact ⟨h3, by rw [ev]⟩
theorem chP_lt {t set x : Nat} (h : chP nr co S T t set = some x) : x < S := by
  unfold chP at h
  rcases fstP_cases (fun q => okP nr set t q && decide (tP nr co S T t set q = PV nr co S T (T - t) set)) S with ⟨a, _⟩ | ⟨y, a, b, _⟩
  · rw [a] at h; cases h
  · rw [b] at h
    cases h
    exact a
end PRT
/-! bits -/
def ckBT : Bool := allLt 64 fun set => allLt 6 fun q => decide ((zshr (nI set) (nI q) &&& 1) = if Nat.testBit set q then 1 else 0) && decide ((nI set ||| zshl 1 (nI q)) = nI (sb set q)) && decide (sb set q < 64)
theorem ckBT_ok : ckBT = true := by decide +kernel
theorem bt_ok {set q : Nat} (hs : set < 64) (hq : q < 6) : (zshr (nI set) (nI q) &&& 1) = (if Nat.testBit set q then 1 else 0) ∧ (nI set ||| zshl 1 (nI q)) = nI (sb set q) ∧ sb set q < 64 := by
  have := allLt_spec (allLt_spec ckBT_ok hs) hq
  rw [Bool.and_eq_true, Bool.and_eq_true, decide_eq_true_eq, decide_eq_true_eq, decide_eq_true_eq] at this
  exact ⟨this.1.1, this.1.2, this.2⟩
def ckBS : Bool := allLt 7 fun S => decide (zshl 1 (nI S) = nI (2 ^ S)) && decide (2 ^ S ≤ 64) && allLt (2 ^ S) fun set => allLt S fun q => decide (sb set q < 2 ^ S)
theorem ckBS_ok : ckBS = true := by decide +kernel
theorem bs_ok {S : Nat} (hS : S ≤ 6) : zshl 1 (nI S) = nI (2 ^ S) ∧ 2 ^ S ≤ 64 ∧ ∀ set q, set < 2 ^ S → q < S → sb set q < 2 ^ S := by
  have := allLt_spec ckBS_ok (show S < 7 by omega)
  rw [Bool.and_eq_true, Bool.and_eq_true, decide_eq_true_eq, decide_eq_true_eq] at this
  refine ⟨this.1.1, this.1.2, fun set q h1 h2 => ?_⟩
  have q := allLt_spec (allLt_spec this.2 h1) h2
  exact of_decide_eq_true q
/-! distances -/
def adN (a b : Nat) : Nat := if b ≤ a then a - b else b - a
theorem ad_abs {a b : Nat} (ha : a ≤ 112) (hb : b ≤ 112) : (if 0 ≤ nI a - nI b then some (nI a - nI b) else some (-(nI a - nI b))) = some (nI (adN a b)) := by
  unfold adN
  by_cases h : b ≤ a
  · rw [if_pos h, pk_sub h, if_pos (nI_pos' (by omega))]
  · rw [if_neg h]
    have := pk_sneg (a := a) (b := b) (by omega) (by omega)
    rw [if_neg (Int32.not_le.mpr this), Int32.neg_sub, pk_sub (by omega)]
theorem ad_sq {a b : Nat} : (nI a - nI b) * (nI a - nI b) = nI (adN a b * adN a b) := by
  unfold adN
  by_cases h : b ≤ a
  · rw [if_pos h, pk_sub h, pk_mul]
  · rw [if_neg h, ← Int32.neg_sub, pk_sub (show a ≤ b by omega), ← pk_mul, Int32.neg_mul, Int32.mul_neg, Int32.neg_neg]
theorem adN_le {a b : Nat} (ha : a ≤ 112) (hb : b ≤ 112) : adN a b ≤ 112 := by
  unfold adN
  split <;> omega
def coF (tx ty sx sy : Nat → Nat) (t q : Nat) : Nat := adN (tx t) (sx q) * adN (tx t) (sx q) + adN (ty t) (sy q) * adN (ty t) (sy q)
def nrF (R : Nat) (tx ty sx sy : Nat → Nat) (t q : Nat) : Bool := decide (adN (tx t) (sx q) ≤ R) && decide (adN (ty t) (sy q) ≤ R)
theorem coF_le {tx ty sx sy : Nat → Nat} {t q : Nat} (h1 : tx t ≤ 112) (h2 : ty t ≤ 112) (h3 : sx q ≤ 112) (h4 : sy q ≤ 112) : coF tx ty sx sy t q ≤ 25088 := by
  have a := adN_le h1 h3
  have b := adN_le h2 h4
  have c := Nat.mul_le_mul a a
  have d := Nat.mul_le_mul b b
  unfold coF
  omega
