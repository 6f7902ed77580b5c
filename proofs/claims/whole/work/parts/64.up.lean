/-! ===== a frame: uphill ===== -/
def hiB (D : Nat → Int32) (a b : Nat) : Bool := decide (D a < D b) || (decide (D b = D a) && decide (b < a))
theorem hi_iff {D : Nat → Int32} {a b : Nat} : hiB D a b = true ↔ (D a).toInt < (D b).toInt ∨ ((D a).toInt = (D b).toInt ∧ b < a) := by
  unfold hiB
  rw [Bool.or_eq_true, Bool.and_eq_true, decide_eq_true_eq, decide_eq_true_eq, decide_eq_true_eq, lt32, eq32]
  constructor
  · rintro (h | ⟨h, h2⟩)
    · exact Or.inl h
    · exact Or.inr ⟨h.symm, h2⟩
  · rintro (h | ⟨h, h2⟩)
    · exact Or.inl h
    · exact Or.inr ⟨h.symm, h2⟩
def stp (D : Nat → Int32) (best x : Nat) : Nat := if hiB D best x then x else best
def up (D : Nat → Int32) (W H c : Nat) : Nat := (NB W H c).foldl (stp D) c
theorem fold_mem {D : Nat → Int32} : ∀ (l : List Nat) (b : Nat), l.foldl (stp D) b = b ∨ l.foldl (stp D) b ∈ l
  | [], b => Or.inl rfl
  | a :: l, b => by
    rw [List.foldl_cons]
    have h : stp D b a = b ∨ stp D b a = a := by unfold stp; split <;> simp
    rcases fold_mem l (stp D b a) with q | q
    · rw [q]
      rcases h with h | h
      · exact Or.inl h
      · right; rw [h]; simp
    · exact Or.inr (by simp [q])
theorem fold_hi {D : Nat → Int32} : ∀ (l : List Nat) (b : Nat), (l.foldl (stp D) b = b ∨ hiB D b (l.foldl (stp D) b) = true) ∧ ∀ x, x ∈ l → hiB D (l.foldl (stp D) b) x = false
  | [], b => ⟨Or.inl rfl, fun x hx => by cases hx⟩
  | a :: l, b => by
    rw [List.foldl_cons]
    obtain ⟨h1, h2⟩ := fold_hi (D := D) l (stp D b a)
    generalize l.foldl (stp D) (stp D b a) = r at h1 h2
    have hs : (hiB D b a = true ∧ stp D b a = a) ∨ (hiB D b a = false ∧ stp D b a = b) := by
      unfold stp
      cases h : hiB D b a <;> simp
    have nf : ∀ p q, hiB D p q = false ↔ ¬ ((D p).toInt < (D q).toInt ∨ ((D p).toInt = (D q).toInt ∧ q < p)) := fun p q => by
      rw [← hi_iff]
      simp
    rcases hs with ⟨s1, s2⟩ | ⟨s1, s2⟩
    · rw [s2] at h1
      rw [hi_iff] at s1
      constructor
      · right
        rcases h1 with h1 | h1
        · rw [h1, hi_iff]; exact s1
        · rw [hi_iff] at h1 ⊢
          omega
      · intro x hx
        rcases List.mem_cons.mp hx with rfl | hx
        · rcases h1 with h1 | h1
          · rw [h1, nf]; omega
          · rw [hi_iff] at h1
            rw [nf]; omega
        · exact h2 x hx
    · rw [s2] at h1
      rw [nf] at s1
      refine ⟨h1, ?_⟩
      intro x hx
      rcases List.mem_cons.mp hx with rfl | hx
      · rcases h1 with h1 | h1
        · rw [h1, nf]; exact s1
        · rw [hi_iff] at h1
          rw [nf]; omega
      · exact h2 x hx
section UP
variable {D : Nat → Int32} {W H : Nat}
theorem up_lt (w3 : 3 ≤ W) (w8 : W ≤ 8) (h3 : 3 ≤ H) (h8 : H ≤ 8) {c : Nat} (hc : c < W * H) : up D W H c < W * H := by
  rcases fold_mem (D := D) (NB W H c) c with h | h
  · unfold up; rw [h]; exact hc
  · exact ((NB_ok w3 w8 h3 h8 hc).1 _ h).1
theorem up_hi {c : Nat} : up D W H c = c ∨ hiB D c (up D W H c) = true := (fold_hi (NB W H c) c).1
theorem up_top {c x : Nat} (h : up D W H c = c) (hx : x ∈ NB W H c) : hiB D c x = false := by
  have := (fold_hi (D := D) (NB W H c) c).2 x hx
  unfold up at h
  rw [h] at this
  exact this
def rk (D : Nat → Int32) (n c : Nat) : Nat := ((List.range n).filter (fun x => hiB D c x)).length
theorem filt_lt {p q : Nat → Bool} : ∀ (l : List Nat), (∀ x, x ∈ l → p x = true → q x = true) → ∀ a, a ∈ l → q a = true → p a = false → (l.filter p).length < (l.filter q).length
  | [], _, a, ha, _, _ => by cases ha
  | b :: l, h, a, ha, h1, h2 => by
    have hle : ∀ (l : List Nat), (∀ x, x ∈ l → p x = true → q x = true) → (l.filter p).length ≤ (l.filter q).length := by
      intro l
      induction l with
      | nil => intro _; exact Nat.le_refl _
      | cons c l ih =>
        intro h
        have := ih (fun x hx => h x (by simp [hx]))
        rw [List.filter_cons, List.filter_cons]
        cases hp : p c with
        | true =>
          rw [h c (by simp) hp]
          simp only [if_true, List.length_cons]
          omega
        | false =>
          cases hq : q c with
          | true =>
            simp only [Bool.false_eq_true, if_false, if_true, List.length_cons]
            omega
          | false =>
            simp only [Bool.false_eq_true, if_false]
            omega
    rw [List.filter_cons, List.filter_cons]
    rcases List.mem_cons.mp ha with rfl | ha
    · rw [h1, h2]
      have := hle l (fun x hx => h x (by simp [hx]))
      simp only [Bool.false_eq_true, if_false, if_true, List.length_cons]
      omega
    · have := filt_lt l (fun x hx => h x (by simp [hx])) a ha h1 h2
      cases hp : p b with
      | true =>
        rw [h b (by simp) hp]
        simp only [if_true, List.length_cons]
        omega
      | false =>
        cases hq : q b with
        | true =>
          simp only [Bool.false_eq_true, if_false, if_true, List.length_cons]
          omega
        | false =>
          simp only [Bool.false_eq_true, if_false]
          omega
theorem rk_up (w3 : 3 ≤ W) (w8 : W ≤ 8) (h3 : 3 ≤ H) (h8 : H ≤ 8) {c : Nat} (hc : c < W * H) (h : up D W H c ≠ c) : rk D (W * H) (up D W H c) < rk D (W * H) c := by
  have hh := (up_hi (D := D) (W := W) (H := H) (c := c)).resolve_left h
  refine filt_lt _ (fun x _ hx => ?_) (up D W H c) (List.mem_range.mpr (up_lt w3 w8 h3 h8 hc)) hh ?_
  · rw [hi_iff] at hx hh ⊢
    omega
  · cases q : hiB D (up D W H c) (up D W H c) with
    | false => rfl
    | true =>
      rw [hi_iff] at q
      omega
theorem rk_lt {n c : Nat} (hc : c < n) : rk D n c < n := by
  have h1 : rk D n c < ((List.range n).filter (fun _ => true)).length := by
    refine filt_lt _ (fun _ _ _ => rfl) c (List.mem_range.mpr hc) rfl ?_
    cases q : hiB D c c with
    | false => rfl
    | true =>
      rw [hi_iff] at q
      omega
  have h2 : (List.range n).filter (fun _ => true) = List.range n := List.filter_eq_self.mpr (fun _ _ => rfl)
  rw [h2, List.length_range] at h1
  exact h1
def itr (D : Nat → Int32) (W H : Nat) : Nat → Nat → Nat
  | 0, c => c
  | k + 1, c => itr D W H k (up D W H c)
theorem itr_fix {c : Nat} (h : up D W H c = c) : ∀ k, itr D W H k c = c
  | 0 => rfl
  | k + 1 => by
    unfold itr
    rw [h]
    exact itr_fix h k
theorem itr_lt (w3 : 3 ≤ W) (w8 : W ≤ 8) (h3 : 3 ≤ H) (h8 : H ≤ 8) : ∀ (k c : Nat), c < W * H → itr D W H k c < W * H
  | 0, c, h => h
  | k + 1, c, h => itr_lt w3 w8 h3 h8 k _ (up_lt w3 w8 h3 h8 h)
theorem itr_top (w3 : 3 ≤ W) (w8 : W ≤ 8) (h3 : 3 ≤ H) (h8 : H ≤ 8) : ∀ (k c : Nat), c < W * H → rk D (W * H) c ≤ k → up D W H (itr D W H k c) = itr D W H k c ∧ itr D W H (k + 1) c = itr D W H k c
  | 0, c, hc, hr => by
    have : up D W H c = c := by
      refine Decidable.byContradiction fun q => ?_
      have := rk_up (D := D) w3 w8 h3 h8 hc q
      omega
    exact ⟨this, by unfold itr itr; exact this⟩
  | k + 1, c, hc, hr => by
    by_cases q : up D W H c = c
    · rw [itr_fix q, itr_fix q]
      exact ⟨q, rfl⟩
    · have := rk_up (D := D) w3 w8 h3 h8 hc q
      have ih := itr_top w3 w8 h3 h8 k (up D W H c) (up_lt w3 w8 h3 h8 hc) (by omega)
      exact ih
def tpc (D : Nat → Int32) (W H c : Nat) : Nat := itr D W H 64 c
theorem tpc_up (w3 : 3 ≤ W) (w8 : W ≤ 8) (h3 : 3 ≤ H) (h8 : H ≤ 8) {c : Nat} (hc : c < W * H) : tpc D W H (up D W H c) = tpc D W H c := by
  have h64 : W * H ≤ 64 := Nat.mul_le_mul w8 h8
  have := rk_lt (D := D) hc
  exact (itr_top (D := D) w3 w8 h3 h8 64 c hc (by omega)).2
theorem tpc_top (w3 : 3 ≤ W) (w8 : W ≤ 8) (h3 : 3 ≤ H) (h8 : H ≤ 8) {c : Nat} (hc : c < W * H) : up D W H (tpc D W H c) = tpc D W H c := by
  have h64 : W * H ≤ 64 := Nat.mul_le_mul w8 h8
  have := rk_lt (D := D) hc
  exact (itr_top (D := D) w3 w8 h3 h8 64 c hc (by omega)).1
theorem tpc_lt (w3 : 3 ≤ W) (w8 : W ≤ 8) (h3 : 3 ≤ H) (h8 : H ≤ 8) {c : Nat} (hc : c < W * H) : tpc D W H c < W * H := itr_lt w3 w8 h3 h8 64 c hc
theorem tpc_fix {c : Nat} (h : up D W H c = c) : tpc D W H c = c := itr_fix h 64
/-! the two sides' step -/
theorem stp_mem {b : Nat} (l : List Nat) (hb : b < W * H) (hl : ∀ x, x ∈ l → x < W * H) : l.foldl (stp D) b < W * H := by
  rcases fold_mem (D := D) l b with h | h
  · rw [h]; exact hb
  · exact hl _ h
theorem steep_step {m : zM} {c i b x L : Nat} (hc : c < 64) (hi : i < L) (hL : L ≤ 8) (h17 : m.1 17 c = nI L) (hnb : f_X1_neighbour (nI c) (nI i) m = some (nI x)) (hb : b < 64) (hx : x < 64) (h1 : m.1 36 b = D b) (h2 : m.1 36 x = D x) : b_X3_steepest_5 (nI c) m (nI b, nI i) = some (.inl (nI (stp D b x), nI (i + 1))) := by
  unfold b_X3_steepest_5 j_X3_steepest_57 j_X3_steepest_60
  simp only [zin_nI hc (show 64 < 2 ^ 31 by decide), zg_t, nI_clamp (show c < 2 ^ 31 by omega), h17, nI_ge hi (show L < 2 ^ 31 by omega), if_false, hnb, Option.bind_some, zin_nI hx (show 64 < 2 ^ 31 by decide), zin_nI hb (show 64 < 2 ^ 31 by decide), nI_clamp (show x < 2 ^ 31 by omega), nI_clamp (show b < 2 ^ 31 by omega), h1, h2, nI_1]
  unfold stp hiB
  by_cases c1 : D b < D x
  · simp [c1]
  · by_cases c2 : D x = D b
    · by_cases c3 : x < b
      · have : ¬ nI b ≤ nI x := nI_ge c3 (by omega)
        simp [c2, c3, this]
      · have : nI b ≤ nI x := nI_le (by omega) (by omega)
        simp [c2, c3, this]
    · simp [c1, c2]
theorem steep_c {m : zM} (g : RGr W H m) (hD : ∀ k, k < W * H → m.1 36 k = D k) {c : Nat} (hc : c < W * H) : f_X3_steepest (nI c) m = some (nI (up D W H c)) := by
  obtain ⟨_, w3, w8, h3, h8, _, _, _, _, _, q6⟩ := id g
  have h64 : W * H ≤ 64 := Nat.mul_le_mul w8 h8
  have hl := (NB_ok w3 w8 h3 h8 hc).2
  have hz := zin_nI (show c < 64 by omega) (show 64 < 2 ^ 31 by decide)
  have hcl := nI_clamp (show c < 2 ^ 31 by omega)
  unfold f_X3_steepest
  rw [zfor (fun i => (nI (((NB W H c).take i).foldl (stp D) c), nI i)) (NB W H c).length (r := nI (up D W H c))]
  · rfl
  · rfl
  · intro i hi
    have hx := ((NB_ok w3 w8 h3 h8 hc).1 _ (getD_mem' hi)).1
    have hb : ((NB W H c).take i).foldl (stp D) c < W * H := stp_mem _ hc (fun x hx => ((NB_ok w3 w8 h3 h8 hc).1 x (List.mem_of_mem_take hx)).1)
    have := steep_step (D := D) (show c < 64 by omega) hi hl (q6 c hc).2.2.1 (neigh_eq g hc hi) (show ((NB W H c).take i).foldl (stp D) c < 64 by omega) (show (NB W H c).getD i 0 < 64 by omega) (hD _ hb) (hD _ hx)
    show b_X3_steepest_5 (nI c) m (nI (((NB W H c).take i).foldl (stp D) c), nI i) = some (.inl (nI (((NB W H c).take (i + 1)).foldl (stp D) c), nI (i + 1)))
    rw [this, take_succ_getD hi, List.foldl_append]
    rfl
  · unfold b_X3_steepest_5
    simp only [hz, zg_t, hcl, (q6 c hc).2.2.1, List.take_length, up]
    rw [if_pos (nI_le (Nat.le_refl _) (by omega))]
  · omega
theorem higher_eq {m : zM} (hw : m.1 68 2 = nI W) (hh : m.1 68 3 = nI H) (w3 : 3 ≤ W) (w8 : W ≤ 8) (h3 : 3 ≤ H) (h8 : H ≤ 8) (hD : ∀ k, k < W * H → m.1 73 k = D k) {c : Nat} (hc : c < W * H) : f_X12_higher (nI c) m = some (nI (up D W H c)) := by
  have h64 : W * H ≤ 64 := Nat.mul_le_mul w8 h8
  unfold f_X12_higher
  rw [zfor (fun i => (nI ((NBk W H c i).foldl (stp D) c), nI i)) 8 (r := nI (up D W H c))]
  · rfl
  · rfl
  · intro i hi
    have hb : (NBk W H c i).foldl (stp D) c < W * H := by
      refine stp_mem _ hc (fun x hx => ?_)
      obtain ⟨k, hk, e⟩ := List.mem_filterMap.mp hx
      exact zbes_lt e (by omega)
    unfold b_X12_higher_4 j_X12_higher_66 j_X12_higher_62 j_X12_higher_67 j_X12_higher_80
    simp only [nI_ge hi (show 8 < 2 ^ 31 by decide), show (8 : Int32) = nI 8 from rfl, if_false, beside_eq hw hh w3 w8 h3 h8 hc hi, Option.bind_some, nI_1, if_true, show ¬ (1 : Int32) = 0 by decide]
    cases hzb : zbes W H c i with
    | none =>
      rw [NBk_none hzb]
      rfl
    | some x =>
      have hx := zbes_lt hzb (by omega)
      have hne : ¬ nI x = -1 := fun z => by
        have := nI_pos' (n := x) (by omega)
        rw [z] at this
        exact absurd this (by decide)
      rw [NBk_some hzb, List.foldl_append]
      generalize (NBk W H c i).foldl (stp D) c = b at hb
      simp only [hne, if_false, zin_nI (show x < 64 by omega) (show 64 < 2 ^ 31 by decide), zin_nI (show b < 64 by omega) (show 64 < 2 ^ 31 by decide), zg_t, nI_clamp (show x < 2 ^ 31 by omega), nI_clamp (show b < 2 ^ 31 by omega), hD x hx, hD b hb, List.foldl_cons, List.foldl_nil]
      unfold stp hiB
      by_cases c1 : D b < D x
      · simp [c1]
      · by_cases c2 : D x = D b
        · by_cases c3 : x < b
          · have : ¬ nI b ≤ nI x := nI_ge c3 (by omega)
            simp [c2, c3, this]
          · have : nI b ≤ nI x := nI_le (by omega) (by omega)
            simp [c2, c3, this]
        · simp [c1, c2]
  · unfold b_X12_higher_4
    simp only [nI_le (Nat.le_refl 8) (show 8 < 2 ^ 31 by decide), show (8 : Int32) = nI 8 from rfl, if_true]
    rfl
  · decide
theorem topOf_loop {m : zM} {y : Int32} (hw : m.1 68 2 = nI W) (hh : m.1 68 3 = nI H) (w3 : 3 ≤ W) (w8 : W ≤ 8) (h3 : 3 ≤ H) (h8 : H ≤ 8) (hD : ∀ k, k < W * H → m.1 73 k = D k) : ∀ (r c k : Nat), c < W * H → rk D (W * H) c ≤ r → r < k → zloop (b_X12_layTops_12 y m) k (nI c) = some (nI (tpc D W H c)) := by
  have h64 : W * H ≤ 64 := Nat.mul_le_mul w8 h8
  intro r
  induction r with
  | zero =>
    intro c k hc hr hk
    obtain ⟨k', rfl⟩ : ∃ q, k = q + 1 := ⟨k - 1, by omega⟩
    have hu : up D W H c = c := by
      refine Decidable.byContradiction fun q => ?_
      have := rk_up (D := D) w3 w8 h3 h8 hc q
      omega
    rw [tpc_fix hu]
    refine zloop_0 ?_
    unfold b_X12_layTops_12
    rw [higher_eq hw hh w3 w8 h3 h8 hD hc, hu]
    simp only [Option.bind_some, if_true]
  | succ r ih =>
    intro c k hc hr hk
    obtain ⟨k', rfl⟩ : ∃ q, k = q + 1 := ⟨k - 1, by omega⟩
    by_cases hu : up D W H c = c
    · rw [tpc_fix hu]
      refine zloop_0 ?_
      unfold b_X12_layTops_12
      rw [higher_eq hw hh w3 w8 h3 h8 hD hc, hu]
      simp only [Option.bind_some, if_true]
    · have h1 := rk_up (D := D) w3 w8 h3 h8 hc hu
      have h2 := up_lt (D := D) w3 w8 h3 h8 hc
      have hne : ¬ nI (up D W H c) = nI c := nI_ne (by omega) (by omega) hu
      rw [zloop_s (s1 := nI (up D W H c))]
      · rw [ih _ k' h2 (by omega) (by omega), tpc_up w3 w8 h3 h8 hc]
      · unfold b_X12_layTops_12
        rw [higher_eq hw hh w3 w8 h3 h8 hD hc]
        simp only [Option.bind_some, hne, if_false]
/-- the model's tops -/
theorem layTops_m {m : zM} {P : Nat → Bool} (hw : m.1 68 2 = nI W) (hh : m.1 68 3 = nI H) (w3 : 3 ≤ W) (w8 : W ≤ 8) (h3 : 3 ≤ H) (h8 : H ≤ 8) (hD : ∀ k, k < W * H → m.1 73 k = D k) (hT : ∀ k, k < W * H → (!decide (m.1 73 k < m.1 80 1)) = P k) : ∃ m', f_X12_layTops m = some m' ∧ Fr [100] m m' ∧ ∀ k, k < W * H → m'.1 100 k = if P k then nI (tpc D W H k) else -1 := by
  have h64 : W * H ≤ 64 := Nat.mul_le_mul w8 h8
  unfold f_X12_layTops
  have key : ∃ m', zloop b_X12_layTops_2 zFU (0, m) = some m' ∧ Fr [100] m m' ∧ ∀ k, k < W * H → m'.1 100 k = if P k then nI (tpc D W H k) else -1 := by
    refine zforQ (fun i s => s.1 = nI i ∧ Fr [100] m s.2 ∧ ∀ k, k < i → s.2.1 100 k = if P k then nI (tpc D W H k) else -1) (W * H) _ ⟨rfl, Fr.refl, fun k hk => by omega⟩ ?_ ?_ (by omega)
    · rintro i ⟨y, w⟩ hi ⟨rfl, f1, f2⟩
      simp only at f1 f2
      have e68 := f1.2 68 (by decide)
      have e73 := f1.2 73 (by decide)
      have e80 := f1.2 80 (by decide)
      have ew : w.1 68 2 = nI W := by rw [e68, hw]
      have eh : w.1 68 3 = nI H := by rw [e68, hh]
      have hz := zin_nI (show i < 64 by omega) (show 64 < 2 ^ 31 by decide)
      have hcl := nI_clamp (show i < 2 ^ 31 by omega)
      have hr := rk_lt (D := D) hi
      unfold b_X12_layTops_2 j_X12_layTops_48
      rw [cells_eq ew eh]
      simp only [Option.bind_some, nI_ge hi (show W * H < 2 ^ 31 by omega), if_false, topOf_loop (D := D) ew eh w3 w8 h3 h8 (fun k hk => by rw [e73]; exact hD k hk) 64 i zFU hi (by omega) (by unfold zFU; omega), isTouched_eq (show i < 64 by omega), e73, e80, hT i hi, hz, zg_t, hcl, nI_1]
      cases hp : P i with
      | true =>
        refine ⟨_, rfl, rfl, f1.st (by decide), fun k hk => ?_⟩
        by_cases hk2 : k = i
        · subst hk2
          simp [zi, hp]
        · have := f2 k (by omega)
          simpa [zi, hk2] using this
      | false =>
        refine ⟨_, rfl, rfl, f1.st (by decide), fun k hk => ?_⟩
        by_cases hk2 : k = i
        · subst hk2
          simp [zi, hp]
        · have := f2 k (by omega)
          simpa [zi, hk2] using this
    · rintro ⟨y, w⟩ ⟨rfl, f1, f2⟩
      simp only at f1 f2
      have e68 := f1.2 68 (by decide)
      have ew : w.1 68 2 = nI W := by rw [e68, hw]
      have eh : w.1 68 3 = nI H := by rw [e68, hh]
      refine ⟨w, ?_, f1, f2⟩
      unfold b_X12_layTops_2
      rw [cells_eq ew eh]
      simp only [Option.bind_some, nI_le (Nat.le_refl (W * H)) (show W * H < 2 ^ 31 by omega), if_true]
  obtain ⟨m', e, q⟩ := key
  exact ⟨m', by rw [e]; rfl, q⟩
end UP
