/-! ===== a frame: the hills, side by side ===== -/
def HI (D : Nat → Int32) (W H : Nat) (mc : zM) (g : Nat → Int32) (s : Nat) (pk : Nat → Nat) : Prop :=
  s ≤ 16 ∧ mc.1 38 4 = nI s ∧ (∀ i, i < s → mc.1 39 i = nI (pk i) ∧ pk i < W * H) ∧ (∀ i j, i < j → j < s → pk i < pk j) ∧ (∀ i, i < s → mc.1 40 i = 0 ∨ mc.1 40 i = 1) ∧
  (∀ c, c < W * H → (mc.1 41 c = -1 ∧ g c = -1) ∨ ∃ i, i < s ∧ mc.1 41 c = nI i ∧ g c = nI (pk i) ∧ mc.1 40 i = 1) ∧ (∀ i, i < s → mc.1 40 i = 1 → mc.1 41 (pk i) = nI i) ∧
  (∀ i j, i < s → j < s → i ≠ j → mc.1 40 i = 1 → mc.1 40 j = 1 → PSv (Ed D W H (mc.1 41) (nI i) (nI j)) (-1) (mc.1 43 (16 * i + j)))
section HLS
variable {D : Nat → Int32} {W H : Nat} {mc : zM} {g : Nat → Int32} {s : Nat} {pk : Nat → Nat}
theorem HI.inj (h : HI D W H mc g s pk) {i j : Nat} (hi : i < s) (hj : j < s) (e : pk i = pk j) : i = j := by
  rcases Nat.lt_trichotomy i j with q | q | q
  · have := h.2.2.2.1 i j q hj
    omega
  · exact q
  · have := h.2.2.2.1 j i q hi
    omega
theorem HI.hill (h : HI D W H mc g s pk) (h64 : W * H ≤ 64) {c i : Nat} (hc : c < W * H) (hi : i < s) : mc.1 41 c = nI i ↔ g c = nI (pk i) := by
  have hs := h.1
  have hp := (h.2.2.1 i hi).2
  rcases h.2.2.2.2.2.1 c hc with ⟨a, b⟩ | ⟨k, hk, a, b, _⟩
  · rw [a, b]
    exact ⟨fun z => absurd z.symm (nI_nm1 (by omega)), fun z => absurd z.symm (nI_nm1 (by omega))⟩
  · have hp2 := (h.2.2.1 k hk).2
    rw [a, b, nI_eq (by omega) (by omega), nI_eq (by omega) (by omega)]
    exact ⟨fun z => by rw [z], fun z => h.inj hk hi z⟩
theorem HI.top (h : HI D W H mc g s pk) (h64 : W * H ≤ 64) {x : Nat} (hx : x < W * H) : g x = nI x ↔ ∃ i, i < s ∧ mc.1 40 i = 1 ∧ pk i = x := by
  constructor
  · intro e
    rcases h.2.2.2.2.2.1 x hx with ⟨_, b⟩ | ⟨k, hk, _, b, c⟩
    · rw [b] at e
      exact absurd e.symm (nI_nm1 (by omega))
    · have hp2 := (h.2.2.1 k hk).2
      rw [b] at e
      exact ⟨k, hk, c, (nI_eq (by omega) (by omega)).mp e⟩
  · rintro ⟨i, hi, ha, rfl⟩
    exact (h.hill h64 hx hi).mp (h.2.2.2.2.2.2.1 i hi ha)
theorem HI.ed (h : HI D W H mc g s pk) (w3 : 3 ≤ W) (w8 : W ≤ 8) (h3 : 3 ≤ H) (h8 : H ≤ 8) {i j : Nat} (hi : i < s) (hj : j < s) (y : Int32) : Ed D W H (mc.1 41) (nI i) (nI j) y ↔ Ed D W H g (nI (pk i)) (nI (pk j)) y := by
  have h64 : W * H ≤ 64 := Nat.mul_le_mul w8 h8
  constructor
  · rintro ⟨c, x, h1, h2, h3', h4, h5, h6⟩
    have hx := ((NB_ok w3 w8 h3 h8 h1).1 x h2).1
    exact ⟨c, x, h1, h2, h3', (h.hill h64 h1 hi).mp h4, (h.hill h64 hx hj).mp h5, h6⟩
  · rintro ⟨c, x, h1, h2, h3', h4, h5, h6⟩
    have hx := ((NB_ok w3 w8 h3 h8 h1).1 x h2).1
    exact ⟨c, x, h1, h2, h3', (h.hill h64 h1 hi).mpr h4, (h.hill h64 hx hj).mpr h5, h6⟩
/-- the two sides' numbers for a pass -/
theorem PSv.two {E E' : Int32 → Prop} {v w : Int32} (h1 : PSv E (-1) v) (h2 : PSv E' (-268435456) w) (e : ∀ y, E y ↔ E' y) (h10 : ∀ y, E y → E 10) : (v = -1 → w = -268435456) ∧ (¬ v = -1 → w = v ∧ -1 < w) := by
  have e1 : (-1 : Int32).toInt = -1 := by decide
  have e2 : (-268435456 : Int32).toInt = -268435456 := by decide
  have e3 : (10 : Int32).toInt = 10 := by decide
  have l1 := h1.1
  have l2 := h2.1
  constructor
  · intro hv
    refine Decidable.byContradiction fun q => ?_
    have hw : -268435456 < w := by
      rw [le32] at l2
      rw [eq32] at q
      rw [lt32]
      omega
    have := (e w).mpr ((h2.2 w hw).mp (Int32.le_refl _))
    have := (h1.2 10 (by decide)).mpr (h10 w this)
    rw [hv] at this
    exact absurd this (by decide)
  · intro hv
    have hv1 : -1 < v := by
      rw [le32] at l1
      rw [eq32] at hv
      rw [lt32]
      omega
    have a := (e v).mp ((h1.2 v hv1).mp (Int32.le_refl _))
    have b := (h2.2 v (by rw [lt32] at hv1 ⊢; omega)).mpr a
    have hw1 : -1 < w := Int32.lt_of_lt_of_le hv1 b
    have c := (e w).mpr ((h2.2 w (by rw [lt32] at hw1 ⊢; omega)).mp (Int32.le_refl _))
    have d := (h1.2 w hw1).mpr c
    exact ⟨Int32.le_antisymm d b, hw1⟩
def VCf (mc : zM) (a b : Nat) : Int32 := mc.1 43 (16 * (mc.1 41 a).toNatClampNeg + (mc.1 41 b).toNatClampNeg)
theorem HI.vc (h : HI D W H mc g s pk) {i j : Nat} (hi : i < s) (hj : j < s) (ai : mc.1 40 i = 1) (aj : mc.1 40 j = 1) : VCf mc (pk i) (pk j) = mc.1 43 (16 * i + j) := by
  have hs := h.1
  unfold VCf
  rw [h.2.2.2.2.2.2.1 i hi ai, h.2.2.2.2.2.2.1 j hj aj, nI_clamp (by omega), nI_clamp (by omega)]
def pmap (pk : Nat → Nat) : Option (Nat × Nat) → Option (Nat × Nat)
  | none => none
  | some (i, j) => some (pk i, pk j)
theorem Bst_two {C C' : Nat → Nat → Prop} {v v' : Nat → Nat → Int32} {r r' : Option (Nat × Nat)} (h : BstO C v (fun _ _ => True) r) (h' : BstO C' v' (fun _ _ => True) r') (hb : ∀ a b, C' a b → ∃ i j, a = pk i ∧ b = pk j ∧ C i j) (hf : ∀ i j, C i j → C' (pk i) (pk j) ∧ v' (pk i) (pk j) = v i j) (hm : ∀ i j i' j', C i j → C i' j' → ((i < i' → pk i < pk i') ∧ (j < j' → pk j < pk j'))) : r' = pmap pk r := by
  cases r with
  | none =>
    cases r' with
    | none => rfl
    | some x =>
      obtain ⟨a, b⟩ := x
      obtain ⟨i, j, _, _, c⟩ := hb a b h'.1
      exact absurd c (h i j trivial)
  | some y =>
    obtain ⟨i, j⟩ := y
    cases r' with
    | none => exact absurd (hf i j h.1).1 (h' _ _ trivial)
    | some x =>
      obtain ⟨a, b⟩ := x
      obtain ⟨i', j', rfl, rfl, c⟩ := hb a b h'.1
      have e1 := h.2.2 i' j' trivial c
      have e2 := h'.2.2 (pk i) (pk j) trivial (hf i j h.1).1
      rw [(hf i j h.1).2, (hf i' j' c).2] at e2
      have m1 := hm i j i' j' h.1 c
      have m2 := hm i' j' i j c h.1
      have q : i = i' ∧ j = j' := by
        rcases e1 with e1 | ⟨e1, e1'⟩
        · rcases e2 with e2 | ⟨e2, _⟩
          · rw [lt32] at e1 e2
            omega
          · rw [e2] at e1
            rw [lt32] at e1
            omega
        · rcases e2 with e2 | ⟨_, e2'⟩
          · rw [e1] at e2
            rw [lt32] at e2
            omega
          · rcases Nat.lt_trichotomy i i' with z | z | z
            · have := m1.1 z
              omega
            · subst z
              rcases Nat.lt_trichotomy j j' with z | z | z
              · have := m1.2 z
                omega
              · exact ⟨rfl, z⟩
              · omega
            · omega
      rw [← q.1, ← q.2]
      rfl
theorem Ed_sym (w3 : 3 ≤ W) (w8 : W ≤ 8) (h3 : 3 ≤ H) (h8 : H ≤ 8) {h : Nat → Int32} {a b y : Int32} : Ed D W H h a b y → Ed D W H h b a y := by
  rintro ⟨c, x, h1, h2, h3', h4, h5, h6, h7⟩
  have hx := (NB_ok w3 w8 h3 h8 h1).1 x h2
  exact ⟨x, c, hx.1, hx.2.2, trivial, h5, h4, h7, h6⟩
/-- the hills after a merging -/
theorem HI.step (h : HI D W H mc g s pk) (w3 : 3 ≤ W) (w8 : W ≤ 8) (h3 : 3 ≤ H) (h8 : H ≤ 8) {kp gn : Nat} (hk : kp < s) (hg : gn < s) (hkg : kp ≠ gn) (ak : mc.1 40 kp = 1) (ag : mc.1 40 gn = 1) {mc' : zM} {g' : Nat → Int32} (f : Fr [40, 41, 43] mc mc') (f40 : ∀ j, mc'.1 40 j = if j = gn then 0 else mc.1 40 j) (f41 : ∀ k, k < W * H → mc'.1 41 k = if mc.1 41 k = nI gn then nI kp else mc.1 41 k)
    (f43 : ∀ j, j < s → j ≠ kp → j ≠ gn → mc'.1 43 (16 * kp + j) = mxI (mc.1 43 (16 * kp + j)) (mc.1 43 (16 * gn + j)) ∧ mc'.1 43 (16 * j + kp) = mxI (mc.1 43 (16 * j + kp)) (mc.1 43 (16 * gn + j))) (f44 : ∀ i j, i < 16 → j < 16 → i ≠ kp → j ≠ kp → mc'.1 43 (16 * i + j) = mc.1 43 (16 * i + j)) (fg : ∀ k, k < W * H → g' k = if g k = nI (pk kp) ∨ g k = nI (pk gn) then nI (pk kp) else g k) : HI D W H mc' g' s pk := by
  have h64 : W * H ≤ 64 := Nat.mul_le_mul w8 h8
  obtain ⟨hs, k38, k39, kpk, k40, k41, kal, k43⟩ := id h
  have e38 := f.2 38 (by decide)
  have e39 := f.2 39 (by decide)
  have z10 : ¬ (0 : Int32) = 1 := by decide
  have al : ∀ i, mc'.1 40 i = 1 → i ≠ gn ∧ mc.1 40 i = 1 := fun i hi => by
    rw [f40] at hi
    by_cases q : i = gn
    · rw [if_pos q] at hi
      exact absurd hi z10
    · rw [if_neg q] at hi
      exact ⟨q, hi⟩
  have al' : ∀ i, i ≠ gn → mc.1 40 i = 1 → mc'.1 40 i = 1 := fun i q hi => by rw [f40, if_neg q]; exact hi
  -- which cells a hill has now
  have hK : ∀ c, c < W * H → (mc'.1 41 c = nI kp ↔ mc.1 41 c = nI kp ∨ mc.1 41 c = nI gn) := fun c hc => by
    rw [f41 c hc]
    by_cases q : mc.1 41 c = nI gn
    · rw [if_pos q]
      exact ⟨fun _ => Or.inr q, fun _ => rfl⟩
    · rw [if_neg q]
      exact ⟨Or.inl, fun z => z.resolve_right q⟩
  have hJ : ∀ c j, c < W * H → j < s → j ≠ kp → j ≠ gn → (mc'.1 41 c = nI j ↔ mc.1 41 c = nI j) := fun c j hc hj j1 j2 => by
    rw [f41 c hc]
    by_cases q : mc.1 41 c = nI gn
    · rw [if_pos q, q]
      exact ⟨fun z => absurd ((nI_eq (by omega) (by omega)).mp z).symm j1, fun z => absurd ((nI_eq (by omega) (by omega)).mp z).symm j2⟩
    · rw [if_neg q]
  refine ⟨hs, by rw [e38]; exact k38, by rw [e39]; exact k39, kpk, fun i hi => ?_, fun c hc => ?_, fun i hi ai => ?_, fun i j hi hj hij ai aj => ?_⟩
  · rw [f40]
    by_cases q : i = gn
    · rw [if_pos q]; exact Or.inl rfl
    · rw [if_neg q]; exact k40 i hi
  · rw [f41 c hc, fg c hc]
    rcases k41 c hc with ⟨a, b⟩ | ⟨i, hi, a, b, d⟩
    · left
      have p1 := (k39 kp hk).2
      have p2 := (k39 gn hg).2
      rw [a, b, if_neg (fun z => absurd z.symm (nI_nm1 (by omega))), if_neg (fun z => z.elim (fun z => absurd z.symm (nI_nm1 (by omega))) (fun z => absurd z.symm (nI_nm1 (by omega))))]
      exact ⟨rfl, rfl⟩
    · right
      rw [a, b]
      have pi := (k39 i hi).2
      have p1 := (k39 kp hk).2
      have p2 := (k39 gn hg).2
      by_cases q : i = gn
      · subst q
        rw [if_pos rfl, if_pos (Or.inr rfl)]
        exact ⟨kp, hk, rfl, rfl, al' kp hkg ak⟩
      · rw [if_neg (nI_ne (by omega) (by omega) q)]
        by_cases q2 : i = kp
        · subst q2
          rw [if_pos (Or.inl rfl)]
          exact ⟨i, hk, rfl, rfl, al' i hkg ak⟩
        · rw [if_neg (fun z => z.elim (fun z => q2 (h.inj hi hk ((nI_eq (by omega) (by omega)).mp z))) (fun z => q (h.inj hi hg ((nI_eq (by omega) (by omega)).mp z))))]
          exact ⟨i, hi, rfl, rfl, al' i q d⟩
  · obtain ⟨q, ai'⟩ := al i ai
    rw [f41 _ (k39 i hi).2, kal i hi ai', if_neg (nI_ne (by omega) (by omega) q)]
  · obtain ⟨qi, ai'⟩ := al i ai
    obtain ⟨qj, aj'⟩ := al j aj
    by_cases ik : i = kp
    · subst ik
      have jk : j ≠ i := Ne.symm hij
      rw [(f43 j hj jk qj).1]
      refine (k43 i j hk hj hij ak aj').mx fun y hy => ?_
      rw [(k43 gn j hg hj (Ne.symm qj) ag aj').2 y hy]
      constructor
      · rintro ⟨c, x, h1, h2, h3', h4, h5, h6⟩
        have hx := ((NB_ok w3 w8 h3 h8 h1).1 x h2).1
        have h5' := (hJ x j hx hj jk qj).mp h5
        rcases (hK c h1).mp h4 with z | z
        · exact Or.inl ⟨c, x, h1, h2, h3', z, h5', h6⟩
        · exact Or.inr ⟨c, x, h1, h2, h3', z, h5', h6⟩
      · rintro (⟨c, x, h1, h2, h3', h4, h5, h6⟩ | ⟨c, x, h1, h2, h3', h4, h5, h6⟩)
        · have hx := ((NB_ok w3 w8 h3 h8 h1).1 x h2).1
          exact ⟨c, x, h1, h2, h3', (hK c h1).mpr (Or.inl h4), (hJ x j hx hj jk qj).mpr h5, h6⟩
        · have hx := ((NB_ok w3 w8 h3 h8 h1).1 x h2).1
          exact ⟨c, x, h1, h2, h3', (hK c h1).mpr (Or.inr h4), (hJ x j hx hj jk qj).mpr h5, h6⟩
    · by_cases jk : j = kp
      · subst jk
        rw [(f43 i hi ik qi).2]
        refine (k43 i j hi hk hij ai' ak).mx fun y hy => ?_
        rw [(k43 gn i hg hi (Ne.symm qi) ag ai').2 y hy]
        constructor
        · rintro ⟨c, x, h1, h2, h3', h4, h5, h6⟩
          have hx := ((NB_ok w3 w8 h3 h8 h1).1 x h2).1
          have h4' := (hJ c i h1 hi ik qi).mp h4
          rcases (hK x hx).mp h5 with z | z
          · exact Or.inl ⟨c, x, h1, h2, h3', h4', z, h6⟩
          · exact Or.inr (Ed_sym w3 w8 h3 h8 ⟨c, x, h1, h2, h3', h4', z, h6⟩)
        · rintro (⟨c, x, h1, h2, h3', h4, h5, h6⟩ | z)
          · have hx := ((NB_ok w3 w8 h3 h8 h1).1 x h2).1
            exact ⟨c, x, h1, h2, h3', (hJ c i h1 hi ik qi).mpr h4, (hK x hx).mpr (Or.inl h5), h6⟩
          · obtain ⟨c, x, h1, h2, h3', h4, h5, h6⟩ := Ed_sym w3 w8 h3 h8 z
            have hx := ((NB_ok w3 w8 h3 h8 h1).1 x h2).1
            exact ⟨c, x, h1, h2, h3', (hJ c i h1 hi ik qi).mpr h4, (hK x hx).mpr (Or.inr h5), h6⟩
      · rw [f44 i j (by omega) (by omega) ik jk]
        refine (k43 i j hi hj hij ai' aj').congr fun y => ?_
        constructor
        · rintro ⟨c, x, h1, h2, h3', h4, h5, h6⟩
          have hx := ((NB_ok w3 w8 h3 h8 h1).1 x h2).1
          exact ⟨c, x, h1, h2, h3', (hJ c i h1 hi ik qi).mpr h4, (hJ x j hx hj jk qj).mpr h5, h6⟩
        · rintro ⟨c, x, h1, h2, h3', h4, h5, h6⟩
          have hx := ((NB_ok w3 w8 h3 h8 h1).1 x h2).1
          exact ⟨c, x, h1, h2, h3', (hJ c i h1 hi ik qi).mp h4, (hJ x j hx hj jk qj).mp h5, h6⟩
def acnt (mc : zM) (s : Nat) : Nat := (lst (fun i => decide (mc.1 40 i = 1)) s).length
theorem acnt_lt {mc' : zM} {gn : Nat} (hg : gn < s) (ag : mc.1 40 gn = 1) (f40 : ∀ j, mc'.1 40 j = if j = gn then 0 else mc.1 40 j) : acnt mc' s < acnt mc s := by
  unfold acnt lst
  refine filt_lt _ (fun x _ hx => ?_) gn (List.mem_range.mpr hg) (by rw [decide_eq_true_eq]; exact ag) ?_
  · rw [decide_eq_true_eq] at hx ⊢
    rw [f40] at hx
    by_cases q : x = gn
    · rw [q]; exact ag
    · rw [if_neg q] at hx
      exact hx
  · rw [decide_eq_false_iff_not, f40, if_pos rfl]
    decide
/-- one merging, side by side -/
theorem merge_two {mm : zM} {pct : Int32} (h : HI D W H mc (mm.1 100) s pk) (w3 : 3 ≤ W) (w8 : W ≤ 8) (h3 : 3 ≤ H) (h8 : H ≤ 8) (h14 : mc.1 14 2 = nI (W * H)) (hw : mm.1 68 2 = nI W) (hh : mm.1 68 3 = nI H) (hp : mm.1 80 2 = pct) (hDc : ∀ k, k < W * H → mc.1 36 k = D k) (hDm : ∀ k, k < W * H → mm.1 73 k = D k) (h10 : ∀ c, c < W * H → ¬ mc.1 41 c = -1 → 10 ≤ D c) :
    (f_X3_mergeBestPair pct mc = some (false, mc) ∧ f_X12_joinOnce mm = some (false, mm)) ∨ ∃ mc' mm', f_X3_mergeBestPair pct mc = some (true, mc') ∧ f_X12_joinOnce mm = some (true, mm') ∧ Fr [40, 41, 43] mc mc' ∧ Fr [100] mm mm' ∧ HI D W H mc' (mm'.1 100) s pk ∧ (∀ c, c < W * H → ¬ mc'.1 41 c = -1 → 10 ≤ D c) ∧ acnt mc' s < acnt mc s := by
  have h64 : W * H ≤ 64 := Nat.mul_le_mul w8 h8
  obtain ⟨hs, k38, k39, kpk, k40, k41, kal, k43⟩ := id h
  obtain ⟨r, hr1, hr2⟩ := search_c (D := D) (m := mc) (pct := pct) (pk := pk) hs k38 (fun i hi => ⟨(k39 i hi).1, by have := (k39 i hi).2; omega, hDc _ (k39 i hi).2⟩) k40 (fun i j hi hj hij ai aj => (k43 i j hi hj hij ai aj).1)
  have hpass : ∀ a b, a < b → b < W * H → mm.1 100 a = nI a → mm.1 100 b = nI b → ∃ w, f_X12_passOf (nI a) (nI b) mm = some w ∧ (VCf mc a b = -1 → w = -268435456) ∧ (¬ VCf mc a b = -1 → w = VCf mc a b ∧ -1 < w) := by
    intro a b hab hb ta tb
    obtain ⟨i, hi, ai, rfl⟩ := (h.top h64 (show a < W * H by omega)).mp ta
    obtain ⟨j, hj, aj, rfl⟩ := (h.top h64 hb).mp tb
    have hij : i ≠ j := fun z => by rw [z] at hab; omega
    obtain ⟨w, w1, w2⟩ := passOf_m (D := D) hw hh w3 w8 h3 h8 hDm (nI (pk i)) (nI (pk j))
    rw [h.vc hi hj ai aj]
    refine ⟨w, w1, PSv.two (k43 i j hi hj hij ai aj) w2 (fun y => h.ed w3 w8 h3 h8 hi hj y) ?_⟩
    rintro y ⟨c, x, e1, e2, e3, e4, e5, _⟩
    have hx := ((NB_ok w3 w8 h3 h8 e1).1 x e2).1
    exact ⟨c, x, e1, e2, e3, e4, e5, h10 c e1 (by rw [e4]; exact nI_nm1 (by omega)), h10 x hx (by rw [e5]; exact nI_nm1 (by omega))⟩
  obtain ⟨r', hq1, hq2⟩ := search_m (D := D) (m := mm) (VC := VCf mc) hw hh w3 w8 h3 h8 hDm hpass
  have hrr : r' = pmap pk r := by
    refine Bst_two (pk := pk) hr2 hq2 ?_ ?_ ?_
    · rintro a b ⟨c1, c2, c3, c4, c5, c6⟩
      obtain ⟨i, hi, ai, rfl⟩ := (h.top h64 (show a < W * H by omega)).mp c3
      obtain ⟨j, hj, aj, rfl⟩ := (h.top h64 c2).mp c4
      rw [h.vc hi hj ai aj] at c5 c6
      rw [hp] at c6
      refine ⟨i, j, rfl, rfl, ?_, hj, ai, aj, c5, c6⟩
      rcases Nat.lt_trichotomy i j with q | q | q
      · exact q
      · rw [q] at c1; omega
      · have := kpk j i q hi
        omega
    · rintro i j ⟨c1, c2, c3, c4, c5, c6⟩
      have hv := h.vc (show i < s by omega) c2 c3 c4
      refine ⟨⟨kpk i j c1 c2, (k39 j c2).2, (h.top h64 (k39 i (by omega)).2).mpr ⟨i, by omega, c3, rfl⟩, (h.top h64 (k39 j c2).2).mpr ⟨j, c2, c4, rfl⟩, by rw [hv]; exact c5, by rw [hv, hp]; exact c6⟩, hv⟩
    · rintro i j i' j' c c'
      have a1 := c.1
      have a2 := c.2.1
      have a3 := c'.1
      have a4 := c'.2.1
      exact ⟨fun z => kpk i i' z (by omega), fun z => kpk j j' z a4⟩
  subst hrr
  unfold f_X3_mergeBestPair f_X12_joinOnce
  rw [hr1, hq1]
  cases r with
  | none => exact Or.inl ⟨rfl, rfl⟩
  | some x =>
    obtain ⟨i, j⟩ := x
    right
    obtain ⟨c1, c2, c3, c4, c5, c6⟩ := hr2.1
    have hi : i < s := by omega
    have pi := k39 i hi
    have pj := k39 j c2
    simp only [eC, pmap, eM, Option.bind_some, nI_nm1 (show i < 2 ^ 31 by omega), nI_nm1 (show pk i < 2 ^ 31 by omega), if_false, zin_nI (show i < 16 by omega) (show 16 < 2 ^ 31 by decide), zin_nI (show j < 16 by omega) (show 16 < 2 ^ 31 by decide), zg_t, nI_clamp (show i < 2 ^ 31 by omega), nI_clamp (show j < 2 ^ 31 by omega), pi.1, pj.1, zin_nI (show pk i < 64 by omega) (show 64 < 2 ^ 31 by decide), zin_nI (show pk j < 64 by omega) (show 64 < 2 ^ 31 by decide), nI_clamp (show pk i < 2 ^ 31 by omega), nI_clamp (show pk j < 2 ^ 31 by omega), hDc _ pi.2, hDc _ pj.2, hDm _ pi.2, hDm _ pj.2]
    have fin : ∀ kp gn, kp < s → gn < s → kp ≠ gn → mc.1 40 kp = 1 → mc.1 40 gn = 1 → (∀ x : Int32, x = nI (pk i) ∨ x = nI (pk j) ↔ x = nI (pk kp) ∨ x = nI (pk gn)) → ∃ mc' mm', ((f_X3_merge (nI kp) (nI gn) mc).bind fun m9 => some (true, m9)) = some (true, mc') ∧ j_X12_joinOnce_136 (nI (pk i)) (nI (pk j)) (nI (pk kp)) mm = some (true, mm') ∧ Fr [40, 41, 43] mc mc' ∧ Fr [100] mm mm' ∧ HI D W H mc' (mm'.1 100) s pk ∧ (∀ c, c < W * H → ¬ mc'.1 41 c = -1 → 10 ≤ D c) ∧ acnt mc' s < acnt mc s := by
      intro kp gn hk hg hkg ak ag hx
      obtain ⟨mc', m1, m2, m3, m4, m5, m6⟩ := merge_c h14 h64 k38 hs hk hg hkg
      obtain ⟨mm', n1, n2, n3⟩ := join_m (nI (pk i)) (nI (pk j)) (nI (pk kp)) hw hh w8 h8
      refine ⟨mc', mm', by rw [m1]; rfl, n1, m2, n2, h.step w3 w8 h3 h8 hk hg hkg ak ag m2 m3 m4 m5 m6 ?_, ?_, acnt_lt hg ag m3⟩
      · intro k hk2
        rw [n3 k hk2]
        by_cases z : mm.1 100 k = nI (pk i) ∨ mm.1 100 k = nI (pk j)
        · rw [if_pos z, if_pos ((hx _).mp z)]
        · rw [if_neg z, if_neg (fun q => z ((hx _).mpr q))]
      · intro c hc hne
        rw [m4 c hc] at hne
        by_cases z : mc.1 41 c = nI gn
        · exact h10 c hc (by rw [z]; exact nI_nm1 (by omega))
        · rw [if_neg z] at hne
          exact h10 c hc hne
    by_cases hlt : D (pk i) < D (pk j)
    · rw [if_pos hlt, if_neg (Int32.not_le.mpr hlt)]
      exact fin j i c2 hi (by omega) c4 c3 (fun x => Or.comm)
    · rw [if_neg hlt, if_pos (Int32.not_lt.mp hlt)]
      exact fin i j hi c2 (by omega) c3 c4 (fun x => Iff.rfl)
end HLS
