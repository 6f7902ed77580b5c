/-! ===== a frame: near a marked cell, and the spread of the quiet ones ===== -/
def near (P : Nat → Bool) (W H c : Nat) : Bool := P c || (NB W H c).any P
theorem bi_ne0 {b : Bool} : (¬ bi b = 0) ↔ b = true := by cases b <;> decide
theorem near_congr {P Q : Nat → Bool} {W H : Nat} (w3 : 3 ≤ W) (w8 : W ≤ 8) (h3 : 3 ≤ H) (h8 : H ≤ 8) (h : ∀ k, k < W * H → P k = Q k) {c : Nat} (hc : c < W * H) : near P W H c = near Q W H c := by
  unfold near
  rw [h c hc]
  congr 1
  have : ∀ (l : List Nat), (∀ x, x ∈ l → P x = Q x) → l.any P = l.any Q := by
    intro l
    induction l with
    | nil => intro _; rfl
    | cons a l ih =>
      intro hl
      rw [List.any_cons, List.any_cons, hl a (by simp), ih (fun x hx => hl x (by simp [hx]))]
  exact this _ (fun x hx => h x ((NB_ok w3 w8 h3 h8 hc).1 x hx).1)
theorem meets_eq {W H : Nat} {m : zM} {P : Nat → Bool} (g : RGr W H m) (hT : ∀ k, k < W * H → (m.1 37 k = 0 ↔ P k = false)) {c : Nat} (hc : c < W * H) : f_X1_meets (nI c) m = some (near P W H c) := by
  obtain ⟨_, w3, w8, h3, h8, _, _, _, _, _, q6⟩ := id g
  have h64 : W * H ≤ 64 := Nat.mul_le_mul w8 h8
  have hl := (NB_ok w3 w8 h3 h8 hc).2
  have hz := zin_nI (show c < 64 by omega) (show 64 < 2 ^ 31 by decide)
  have hcl := nI_clamp (show c < 2 ^ 31 by omega)
  have loop : ∀ (d i k : Nat), i + d = (NB W H c).length → d < k → ((zloop (b_X1_meets_10 (nI c) m) k (nI i)).bind fun r5 => Sum.elim (fun _ => some false) (fun v6 => some v6) r5) = some (((NB W H c).drop i).any P) := by
    intro d
    induction d with
    | zero =>
      intro i k hi hk
      obtain ⟨k', rfl⟩ : ∃ q, k = q + 1 := ⟨k - 1, by omega⟩
      rw [zloop_0 (r := .inl ())]
      · rw [List.drop_of_length_le (by omega)]
        rfl
      · unfold b_X1_meets_10
        rw [hz, zg_t, hcl, (q6 c hc).2.2.1, if_pos (nI_le (by omega) (by omega))]
    | succ d ih =>
      intro i k hi hk
      obtain ⟨k', rfl⟩ : ∃ q, k = q + 1 := ⟨k - 1, by omega⟩
      have hil : i < (NB W H c).length := by omega
      have hx := ((NB_ok w3 w8 h3 h8 hc).1 _ (getD_mem' hil)).1
      have hdr : (NB W H c).drop i = (NB W H c).getD i 0 :: (NB W H c).drop (i + 1) := by
        rw [List.drop_eq_getElem_cons hil]
        simp [List.getD, List.getElem?_eq_getElem hil]
      have body : b_X1_meets_10 (nI c) m (nI i) = if P ((NB W H c).getD i 0) = false then some (.inl (nI (i + 1))) else some (.inr (.inr true)) := by
        unfold b_X1_meets_10
        rw [hz, zg_t, hcl, (q6 c hc).2.2.1, if_neg (nI_ge (by omega) (by omega)), neigh_eq g hc hil]
        simp only [Option.bind_some]
        rw [zin_nI (show (NB W H c).getD i 0 < 64 by omega) (by decide), zg_t, nI_clamp (by omega), nI_1]
        by_cases q : P ((NB W H c).getD i 0) = false
        · rw [if_pos q, if_pos ((hT _ hx).mpr q)]
        · rw [if_neg q, if_neg (fun z => q ((hT _ hx).mp z))]
      by_cases q : P ((NB W H c).getD i 0) = false
      · rw [if_pos q] at body
        rw [zloop_s body, ih (i + 1) k' (by omega) (by omega), hdr, List.any_cons, q, Bool.false_or]
      · rw [if_neg q] at body
        have q' : P ((NB W H c).getD i 0) = true := by simpa using q
        rw [zloop_0 body, hdr, List.any_cons, q', Bool.true_or]
        rfl
  unfold f_X1_meets near
  rw [hz, zg_t, hcl]
  by_cases q : P c = false
  · rw [if_pos ((hT c hc).mpr q), show (0 : Int32) = nI 0 from rfl]
    have := loop (NB W H c).length 0 zFU (by omega) (by unfold zFU; omega)
    rw [List.drop_zero] at this
    rw [q, Bool.false_or]
    exact this
  · rw [if_neg (fun z => q ((hT c hc).mp z))]
    have : P c = true := by simpa using q
    rw [this, Bool.true_or]
theorem meets_v1_eq {W H : Nat} {m : zM} {P : Nat → Bool} (g : RGr W H m) (hT : ∀ k, k < W * H → (m.1 53 k = 0 ↔ P k = false)) {c : Nat} (hc : c < W * H) : f_X1_meets_v1 (nI c) m = some (near P W H c) := by
  obtain ⟨_, w3, w8, h3, h8, _, _, _, _, _, q6⟩ := id g
  have h64 : W * H ≤ 64 := Nat.mul_le_mul w8 h8
  have hl := (NB_ok w3 w8 h3 h8 hc).2
  have hz := zin_nI (show c < 64 by omega) (show 64 < 2 ^ 31 by decide)
  have hcl := nI_clamp (show c < 2 ^ 31 by omega)
  have loop : ∀ (d i k : Nat), i + d = (NB W H c).length → d < k → ((zloop (b_X1_meets_v1_10 (nI c) m) k (nI i)).bind fun r5 => Sum.elim (fun _ => some false) (fun v6 => some v6) r5) = some (((NB W H c).drop i).any P) := by
    intro d
    induction d with
    | zero =>
      intro i k hi hk
      obtain ⟨k', rfl⟩ : ∃ q, k = q + 1 := ⟨k - 1, by omega⟩
      rw [zloop_0 (r := .inl ())]
      · rw [List.drop_of_length_le (by omega)]
        rfl
      · unfold b_X1_meets_v1_10
        rw [hz, zg_t, hcl, (q6 c hc).2.2.1, if_pos (nI_le (by omega) (by omega))]
    | succ d ih =>
      intro i k hi hk
      obtain ⟨k', rfl⟩ : ∃ q, k = q + 1 := ⟨k - 1, by omega⟩
      have hil : i < (NB W H c).length := by omega
      have hx := ((NB_ok w3 w8 h3 h8 hc).1 _ (getD_mem' hil)).1
      have hdr : (NB W H c).drop i = (NB W H c).getD i 0 :: (NB W H c).drop (i + 1) := by
        rw [List.drop_eq_getElem_cons hil]
        simp [List.getD, List.getElem?_eq_getElem hil]
      have body : b_X1_meets_v1_10 (nI c) m (nI i) = if P ((NB W H c).getD i 0) = false then some (.inl (nI (i + 1))) else some (.inr (.inr true)) := by
        unfold b_X1_meets_v1_10
        rw [hz, zg_t, hcl, (q6 c hc).2.2.1, if_neg (nI_ge (by omega) (by omega)), neigh_eq g hc hil]
        simp only [Option.bind_some]
        rw [zin_nI (show (NB W H c).getD i 0 < 64 by omega) (by decide), zg_t, nI_clamp (by omega), nI_1]
        by_cases q : P ((NB W H c).getD i 0) = false
        · rw [if_pos q, if_pos ((hT _ hx).mpr q)]
        · rw [if_neg q, if_neg (fun z => q ((hT _ hx).mp z))]
      by_cases q : P ((NB W H c).getD i 0) = false
      · rw [if_pos q] at body
        rw [zloop_s body, ih (i + 1) k' (by omega) (by omega), hdr, List.any_cons, q, Bool.false_or]
      · rw [if_neg q] at body
        have q' : P ((NB W H c).getD i 0) = true := by simpa using q
        rw [zloop_0 body, hdr, List.any_cons, q', Bool.true_or]
        rfl
  unfold f_X1_meets_v1 near
  rw [hz, zg_t, hcl]
  by_cases q : P c = false
  · rw [if_pos ((hT c hc).mpr q), show (0 : Int32) = nI 0 from rfl]
    have := loop (NB W H c).length 0 zFU (by omega) (by unfold zFU; omega)
    rw [List.drop_zero] at this
    rw [q, Bool.false_or]
    exact this
  · rw [if_neg (fun z => q ((hT c hc).mp z))]
    have : P c = true := by simpa using q
    rw [this, Bool.true_or]
theorem isTouched_eq {m : zM} {x : Nat} (hx : x < 64) : f_X12_isTouched (nI x) m = some (!decide (m.1 73 x < m.1 80 1)) := by
  unfold f_X12_isTouched
  rw [zin_nI hx (by decide), zg_t, nI_clamp (by omega)]
  by_cases q : m.1 73 x < m.1 80 1
  · simp [q]
  · simp [q]
theorem nearTouched_eq {W H : Nat} {m : zM} {P : Nat → Bool} (hw : m.1 68 2 = nI W) (hh : m.1 68 3 = nI H) (w3 : 3 ≤ W) (w8 : W ≤ 8) (h3 : 3 ≤ H) (h8 : H ≤ 8) (hT : ∀ k, k < W * H → (!decide (m.1 73 k < m.1 80 1)) = P k) {c : Nat} (hc : c < W * H) : f_X12_isNearTouched (nI c) m = some (near P W H c) := by
  have h64 : W * H ≤ 64 := Nat.mul_le_mul w8 h8
  unfold f_X12_isNearTouched
  rw [isTouched_eq (show c < 64 by omega), hT c hc]
  simp only [Option.bind_some]
  rw [zfor (fun k => (bi (P c || (NBk W H c k).any P), nI k)) 8 (r := bi (near P W H c))]
  · simp only [Option.bind_some, zb_bi, zg_t, zb_dec (zb_bi _)]
    cases near P W H c <;> rfl
  · simp [NBk]
    rfl
  · intro k hk
    unfold b_X12_isNearTouched_8 j_X12_isNearTouched_45 j_X12_isNearTouched_41 j_X12_isNearTouched_46
    simp only [nI_ge hk (show 8 < 2 ^ 31 by decide), show (8 : Int32) = nI 8 from rfl, if_false, beside_eq hw hh w3 w8 h3 h8 hc hk, Option.bind_some, nI_1]
    cases hzb : zbes W H c k with
    | none =>
      rw [NBk_none hzb]
      cases hq : (P c || (NBk W H c k).any P) <;> rfl
    | some x =>
      rw [NBk_some hzb]
      have hx := zbes_lt hzb (by omega)
      have hne : ¬ nI x = -1 := fun z => by
        have := nI_pos' (n := x) (by omega)
        rw [z] at this
        exact absurd this (by decide)
      simp only [hne, if_false, isTouched_eq (show x < 64 by omega), hT x hx, Option.bind_some, List.any_append, List.any_cons, List.any_nil, Bool.or_false]
      rw [← Bool.or_assoc]
      cases hq : (P c || (NBk W H c k).any P) <;> cases hp : P x <;> rfl
  · unfold b_X12_isNearTouched_8
    simp only [nI_le (Nat.le_refl 8) (show 8 < 2 ^ 31 by decide), show (8 : Int32) = nI 8 from rfl, if_true]
    rfl
  · decide
theorem nearSpot_eq {W H : Nat} {m : zM} {P : Nat → Bool} (hw : m.1 68 2 = nI W) (hh : m.1 68 3 = nI H) (w3 : 3 ≤ W) (w8 : W ≤ 8) (h3 : 3 ≤ H) (h8 : H ≤ 8) (hT : ∀ k, k < W * H → (m.1 74 k = -1 ↔ P k = false)) {c : Nat} (hc : c < W * H) : f_X12_isNearSpot (nI c) m = some (near P W H c) := by
  have h64 : W * H ≤ 64 := Nat.mul_le_mul w8 h8
  have main : j_X12_isNearSpot_15 (nI c) (bi (P c)) m = some (near P W H c) := by
    unfold j_X12_isNearSpot_15
    rw [zfor (fun k => (bi (P c || (NBk W H c k).any P), nI k)) 8 (r := bi (near P W H c))]
    · simp only [Option.bind_some, zb_bi, zg_t, zb_dec (zb_bi _)]
      cases near P W H c <;> rfl
    · simp [NBk]
      rfl
    · intro k hk
      unfold b_X12_isNearSpot_18 j_X12_isNearSpot_57 j_X12_isNearSpot_53 j_X12_isNearSpot_58
      simp only [nI_ge hk (show 8 < 2 ^ 31 by decide), show (8 : Int32) = nI 8 from rfl, if_false, beside_eq hw hh w3 w8 h3 h8 hc hk, Option.bind_some, nI_1]
      cases hzb : zbes W H c k with
      | none =>
        rw [NBk_none hzb]
        cases hq : (P c || (NBk W H c k).any P) <;> rfl
      | some x =>
        rw [NBk_some hzb]
        have hx := zbes_lt hzb (by omega)
        have hne : ¬ nI x = -1 := fun z => by
          have := nI_pos' (n := x) (by omega)
          rw [z] at this
          exact absurd this (by decide)
        simp only [hne, if_false, zin_nI (show x < 64 by omega) (show 64 < 2 ^ 31 by decide), zg_t, nI_clamp (show x < 2 ^ 31 by omega), List.any_append, List.any_cons, List.any_nil, Bool.or_false]
        rw [← Bool.or_assoc]
        cases hp : P x with
        | false =>
          rw [if_pos ((hT x hx).mpr hp)]
          cases hq : (P c || (NBk W H c k).any P) <;> rfl
        | true =>
          rw [if_neg (fun z => Bool.noConfusion (((hT x hx).mp z).symm.trans hp))]
          cases hq : (P c || (NBk W H c k).any P) <;> rfl
    · unfold b_X12_isNearSpot_18
      simp only [nI_le (Nat.le_refl 8) (show 8 < 2 ^ 31 by decide), show (8 : Int32) = nI 8 from rfl, if_true]
      rfl
    · decide
  unfold f_X12_isNearSpot
  rw [zin_nI (show c < 64 by omega) (by decide), zg_t, nI_clamp (by omega)]
  cases hp : P c with
  | false =>
    rw [if_pos ((hT c hc).mpr hp)]
    rw [hp] at main
    exact main
  | true =>
    rw [if_neg (fun z => Bool.noConfusion (((hT c hc).mp z).symm.trans hp))]
    rw [hp] at main
    exact main
/-! the spread -/
def zq (P : Nat → Bool) (D : Nat → Int32) (W H : Nat) : Nat → Option (Int32 × Int32)
  | 0 => none
  | i + 1 => if near P W H i then zq P D W H i else match zq P D W H i with
    | none => some (D i, D i)
    | some (a, b) => some (if D i < a then D i else a, if b < D i then D i else b)
def zspread (P : Nat → Bool) (D : Nat → Int32) (W H : Nat) : Int32 := match zq P D W H (W * H) with
  | none => 0
  | some (a, b) => b - a
theorem zq_lt {P : Nat → Bool} {D : Nat → Int32} {W H : Nat} {B : Int32} : ∀ i, (∀ k, k < i → D k < B) → ∀ a b, zq P D W H i = some (a, b) → a < B
  | 0, _, a, b, h => by cases h
  | i + 1, hB, a, b, h => by
    unfold zq at h
    split at h
    · exact zq_lt i (fun k hk => hB k (by omega)) a b h
    · split at h
      · injection h with h
        rw [← (Prod.mk.inj h).1]
        exact hB i (by omega)
      · rename_i a' b' e
        injection h with h
        rw [← (Prod.mk.inj h).1]
        split
        · exact hB i (by omega)
        · exact zq_lt i (fun k hk => hB k (by omega)) a' b' e
def zqC : Option (Int32 × Int32) → Int32 × Int32 × Int32
  | none => (0, 0, 0)
  | some (a, b) => (1, a, b)
def zqM : Option (Int32 × Int32) → Int32 × Int32
  | none => (268435456, -268435456)
  | some (a, b) => (a, b)
theorem spread_c {W H : Nat} {m : zM} {P : Nat → Bool} {D : Nat → Int32} (g : RGr W H m) (hT : ∀ k, k < W * H → (m.1 37 k = 0 ↔ P k = false)) (hD : ∀ k, k < W * H → m.1 36 k = D k) : f_X9_quietSpread m = some (zspread P D W H) := by
  obtain ⟨_, w3, w8, h3, h8, _, _, q3, _⟩ := id g
  have h64 : W * H ≤ 64 := Nat.mul_le_mul w8 h8
  unfold f_X9_quietSpread
  rw [zfor (fun i => ((zqC (zq P D W H i)).1, (zqC (zq P D W H i)).2.1, (zqC (zq P D W H i)).2.2, nI i)) (W * H) (r := (zqC (zq P D W H (W * H))).2)]
  · unfold zspread
    cases zq P D W H (W * H) with
    | none => rfl
    | some x => rfl
  · rfl
  · intro i hi
    unfold b_X9_quietSpread_9 j_X9_quietSpread_62 j_X9_quietSpread_88 j_X9_quietSpread_91 f_J9_min_7cf53 f_J9_max_7cf53
    simp only [q3, nI_ge hi (show W * H < 2 ^ 31 by omega), if_false, meets_eq g hT hi, Option.bind_some, zin_nI (show i < 64 by omega) (show 64 < 2 ^ 31 by decide), zg_t, nI_clamp (show i < 2 ^ 31 by omega), hD i hi, nI_1]
    have e : zq P D W H (i + 1) = if near P W H i then zq P D W H i else match zq P D W H i with
      | none => some (D i, D i)
      | some (a, b) => some (if D i < a then D i else a, if b < D i then D i else b) := rfl
    rw [e]
    cases hn : near P W H i with
    | true => rfl
    | false =>
      cases hz : zq P D W H i with
      | none => rfl
      | some x =>
        obtain ⟨a, b⟩ := x
        simp only [zqC, bi_f, if_true, show ¬ (1 : Int32) = 0 by decide, if_false, Bool.false_eq_true]
        by_cases c1 : D i < a <;> by_cases c2 : b < D i <;> simp [c1, c2]
  · unfold b_X9_quietSpread_9
    simp only [q3, nI_le (Nat.le_refl (W * H)) (show W * H < 2 ^ 31 by omega), if_true]
  · omega
theorem spread_m {W H : Nat} {m : zM} {P : Nat → Bool} {D : Nat → Int32} (hw : m.1 68 2 = nI W) (hh : m.1 68 3 = nI H) (w3 : 3 ≤ W) (w8 : W ≤ 8) (h3 : 3 ≤ H) (h8 : H ≤ 8) (hT : ∀ k, k < W * H → (!decide (m.1 73 k < m.1 80 1)) = P k) (hD : ∀ k, k < W * H → m.1 73 k = D k) (hB : ∀ k, k < W * H → -268435456 < D k ∧ D k < 268435456) : f_X12_spanOf m = some (zspread P D W H) := by
  have h64 : W * H ≤ 64 := Nat.mul_le_mul w8 h8
  unfold f_X12_spanOf
  rw [zfor (fun i => ((zqM (zq P D W H i)).1, (zqM (zq P D W H i)).2, nI i)) (W * H) (r := zqM (zq P D W H (W * H)))]
  · simp only [Option.bind_some]
    unfold zspread
    cases hz : zq P D W H (W * H) with
    | none => rfl
    | some x =>
      obtain ⟨a, b⟩ := x
      have := zq_lt (B := 268435456) (W * H) (fun k hk => (hB k hk).2) a b hz
      have hne : ¬ a = 268435456 := fun z => by
        rw [z] at this
        exact absurd this (by decide)
      exact if_neg hne
  · rfl
  · intro i hi
    unfold b_X12_spanOf_10 j_X12_spanOf_46 j_X12_spanOf_67 j_X12_spanOf_68
    rw [cells_eq hw hh]
    simp only [Option.bind_some, nI_ge hi (show W * H < 2 ^ 31 by omega), if_false, nearTouched_eq hw hh w3 w8 h3 h8 hT hi, zin_nI (show i < 64 by omega) (show 64 < 2 ^ 31 by decide), zg_t, nI_clamp (show i < 2 ^ 31 by omega), hD i hi, nI_1]
    have e : zq P D W H (i + 1) = if near P W H i then zq P D W H i else match zq P D W H i with
      | none => some (D i, D i)
      | some (a, b) => some (if D i < a then D i else a, if b < D i then D i else b) := rfl
    rw [e]
    obtain ⟨b1, b2⟩ := hB i hi
    cases hn : near P W H i with
    | true => rfl
    | false =>
      cases hz : zq P D W H i with
      | none =>
        simp only [zqM, bi_f, if_true, Bool.false_eq_true, if_false, Int32.not_le.mpr b2, Int32.not_le.mpr b1]
      | some x =>
        obtain ⟨a, b⟩ := x
        simp only [zqM, bi_f, if_true, Bool.false_eq_true, if_false]
        by_cases c1 : D i < a <;> by_cases c2 : b < D i
        · simp [c1, c2, Int32.not_le.mpr c1, Int32.not_le.mpr c2]
        · simp [c1, c2, Int32.not_le.mpr c1, Int32.not_lt.mp c2]
        · simp [c1, c2, Int32.not_lt.mp c1, Int32.not_le.mpr c2]
        · simp [c1, c2, Int32.not_lt.mp c1, Int32.not_lt.mp c2]
  · unfold b_X12_spanOf_10
    rw [cells_eq hw hh]
    simp only [Option.bind_some, nI_le (Nat.le_refl (W * H)) (show W * H < 2 ^ 31 by omega), if_true]
  · omega
