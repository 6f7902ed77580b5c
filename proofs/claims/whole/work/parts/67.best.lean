/-! ===== a frame: the best pair of hills ===== -/
theorem lesser_eq {p q : Int32} {m : zM} : f_X12_lesser p q m = some (mnI p q) := by
  unfold f_X12_lesser mnI
  by_cases c1 : q < p
  · simp [c1, Int32.le_of_lt c1]
  · by_cases c2 : q ≤ p
    · have : q = p := Int32.le_antisymm c2 (Int32.not_lt.mp c1)
      simp [c1, c2, this]
    · simp [c1, c2]
section PSM
variable {D : Nat → Int32} {W H : Nat}
theorem passOf_m {m : zM} (hw : m.1 68 2 = nI W) (hh : m.1 68 3 = nI H) (w3 : 3 ≤ W) (w8 : W ≤ 8) (h3 : 3 ≤ H) (h8 : H ≤ 8) (hD : ∀ k, k < W * H → m.1 73 k = D k) (a b : Int32) : ∃ w, f_X12_passOf a b m = some w ∧ PSv (Ed D W H (m.1 100) a b) (-268435456) w := by
  have h64 : W * H ≤ 64 := Nat.mul_le_mul w8 h8
  unfold f_X12_passOf
  have key : ∃ w, zloop (b_X12_passOf_7 a b m) zFU (-268435456, 0) = some w ∧ PSv (Ed D W H (m.1 100) a b) (-268435456) w := by
    refine zforQ (fun i s => s.2 = nI i ∧ PSv (EdV D W H (m.1 100) (fun c _ => c < i) a b) (-268435456) s.1) (W * H) _ ⟨rfl, Int32.le_refl _, fun y hy => ⟨fun z => ?_, fun ⟨c, x, _, _, q, _⟩ => absurd q (by omega)⟩⟩ ?_ ?_ (by omega)
    · simp only at z
      rw [lt32] at hy
      rw [le32] at z
      omega
    · rintro i ⟨v, y⟩ hi ⟨rfl, f1⟩
      simp only at f1
      have hz := zin_nI (show i < 64 by omega) (show 64 < 2 ^ 31 by decide)
      have hcl := nI_clamp (show i < 2 ^ 31 by omega)
      unfold b_X12_passOf_7 j_X12_passOf_108
      rw [cells_eq hw hh]
      simp only [Option.bind_some, nI_ge hi (show W * H < 2 ^ 31 by omega), if_false, nI_1]
      have inner : ∃ r, zloop (b_X12_passOf_19 a b (nI i) m) zFU (v, 0) = some r ∧ PSv (EdV D W H (m.1 100) (fun c _ => c < i + 1) a b) (-268435456) r := by
        by_cases ha : m.1 100 i = a
        · refine zforQ (fun j s => s.2 = nI j ∧ PSv (EdV D W H (m.1 100) (fun c x => c < i ∨ (c = i ∧ x ∈ NBk W H i j)) a b) (-268435456) s.1) 8 _ ⟨rfl, f1.congr fun y => EdV_same fun c x _ _ => by simp [NBk]⟩ ?_ ?_ (by decide)
          · rintro j ⟨u, y⟩ hj ⟨rfl, k1⟩
            simp only at k1
            unfold b_X12_passOf_19 j_X12_passOf_84 j_X12_passOf_87 j_X12_passOf_101
            simp only [nI_ge hj (show 8 < 2 ^ 31 by decide), show (8 : Int32) = nI 8 from rfl, if_false, hz, zg_t, hcl, ha, if_true, beside_eq hw hh w3 w8 h3 h8 hi hj, Option.bind_some, nI_1]
            have low : (-268435456 : Int32) ≤ u := k1.1
            cases hzb : zbes W H i j with
            | none =>
              simp only [if_true, low]
              exact ⟨_, rfl, rfl, by rw [NBk_none hzb]; exact k1⟩
            | some x =>
              have hx := zbes_lt hzb (by omega)
              have hxm := NB_mem_zbes hzb hj
              have hVV : ∀ c z, c < W * H → z ∈ NB W H c → ((c < i ∨ (c = i ∧ z ∈ NBk W H i (j + 1))) ↔ (c < i ∨ (c = i ∧ z ∈ NBk W H i j)) ∨ (c = i ∧ z = x)) := by
                intro c z _ _
                rw [NBk_some hzb, List.mem_append, List.mem_singleton]
                constructor
                · rintro (q | ⟨q1, q2 | q2⟩)
                  · exact Or.inl (Or.inl q)
                  · exact Or.inl (Or.inr ⟨q1, q2⟩)
                  · exact Or.inr ⟨q1, q2⟩
                · rintro ((q | ⟨q1, q2⟩) | ⟨q1, q2⟩)
                  · exact Or.inl q
                  · exact Or.inr ⟨q1, Or.inl q2⟩
                  · exact Or.inr ⟨q1, Or.inr q2⟩
              simp only [nI_nm1 (show x < 2 ^ 31 by omega), if_false, zin_nI (show x < 64 by omega) (show 64 < 2 ^ 31 by decide), zg_t, nI_clamp (show x < 2 ^ 31 by omega), hD i hi, hD x hx, lesser_eq, Option.bind_some]
              by_cases hb : m.1 100 x = b
              · rw [if_pos hb]
                have e : (if mnI (D i) (D x) ≤ u then (some (.inl (u, nI (j + 1))) : Option ((Int32 × Int32) ⊕ Int32)) else some (.inl (mnI (D i) (D x), nI (j + 1)))) = some (.inl (mxI u (mnI (D i) (D x)), nI (j + 1))) := by
                  unfold mxI
                  by_cases q : u < mnI (D i) (D x)
                  · rw [if_neg (Int32.not_le.mpr q), if_pos q]
                  · rw [if_pos (Int32.not_lt.mp q), if_neg q]
                rw [e]
                refine ⟨_, rfl, rfl, k1.mx fun y _ => ?_⟩
                rw [EdV_add hi hxm hVV, le_mn]
                simp [ha, hb]
              · rw [if_neg hb, if_pos low]
                refine ⟨_, rfl, rfl, k1.congr fun y => ?_⟩
                rw [EdV_add hi hxm hVV]
                simp [hb]
          · rintro ⟨u, y⟩ ⟨rfl, k1⟩
            simp only at k1
            refine ⟨u, ?_, k1.congr fun y => EdV_same fun c x _ hx => ?_⟩
            · unfold b_X12_passOf_19
              simp only [nI_le (Nat.le_refl 8) (show 8 < 2 ^ 31 by decide), show (8 : Int32) = nI 8 from rfl, if_true]
            · rw [NBk_8]
              constructor
              · rintro (q | ⟨q, _⟩) <;> omega
              · intro q
                by_cases e : c = i
                · exact Or.inr ⟨e, by rw [e] at hx; exact hx⟩
                · exact Or.inl (by omega)
        · refine ⟨v, zloop_0 ?_, f1.congr fun y => ?_⟩
          · unfold b_X12_passOf_19
            simp only [show ¬ (8 : Int32) ≤ 0 by decide, if_false, hz, zg_t, hcl, ha]
          · constructor
            · rintro ⟨c, x, h1, h2, h3, h4⟩
              exact ⟨c, x, h1, h2, by omega, h4⟩
            · rintro ⟨c, x, h1, h2, h3, h4, h5⟩
              refine ⟨c, x, h1, h2, ?_, h4, h5⟩
              have : c ≠ i := fun z => ha (by rw [z] at h4; exact h4)
              omega
      obtain ⟨r, i1, i2⟩ := inner
      rw [i1]
      exact ⟨_, rfl, rfl, i2⟩
    · rintro ⟨v, y⟩ ⟨rfl, f1⟩
      simp only at f1
      refine ⟨v, ?_, f1.congr fun y => EdV_same fun c x hc _ => ⟨fun _ => trivial, fun _ => hc⟩⟩
      unfold b_X12_passOf_7
      rw [cells_eq hw hh]
      simp only [Option.bind_some, nI_le (Nat.le_refl (W * H)) (show W * H < 2 ^ 31 by omega), if_true]
  obtain ⟨w, e, q⟩ := key
  exact ⟨w, by rw [e]; rfl, q⟩
end PSM
/-! the best of the pairs that were looked at: of equal ones the first -/
def BstO (C : Nat → Nat → Prop) (val : Nat → Nat → Int32) (V : Nat → Nat → Prop) : Option (Nat × Nat) → Prop
  | none => ∀ a b, V a b → ¬ C a b
  | some (a, b) => C a b ∧ V a b ∧ ∀ a' b', V a' b' → C a' b' → val a' b' < val a b ∨ (val a' b' = val a b ∧ (a < a' ∨ (a = a' ∧ b ≤ b')))
theorem BstO.congr {C : Nat → Nat → Prop} {val : Nat → Nat → Int32} {V V' : Nat → Nat → Prop} {r : Option (Nat × Nat)} (h : BstO C val V r) (e : ∀ a b, C a b → (V' a b ↔ V a b)) : BstO C val V' r := by
  cases r with
  | none => exact fun a b h1 h2 => h a b ((e a b h2).mp h1) h2
  | some x =>
    obtain ⟨a, b⟩ := x
    exact ⟨h.1, (e a b h.1).mpr h.2.1, fun a' b' h1 h2 => h.2.2 a' b' ((e a' b' h2).mp h1) h2⟩
theorem BstO.skip {C : Nat → Nat → Prop} {val : Nat → Nat → Int32} {V V' : Nat → Nat → Prop} {r : Option (Nat × Nat)} {p q : Nat} (h : BstO C val V r) (e : ∀ a b, C a b → (V' a b ↔ V a b ∨ (a = p ∧ b = q))) (n : ¬ C p q) : BstO C val V' r :=
  h.congr fun a b hc => (e a b hc).trans ⟨fun z => z.resolve_right (fun ⟨z1, z2⟩ => n (by rw [← z1, ← z2]; exact hc)), Or.inl⟩
theorem BstO.take {C : Nat → Nat → Prop} {val : Nat → Nat → Int32} {V V' : Nat → Nat → Prop} {r : Option (Nat × Nat)} {p q : Nat} (h : BstO C val V r) (e : ∀ a b, C a b → (V' a b ↔ V a b ∨ (a = p ∧ b = q))) (n : C p q) (hv : ∀ a b, r = some (a, b) → val a b < val p q) : BstO C val V' (some (p, q)) := by
  refine ⟨n, (e p q n).mpr (Or.inr ⟨rfl, rfl⟩), fun a' b' h1 h2 => ?_⟩
  rcases (e a' b' h2).mp h1 with z | ⟨rfl, rfl⟩
  · cases r with
    | none => exact absurd h2 (h a' b' z)
    | some x =>
      obtain ⟨a, b⟩ := x
      have q1 := hv a b rfl
      left
      rcases h.2.2 a' b' z h2 with q2 | ⟨q2, _⟩
      · exact Int32.lt_trans q2 q1
      · rw [q2]; exact q1
  · exact Or.inr ⟨rfl, Or.inr ⟨rfl, Nat.le_refl _⟩⟩
theorem BstO.keep {C : Nat → Nat → Prop} {val : Nat → Nat → Int32} {V V' : Nat → Nat → Prop} {a b p q : Nat} (h : BstO C val V (some (a, b))) (e : ∀ a b, C a b → (V' a b ↔ V a b ∨ (a = p ∧ b = q))) (lex : a < p ∨ (a = p ∧ b ≤ q)) (hv : val p q ≤ val a b) : BstO C val V' (some (a, b)) := by
  refine ⟨h.1, (e a b h.1).mpr (Or.inl h.2.1), fun a' b' h1 h2 => ?_⟩
  rcases (e a' b' h2).mp h1 with z | ⟨rfl, rfl⟩
  · exact h.2.2 a' b' z h2
  · by_cases q : val a' b' = val a b
    · exact Or.inr ⟨q, lex⟩
    · left
      rw [le32] at hv
      rw [eq32] at q
      rw [lt32]
      omega
def eC (val : Nat → Nat → Int32) : Option (Nat × Nat) → Int32 × Int32 × Int32
  | none => (-1, -1, -1)
  | some (a, b) => (val a b, nI a, nI b)
def eM (val : Nat → Nat → Int32) : Option (Nat × Nat) → Int32 × Int32 × Int32
  | none => (-1, -1, -268435456)
  | some (a, b) => (nI a, nI b, val a b)
section SRC
variable {D : Nat → Int32} {W H : Nat}
/-- which hills the class can merge -/
def CI (m : zM) (D : Nat → Int32) (pct : Int32) (pk : Nat → Nat) (s i j : Nat) : Prop := i < j ∧ j < s ∧ m.1 40 i = 1 ∧ m.1 40 j = 1 ∧ ¬ m.1 43 (16 * i + j) = -1 ∧ ¬ 100 * m.1 43 (16 * i + j) < pct * mnI (D (pk i)) (D (pk j))
theorem canMerge_eq {m : zM} {pct : Int32} {pk : Nat → Nat} {s : Nat} (hs : s ≤ 16) (h39 : ∀ i, i < s → m.1 39 i = nI (pk i) ∧ pk i < 64 ∧ m.1 36 (pk i) = D (pk i)) (h40 : ∀ i, i < s → m.1 40 i = 0 ∨ m.1 40 i = 1) {i j : Nat} (hij : i < j) (hj : j < s) : ∃ b : Bool, f_X3_canMerge (nI i) (nI j) pct m = some b ∧ (b = true ↔ CI m D pct pk s i j) := by
  obtain ⟨a1, a2, a3⟩ := h39 i (by omega)
  obtain ⟨b1, b2, b3⟩ := h39 j hj
  unfold f_X3_canMerge CI
  rw [show (16 : Int32) = nI 16 from rfl, pk_mul, nI_add, zin_nI (show 16 * i + j < 256 by omega) (by decide), zin_nI (show i < 16 by omega) (by decide), zin_nI (show j < 16 by omega) (by decide)]
  simp only [zg_t, nI_clamp (show i < 2 ^ 31 by omega), nI_clamp (show j < 2 ^ 31 by omega), nI_clamp (show 16 * i + j < 2 ^ 31 by omega), a1, b1, zin_nI a2 (show 64 < 2 ^ 31 by decide), zin_nI b2 (show 64 < 2 ^ 31 by decide), nI_clamp (show pk i < 2 ^ 31 by omega), nI_clamp (show pk j < 2 ^ 31 by omega), a3, b3, jmn, Option.bind_some]
  have z01 : ¬ (0 : Int32) = 1 := by decide
  have z10 : ¬ (1 : Int32) = 0 := by decide
  rcases h40 i (by omega) with c1 | c1
  · exact ⟨false, by rw [c1]; rfl, by rw [c1]; simp [z01]⟩
  · rcases h40 j hj with c2 | c2
    · exact ⟨false, by rw [c1, c2]; rfl, by rw [c2]; simp [z01]⟩
    · by_cases c3 : m.1 43 (16 * i + j) = -1
      · exact ⟨false, by rw [c1, c2, if_neg z10, if_neg z10, if_pos c3], by simp [c3]⟩
      · by_cases c4 : 100 * m.1 43 (16 * i + j) < pct * mnI (D (pk i)) (D (pk j))
        · exact ⟨false, by rw [c1, c2, if_neg z10, if_neg z10, if_neg c3, if_pos c4], by simp [c4]⟩
        · exact ⟨true, by rw [c1, c2, if_neg z10, if_neg z10, if_neg c3, if_neg c4], by simp [c1, c2, c3, c4, hij, hj]⟩
theorem search_c {m : zM} {pct : Int32} {pk : Nat → Nat} {s : Nat} (hs : s ≤ 16) (h38 : m.1 38 4 = nI s) (h39 : ∀ i, i < s → m.1 39 i = nI (pk i) ∧ pk i < 64 ∧ m.1 36 (pk i) = D (pk i)) (h40 : ∀ i, i < s → m.1 40 i = 0 ∨ m.1 40 i = 1) (h43 : ∀ i j, i < s → j < s → i ≠ j → m.1 40 i = 1 → m.1 40 j = 1 → -1 ≤ m.1 43 (16 * i + j)) :
    ∃ r, zloop (b_X3_mergeBestPair_11 pct m) zFU (-1, -1, -1, 0) = some (eC (fun i j => m.1 43 (16 * i + j)) r).2 ∧ BstO (CI m D pct pk s) (fun i j => m.1 43 (16 * i + j)) (fun _ _ => True) r := by
  have key : ∃ x, zloop (b_X3_mergeBestPair_11 pct m) zFU (-1, -1, -1, 0) = some x ∧ ∃ r, x = (eC (fun i j => m.1 43 (16 * i + j)) r).2 ∧ BstO (CI m D pct pk s) (fun i j => m.1 43 (16 * i + j)) (fun _ _ => True) r := by
    refine zforQ (fun i st => ∃ r, st = ((eC (fun i j => m.1 43 (16 * i + j)) r).1, (eC (fun i j => m.1 43 (16 * i + j)) r).2.1, (eC (fun i j => m.1 43 (16 * i + j)) r).2.2, nI i) ∧ BstO (CI m D pct pk s) (fun i j => m.1 43 (16 * i + j)) (fun a _ => a < i) r) s _ ⟨none, rfl, fun a b h => by omega⟩ ?_ ?_ (by omega)
    · rintro i _ hi ⟨r, rfl, hr⟩
      unfold b_X3_mergeBestPair_11
      simp only [h38, nI_ge hi (show s < 2 ^ 31 by omega), if_false, nI_1]
      have inner : ∃ x, zloop (b_X3_mergeBestPair_26 pct (nI i) m) zFU ((eC (fun i j => m.1 43 (16 * i + j)) r).1, (eC (fun i j => m.1 43 (16 * i + j)) r).2.1, (eC (fun i j => m.1 43 (16 * i + j)) r).2.2, nI (i + 1)) = some x ∧ ∃ r, x = eC (fun i j => m.1 43 (16 * i + j)) r ∧ BstO (CI m D pct pk s) (fun i j => m.1 43 (16 * i + j)) (fun a _ => a < i + 1) r := by
        refine zforQ (fun d st => ∃ r, st = ((eC (fun i j => m.1 43 (16 * i + j)) r).1, (eC (fun i j => m.1 43 (16 * i + j)) r).2.1, (eC (fun i j => m.1 43 (16 * i + j)) r).2.2, nI (i + 1 + d)) ∧ BstO (CI m D pct pk s) (fun i j => m.1 43 (16 * i + j)) (fun a b => a < i ∨ (a = i ∧ b < i + 1 + d)) r) (s - (i + 1)) _ ⟨r, rfl, hr.congr fun a b hc => ?_⟩ ?_ ?_ (by omega)
        · have := hc.1
          constructor
          · rintro (q | ⟨q1, q2⟩)
            · exact q
            · omega
          · exact Or.inl
        · rintro d _ hd ⟨r, rfl, hr⟩
          have hj : i + 1 + d < s := by omega
          obtain ⟨cb, hcb, hcb2⟩ := canMerge_eq (D := D) (pct := pct) hs h39 h40 (show i < i + 1 + d by omega) hj
          have hV : ∀ a b, CI m D pct pk s a b → ((a < i ∨ (a = i ∧ b < i + 1 + (d + 1))) ↔ (a < i ∨ (a = i ∧ b < i + 1 + d)) ∨ (a = i ∧ b = i + 1 + d)) := by
            intro a b _
            constructor
            · rintro (q | ⟨q1, q2⟩)
              · exact Or.inl (Or.inl q)
              · by_cases e : b = i + 1 + d
                · exact Or.inr ⟨q1, e⟩
                · exact Or.inl (Or.inr ⟨q1, by omega⟩)
            · rintro ((q | ⟨q1, q2⟩) | ⟨q1, q2⟩)
              · exact Or.inl q
              · exact Or.inr ⟨q1, by omega⟩
              · exact Or.inr ⟨q1, by omega⟩
          have e16 : (16 : Int32) * nI i + nI (i + 1 + d) = nI (16 * i + (i + 1 + d)) := by rw [show (16 : Int32) = nI 16 from rfl, pk_mul, nI_add]
          unfold b_X3_mergeBestPair_26 j_X3_mergeBestPair_80
          simp only [h38, nI_ge hj (show s < 2 ^ 31 by omega), if_false, e16, zin_nI (show 16 * i + (i + 1 + d) < 256 by omega) (show 256 < 2 ^ 31 by decide), zg_t, nI_clamp (show 16 * i + (i + 1 + d) < 2 ^ 31 by omega), hcb, Option.bind_some, nI_1]
          have keepS : ∀ (hB : BstO (CI m D pct pk s) (fun i j => m.1 43 (16 * i + j)) (fun a b => a < i ∨ (a = i ∧ b < i + 1 + (d + 1))) r), ∃ s1, (some (.inl ((eC (fun i j => m.1 43 (16 * i + j)) r).1, (eC (fun i j => m.1 43 (16 * i + j)) r).2.1, (eC (fun i j => m.1 43 (16 * i + j)) r).2.2, nI (i + 1 + d + 1))) : Option ((Int32 × Int32 × Int32 × Int32) ⊕ (Int32 × Int32 × Int32))) = some (.inl s1) ∧ ∃ r, s1 = ((eC (fun i j => m.1 43 (16 * i + j)) r).1, (eC (fun i j => m.1 43 (16 * i + j)) r).2.1, (eC (fun i j => m.1 43 (16 * i + j)) r).2.2, nI (i + 1 + (d + 1))) ∧ BstO (CI m D pct pk s) (fun i j => m.1 43 (16 * i + j)) (fun a b => a < i ∨ (a = i ∧ b < i + 1 + (d + 1))) r := fun hB => ⟨_, rfl, r, rfl, hB⟩
          cases r with
          | none =>
            by_cases hle : m.1 43 (16 * i + (i + 1 + d)) ≤ -1
            · rw [show (eC (fun i j => m.1 43 (16 * i + j)) none).1 = -1 from rfl, if_pos hle]
              refine keepS (hr.skip hV fun hc => ?_)
              have h1 := h43 i (i + 1 + d) hi hj (by omega) hc.2.2.1 hc.2.2.2.1
              exact hc.2.2.2.2.1 (Int32.le_antisymm hle h1)
            · rw [show (eC (fun i j => m.1 43 (16 * i + j)) none).1 = -1 from rfl, if_neg hle]
              cases cb with
              | false => exact keepS (hr.skip hV fun hc => Bool.noConfusion (hcb2.mpr hc))
              | true =>
                refine ⟨_, rfl, some (i, i + 1 + d), rfl, hr.take hV (hcb2.mp rfl) (fun a b z => by cases z)⟩
          | some x =>
            obtain ⟨a, b⟩ := x
            by_cases hle : m.1 43 (16 * i + (i + 1 + d)) ≤ m.1 43 (16 * a + b)
            · rw [show (eC (fun i j => m.1 43 (16 * i + j)) (some (a, b))).1 = m.1 43 (16 * a + b) from rfl, if_pos hle]
              refine keepS (hr.keep hV ?_ hle)
              rcases hr.2.1 with q | ⟨q1, q2⟩
              · exact Or.inl q
              · exact Or.inr ⟨q1, by omega⟩
            · rw [show (eC (fun i j => m.1 43 (16 * i + j)) (some (a, b))).1 = m.1 43 (16 * a + b) from rfl, if_neg hle]
              cases cb with
              | false => exact keepS (hr.skip hV fun hc => Bool.noConfusion (hcb2.mpr hc))
              | true =>
                refine ⟨_, rfl, some (i, i + 1 + d), rfl, hr.take hV (hcb2.mp rfl) (fun a' b' z => ?_)⟩
                injection z with z
                obtain ⟨rfl, rfl⟩ := Prod.mk.inj z
                exact Int32.not_le.mp hle
        · rintro _ ⟨r, rfl, hr⟩
          refine ⟨_, ?_, r, rfl, hr.congr fun a b hc => ?_⟩
          · unfold b_X3_mergeBestPair_26
            simp only [h38, nI_le (show s ≤ i + 1 + (s - (i + 1)) by omega) (show i + 1 + (s - (i + 1)) < 2 ^ 31 by omega), if_true]
          · have := hc.2.1
            constructor
            · intro q
              by_cases e : a = i
              · exact Or.inr ⟨e, by omega⟩
              · exact Or.inl (by omega)
            · rintro (q | ⟨q, _⟩) <;> omega
      obtain ⟨x, i1, r', rfl, hr'⟩ := inner
      rw [i1]
      exact ⟨_, rfl, r', rfl, hr'⟩
    · rintro _ ⟨r, rfl, hr⟩
      refine ⟨_, ?_, r, rfl, hr.congr fun a b hc => ?_⟩
      · unfold b_X3_mergeBestPair_11
        simp only [h38, nI_le (Nat.le_refl s) (show s < 2 ^ 31 by omega), if_true]
      · have := hc.1
        have := hc.2.1
        exact ⟨fun _ => by omega, fun _ => trivial⟩
  obtain ⟨x, e, r, rfl, hr⟩ := key
  exact ⟨r, e, hr⟩
end SRC
