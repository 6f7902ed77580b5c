/-! ===== a frame: the model's best pair, and the merging ===== -/
section SRM
variable {D : Nat → Int32} {W H : Nat}
def CM (m : zM) (D : Nat → Int32) (VC : Nat → Nat → Int32) (n a b : Nat) : Prop := a < b ∧ b < n ∧ m.1 100 a = nI a ∧ m.1 100 b = nI b ∧ ¬ VC a b = -1 ∧ ¬ 100 * VC a b < m.1 80 2 * mnI (D a) (D b)
theorem isTop_eq {m : zM} {x : Nat} (hx : x < 64) : f_X12_isTop (nI x) m = some (decide (m.1 100 x = nI x)) := by
  unfold f_X12_isTop
  rw [zin_nI hx (by decide), zg_t, nI_clamp (by omega)]
  by_cases q : m.1 100 x = nI x
  · simp [q]
  · simp [q]
theorem isJoined_eq {m : zM} {a b : Nat} {w : Int32} (ha : a < 64) (hb : b < 64) (h1 : m.1 73 a = D a) (h2 : m.1 73 b = D b) : f_X12_isJoined (nI a) (nI b) w m = some (!decide (w ≤ -268435456) && !decide (100 * w < m.1 80 2 * mnI (D a) (D b))) := by
  unfold f_X12_isJoined
  rw [zin_nI ha (by decide), zin_nI hb (by decide)]
  simp only [zg_t, nI_clamp (show a < 2 ^ 31 by omega), nI_clamp (show b < 2 ^ 31 by omega), h1, h2, lesser_eq, Option.bind_some]
  by_cases q : w ≤ -268435456
  · simp [q]
  · by_cases q2 : 100 * w < m.1 80 2 * mnI (D a) (D b)
    · simp [q, q2]
    · simp [q, q2]
theorem search_m {m : zM} {VC : Nat → Nat → Int32} (hw : m.1 68 2 = nI W) (hh : m.1 68 3 = nI H) (w3 : 3 ≤ W) (w8 : W ≤ 8) (h3 : 3 ≤ H) (h8 : H ≤ 8) (hD : ∀ k, k < W * H → m.1 73 k = D k) (hpass : ∀ a b, a < b → b < W * H → m.1 100 a = nI a → m.1 100 b = nI b → ∃ w, f_X12_passOf (nI a) (nI b) m = some w ∧ (VC a b = -1 → w = -268435456) ∧ (¬ VC a b = -1 → w = VC a b ∧ -1 < w)) :
    ∃ r, zloop (b_X12_joinOnce_11 m) zFU (-1, -1, -268435456, 0) = some ((eM VC r).1, (eM VC r).2.1) ∧ BstO (CM m D VC (W * H)) VC (fun _ _ => True) r := by
  have h64 : W * H ≤ 64 := Nat.mul_le_mul w8 h8
  have key : ∃ x, zloop (b_X12_joinOnce_11 m) zFU (-1, -1, -268435456, 0) = some x ∧ ∃ r, x = ((eM VC r).1, (eM VC r).2.1) ∧ BstO (CM m D VC (W * H)) VC (fun _ _ => True) r := by
    refine zforQ (fun i st => ∃ r, st = ((eM VC r).1, (eM VC r).2.1, (eM VC r).2.2, nI i) ∧ BstO (CM m D VC (W * H)) VC (fun a _ => a < i) r) (W * H) _ ⟨none, rfl, fun a b h => by omega⟩ ?_ ?_ (by omega)
    · rintro i _ hi ⟨r, rfl, hr⟩
      unfold b_X12_joinOnce_11 j_X12_joinOnce_103
      rw [cells_eq hw hh]
      simp only [Option.bind_some, nI_ge hi (show W * H < 2 ^ 31 by omega), if_false, nI_1]
      have inner : ∃ x, zloop (b_X12_joinOnce_26 (nI i) m) zFU ((eM VC r).1, (eM VC r).2.1, (eM VC r).2.2, nI (i + 1)) = some x ∧ ∃ r, x = eM VC r ∧ BstO (CM m D VC (W * H)) VC (fun a _ => a < i + 1) r := by
        by_cases htop : m.1 100 i = nI i
        case neg =>
          by_cases hlast : i + 1 < W * H
          · refine ⟨_, zloop_0 (r := eM VC r) ?_, r, rfl, hr.congr fun a b hc => ?_⟩
            · unfold b_X12_joinOnce_26
              rw [cells_eq hw hh]
              simp only [Option.bind_some, nI_ge hlast (show W * H < 2 ^ 31 by omega), if_false, isTop_eq (show i < 64 by omega), htop, decide_false, bi_f, if_true]
            · have := hc.2.2.1
              have : a ≠ i := fun z => htop (by rw [z] at this; exact this)
              constructor <;> intro _ <;> omega
          · refine ⟨_, zloop_0 (r := eM VC r) ?_, r, rfl, hr.congr fun a b hc => ?_⟩
            · unfold b_X12_joinOnce_26
              rw [cells_eq hw hh]
              simp only [Option.bind_some, nI_le (show W * H ≤ i + 1 by omega) (show i + 1 < 2 ^ 31 by omega), if_true]
            · have := hc.2.2.1
              have : a ≠ i := fun z => htop (by rw [z] at this; exact this)
              constructor <;> intro _ <;> omega
        refine zforQ (fun d st => ∃ r, st = ((eM VC r).1, (eM VC r).2.1, (eM VC r).2.2, nI (i + 1 + d)) ∧ BstO (CM m D VC (W * H)) VC (fun a b => a < i ∨ (a = i ∧ b < i + 1 + d)) r) (W * H - (i + 1)) _ ⟨r, rfl, hr.congr fun a b hc => ?_⟩ ?_ ?_ (by omega)
        · have := hc.1
          constructor
          · rintro (q | ⟨q1, q2⟩)
            · exact q
            · omega
          · exact Or.inl
        · rintro d _ hd ⟨r, rfl, hr⟩
          have hj : i + 1 + d < W * H := by omega
          have hV : ∀ a b, CM m D VC (W * H) a b → ((a < i ∨ (a = i ∧ b < i + 1 + (d + 1))) ↔ (a < i ∨ (a = i ∧ b < i + 1 + d)) ∨ (a = i ∧ b = i + 1 + d)) := by
            intro a b _
            constructor
            · rintro (q | ⟨q1, q2⟩)
              · exact Or.inl (Or.inl q)
              · by_cases e : b = i + 1 + d
                · exact Or.inr ⟨q1, e⟩
                · exact Or.inl (Or.inr ⟨q1, by omega⟩)
            · rintro ((q | ⟨q1, q2⟩) | ⟨q1, q2⟩)
              · exact Or.inl q
              · exact Or.inr ⟨q1, by omega⟩
              · exact Or.inr ⟨q1, by omega⟩
          unfold b_X12_joinOnce_26
          rw [cells_eq hw hh]
          simp only [Option.bind_some, nI_ge hj (show W * H < 2 ^ 31 by omega), if_false, isTop_eq (show i < 64 by omega), isTop_eq (show i + 1 + d < 64 by omega), htop, decide_true, bi_t, show ¬ (1 : Int32) = 0 by decide]
          have keepS : ∀ (hB : BstO (CM m D VC (W * H)) VC (fun a b => a < i ∨ (a = i ∧ b < i + 1 + (d + 1))) r), ∃ s1, (some (.inl ((eM VC r).1, (eM VC r).2.1, (eM VC r).2.2, nI (i + 1 + d + 1))) : Option ((Int32 × Int32 × Int32 × Int32) ⊕ (Int32 × Int32 × Int32))) = some (.inl s1) ∧ ∃ r, s1 = ((eM VC r).1, (eM VC r).2.1, (eM VC r).2.2, nI (i + 1 + (d + 1))) ∧ BstO (CM m D VC (W * H)) VC (fun a b => a < i ∨ (a = i ∧ b < i + 1 + (d + 1))) r := fun hB => ⟨_, rfl, r, rfl, hB⟩
          by_cases htj : m.1 100 (i + 1 + d) = nI (i + 1 + d)
          case neg =>
            unfold j_X12_joinOnce_67 j_X12_joinOnce_97
            simp only [htj, decide_false, bi_f, if_true, isJoined_eq (D := D) (show i < 64 by omega) (show i + 1 + d < 64 by omega) (hD i hi) (hD _ hj), Option.bind_some, Int32.le_refl, decide_true, Bool.not_true, Bool.false_and, nI_1]
            exact keepS (hr.skip hV fun hc => htj hc.2.2.2.1)
          obtain ⟨w, hw1, hw2, hw3⟩ := hpass i (i + 1 + d) (by omega) hj htop htj
          simp only [htj, decide_true, bi_t, show ¬ (1 : Int32) = 0 by decide, if_false, hw1, Option.bind_some]
          unfold j_X12_joinOnce_67 j_X12_joinOnce_97
          simp only [isJoined_eq (D := D) (show i < 64 by omega) (show i + 1 + d < 64 by omega) (hD i hi) (hD _ hj), Option.bind_some, nI_1]
          by_cases hvc : VC i (i + 1 + d) = -1
          · rw [hw2 hvc]
            simp only [Int32.le_refl, decide_true, Bool.not_true, Bool.false_and, bi_f, if_true]
            exact keepS (hr.skip hV fun hc => hc.2.2.2.2.1 hvc)
          · obtain ⟨hw4, hw5⟩ := hw3 hvc
            subst hw4
            have hlo : ¬ VC i (i + 1 + d) ≤ -268435456 := by
              rw [lt32] at hw5
              rw [le32]
              have e1 : (-1 : Int32).toInt = -1 := by decide
              have e2 : (-268435456 : Int32).toInt = -268435456 := by decide
              omega
            simp only [hlo, decide_false, Bool.not_false, Bool.true_and]
            by_cases hj2 : 100 * VC i (i + 1 + d) < m.1 80 2 * mnI (D i) (D (i + 1 + d))
            · simp only [hj2, decide_true, Bool.not_true, bi_f, if_true]
              exact keepS (hr.skip hV fun hc => hc.2.2.2.2.2 hj2)
            · simp only [hj2, decide_false, Bool.not_false, bi_t, show ¬ (1 : Int32) = 0 by decide, if_false]
              have hC : CM m D VC (W * H) i (i + 1 + d) := ⟨by omega, hj, htop, htj, hvc, hj2⟩
              cases r with
              | none =>
                rw [show (eM VC none).2.2 = -268435456 from rfl, if_neg hlo]
                exact ⟨_, rfl, some (i, i + 1 + d), rfl, hr.take hV hC (fun a b z => by cases z)⟩
              | some x =>
                obtain ⟨a, b⟩ := x
                by_cases hle : VC i (i + 1 + d) ≤ VC a b
                · rw [show (eM VC (some (a, b))).2.2 = VC a b from rfl, if_pos hle]
                  refine keepS (hr.keep hV ?_ hle)
                  rcases hr.2.1 with q | ⟨q1, q2⟩
                  · exact Or.inl q
                  · exact Or.inr ⟨q1, by omega⟩
                · rw [show (eM VC (some (a, b))).2.2 = VC a b from rfl, if_neg hle]
                  refine ⟨_, rfl, some (i, i + 1 + d), rfl, hr.take hV hC (fun a' b' z => ?_)⟩
                  injection z with z
                  obtain ⟨rfl, rfl⟩ := Prod.mk.inj z
                  exact Int32.not_le.mp hle
        · rintro _ ⟨r, rfl, hr⟩
          refine ⟨_, ?_, r, rfl, hr.congr fun a b hc => ?_⟩
          · unfold b_X12_joinOnce_26
            rw [cells_eq hw hh]
            simp only [Option.bind_some, nI_le (show W * H ≤ i + 1 + (W * H - (i + 1)) by omega) (show i + 1 + (W * H - (i + 1)) < 2 ^ 31 by omega), if_true]
          · have := hc.2.1
            constructor
            · intro q
              by_cases e : a = i
              · exact Or.inr ⟨e, by omega⟩
              · exact Or.inl (by omega)
            · rintro (q | ⟨q, _⟩) <;> omega
      obtain ⟨x, i1, r', rfl, hr'⟩ := inner
      rw [i1]
      exact ⟨_, rfl, r', rfl, hr'⟩
    · rintro _ ⟨r, rfl, hr⟩
      refine ⟨_, ?_, r, rfl, hr.congr fun a b hc => ?_⟩
      · unfold b_X12_joinOnce_11
        rw [cells_eq hw hh]
        simp only [Option.bind_some, nI_le (Nat.le_refl (W * H)) (show W * H < 2 ^ 31 by omega), if_true]
      · have := hc.1
        have := hc.2.1
        exact ⟨fun _ => by omega, fun _ => trivial⟩
  obtain ⟨x, e, r, rfl, hr⟩ := key
  exact ⟨r, e, hr⟩
/-! the model joins -/
theorem join_m {m : zM} (a b kp : Int32) (hw : m.1 68 2 = nI W) (hh : m.1 68 3 = nI H) (w8 : W ≤ 8) (h8 : H ≤ 8) : ∃ m', j_X12_joinOnce_136 a b kp m = some (true, m') ∧ Fr [100] m m' ∧ ∀ k, k < W * H → m'.1 100 k = if m.1 100 k = a ∨ m.1 100 k = b then kp else m.1 100 k := by
  have h64 : W * H ≤ 64 := Nat.mul_le_mul w8 h8
  unfold j_X12_joinOnce_136
  have key : ∃ m', zloop (b_X12_joinOnce_141 a b kp) zFU (0, m) = some m' ∧ Fr [100] m m' ∧ ∀ k, k < W * H → m'.1 100 k = if m.1 100 k = a ∨ m.1 100 k = b then kp else m.1 100 k := by
    refine zforQ (fun i s => s.1 = nI i ∧ Fr [100] m s.2 ∧ (∀ k, k < i → s.2.1 100 k = if m.1 100 k = a ∨ m.1 100 k = b then kp else m.1 100 k) ∧ ∀ k, i ≤ k → s.2.1 100 k = m.1 100 k) (W * H) _ ⟨rfl, Fr.refl, fun k hk => by omega, fun k _ => rfl⟩ ?_ ?_ (by omega)
    · rintro i ⟨y, w⟩ hi ⟨rfl, f1, f2, f3⟩
      simp only at f1 f2 f3
      have e68 := f1.2 68 (by decide)
      have ew : w.1 68 2 = nI W := by rw [e68, hw]
      have eh : w.1 68 3 = nI H := by rw [e68, hh]
      have fin : ∀ v, v = (if m.1 100 i = a ∨ m.1 100 i = b then kp else m.1 100 i) → ∃ s1, (some (.inl (nI (i + 1), zi w 100 i v)) : Option ((Int32 × zM) ⊕ zM)) = some (.inl s1) ∧ s1.1 = nI (i + 1) ∧ Fr [100] m s1.2 ∧ (∀ k, k < i + 1 → s1.2.1 100 k = if m.1 100 k = a ∨ m.1 100 k = b then kp else m.1 100 k) ∧ ∀ k, i + 1 ≤ k → s1.2.1 100 k = m.1 100 k := by
        intro v hv
        refine ⟨_, rfl, rfl, f1.st (by decide), fun k hk => ?_, fun k hk => ?_⟩
        · by_cases hk2 : k = i
          · subst hk2
            simp only [ziE]
            exact hv
          · simp only [ziN hk2]
            exact f2 k (by omega)
        · simp only [ziN (show k ≠ i by omega)]
          exact f3 k (by omega)
      unfold b_X12_joinOnce_141 j_X12_joinOnce_178 j_X12_joinOnce_190
      rw [cells_eq ew eh]
      simp only [Option.bind_some, nI_ge hi (show W * H < 2 ^ 31 by omega), if_false, zin_nI (show i < 64 by omega) (show 64 < 2 ^ 31 by decide), zg_t, nI_clamp (show i < 2 ^ 31 by omega), f3 i (Nat.le_refl _), nI_1]
      by_cases q1 : m.1 100 i = a
      · rw [if_pos q1]
        exact fin _ (by rw [if_pos (Or.inl q1)])
      · rw [if_neg q1]
        by_cases q2 : m.1 100 i = b
        · rw [if_pos q2]
          exact fin _ (by rw [if_pos (Or.inr q2)])
        · rw [if_neg q2]
          exact fin _ (by rw [if_neg (fun z => z.elim q1 q2)])
    · rintro ⟨y, w⟩ ⟨rfl, f1, f2, f3⟩
      simp only at f1 f2 f3
      have e68 := f1.2 68 (by decide)
      have ew : w.1 68 2 = nI W := by rw [e68, hw]
      have eh : w.1 68 3 = nI H := by rw [e68, hh]
      refine ⟨w, ?_, f1, f2⟩
      unfold b_X12_joinOnce_141
      rw [cells_eq ew eh]
      simp only [Option.bind_some, nI_le (Nat.le_refl (W * H)) (show W * H < 2 ^ 31 by omega), if_true]
  obtain ⟨m', e, q⟩ := key
  exact ⟨m', by rw [e]; rfl, q⟩
/-! the class merges -/
theorem merge_c {m : zM} {n s kp gn : Nat} (h14 : m.1 14 2 = nI n) (h64 : n ≤ 64) (h38 : m.1 38 4 = nI s) (hs : s ≤ 16) (hk : kp < s) (hg : gn < s) (hkg : kp ≠ gn) : ∃ m', f_X3_merge (nI kp) (nI gn) m = some m' ∧ Fr [40, 41, 43] m m' ∧ (∀ j, m'.1 40 j = if j = gn then 0 else m.1 40 j) ∧ (∀ k, k < n → m'.1 41 k = if m.1 41 k = nI gn then nI kp else m.1 41 k) ∧
    (∀ j, j < s → j ≠ kp → j ≠ gn → m'.1 43 (16 * kp + j) = mxI (m.1 43 (16 * kp + j)) (m.1 43 (16 * gn + j)) ∧ m'.1 43 (16 * j + kp) = mxI (m.1 43 (16 * j + kp)) (m.1 43 (16 * gn + j))) ∧ ∀ i j, i < 16 → j < 16 → i ≠ kp → j ≠ kp → m'.1 43 (16 * i + j) = m.1 43 (16 * i + j) := by
  unfold f_X3_merge
  rw [zin_nI (show gn < 16 by omega) (by decide), zg_t, nI_clamp (by omega)]
  have one : ∃ m1, zloop (b_X3_merge_9 (nI kp) (nI gn)) zFU (0, zi m 40 gn 0) = some m1 ∧ Fr [40, 43] m m1 ∧ (∀ j, m1.1 40 j = if j = gn then 0 else m.1 40 j) ∧
      (∀ j, j < s → j ≠ kp → j ≠ gn → m1.1 43 (16 * kp + j) = mxI (m.1 43 (16 * kp + j)) (m.1 43 (16 * gn + j)) ∧ m1.1 43 (16 * j + kp) = mxI (m.1 43 (16 * j + kp)) (m.1 43 (16 * gn + j))) ∧ ∀ i j, i < 16 → j < 16 → i ≠ kp → j ≠ kp → m1.1 43 (16 * i + j) = m.1 43 (16 * i + j) := by
    refine zforQ (fun t st => st.1 = nI t ∧ Fr [40, 43] m st.2 ∧ (∀ j, st.2.1 40 j = if j = gn then 0 else m.1 40 j) ∧ (∀ j, j < s → j ≠ kp → j ≠ gn → (st.2.1 43 (16 * kp + j) = if j < t then mxI (m.1 43 (16 * kp + j)) (m.1 43 (16 * gn + j)) else m.1 43 (16 * kp + j)) ∧ st.2.1 43 (16 * j + kp) = if j < t then mxI (m.1 43 (16 * j + kp)) (m.1 43 (16 * gn + j)) else m.1 43 (16 * j + kp)) ∧ ∀ i j, i < 16 → j < 16 → i ≠ kp → j ≠ kp → st.2.1 43 (16 * i + j) = m.1 43 (16 * i + j)) s _ ⟨rfl, Fr.refl.st (by decide), fun j => ziA, fun j _ _ _ => by simp [zi], fun i j _ _ _ _ => by simp [zi]⟩ ?_ ?_ (by omega)
    · rintro t ⟨y, w⟩ ht ⟨rfl, f1, f2, f3, f4⟩
      simp only at f1 f2 f3 f4
      have e38 := f1.2 38 (by decide)
      have e16 : (16 : Int32) * nI gn + nI t = nI (16 * gn + t) := by rw [show (16 : Int32) = nI 16 from rfl, pk_mul, nI_add]
      unfold b_X3_merge_9
      simp only [e38, h38, nI_ge ht (show s < 2 ^ 31 by omega), if_false, e16, zin_nI (show 16 * gn + t < 256 by omega) (show 256 < 2 ^ 31 by decide), zg_t, nI_clamp (show 16 * gn + t < 2 ^ 31 by omega), raise_eq (show kp < 16 by omega) (show t < 16 by omega), raise_eq (show t < 16 by omega) (show kp < 16 by omega), Option.bind_some, nI_1]
      refine ⟨_, rfl, rfl, (f1.st (by decide)).st (by decide), fun j => ?_, fun j hj h1 h2 => ?_, fun i j hi hj h1 h2 => ?_⟩
      · simp only [ziO (show (40 : Nat) ≠ 43 by decide)]
        exact f2 j
      · by_cases hjt : j = t
        · subst hjt
          have a := f3 j hj h1 h2
          have b := f4 gn j (by omega) (by omega) (Ne.symm hkg) h1
          rw [if_neg (Nat.lt_irrefl j), if_neg (Nat.lt_irrefl j)] at a
          simp only [show j < j + 1 by omega, if_true]
          constructor
          · rw [ziN (show 16 * kp + j ≠ 16 * j + kp by omega), ziE, a.1, b]
          · rw [ziE, ziN (show 16 * j + kp ≠ 16 * kp + j by omega), a.2, b]
        · have a := f3 j hj h1 h2
          have e : (j < t + 1) = (j < t) := propext ⟨fun _ => by omega, fun _ => by omega⟩
          simp only [e]
          constructor
          · rw [ziN (show 16 * kp + j ≠ 16 * t + kp by omega), ziN (show 16 * kp + j ≠ 16 * kp + t by omega)]
            exact a.1
          · rw [ziN (show 16 * j + kp ≠ 16 * t + kp by omega), ziN (show 16 * j + kp ≠ 16 * kp + t by omega)]
            exact a.2
      · simp only
        rw [ziN (show 16 * i + j ≠ 16 * t + kp by omega), ziN (show 16 * i + j ≠ 16 * kp + t by omega)]
        exact f4 i j hi hj h1 h2
    · rintro ⟨y, w⟩ ⟨rfl, f1, f2, f3, f4⟩
      simp only at f1 f2 f3 f4
      have e38 := f1.2 38 (by decide)
      refine ⟨w, ?_, f1, f2, fun j hj h1 h2 => ?_, f4⟩
      · unfold b_X3_merge_9
        simp only [e38, h38, nI_le (Nat.le_refl s) (show s < 2 ^ 31 by omega), if_true]
      · have a := f3 j hj h1 h2
        rw [if_pos hj, if_pos hj] at a
        exact a
  obtain ⟨m1, a1, a2, a3, a4, a5⟩ := one
  rw [a1]
  simp only [Option.bind_some]
  have b41 := a2.2 41 (by decide)
  have b14 := a2.2 14 (by decide)
  have two : ∃ m2, zloop (b_X3_merge_54 (nI kp) (nI gn)) zFU (0, m1) = some m2 ∧ Fr [41] m1 m2 ∧ ∀ k, k < n → m2.1 41 k = if m.1 41 k = nI gn then nI kp else m.1 41 k := by
    refine zforQ (fun i st => st.1 = nI i ∧ Fr [41] m1 st.2 ∧ (∀ k, k < i → st.2.1 41 k = if m.1 41 k = nI gn then nI kp else m.1 41 k) ∧ ∀ k, i ≤ k → st.2.1 41 k = m.1 41 k) n _ ⟨rfl, Fr.refl, fun k hk => by omega, fun k _ => by simp only; rw [b41]⟩ ?_ ?_ (by omega)
    · rintro i ⟨y, w⟩ hi ⟨rfl, f1, f2, f3⟩
      simp only at f1 f2 f3
      have e14 := f1.2 14 (by decide)
      unfold b_X3_merge_54 j_X3_merge_82
      simp only [e14, b14, h14, nI_ge hi (show n < 2 ^ 31 by omega), if_false, zin_nI (show i < 64 by omega) (show 64 < 2 ^ 31 by decide), zg_t, nI_clamp (show i < 2 ^ 31 by omega), f3 i (Nat.le_refl _), nI_1]
      by_cases q : m.1 41 i = nI gn
      · rw [if_pos q]
        refine ⟨_, rfl, rfl, f1.st (by decide), fun k hk => ?_, fun k hk => ?_⟩
        · by_cases hk2 : k = i
          · subst hk2
            simp only [ziE, q, if_true]
          · simp only [ziN hk2]
            exact f2 k (by omega)
        · simp only [ziN (show k ≠ i by omega)]
          exact f3 k (by omega)
      · rw [if_neg q]
        refine ⟨_, rfl, rfl, f1, fun k hk => ?_, fun k hk => f3 k (by omega)⟩
        by_cases hk2 : k = i
        · subst hk2
          rw [if_neg q]
          exact f3 k (Nat.le_refl _)
        · exact f2 k (by omega)
    · rintro ⟨y, w⟩ ⟨rfl, f1, f2, f3⟩
      simp only at f1 f2 f3
      have e14 := f1.2 14 (by decide)
      refine ⟨w, ?_, f1, f2⟩
      unfold b_X3_merge_54
      simp only [e14, b14, h14, nI_le (Nat.le_refl n) (show n < 2 ^ 31 by omega), if_true]
  obtain ⟨m2, c1, c2, c3⟩ := two
  rw [c1]
  have d40 := c2.2 40 (by decide)
  have d43 := c2.2 43 (by decide)
  refine ⟨m2, rfl, (a2.wide (by decide)).trans (c2.wide (by decide)), ?_, c3, ?_, ?_⟩
  · rw [d40]; exact a3
  · rw [d43]; exact a4
  · rw [d43]; exact a5
end SRM
