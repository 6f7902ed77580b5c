/-! ===== the page: the class's reader beside the model's road ===== -/
abbrev zH := (Nat → Int32) × (Nat → Int32) × (Nat → Int32) × (Nat → Int32)
def hup (g : Nat → Int32) (k : Nat) (x : Int32) : Nat → Int32 := fun j => if j = k then x else g j
def hput (h : zH) (k : Nat) (u v p : Int32) : zH := (hup h.1 k 1, hup h.2.1 k u, hup h.2.2.1 k v, hup h.2.2.2 k p)
def hoff (h : zH) (k : Nat) : zH := (hup h.1 k 0, h.2)
theorem hup_self {g : Nat → Int32} {k : Nat} {x : Int32} (h : x = g k) : hup g k x = g := by
  funext j
  unfold hup
  by_cases e : j = k
  · subst e; simp [h]
  · simp [e]
def CK (m : zM) (a : Int32) (h : zH) : zM := (fun x y => if x = 1 then (if y = 3 then a else m.1 1 y) else if x = 4 then h.1 y else if x = 5 then h.2.1 y else if x = 6 then h.2.2.1 y else if x = 7 then h.2.2.2 y else m.1 x y, m.2)
def MK (m : zM) (a b c d e f : Int32) (h : zH) : zM := (fun x y => if x = 68 then (if y = 47 then a else if y = 48 then b else if y = 49 then c else if y = 50 then d else if y = 51 then e else if y = 52 then f else m.1 68 y) else if x = 75 then h.1 y else if x = 76 then h.2.1 y else if x = 77 then h.2.2.1 y else if x = 78 then h.2.2.2 y else m.1 x y, m.2)
theorem CK_at {m : zM} {a b : Int32} {h : zH} : zi (CK m a h) 1 3 b = CK m b h := by
  refine Prod.ext (funext fun x => funext fun y => ?_) rfl
  simp only [zi, CK]
  by_cases h1 : x = 1
  · subst h1; by_cases h2 : y = 3 <;> simp [h2]
  · simp [h1]
theorem CK_off {m : zM} {a : Int32} {h : zH} {k : Nat} : zi (CK m a h) 4 k 0 = CK m a (hoff h k) := by
  refine Prod.ext (funext fun x => funext fun y => ?_) rfl
  simp only [zi, CK, hoff, hup]
  by_cases h1 : x = 4
  · subst h1; by_cases h2 : y = k <;> simp [h2]
  · simp [h1]
theorem CK_put {m : zM} {a u v p : Int32} {h : zH} {k : Nat} : zi (zi (zi (zi (CK m a h) 4 k 1) 5 k u) 6 k v) 7 k p = CK m a (hput h k u v p) := by
  refine Prod.ext (funext fun x => funext fun y => ?_) rfl
  simp only [zi, CK, hput, hup]
  by_cases h1 : x = 1
  · subst h1; simp
  · by_cases h4 : x = 4
    · subst h4; by_cases h2 : y = k <;> simp [h2]
    · by_cases h5 : x = 5
      · subst h5; by_cases h2 : y = k <;> simp [h2]
      · by_cases h6 : x = 6
        · subst h6; by_cases h2 : y = k <;> simp [h2]
        · by_cases h7 : x = 7
          · subst h7; by_cases h2 : y = k <;> simp [h2]
          · simp [h1, h4, h5, h6, h7]
theorem MK_47 {m : zM} {a b c d e f x : Int32} {h : zH} : zi (MK m a b c d e f h) 68 47 x = MK m x b c d e f h := by
  refine Prod.ext (funext fun p => funext fun y => ?_) rfl
  simp only [zi, MK]
  by_cases h1 : p = 68
  · subst h1; by_cases h2 : y = 47 <;> simp [h2]
  · simp [h1]
theorem MK_48 {m : zM} {a b c d e f x : Int32} {h : zH} : zi (MK m a b c d e f h) 68 48 x = MK m a x c d e f h := by
  refine Prod.ext (funext fun p => funext fun y => ?_) rfl
  simp only [zi, MK]
  by_cases h1 : p = 68
  · subst h1; by_cases h2 : y = 48 <;> simp [h2]
  · simp [h1]
theorem MK_49 {m : zM} {a b c d e f x : Int32} {h : zH} : zi (MK m a b c d e f h) 68 49 x = MK m a b x d e f h := by
  refine Prod.ext (funext fun p => funext fun y => ?_) rfl
  simp only [zi, MK]
  by_cases h1 : p = 68
  · subst h1; by_cases h2 : y = 49 <;> simp [h2]
  · simp [h1]
theorem MK_50 {m : zM} {a b c d e f x : Int32} {h : zH} : zi (MK m a b c d e f h) 68 50 x = MK m a b c x e f h := by
  refine Prod.ext (funext fun p => funext fun y => ?_) rfl
  simp only [zi, MK]
  by_cases h1 : p = 68
  · subst h1; by_cases h2 : y = 50 <;> simp [h2]
  · simp [h1]
theorem MK_51 {m : zM} {a b c d e f x : Int32} {h : zH} : zi (MK m a b c d e f h) 68 51 x = MK m a b c d x f h := by
  refine Prod.ext (funext fun p => funext fun y => ?_) rfl
  simp only [zi, MK]
  by_cases h1 : p = 68
  · subst h1; by_cases h2 : y = 51 <;> simp [h2]
  · simp [h1]
theorem MK_75 {m : zM} {a b c d e f x : Int32} {h : zH} {k : Nat} : zi (MK m a b c d e f h) 75 k x = MK m a b c d e f (hup h.1 k x, h.2) := by
  refine Prod.ext (funext fun p => funext fun y => ?_) rfl
  simp only [zi, MK, hup]
  by_cases h1 : p = 75
  · subst h1; by_cases h2 : y = k <;> simp [h2]
  · simp [h1]
theorem MK_put {m : zM} {a b c d e f u v x : Int32} {h : zH} {k : Nat} : zi (zi (zi (zi (MK m a b c d e f h) 75 k 1) 76 k u) 77 k v) 78 k x = MK m a b c d e f (hput h k u v x) := by
  refine Prod.ext (funext fun p => funext fun y => ?_) rfl
  simp only [zi, MK, hput, hup]
  by_cases h1 : p = 68
  · subst h1; simp
  · by_cases h4 : p = 75
    · subst h4; by_cases h2 : y = k <;> simp [h2]
    · by_cases h5 : p = 76
      · subst h5; by_cases h2 : y = k <;> simp [h2]
      · by_cases h6 : p = 77
        · subst h6; by_cases h2 : y = k <;> simp [h2]
        · by_cases h7 : p = 78
          · subst h7; by_cases h2 : y = k <;> simp [h2]
          · simp [h1, h4, h5, h6, h7]
section MKF
variable {m : zM} {a b c d e f : Int32} {h : zH}
theorem MK47 : (MK m a b c d e f h).1 68 47 = a := rfl
theorem MK48 : (MK m a b c d e f h).1 68 48 = b := rfl
theorem MK49 : (MK m a b c d e f h).1 68 49 = c := rfl
theorem MK50 : (MK m a b c d e f h).1 68 50 = d := rfl
theorem MK51 : (MK m a b c d e f h).1 68 51 = e := rfl
theorem MK52 : (MK m a b c d e f h).1 68 52 = f := rfl
theorem MKn : (MK m a b c d e f h).1 68 0 = m.1 68 0 := rfl
theorem MKW : (MK m a b c d e f h).1 68 2 = m.1 68 2 := rfl
theorem MKH : (MK m a b c d e f h).1 68 3 = m.1 68 3 := rfl
theorem MK69 : (MK m a b c d e f h).1 69 = m.1 69 := rfl
theorem MK75 : (MK m a b c d e f h).1 75 = h.1 := rfl
/-! the model's road, step by step -/
theorem goes_t {x : Int32} : f_X12_goes 1 x (MK m a b c d e f h) = some (true, MK m x (-1) c d e f h) := by
  unfold f_X12_goes j_X12_goes_13 j_X12_goes_29
  simp only [show ¬ (1 : Int32) = 0 by decide, if_false, MK_47, MK_48, show zb (1 : Int32) = true by decide, zg_t, decide_true]
theorem goes_f {x : Int32} : f_X12_goes 0 x (MK m a b c d e f h) = some (false, MK m a b c d e f h) := by
  unfold f_X12_goes j_X12_goes_13 j_X12_goes_29
  simp only [if_true, MK47, MK48, MK_47, MK_48, show zb (0 : Int32) = true by decide, zg_t, show decide ((0 : Int32) = 1) = false by decide]
theorem tk0_t {x : Int32} (hx : 48 ≤ x ∧ x ≤ 52) : f_X12_takes x (MK m 0 b c d e f h) = some (true, MK m 1 (-1) (x - 48) d e f h) := by
  unfold f_X12_takes f_X12_takesDigit
  simp only [MK47, if_true, w12, hx, and_self, decide_true, bi_t, Option.bind_some, MK_49, goes_t]
theorem tk0_f {x : Int32} (hx : ¬ (48 ≤ x ∧ x ≤ 52)) : f_X12_takes x (MK m 0 b c d e f h) = some (false, MK m 0 b (x - 48) d e f h) := by
  unfold f_X12_takes f_X12_takesDigit
  simp only [MK47, if_true, w12, hx, decide_false, bi_f, Option.bind_some, MK_49, goes_f]
theorem tk1_off {k : Nat} (hk : k < 5) (h01 : h.1 k = 0 ∨ h.1 k = 1) (hf : f = 0 ∨ f = 1) : f_X12_takes 45 (MK m 1 b (nI k) d e f h) = some (true, MK m 2 (-1) (nI k) d e f (if f = 0 then h else hoff h k)) := by
  unfold f_X12_takes f_X12_takesKind j_X12_takesKind_37 j_X12_takesKind_38
  simp only [MK47, MK49, MK75, MK52, show ¬ (1 : Int32) = 0 by decide, if_true, if_false, zin_nI hk (show 5 < 2 ^ 31 by decide), zg_t, nI_clamp (show k < 2 ^ 31 by omega), MK_75, goes_t, Option.bind_some, show zb (1 : Int32) = true by decide, show zb (0 : Int32) = true by decide]
  rcases h01 with e | e
  · rcases hf with rfl | rfl
    · simp only [e, if_true]
      rw [hup_self e.symm]
      rfl
    · simp only [e, if_true, hoff, show ¬ (1 : Int32) = 0 by decide, if_false]
      rfl
  · rcases hf with rfl | rfl
    · simp only [e, if_true, show ¬ (1 : Int32) = 0 by decide, if_false]
      rw [hup_self e.symm]
      rfl
    · simp only [e, hoff, show ¬ (1 : Int32) = 0 by decide, if_false]
      rfl
theorem tk1_at : f_X12_takes 64 (MK m 1 b c d e f h) = some (true, MK m 3 (-1) c d e f h) := by
  unfold f_X12_takes f_X12_takesKind j_X12_takesKind_58
  simp only [MK47, show ¬ (1 : Int32) = 0 by decide, show ¬ (64 : Int32) = 45 by decide, if_true, if_false, goes_t, Option.bind_some]
theorem tk1_f {x : Int32} (h1 : ¬ x = 45) (h2 : ¬ x = 64) : f_X12_takes x (MK m 1 b c d e f h) = some (false, MK m 1 b c d e f h) := by
  unfold f_X12_takes f_X12_takesKind j_X12_takesKind_58
  simp only [MK47, show ¬ (1 : Int32) = 0 by decide, h1, h2, if_true, if_false, goes_f, Option.bind_some]
theorem tk2_t : f_X12_takes 59 (MK m 2 b c d e f h) = some (true, MK m 0 (-1) c d e f h) := by
  unfold f_X12_takes j_X12_takes_56
  simp only [MK47, show ¬ (2 : Int32) = 0 by decide, show ¬ (2 : Int32) = 1 by decide, if_true, if_false, goes_t, Option.bind_some]
theorem tk2_f {x : Int32} (h1 : ¬ x = 59) : f_X12_takes x (MK m 2 b c d e f h) = some (false, MK m 2 b c d e f h) := by
  unfold f_X12_takes j_X12_takes_56
  simp only [MK47, show ¬ (2 : Int32) = 0 by decide, show ¬ (2 : Int32) = 1 by decide, h1, if_true, if_false, goes_f, Option.bind_some]
def nxt (v c : Int32) : Int32 := if v = -1 then c - 48 else 10 * v + (c - 48)
theorem tkfig {s x M : Int32} (hs : s = 3 ∨ s = 4 ∨ s = 5) (hM : f_X12_mostNow (MK m s b c d e f h) = some M) (hx : 48 ≤ x ∧ x ≤ 57) : f_X12_takes x (MK m s b c d e f h) = if b = 0 ∨ M < nxt b x then some (false, MK m s b c d e f h) else some (true, MK m s (nxt b x) c d e f h) := by
  have s0 : ¬ s = 0 := by rcases hs with rfl | rfl | rfl <;> decide
  have s1 : ¬ s = 1 := by rcases hs with rfl | rfl | rfl <;> decide
  have s2 : ¬ s = 2 := by rcases hs with rfl | rfl | rfl <;> decide
  have key : ∀ y, ((j_X12_takesFigure_21 y (MK m s b c d e f h)).bind fun r6 => some (r6.1, r6.2)) = if b = 0 ∨ M < y then some (false, MK m s b c d e f h) else some (true, MK m s y c d e f h) := by
    intro y
    unfold j_X12_takesFigure_21 j_X12_takesFigure_41 j_X12_takesFigure_42 j_X12_takesFigure_56
    simp only [MK48, hM, Option.bind_some, MK_48, if_true, show zb (0 : Int32) = true by decide, show zb (1 : Int32) = true by decide, zg_t, show ¬ (1 : Int32) = 0 by decide, if_false, show decide ((0 : Int32) = 1) = false by decide, decide_true]
    by_cases h1 : b = 0
    · simp [h1]
    · by_cases h2 : M < y
      · simp [h1, h2]
      · simp [h1, h2]
  unfold f_X12_takes f_X12_takesFigure nxt
  simp only [MK47, s0, s1, s2, if_false, w12, hx, and_self, decide_true, bi_t, Option.bind_some, show ¬ (1 : Int32) = 0 by decide, MK48]
  by_cases hb : b = -1
  · simp only [hb, if_true]
    rw [← hb]
    exact key _
  · simp only [hb, if_false]
    exact key _
theorem tk_nd {s x : Int32} (hs : s = 3 ∨ s = 4 ∨ s = 5) (hx : ¬ (48 ≤ x ∧ x ≤ 57)) : f_X12_takes x (MK m s b c d e f h) = f_X12_takesSign x (MK m s b c d e f h) := by
  have s0 : ¬ s = 0 := by rcases hs with rfl | rfl | rfl <;> decide
  have s1 : ¬ s = 1 := by rcases hs with rfl | rfl | rfl <;> decide
  have s2 : ¬ s = 2 := by rcases hs with rfl | rfl | rfl <;> decide
  unfold f_X12_takes
  simp only [MK47, s0, s1, s2, if_false, w12, hx, decide_false, bi_f, Option.bind_some, if_true]
  cases f_X12_takesSign x (MK m s b c d e f h) <;> rfl
theorem ts3_t (hb : ¬ b = -1) : f_X12_takesSign 44 (MK m 3 b c d e f h) = some (true, MK m 4 (-1) c b e f h) := by
  unfold f_X12_takesSign j_X12_takesSign_35
  simp only [MK47, MK48, MK_50, hb, if_true, if_false, goes_t, Option.bind_some]
theorem ts3_f {x : Int32} (hb : b = -1 ∨ ¬ x = 44) : f_X12_takesSign x (MK m 3 b c d e f h) = some (false, MK m 3 b c b e f h) := by
  unfold f_X12_takesSign j_X12_takesSign_34 j_X12_takesSign_35
  simp only [MK47, MK48, MK_50, if_true, goes_f, goes_t, Option.bind_some]
  rcases hb with e | e
  · simp [e]
  · simp [e]
theorem ts4_t (hb : ¬ b = -1) : f_X12_takesSign 42 (MK m 4 b c d e f h) = some (true, MK m 5 (-1) c d b f h) := by
  unfold f_X12_takesSign j_X12_takesSign_70
  simp only [MK47, MK48, MK_51, hb, show ¬ (4 : Int32) = 3 by decide, if_true, if_false, goes_t, Option.bind_some]
theorem ts4_f {x : Int32} (hb : b = -1 ∨ ¬ x = 42) : f_X12_takesSign x (MK m 4 b c d e f h) = some (false, MK m 4 b c d b f h) := by
  unfold f_X12_takesSign j_X12_takesSign_69 j_X12_takesSign_70
  simp only [MK47, MK48, MK_51, if_true, if_false, show ¬ (4 : Int32) = 3 by decide, goes_f, goes_t, Option.bind_some]
  rcases hb with e | e
  · simp [e]
  · simp [e]
theorem putOn_eq {x : Int32} {k : Nat} (hk : k < 5) : f_X12_putOn x (MK m a b (nI k) d e f h) = some (MK m a b (nI k) d e f (if f = 0 then h else hput h k d e x)) := by
  unfold f_X12_putOn
  simp only [MK52, MK49, MK50, MK51, zin_nI hk (show 5 < 2 ^ 31 by decide), zg_t, nI_clamp (show k < 2 ^ 31 by omega), MK_put]
  by_cases hf : f = 0
  · simp [hf]
  · simp [hf]
theorem ts5_t {k : Nat} (hk : k < 5) (hb : ¬ b < 10) : f_X12_takesSign 59 (MK m 5 b (nI k) d e f h) = some (true, MK m 0 (-1) (nI k) d e f (if f = 0 then h else hput h k d e b)) := by
  unfold f_X12_takesSign j_X12_takesSign_92 j_X12_takesSign_102
  simp only [MK47, MK48, hb, show ¬ (5 : Int32) = 3 by decide, show ¬ (5 : Int32) = 4 by decide, show ¬ (1 : Int32) = 0 by decide, if_true, if_false, putOn_eq hk, goes_t, Option.bind_some]
theorem ts5_f {x : Int32} (hb : b < 10 ∨ ¬ x = 59) : f_X12_takesSign x (MK m 5 b c d e f h) = some (false, MK m 5 b c d e f h) := by
  unfold f_X12_takesSign j_X12_takesSign_91 j_X12_takesSign_92 j_X12_takesSign_102
  simp only [MK47, MK48, if_true, if_false, show ¬ (5 : Int32) = 3 by decide, show ¬ (5 : Int32) = 4 by decide, goes_f, Option.bind_some]
  rcases hb with e | e
  · simp [e]
  · simp [e]
end MKF
/-! the model's loop -/
def Lp (n i : Nat) (s : zM) (r : Int32 × zM) : Prop := ∀ k, n - i < k → zloop b_X12_goAlong_17 k (nI i, s) = some r
theorem Lp_step {n i : Nat} {s s' : zM} {r : Int32 × zM} (h0 : s.1 68 0 = nI n) (hn : n ≤ 40) (hi : i < n) (ht : f_X12_takes (s.1 69 i) s = some (true, s')) (k : Lp n (i + 1) s' r) : Lp n i s r := by
  intro K hK
  obtain ⟨K', rfl⟩ : ∃ k, K = k + 1 := ⟨K - 1, by omega⟩
  rw [zloop_s (s1 := (nI (i + 1), s'))]
  · exact k K' (by omega)
  · unfold b_X12_goAlong_17
    simp only [h0, nI_ge hi (show n < 2 ^ 31 by omega), if_false, zin_nI (show i < 40 by omega) (show 40 < 2 ^ 31 by decide), zg_t, nI_clamp (show i < 2 ^ 31 by omega), ht, Option.bind_some, bi_t, show ¬ (1 : Int32) = 0 by decide, nI_1]
theorem Lp_stop {n i : Nat} {s s' : zM} (h0 : s.1 68 0 = nI n) (hn : n ≤ 40) (hi : i < n) (ht : f_X12_takes (s.1 69 i) s = some (false, s')) : Lp n i s (nI i, s') := by
  intro K hK
  obtain ⟨K', rfl⟩ : ∃ k, K = k + 1 := ⟨K - 1, by omega⟩
  refine zloop_0 ?_
  unfold b_X12_goAlong_17
  simp only [h0, nI_ge hi (show n < 2 ^ 31 by omega), if_false, zin_nI (show i < 40 by omega) (show 40 < 2 ^ 31 by decide), zg_t, nI_clamp (show i < 2 ^ 31 by omega), ht, Option.bind_some, bi_f, if_true]
theorem Lp_end {n : Nat} {s : zM} (h0 : s.1 68 0 = nI n) (hn : n ≤ 40) : Lp n n s (nI n, s) := by
  intro K hK
  obtain ⟨K', rfl⟩ : ∃ k, K = k + 1 := ⟨K - 1, by omega⟩
  refine zloop_0 ?_
  unfold b_X12_goAlong_17
  simp only [h0, nI_le (Nat.le_refl n) (show n < 2 ^ 31 by omega), if_true]
/-! the class's letters -/
def PH (mc mm : zM) (n W H : Nat) : Prop := mc.1 1 1 = nI n ∧ mc.1 2 = mm.1 69 ∧ mc.1 1 4 = nI (2 * W - 2) ∧ mc.1 1 5 = nI (2 * H - 2) ∧ mm.1 68 0 = nI n ∧ mm.1 68 2 = nI W ∧ mm.1 68 3 = nI H ∧ n ≤ 40 ∧ 3 ≤ W ∧ W ≤ 8 ∧ 3 ≤ H ∧ H ≤ 8
theorem PH.c11 {mc mm : zM} {n W H : Nat} (h : PH mc mm n W H) : mc.1 1 1 = nI n := h.1
theorem PH.c2 {mc mm : zM} {n W H : Nat} (h : PH mc mm n W H) : mc.1 2 = mm.1 69 := h.2.1
theorem PH.c14 {mc mm : zM} {n W H : Nat} (h : PH mc mm n W H) : mc.1 1 4 = nI (2 * W - 2) := h.2.2.1
theorem PH.c15 {mc mm : zM} {n W H : Nat} (h : PH mc mm n W H) : mc.1 1 5 = nI (2 * H - 2) := h.2.2.2.1
theorem PH.m0 {mc mm : zM} {n W H : Nat} (h : PH mc mm n W H) : mm.1 68 0 = nI n := h.2.2.2.2.1
theorem PH.mW {mc mm : zM} {n W H : Nat} (h : PH mc mm n W H) : mm.1 68 2 = nI W := h.2.2.2.2.2.1
theorem PH.mH {mc mm : zM} {n W H : Nat} (h : PH mc mm n W H) : mm.1 68 3 = nI H := h.2.2.2.2.2.2.1
theorem PH.hn {mc mm : zM} {n W H : Nat} (h : PH mc mm n W H) : n ≤ 40 := h.2.2.2.2.2.2.2.1
theorem PH.w3 {mc mm : zM} {n W H : Nat} (h : PH mc mm n W H) : 3 ≤ W := h.2.2.2.2.2.2.2.2.1
theorem PH.w8 {mc mm : zM} {n W H : Nat} (h : PH mc mm n W H) : W ≤ 8 := h.2.2.2.2.2.2.2.2.2.1
theorem PH.h3 {mc mm : zM} {n W H : Nat} (h : PH mc mm n W H) : 3 ≤ H := h.2.2.2.2.2.2.2.2.2.2.1
theorem PH.h8 {mc mm : zM} {n W H : Nat} (h : PH mc mm n W H) : H ≤ 8 := h.2.2.2.2.2.2.2.2.2.2.2
section PHS
variable {mc mm : zM} {n W H : Nat} {i : Nat} {h hc : zH}
theorem code_in (P : PH mc mm n W H) (hi : i < n) : f_X5_codeHere (CK mc (nI i) h) = some (mm.1 69 i) := by
  unfold f_X5_codeHere
  have e1 : (CK mc (nI i) h).1 1 1 = nI n := P.c11
  have e2 : (CK mc (nI i) h).1 1 3 = nI i := rfl
  have e3 : (CK mc (nI i) h).1 2 = mm.1 69 := P.c2
  have := P.hn
  rw [e1, e2, e3, if_neg (nI_ge hi (by omega)), zin_nI (show i < 40 by omega) (by decide), zg_t, nI_clamp (by omega)]
theorem code_out (P : PH mc mm n W H) : f_X5_codeHere (CK mc (nI n) h) = some (-1) := by
  unfold f_X5_codeHere
  have e1 : (CK mc (nI n) h).1 1 1 = nI n := P.c11
  have e2 : (CK mc (nI n) h).1 1 3 = nI n := rfl
  have := P.hn
  rw [e1, e2, if_pos (nI_le (Nat.le_refl n) (by omega))]
theorem digit_t (P : PH mc mm n W H) (hi : i < n) (hd : 48 ≤ mm.1 69 i ∧ mm.1 69 i ≤ 57) : f_X5_digitHere (CK mc (nI i) h) = some (mm.1 69 i - 48) := by
  unfold f_X5_digitHere
  simp only [code_in P hi, Option.bind_some, w11, hd, and_self, decide_true, bi_t, show ¬ (1 : Int32) = 0 by decide, if_false]
theorem digit_f (P : PH mc mm n W H) (hi : i ≤ n) (hd : i < n → ¬ (48 ≤ mm.1 69 i ∧ mm.1 69 i ≤ 57)) : f_X5_digitHere (CK mc (nI i) h) = some (-1) := by
  unfold f_X5_digitHere
  by_cases h1 : i < n
  · simp only [code_in P h1, Option.bind_some, w11, hd h1, decide_false, bi_f, if_true]
  · have : i = n := by omega
    subst this
    simp only [code_out P, Option.bind_some, w11, show ¬ ((48 : Int32) ≤ -1 ∧ (-1 : Int32) ≤ 57) by decide, decide_false, bi_f, if_true]
theorem take_t {x : Int32} (P : PH mc mm n W H) (hi : i < n) (hx : mm.1 69 i = x) : f_X5_take x (CK mc (nI i) h) = some (true, CK mc (nI (i + 1)) h) := by
  unfold f_X5_take
  have e2 : (CK mc (nI i) h).1 1 3 = nI i := rfl
  simp only [code_in P hi, Option.bind_some, hx, if_true, e2, nI_1, CK_at]
theorem take_f {x : Int32} (P : PH mc mm n W H) (hi : i ≤ n) (hx : i < n → ¬ mm.1 69 i = x) (h1 : ¬ (-1 : Int32) = x) : f_X5_take x (CK mc (nI i) h) = some (false, CK mc (nI i) h) := by
  unfold f_X5_take
  by_cases h2 : i < n
  · simp only [code_in P h2, Option.bind_some, hx h2, if_false]
  · have : i = n := by omega
    subst this
    simp only [code_out P, Option.bind_some, h1, if_false]
theorem dig_of {c : Int32} (h1 : 48 ≤ c ∧ c ≤ 57) : ∃ d : Nat, d ≤ 9 ∧ c = nI (48 + d) ∧ c - 48 = nI d := by
  obtain ⟨q, hq, rfl⟩ := (winK (x := c) (k := 57) (by decide)).mp ⟨Int32.le_trans (by decide) h1.1, h1.2⟩
  have : 48 ≤ q := (nI_leI (by decide) (by omega)).mp h1.1
  obtain ⟨d, rfl⟩ : ∃ d, q = 48 + d := ⟨q - 48, by omega⟩
  refine ⟨d, by omega, rfl, ?_⟩
  rw [← nI_add, show nI 48 = (48 : Int32) from rfl, Int32.add_comm, Int32.add_sub_cancel]
/-! a number -/
def numv (M : Nat) (v : Int32) : Prop := v = -1 ∨ ∃ w : Nat, w ≤ M ∧ v = nI w
theorem nxt_nn {M : Nat} {v c : Int32} (hM : M ≤ 250) (hv : numv M v) (hc : 48 ≤ c ∧ c ≤ 57) (hx : ¬ nI M < nxt v c) : numv M (nxt v c) := by
  obtain ⟨d, hd, _, e⟩ := dig_of hc
  right
  unfold nxt at hx ⊢
  rw [e] at hx ⊢
  rcases hv with rfl | ⟨w, hw, rfl⟩
  · simp only [if_true] at hx ⊢
    exact ⟨d, by have := mt (fun q => nI_lt q (show d < 2 ^ 31 by omega)) hx; omega, rfl⟩
  · have hne : ¬ nI w = -1 := fun q => by
      have := nI_pos' (n := w) (by omega)
      rw [q] at this
      exact absurd this (by decide)
    simp only [hne, if_false] at hx ⊢
    rw [show (10 : Int32) = nI 10 from rfl, pk_mul, nI_add] at hx ⊢
    exact ⟨10 * w + d, by have := mt (fun q => nI_lt q (show 10 * w + d < 2 ^ 31 by omega)) hx; omega, rfl⟩
theorem num_ok (P : PH mc mm n W H) {s least nf nu nv tk : Int32} (hs : s = 3 ∨ s = 4 ∨ s = 5) {M : Nat} (hM : M ≤ 250) (hmost : ∀ b, f_X12_mostNow (MK mm s b nf nu nv tk h) = some (nI M)) : ∀ (dd i cnt : Nat) (v : Int32) (k : Nat), n - i = dd → i ≤ n → cnt ≤ i → numv M v → n - i < k →
    (∃ (j : Nat) (w : Int32), i ≤ j ∧ j < n ∧ zloop (b_X5_readNumber_5 least (nI M)) k (v, nI cnt, CK mc (nI i) hc) = some (.inr (-1, CK mc (nI j) hc)) ∧ Lp n i (MK mm s v nf nu nv tk h) (nI j, MK mm s w nf nu nv tk h)) ∨
    (∃ (j : Nat) (w : Int32), i ≤ j ∧ j ≤ n ∧ zloop (b_X5_readNumber_5 least (nI M)) k (v, nI cnt, CK mc (nI i) hc) = some (.inl (w, CK mc (nI j) hc)) ∧ numv M w ∧ (j < n → ¬ (48 ≤ mm.1 69 j ∧ mm.1 69 j ≤ 57)) ∧ ∀ r, Lp n j (MK mm s w nf nu nv tk h) r → Lp n i (MK mm s v nf nu nv tk h) r)
  | dd, i, cnt, v, k, hdd, hi, hc1, hv, hk => by
    obtain ⟨k', rfl⟩ : ∃ q, k = q + 1 := ⟨k - 1, by omega⟩
    have hn := P.hn
    by_cases hd : i < n ∧ 48 ≤ mm.1 69 i ∧ mm.1 69 i ≤ 57
    · obtain ⟨hin, hd⟩ := hd
      have hcnt : ¬ (40 : Int32) ≤ nI cnt := nI_ge (a := cnt) (b := 40) (by omega) (by decide)
      have e2 : (CK mc (nI i) hc).1 1 3 = nI i := rfl
      have body : b_X5_readNumber_5 least (nI M) (v, nI cnt, CK mc (nI i) hc) = if v = 0 ∨ nI M < nxt v (mm.1 69 i) then some (.inr (.inr (-1, CK mc (nI i) hc))) else some (.inl (nxt v (mm.1 69 i), nI (cnt + 1), CK mc (nI (i + 1)) hc)) := by
        obtain ⟨d, hd9, _, hde⟩ := dig_of hd
        have hdn : ¬ nI d = -1 := fun q => by
          have := nI_pos' (n := d) (by omega)
          rw [q] at this
          exact absurd this (by decide)
        unfold b_X5_readNumber_5 j_X5_readNumber_44 nxt
        simp only [hcnt, if_false, digit_t P hin hd, Option.bind_some, hde, hdn, e2, nI_1, CK_at]
        by_cases q1 : v = -1
        · subst q1
          simp only [if_true, show ¬ (-1 : Int32) = 0 by decide, if_false, false_or]
          by_cases q2 : nI M < nI d
          · rw [if_neg (Int32.not_le.mpr q2), if_pos q2]
          · rw [if_pos (Int32.not_lt.mp q2), if_neg q2]
        · simp only [q1, if_false]
          by_cases q0 : v = 0
          · simp only [q0, if_true, true_or]
          · simp only [q0, if_false, false_or]
            by_cases q2 : nI M < 10 * v + nI d
            · rw [if_neg (Int32.not_le.mpr q2), if_pos q2]
            · rw [if_pos (Int32.not_lt.mp q2), if_neg q2]
      have mt1 := tkfig (m := mm) (b := v) (c := nf) (d := nu) (e := nv) (f := tk) (h := h) hs (hmost v) hd
      by_cases hbad : v = 0 ∨ nI M < nxt v (mm.1 69 i)
      · left
        rw [if_pos hbad] at body mt1
        exact ⟨i, v, Nat.le_refl _, hin, zloop_0 body, Lp_stop P.m0 hn hin mt1⟩
      · rw [if_neg hbad] at body mt1
        have hv' := nxt_nn hM hv hd (fun q => hbad (Or.inr q))
        cases dd with
        | zero => omega
        | succ dd =>
        rcases num_ok P hs hM hmost dd (i + 1) (cnt + 1) _ k' (by omega) (by omega) (by omega) hv' (by omega) with ⟨j, w, j1, j2, j3, j4⟩ | ⟨j, w, j1, j2, j3, j4, j5, j6⟩
        · exact Or.inl ⟨j, w, by omega, j2, by rw [zloop_s body]; exact j3, Lp_step P.m0 hn hin mt1 j4⟩
        · exact Or.inr ⟨j, w, by omega, j2, by rw [zloop_s body]; exact j3, j4, j5, fun r hr => Lp_step P.m0 hn hin mt1 (j6 r hr)⟩
    · right
      refine ⟨i, v, Nat.le_refl _, hi, ?_, hv, fun q w => hd ⟨q, w⟩, fun r hr => hr⟩
      refine zloop_0 ?_
      unfold b_X5_readNumber_5
      by_cases q : (40 : Int32) ≤ nI cnt
      · simp only [q, if_true]
      · simp only [q, if_false, digit_f P hi (fun a b => hd ⟨a, b⟩), Option.bind_some, if_true]
  termination_by dd => dd
/-- a number, read by both -/
theorem rn_ok (P : PH mc mm n W H) {s nf nu nv tk : Int32} (hs : s = 3 ∨ s = 4 ∨ s = 5) {M lo : Nat} (hM : M ≤ 250) (hlo : lo ≤ 10) (hmost : ∀ b, f_X12_mostNow (MK mm s b nf nu nv tk h) = some (nI M)) (hi : i ≤ n) :
    (∃ (j : Nat) (w : Int32), i ≤ j ∧ j < n ∧ f_X5_readNumber (nI lo) (nI M) (CK mc (nI i) hc) = some (-1, CK mc (nI j) hc) ∧ Lp n i (MK mm s (-1) nf nu nv tk h) (nI j, MK mm s w nf nu nv tk h)) ∨
    (∃ (j : Nat) (w : Int32), i ≤ j ∧ j ≤ n ∧ f_X5_readNumber (nI lo) (nI M) (CK mc (nI i) hc) = some (-1, CK mc (nI j) hc) ∧ w < nI lo ∧ (w = -1 ∨ 0 < lo) ∧ (j < n → ¬ (48 ≤ mm.1 69 j ∧ mm.1 69 j ≤ 57)) ∧ ∀ r, Lp n j (MK mm s w nf nu nv tk h) r → Lp n i (MK mm s (-1) nf nu nv tk h) r) ∨
    (∃ (j w : Nat), i ≤ j ∧ j ≤ n ∧ f_X5_readNumber (nI lo) (nI M) (CK mc (nI i) hc) = some (nI w, CK mc (nI j) hc) ∧ lo ≤ w ∧ w ≤ M ∧ (j < n → ¬ (48 ≤ mm.1 69 j ∧ mm.1 69 j ≤ 57)) ∧ ∀ r, Lp n j (MK mm s (nI w) nf nu nv tk h) r → Lp n i (MK mm s (-1) nf nu nv tk h) r) := by
  have hn := P.hn
  unfold f_X5_readNumber j_X5_readNumber_77
  rcases num_ok (h := h) (hc := hc) P (least := nI lo) hs hM hmost (n - i) i 0 (-1) zFU rfl hi (by omega) (Or.inl rfl) (by unfold zFU; omega) with ⟨j, w, j1, j2, j3, j4⟩ | ⟨j, w, j1, j2, j3, j4, j5, j6⟩
  · refine Or.inl ⟨j, w, j1, j2, ?_, j4⟩
    rw [show (0 : Int32) = nI 0 from rfl, j3]
    rfl
  · rcases j4 with rfl | ⟨w', hw', rfl⟩
    · have hlt : ¬ nI lo ≤ -1 := fun q => absurd (Int32.le_trans (nI_pos' (n := lo) (by omega)) q) (by decide)
      refine Or.inr (Or.inl ⟨j, -1, j1, j2, ?_, Int32.not_le.mp hlt, Or.inl rfl, j5, j6⟩)
      rw [show (0 : Int32) = nI 0 from rfl, j3]
      simp only [Option.bind_some, Sum.elim_inl, hlt, if_false]
    · by_cases q : lo ≤ w'
      · refine Or.inr (Or.inr ⟨j, w', j1, j2, ?_, q, hw', j5, j6⟩)
        rw [show (0 : Int32) = nI 0 from rfl, j3]
        simp only [Option.bind_some, Sum.elim_inl, nI_le q (show w' < 2 ^ 31 by omega), if_true]
      · refine Or.inr (Or.inl ⟨j, nI w', j1, j2, ?_, nI_lt (by omega) (by omega), Or.inr (by omega), j5, j6⟩)
        rw [show (0 : Int32) = nI 0 from rfl, j3]
        simp only [Option.bind_some, Sum.elim_inl, nI_ge (show w' < lo by omega) (show lo < 2 ^ 31 by omega), if_false]
end PHS
