/-! ===== the grid ===== -/
theorem jmax (x : Nat) (hx : x < 2 ^ 31) (m : zM) : f_J9_max_7cf53 0 (nI x - 1) m = some (nI (x - 1)) := by
  unfold f_J9_max_7cf53
  cases x with
  | zero => rfl
  | succ k =>
    rw [nI_pred]
    by_cases h : k = 0
    · subst h; rfl
    · have : (0 : Int32) < nI k := nI_lt (a := 0) (by omega) (by omega)
      rw [if_pos this]
      rfl
theorem jmin (H y : Nat) (h1 : 0 < H) (h2 : H < 1000) (h3 : y < 1000) (m : zM) : f_J9_min_7cf53 (nI H - 1) (nI y + 1) m = some (nI (min (H - 1) (y + 1))) := by
  unfold f_J9_min_7cf53
  obtain ⟨k, rfl⟩ : ∃ k, H = k + 1 := ⟨H - 1, by omega⟩
  rw [nI_pred, nI_1]
  by_cases h : y + 1 < k
  · have : nI (y + 1) < nI k := nI_lt h (by omega)
    rw [if_pos this, Nat.min_eq_right (by omega)]
  · have : ¬ nI (y + 1) < nI k := nI_nlt (by omega) (by omega)
    rw [if_neg this, Nat.min_eq_left (by omega)]
    rfl
def rowL (W x y ny lo k : Nat) : List Nat := (List.range k).filterMap (fun i => if lo + i = x ∧ ny = y then none else some (W * ny + (lo + i)))
def LAr (W x y loy lox nx j : Nat) : List Nat := (List.range j).flatMap (fun r => rowL W x y (loy + r) lox nx)
theorem rowL_succ (W x y ny lo k : Nat) : rowL W x y ny lo (k + 1) = rowL W x y ny lo k ++ (if lo + k = x ∧ ny = y then [] else [W * ny + (lo + k)]) := by
  unfold rowL
  rw [List.range_succ, List.filterMap_append]
  congr 1
  by_cases h : lo + k = x ∧ ny = y <;> simp [h]
theorem LAr_succ (W x y loy lox nx j : Nat) : LAr W x y loy lox nx (j + 1) = LAr W x y loy lox nx j ++ rowL W x y (loy + j) lox nx := by
  unfold LAr
  rw [List.range_succ, List.flatMap_append]
  simp
def allLt (n : Nat) (p : Nat → Bool) : Bool := (List.range n).all p
theorem allLt_spec {n : Nat} {p : Nat → Bool} (h : allLt n p = true) {i : Nat} (hi : i < n) : p i = true := List.all_eq_true.mp h i (List.mem_range.mpr hi)
def ckLA : Bool := allLt 6 fun W' => allLt 6 fun H' => allLt (W' + 3) fun x => allLt (H' + 3) fun y => decide (LAr (W' + 3) x y (y - 1) (x - 1) (min (W' + 3 - 1) (x + 1) - (x - 1) + 1) (min (H' + 3 - 1) (y + 1) - (y - 1) + 1) = NB (W' + 3) (H' + 3) ((W' + 3) * y + x))
theorem ckLA_ok : ckLA = true := by decide +kernel
/-- the neighbours as the class lists them are those that the model asks for; at most eight -/
theorem LA_NB (W : Nat) (h1 : W < 9) (h2 : 3 ≤ W) (H : Nat) (h3 : H < 9) (h4 : 3 ≤ H) (x : Nat) (h5 : x < W) (y : Nat) (h6 : y < H) : LAr W x y (y - 1) (x - 1) (min (W - 1) (x + 1) - (x - 1) + 1) (min (H - 1) (y + 1) - (y - 1) + 1) = NB W H (W * y + x) := by
  obtain ⟨W', rfl⟩ : ∃ k, W = k + 3 := ⟨W - 3, by omega⟩
  obtain ⟨H', rfl⟩ : ∃ k, H = k + 3 := ⟨H - 3, by omega⟩
  exact of_decide_eq_true (allLt_spec (allLt_spec (allLt_spec (allLt_spec ckLA_ok (i := W') (by omega)) (i := H') (by omega)) h5) h6)
def ckL8 : Bool := allLt 6 fun W' => allLt 6 fun H' => allLt (W' + 3) fun x => allLt (H' + 3) fun y => allLt (min (H' + 3 - 1) (y + 1) - (y - 1) + 1) fun j => allLt (min (W' + 3 - 1) (x + 1) - (x - 1) + 1) fun k => decide (x - 1 + k = x ∧ y - 1 + j = y) || decide ((LAr (W' + 3) x y (y - 1) (x - 1) (min (W' + 3 - 1) (x + 1) - (x - 1) + 1) j ++ rowL (W' + 3) x y (y - 1 + j) (x - 1) k).length < 8)
theorem ckL8_ok : ckL8 = true := by decide +kernel
theorem LA_8 (W : Nat) (h1 : W < 9) (h2 : 3 ≤ W) (H : Nat) (h3 : H < 9) (h4 : 3 ≤ H) (x : Nat) (h5 : x < W) (y : Nat) (h6 : y < H) (j : Nat) (hj : j < min (H - 1) (y + 1) - (y - 1) + 1) (k : Nat) (hk : k < min (W - 1) (x + 1) - (x - 1) + 1) (hs : ¬ (x - 1 + k = x ∧ y - 1 + j = y)) : (LAr W x y (y - 1) (x - 1) (min (W - 1) (x + 1) - (x - 1) + 1) j ++ rowL W x y (y - 1 + j) (x - 1) k).length < 8 := by
  obtain ⟨W', rfl⟩ : ∃ k, W = k + 3 := ⟨W - 3, by omega⟩
  obtain ⟨H', rfl⟩ : ∃ k, H = k + 3 := ⟨H - 3, by omega⟩
  have := allLt_spec (allLt_spec (allLt_spec (allLt_spec (allLt_spec (allLt_spec ckL8_ok (i := W') (by omega)) (i := H') (by omega)) h5) h6) hj) hk
  rw [Bool.or_eq_true, decide_eq_true_eq, decide_eq_true_eq] at this
  exact this.resolve_left hs
/-- a list laid into a row -/
def zput (g : Nat → Int32) (b : Nat) (l : List Nat) : Nat → Int32 := fun j => if b ≤ j ∧ j < b + l.length then nI (l.getD (j - b) 0) else g j
theorem zput_nil {g : Nat → Int32} {b : Nat} : zput g b [] = g := by
  funext j
  have : ¬ (b ≤ j ∧ j < b + ([] : List Nat).length) := by simp
  simp only [zput, this, if_false]
theorem zput_app {g : Nat → Int32} {b a : Nat} {l : List Nat} : (fun j => if j = b + l.length then nI a else zput g b l j) = zput g b (l ++ [a]) := by
  funext j
  unfold zput
  rw [List.length_append]
  by_cases h : j = b + l.length
  · subst h
    have h2 : b ≤ b + l.length ∧ b + l.length < b + (l.length + [a].length) := by simp
    rw [if_pos rfl, if_pos h2, show b + l.length - b = l.length by omega, List.getD_eq_getElem?_getD, List.getElem?_append_right (Nat.le_refl _), Nat.sub_self]
    rfl
  · rw [if_neg h]
    by_cases h2 : b ≤ j ∧ j < b + l.length
    · have h3 : b ≤ j ∧ j < b + (l.length + [a].length) := by simp; omega
      rw [if_pos h2, if_pos h3, List.getD_eq_getElem?_getD, List.getD_eq_getElem?_getD, List.getElem?_append_left (by omega)]
    · have h3 : ¬ (b ≤ j ∧ j < b + (l.length + [a].length)) := by simp; omega
      rw [if_neg h2, if_neg h3]
theorem zput_in {g : Nat → Int32} {b i : Nat} {l : List Nat} (h : i < l.length) : zput g b l (b + i) = nI (l.getD i 0) := by
  have : b ≤ b + i ∧ b + i < b + l.length := by omega
  unfold zput
  rw [if_pos this, Nat.add_sub_cancel_left]
theorem zput_out {g : Nat → Int32} {b j : Nat} {l : List Nat} (h : j < b ∨ b + l.length ≤ j) : zput g b l j = g j := by
  have : ¬ (b ≤ j ∧ j < b + l.length) := by omega
  unfold zput
  rw [if_neg this]
theorem listAround_eq {W H x y : Nat} {X : zM} {d : Nat → Int32} (hw : X.1 14 0 = nI W) (hh : X.1 14 1 = nI H) (w3 : 3 ≤ W) (w8 : W ≤ 8) (h3 : 3 ≤ H) (h8 : H ≤ 8) (hx : x < W) (hy : y < H) : f_X1_listAround (nI x) (nI y) (zrow X 18 d) = some (zi (zrow X 18 (zput d (8 * (W * y + x)) (NB W H (W * y + x)))) 17 (W * y + x) (nI (NB W H (W * y + x)).length)) := by
  have hc64 : W * y + x < 64 := by
    have : W * y ≤ 8 * 7 := Nat.mul_le_mul w8 (by omega)
    have : W * (y + 1) ≤ 8 * 8 := Nat.mul_le_mul w8 (by omega)
    rw [Nat.mul_succ] at this
    omega
  unfold f_X1_listAround
  have e0 : ∀ d', (zrow X 18 d').1 14 0 = nI W := fun d' => by rw [zrow_ne (by decide), hw]
  have e1 : ∀ d', (zrow X 18 d').1 14 1 = nI H := fun d' => by rw [zrow_ne (by decide), hh]
  have ec : nI W * nI y + nI x = nI (W * y + x) := by rw [pk_mul, nI_add]
  rw [e0, ec, jmax y (by omega), Option.bind_some]
  generalize hcell : W * y + x = cell at *
  have hNB := LA_NB W (by omega) w3 H (by omega) h3 x hx y hy
  rw [hcell] at hNB
  have h88 := LA_8 W (by omega) w3 H (by omega) h3 x hx y hy
  generalize hnx : min (W - 1) (x + 1) - (x - 1) + 1 = nx at hNB h88
  generalize hny : min (H - 1) (y + 1) - (y - 1) + 1 = ny at hNB h88
  have hnx3 : nx ≤ 3 := by omega
  have hny3 : ny ≤ 3 := by omega
  have inner : ∀ j, j < ny → zloop (b_X1_listAround_47 (nI x) (nI y) (nI cell) (nI (y - 1 + j))) zFU (nI (LAr W x y (y - 1) (x - 1) nx j).length, nI (x - 1), zrow X 18 (zput d (8 * cell) (LAr W x y (y - 1) (x - 1) nx j))) = some (nI (LAr W x y (y - 1) (x - 1) nx (j + 1)).length, zrow X 18 (zput d (8 * cell) (LAr W x y (y - 1) (x - 1) nx (j + 1)))) := by
    intro j hj
    refine zfor (fun k => (nI (LAr W x y (y - 1) (x - 1) nx j ++ rowL W x y (y - 1 + j) (x - 1) k).length, nI (x - 1 + k), zrow X 18 (zput d (8 * cell) (LAr W x y (y - 1) (x - 1) nx j ++ rowL W x y (y - 1 + j) (x - 1) k)))) nx ?_ ?_ ?_ (by omega)
    · show _ = (nI (_ ++ []).length, nI (x - 1 + 0), zrow X 18 (zput d (8 * cell) (_ ++ [])))
      rw [List.append_nil]
      rfl
    · intro k hk
      unfold b_X1_listAround_47 j_X1_listAround_76 j_X1_listAround_101
      have h8k := h88 j hj k hk
      generalize hl : LAr W x y (y - 1) (x - 1) nx j ++ rowL W x y (y - 1 + j) (x - 1) k = l at h8k
      have hlt : ¬ nI (min (W - 1) (x + 1)) < nI (x - 1 + k) := nI_nlt (by omega) (by omega)
      simp only [e0, jmin W x (by omega) (by omega) (by omega), Option.bind_some, hlt, if_false]
      have hsucc : LAr W x y (y - 1) (x - 1) nx j ++ rowL W x y (y - 1 + j) (x - 1) (k + 1) = l ++ (if x - 1 + k = x ∧ y - 1 + j = y then [] else [W * (y - 1 + j) + (x - 1 + k)]) := by
        rw [rowL_succ, ← List.append_assoc, hl]
      rw [hsucc]
      have ei : 8 * nI cell + nI l.length = nI (8 * cell + l.length) := by rw [show (8 : Int32) = nI 8 from rfl, pk_mul, nI_add]
      have ev : nI W * nI (y - 1 + j) + nI (x - 1 + k) = nI (W * (y - 1 + j) + (x - 1 + k)) := by rw [pk_mul, nI_add]
      by_cases hs : x - 1 + k = x ∧ y - 1 + j = y
      · rw [if_pos hs, if_pos (by rw [hs.1]), if_pos (by rw [hs.2]), List.append_nil, nI_1]
        rfl
      · have h8l := h8k hs
        have hz := zin_nI (show 8 * cell + l.length < 512 by omega) (show (512 : Nat) < 2 ^ 31 by omega)
        have hcl := nI_clamp (show 8 * cell + l.length < 2 ^ 31 by omega)
        rw [if_neg hs]
        have fin : zg (zin (8 * nI cell + nI l.length) 512) (some (Sum.inl (nI l.length + 1, nI (x - 1 + k) + 1, zi (zrow X 18 (zput d (8 * cell) l)) 18 (8 * nI cell + nI l.length).toNatClampNeg (nI W * nI (y - 1 + j) + nI (x - 1 + k)))) : Option ((Int32 × Int32 × zM) ⊕ (Int32 × zM))) = some (.inl (nI (l ++ [W * (y - 1 + j) + (x - 1 + k)]).length, nI (x - 1 + (k + 1)), zrow X 18 (zput d (8 * cell) (l ++ [W * (y - 1 + j) + (x - 1 + k)])))) := by
          rw [ei, hz, zg_t, hcl, ev, zi_zrow, zput_app, nI_1, nI_1, List.length_append]
          rfl
        by_cases hxx : nI (x - 1 + k) = nI x
        · have hx2 : x - 1 + k = x := (nI_eq (by omega) (by omega)).mp hxx
          have hy2 : ¬ nI (y - 1 + j) = nI y := fun e => hs ⟨hx2, (nI_eq (by omega) (by omega)).mp e⟩
          rw [if_pos hxx, if_neg hy2]
          exact fin
        · rw [if_neg hxx]
          exact fin
    · unfold b_X1_listAround_47
      have hlt : nI (min (W - 1) (x + 1)) < nI (x - 1 + nx) := nI_lt (by omega) (by omega)
      simp only [e0, jmin W x (by omega) (by omega) (by omega), Option.bind_some, hlt, if_true, LAr_succ]
  have outer : zloop (b_X1_listAround_21 (nI x) (nI y) (nI cell)) zFU (0, nI (y - 1), zrow X 18 d) = some (nI (LAr W x y (y - 1) (x - 1) nx ny).length, zrow X 18 (zput d (8 * cell) (LAr W x y (y - 1) (x - 1) nx ny))) := by
    refine zfor (fun j => (nI (LAr W x y (y - 1) (x - 1) nx j).length, nI (y - 1 + j), zrow X 18 (zput d (8 * cell) (LAr W x y (y - 1) (x - 1) nx j)))) ny ?_ ?_ ?_ (by omega)
    · show _ = (nI ([] : List Nat).length, nI (y - 1 + 0), zrow X 18 (zput d (8 * cell) []))
      rw [zput_nil]
      rfl
    · intro j hj
      unfold b_X1_listAround_21
      have hlt : ¬ nI (min (H - 1) (y + 1)) < nI (y - 1 + j) := nI_nlt (by omega) (by omega)
      simp only [e1, jmin H y (by omega) (by omega) (by omega), Option.bind_some, hlt, if_false, jmax x (show x < 2 ^ 31 by omega), inner j hj]
      rw [nI_1]
      rfl
    · unfold b_X1_listAround_21
      have hlt : nI (min (H - 1) (y + 1)) < nI (y - 1 + ny) := nI_lt (by omega) (by omega)
      simp only [e1, jmin H y (by omega) (by omega) (by omega), Option.bind_some, hlt, if_true]
  rw [outer, Option.bind_some, zin_nI hc64 (by omega), zg_t, nI_clamp (by omega), hNB]
def mem4 (m : zM) (a b c d : Nat → Int32) : zM := zrow (zrow (zrow (zrow m 15 a) 16 b) 17 c) 18 d
def GOK (W H : Nat) (a b c d : Nat → Int32) (k : Nat) : Prop := a k = nI (k % W) ∧ b k = nI (k / W) ∧ c k = nI (NB W H k).length ∧ ∀ i : Nat, i < (NB W H k).length → d (8 * k + i) = nI ((NB W H k).getD i 0)
theorem mem4_15 {m : zM} {a b c d : Nat → Int32} {k : Nat} {v : Int32} : zi (mem4 m a b c d) 15 k v = mem4 m (fun j => if j = k then v else a j) b c d := by
  unfold mem4
  rw [zi_zrow_ne (by decide), zi_zrow_ne (by decide), zi_zrow_ne (by decide), zi_zrow]
theorem mem4_16 {m : zM} {a b c d : Nat → Int32} {k : Nat} {v : Int32} : zi (mem4 m a b c d) 16 k v = mem4 m a (fun j => if j = k then v else b j) c d := by
  unfold mem4
  rw [zi_zrow_ne (by decide), zi_zrow_ne (by decide), zi_zrow]
theorem NB_8 (W : Nat) (_h1 : W < 9) (_h2 : 3 ≤ W) (H : Nat) (_h3 : H < 9) (_h4 : 3 ≤ H) (c : Nat) (_h : c < W * H) : (NB W H c).length ≤ 8 := by
  have := List.length_filterMap_le (zbes W H c) (List.range 8)
  rw [List.length_range] at this
  exact this
theorem lay_eq {W H : Nat} {m : zM} (hw : m.1 14 0 = nI W) (hh : m.1 14 1 = nI H) (w3 : 3 ≤ W) (w8 : W ≤ 8) (h3 : 3 ≤ H) (h8 : H ≤ 8) : ∃ a b c d, zloop b_X1_lay_25 zFU (0, m) = some (mem4 m a b c d) ∧ ∀ k, k < W * H → GOK W H a b c d k := by
  have n64 : W * H ≤ 64 := Nat.mul_le_mul w8 h8
  have e0 : ∀ a b c d, (mem4 m a b c d).1 14 0 = nI W := fun a b c d => by rw [← hw]; simp [mem4, zrow]
  have e1 : ∀ a b c d, (mem4 m a b c d).1 14 1 = nI H := fun a b c d => by rw [← hh]; simp [mem4, zrow]
  have cellstep : ∀ (x y : Nat) (a b c d : Nat → Int32), x < W → y < H → ∃ a' b' c' d', f_X1_listAround (nI x) (nI y) (zi (zi (mem4 m a b c d) 15 (W * y + x) (nI x)) 16 (W * y + x) (nI y)) = some (mem4 m a' b' c' d') ∧ GOK W H a' b' c' d' (W * y + x) ∧ ∀ k, k ≠ W * y + x → k < 64 → GOK W H a b c d k → k < W * H → GOK W H a' b' c' d' k := by
    intro x y a b c d hx hy
    have hmem : zi (zi (mem4 m a b c d) 15 (W * y + x) (nI x)) 16 (W * y + x) (nI y) = zrow (zrow (zrow (zrow m 15 (fun j => if j = W * y + x then nI x else a j)) 16 (fun j => if j = W * y + x then nI y else b j)) 17 c) 18 d := by
      rw [mem4_15, mem4_16]
      rfl
    have hX0 : (zrow (zrow (zrow m 15 (fun j => if j = W * y + x then nI x else a j)) 16 (fun j => if j = W * y + x then nI y else b j)) 17 c).1 14 0 = nI W := by rw [← hw]; simp [zrow]
    have hX1 : (zrow (zrow (zrow m 15 (fun j => if j = W * y + x then nI x else a j)) 16 (fun j => if j = W * y + x then nI y else b j)) 17 c).1 14 1 = nI H := by rw [← hh]; simp [zrow]
    have hN8 := NB_8 W (by omega) w3 H (by omega) h3
    have hlt : W * y + x < W * H := by
      have : W * (y + 1) ≤ W * H := Nat.mul_le_mul_left _ hy
      rw [Nat.mul_succ] at this
      omega
    refine ⟨(fun j => if j = W * y + x then nI x else a j), (fun j => if j = W * y + x then nI y else b j), (fun j => if j = W * y + x then nI (NB W H (W * y + x)).length else c j), zput d (8 * (W * y + x)) (NB W H (W * y + x)), ?_, ?_, ?_⟩
    · rw [hmem, listAround_eq hX0 hX1 w3 w8 h3 h8 hx hy, zi_zrow_ne (by decide), zi_zrow]
      rfl
    · have hm1 : (W * y + x) % W = x := by rw [Nat.mul_add_mod, Nat.mod_eq_of_lt hx]
      have hm2 : (W * y + x) / W = y := by rw [Nat.mul_add_div (by omega), Nat.div_eq_of_lt hx, Nat.add_zero]
      refine ⟨by simp [hm1], by simp [hm2], by simp, fun i hi => zput_in hi⟩
    · intro k hk hk64 hG hkn
      obtain ⟨q1, q2, q3, q4⟩ := hG
      refine ⟨by simpa [hk] using q1, by simpa [hk] using q2, by simpa [hk] using q3, fun i hi => ?_⟩
      have n1 := hN8 k hkn
      have n2 := hN8 (W * y + x) hlt
      rw [zput_out (by omega)]
      exact q4 i hi
  have inner : ∀ (y : Nat) (a b c d : Nat → Int32), y < H → (∀ k, k < W * y → GOK W H a b c d k) → ∃ r, zloop (b_X1_lay_36 (nI y)) zFU (0, mem4 m a b c d) = some r ∧ ∃ a' b' c' d', r = mem4 m a' b' c' d' ∧ ∀ k, k < W * (y + 1) → GOK W H a' b' c' d' k := by
    intro y a b c d hy hG
    refine zforQ (fun x s => s.1 = nI x ∧ ∃ a' b' c' d', s.2 = mem4 m a' b' c' d' ∧ ∀ k, k < W * y + x → GOK W H a' b' c' d' k) W _ ⟨rfl, a, b, c, d, rfl, fun k hk => hG k (by omega)⟩ ?_ ?_ (by omega)
    · rintro x ⟨s1, s2⟩ hx ⟨rfl, a', b', c', d', rfl, hG'⟩
      have hlt : W * y + x < W * H := by
        have : W * (y + 1) ≤ W * H := Nat.mul_le_mul_left _ hy
        rw [Nat.mul_succ] at this
        omega
      obtain ⟨a2, b2, c2, d2, k1, k2, k3⟩ := cellstep x y a' b' c' d' hx hy
      refine ⟨(nI (x + 1), mem4 m a2 b2 c2 d2), ?_, rfl, a2, b2, c2, d2, rfl, fun k hk => ?_⟩
      · unfold b_X1_lay_36
        have hc : ¬ nI W ≤ nI x := nI_ge hx (by omega)
        have ec : nI W * nI y + nI x = nI (W * y + x) := by rw [pk_mul, nI_add]
        simp only [e0, hc, if_false, ec, zin_nI (show W * y + x < 64 by omega) (show (64 : Nat) < 2 ^ 31 by omega), zg_t, nI_clamp (show W * y + x < 2 ^ 31 by omega), k1, Option.bind_some, nI_1]
      · by_cases hk2 : k = W * y + x
        · rw [hk2]; exact k2
        · exact k3 k hk2 (by omega) (hG' k (by omega)) (by omega)
    · rintro ⟨s1, s2⟩ ⟨rfl, a', b', c', d', rfl, hG'⟩
      refine ⟨mem4 m a' b' c' d', ?_, a', b', c', d', rfl, fun k hk => hG' k (by rw [Nat.mul_succ] at hk; exact hk)⟩
      unfold b_X1_lay_36
      simp only [e0, Int32.le_refl, if_true]
  have hself : mem4 m (m.1 15) (m.1 16) (m.1 17) (m.1 18) = m := by
    unfold mem4
    rw [zrow_self, zrow_self, zrow_self, zrow_self]
  have houter : ∃ r, zloop b_X1_lay_25 zFU (0, m) = some r ∧ ∃ a' b' c' d', r = mem4 m a' b' c' d' ∧ ∀ k, k < W * H → GOK W H a' b' c' d' k := by
    refine zforQ (fun y s => s.1 = nI y ∧ ∃ a' b' c' d', s.2 = mem4 m a' b' c' d' ∧ ∀ k, k < W * y → GOK W H a' b' c' d' k) H _ ⟨rfl, m.1 15, m.1 16, m.1 17, m.1 18, hself.symm, fun k hk => by omega⟩ ?_ ?_ (by omega)
    · rintro y ⟨s1, s2⟩ hy ⟨rfl, a', b', c', d', rfl, hG'⟩
      obtain ⟨r, q1, a2, b2, c2, d2, rfl, q2⟩ := inner y a' b' c' d' hy hG'
      refine ⟨(nI (y + 1), mem4 m a2 b2 c2 d2), ?_, rfl, a2, b2, c2, d2, rfl, q2⟩
      unfold b_X1_lay_25
      have hc : ¬ nI H ≤ nI y := nI_ge hy (by omega)
      simp only [e1, hc, if_false, q1, Option.bind_some, nI_1]
    · rintro ⟨s1, s2⟩ ⟨rfl, a', b', c', d', rfl, hG'⟩
      refine ⟨mem4 m a' b' c' d', ?_, a', b', c', d', rfl, hG'⟩
      unfold b_X1_lay_25
      simp only [e1, Int32.le_refl, if_true]
  obtain ⟨r, q1, a', b', c', d', rfl, q2⟩ := houter
  exact ⟨a', b', c', d', q1, q2⟩
