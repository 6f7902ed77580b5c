/-! ===== the picture: cells by their number, memory as functions of cell and place ===== -/
/-- ints and booleans; longs; which row a table of rows has at a place -/
abbrev zM : Type := (Nat → Nat → Int32) × (Nat → Nat → Int64) × (Nat → Nat → Nat)
/-- a cell's form: an array (kind 0 int, 1 boolean, 2 rows of ints; length; its first row's cell) or an object (its number in vwCl; its references, by field) -/
abbrev zS : Type := (Nat × Nat × Nat) ⊕ (Nat × List (Option Nat))
/-- a method: name, code, words of locals, answer; frames and words of locals that it and its callees need -/
abbrev zY : Type := MethodName × ByteArray × Nat × Option FieldType × Nat × Nat
def zv (ρ : Nat → Nat) (v : Value) : Value := match v with
  | .ref a => .ref (ρ a)
  | w => w
def zi (m : zM) (a k : Nat) (x : Int32) : zM := (fun b j => if b = a ∧ j = k then x else m.1 b j, m.2)
def zl (m : zM) (a k : Nat) (x : Int64) : zM := (m.1, fun b j => if b = a ∧ j = k then x else m.2.1 b j, m.2.2)
def zr (m : zM) (a k : Nat) (x : Nat) : zM := (m.1, m.2.1, fun b j => if b = a ∧ j = k then x else m.2.2 b j)
def zty (c k : Nat) : FieldType := match c with
  | 0 => tyX0 k | 1 => tyX1 k | 2 => tyX2 k | 3 => tyX3 k | 4 => tyX4 k | 5 => tyX5 k | 6 => tyX6 k | 7 => tyX7 k | 8 => tyX8 k | 9 => tyX9 k | 10 => tyX10 k | 11 => tyX11 k | _ => tyX12 k
def zn (c : Nat) : Nat := match c with
  | 0 => 3 | 1 => 7 | 2 => 4 | 3 => 7 | 4 => 5 | 5 => 6 | 6 => 4 | 7 => 15 | 8 => 11 | 9 => 7 | 10 => 5 | 11 => 5 | _ => 58
def ztk (t : FieldType) : Nat := match t with
  | .boolean => 1 | .long => 2 | .object _ => 3 | .array _ => 3 | _ => 0
def zfv (ρ : Nat → Nat) (m : zM) (i : Nat) (rs : List (Option Nat)) (k t : Nat) : Value := match t with
  | 2 => .long (m.2.1 i k)
  | 3 => va_rf ((rs.getD k none).map ρ)
  | _ => .int (m.1 i k)
def zfs (ρ : Nat → Nat) (m : zM) (i c : Nat) (rs : List (Option Nat)) : List Value := (List.range (zn c)).map (fun k => zfv ρ m i rs k (ztk (zty c k)))
def zE (ρ : Nat → Nat) (κ : Nat → ClassId) (m : zM) (i : Nat) (s : zS) : va_E := match s with
  | .inl (0, n, _) => .inl (κ 0, n, .inl (m.1 i))
  | .inl (1, n, _) => .inl (κ 1, n, .inl (m.1 i))
  | .inl (_, n, b) => .inl (κ 2, n, .inr (.inr (.inr (.inr (fun j => some (ρ (b + m.2.2 i j % n)))))))
  | .inr (c, rs) => .inr (c, zfs ρ m i c rs)
def zw (ρ : Nat → Nat) (κ : Nat → ClassId) (m : zM) (sh : List zS) : va_W := sh.zipIdx.map (fun q => (ρ q.2, zE ρ κ m q.2 q.1))
def zt (κ : Nat → ClassId) : List (ClassId × FieldType) := [(κ 0, .int), (κ 1, .boolean), (κ 2, .array .int)]
/-- how many places the cells have -/
def zsz (sh : List zS) : Nat := (sh.map (fun s => match s with | .inl (_, n, _) => n | .inr (c, _) => zn c)).sum
theorem zw_get {ρ : Nat → Nat} {κ : Nat → ClassId} {m : zM} {sh : List zS} {i : Nat} {x : zS} (h : sh[i]? = some x) : (zw ρ κ m sh)[i]? = some (ρ i, zE ρ κ m i x) := by
  unfold zw
  rw [List.getElem?_map, List.getElem?_zipIdx, h]
  simp
theorem zw_len {ρ : Nat → Nat} {κ : Nat → ClassId} {m : zM} {sh : List zS} : (zw ρ κ m sh).length = sh.length := by
  unfold zw
  rw [List.length_map, List.length_zipIdx]
theorem zw_none {ρ : Nat → Nat} {κ : Nat → ClassId} {m : zM} {sh : List zS} {i : Nat} (h : sh[i]? = none) : (zw ρ κ m sh)[i]? = none := by
  rw [List.getElem?_eq_none_iff, zw_len]
  exact List.getElem?_eq_none_iff.mp h
theorem zE_mem {ρ : Nat → Nat} {κ : Nat → ClassId} {m m' : zM} {i : Nat} {s : zS} (h1 : m'.1 i = m.1 i) (h2 : m'.2.1 i = m.2.1 i) (h3 : m'.2.2 i = m.2.2 i) : zE ρ κ m' i s = zE ρ κ m i s := by
  unfold zE zfs zfv
  simp only [h1, h2, h3]
/-- a write to one cell -/
theorem zw_set {ρ : Nat → Nat} {κ : Nat → ClassId} {m m' : zM} {sh : List zS} {a : Nat} {x : zS} (hx : sh[a]? = some x) (h : ∀ i, i ≠ a → m'.1 i = m.1 i ∧ m'.2.1 i = m.2.1 i ∧ m'.2.2 i = m.2.2 i) : (zw ρ κ m sh).set a (ρ a, zE ρ κ m' a x) = zw ρ κ m' sh := by
  apply List.ext_getElem?
  intro i
  have hl : a < (zw ρ κ m sh).length := by rw [zw_len]; exact (List.getElem?_eq_some_iff.mp hx).1
  by_cases e : i = a
  · subst e
    rw [List.getElem?_set_self hl, zw_get hx]
  · rw [List.getElem?_set_ne (Ne.symm e)]
    cases hi : sh[i]? with
    | none => rw [zw_none hi, zw_none hi]
    | some y =>
      obtain ⟨h1, h2, h3⟩ := h i e
      rw [zw_get hi, zw_get hi, zE_mem h1 h2 h3]
theorem zi_off (m : zM) (a k : Nat) (x : Int32) : ∀ i, i ≠ a → (zi m a k x).1 i = m.1 i ∧ (zi m a k x).2.1 i = m.2.1 i ∧ (zi m a k x).2.2 i = m.2.2 i := fun i h => ⟨by funext j; simp [zi, h], rfl, rfl⟩
theorem zl_off (m : zM) (a k : Nat) (x : Int64) : ∀ i, i ≠ a → (zl m a k x).1 i = m.1 i ∧ (zl m a k x).2.1 i = m.2.1 i ∧ (zl m a k x).2.2 i = m.2.2 i := fun i h => ⟨rfl, by funext j; simp [zl, h], rfl⟩
theorem zr_off (m : zM) (a k : Nat) (x : Nat) : ∀ i, i ≠ a → (zr m a k x).1 i = m.1 i ∧ (zr m a k x).2.1 i = m.2.1 i ∧ (zr m a k x).2.2 i = m.2.2 i := fun i h => ⟨rfl, rfl, by funext j; simp [zr, h]⟩
theorem zi_row (m : zM) (a k : Nat) (x : Int32) : (zi m a k x).1 a = upd (m.1 a) k x := by
  funext j
  simp [zi, upd]
theorem zfs_get {ρ : Nat → Nat} {m : zM} {i c k : Nat} {rs : List (Option Nat)} (h : k < zn c) : (zfs ρ m i c rs)[k]? = some (zfv ρ m i rs k (ztk (zty c k))) := by
  unfold zfs
  rw [List.getElem?_map, List.getElem?_range h]
  rfl
theorem zfs_len {ρ : Nat → Nat} {m : zM} {i c : Nat} {rs : List (Option Nat)} : (zfs ρ m i c rs).length = zn c := by
  unfold zfs
  rw [List.length_map, List.length_range]
theorem zfs_set {ρ : Nat → Nat} {m m' : zM} {i c k : Nat} {rs rs' : List (Option Nat)} {v : Value} (hk : k < zn c) (hv : zfv ρ m' i rs' k (ztk (zty c k)) = v) (ho : ∀ j, j < zn c → j ≠ k → zfv ρ m' i rs' j (ztk (zty c j)) = zfv ρ m i rs j (ztk (zty c j))) : (zfs ρ m i c rs).set k v = zfs ρ m' i c rs' := by
  apply List.ext_getElem?
  intro j
  by_cases hj : j < zn c
  · by_cases e : j = k
    · subst e
      rw [List.getElem?_set_self (by rw [zfs_len]; exact hj), zfs_get hj, hv]
    · rw [List.getElem?_set_ne (Ne.symm e), zfs_get hj, zfs_get hj, ho j hj e]
  · rw [List.getElem?_eq_none (by rw [List.length_set, zfs_len]; omega), List.getElem?_eq_none (by rw [zfs_len]; omega)]
/-! ===== the tables by class number ===== -/
theorem zcl (c : Nat) (q : vw_C) (h : vwCl[c]? = some q) : q.2.2 = zn c ∧ (∀ w ∈ u_ws q.1 q.2.1 q.2.2, w ∈ zALL) ∧ (∀ k, k < q.2.2 → parseFieldDescriptor (q.2.1 k).2.2.1 = some (zty c k)) ∧ (∀ a, a < q.2.2 → ∀ b, b < q.2.2 → a ≠ b → (q.2.1 a).2.1 ≠ (q.2.1 b).2.1) := by
  match c, h with
  | 0, h => cases h; exact ⟨rfl, zin_0, tyX0_ok, nmX0⟩
  | 1, h => cases h; exact ⟨rfl, zin_1, tyX1_ok, nmX1⟩
  | 2, h => cases h; exact ⟨rfl, zin_2, tyX2_ok, nmX2⟩
  | 3, h => cases h; exact ⟨rfl, zin_3, tyX3_ok, nmX3⟩
  | 4, h => cases h; exact ⟨rfl, zin_4, tyX4_ok, nmX4⟩
  | 5, h => cases h; exact ⟨rfl, zin_5, tyX5_ok, nmX5⟩
  | 6, h => cases h; exact ⟨rfl, zin_6, tyX6_ok, nmX6⟩
  | 7, h => cases h; exact ⟨rfl, zin_7, tyX7_ok, nmX7⟩
  | 8, h => cases h; exact ⟨rfl, zin_8, tyX8_ok, nmX8⟩
  | 9, h => cases h; exact ⟨rfl, zin_9, tyX9_ok, nmX9⟩
  | 10, h => cases h; exact ⟨rfl, zin_10, tyX10_ok, nmX10⟩
  | 11, h => cases h; exact ⟨rfl, zin_11, tyX11_ok, nmX11⟩
  | 12, h => cases h; exact ⟨rfl, zin_12, tyX12_ok, nmX12⟩
  | c + 13, h => simp [vwCl] at h
