/-! ===== a frame: tools ===== -/
/-- all but the cells of a list is as it was -/
def Fr (S : List Nat) (m m' : zM) : Prop := m'.2 = m.2 ∧ ∀ c, c ∉ S → m'.1 c = m.1 c
theorem Fr.refl {S : List Nat} {m : zM} : Fr S m m := ⟨rfl, fun _ _ => rfl⟩
theorem Fr.trans {S : List Nat} {m m1 m2 : zM} (h : Fr S m m1) (h2 : Fr S m1 m2) : Fr S m m2 := ⟨h2.1.trans h.1, fun c hc => (h2.2 c hc).trans (h.2 c hc)⟩
theorem Fr.wide {S S' : List Nat} {m m1 : zM} (h : Fr S m m1) (hs : ∀ c, c ∈ S → c ∈ S') : Fr S' m m1 := ⟨h.1, fun c hc => h.2 c (fun q => hc (hs c q))⟩
theorem Fr.st {S : List Nat} {m m1 : zM} (h : Fr S m m1) {a k : Nat} {x : Int32} (ha : a ∈ S) : Fr S m (zi m1 a k x) := ⟨h.1, fun c hc => (zi_ne (a := a) (c := c) (fun e => hc (by rw [e]; exact ha))).trans (h.2 c hc)⟩
theorem ziA {m : zM} {a k j : Nat} {x : Int32} : (zi m a k x).1 a j = if j = k then x else m.1 a j := by simp [zi]
theorem ziE {m : zM} {a k : Nat} {x : Int32} : (zi m a k x).1 a k = x := by simp [zi]
theorem ziN {m : zM} {a k j : Nat} {x : Int32} (h : j ≠ k) : (zi m a k x).1 a j = m.1 a j := by simp [zi, h]
theorem ziO {m : zM} {a k c j : Nat} {x : Int32} (h : c ≠ a) : (zi m a k x).1 c j = m.1 c j := by simp [zi, h]
/-! the neighbours: all are cells, and the bond is mutual -/
def ckNB : Bool := allLt 6 fun W' => allLt 6 fun H' => allLt ((W' + 3) * (H' + 3)) fun c => (NB (W' + 3) (H' + 3) c).all (fun x => decide (x < (W' + 3) * (H' + 3)) && decide (x ≠ c) && (NB (W' + 3) (H' + 3) x).contains c) && decide ((NB (W' + 3) (H' + 3) c).length ≤ 8)
theorem ckNB_ok : ckNB = true := by decide +kernel
theorem NB_ok {W H : Nat} (w3 : 3 ≤ W) (w8 : W ≤ 8) (h3 : 3 ≤ H) (h8 : H ≤ 8) {c : Nat} (hc : c < W * H) : (∀ x, x ∈ NB W H c → x < W * H ∧ x ≠ c ∧ c ∈ NB W H x) ∧ (NB W H c).length ≤ 8 := by
  obtain ⟨W', rfl⟩ : ∃ k, W = k + 3 := ⟨W - 3, by omega⟩
  obtain ⟨H', rfl⟩ : ∃ k, H = k + 3 := ⟨H - 3, by omega⟩
  have := allLt_spec (allLt_spec (allLt_spec ckNB_ok (i := W') (by omega)) (i := H') (by omega)) hc
  rw [Bool.and_eq_true, List.all_eq_true, decide_eq_true_eq] at this
  refine ⟨fun x hx => ?_, this.2⟩
  have q := this.1 x hx
  rw [Bool.and_eq_true, Bool.and_eq_true, decide_eq_true_eq, decide_eq_true_eq] at q
  exact ⟨q.1.1, q.1.2, by simpa using q.2⟩
/-! beside -/
theorem zbes_lt {W H c w x : Nat} (hx : zbes W H c w = some x) (hw : 0 < W) : x < W * H := by
  unfold zbes at hx
  generalize (if w < 4 then w else w + 1) = v at hx
  split at hx
  · rename_i h
    obtain ⟨h1, h2, h3, h4⟩ := h
    injection hx with hx
    subst hx
    have a : c / W + v / 3 - 1 ≤ H - 1 := by omega
    have b : c % W + v % 3 - 1 < W := by omega
    have hH : 1 ≤ H := by omega
    calc W * (c / W + v / 3 - 1) + (c % W + v % 3 - 1) < W * (c / W + v / 3 - 1) + W := by omega
      _ = W * ((c / W + v / 3 - 1) + 1) := by rw [Nat.mul_add, Nat.mul_one]
      _ ≤ W * H := Nat.mul_le_mul_left _ (by omega)
  · cases hx
theorem within_m1 {a n : Nat} (ha : a < 1000) (hn : n < 1000) (h0 : 0 < n) (m : zM) : f_X12_within (nI a - 1) 0 (nI n - 1) m = some (decide (1 ≤ a ∧ a ≤ n)) := by
  rw [w12]
  obtain ⟨k, rfl⟩ : ∃ k, n = k + 1 := ⟨n - 1, by omega⟩
  rw [nI_pred]
  congr 1
  cases a with
  | zero =>
    have h1 : ¬ (0 : Int32) ≤ nI 0 - 1 := by decide
    have h2 : ¬ (1 ≤ 0 ∧ 0 ≤ k + 1) := by omega
    simp [h1]
  | succ a =>
    rw [nI_pred]
    have h1 : (0 : Int32) ≤ nI a := nI_pos' (by omega)
    have h2 : (nI a ≤ nI k) ↔ a ≤ k := nI_leI (by omega) (by omega)
    by_cases q : a ≤ k
    · simp [h1, h2.mpr q, q]
    · have : ¬ nI a ≤ nI k := fun z => q (h2.mp z)
      simp [this, q]
theorem beside_eq {W H : Nat} {m : zM} (hw : m.1 68 2 = nI W) (hh : m.1 68 3 = nI H) (w3 : 3 ≤ W) (w8 : W ≤ 8) (h3 : 3 ≤ H) (h8 : H ≤ 8) {c w : Nat} (hc : c < W * H) (hw8 : w < 8) : f_X12_beside (nI c) (nI w) m = some (match zbes W H c w with | none => -1 | some x => nI x) := by
  have h64 : W * H ≤ 64 := Nat.mul_le_mul w8 h8
  have z1 : znz (nI W) = true := by simp [znz, nI_ne0 (show 0 < W by omega) (show W < 2 ^ 31 by omega)]
  have r1 : zrem (nI c) (nI W) = nI (c % W) := pk_rem (by omega) (by omega) (by omega)
  have r2 : nI c / nI W = nI (c / W) := pk_div (by omega) (by omega) (by omega)
  have hcW : c / W < 64 := Nat.lt_of_le_of_lt (Nat.div_le_self _ _) (by omega)
  have hcm : c % W < 8 := Nat.lt_of_lt_of_le (Nat.mod_lt _ (by omega)) w8
  have key : ∀ v, v < 9 → j_X12_beside_12 (nI c) (nI v) m = some (if 1 ≤ c % W + v % 3 ∧ c % W + v % 3 ≤ W ∧ 1 ≤ c / W + v / 3 ∧ c / W + v / 3 ≤ H then nI (W * (c / W + v / 3 - 1) + (c % W + v % 3 - 1)) else -1) := by
    intro v hv
    have q1 : zrem (nI v) 3 = nI (v % 3) := pk_rem (d := 3) (by omega) (by omega) (by omega)
    have q2 : nI v / 3 = nI (v / 3) := pk_div (d := 3) (by omega) (by omega) (by omega)
    unfold j_X12_beside_12
    simp only [hw, hh, z1, zg_t, r1, r2, q1, q2, nI_add]
    rw [within_m1 (by omega) (by omega) (by omega), within_m1 (by omega) (by omega) (by omega)]
    simp only [Option.bind_some]
    by_cases a1 : 1 ≤ c % W + v % 3 ∧ c % W + v % 3 ≤ W
    · by_cases a2 : 1 ≤ c / W + v / 3 ∧ c / W + v / 3 ≤ H
      · simp only [a1, a2, and_self, decide_true, bi_t, show ¬ (1 : Int32) = 0 by decide, if_false, if_true]
        obtain ⟨p, hp⟩ : ∃ k, c % W + v % 3 = k + 1 := ⟨c % W + v % 3 - 1, by omega⟩
        obtain ⟨q, hq⟩ : ∃ k, c / W + v / 3 = k + 1 := ⟨c / W + v / 3 - 1, by omega⟩
        rw [hp, hq, nI_pred, nI_pred, pk_mul, nI_add]
        rfl
      · simp only [a1, a2, and_self, decide_true, decide_false, bi_t, bi_f, show ¬ (1 : Int32) = 0 by decide, if_false, if_true]
        rw [if_neg (fun z => z.2.2)]
    · simp only [a1, decide_false, bi_f, if_true]
      rw [if_neg (fun z => a1 ⟨z.1, z.2.1⟩)]
  unfold f_X12_beside zbes
  by_cases h4 : w < 4
  · have : ¬ (4 : Int32) ≤ nI w := nI_ge (b := 4) h4 (by omega)
    rw [if_neg this, key w (by omega)]
    simp only [h4, if_true]
    split <;> simp_all
  · have : (4 : Int32) ≤ nI w := nI_le (a := 4) (by omega) (by omega)
    rw [if_pos this, nI_1, key (w + 1) (by omega)]
    simp only [h4, if_false]
    split <;> simp_all
/-! folding over the neighbours, way by way and place by place -/
def NBk (W H c k : Nat) : List Nat := (List.range k).filterMap (zbes W H c)
theorem NBk_8 {W H c : Nat} : NBk W H c 8 = NB W H c := rfl
theorem NBk_none {W H c k : Nat} (h : zbes W H c k = none) : NBk W H c (k + 1) = NBk W H c k := by
  unfold NBk
  rw [List.range_succ, List.filterMap_append]
  simp [h]
theorem NBk_some {W H c k x : Nat} (h : zbes W H c k = some x) : NBk W H c (k + 1) = NBk W H c k ++ [x] := by
  unfold NBk
  rw [List.range_succ, List.filterMap_append]
  simp [h]
theorem NB_mem_zbes {W H c k x : Nat} (h : zbes W H c k = some x) (hk : k < 8) : x ∈ NB W H c := List.mem_filterMap.mpr ⟨k, List.mem_range.mpr hk, h⟩
theorem take_succ_getD {L : List Nat} {i : Nat} (h : i < L.length) : L.take (i + 1) = L.take i ++ [L.getD i 0] := by
  rw [List.take_succ, List.getElem?_eq_getElem h]
  simp [List.getD, List.getElem?_eq_getElem h]
theorem getD_mem' {L : List Nat} {i : Nat} (h : i < L.length) : L.getD i 0 ∈ L := by
  rw [List.getD, List.getElem?_eq_getElem h]
  exact List.getElem_mem h
theorem neigh_eq {W H : Nat} {m : zM} (g : RGr W H m) {c i : Nat} (hc : c < W * H) (hi : i < (NB W H c).length) : f_X1_neighbour (nI c) (nI i) m = some (nI ((NB W H c).getD i 0)) := by
  obtain ⟨_, w3, w8, h3, h8, _, _, _, _, _, q6⟩ := g
  have h64 : W * H ≤ 64 := Nat.mul_le_mul w8 h8
  have hl := (NB_ok w3 w8 h3 h8 hc).2
  unfold f_X1_neighbour
  rw [show (8 : Int32) = nI 8 from rfl, pk_mul, nI_add, zin_nI (show 8 * c + i < 512 by omega) (by decide), zg_t, nI_clamp (by omega), (q6 c hc).2.2.2 i hi]
