/-! ===== class and model side by side: what holds between the calls ===== -/
/-- the neighbours of a cell, row by row -/
def zbes (W H c way : Nat) : Option Nat :=
  if 1 ≤ c % W + (if way < 4 then way else way + 1) % 3 ∧ c % W + (if way < 4 then way else way + 1) % 3 ≤ W ∧ 1 ≤ c / W + (if way < 4 then way else way + 1) / 3 ∧ c / W + (if way < 4 then way else way + 1) / 3 ≤ H then some (W * (c / W + (if way < 4 then way else way + 1) / 3 - 1) + (c % W + (if way < 4 then way else way + 1) % 3 - 1)) else none
def NB (W H c : Nat) : List Nat := (List.range 8).filterMap (zbes W H c)
/-- what one finger gives at a place -/
def zfelt1 (o u v p x y : Int32) : Int32 := if o = 0 then 0 else (if 0 < p - 12 * ((2 * x - u) * (2 * x - u) + (2 * y - v) * (2 * y - v)) then p - 12 * ((2 * x - u) * (2 * x - u) + (2 * y - v) * (2 * y - v)) else 0)
def zfeltN (o u v p : Nat → Int32) (x y : Int32) : Nat → Int32
  | 0 => 0
  | k + 1 => zfeltN o u v p x y k + zfelt1 (o k) (u k) (v k) (p k) x y
abbrev zfelt (o u v p : Nat → Int32) (W c : Nat) : Int32 := zfeltN o u v p (nI (c % W)) (nI (c / W)) 5
def RP (m : zM) : Prop := m.1 1 1 = m.1 68 0 ∧ (∃ n : Nat, n ≤ 40 ∧ m.1 68 0 = nI n) ∧ m.1 2 = m.1 69
def RJ (t : Nat) (m : zM) : Prop := ∃ N : Nat, N ≤ 240 * t ∧ m.1 8 4 = nI N ∧ m.1 68 37 = nI (min N 12) ∧ (∀ p, p < min N 12 → m.1 96 p = m.1 9 ((N - 1 - p) % 12) ∧ m.1 97 p = m.1 10 ((N - 1 - p) % 12) ∧ m.1 98 p = m.1 11 ((N - 1 - p) % 12)) ∧ (∀ k, k < 5 → m.1 12 k = m.1 99 k) ∧ nI N = m.1 99 1 + m.1 99 2 + m.1 99 3 + m.1 99 4
def RC (m : zM) : Prop := m.1 13 8 = m.1 68 42 ∧ m.1 13 9 = m.1 68 43 ∧ m.1 60 2 = m.1 68 44 ∧ m.1 0 3 = m.1 68 45 ∧ m.1 0 4 = m.1 68 46
def RRw (m : zM) : Prop := (∀ j, j < 6 → m.2.2 45 j = j) ∧ (∀ j, j < 6 → m.2.2 61 j < 6) ∧ (∀ i j, i < 6 → j < 6 → m.2.2 61 i = m.2.2 61 j → i = j)
def Abs (m : zM) : Prop := m.1 13 7 = 0 ∧ m.1 68 2 = 0 ∧ ∀ k, k < 5 → m.1 21 k = m.1 76 k ∧ m.1 22 k = m.1 77 k ∧ m.1 23 k = m.1 78 k
def RGr (W H : Nat) (m : zM) : Prop := m.1 13 7 = 1 ∧ 3 ≤ W ∧ W ≤ 8 ∧ 3 ≤ H ∧ H ≤ 8 ∧ m.1 14 0 = nI W ∧ m.1 14 1 = nI H ∧ m.1 14 2 = nI (W * H) ∧ m.1 68 2 = nI W ∧ m.1 68 3 = nI H ∧
  (∀ c, c < W * H → m.1 15 c = nI (c % W) ∧ m.1 16 c = nI (c / W) ∧ m.1 17 c = nI (NB W H c).length ∧ ∀ i : Nat, i < (NB W H c).length → m.1 18 (8 * c + i) = nI ((NB W H c).getD i 0))
def RHd (W H : Nat) (m : zM) : Prop := (∀ k, k < 5 → m.1 20 k = m.1 75 k ∧ m.1 21 k = m.1 76 k ∧ m.1 22 k = m.1 77 k ∧ m.1 23 k = m.1 78 k) ∧ (∀ k, k < 5 → (m.1 75 k = 0 ∨ m.1 75 k = 1) ∧ (m.1 75 k = 1 → ∃ u v p : Nat, u ≤ 2 * W - 2 ∧ v ≤ 2 * H - 2 ∧ 10 ≤ p ∧ p ≤ 250 ∧ m.1 76 k = nI u ∧ m.1 77 k = nI v ∧ m.1 78 k = nI p))
def RSn (W H : Nat) (m : zM) : Prop := ∀ c, c < W * H → m.1 34 c = zfelt (m.1 75) (m.1 76) (m.1 77) (m.1 78) W c
def RSf (n : Nat) (m : zM) : Prop := (∀ k, k < n → m.1 32 k = m.1 70 k ∧ m.1 33 k = m.1 71 k ∧ m.1 35 k = m.1 72 k ∧ m.1 36 k = m.1 73 k ∧ m.1 52 k = m.1 74 k) ∧ (∀ k, k < n → 0 ≤ m.1 70 k ∧ m.1 70 k ≤ 999 ∧ -3000 ≤ m.1 71 k ∧ m.1 71 k ≤ 3000)
def RSt (m : zM) : Prop := ∀ k, k < 9 → m.1 26 k = m.1 80 k ∧ zxs 1001 k ≤ m.1 80 k ∧ m.1 80 k ≤ zxs 1002 k
def RDr (m : zM) : Prop := (∀ k, k < 3 → m.1 25 k = m.1 79 k ∧ 0 ≤ m.1 79 k ∧ m.1 79 k ≤ 60) ∧ m.1 24 1 = m.1 68 15 ∧ (∃ d : Nat, d < 3 ∧ m.1 68 15 = nI d) ∧ m.1 24 2 = m.1 68 16 ∧ 0 ≤ m.1 68 16
def RFr (m : zM) : Prop := m.1 13 14 = m.1 68 17 ∧ m.1 13 12 = m.1 68 18 ∧ m.1 13 13 = m.1 68 19 ∧ (m.1 68 19 = 0 ∨ m.1 68 19 = 1)
def RSp (m : zM) : Prop := ∃ S : Nat, S ≤ 6 ∧ m.1 44 4 = nI S ∧ m.1 68 20 = nI S ∧ ∀ s, s < S → (m.1 (46 + s) 0 = m.1 81 s ∧ m.1 (46 + s) 1 = m.1 82 s ∧ m.1 (46 + s) 2 = m.1 83 s ∧ m.1 (46 + s) 3 = m.1 84 s ∧ m.1 (46 + s) 4 = m.1 85 s ∧ m.1 (46 + s) 5 = m.1 86 s) ∧ 0 ≤ m.1 84 s ∧ m.1 84 s ≤ 112 ∧ 0 ≤ m.1 85 s ∧ m.1 85 s ≤ 112
def RTk (m : zM) : Prop := ∃ T : Nat, T ≤ 6 ∧ m.1 60 1 = nI T ∧ m.1 68 27 = nI T ∧ ∀ j, j < T → (m.1 (62 + m.2.2 61 j) 0 = m.1 87 j ∧ m.1 (62 + m.2.2 61 j) 1 = m.1 88 j ∧ m.1 (62 + m.2.2 61 j) 2 = m.1 89 j ∧ m.1 (62 + m.2.2 61 j) 3 = m.1 90 j ∧ m.1 (62 + m.2.2 61 j) 4 = m.1 91 j ∧ m.1 (62 + m.2.2 61 j) 5 = m.1 92 j ∧ m.1 (62 + m.2.2 61 j) 6 = m.1 93 j ∧ m.1 (62 + m.2.2 61 j) 7 = m.1 94 j ∧ m.1 (62 + m.2.2 61 j) 8 = m.1 95 j) ∧ 0 ≤ m.1 88 j ∧ m.1 88 j ≤ 112 ∧ 0 ≤ m.1 89 j ∧ m.1 89 j ≤ 112 ∧ (m.1 95 j = 0 ∨ m.1 95 j = 1)
def Prs (W H : Nat) (m : zM) : Prop := RGr W H m ∧ RHd W H m ∧ RSn W H m ∧ RSf (W * H) m ∧ RSt m ∧ RDr m ∧ RFr m ∧ RSp m ∧ RTk m
def Rel (t : Nat) (m : zM) : Prop := RP m ∧ RJ t m ∧ RC m ∧ RRw m ∧ (Abs m ∨ ∃ W H, Prs W H m)
theorem RJ.mono {t u : Nat} {m : zM} (h : RJ t m) (hu : t ≤ u) : RJ u m := by
  obtain ⟨N, h1, h2⟩ := h
  exact ⟨N, Nat.le_trans h1 (Nat.mul_le_mul_left _ hu), h2⟩
theorem Rel.mono {t u : Nat} {m : zM} (h : Rel t m) (hu : t ≤ u) : Rel u m := ⟨h.1, h.2.1.mono hu, h.2.2⟩
/-! glass or none: what the two sides ask first -/
theorem pr_class {W H : Nat} {m : zM} (h : Prs W H m) : m.1 13 7 = 1 := h.1.1
theorem pr_wide {W H : Nat} {m : zM} (h : Prs W H m) : m.1 68 2 = nI W := h.1.2.2.2.2.2.2.2.2.1
theorem pr_high {W H : Nat} {m : zM} (h : Prs W H m) : m.1 68 3 = nI H := h.1.2.2.2.2.2.2.2.2.2.1
theorem isG_t {W : Nat} {m : zM} (h : m.1 68 2 = nI W) (h3 : 3 ≤ W) (h8 : W ≤ 8) : f_X12_isGlass m = some true := by
  unfold f_X12_isGlass
  rw [h, if_neg (nI_nle (by omega) (by omega))]
theorem isG_f {m : zM} (h : m.1 68 2 = 0) : f_X12_isGlass m = some false := by
  unfold f_X12_isGlass
  rw [h]
  rfl
theorem cells_eq {W H : Nat} {m : zM} (h1 : m.1 68 2 = nI W) (h2 : m.1 68 3 = nI H) : f_X12_cells m = some (nI (W * H)) := by
  unfold f_X12_cells
  rw [h1, h2, pk_mul]
