/-! ===== glass ===== -/
theorem fill_25 (x : Int32) (m : zM) : f_J7_fill_53178 x m = some (zrow m 25 (zup 3 (fun _ => x) (m.1 25))) := by
  unfold f_J7_fill_53178
  rw [zfor (fun i => (nI i, zrow m 25 (zup i (fun _ => x) (m.1 25)))) 3 (r := zrow m 25 (zup 3 (fun _ => x) (m.1 25))) (by rw [zup_0, zrow_self]; rfl) (fun i hi => ?_) rfl (by omega)]
  · rfl
  · unfold b_J7_fill_53178_5
    have hc : ¬ (3 : Int32) ≤ nI i := nI_ge (b := 3) hi (by omega)
    simp only [hc, if_false, zin_nI hi (show (3 : Nat) < 2 ^ 31 by omega), zg_t, nI_clamp (show i < 2 ^ 31 by omega), zi_zrow, nI_1]
    rw [zup_succ (G := fun _ => x) (g := m.1 25) rfl]
theorem fill_32 (x : Int32) (m : zM) : f_J7_fill_53178_v1 x m = some (zrow m 32 (zup 64 (fun _ => x) (m.1 32))) := by
  unfold f_J7_fill_53178_v1
  rw [zfor (fun i => (nI i, zrow m 32 (zup i (fun _ => x) (m.1 32)))) 64 (r := zrow m 32 (zup 64 (fun _ => x) (m.1 32))) (by rw [zup_0, zrow_self]; rfl) (fun i hi => ?_) rfl (by omega)]
  · rfl
  · unfold b_J7_fill_53178_v1_5
    have hc : ¬ (64 : Int32) ≤ nI i := nI_ge (b := 64) hi (by omega)
    simp only [hc, if_false, zin_nI hi (show (64 : Nat) < 2 ^ 31 by omega), zg_t, nI_clamp (show i < 2 ^ 31 by omega), zi_zrow, nI_1]
    rw [zup_succ (G := fun _ => x) (g := m.1 32) rfl]
theorem fill_33 (x : Int32) (m : zM) : f_J7_fill_53178_v2 x m = some (zrow m 33 (zup 64 (fun _ => x) (m.1 33))) := by
  unfold f_J7_fill_53178_v2
  rw [zfor (fun i => (nI i, zrow m 33 (zup i (fun _ => x) (m.1 33)))) 64 (r := zrow m 33 (zup 64 (fun _ => x) (m.1 33))) (by rw [zup_0, zrow_self]; rfl) (fun i hi => ?_) rfl (by omega)]
  · rfl
  · unfold b_J7_fill_53178_v2_5
    have hc : ¬ (64 : Int32) ≤ nI i := nI_ge (b := 64) hi (by omega)
    simp only [hc, if_false, zin_nI hi (show (64 : Nat) < 2 ^ 31 by omega), zg_t, nI_clamp (show i < 2 ^ 31 by omega), zi_zrow, nI_1]
    rw [zup_succ (G := fun _ => x) (g := m.1 33) rfl]
theorem fill_34 (x : Int32) (m : zM) : f_J7_fill_53178_v3 x m = some (zrow m 34 (zup 64 (fun _ => x) (m.1 34))) := by
  unfold f_J7_fill_53178_v3
  rw [zfor (fun i => (nI i, zrow m 34 (zup i (fun _ => x) (m.1 34)))) 64 (r := zrow m 34 (zup 64 (fun _ => x) (m.1 34))) (by rw [zup_0, zrow_self]; rfl) (fun i hi => ?_) rfl (by omega)]
  · rfl
  · unfold b_J7_fill_53178_v3_5
    have hc : ¬ (64 : Int32) ≤ nI i := nI_ge (b := 64) hi (by omega)
    simp only [hc, if_false, zin_nI hi (show (64 : Nat) < 2 ^ 31 by omega), zg_t, nI_clamp (show i < 2 ^ 31 by omega), zi_zrow, nI_1]
    rw [zup_succ (G := fun _ => x) (g := m.1 34) rfl]
theorem fill_35 (x : Int32) (m : zM) : f_J7_fill_53178_v4 x m = some (zrow m 35 (zup 64 (fun _ => x) (m.1 35))) := by
  unfold f_J7_fill_53178_v4
  rw [zfor (fun i => (nI i, zrow m 35 (zup i (fun _ => x) (m.1 35)))) 64 (r := zrow m 35 (zup 64 (fun _ => x) (m.1 35))) (by rw [zup_0, zrow_self]; rfl) (fun i hi => ?_) rfl (by omega)]
  · rfl
  · unfold b_J7_fill_53178_v4_5
    have hc : ¬ (64 : Int32) ≤ nI i := nI_ge (b := 64) hi (by omega)
    simp only [hc, if_false, zin_nI hi (show (64 : Nat) < 2 ^ 31 by omega), zg_t, nI_clamp (show i < 2 ^ 31 by omega), zi_zrow, nI_1]
    rw [zup_succ (G := fun _ => x) (g := m.1 35) rfl]
theorem fill_36 (x : Int32) (m : zM) : f_J7_fill_53178_v5 x m = some (zrow m 36 (zup 64 (fun _ => x) (m.1 36))) := by
  unfold f_J7_fill_53178_v5
  rw [zfor (fun i => (nI i, zrow m 36 (zup i (fun _ => x) (m.1 36)))) 64 (r := zrow m 36 (zup 64 (fun _ => x) (m.1 36))) (by rw [zup_0, zrow_self]; rfl) (fun i hi => ?_) rfl (by omega)]
  · rfl
  · unfold b_J7_fill_53178_v5_5
    have hc : ¬ (64 : Int32) ≤ nI i := nI_ge (b := 64) hi (by omega)
    simp only [hc, if_false, zin_nI hi (show (64 : Nat) < 2 ^ 31 by omega), zg_t, nI_clamp (show i < 2 ^ 31 by omega), zi_zrow, nI_1]
    rw [zup_succ (G := fun _ => x) (g := m.1 36) rfl]
theorem fill_52 (x : Int32) (m : zM) : f_J7_fill_53178_v6 x m = some (zrow m 52 (zup 64 (fun _ => x) (m.1 52))) := by
  unfold f_J7_fill_53178_v6
  rw [zfor (fun i => (nI i, zrow m 52 (zup i (fun _ => x) (m.1 52)))) 64 (r := zrow m 52 (zup 64 (fun _ => x) (m.1 52))) (by rw [zup_0, zrow_self]; rfl) (fun i hi => ?_) rfl (by omega)]
  · rfl
  · unfold b_J7_fill_53178_v6_5
    have hc : ¬ (64 : Int32) ≤ nI i := nI_ge (b := 64) hi (by omega)
    simp only [hc, if_false, zin_nI hi (show (64 : Nat) < 2 ^ 31 by omega), zg_t, nI_clamp (show i < 2 ^ 31 by omega), zi_zrow, nI_1]
    rw [zup_succ (G := fun _ => x) (g := m.1 52) rfl]
theorem fill_43 (x : Int32) (m : zM) : f_J7_fill_53178_v7 x m = some (zrow m 43 (zup 256 (fun _ => x) (m.1 43))) := by
  unfold f_J7_fill_53178_v7
  rw [zfor (fun i => (nI i, zrow m 43 (zup i (fun _ => x) (m.1 43)))) 256 (r := zrow m 43 (zup 256 (fun _ => x) (m.1 43))) (by rw [zup_0, zrow_self]; rfl) (fun i hi => ?_) rfl (by omega)]
  · rfl
  · unfold b_J7_fill_53178_v7_5
    have hc : ¬ (256 : Int32) ≤ nI i := nI_ge (b := 256) hi (by omega)
    simp only [hc, if_false, zin_nI hi (show (256 : Nat) < 2 ^ 31 by omega), zg_t, nI_clamp (show i < 2 ^ 31 by omega), zi_zrow, nI_1]
    rw [zup_succ (G := fun _ => x) (g := m.1 43) rfl]
theorem lift_20 (m : zM) : zloop b_X2_liftAll_2 zFU (0, m) = some (zrow m 20 (zup 5 (fun _ => 0) (m.1 20))) := by
  refine zfor (fun i => (nI i, zrow m 20 (zup i (fun _ => 0) (m.1 20)))) 5 (by rw [zup_0, zrow_self]; rfl) (fun i hi => ?_) rfl (by omega)
  unfold b_X2_liftAll_2
  have hc : ¬ (5 : Int32) ≤ nI i := nI_ge (b := 5) hi (by omega)
  simp only [hc, if_false, zin_nI hi (show (5 : Nat) < 2 ^ 31 by omega), zg_t, nI_clamp (show i < 2 ^ 31 by omega), zi_zrow, nI_1]
  rw [zup_succ (G := fun _ => 0) (g := m.1 20) rfl]
theorem lift_75 (m : zM) : zloop b_X12_glass_87 zFU (0, m) = some (zrow m 75 (zup 5 (fun _ => 0) (m.1 75))) := by
  refine zfor (fun i => (nI i, zrow m 75 (zup i (fun _ => 0) (m.1 75)))) 5 (by rw [zup_0, zrow_self]; rfl) (fun i hi => ?_) rfl (by omega)
  unfold b_X12_glass_87
  have hc : ¬ (5 : Int32) ≤ nI i := nI_ge (b := 5) hi (by omega)
  simp only [hc, if_false, zin_nI hi (show (5 : Nat) < 2 ^ 31 by omega), zg_t, nI_clamp (show i < 2 ^ 31 by omega), zi_zrow, nI_1]
  rw [zup_succ (G := fun _ => 0) (g := m.1 75) rfl]
theorem lift_79 (m : zM) : zloop b_X12_glass_107 zFU (0, m) = some (zrow m 79 (zup 3 (fun _ => 0) (m.1 79))) := by
  refine zfor (fun i => (nI i, zrow m 79 (zup i (fun _ => 0) (m.1 79)))) 3 (by rw [zup_0, zrow_self]; rfl) (fun i hi => ?_) rfl (by omega)
  unfold b_X12_glass_107
  have hc : ¬ (3 : Int32) ≤ nI i := nI_ge (b := 3) hi (by omega)
  simp only [hc, if_false, zin_nI hi (show (3 : Nat) < 2 ^ 31 by omega), zg_t, nI_clamp (show i < 2 ^ 31 by omega), zi_zrow, nI_1]
  rw [zup_succ (G := fun _ => 0) (g := m.1 79) rfl]
def mem5 (m : zM) (a b c d e : Nat → Int32) : zM := zrow (zrow (zrow (zrow (zrow m 70 a) 71 b) 72 c) 73 d) 74 e
theorem mem5_70 {m : zM} {a b c d e : Nat → Int32} {k : Nat} {v : Int32} : zi (mem5 m a b c d e) 70 k v = mem5 m (fun j => if j = k then v else a j) b c d e := by
  unfold mem5
  rw [zi_zrow_ne (by decide), zi_zrow_ne (by decide), zi_zrow_ne (by decide), zi_zrow_ne (by decide), zi_zrow]
theorem mem5_71 {m : zM} {a b c d e : Nat → Int32} {k : Nat} {v : Int32} : zi (mem5 m a b c d e) 71 k v = mem5 m a (fun j => if j = k then v else b j) c d e := by
  unfold mem5
  rw [zi_zrow_ne (by decide), zi_zrow_ne (by decide), zi_zrow_ne (by decide), zi_zrow]
theorem mem5_72 {m : zM} {a b c d e : Nat → Int32} {k : Nat} {v : Int32} : zi (mem5 m a b c d e) 72 k v = mem5 m a b (fun j => if j = k then v else c j) d e := by
  unfold mem5
  rw [zi_zrow_ne (by decide), zi_zrow_ne (by decide), zi_zrow]
theorem mem5_73 {m : zM} {a b c d e : Nat → Int32} {k : Nat} {v : Int32} : zi (mem5 m a b c d e) 73 k v = mem5 m a b c (fun j => if j = k then v else d j) e := by
  unfold mem5
  rw [zi_zrow_ne (by decide), zi_zrow]
theorem mem5_74 {m : zM} {a b c d e : Nat → Int32} {k : Nat} {v : Int32} : zi (mem5 m a b c d e) 74 k v = mem5 m a b c d (fun j => if j = k then v else e j) := by
  unfold mem5
  rw [zi_zrow]
theorem glass5 (m : zM) : zloop b_X12_glass_36 zFU (0, m) = some (mem5 m (zup 64 (fun _ => 100) (m.1 70)) (zup 64 (fun _ => 100) (m.1 71)) (zup 64 (fun _ => 0) (m.1 72)) (zup 64 (fun _ => 0) (m.1 73)) (zup 64 (fun _ => -1) (m.1 74))) := by
  refine zfor (fun i => (nI i, mem5 m (zup i (fun _ => 100) (m.1 70)) (zup i (fun _ => 100) (m.1 71)) (zup i (fun _ => 0) (m.1 72)) (zup i (fun _ => 0) (m.1 73)) (zup i (fun _ => -1) (m.1 74)))) 64 ?_ (fun i hi => ?_) rfl (by omega)
  · simp only [zup_0]
    unfold mem5
    rw [zrow_self, zrow_self, zrow_self, zrow_self, zrow_self]
    rfl
  · unfold b_X12_glass_36
    have hc : ¬ (64 : Int32) ≤ nI i := nI_ge (b := 64) hi (by omega)
    simp only [hc, if_false, zin_nI hi (show (64 : Nat) < 2 ^ 31 by omega), zg_t, nI_clamp (show i < 2 ^ 31 by omega), mem5_70, mem5_71, mem5_72, mem5_73, mem5_74, nI_1]
    rw [zup_succ (G := fun _ => 100) (g := m.1 70) rfl, zup_succ (G := fun _ => 100) (g := m.1 71) rfl, zup_succ (G := fun _ => 0) (g := m.1 72) rfl, zup_succ (G := fun _ => 0) (g := m.1 73) rfl, zup_succ (G := fun _ => -1) (g := m.1 74) rfl]
theorem zcp_row {m : zM} {f : Nat → Int32} {a sp dp n : Nat} : zcp m f a sp dp n = zrow m a (va_cpy f (m.1 a) sp dp n) := by
  unfold zcp zrow
  refine Prod.ext ?_ rfl
  funext c j
  by_cases h : c = a
  · subst h; simp
  · simp [h]
/-- what a class call leaves alone -/
def frC (m m' : zM) : Prop := (∀ c, 68 ≤ c → m'.1 c = m.1 c) ∧ m'.2 = m.2
def frM (m m' : zM) : Prop := (∀ c, c < 68 → m'.1 c = m.1 c) ∧ m'.2 = m.2
theorem zex {V v : Int32} {B : zM} {P : zM → Prop} (e : V = v) (p : P B) : ∃ m1, (some (V, B) : Option (Int32 × zM)) = some (v, m1) ∧ P m1 := ⟨B, by rw [e], p⟩
theorem glass_c {W H : Nat} (m : zM) (w3 : 3 ≤ W) (w8 : W ≤ 8) (h3 : 3 ≤ H) (h8 : H ≤ 8) : ∃ m1, f_X11_glass (nI W) (nI H) m = some (nI (W * H), m1) ∧ frC m m1 ∧
    (m1.1 13 7 = 1 ∧ m1.1 14 0 = nI W ∧ m1.1 14 1 = nI H ∧ m1.1 14 2 = nI (W * H) ∧ ∀ k, k < W * H → GOK W H (m1.1 15) (m1.1 16) (m1.1 17) (m1.1 18) k) ∧
    ((∀ k, k < 5 → m1.1 20 k = 0) ∧ m1.1 21 = m.1 21 ∧ m1.1 22 = m.1 22 ∧ m1.1 23 = m.1 23) ∧ ((∀ k, k < 3 → m1.1 25 k = 0) ∧ m1.1 24 1 = 0 ∧ m1.1 24 2 = 1) ∧ (∀ k, k < 9 → m1.1 26 k = zxs 1003 k) ∧
    (∀ k, k < 64 → m1.1 32 k = 100 ∧ m1.1 33 k = 100 ∧ m1.1 34 k = 0 ∧ m1.1 35 k = 0 ∧ m1.1 36 k = 0 ∧ m1.1 52 k = -1) ∧ (m1.1 44 4 = 0 ∧ m1.1 60 1 = 0 ∧ m1.1 13 12 = 0 ∧ m1.1 13 13 = 0 ∧ m1.1 13 14 = 0 ∧ m1.1 0 4 = m.1 0 4 + 1) ∧
    (m1.1 1 1 = m.1 1 1 ∧ m1.1 2 = m.1 2 ∧ m1.1 8 4 = m.1 8 4 ∧ m1.1 9 = m.1 9 ∧ m1.1 10 = m.1 10 ∧ m1.1 11 = m.1 11 ∧ m1.1 12 = m.1 12 ∧ m1.1 13 8 = m.1 13 8 ∧ m1.1 13 9 = m.1 13 9 ∧ m1.1 60 2 = m.1 60 2 ∧ m1.1 0 3 = m.1 0 3) := by
  obtain ⟨a, b, c, d, hl, hG⟩ := lay_eq (m := zi (zi (zi (zi m 13 7 1) 14 0 (nI W)) 14 1 (nI H)) 14 2 (nI W * nI H)) (W := W) (H := H) (by simp [zi]) (by simp [zi]) w3 w8 h3 h8
  unfold f_X11_glass f_X7_renew f_X1_lay f_X2_liftAll f_X0_renew f_X9_renew f_X8_clear
  have hW : decide ((3 : Int32) ≤ nI W ∧ nI W ≤ 8) = true := decide_eq_true ⟨nI_le (a := 3) w3 (by omega), nI_le (b := 8) w8 (by omega)⟩
  have hH : decide ((3 : Int32) ≤ nI H ∧ nI H ≤ 8) = true := decide_eq_true ⟨nI_le (a := 3) h3 (by omega), nI_le (b := 8) h8 (by omega)⟩
  simp only [w11, Option.bind_some, hW, hH, bi_t, hl, lift_20, fill_25, zcp_row, fill_32, fill_33, fill_34, fill_35, fill_36, fill_52, if_neg (show ¬ (1 : Int32) = 0 by decide)]
  refine zex (by simp [zi, zrow, mem4, pk_mul]) ?_
  refine ⟨⟨fun q hq => ?_, rfl⟩, ⟨?_, ?_, ?_, ?_, fun k hk => ?_⟩, ⟨fun k hk => ?_, ?_, ?_, ?_⟩, ⟨fun k hk => ?_, ?_, ?_⟩, fun k hk => ?_, fun k hk => ?_, ⟨?_, ?_, ?_, ?_, ?_, ?_⟩, ?_⟩
  · funext j
    have n0 : ∀ z : Nat, z < 68 → ¬ q = z := fun z hz e => by omega
    simp [zi, zrow, mem4, n0 0 (by omega), n0 13 (by omega), n0 14 (by omega), n0 15 (by omega), n0 16 (by omega), n0 17 (by omega), n0 18 (by omega), n0 20 (by omega), n0 24 (by omega), n0 25 (by omega), n0 26 (by omega), n0 32 (by omega), n0 33 (by omega), n0 34 (by omega), n0 35 (by omega), n0 36 (by omega), n0 44 (by omega), n0 52 (by omega), n0 60 (by omega)]
  · simp [zi, zrow, mem4]
  · simp [zi, zrow, mem4]
  · simp [zi, zrow, mem4]
  · simp [zi, zrow, mem4, pk_mul]
  · have := hG k hk
    simpa [zi, zrow, mem4] using this
  · simp [zi, zrow, mem4, zup_lt hk]
  · simp [zi, zrow, mem4]
  · simp [zi, zrow, mem4]
  · simp [zi, zrow, mem4]
  · simp [zi, zrow, mem4, zup_lt hk]
  · simp [zi, zrow, mem4]
  · simp [zi, zrow, mem4]
  · simp [zi, zrow, mem4, va_cpy, hk]
  · simp [zi, zrow, mem4, zup_lt hk]
  · simp [zi, zrow, mem4]
  · simp [zi, zrow, mem4]
  · simp [zi, zrow, mem4]
  · simp [zi, zrow, mem4]
  · simp [zi, zrow, mem4]
  · simp [zi, zrow, mem4]
  · refine ⟨?_, ?_, ?_, ?_, ?_, ?_, ?_, ?_, ?_, ?_, ?_⟩ <;> simp [zi, zrow, mem4]
theorem glass_m {W H : Nat} (m : zM) (w3 : 3 ≤ W) (w8 : W ≤ 8) (h3 : 3 ≤ H) (h8 : H ≤ 8) : ∃ m1, f_X12_glass (nI W) (nI H) m = some (nI (W * H), m1) ∧ frM m m1 ∧
    (m1.1 68 2 = nI W ∧ m1.1 68 3 = nI H) ∧ ((∀ k, k < 5 → m1.1 75 k = 0) ∧ m1.1 76 = m.1 76 ∧ m1.1 77 = m.1 77 ∧ m1.1 78 = m.1 78) ∧ ((∀ k, k < 3 → m1.1 79 k = 0) ∧ m1.1 68 15 = 0 ∧ m1.1 68 16 = 1) ∧ (∀ k, k < 9 → m1.1 80 k = zxs 1003 k) ∧
    (∀ k, k < 64 → m1.1 70 k = 100 ∧ m1.1 71 k = 100 ∧ m1.1 72 k = 0 ∧ m1.1 73 k = 0 ∧ m1.1 74 k = -1) ∧ (m1.1 68 20 = 0 ∧ m1.1 68 27 = 0 ∧ m1.1 68 18 = 0 ∧ m1.1 68 19 = 0 ∧ m1.1 68 17 = 0 ∧ m1.1 68 46 = m.1 68 46 + 1) ∧
    (m1.1 68 0 = m.1 68 0 ∧ m1.1 69 = m.1 69 ∧ m1.1 68 37 = m.1 68 37 ∧ m1.1 96 = m.1 96 ∧ m1.1 97 = m.1 97 ∧ m1.1 98 = m.1 98 ∧ m1.1 99 = m.1 99 ∧ m1.1 68 42 = m.1 68 42 ∧ m1.1 68 43 = m.1 68 43 ∧ m1.1 68 44 = m.1 68 44 ∧ m1.1 68 45 = m.1 68 45) := by
  unfold f_X12_glass f_X12_layBounds f_X12_cells
  have hW : decide ((3 : Int32) ≤ nI W ∧ nI W ≤ 8) = true := decide_eq_true ⟨nI_le (a := 3) w3 (by omega), nI_le (b := 8) w8 (by omega)⟩
  have hH : decide ((3 : Int32) ≤ nI H ∧ nI H ≤ 8) = true := decide_eq_true ⟨nI_le (a := 3) h3 (by omega), nI_le (b := 8) h8 (by omega)⟩
  simp only [w12, Option.bind_some, hW, hH, bi_t, glass5, lift_75, lift_79, if_neg (show ¬ (1 : Int32) = 0 by decide)]
  refine zex (by simp [zi, zrow, mem5, pk_mul]) ?_
  refine ⟨⟨fun q hq => ?_, rfl⟩, ⟨?_, ?_⟩, ⟨fun k hk => ?_, ?_, ?_, ?_⟩, ⟨fun k hk => ?_, ?_, ?_⟩, fun k hk => ?_, fun k hk => ?_, ⟨?_, ?_, ?_, ?_, ?_, ?_⟩, ?_⟩
  · funext j
    have n0 : ∀ z : Nat, 68 ≤ z → ¬ q = z := fun z hz e => by omega
    simp [zi, zrow, mem5, n0 68 (by omega), n0 70 (by omega), n0 71 (by omega), n0 72 (by omega), n0 73 (by omega), n0 74 (by omega), n0 75 (by omega), n0 79 (by omega), n0 80 (by omega)]
  · simp [zi, zrow, mem5]
  · simp [zi, zrow, mem5]
  · simp [zi, zrow, mem5, zup_lt hk]
  · simp [zi, zrow, mem5]
  · simp [zi, zrow, mem5]
  · simp [zi, zrow, mem5]
  · simp [zi, zrow, mem5, zup_lt hk]
  · simp [zi, zrow, mem5]
  · simp [zi, zrow, mem5]
  · rcases (show k = 0 ∨ k = 1 ∨ k = 2 ∨ k = 3 ∨ k = 4 ∨ k = 5 ∨ k = 6 ∨ k = 7 ∨ k = 8 by omega) with rfl | rfl | rfl | rfl | rfl | rfl | rfl | rfl | rfl <;> simp [zi, zrow, mem5, zxs]
  · simp [zi, zrow, mem5, zup_lt hk]
  · simp [zi, zrow, mem5]
  · simp [zi, zrow, mem5]
  · simp [zi, zrow, mem5]
  · simp [zi, zrow, mem5]
  · simp [zi, zrow, mem5]
  · simp [zi, zrow, mem5]
  · refine ⟨?_, ?_, ?_, ?_, ?_, ?_, ?_, ?_, ?_, ?_, ?_⟩ <;> simp [zi, zrow, mem5]
theorem felt_off {o u v p : Nat → Int32} {x y : Int32} (h : ∀ k, k < 5 → o k = 0) : zfeltN o u v p x y 5 = 0 := by
  have h0 := h 0 (by omega)
  have h1 := h 1 (by omega)
  have h2 := h 2 (by omega)
  have h3 := h 3 (by omega)
  have h4 := h 4 (by omega)
  simp [zfeltN, zfelt1, h0, h1, h2, h3, h4]
theorem op_glass {t : Nat} {m : zM} (x y : Int32) (h : Rel t m) : ∃ v m1 m2, f_X11_glass x y m = some (v, m1) ∧ f_X12_glass x y m1 = some (v, m2) ∧ Rel (t + 1) m2 := by
  obtain ⟨hP, hJ, hC, hR, hG⟩ := id h
  by_cases hx : (3 : Int32) ≤ x ∧ x ≤ 8
  · by_cases hy : (3 : Int32) ≤ y ∧ y ≤ 8
    · obtain ⟨W, w8, rfl⟩ := (winK (k := 8) (by omega)).mp ⟨Int32.le_trans (by decide) hx.1, hx.2⟩
      obtain ⟨H, h8, rfl⟩ := (winK (k := 8) (by omega)).mp ⟨Int32.le_trans (by decide) hy.1, hy.2⟩
      have w3 : 3 ≤ W := (nI_leI (a := 3) (by omega) (by omega)).mp hx.1
      have h3 : 3 ≤ H := (nI_leI (a := 3) (by omega) (by omega)).mp hy.1
      have n64 : W * H ≤ 64 := Nat.mul_le_mul w8 h8
      obtain ⟨m1, a0, ⟨f1, f2⟩, ⟨a1, a2, a3, a4, a5⟩, ⟨b1, b2, b3, b4⟩, ⟨c1, c2, c3⟩, d1, e1, ⟨i1, i2, i3, i4, i5, i6⟩, k1, k2, k3, k4, k5, k6, k7, k8, k9, k10, k11⟩ := glass_c m w3 w8 h3 h8
      obtain ⟨m2, A0, ⟨F1, F2⟩, ⟨A1, A2⟩, ⟨B1, B2, B3, B4⟩, ⟨C1, C2, C3⟩, D1, E1, ⟨I1, I2, I3, I4, I5, I6⟩, K1, K2, K3, K4, K5, K6, K7, K8, K9, K10, K11⟩ := glass_m m1 w3 w8 h3 h8
      have F : ∀ c, c < 68 → m2.1 c = m1.1 c := F1
      refine ⟨nI (W * H), m1, m2, a0, A0, ?_, ?_, ?_, ?_, Or.inr ⟨W, H, ?_, ?_, ?_, ?_, ?_, ?_, ?_, ?_, ?_⟩⟩
      · obtain ⟨p1, ⟨n, hn, p2⟩, p3⟩ := hP
        refine ⟨?_, ⟨n, hn, ?_⟩, ?_⟩
        · rw [F 1 (by omega), k1, K1, f1 68 (by omega)]; exact p1
        · rw [K1, f1 68 (by omega)]; exact p2
        · rw [F 2 (by omega), k2, K2, f1 69 (by omega)]; exact p3
      · obtain ⟨N, j1, j2, j3, j4, j5, j6⟩ := hJ
        refine ⟨N, by omega, ?_, ?_, fun p hp => ?_, fun k hk => ?_, ?_⟩
        · rw [F 8 (by omega), k3]; exact j2
        · rw [K3, f1 68 (by omega)]; exact j3
        · rw [K4, K5, K6, F 9 (by omega), F 10 (by omega), F 11 (by omega), k4, k5, k6, f1 96 (by omega), f1 97 (by omega), f1 98 (by omega)]; exact j4 p hp
        · rw [K7, F 12 (by omega), k7, f1 99 (by omega)]; exact j5 k hk
        · rw [K7, f1 99 (by omega)]; exact j6
      · obtain ⟨q1, q2, q3, q4, q5⟩ := hC
        refine ⟨?_, ?_, ?_, ?_, ?_⟩
        · rw [F 13 (by omega), k8, K8, f1 68 (by omega)]; exact q1
        · rw [F 13 (by omega), k9, K9, f1 68 (by omega)]; exact q2
        · rw [F 60 (by omega), k10, K10, f1 68 (by omega)]; exact q3
        · rw [F 0 (by omega), k11, K11, f1 68 (by omega)]; exact q4
        · rw [F 0 (by omega), i6, I6, f1 68 (by omega), q5]
      · unfold RRw
        rw [F2, f2]
        exact hR
      · refine ⟨by rw [F 13 (by omega)]; exact a1, w3, w8, h3, h8, by rw [F 14 (by omega)]; exact a2, by rw [F 14 (by omega)]; exact a3, by rw [F 14 (by omega)]; exact a4, A1, A2, fun c hc => ?_⟩
        rw [F 15 (by omega), F 16 (by omega), F 17 (by omega), F 18 (by omega)]
        exact a5 c hc
      · have hh : ∀ k, k < 5 → m.1 21 k = m.1 76 k ∧ m.1 22 k = m.1 77 k ∧ m.1 23 k = m.1 78 k := fun k hk => by
          rcases hG with hG | ⟨W', H', hG⟩
          · exact hG.2.2 k hk
          · exact (hG.2.1.1 k hk).2
        refine ⟨fun k hk => ?_, fun k hk => ⟨Or.inl (B1 k hk), fun e => ?_⟩⟩
        · rw [F 20 (by omega), F 21 (by omega), F 22 (by omega), F 23 (by omega), b1 k hk, B1 k hk, b2, b3, b4, B2, B3, B4, f1 76 (by omega), f1 77 (by omega), f1 78 (by omega)]
          exact ⟨rfl, hh k hk⟩
        · rw [B1 k hk] at e
          exact absurd e (by decide)
      · intro c hc
        rw [F 34 (by omega), (e1 c (by omega)).2.2.1]
        exact (felt_off B1).symm
      · refine ⟨fun k hk => ?_, fun k hk => ?_⟩
        · obtain ⟨u1, u2, u3, u4, u5, u6⟩ := e1 k (by omega)
          obtain ⟨v1, v2, v3, v4, v5⟩ := E1 k (by omega)
          rw [F 32 (by omega), F 33 (by omega), F 35 (by omega), F 36 (by omega), F 52 (by omega), u1, u2, u4, u5, u6, v1, v2, v3, v4, v5]
          exact ⟨rfl, rfl, rfl, rfl, rfl⟩
        · obtain ⟨v1, v2, v3, v4, v5⟩ := E1 k (by omega)
          rw [v1, v2]
          decide
      · intro k hk
        rw [F 26 (by omega), d1 k hk, D1 k hk]
        rcases (show k = 0 ∨ k = 1 ∨ k = 2 ∨ k = 3 ∨ k = 4 ∨ k = 5 ∨ k = 6 ∨ k = 7 ∨ k = 8 by omega) with rfl | rfl | rfl | rfl | rfl | rfl | rfl | rfl | rfl <;> decide
      · refine ⟨fun k hk => ?_, ?_, ⟨0, by omega, C2⟩, ?_, ?_⟩
        · rw [F 25 (by omega), c1 k hk, C1 k hk]; decide
        · rw [F 24 (by omega), c2, C2]
        · rw [F 24 (by omega), c3, C3]
        · rw [C3]; decide
      · refine ⟨?_, ?_, ?_, Or.inl I4⟩
        · rw [F 13 (by omega), i5, I5]
        · rw [F 13 (by omega), i3, I3]
        · rw [F 13 (by omega), i4, I4]
      · exact ⟨0, by omega, by rw [F 44 (by omega)]; exact i1, I1, fun s hs => absurd hs (by omega)⟩
      · exact ⟨0, by omega, by rw [F 60 (by omega)]; exact i2, I2, fun s hs => absurd hs (by omega)⟩
    · unfold f_X11_glass f_X12_glass
      refine ⟨-10002, m, m, ?_, ?_, h.mono (by omega)⟩
      · simp [w11, hx, hy, bi_t, bi_f]
      · simp [w12, hx, hy, bi_t, bi_f]
  · unfold f_X11_glass f_X12_glass
    refine ⟨-10002, m, m, ?_, ?_, h.mono (by omega)⟩
    · simp [w11, hx, bi_f]
    · simp [w12, hx, bi_f]
