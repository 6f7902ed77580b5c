/-! ===== a frame: the hills' cells, and the passes ===== -/
theorem nI_nm1 {k : Nat} (h : k < 2 ^ 31) : ¬ nI k = -1 := fun z => by
  have := nI_pos' (n := k) h
  rw [z] at this
  exact absurd this (by decide)
section GTH
variable {P : Nat → Bool} {D : Nat → Int32} {W H : Nat}
theorem gather_loop {w : zM} {y : Int32} (w3 : 3 ≤ W) (w8 : W ≤ 8) (h3 : 3 ≤ H) (h8 : H ≤ 8) (hup : ∀ c, c < W * H → P c = true → P (up D W H c) = true) (h42 : ∀ k, k < W * H → P k = true → w.1 42 k = nI (up D W H k)) (h41 : ∀ k, k < W * H → P k = true → w.1 41 k = nI (lst (Qp P D W H) (tpc D W H k)).length ∨ (w.1 41 k = -1 ∧ up D W H k ≠ k)) : ∀ (r p s k : Nat), p < W * H → P p = true → rk D (W * H) p ≤ r → r + s ≤ 63 → r < k → ∃ p', zloop (b_X3_gatherCells_24 y w) k (nI p, nI s) = some (nI p') ∧ p' < W * H ∧ w.1 41 p' = nI (lst (Qp P D W H) (tpc D W H p)).length := by
  have h64 : W * H ≤ 64 := Nat.mul_le_mul w8 h8
  have h16 := peaks16 (P := P) (D := D) w3 w8 h3 h8
  intro r
  induction r with
  | zero =>
    intro p s k hp hP hr hs hk
    obtain ⟨k', rfl⟩ : ∃ q, k = q + 1 := ⟨k - 1, by omega⟩
    have hu : up D W H p = p := by
      refine Decidable.byContradiction fun q => ?_
      have := rk_up (D := D) w3 w8 h3 h8 hp q
      omega
    have he : w.1 41 p = nI (lst (Qp P D W H) (tpc D W H p)).length := by
      rcases h41 p hp hP with q | q
      · exact q
      · exact absurd hu q.2
    have hlen := lst_le (Q := Qp P D W H) (show tpc D W H p ≤ W * H from Nat.le_of_lt (tpc_lt w3 w8 h3 h8 hp))
    refine ⟨p, zloop_0 ?_, hp, he⟩
    unfold b_X3_gatherCells_24
    simp only [show ¬ (64 : Int32) ≤ nI s from nI_ge (b := 64) (by omega) (by decide), if_false, zin_nI (show p < 64 by omega) (show 64 < 2 ^ 31 by decide), zg_t, nI_clamp (show p < 2 ^ 31 by omega), he, nI_nm1 (show (lst (Qp P D W H) (tpc D W H p)).length < 2 ^ 31 by omega)]
  | succ r ih =>
    intro p s k hp hP hr hs hk
    obtain ⟨k', rfl⟩ : ∃ q, k = q + 1 := ⟨k - 1, by omega⟩
    have hlen := lst_le (Q := Qp P D W H) (show tpc D W H p ≤ W * H from Nat.le_of_lt (tpc_lt w3 w8 h3 h8 hp))
    rcases h41 p hp hP with he | ⟨he, hu⟩
    · refine ⟨p, zloop_0 ?_, hp, he⟩
      unfold b_X3_gatherCells_24
      simp only [show ¬ (64 : Int32) ≤ nI s from nI_ge (b := 64) (by omega) (by decide), if_false, zin_nI (show p < 64 by omega) (show 64 < 2 ^ 31 by decide), zg_t, nI_clamp (show p < 2 ^ 31 by omega), he, nI_nm1 (show (lst (Qp P D W H) (tpc D W H p)).length < 2 ^ 31 by omega)]
    · have h1 := rk_up (D := D) w3 w8 h3 h8 hp hu
      have h2 := up_lt (D := D) w3 w8 h3 h8 hp
      obtain ⟨p', a1, a2, a3⟩ := ih (up D W H p) (s + 1) k' h2 (hup p hp hP) (by omega) (by omega) (by omega)
      rw [tpc_up w3 w8 h3 h8 hp] at a3
      refine ⟨p', ?_, a2, a3⟩
      rw [zloop_s (s1 := (nI (up D W H p), nI (s + 1)))]
      · exact a1
      · unfold b_X3_gatherCells_24
        simp only [show ¬ (64 : Int32) ≤ nI s from nI_ge (b := 64) (by omega) (by decide), if_false, zin_nI (show p < 64 by omega) (show 64 < 2 ^ 31 by decide), zg_t, nI_clamp (show p < 2 ^ 31 by omega), he, if_true, h42 p hp hP, nI_1]
theorem gather_c {m : zM} (g : RGr W H m) (hup : ∀ c, c < W * H → P c = true → P (up D W H c) = true) (hT : ∀ k, k < W * H → (m.1 37 k = 0 ↔ P k = false)) (h41 : ∀ k, k < W * H → m.1 41 k = if Qp P D W H k then nI (lst (Qp P D W H) k).length else -1) (h42 : ∀ k, k < W * H → P k = true → m.1 42 k = nI (up D W H k)) : ∃ m', f_X3_gatherCells m = some m' ∧ Fr [41] m m' ∧ ∀ k, k < W * H → m'.1 41 k = if P k then nI (lst (Qp P D W H) (tpc D W H k)).length else -1 := by
  obtain ⟨_, w3, w8, h3, h8, _, _, q3, _⟩ := id g
  have h64 : W * H ≤ 64 := Nat.mul_le_mul w8 h8
  unfold f_X3_gatherCells
  have key : ∃ m', zloop b_X3_gatherCells_2 zFU (0, m) = some m' ∧ Fr [41] m m' ∧ ∀ k, k < W * H → m'.1 41 k = if P k then nI (lst (Qp P D W H) (tpc D W H k)).length else -1 := by
    refine zforQ (fun i s => s.1 = nI i ∧ Fr [41] m s.2 ∧ (∀ k, k < i → s.2.1 41 k = if P k then nI (lst (Qp P D W H) (tpc D W H k)).length else -1) ∧ ∀ k, i ≤ k → k < W * H → s.2.1 41 k = m.1 41 k) (W * H) _ ⟨rfl, Fr.refl, fun k hk => by omega, fun k _ _ => rfl⟩ ?_ ?_ (by omega)
    · rintro i ⟨y, w⟩ hi ⟨rfl, f1, f2, f3⟩
      simp only at f1 f2 f3
      have e14 := f1.2 14 (by decide)
      have e37 := f1.2 37 (by decide)
      have e42 := f1.2 42 (by decide)
      have hz := zin_nI (show i < 64 by omega) (show 64 < 2 ^ 31 by decide)
      have hcl := nI_clamp (show i < 2 ^ 31 by omega)
      unfold b_X3_gatherCells_2
      simp only [e14, q3, nI_ge hi (show W * H < 2 ^ 31 by omega), if_false, hz, zg_t, hcl, e37]
      cases hp : P i with
      | false =>
        rw [if_pos ((hT i hi).mpr hp)]
        unfold j_X3_gatherCells_66
        have hQ : Qp P D W H i = false := by unfold Qp; rw [hp]; rfl
        refine ⟨_, rfl, by rw [nI_1], f1, fun k hk => ?_, fun k hk hk2 => f3 k (by omega) hk2⟩
        by_cases hk2 : k = i
        · subst hk2
          rw [hp]
          show w.1 41 k = _
          rw [f3 k (Nat.le_refl _) hi, h41 k hi, hQ, if_neg Bool.false_ne_true, if_neg Bool.false_ne_true]
        · exact f2 k (by omega)
      | true =>
        rw [if_neg (fun z => Bool.noConfusion (((hT i hi).mp z).symm.trans hp))]
        have hr := rk_lt (D := D) hi
        obtain ⟨p', a1, a2, a3⟩ := gather_loop (y := nI i) (w := w) w3 w8 h3 h8 hup (fun k hk hP => by rw [e42]; exact h42 k hk hP) (fun k hk hP => by
          by_cases hki : k < i
          · left
            rw [f2 k hki, hP]
            rfl
          · rw [f3 k (by omega) hk, h41 k hk]
            by_cases hu : up D W H k = k
            · left
              have hQ : Qp P D W H k = true := by unfold Qp; rw [hP, hu]; simp
              rw [hQ, tpc_fix hu]
              rfl
            · right
              have hQ : Qp P D W H k = false := by unfold Qp; rw [hP]; simp [hu]
              rw [hQ]
              exact ⟨rfl, hu⟩) 63 i 0 zFU hi hp (by omega) (by omega) (by unfold zFU; omega)
        rw [show (0 : Int32) = nI 0 from rfl, a1]
        unfold j_X3_gatherCells_54 j_X3_gatherCells_66
        simp only [Option.bind_some, zin_nI (show p' < 64 by omega) (show 64 < 2 ^ 31 by decide), zg_t, hz, hcl, nI_clamp (show p' < 2 ^ 31 by omega), a3, nI_1]
        refine ⟨_, rfl, rfl, f1.st (by decide), fun k hk => ?_, fun k hk hk2 => ?_⟩
        · by_cases hk2 : k = i
          · subst hk2
            simp [zi, hp]
          · have := f2 k (by omega)
            simpa [zi, hk2] using this
        · have := f3 k (by omega) hk2
          simpa [zi, show ¬ k = i by omega] using this
    · rintro ⟨y, w⟩ ⟨rfl, f1, f2, f3⟩
      simp only at f1 f2 f3
      have e14 := f1.2 14 (by decide)
      refine ⟨w, ?_, f1, f2⟩
      unfold b_X3_gatherCells_2
      simp only [e14, q3, nI_le (Nat.le_refl (W * H)) (show W * H < 2 ^ 31 by omega), if_true]
  obtain ⟨m', e, q⟩ := key
  exact ⟨m', by rw [e]; rfl, q⟩
end GTH
/-! passes -/
def PSv (E : Int32 → Prop) (lo v : Int32) : Prop := lo ≤ v ∧ ∀ y, lo < y → (y ≤ v ↔ E y)
def EdV (D : Nat → Int32) (W H : Nat) (g : Nat → Int32) (V : Nat → Nat → Prop) (a b y : Int32) : Prop := ∃ c x, c < W * H ∧ x ∈ NB W H c ∧ V c x ∧ g c = a ∧ g x = b ∧ y ≤ D c ∧ y ≤ D x
def Ed (D : Nat → Int32) (W H : Nat) (g : Nat → Int32) (a b y : Int32) : Prop := EdV D W H g (fun _ _ => True) a b y
theorem PSv.congr {E E' : Int32 → Prop} {lo v : Int32} (h : PSv E lo v) (e : ∀ y, E y ↔ E' y) : PSv E' lo v := ⟨h.1, fun y hy => (h.2 y hy).trans (e y)⟩
def mnI (p q : Int32) : Int32 := if q < p then q else p
def mxI (v h : Int32) : Int32 := if v < h then h else v
theorem le_mn {y p q : Int32} : y ≤ mnI p q ↔ y ≤ p ∧ y ≤ q := by
  unfold mnI
  split
  · rename_i h
    rw [lt32] at h
    simp only [le32]
    omega
  · rename_i h
    rw [lt32] at h
    simp only [le32]
    omega
theorem le_mx {y v h : Int32} : y ≤ mxI v h ↔ y ≤ v ∨ y ≤ h := by
  unfold mxI
  split
  · rename_i h
    rw [lt32] at h
    simp only [le32]
    omega
  · rename_i h
    rw [lt32] at h
    simp only [le32]
    omega
theorem PSv.mx {E E' : Int32 → Prop} {lo v h : Int32} (p : PSv E lo v) (e : ∀ y, lo < y → (E' y ↔ E y ∨ y ≤ h)) : PSv E' lo (mxI v h) := by
  refine ⟨?_, fun y hy => ?_⟩
  · rw [le_mx]
    exact Or.inl p.1
  · rw [le_mx, p.2 y hy, e y hy]
theorem raise_eq {a b : Nat} (ha : a < 16) (hb : b < 16) (h : Int32) (m : zM) : f_X3_raisePass (nI a) (nI b) h m = some (zi m 43 (16 * a + b) (mxI (m.1 43 (16 * a + b)) h)) := by
  unfold f_X3_raisePass f_J9_max_7cf53 mxI
  rw [show (16 : Int32) = nI 16 from rfl, pk_mul, nI_add, zin_nI (show 16 * a + b < 256 by omega) (by decide), zg_t, nI_clamp (by omega)]
  split <;> rfl
theorem jmn {p q : Int32} {m : zM} : f_J9_min_7cf53 p q m = some (mnI p q) := by
  unfold f_J9_min_7cf53 mnI
  split <;> rfl
section PSS
variable {D : Nat → Int32} {W H : Nat}
/-- one more bond is looked at -/
theorem EdV_add {g : Nat → Int32} {V V' : Nat → Nat → Prop} {c0 x0 : Nat} (hc : c0 < W * H) (hx : x0 ∈ NB W H c0) (hV : ∀ c x, c < W * H → x ∈ NB W H c → (V' c x ↔ V c x ∨ (c = c0 ∧ x = x0))) {a b y : Int32} : EdV D W H g V' a b y ↔ EdV D W H g V a b y ∨ (g c0 = a ∧ g x0 = b ∧ y ≤ D c0 ∧ y ≤ D x0) := by
  constructor
  · rintro ⟨c, x, h1, h2, h3, h4⟩
    rcases (hV c x h1 h2).mp h3 with q | ⟨rfl, rfl⟩
    · exact Or.inl ⟨c, x, h1, h2, q, h4⟩
    · exact Or.inr h4
  · rintro (⟨c, x, h1, h2, h3, h4⟩ | h)
    · exact ⟨c, x, h1, h2, (hV c x h1 h2).mpr (Or.inl h3), h4⟩
    · exact ⟨c0, x0, hc, hx, (hV c0 x0 hc hx).mpr (Or.inr ⟨rfl, rfl⟩), h⟩
theorem EdV_same {g : Nat → Int32} {V V' : Nat → Nat → Prop} (hV : ∀ c x, c < W * H → x ∈ NB W H c → (V' c x ↔ V c x)) {a b y : Int32} : EdV D W H g V' a b y ↔ EdV D W H g V a b y := by
  constructor
  · rintro ⟨c, x, h1, h2, h3, h4⟩
    exact ⟨c, x, h1, h2, (hV c x h1 h2).mp h3, h4⟩
  · rintro ⟨c, x, h1, h2, h3, h4⟩
    exact ⟨c, x, h1, h2, (hV c x h1 h2).mpr h3, h4⟩
theorem passes_c {m : zM} (g : RGr W H m) (hD : ∀ k, k < W * H → m.1 36 k = D k) (h41 : ∀ k, k < W * H → m.1 41 k = -1 ∨ ∃ i : Nat, i < 16 ∧ m.1 41 k = nI i) : ∃ m', f_X3_findPasses m = some m' ∧ Fr [43] m m' ∧ ∀ a b : Nat, a < 16 → b < 16 → PSv (Ed D W H (m.1 41) (nI a) (nI b)) (-1) (m'.1 43 (16 * a + b)) := by
  obtain ⟨_, w3, w8, h3, h8, _, _, q3, _, _, q6⟩ := id g
  have h64 : W * H ≤ 64 := Nat.mul_le_mul w8 h8
  unfold f_X3_findPasses
  rw [fill_43]
  simp only [Option.bind_some]
  have key : ∃ m', zloop b_X3_findPasses_10 zFU (0, zrow m 43 (zup 256 (fun _ => -1) (m.1 43))) = some m' ∧ Fr [43] m m' ∧ ∀ a b : Nat, a < 16 → b < 16 → PSv (Ed D W H (m.1 41) (nI a) (nI b)) (-1) (m'.1 43 (16 * a + b)) := by
    refine zforQ (fun i s => s.1 = nI i ∧ Fr [43] m s.2 ∧ ∀ a b : Nat, a < 16 → b < 16 → PSv (EdV D W H (m.1 41) (fun c _ => c < i) (nI a) (nI b)) (-1) (s.2.1 43 (16 * a + b))) (W * H) _ ⟨rfl, ⟨rfl, fun c hc => zrow_ne (fun e => hc (by rw [e]; decide))⟩, fun a b ha hb => ?_⟩ ?_ ?_ (by omega)
    · rw [zrow_eq, zup_lt (show 16 * a + b < 256 by omega)]
      refine ⟨Int32.le_refl _, fun y hy => ⟨fun z => ?_, fun ⟨c, x, _, _, q, _⟩ => absurd q (by omega)⟩⟩
      rw [lt32] at hy
      rw [le32] at z
      omega
    · rintro i ⟨y, w⟩ hi ⟨rfl, f1, f2⟩
      simp only at f1 f2
      have e14 := f1.2 14 (by decide)
      have e41 := f1.2 41 (by decide)
      have hz := zin_nI (show i < 64 by omega) (show 64 < 2 ^ 31 by decide)
      have hcl := nI_clamp (show i < 2 ^ 31 by omega)
      unfold b_X3_findPasses_10 j_X3_findPasses_101
      simp only [e14, q3, nI_ge hi (show W * H < 2 ^ 31 by omega), if_false, hz, zg_t, hcl, e41, nI_1]
      rcases h41 i hi with q | ⟨p, hp16, hp⟩
      · rw [if_pos q]
        refine ⟨_, rfl, rfl, f1, fun a b ha hb => (f2 a b ha hb).congr fun y => ?_⟩
        constructor
        · rintro ⟨c, x, h1, h2, h3, h4⟩
          exact ⟨c, x, h1, h2, by omega, h4⟩
        · rintro ⟨c, x, h1, h2, h3, h4, h5⟩
          refine ⟨c, x, h1, h2, ?_, h4, h5⟩
          have : c ≠ i := fun z => by
            rw [z, q] at h4
            exact nI_nm1 (by omega) h4.symm
          omega
      · rw [if_neg (by rw [hp]; exact nI_nm1 (by omega))]
        -- the inner loop
        have hl := (NB_ok w3 w8 h3 h8 hi).2
        have inner : ∃ m', zloop (b_X3_findPasses_33 (nI i)) zFU (0, w) = some m' ∧ Fr [43] m m' ∧ ∀ a b : Nat, a < 16 → b < 16 → PSv (EdV D W H (m.1 41) (fun c _ => c < i + 1) (nI a) (nI b)) (-1) (m'.1 43 (16 * a + b)) := by
          refine zforQ (fun j s => s.1 = nI j ∧ Fr [43] m s.2 ∧ ∀ a b : Nat, a < 16 → b < 16 → PSv (EdV D W H (m.1 41) (fun c x => c < i ∨ (c = i ∧ x ∈ (NB W H i).take j)) (nI a) (nI b)) (-1) (s.2.1 43 (16 * a + b))) (NB W H i).length _ ⟨rfl, f1, fun a b ha hb => (f2 a b ha hb).congr fun y => EdV_same fun c x _ _ => by simp⟩ ?_ ?_ (by omega)
          · rintro j ⟨y, v⟩ hj ⟨rfl, k1, k2⟩
            simp only at k1 k2
            have gv : RGr W H v := g.fr k1 (by decide) (by decide) (by decide) (by decide) (by decide) (by decide) (by decide)
            have a17 := k1.2 17 (by decide)
            have a36 := k1.2 36 (by decide)
            have a41 := k1.2 41 (by decide)
            have hxm := getD_mem' hj
            have hx := ((NB_ok w3 w8 h3 h8 hi).1 _ hxm).1
            have hne := neigh_eq gv hi hj
            have htk := take_succ_getD hj
            obtain ⟨x, hxe⟩ : ∃ x, x = (NB W H i).getD j 0 := ⟨_, rfl⟩
            rw [← hxe] at hxm hx hne htk
            have hVV : ∀ c z, c < W * H → z ∈ NB W H c → ((c < i ∨ (c = i ∧ z ∈ (NB W H i).take (j + 1))) ↔ (c < i ∨ (c = i ∧ z ∈ (NB W H i).take j)) ∨ (c = i ∧ z = x)) := by
              intro c z _ _
              rw [htk, List.mem_append, List.mem_singleton]
              constructor
              · rintro (q | ⟨q1, q2 | q2⟩)
                · exact Or.inl (Or.inl q)
                · exact Or.inl (Or.inr ⟨q1, q2⟩)
                · exact Or.inr ⟨q1, q2⟩
              · rintro ((q | ⟨q1, q2⟩) | ⟨q1, q2⟩)
                · exact Or.inl q
                · exact Or.inr ⟨q1, Or.inl q2⟩
                · exact Or.inr ⟨q1, Or.inr q2⟩
            unfold b_X3_findPasses_33 j_X3_findPasses_95
            simp only [hz, zg_t, hcl, a17, (q6 i hi).2.2.1, nI_ge hj (show (NB W H i).length < 2 ^ 31 by omega), if_false, hne, Option.bind_some, zin_nI (show x < 64 by omega) (show 64 < 2 ^ 31 by decide), nI_clamp (show x < 2 ^ 31 by omega), a41, a36, hp, hD i hi, hD x hx, jmn, nI_1]
            rcases h41 x hx with q | ⟨p2, hp2, q⟩
            · rw [if_pos q]
              refine ⟨_, rfl, rfl, k1, fun a b ha hb => (k2 a b ha hb).congr fun y => ?_⟩
              rw [EdV_add hi hxm hVV, q]
              constructor
              · exact Or.inl
              · rintro (z | ⟨_, z, _⟩)
                · exact z
                · exact absurd z.symm (nI_nm1 (by omega))
            · rw [if_neg (by rw [q]; exact nI_nm1 (by omega)), q, raise_eq hp16 hp2]
              refine ⟨_, rfl, rfl, k1.st (by decide), fun a b ha hb => ?_⟩
              by_cases hab : a = p ∧ b = p2
              · obtain ⟨rfl, rfl⟩ := hab
                simp only [ziE]
                refine (k2 a b ha hb).mx fun y _ => ?_
                rw [EdV_add hi hxm hVV, hp, q, le_mn]
                simp
              · rw [show (zi v 43 (16 * p + p2) (mxI (v.1 43 (16 * p + p2)) (mnI (D i) (D x)))).1 43 (16 * a + b) = v.1 43 (16 * a + b) from ziN (by omega)]
                refine (k2 a b ha hb).congr fun y => ?_
                rw [EdV_add hi hxm hVV, hp, q]
                constructor
                · exact Or.inl
                · rintro (z | ⟨z1, z2, _⟩)
                  · exact z
                  · exact absurd ⟨((nI_eq (by omega) (by omega)).mp z1).symm, ((nI_eq (by omega) (by omega)).mp z2).symm⟩ hab
          · rintro ⟨y, v⟩ ⟨rfl, k1, k2⟩
            simp only at k1 k2
            have a17 := k1.2 17 (by decide)
            refine ⟨v, ?_, k1, fun a b ha hb => (k2 a b ha hb).congr fun y => EdV_same fun c x _ hx => ?_⟩
            · unfold b_X3_findPasses_33
              simp only [hz, zg_t, hcl, a17, (q6 i hi).2.2.1, nI_le (Nat.le_refl (NB W H i).length) (show (NB W H i).length < 2 ^ 31 by omega), if_true]
            · rw [List.take_length]
              constructor
              · rintro (q | ⟨q, _⟩) <;> omega
              · intro q
                by_cases e : c = i
                · exact Or.inr ⟨e, by rw [e] at hx; exact hx⟩
                · exact Or.inl (by omega)
        obtain ⟨v, i1, i2, i3⟩ := inner
        rw [i1]
        exact ⟨_, rfl, rfl, i2, i3⟩
    · rintro ⟨y, w⟩ ⟨rfl, f1, f2⟩
      simp only at f1 f2
      have e14 := f1.2 14 (by decide)
      refine ⟨w, ?_, f1, fun a b ha hb => (f2 a b ha hb).congr fun y => EdV_same fun c x hc _ => ⟨fun _ => trivial, fun _ => hc⟩⟩
      unfold b_X3_findPasses_10
      simp only [e14, q3, nI_le (Nat.le_refl (W * H)) (show W * H < 2 ^ 31 by omega), if_true]
  obtain ⟨m', e, q⟩ := key
  exact ⟨m', by rw [e]; rfl, q⟩
end PSS
