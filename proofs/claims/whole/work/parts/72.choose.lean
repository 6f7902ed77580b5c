/-! ===== a frame: which hills are spots ===== -/
def ahN (M : Nat → Nat) (k i : Nat) : Bool := decide (M i < M k) || (decide (M k = M i) && decide (k < i))
theorem ah_iff {M : Nat → Nat} {k i : Nat} : ahN M k i = true ↔ M i < M k ∨ (M k = M i ∧ k < i) := by
  unfold ahN
  rw [Bool.or_eq_true, Bool.and_eq_true, decide_eq_true_eq, decide_eq_true_eq, decide_eq_true_eq]
theorem ah_self {M : Nat → Nat} {i : Nat} : ahN M i i = false := by
  cases h : ahN M i i with
  | false => rfl
  | true =>
    rw [ah_iff] at h
    omega
def cho (M : Nat → Nat) (Q : Nat → Bool) (s i : Nat) : Bool := Q i && decide ((lst (fun k => Q k && ahN M k i) s).length < 6)
theorem lst_cle {p q : Nat → Bool} {n : Nat} (h : ∀ x, x < n → p x = true → q x = true) : (lst p n).length ≤ (lst q n).length := by
  unfold lst
  rw [← List.countP_eq_length_filter, ← List.countP_eq_length_filter]
  exact List.countP_mono_left (fun x hx => h x (List.mem_range.mp hx))
theorem lst_clt {p q : Nat → Bool} {n a : Nat} (h : ∀ x, x < n → p x = true → q x = true) (ha : a < n) (h1 : q a = true) (h2 : p a = false) : (lst p n).length < (lst q n).length :=
  filt_lt _ (fun x hx => h x (List.mem_range.mp hx)) a (List.mem_range.mpr ha) h1 h2
theorem lst_cg {p q : Nat → Bool} : ∀ (n : Nat), (∀ x, x < n → p x = q x) → lst p n = lst q n
  | 0, _ => rfl
  | n + 1, h => by
    have ih := lst_cg n (fun x hx => h x (by omega))
    cases hp : p n with
    | true => rw [lst_t hp, lst_t (by rw [← h n (by omega)]; exact hp), ih]
    | false => rw [lst_f hp, lst_f (by rw [← h n (by omega)]; exact hp), ih]
/-- one taken away -/
theorem lst_rm {p : Nat → Bool} {a : Nat} : ∀ (n : Nat), a < n → p a = true → (lst (fun x => p x && !decide (x = a)) n).length + 1 = (lst p n).length
  | 0, h, _ => by omega
  | n + 1, h, hp => by
    by_cases e : a = n
    · subst e
      have hf : (p a && !decide (a = a)) = false := by simp
      rw [lst_f (Q := fun x => p x && !decide (x = a)) hf, lst_t hp, List.length_append]
      rw [lst_cg (p := fun x => p x && !decide (x = a)) (q := p) a (fun x hx => by simp [show ¬ x = a by omega])]
      rfl
    · have ih := lst_rm (p := p) n (by omega) hp
      cases hn : p n with
      | true =>
        have ht : (p n && !decide (n = a)) = true := by rw [hn]; simp [show ¬ n = a by omega]
        rw [lst_t (Q := fun x => p x && !decide (x = a)) ht, lst_t hn, List.length_append, List.length_append]
        simp only [List.length_cons, List.length_nil]
        omega
      | false =>
        have ht : (p n && !decide (n = a)) = false := by rw [hn]; rfl
        rw [lst_f (Q := fun x => p x && !decide (x = a)) ht, lst_f hn]
        exact ih
theorem cho_of {M : Nat → Nat} {Q C : Nat → Bool} {s : Nat} (h1 : ∀ i, i < s → C i = true → Q i = true) (h2 : ∀ i k, i < s → k < s → C i = true → Q k = true → ahN M k i = true → C k = true) (h3 : (∀ i, i < s → C i = Q i) ∨ 6 ≤ (lst C s).length) (h4 : (lst C s).length ≤ 6) : ∀ i, i < s → C i = cho M Q s i := by
  intro i hi
  unfold cho
  cases hC : C i with
  | true =>
    have := lst_clt (p := fun k => Q k && ahN M k i) (q := C) (n := s) (fun x hx hp => by
      rw [Bool.and_eq_true] at hp
      exact h2 i x hi hx hC hp.1 hp.2) hi hC (by simp [ah_self])
    rw [h1 i hi hC, Bool.true_and]
    exact (decide_eq_true (by omega)).symm
  | false =>
    cases hQ : Q i with
    | false => rfl
    | true =>
      rcases h3 with q | q
      · rw [q i hi, hQ] at hC
        cases hC
      · have := lst_cle (p := C) (q := fun k => Q k && ahN M k i) (n := s) (fun x hx hp => by
          rw [Bool.and_eq_true]
          refine ⟨h1 x hx hp, ?_⟩
          cases hxi : ahN M x i with
          | true => rfl
          | false =>
            exfalso
            have hne : x ≠ i := fun z => by rw [z, hC] at hp; cases hp
            have hix : ahN M i x = true := by
              rw [ah_iff]
              have : ¬ (M i < M x ∨ (M x = M i ∧ x < i)) := fun z => by
                rw [← ah_iff, hxi] at z
                cases z
              omega
            have := h2 x i hx hi hp hQ hix
            rw [hC] at this
            cases this)
        rw [Bool.true_and]
        exact (decide_eq_false (by omega)).symm
/-- counted over cells, counted over hills -/
theorem cnt_map {pk : Nat → Nat} {Q Q' : Nat → Bool} : ∀ (n s : Nat), (∀ i, i < s → pk i < n) → (∀ i j, i < j → j < s → pk i < pk j) → (∀ k, k < n → (Q' k = true ↔ ∃ i, i < s ∧ pk i = k ∧ Q i = true)) → (lst Q' n).length = (lst Q s).length
  | 0, s, h1, _, _ => by
    cases s with
    | zero => rfl
    | succ s => exact absurd (h1 0 (by omega)) (by omega)
  | n + 1, s, h1, h2, h3 => by
    by_cases hx : ∃ i, i < s ∧ pk i = n
    · obtain ⟨i, hi, he⟩ := hx
      have hs : s = i + 1 := by
        refine Nat.le_antisymm (Nat.le_of_not_lt fun q => ?_) (by omega)
        have a := h2 i (i + 1) (by omega) q
        have b := h1 (i + 1) q
        omega
      subst hs
      have ih := cnt_map (Q := Q) (Q' := Q') n i (fun j hj => by
        have := h2 j i hj (by omega)
        omega) (fun a b hab hb => h2 a b hab (by omega)) (fun k hk => by
        rw [h3 k (by omega)]
        constructor
        · rintro ⟨j, hj, e1, e2⟩
          refine ⟨j, ?_, e1, e2⟩
          have : j ≠ i := fun z => by rw [z] at e1; omega
          omega
        · rintro ⟨j, hj, e1, e2⟩
          exact ⟨j, by omega, e1, e2⟩)
      have hq : Q' n = Q i := by
        have := h3 n (by omega)
        cases hQ : Q i with
        | true => exact this.mpr ⟨i, by omega, he, hQ⟩
        | false =>
          cases hQ' : Q' n with
          | false => rfl
          | true =>
            obtain ⟨j, hj, e1, e2⟩ := this.mp hQ'
            have : j = i := by
              rcases Nat.lt_trichotomy j i with q | q | q
              · have := h2 j i q (by omega)
                omega
              · exact q
              · omega
            rw [this, hQ] at e2
            cases e2
      cases hQ : Q i with
      | true => rw [lst_t hQ, lst_t (hq.trans hQ), List.length_append, List.length_append, ih]; rfl
      | false => rw [lst_f hQ, lst_f (hq.trans hQ), ih]
    · have hq : Q' n = false := by
        cases hQ' : Q' n with
        | false => rfl
        | true =>
          obtain ⟨j, hj, e1, _⟩ := (h3 n (by omega)).mp hQ'
          exact absurd ⟨j, hj, e1⟩ hx
      rw [lst_f hq]
      exact cnt_map n s (fun i hi => by
        have a := h1 i hi
        have b : pk i ≠ n := fun z => hx ⟨i, hi, z⟩
        omega) h2 (fun k hk => h3 k (by omega))
section CHS
variable {s : Nat} {M : Nat → Nat}
theorem drop_c {m : zM} {C : Nat → Bool} (hs : s ≤ 16) (h54 : ∀ i, i < s → m.1 54 i = bi (C i)) (h57 : ∀ i, i < s → m.1 57 i = nI (M i)) (hM : ∀ i, i < s → M i < 2 ^ 31) (hne : ∃ i, i < s ∧ C i = true) : ∃ x, x < s ∧ C x = true ∧ (∀ y, y < s → C y = true → y = x ∨ ahN M y x = true) ∧ f_X8_dropLightest (nI s) m = some (zi m 54 x 0) := by
  have key : ∃ r, zloop (b_X8_dropLightest_4 (nI s) m) zFU (-1, 0) = some r ∧ ((r = -1 ∧ ∀ k, k < s → C k = false) ∨ ∃ x, x < s ∧ r = nI x ∧ C x = true ∧ ∀ y, y < s → C y = true → y = x ∨ ahN M y x = true) := by
    refine zforQ (fun i st => st.2 = nI i ∧ ((st.1 = -1 ∧ ∀ k, k < i → C k = false) ∨ ∃ x, x < i ∧ st.1 = nI x ∧ C x = true ∧ ∀ y, y < i → C y = true → y = x ∨ ahN M y x = true)) s _ ⟨rfl, Or.inl ⟨rfl, fun k hk => by omega⟩⟩ ?_ ?_ (by omega)
    · rintro i ⟨l, y⟩ hi ⟨rfl, hinv⟩
      simp only at hinv
      unfold b_X8_dropLightest_4 j_X8_dropLightest_38 j_X8_dropLightest_40
      simp only [nI_ge hi (show s < 2 ^ 31 by omega), if_false, zin_nI (show i < 16 by omega) (show 16 < 2 ^ 31 by decide), zg_t, nI_clamp (show i < 2 ^ 31 by omega), h54 i hi, nI_1]
      cases hC : C i with
      | false =>
        refine ⟨_, rfl, rfl, ?_⟩
        rcases hinv with ⟨a, b⟩ | ⟨x, a, b, c, d⟩
        · refine Or.inl ⟨a, fun k hk => ?_⟩
          by_cases e : k = i
          · rw [e]; exact hC
          · exact b k (by omega)
        · refine Or.inr ⟨x, by omega, b, c, fun y hy hCy => ?_⟩
          have : y ≠ i := fun z => by rw [z, hC] at hCy; cases hCy
          exact d y (by omega) hCy
      | true =>
        simp only [bi_t, show ¬ (1 : Int32) = 0 by decide, if_false]
        rcases hinv with ⟨a, b⟩ | ⟨x, a, b, c, d⟩
        · subst a
          refine ⟨_, if_pos rfl, rfl, Or.inr ⟨i, by omega, rfl, hC, fun y hy hCy => ?_⟩⟩
          by_cases e : y = i
          · exact Or.inl e
          · rw [b y (by omega)] at hCy
            cases hCy
        · subst b
          have hlt : (nI (M x) < nI (M i)) ↔ M x < M i := nI_ltI (hM x (by omega)) (hM i hi)
          simp only [nI_nm1 (show x < 2 ^ 31 by omega), if_false, zin_nI (show x < 16 by omega) (show 16 < 2 ^ 31 by decide), zg_t, nI_clamp (show x < 2 ^ 31 by omega), h57 i hi, h57 x (by omega)]
          by_cases q : M x < M i
          · rw [if_pos (hlt.mpr q)]
            refine ⟨_, rfl, rfl, Or.inr ⟨x, by omega, rfl, c, fun y hy hCy => ?_⟩⟩
            by_cases e : y = i
            · subst e
              exact Or.inr (ah_iff.mpr (Or.inl q))
            · exact d y (by omega) hCy
          · rw [if_neg (fun z => q (hlt.mp z))]
            refine ⟨_, rfl, rfl, Or.inr ⟨i, by omega, rfl, hC, fun y hy hCy => ?_⟩⟩
            by_cases e : y = i
            · exact Or.inl e
            · right
              rw [ah_iff]
              rcases d y (by omega) hCy with z | z
              · subst z; omega
              · rw [ah_iff] at z
                omega
    · rintro ⟨l, y⟩ ⟨rfl, hinv⟩
      refine ⟨l, ?_, hinv⟩
      unfold b_X8_dropLightest_4
      simp only [nI_le (Nat.le_refl s) (show s < 2 ^ 31 by omega), if_true]
  obtain ⟨r, e, hr⟩ := key
  rcases hr with ⟨_, b⟩ | ⟨x, a, b, c, d⟩
  · obtain ⟨i, hi, hC⟩ := hne
    rw [b i hi] at hC
    cases hC
  · refine ⟨x, a, c, d, ?_⟩
    unfold f_X8_dropLightest
    rw [e]
    simp only [Option.bind_some, b, nI_nm1 (show x < 2 ^ 31 by omega), if_false, zin_nI (show x < 16 by omega) (show 16 < 2 ^ 31 by decide), zg_t, nI_clamp (show x < 2 ^ 31 by omega)]
theorem lst_ne {p : Nat → Bool} {n : Nat} (h : 0 < (lst p n).length) : ∃ i, i < n ∧ p i = true := by
  have := lst_at (Q := p) n 0 h
  exact ⟨_, this.1, this.2.1⟩
/-- the chosen hills, in the class -/
theorem chosen_c {m : zM} {W H : Nat} {mp : Int32} {D : Nat → Int32} {pk : Nat → Nat} {Q : Nat → Bool} (hs : s ≤ 16) (h38 : m.1 38 4 = nI s) (hpk : ∀ i, i < s → m.1 39 i = nI (pk i) ∧ pk i < W * H) (h64 : W * H ≤ 64) (h40 : ∀ i, i < s → m.1 40 i = 0 ∨ m.1 40 i = 1) (hD : ∀ k, k < W * H → m.1 36 k = D k) (h57 : ∀ i, i < s → m.1 57 i = nI (M i)) (hM : ∀ i, i < s → M i < 2 ^ 31) (hQ : ∀ i, i < s → Q i = (decide (m.1 40 i = 1) && !decide (D (pk i) < mp))) :
    ∃ m', ((zloop (b_X8_choose_12 mp) zFU (0, 0, m)).bind fun r8 => zloop (b_X8_choose_79) zFU (r8.1, r8.2)) = some m' ∧ Fr [54] m m' ∧ (∀ i, i < s → m'.1 54 i = bi (cho M Q s i)) ∧ (lst (cho M Q s) s).length ≤ 6 := by
  have one : ∃ r : Int32 × zM, zloop (b_X8_choose_12 mp) zFU (0, 0, m) = some r ∧ r.1 = nI (lst Q s).length ∧ Fr [54] m r.2 ∧ ∀ k, k < s → r.2.1 54 k = bi (Q k) := by
    refine zforQ (fun i st => st.1 = nI (lst Q i).length ∧ st.2.1 = nI i ∧ Fr [54] m st.2.2 ∧ ∀ k, k < i → st.2.2.1 54 k = bi (Q k)) s _ ⟨rfl, rfl, Fr.refl, fun k hk => by omega⟩ ?_ ?_ (by omega)
    · rintro i ⟨f, y, w⟩ hi ⟨rfl, rfl, f1, f2⟩
      simp only at f1 f2
      have e36 := f1.2 36 (by decide)
      have e38 := f1.2 38 (by decide)
      have e39 := f1.2 39 (by decide)
      have e40 := f1.2 40 (by decide)
      obtain ⟨p1, p2⟩ := hpk i hi
      have q := hQ i hi
      have fin : ∀ b, Q i = b → ∃ s1 : Int32 × Int32 × zM, j_X8_choose_55 mp (nI (lst Q i).length) (nI i) (bi b) (nI i) w = some (.inl s1) ∧ s1.1 = nI (lst Q (i + 1)).length ∧ s1.2.1 = nI (i + 1) ∧ Fr [54] m s1.2.2 ∧ ∀ k, k < i + 1 → s1.2.2.1 54 k = bi (Q k) := by
        intro b hb
        unfold j_X8_choose_55 j_X8_choose_69
        simp only [zin_nI (show i < 16 by omega) (show 16 < 2 ^ 31 by decide), zg_t, nI_clamp (show i < 2 ^ 31 by omega), zb_bi, ziE, nI_1]
        have tl : ∀ k, k < i + 1 → (zi w 54 i (bi b)).1 54 k = bi (Q k) := by
          intro k hk
          by_cases hk2 : k = i
          · subst hk2
            rw [ziE, hb]
          · rw [ziN hk2]
            exact f2 k (by omega)
        cases b with
        | false =>
          refine ⟨_, if_pos rfl, ?_, rfl, f1.st (by decide), tl⟩
          rw [lst_f hb]
        | true =>
          refine ⟨_, if_neg (by decide), ?_, rfl, f1.st (by decide), tl⟩
          rw [lst_t hb, List.length_append]
          rfl
      unfold b_X8_choose_12 j_X8_choose_54
      simp only [e36, e38, e39, e40, h38, nI_ge hi (show s < 2 ^ 31 by omega), if_false, zin_nI (show i < 16 by omega) (show 16 < 2 ^ 31 by decide), zg_t, nI_clamp (show i < 2 ^ 31 by omega), p1, zin_nI (show pk i < 64 by omega) (show 64 < 2 ^ 31 by decide), nI_clamp (show pk i < 2 ^ 31 by omega), hD _ p2]
      rcases h40 i hi with a | a
      · rw [if_pos a]
        exact fin false (by rw [q, a]; rfl)
      · rw [a, if_neg (by decide)]
        by_cases c : D (pk i) < mp
        · rw [if_pos c]
          exact fin false (by rw [q, a]; simp [c])
        · rw [if_neg c]
          exact fin true (by rw [q, a]; simp [c])
    · rintro ⟨f, y, w⟩ ⟨rfl, rfl, f1, f2⟩
      simp only at f1 f2
      have e38 := f1.2 38 (by decide)
      refine ⟨(nI (lst Q s).length, w), ?_, rfl, f1, f2⟩
      unfold b_X8_choose_12
      simp only [e38, h38, nI_le (Nat.le_refl s) (show s < 2 ^ 31 by omega), if_true]
  obtain ⟨⟨f, m1⟩, a1, a2, a3, a4⟩ := one
  simp only at a2 a3 a4
  subst a2
  rw [a1]
  simp only [Option.bind_some]
  have hlen : ∀ C : Nat → Bool, (lst C s).length ≤ 16 := fun C => by
    unfold lst
    refine Nat.le_trans (List.length_filter_le _ _) ?_
    rw [List.length_range]
    exact hs
  obtain ⟨r, r1, r2⟩ := zwhile (b := b_X8_choose_79) (fun st => ∃ C : Nat → Bool, st.1 = nI (lst C s).length ∧ Fr [54] m st.2 ∧ (∀ i, i < s → st.2.1 54 i = bi (C i)) ∧ (∀ i, i < s → C i = true → Q i = true) ∧ (∀ i k, i < s → k < s → C i = true → Q k = true → ahN M k i = true → C k = true) ∧ ((∀ i, i < s → C i = Q i) ∨ 6 ≤ (lst C s).length)) (fun st => st.1.toNatClampNeg)
    (fun r => Fr [54] m r ∧ (∀ i, i < s → r.1 54 i = bi (cho M Q s i)) ∧ (lst (cho M Q s) s).length ≤ 6) (by
      rintro ⟨l, w⟩ ⟨C, hl, g1, g2, g3, g4, g5⟩
      simp only at hl g1 g2 g3 g4 g5
      subst hl
      have hl16 := hlen C
      unfold b_X8_choose_79
      by_cases h6 : (lst C s).length ≤ 6
      · right
        refine ⟨w, ?_, g1, ?_, ?_⟩
        · rw [show (6 : Int32) = nI 6 from rfl, if_pos (nI_le h6 (by decide))]
        · intro i hi
          rw [g2 i hi, cho_of g3 g4 g5 h6 i hi]
        · rw [← lst_cg (p := C) s (fun i hi => cho_of g3 g4 g5 h6 i hi)]
          exact h6
      · left
        have e38 := g1.2 38 (by decide)
        have e57 := g1.2 57 (by decide)
        obtain ⟨x, hx, cx, cy, ed⟩ := drop_c (m := w) (M := M) hs g2 (by rw [e57]; exact h57) hM (lst_ne (show 0 < (lst C s).length by omega))
        have hrm := lst_rm (p := C) s hx cx
        refine ⟨(nI (lst (fun y => C y && !decide (y = x)) s).length, zi w 54 x 0), ?_, ⟨fun y => C y && !decide (y = x), rfl, g1.st (by decide), ?_, ?_, ?_, ?_⟩, ?_⟩
        · rw [show (6 : Int32) = nI 6 from rfl, if_neg (nI_ge (by omega) (by omega)), e38, h38, ed]
          simp only [Option.bind_some]
          rw [← hrm, pk_m1]
        · intro i hi
          by_cases e : i = x
          · subst e
            rw [ziE]
            simp [bi_f]
          · rw [ziN e, g2 i hi]
            simp [e]
        · intro i hi hc
          rw [Bool.and_eq_true] at hc
          exact g3 i hi hc.1
        · intro i k hi hk hc hq ha
          rw [Bool.and_eq_true] at hc ⊢
          refine ⟨g4 i k hi hk hc.1 hq ha, ?_⟩
          have hix : i ≠ x := by simpa using hc.2
          have : k ≠ x := fun z => by
            subst z
            rcases cy i hi hc.1 with z | z
            · exact hix z
            · rw [ah_iff] at z ha
              omega
          simp [this]
        · right
          omega
        · show (nI _).toNatClampNeg < (nI _).toNatClampNeg
          rw [nI_clamp (by omega), nI_clamp (by omega)]
          omega) zFU (nI (lst Q s).length, m1) ⟨Q, rfl, a3, a4, fun _ _ h => h, fun _ _ _ _ _ h _ => h, Or.inl (fun _ _ => rfl)⟩ (by
      have := hlen Q
      show (nI _).toNatClampNeg < _
      rw [nI_clamp (by omega)]
      unfold zFU
      omega)
  exact ⟨r, r1, r2⟩
end CHS
