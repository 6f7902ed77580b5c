/-! ===== the whole text, read by both ===== -/
def HE (hc h : zH) : Prop := ∀ k, k < 5 → hc.1 k = h.1 k ∧ hc.2.1 k = h.2.1 k ∧ hc.2.2.1 k = h.2.2.1 k ∧ hc.2.2.2 k = h.2.2.2 k
def HOK (W H : Nat) (h : zH) : Prop := ∀ k, k < 5 → (h.1 k = 0 ∨ h.1 k = 1) ∧ (h.1 k = 1 → ∃ u v p : Nat, u ≤ 2 * W - 2 ∧ v ≤ 2 * H - 2 ∧ 10 ≤ p ∧ p ≤ 250 ∧ h.2.1 k = nI u ∧ h.2.2.1 k = nI v ∧ h.2.2.2 k = nI p)
theorem HE.off {hc h : zH} (e : HE hc h) (q : Nat) : HE (hoff hc q) (hoff h q) := by
  intro k hk
  have := e k hk
  unfold hoff hup
  by_cases z : k = q <;> simp [z, this] <;> simpa [z] using this.2
theorem HE.put {hc h : zH} (e : HE hc h) (q : Nat) (u v p : Int32) : HE (hput hc q u v p) (hput h q u v p) := by
  intro k hk
  have := e k hk
  unfold hput hup
  by_cases z : k = q <;> simp [z, this]
theorem HOK.off {W H : Nat} {h : zH} (e : HOK W H h) (q : Nat) : HOK W H (hoff h q) := by
  intro k hk
  have := e k hk
  unfold hoff hup
  by_cases z : k = q
  · simp [z]
  · simpa [z] using this
theorem HOK.put {W H : Nat} {h : zH} (e : HOK W H h) (q u v p : Nat) (hu : u ≤ 2 * W - 2) (hv : v ≤ 2 * H - 2) (hp : 10 ≤ p) (hp2 : p ≤ 250) : HOK W H (hput h q (nI u) (nI v) (nI p)) := by
  intro k hk
  have := e k hk
  unfold hput hup
  by_cases z : k = q
  · subst z
    simp only [if_true]
    exact ⟨Or.inr trivial, fun _ => ⟨u, v, p, hu, hv, hp, hp2, rfl, rfl, rfl⟩⟩
  · simpa [z] using this
theorem HE.h01 {W H : Nat} {hc h : zH} (e : HE hc h) (o : HOK W H hc) : ∀ k, k < 5 → h.1 k = 0 ∨ h.1 k = 1 := fun k hk => by
  rw [← (e k hk).1]
  exact (o k hk).1
section RDL
variable {mc mm : zM} {n W H : Nat} {h0 : zH} {tk : Int32}
theorem read_loop (P : PH mc mm n W H) (o0 : HOK W H h0) (htk : tk = 0 ∨ tk = 1) : ∀ (dd i cnt : Nat) (hc h : zH) (b c d e : Int32) (k : Nat), n - i = dd → i ≤ n → cnt ≤ i → HOK W H hc → (tk = 0 → h = h0) → (tk = 1 → HE hc h) → n - i < k →
    ∃ (ok : Bool) (j : Nat) (hE : zH), j ≤ n ∧ ((zloop b_X5_read_39 k (nI cnt, CK mc (nI i) hc)).bind fun r4 => Sum.elim (fun r4 => some (false, r4)) (fun v5 => some v5) r4) = some (ok, CK mc (nI j) hE) ∧
      ∃ (a' b' c' d' e' : Int32) (h' : zH), Lp n i (MK mm 0 b c d e tk h) (nI j, MK mm a' b' c' d' e' tk h') ∧ (tk = 0 → h' = h0) ∧ (ok = false → j = n → a' ≠ 2 ∧ (a' = 5 → b' < 10)) ∧
        (ok = true → j = n ∧ HOK W H hE ∧ ((a' = 2 ∧ (tk = 1 → HE hE h')) ∨ (a' = 5 ∧ ¬ b' < 10 ∧ ∃ q, q < 5 ∧ c' = nI q ∧ (tk = 1 → HE hE (hput h' q d' e' b')))))
  | dd, i, cnt, hc, h, b, c, d, e, k, hdd, hi, hcnt, o, t0, t1, hk => by
    obtain ⟨k', rfl⟩ : ∃ q, k = q + 1 := ⟨k - 1, by omega⟩
    have hn := P.hn
    have h01 : ∀ q, q < 5 → h.1 q = 0 ∨ h.1 q = 1 := by
      rcases htk with e | e
      · rw [t0 e]
        exact fun q hq => (o0 q hq).1
      · exact (t1 e).h01 o
    by_cases h40 : (40 : Int32) ≤ nI cnt
    · have : 40 ≤ cnt := (nI_leI (a := 40) (by decide) (by omega)).mp h40
      have hin : i = n := by omega
      subst hin
      refine ⟨false, i, hc, hi, ?_, 0, b, c, d, e, h, Lp_end P.m0 hn, t0, fun _ _ => ⟨by decide, fun z => absurd z (by decide)⟩, fun z => Bool.noConfusion z⟩
      rw [zloop_0 (r := .inl (CK mc (nI i) hc)) (by unfold b_X5_read_39; simp only [h40, if_true])]
      rfl
    rcases part_ok (hc := hc) P (b := b) (c := c) (d := d) (e := e) h01 htk hi with ⟨j, j1, j2, j3, a', b', c', d', e', j4, j5⟩ | ⟨j, q, j1, j2, hq, hg⟩
    · refine ⟨false, j, hc, j2, ?_, a', b', c', d', e', h, j4, t0, fun _ z => j5 z, fun z => Bool.noConfusion z⟩
      rw [zloop_0 (r := .inr (false, CK mc (nI j) hc)) (by unfold b_X5_read_39; simp only [h40, if_false, j3, Option.bind_some, bi_f, if_true])]
      rfl
    · -- a part was right: both stand at j, the class with hc'
      have key : ∃ (hc' : zH) (s b' d' e' : Int32) (h' : zH), f_X5_readPart (CK mc (nI i) hc) = some (true, CK mc (nI j) hc') ∧ HOK W H hc' ∧ (∀ r, Lp n j (MK mm s b' (nI q) d' e' tk h') r → Lp n i (MK mm 0 b c d e tk h) r) ∧ (tk = 0 → h' = h0) ∧ ((s = 2 ∧ (tk = 1 → HE hc' h')) ∨ (s = 5 ∧ ¬ b' < 10 ∧ (tk = 1 → HE hc' (hput h' q d' e' b')))) ∧
          (j < n → ¬ mm.1 69 j = 59 → f_X12_takes (mm.1 69 j) (MK mm s b' (nI q) d' e' tk h') = some (false, MK mm s b' (nI q) d' e' tk h')) ∧
          (j < n → mm.1 69 j = 59 → ∃ h2, f_X12_takes (mm.1 69 j) (MK mm s b' (nI q) d' e' tk h') = some (true, MK mm 0 (-1) (nI q) d' e' tk h2) ∧ (tk = 0 → h2 = h0) ∧ (tk = 1 → HE hc' h2)) := by
        rcases hg with ⟨g1, b', d', e', g2⟩ | ⟨u, v, p, u1, v1, p1, p2, g1, g2, g3⟩
        · have hE2 : tk = 1 → HE (hoff hc q) (if tk = 0 then h else hoff h q) := fun z => by
            rw [if_neg (by rw [z]; decide)]
            exact (t1 z).off q
          have h02 : tk = 0 → (if tk = 0 then h else hoff h q) = h0 := fun z => by
            rw [if_pos z]
            exact t0 z
          exact ⟨hoff hc q, 2, b', d', e', _, g1, o.off q, g2, h02, Or.inl ⟨rfl, hE2⟩, fun _ z => tk2_f z, fun _ z => ⟨_, by rw [z]; exact tk2_t, h02, hE2⟩⟩
        · have hp10 : ¬ nI p < 10 := nI_nlt (b := 10) p1 (by omega)
          have hE2 : tk = 1 → HE (hput hc q (nI u) (nI v) (nI p)) (hput h q (nI u) (nI v) (nI p)) := fun z => (t1 z).put q _ _ _
          refine ⟨hput hc q (nI u) (nI v) (nI p), 5, nI p, nI u, nI v, h, g1, o.put q u v p u1 v1 p1 p2, g3, t0, Or.inr ⟨rfl, hp10, hE2⟩, fun z1 z => ?_, fun z1 z => ⟨if tk = 0 then h else hput h q (nI u) (nI v) (nI p), ?_, fun z => ?_, fun z => ?_⟩⟩
          · rw [tk_nd (Or.inr (Or.inr rfl)) (g2 z1), ts5_f (Or.inr z)]
          · rw [tk_nd (Or.inr (Or.inr rfl)) (g2 z1), z, ts5_t hq hp10]
          · rw [if_pos z]
            exact t0 z
          · rw [if_neg (by rw [z]; decide)]
            exact hE2 z
      obtain ⟨hc', s, b', d', e', h', k1, k2, k3, k4, k5, k6, k7⟩ := key
      have e3 : (CK mc (nI j) hc').1 1 3 = nI j := rfl
      have e1 : (CK mc (nI j) hc').1 1 1 = nI n := P.c11
      by_cases hj : j < n
      · have hlt : nI j < nI n := nI_lt hj (by omega)
        by_cases h59 : mm.1 69 j = 59
        · obtain ⟨h2, y1, y2, y3⟩ := k7 hj h59
          have body : b_X5_read_39 (nI cnt, CK mc (nI i) hc) = some (.inl (nI (cnt + 1), CK mc (nI (j + 1)) hc')) := by
            unfold b_X5_read_39
            simp only [h40, if_false, k1, Option.bind_some, bi_t, show ¬ (1 : Int32) = 0 by decide, e3, e1, hlt, if_true, take_t P hj h59, nI_1]
          rw [zloop_s body]
          cases dd with
          | zero => omega
          | succ dd =>
          obtain ⟨ok, l, hE, l1, l2, x1, x2, x3, x4, x5, x6, l3, l4, l5, l6⟩ := read_loop P o0 htk (n - (j + 1)) (j + 1) (cnt + 1) hc' h2 (-1) (nI q) d' e' k' rfl (by omega) (by omega) k2 y2 y3 (by omega)
          exact ⟨ok, l, hE, l1, l2, x1, x2, x3, x4, x5, x6, k3 _ (Lp_step P.m0 hn hj (by rw [MK69]; exact y1) l3), l4, l5, l6⟩
        · have body : b_X5_read_39 (nI cnt, CK mc (nI i) hc) = some (.inr (.inr (false, CK mc (nI j) hc'))) := by
            unfold b_X5_read_39
            simp only [h40, if_false, k1, Option.bind_some, bi_t, bi_f, show ¬ (1 : Int32) = 0 by decide, e3, e1, hlt, if_true, take_f P j2 (fun _ => h59) (show ¬ (-1 : Int32) = 59 by decide)]
          refine ⟨false, j, hc', j2, ?_, s, b', nI q, d', e', h', k3 _ (Lp_stop P.m0 hn hj (by rw [MK69]; exact k6 hj h59)), k4, fun _ z => by omega, fun z => Bool.noConfusion z⟩
          rw [zloop_0 body]
          rfl
      · have hjn : j = n := by omega
        subst hjn
        have body : b_X5_read_39 (nI cnt, CK mc (nI i) hc) = some (.inr (.inr (true, CK mc (nI j) hc'))) := by
          unfold b_X5_read_39
          simp only [h40, if_false, k1, Option.bind_some, bi_t, show ¬ (1 : Int32) = 0 by decide, e3, e1, nI_nlt (Nat.le_refl j) (show j < 2 ^ 31 by omega)]
        refine ⟨true, j, hc', j2, ?_, s, b', nI q, d', e', h', k3 _ (Lp_end P.m0 hn), k4, fun z => Bool.noConfusion z, fun _ => ⟨rfl, k2, ?_⟩⟩
        · rw [zloop_0 body]
          rfl
        · rcases k5 with ⟨z1, z2⟩ | ⟨z1, z2, z3⟩
          · exact Or.inl ⟨z1, z2⟩
          · exact Or.inr ⟨z1, z2, q, hq, rfl, z3⟩
  termination_by dd => dd
end RDL
