/-! ===== a quiet frame, from the hills on ===== -/
theorem coF_all {tx ty sx sy : Nat → Nat} (h1 : ∀ t, tx t ≤ 112) (h2 : ∀ t, ty t ≤ 112) (h3 : ∀ t, sx t ≤ 112) (h4 : ∀ t, sy t ≤ 112) : ∀ t q, coF tx ty sx sy t q ≤ 25088 := fun t q => coF_le (h1 t) (h2 t) (h3 q) (h4 q)
/-- positions as numbers -/
theorem pos_fun {n : Nat} {g : Nat → Int32} (h : ∀ j, j < n → 0 ≤ g j ∧ g j ≤ 112) : ∃ f : Nat → Nat, (∀ j, f j ≤ 112) ∧ ∀ j, j < n → g j = nI (f j) := by
  refine ⟨fun j => if j < n then (g j).toNatClampNeg else 0, fun j => ?_, fun j hj => ?_⟩
  · show (if j < n then (g j).toNatClampNeg else 0) ≤ 112
    split
    · rename_i q
      obtain ⟨k, hk, e⟩ := pos_nI (h j q).1 (h j q).2
      rw [e, nI_clamp (by omega)]
      exact hk
    · omega
  · show g j = nI (if j < n then (g j).toNatClampNeg else 0)
    rw [if_pos hj]
    obtain ⟨k, hk, e⟩ := pos_nI (h j hj).1 (h j hj).2
    rw [e, nI_clamp (by omega)]
theorem RGr.frT {W H : Nat} {S : List Nat} {m m' : zM} (h : RGr W H m) (f : FrT S m m') (h1 : 13 ∉ S) (h2 : 14 ∉ S) (h3 : 15 ∉ S) (h4 : 16 ∉ S) (h5 : 17 ∉ S) (h6 : 18 ∉ S) (h7 : 68 ∉ S) : RGr W H m' :=
  RGr.cg h (congrFun (f.1 13 h1) 7) (congrFun (f.1 14 h2) 0) (congrFun (f.1 14 h2) 1) (congrFun (f.1 14 h2) 2) (congrFun (f.1 68 h7) 2) (congrFun (f.1 68 h7) 3) (f.1 15 h3) (f.1 16 h4) (f.1 17 h5) (f.1 18 h6)
def LQ : List Nat := [8, 9, 10, 11, 12, 27, 28, 29, 30, 33, 38, 39, 40, 41, 42, 43, 44, 46, 47, 48, 49, 50, 51, 52, 53, 54, 55, 56, 57, 58, 59, 60, 62, 63, 64, 65, 66, 67]
def LN : List Nat := [68, 71, 74, 81, 82, 83, 84, 85, 86, 87, 88, 89, 90, 91, 92, 93, 94, 95, 96, 97, 98, 99, 100, 101, 102, 103]
theorem quiet_ok {A B : zM} {W H N : Nat} {P : Nat → Bool} {D R U : Nat → Int32} {pct : Int32} (g : RGr W H A) (hw : B.1 68 2 = nI W) (hh : B.1 68 3 = nI H) (hRw : RRw A) (hSt : ∀ k, k < 9 → A.1 26 k = B.1 80 k ∧ zxs 1001 k ≤ B.1 80 k ∧ B.1 80 k ≤ zxs 1002 k) (hpct : A.1 26 2 = pct) (hD : ∀ k, k < W * H → A.1 36 k = D k) (hDm : ∀ k, k < W * H → B.1 73 k = D k) (hDB : ∀ k, k < W * H → D k ≤ 6000) (hT : ∀ k, k < W * H → (A.1 37 k = 0 ↔ P k = false)) (hP : ∀ k, k < W * H → P k = !decide (D k < B.1 80 1)) (h74 : ∀ k, k < W * H → B.1 74 k = -1) (hR : ∀ k, k < W * H → A.1 35 k = R k ∧ B.1 72 k = R k) (hU : ∀ k, k < W * H → A.1 33 k = U k ∧ B.1 71 k = U k) (hTk : ∃ T, T ≤ 6 ∧ A.1 60 1 = nI T ∧ B.1 68 27 = nI T ∧ ∀ j, j < T → TE A B (A.2.2 61 j) j ∧ TB B j) (hid : A.1 60 2 = B.1 68 44) (hJ : RJ2 N A B) (hN : N + 20 < 2 ^ 30) (hfr : A.1 13 14 = B.1 68 17) :
    ∃ A' B' N', ((f_X3_form pct A).bind fun m4 => (f_X8_choose (m4.1 26 0) m4).bind fun m5 => (f_X6_solve (m5.1 26 4) m5).bind fun m6 => (f_X10_follow (m6.1 13 14) m6).bind fun m7 => (f_X10_beginNew m7).bind fun m8 => (f_X9_driftBaselines (m8.1 26 7) m8).bind fun m9 => some m9) = some A' ∧ ((f_X12_layHills B).bind fun m4 => (f_X12_laySpots m4).bind fun m5 => (f_X12_layPairs m5).bind fun m6 => (f_X12_followAll m6).bind fun m7 => (f_X12_beginAll m7).bind fun m8 => (f_X12_drift m8).bind fun m9 => some m9) = some B' ∧ FrT LQ A A' ∧ Fr LN B B' ∧ (∀ p, p ≠ 20 → p ≠ 27 → p ≠ 37 → p ≠ 44 → B'.1 68 p = B.1 68 p) ∧ RRw A' ∧ RSp (cmb A' B') ∧ RTk (cmb A' B') ∧ A'.1 60 2 = B'.1 68 44 ∧ RJ2 N' A' B' ∧ N ≤ N' ∧ N' ≤ N + 12 ∧ ∀ k, k < W * H → A'.1 33 k = B'.1 71 k ∧ A'.1 52 k = B'.1 74 k ∧ ∃ Q, B'.1 71 k = zdrB Q R U (B.1 80 7) W H k := by
  obtain ⟨_, w3, w8, h3, h8, _, _, q3, _⟩ := id g
  have h64 : W * H ≤ 64 := Nat.mul_le_mul w8 h8
  obtain ⟨T, hT6, c60, m27, hTT⟩ := hTk
  obtain ⟨rw1, rw2, rw3⟩ := id hRw
  -- hills
  have thr10 : (10 : Int32) ≤ B.1 80 1 := (hSt 1 (by omega)).2.1
  obtain ⟨A4, B4, s, pk, a1, a2, a3, a4, a5, a6⟩ := hills_ok (mc := A) (mm := B) (P := P) (D := D) (thr := B.1 80 1) (pct := pct) g hw hh (by rw [← hpct]; exact (hSt 2 (by omega)).1.symm) rfl thr10 hP hD hDm hT
  have g4 : RGr W H A4 := g.fr a3 (by decide) (by decide) (by decide) (by decide) (by decide) (by decide) (by decide)
  have A4_26 : A4.1 26 = A.1 26 := a3.2 26 (by decide)
  have B4_80 : B4.1 80 = B.1 80 := a4.2 80 (by decide)
  have B4_68 : B4.1 68 = B.1 68 := a4.2 68 (by decide)
  -- spots
  obtain ⟨A5, B5, S, b1, b2, b3, b4, b5, b6, b7, b8, b9, b10⟩ := spots_ok (mc := A4) (mm := B4) (mp := A4.1 26 0) g4 a5 a6 hDB (by rw [a3.2 36 (by decide)]; exact hD) (by rw [a4.2 73 (by decide)]; exact hDm) (by rw [B4_68]; exact hw) (by rw [B4_68]; exact hh) (by rw [A4_26, B4_80]; exact (hSt 0 (by omega)).1.symm) (by rw [a4.2 74 (by decide)]; exact h74) (by rw [a3.1]; exact rw1)
  have A5_26 : A5.1 26 = A.1 26 := (b3.2 26 (by decide)).trans A4_26
  have B5_80 : B5.1 80 = B.1 80 := (b4.2 80 (by decide)).trans B4_80
  have A5_2 : A5.2 = A.2 := b3.1.trans a3.1
  have A5_60 : A5.1 60 = A.1 60 := (b3.2 60 (by decide)).trans (a3.2 60 (by decide))
  have B5_27 : B5.1 68 27 = nI T := by rw [b5 27 (by decide), B4_68]; exact m27
  have rows5 : ∀ r, r < 6 → A5.1 (62 + r) = A.1 (62 + r) := fun r hr => (b3.2 (62 + r) (by simp; omega)).trans (a3.2 (62 + r) (by simp; omega))
  have arr5 : ∀ c, 87 ≤ c → c ≤ 99 → B5.1 c = B.1 c := fun c h1 h2 => (b4.2 c (by simp; omega)).trans (a4.2 c (by simp; omega))
  have SE5 : ∀ q, q < S → SE A5 B5 q ∧ SB B5 q := fun q hq => b9 q hq
  have TE5 : ∀ j, j < T → TE A5 B5 (A.2.2 61 j) j ∧ TB B5 j := by
    intro j hj
    obtain ⟨z1, z2⟩ := hTT j hj
    exact ⟨z1.cg (rows5 _ (rw2 j (by omega))) (fun c h1 h2 => by rw [arr5 c h1 (by omega)]), z2.cg (fun c h1 h2 => by rw [arr5 c h1 (by omega)])⟩
  -- pairs
  obtain ⟨R4, hR4, eR4⟩ : ∃ k : Nat, k ≤ 127 ∧ B.1 80 4 = nI k := by
    have q1 : (1 : Int32) ≤ B.1 80 4 := (hSt 4 (by omega)).2.1
    have q2 : B.1 80 4 ≤ 127 := (hSt 4 (by omega)).2.2
    obtain ⟨k, hk, e⟩ := (winK (k := 127) (by omega)).mp ⟨Int32.le_trans (by decide) q1, q2⟩
    exact ⟨k, hk, e⟩
  obtain ⟨tx, tx1, tx2⟩ := pos_fun (n := T) (g := B5.1 88) (fun j hj => ⟨(TE5 j hj).2.1, (TE5 j hj).2.2.1⟩)
  obtain ⟨ty, ty1, ty2⟩ := pos_fun (n := T) (g := B5.1 89) (fun j hj => ⟨(TE5 j hj).2.2.2.1, (TE5 j hj).2.2.2.2.1⟩)
  obtain ⟨sx, sx1, sx2⟩ := pos_fun (n := S) (g := B5.1 84) (fun j hj => ⟨(SE5 j hj).2.1, (SE5 j hj).2.2.1⟩)
  obtain ⟨sy, sy1, sy2⟩ := pos_fun (n := S) (g := B5.1 85) (fun j hj => ⟨(SE5 j hj).2.2.2.1, (SE5 j hj).2.2.2.2⟩)
  have hcb := coF_all tx1 ty1 sx1 sy1
  have PM : PosM R4 S T tx ty sx sy B5 := ⟨by rw [B5_80]; exact eR4, by omega, b6, hT6, b8, B5_27, fun t ht => ⟨tx2 t ht, ty2 t ht, tx1 t, ty1 t⟩, fun q hq => ⟨sx2 q hq, sy2 q hq, sx1 q, sy1 q⟩⟩
  have A5_61 : ∀ j, A5.2.2 61 j = A.2.2 61 j := fun j => by rw [A5_2]
  have A5_45 : ∀ j, A5.2.2 45 j = A.2.2 45 j := fun j => by rw [A5_2]
  have PC : PosC S T tx ty sx sy (zi A5 27 3 (nI S)) := by
    refine ⟨b6, hT6, ziE, ?_, fun t ht => ?_, fun q hq => ?_⟩
    · rw [ziO (by decide), A5_60]; exact c60
    · have e1 : (zi A5 27 3 (nI S)).2.2 61 t = A.2.2 61 t := A5_61 t
      have l1 := rw2 t (by omega)
      have z := (TE5 t ht).1
      rw [e1, Nat.mod_eq_of_lt l1, ziO (by omega), ziO (by omega), z.2.1, z.2.2.1]
      exact ⟨tx2 t ht, ty2 t ht, tx1 t, ty1 t⟩
    · have e1 : (zi A5 27 3 (nI S)).2.2 45 q = q := (A5_45 q).trans (rw1 q (by omega))
      have z := (SE5 q hq).1
      rw [e1, Nat.mod_eq_of_lt (show q < 6 by omega), ziO (by omega), ziO (by omega), z.2.2.2.1, z.2.2.2.2.1]
      exact ⟨sx2 q hq, sy2 q hq, sx1 q, sy1 q⟩
  obtain ⟨A6, c1, c2, c3⟩ := solve_c (m := A5) (R := R4) PC b7 (by omega) rfl rfl hcb
  obtain ⟨B6, d1, d2, d3⟩ := pairs_m (m := B5) PM rfl rfl hcb
  have A5_264 : A5.1 26 4 = nI R4 := by rw [A5_26, (hSt 4 (by omega)).1]; exact eR4
  have A6_26 : A6.1 26 = A.1 26 := (c2.2 26 (by decide)).trans A5_26
  have B6_80 : B6.1 80 = B.1 80 := (d2.2 80 (by decide)).trans B5_80
  have A6_2 : A6.2 = A.2 := c2.1.trans A5_2
  have A6_61 : ∀ j, A6.2.2 61 j = A.2.2 61 j := fun j => by rw [A6_2]
  have A6_45 : ∀ j, A6.2.2 45 j = A.2.2 45 j := fun j => by rw [A6_2]
  have B6_68 : B6.1 68 = B5.1 68 := d2.2 68 (by decide)
  have TE6 : ∀ j, j < T → TE A6 B6 (A6.2.2 61 j) j ∧ TB B6 j := by
    intro j hj
    obtain ⟨z1, z2⟩ := TE5 j hj
    have l1 := rw2 j (by omega)
    rw [A6_61]
    exact ⟨z1.cg (c2.2 _ (by simp; omega)) (fun c h1 h2 => by rw [d2.2 c (by simp; omega)]), z2.cg (fun c h1 h2 => by rw [d2.2 c (by simp; omega)])⟩
  have SE6 : ∀ q, q < S → SE A6 B6 q ∧ SB B6 q := by
    intro q hq
    obtain ⟨z1, z2⟩ := SE5 q hq
    exact ⟨z1.cg (c2.2 _ (by simp; omega)) (fun c h1 h2 => by rw [d2.2 c (by simp; omega)]), z2.cg (by rw [d2.2 84 (by decide)]) (by rw [d2.2 85 (by decide)])⟩
  have J6 : RJ2 N A6 B6 := by
    have e : ∀ c, c ∈ [8, 9, 10, 11, 12] → A6.1 c = A.1 c := fun c hc => by
      simp at hc
      exact (c2.2 c (by simp; omega)).trans ((b3.2 c (by simp; omega)).trans (a3.2 c (by simp; omega)))
    have e' : ∀ c, 96 ≤ c → c ≤ 99 → B6.1 c = B.1 c := fun c h1 h2 => (d2.2 c (by simp; omega)).trans (arr5 c (by omega) h2)
    exact hJ.cg (congrFun (e 8 (by decide)) 4) (e 9 (by decide)) (e 10 (by decide)) (e 11 (by decide)) (e 12 (by decide)) (by rw [B6_68, b5 37 (by decide), B4_68]) (e' 96 (by omega) (by omega)) (e' 97 (by omega) (by omega)) (e' 98 (by omega) (by omega)) (e' 99 (by omega) (by omega))
  have A6_13 : A6.1 13 = A.1 13 := (c2.2 13 (by decide)).trans ((b3.2 13 (by decide)).trans (a3.2 13 (by decide)))
  have B6_17 : B6.1 68 17 = A6.1 13 14 := by rw [B6_68, b5 17 (by decide), B4_68, A6_13]; exact hfr.symm
  -- tracks
  obtain ⟨A7, B7, T7, N7, e1, e2, e3, e4, e5, e6, e7, e8, e9, e10, e11, e12, e13, e14, e15, e16⟩ := follow_ok (mc := A6) (mm := B6) (S := S) (T := T) (N := N) (e := fun t => chP (nrF R4 tx ty sx sy) (coF tx ty sx sy) S T t (stP (nrF R4 tx ty sx sy) (coF tx ty sx sy) S T t)) (fr := A6.1 13 14) hT6 b6 (by rw [c2.2 60 (by decide), A5_60]; exact c60) (by rw [B6_68]; exact B5_27) c3 d3 (fun t x ht hx => chP_lt hx) (fun j hj => (A6_45 j).trans (rw1 j hj)) (fun j hj => by rw [A6_61]; exact rw2 j hj) (fun i j hi hj h => rw3 i j hi hj (by rw [← A6_61, ← A6_61]; exact h)) TE6 SE6 (fun k hk => by rw [A6_26, B6_80]; exact (hSt k hk).1) J6 hN B6_17
  have A7_26 : A7.1 26 = A.1 26 := (e3.1 26 (by decide)).trans A6_26
  have B7_80 : B7.1 80 = B.1 80 := (e5.2 80 (by decide)).trans B6_80
  have A7_45 : ∀ j, j < 6 → A7.2.2 45 j = j := fun j hj => by rw [e3.2.2 45 (by decide), A6_45]; exact rw1 j hj
  have A6_44 : A6.1 44 = A5.1 44 := c2.2 44 (by decide)
  have SE7 : ∀ q, q < S → SE A7 B7 q ∧ SB B7 q := fun q hq => ⟨e13 q hq, (SE6 q hq).2.cg (by rw [e5.2 84 (by decide)]) (by rw [e5.2 85 (by decide)])⟩
  obtain ⟨A8, B8, T8, f1, f2, f3, f4, f5, f6, f7, f8, f9, f10, f11⟩ := begin_ok (mc := A7) (mm := B7) (S := S) (T := T7) (by omega) b6 e8 e9 (by rw [e3.1 44 (by decide), A6_44]; exact b7) (by rw [e6 20 (by decide) (by decide), B6_68]; exact b8) (by rw [e4 2 (by decide), c2.2 60 (by decide), A5_60, e6 44 (by decide) (by decide), B6_68, b5 44 (by decide), B4_68]; exact hid) A7_45 e10 e11 e12 SE7 (by rw [A7_26, B7_80]; exact (hSt 3 (by omega)).1)
  have A8_26 : A8.1 26 = A.1 26 := (f3.2 26 (by decide)).trans A7_26
  have B8_80 : B8.1 80 = B.1 80 := (f4.2 80 (by decide)).trans B7_80
  -- drift
  have FA5 : FrT LQ A A5 := (FrT.refl.fr a3 (fun c hc => by simp [LQ] at hc ⊢; omega)).fr b3 (fun c hc => by simp [LQ] at hc ⊢; omega)
  have FA8 : FrT LQ A A8 := ((FA5.fr c2 (fun c hc => by simp [LQ] at hc ⊢; omega)).tr e3 (fun c hc => by simp [LQ] at hc ⊢; omega)).fr f3 (fun c hc => by simp [LQ] at hc ⊢; omega)
  have FB8 : Fr LN B B8 := ((((a4.wide (S' := LN) (by decide)).trans (b4.wide (by decide))).trans (d2.wide (by decide))).trans (e5.wide (by decide))).trans (f4.wide (by decide))
  have g8 : RGr W H A8 := g.frT FA8 (by decide) (by decide) (by decide) (by decide) (by decide) (by decide) (by decide)
  have B8_68 : ∀ p, p ≠ 20 → p ≠ 27 → p ≠ 37 → p ≠ 44 → B8.1 68 p = B.1 68 p := by
    intro p h1 h2 h3 h4
    rw [f5 p h2 h4, e6 p h3 h2, B6_68, b5 p h1, B4_68]
  have A8_33 : A8.1 33 = A.1 33 := (f3.2 33 (by decide)).trans ((e3.1 33 (by decide)).trans ((c2.2 33 (by decide)).trans ((b3.2 33 (by decide)).trans (a3.2 33 (by decide)))))
  have A8_35 : A8.1 35 = A.1 35 := FA8.1 35 (by decide)
  have A8_52 : A8.1 52 = A5.1 52 := (f3.2 52 (by decide)).trans ((e3.1 52 (by decide)).trans (c2.2 52 (by decide)))
  have A8_53 : A8.1 53 = A5.1 53 := (f3.2 53 (by decide)).trans ((e3.1 53 (by decide)).trans (c2.2 53 (by decide)))
  have B8_74 : B8.1 74 = B5.1 74 := (f4.2 74 (by decide)).trans ((e5.2 74 (by decide)).trans (d2.2 74 (by decide)))
  have B8_71 : B8.1 71 = B.1 71 := (f4.2 71 (by decide)).trans ((e5.2 71 (by decide)).trans ((d2.2 71 (by decide)).trans ((b4.2 71 (by decide)).trans (a4.2 71 (by decide)))))
  have B8_72 : B8.1 72 = B.1 72 := FB8.2 72 (by decide)
  have x0 : (0 : Int32) ≤ B.1 80 7 := (hSt 7 (by omega)).2.1
  have x1 : B.1 80 7 ≤ (50 : Int32) := (hSt 7 (by omega)).2.2
  have hPQ : ∀ k, k < W * H → (B8.1 74 k = -1 ↔ (fun k => !decide (B8.1 74 k = -1)) k = false) := by
    intro k hk
    simp
  obtain ⟨A9, i1, i2, i3⟩ := drift_c (m := A8) (P := fun k => !decide (B8.1 74 k = -1)) (R := R) (U := U) (x := B.1 80 7) g8 x0 x1 (fun k hk => by rw [← hPQ k hk, A8_53, B8_74]; exact (b10 k hk).2) (fun k hk => by rw [A8_35]; exact (hR k hk).1) (fun k hk => by rw [A8_33]; exact (hU k hk).1)
  obtain ⟨B9, k1, k2, k3⟩ := drift_m (m := B8) (P := fun k => !decide (B8.1 74 k = -1)) (R := R) (U := U) (W := W) (H := H) (by rw [B8_68 2 (by decide) (by decide) (by decide) (by decide)]; exact hw) (by rw [B8_68 3 (by decide) (by decide) (by decide) (by decide)]; exact hh) w3 w8 h3 h8 hPQ (fun k hk => by rw [B8_72]; exact (hR k hk).2) (fun k hk => by rw [B8_71]; exact (hU k hk).2)
  rw [B8_80] at k3
  have A8_267 : A8.1 26 7 = B.1 80 7 := by rw [A8_26]; exact (hSt 7 (by omega)).1
  have A9_2 : A9.2 = A7.2 := i2.1.trans f3.1
  refine ⟨A9, B9, N7, ?_, ?_, FA8.fr i2 (fun c hc => by simp [LQ] at hc ⊢; omega), FB8.trans (k2.wide (by decide)), ?_, ?_, ?_, ?_, ?_, ?_, e15, e16, fun k hk => ⟨?_, ?_, ?_⟩⟩
  · rw [a1]
    simp only [Option.bind_some, b1, A5_264, c1, e1, f1, A8_267, i1]
  · rw [a2]
    simp only [Option.bind_some, b2, d1, e2, f2, k1]
  · intro p h1 h2 h3 h4
    rw [k2.2 68 (by decide)]
    exact B8_68 p h1 h2 h3 h4
  · refine ⟨fun j hj => ?_, fun j hj => ?_, fun i j hi hj h => ?_⟩
    · rw [A9_2]; exact A7_45 j hj
    · rw [A9_2]; exact e10 j hj
    · rw [A9_2] at h; exact e11 i j hi hj h
  · refine RSp_of b6 ?_ ?_ (fun q hq => ⟨(f11 q hq).cg (i2.2 _ (by simp; omega)) (fun c h1 h2 => by rw [k2.2 c (by simp; omega)]), (SE7 q hq).2.cg (by rw [k2.2 84 (by decide), f4.2 84 (by decide)]) (by rw [k2.2 85 (by decide), f4.2 85 (by decide)])⟩)
    · rw [i2.2 44 (by decide), f3.2 44 (by decide), e3.1 44 (by decide), A6_44]; exact b7
    · rw [k2.2 68 (by decide), f5 20 (by decide) (by decide), e6 20 (by decide) (by decide), B6_68]; exact b8
  · refine RTk_of f6 ?_ ?_ (fun j hj => by rw [A9_2]; exact e10 j hj) (fun j hj => ?_)
    · rw [i2.2 60 (by decide)]; exact f7
    · rw [k2.2 68 (by decide)]; exact f8
    · rw [A9_2]
      obtain ⟨z1, z2⟩ := f10 j hj
      have l1 := e10 j (by omega)
      exact ⟨z1.cg (i2.2 _ (by simp; omega)) (fun c h1 h2 => by rw [k2.2 c (by simp; omega)]), z2.cg (fun c h1 h2 => by rw [k2.2 c (by simp; omega)])⟩
  · rw [i2.2 60 (by decide), k2.2 68 (by decide)]
    exact f9
  · refine e14.cg ?_ ?_ ?_ ?_ ?_ ?_ ?_ ?_ ?_ ?_
    · rw [i2.2 8 (by decide), f3.2 8 (by decide)]
    · rw [i2.2 9 (by decide), f3.2 9 (by decide)]
    · rw [i2.2 10 (by decide), f3.2 10 (by decide)]
    · rw [i2.2 11 (by decide), f3.2 11 (by decide)]
    · rw [i2.2 12 (by decide), f3.2 12 (by decide)]
    · rw [k2.2 68 (by decide), f5 37 (by decide) (by decide)]
    · rw [k2.2 96 (by decide), f4.2 96 (by decide)]
    · rw [k2.2 97 (by decide), f4.2 97 (by decide)]
    · rw [k2.2 98 (by decide), f4.2 98 (by decide)]
    · rw [k2.2 99 (by decide), f4.2 99 (by decide)]
  · rw [i3 k hk, k3 k hk]
  · rw [i2.2 52 (by decide), A8_52, k2.2 74 (by decide), B8_74]
    exact (b10 k hk).1
  · exact ⟨_, k3 k hk⟩
