/-! ===== fingers ===== -/
theorem mk47 {m : zM} {a b c d e f : Int32} {h : zH} : (MK m a b c d e f h).1 68 47 = a := by simp [MK]
theorem mk48 {m : zM} {a b c d e f : Int32} {h : zH} : (MK m a b c d e f h).1 68 48 = b := by simp [MK]
theorem MK_MK {m : zM} {a b c d e f a' b' c' d' e' f' : Int32} {h h' : zH} : MK (MK m a b c d e f h) a' b' c' d' e' f' h' = MK m a' b' c' d' e' f' h' := by
  refine Prod.ext (funext fun p => funext fun y => ?_) rfl
  simp only [MK]
  by_cases z : p = 68
  · subst z
    by_cases z1 : y = 47
    · subst z1; simp
    · by_cases z2 : y = 48
      · subst z2; simp
      · by_cases z3 : y = 49
        · subst z3; simp
        · by_cases z4 : y = 50
          · subst z4; simp
          · by_cases z5 : y = 51
            · subst z5; simp
            · by_cases z6 : y = 52
              · subst z6; simp
              · simp [z1, z2, z3, z4, z5, z6]
  · by_cases z1 : p = 75
    · subst z1; simp
    · by_cases z2 : p = 76
      · subst z2; simp
      · by_cases z3 : p = 77
        · subst z3; simp
        · by_cases z4 : p = 78
          · subst z4; simp
          · simp [z, z1, z2, z3, z4]
theorem mkn {m : zM} {a b c d e f : Int32} {h : zH} : (MK m a b c d e f h).1 68 0 = m.1 68 0 := by simp [MK]
theorem op_fingers {t : Nat} {m : zM} (h : Rel t m) : ∃ v m1 m2, f_X11_fingers m = some (v, m1) ∧ f_X12_fingers m1 = some (v, m2) ∧ Rel (t + 1) m2 := by
  obtain ⟨hP, hJ, hC, hR, hG⟩ := id h
  unfold f_X11_fingers f_X12_fingers
  rcases hG with hG | ⟨W, H, hG⟩
  · exact ⟨-10003, m, m, by rw [if_pos hG.1], by rw [isG_f hG.2.1]; rfl, h.mono (by omega)⟩
  obtain ⟨g1, g2, g3, g4, g5, g6, g7, g8, g9⟩ := id hG
  have h64 := hG.n64
  obtain ⟨p1, ⟨n, p2, p3⟩, p4⟩ := id hP
  obtain ⟨ok, j, hE, l1, l2, l3, l4⟩ := read_ok p2 (by rw [p1, p3]) p3 p4 g1 g2
  cases ok with
  | false =>
    obtain ⟨a', b', c', d', e', h', k1, k2, k3, k4⟩ := l4 (CK (zi (zi m 1 4 (nI (2 * W - 2))) 1 5 (nI (2 * H - 2))) (nI j) hE) 0 (Or.inl rfl) (by rw [← p3]; rfl) rfl (by rw [← pr_wide hG]; rfl) (by rw [← pr_high hG]; rfl) rfl rfl rfl rfl
    have k2' := k2 rfl
    subst k2'
    refine ⟨-10003, CK (zi (zi m 1 4 (nI (2 * W - 2))) 1 5 (nI (2 * H - 2))) (nI j) hE, MK (CK (zi (zi m 1 4 (nI (2 * W - 2))) 1 5 (nI (2 * H - 2))) (nI j) hE) a' b' c' d' e' 0 (m.1 75, m.1 76, m.1 77, m.1 78), ?_, ?_, ?_⟩
    · rw [pr_class hG, if_neg (by decide), l2]
      rfl
    · have e1 : (CK (zi (zi m 1 4 (nI (2 * W - 2))) 1 5 (nI (2 * H - 2))) (nI j) hE).1 68 2 = nI W := by rw [← pr_wide hG]; rfl
      have e0 : (CK (zi (zi m 1 4 (nI (2 * W - 2))) 1 5 (nI (2 * H - 2))) (nI j) hE).1 68 0 = nI n := by rw [← p3]; rfl
      rw [isG_t e1 g1.2.1 g1.2.2.1, k1]
      unfold j_X12_fingers_52 j_X12_fingers_53
      simp only [Option.bind_some, bi_t, show ¬ (1 : Int32) = 0 by decide, if_false, mkn, e0, mk47, mk48, if_true]
      by_cases hj : j = n
      · have := k3 rfl hj
        rw [if_pos (by rw [hj]), if_neg this.1]
        by_cases h5 : a' = 5
        · rw [if_pos h5, if_pos (this.2 h5)]
        · rw [if_neg h5]
      · rw [if_neg (nI_ne (by omega) (by omega) hj)]
    · exact ⟨(RP.cg hP rfl rfl rfl rfl), RJ.mono (RJ.cg hJ rfl rfl rfl rfl rfl rfl rfl rfl rfl rfl) (by omega), (RC.cg hC rfl rfl rfl rfl rfl rfl rfl rfl rfl rfl), (RRw.cg hR rfl rfl), Or.inr ⟨W, H, (RGr.cg g1 rfl rfl rfl rfl rfl rfl rfl rfl rfl rfl), (RHd.cg g2 rfl rfl rfl rfl rfl rfl rfl rfl), (RSn.cg g3 rfl rfl rfl rfl rfl), (RSf.cg g4 rfl rfl rfl rfl rfl rfl rfl rfl rfl rfl), (RSt.cg g5 rfl rfl), (RDr.cg g6 rfl rfl rfl rfl rfl rfl), (RFr.cg g7 rfl rfl rfl rfl rfl rfl), (RSp.cg g8 rfl rfl rfl rfl rfl rfl rfl rfl rfl rfl rfl rfl rfl rfl), (RTk.cg g9 hR rfl rfl rfl rfl rfl rfl rfl rfl rfl rfl rfl rfl rfl rfl rfl rfl rfl rfl)⟩⟩
  | true =>
    have oE := l3 rfl
    generalize hB : CK (zi (zi m 1 4 (nI (2 * W - 2))) 1 5 (nI (2 * H - 2))) (nI j) hE = B at l2
    have b4 : (B.1 4, B.1 5, B.1 6, B.1 7) = hE := by rw [← hB]; rfl
    have x4 : B.1 4 = hE.1 := by rw [← hB]; rfl
    have x5 : B.1 5 = hE.2.1 := by rw [← hB]; rfl
    have x6 : B.1 6 = hE.2.2.1 := by rw [← hB]; rfl
    have x7 : B.1 7 = hE.2.2.2 := by rw [← hB]; rfl
    have hcp := copy_v1 (W := W) (H := H) (m := B) (by rw [b4]; exact oE)
    rw [x4, x5, x6, x7] at hcp
    generalize hF0 : ((zup 5 hE.1 (B.1 20), zup 5 hE.2.1 (B.1 21), zup 5 hE.2.2.1 (B.1 22), zup 5 hE.2.2.2 (B.1 23)) : zH) = F at hcp
    have eF : HE F hE := by
      intro k hk
      rw [← hF0]
      simp only [zup_lt hk, and_self]
    have gC : RGr W H (CJ B F) := by
      subst hB
      exact (RGr.cg g1 rfl rfl rfl rfl rfl rfl rfl rfl rfl rfl)
    have hfe := feel_eq gC h64
    have y20 : (CJ B F).1 20 = F.1 := rfl
    have y21 : (CJ B F).1 21 = F.2.1 := rfl
    have y22 : (CJ B F).1 22 = F.2.2.1 := rfl
    have y23 : (CJ B F).1 23 = F.2.2.2 := rfl
    rw [y20, y21, y22, y23] at hfe
    generalize hg34 : zup (W * H) (zfelt F.1 F.2.1 F.2.2.1 F.2.2.2 W) ((CJ B F).1 34) = g34 at hfe
    generalize hD : zi (zi (zrow (CJ B F) 34 g34) 1 1 0) 0 3 (((zrow (CJ B F) 34 g34).1 0 3) + 1) = D
    have z20 : D.1 20 = F.1 := by rw [← hD]; rfl
    have z68 : D.1 68 = m.1 68 := by rw [← hD, ← hB]; rfl
    have z69 : D.1 69 = m.1 69 := by rw [← hD, ← hB]; rfl
    have z75 : D.1 75 = m.1 75 := by rw [← hD, ← hB]; rfl
    have z76 : D.1 76 = m.1 76 := by rw [← hD, ← hB]; rfl
    have z77 : D.1 77 = m.1 77 := by rw [← hD, ← hB]; rfl
    have z78 : D.1 78 = m.1 78 := by rw [← hD, ← hB]; rfl
    -- the model's two roads
    obtain ⟨a', b', c', d', e', h', k1, k2, k3, k4⟩ := l4 D 0 (Or.inl rfl) (by rw [z68]; exact p3) z69 (by rw [z68]; exact pr_wide hG) (by rw [z68]; exact pr_high hG) z75 z76 z77 z78
    have k2' := k2 rfl
    subst k2'
    obtain ⟨hj, k4b⟩ := k4 rfl
    subst hj
    obtain ⟨a2, b2, c2, d2, e2, h2, q1, _, _, q4⟩ := l4 (MK D a' b' c' d' e' 0 (m.1 75, m.1 76, m.1 77, m.1 78)) 1 (Or.inr rfl) (by rw [MKn, z68]; exact p3) (by rw [MK69]; exact z69) (by rw [MKW, z68]; exact pr_wide hG) (by rw [MKH, z68]; exact pr_high hG) rfl rfl rfl rfl
    obtain ⟨_, q4b⟩ := q4 rfl
    have key : ∃ (a3 b3 c3 d3 e3 : Int32) (h3 : zH), HE hE h3 ∧ (j_X12_fingers_48 (MK D a' b' c' d' e' 0 (m.1 75, m.1 76, m.1 77, m.1 78))) = j_X12_fingers_84 (MK D a3 b3 c3 d3 e3 1 h3) := by
      unfold j_X12_fingers_48 j_X12_fingers_53
      rw [q1]
      simp only [Option.bind_some, show ¬ (1 : Int32) = 0 by decide, if_false, mk47, mk48]
      rcases q4b with ⟨y1, y2⟩ | ⟨y1, y2, q, y3, y4, y5⟩
      · refine ⟨a2, b2, c2, d2, e2, h2, y2 rfl, ?_⟩
        rw [if_neg (by rw [y1]; decide), MK_MK]
      · refine ⟨a2, b2, c2, d2, e2, hput h2 q d2 e2 b2, y5 rfl, ?_⟩
        rw [if_pos y1, y4, putOn_eq y3, if_neg (show ¬ (1 : Int32) = 0 by decide), MK_MK]
        rfl
    obtain ⟨a3, b3, c3, d3, e3, h3, u1, u2⟩ := key
    have eF3 : HE F h3 := fun k hk => by
      have a := eF k hk
      have b := u1 k hk
      exact ⟨a.1.trans b.1, a.2.1.trans b.2.1, a.2.2.1.trans b.2.2.1, a.2.2.2.trans b.2.2.2⟩
    have hcnt : zsum (fun k => if F.1 k = 0 then 0 else 1) 5 = zsum (fun k => if h3.1 k = 0 then 0 else 1) 5 := zsum_congr 5 (fun k hk => by rw [(eF3 k hk).1])
    refine ⟨zsum (fun k => if F.1 k = 0 then 0 else 1) 5, D, zi (zi (MK D a3 b3 c3 d3 e3 1 h3) 68 45 (m.1 68 45 + 1)) 68 0 0, ?_, ?_, ?_⟩
    · rw [pr_class hG, if_neg (by decide), l2]
      simp only [Option.bind_some, bi_t, show ¬ (1 : Int32) = 0 by decide, if_false, hcp, hfe, hD, onCount_eq, z20]
    · have e1 : D.1 68 2 = nI W := by rw [z68]; exact pr_wide hG
      rw [isG_t e1 g1.2.1 g1.2.2.1, k1]
      have hacc : (if a' = 2 then j_X12_fingers_48 (MK D a' b' c' d' e' 0 (m.1 75, m.1 76, m.1 77, m.1 78)) else if a' = 5 then if b' < 10 then j_X12_fingers_52 (MK D a' b' c' d' e' 0 (m.1 75, m.1 76, m.1 77, m.1 78)) else j_X12_fingers_48 (MK D a' b' c' d' e' 0 (m.1 75, m.1 76, m.1 77, m.1 78)) else j_X12_fingers_52 (MK D a' b' c' d' e' 0 (m.1 75, m.1 76, m.1 77, m.1 78))) = j_X12_fingers_48 (MK D a' b' c' d' e' 0 (m.1 75, m.1 76, m.1 77, m.1 78)) := by
        rcases k4b with ⟨y1, _⟩ | ⟨y1, y2, _⟩
        · rw [if_pos y1]
        · rw [if_neg (by rw [y1]; decide), if_pos y1, if_neg y2]
      have e0 : D.1 68 0 = nI j := by rw [z68]; exact p3
      simp only [Option.bind_some, bi_t, show ¬ (1 : Int32) = 0 by decide, if_false, mkn, e0, mk47, mk48, if_true]
      rw [hacc, u2]
      unfold j_X12_fingers_84
      have e45 : (MK D a3 b3 c3 d3 e3 1 h3).1 68 45 = m.1 68 45 := by
        have : (MK D a3 b3 c3 d3 e3 1 h3).1 68 45 = D.1 68 45 := rfl
        rw [this, z68]
      have e75 : (zi (zi (MK D a3 b3 c3 d3 e3 1 h3) 68 45 (m.1 68 45 + 1)) 68 0 0).1 75 = h3.1 := rfl
      rw [e45, onMany_eq, e75, ← hcnt]
      rfl
    · have s11 : (zi (zi (MK D a3 b3 c3 d3 e3 1 h3) 68 45 (m.1 68 45 + 1)) 68 0 0).1 1 1 = 0 := by rw [← hD]; rfl
      have s34 : (zi (zi (MK D a3 b3 c3 d3 e3 1 h3) 68 45 (m.1 68 45 + 1)) 68 0 0).1 34 = g34 := by rw [← hD]; rfl
      have s03 : (zi (zi (MK D a3 b3 c3 d3 e3 1 h3) 68 45 (m.1 68 45 + 1)) 68 0 0).1 0 3 = m.1 0 3 + 1 := by rw [← hD, ← hB]; rfl
      have r20 : (zi (zi (MK D a3 b3 c3 d3 e3 1 h3) 68 45 (m.1 68 45 + 1)) 68 0 0).1 20 = F.1 := by rw [← hD]; rfl
      have r21 : (zi (zi (MK D a3 b3 c3 d3 e3 1 h3) 68 45 (m.1 68 45 + 1)) 68 0 0).1 21 = F.2.1 := by rw [← hD]; rfl
      have r22 : (zi (zi (MK D a3 b3 c3 d3 e3 1 h3) 68 45 (m.1 68 45 + 1)) 68 0 0).1 22 = F.2.2.1 := by rw [← hD]; rfl
      have r23 : (zi (zi (MK D a3 b3 c3 d3 e3 1 h3) 68 45 (m.1 68 45 + 1)) 68 0 0).1 23 = F.2.2.2 := by rw [← hD]; rfl
      have r75 : (zi (zi (MK D a3 b3 c3 d3 e3 1 h3) 68 45 (m.1 68 45 + 1)) 68 0 0).1 75 = h3.1 := rfl
      have r76 : (zi (zi (MK D a3 b3 c3 d3 e3 1 h3) 68 45 (m.1 68 45 + 1)) 68 0 0).1 76 = h3.2.1 := rfl
      have r77 : (zi (zi (MK D a3 b3 c3 d3 e3 1 h3) 68 45 (m.1 68 45 + 1)) 68 0 0).1 77 = h3.2.2.1 := rfl
      have r78 : (zi (zi (MK D a3 b3 c3 d3 e3 1 h3) 68 45 (m.1 68 45 + 1)) 68 0 0).1 78 = h3.2.2.2 := rfl
      have nP : RP (zi (zi (MK D a3 b3 c3 d3 e3 1 h3) 68 45 (m.1 68 45 + 1)) 68 0 0) := by
        refine ⟨s11, ⟨0, by omega, rfl⟩, ?_⟩
        have : (zi (zi (MK D a3 b3 c3 d3 e3 1 h3) 68 45 (m.1 68 45 + 1)) 68 0 0).1 69 = D.1 69 := rfl
        rw [this, z69, ← p4, ← hD, ← hB]
        rfl
      have nC : RC (zi (zi (MK D a3 b3 c3 d3 e3 1 h3) 68 45 (m.1 68 45 + 1)) 68 0 0) := by
        obtain ⟨c1, c2', c3', c4, c5⟩ := hC
        refine ⟨?_, ?_, ?_, ?_, ?_⟩
        · have : (zi (zi (MK D a3 b3 c3 d3 e3 1 h3) 68 45 (m.1 68 45 + 1)) 68 0 0).1 68 42 = D.1 68 42 := rfl
          rw [this, z68, ← c1, ← hD, ← hB]; rfl
        · have : (zi (zi (MK D a3 b3 c3 d3 e3 1 h3) 68 45 (m.1 68 45 + 1)) 68 0 0).1 68 43 = D.1 68 43 := rfl
          rw [this, z68, ← c2', ← hD, ← hB]; rfl
        · have : (zi (zi (MK D a3 b3 c3 d3 e3 1 h3) 68 45 (m.1 68 45 + 1)) 68 0 0).1 68 44 = D.1 68 44 := rfl
          rw [this, z68, ← c3', ← hD, ← hB]; rfl
        · rw [s03, c4]
          rfl
        · have : (zi (zi (MK D a3 b3 c3 d3 e3 1 h3) 68 45 (m.1 68 45 + 1)) 68 0 0).1 68 46 = D.1 68 46 := rfl
          rw [this, z68, ← c5, ← hD, ← hB]; rfl
      have nHd : RHd W H (zi (zi (MK D a3 b3 c3 d3 e3 1 h3) 68 45 (m.1 68 45 + 1)) 68 0 0) := by
        unfold RHd
        rw [r20, r21, r22, r23, r75, r76, r77, r78]
        refine ⟨eF3, fun k hk => ?_⟩
        have a := oE k hk
        have b := u1 k hk
        rw [b.1, b.2.1, b.2.2.1, b.2.2.2] at a
        exact a
      have nSn : RSn W H (zi (zi (MK D a3 b3 c3 d3 e3 1 h3) 68 45 (m.1 68 45 + 1)) 68 0 0) := by
        intro c hc
        rw [s34, r75, r76, r77, r78, ← hg34, zup_lt hc]
        exact zfeltN_congr 5 eF3
      subst hD
      subst hB
      exact ⟨nP, RJ.mono (RJ.cg hJ rfl rfl rfl rfl rfl rfl rfl rfl rfl rfl) (by omega), nC, (RRw.cg hR rfl rfl), Or.inr ⟨W, H, (RGr.cg g1 rfl rfl rfl rfl rfl rfl rfl rfl rfl rfl), nHd, nSn, (RSf.cg g4 rfl rfl rfl rfl rfl rfl rfl rfl rfl rfl), (RSt.cg g5 rfl rfl), (RDr.cg g6 rfl rfl rfl rfl rfl rfl), (RFr.cg g7 rfl rfl rfl rfl rfl rfl), (RSp.cg g8 rfl rfl rfl rfl rfl rfl rfl rfl rfl rfl rfl rfl rfl rfl), (RTk.cg g9 hR rfl rfl rfl rfl rfl rfl rfl rfl rfl rfl rfl rfl rfl rfl rfl rfl rfl rfl)⟩⟩
