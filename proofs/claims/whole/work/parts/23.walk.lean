set_option maxRecDepth 20000 in
theorem r_X1_neighbour {E : Nat × (Nat → Int32)} (x1 : Int32) (x2 : Int32) (m : zM) (x : Int32) (h : f_X1_neighbour x1 x2 m = some x) : zMet E zX1_neighbour [.ref 14, .int x1, .int x2] zSH m (some (.int x)) zSH m := by
  refine zMet.of (L0 := [some (.ref 14), some (.int x1), some (.int x2)]) rfl rfl (Nat.le_of_ble_eq_true rfl) rfl ?_
  unfold f_X1_neighbour at h
  refine zi_aloadn (q := 1) dX1_neighbour_0 rfl rfl ?_
  refine zi_getA (q := 4) dX1_neighbour_1 fl_1_21 so_14 rfl rfl ?_
  refine zi_bipush (q := 6) dX1_neighbour_4 kb_8 rfl ?_
  refine zi_iloadn (q := 7) dX1_neighbour_6 rfl rfl ?_
  refine zi_imul (q := 8) dX1_neighbour_7 rfl ?_
  refine zi_iloadn (q := 9) dX1_neighbour_8 rfl rfl ?_
  refine zi_iadd (q := 10) dX1_neighbour_9 rfl ?_
  obtain ⟨hz1, h⟩ := zg_some h
  refine zi_iald2 (q := 11) dX1_neighbour_10 so_18 (zin_vp hz1) rfl rfl ?_
  cases h
  exact zi_ret _ dX1_neighbour_11
set_option maxRecDepth 20000 in
theorem rb_X1_meets_10 {E : Nat × (Nat → Int32)} (x1 : Int32) (m : zM) (s : (Int32)) (rv : Option Value) (m' : zM) (x : ((Int32) ⊕ (Unit ⊕ Bool))) (h : b_X1_meets_10 x1 m s = some x) (KI : ∀ s1 : (Int32), x = .inl s1 → Rn E zX1_meets 10 [some (.ref 14), some (.int x1), some (.ref 37), some (.int s1)] [] zSH m rv zSH m') (KO : ∀ r1 : Unit, x = .inr (.inl r1) → Rn E zX1_meets 39 [none, none, none, none] [] zSH m rv zSH m') (KR : ∀ v : Bool, x = .inr (.inr v) → rv = some (.int (bi v)) ∧ m' = m) : Rn E zX1_meets 10 [some (.ref 14), some (.int x1), some (.ref 37), some (.int s)] [] zSH m rv zSH m' := by
  unfold b_X1_meets_10 at h
  refine zi_iloadn (q := 11) dX1_meets_10 rfl rfl ?_
  refine zi_aloadn (q := 12) dX1_meets_11 rfl rfl ?_
  refine zi_getA (q := 15) dX1_meets_12 fl_1_18 so_14 rfl rfl ?_
  refine zi_iloadn (q := 16) dX1_meets_15 rfl rfl ?_
  obtain ⟨hz2, h⟩ := zg_some h
  refine zi_iald2 (q := 17) dX1_meets_16 so_17 (zin_vp hz2) rfl rfl ?_
  refine zi_icmpge (q := 39) (q2 := 20) dX1_meets_17 (by decide) rfl (fun hc => ?_) (fun hc => ?_)
  · replace h := (if_pos hc).symm.trans h
    refine Rn.weakm [false, false, false, false] ?_
    exact KO () (Option.some.inj h).symm
  · replace h := (if_neg hc).symm.trans h
    refine zi_aloadn (q := 21) dX1_meets_20 rfl rfl ?_
    refine zi_aloadn (q := 22) dX1_meets_21 rfl rfl ?_
    refine zi_iloadn (q := 23) dX1_meets_22 rfl rfl ?_
    refine zi_iloadn (q := 24) dX1_meets_23 rfl rfl ?_
    obtain ⟨r3, hr3, h⟩ := Option.bind_eq_some_iff.mp h
    refine zc_V2 (q := 27) (st := [.ref 37]) (S1 := [.int r3, .ref 37]) (r_X1_neighbour x1 s _ r3 hr3) dX1_meets_24 cb_X1_neighbour k3_131 k3_132 k3_133 ⟨by decide, by decide⟩ so_14 rfl rfl rfl (Nat.le_of_ble_eq_true rfl) (Or.inl rfl) rfl rfl ?_
    obtain ⟨hz4, h⟩ := zg_some h
    refine zi_bald2 (q := 28) dX1_meets_27 so_37 (zin_vp hz4) rfl rfl ?_
    refine zi_ifeq (q := 33) (q2 := 31) dX1_meets_28 (by decide) rfl (fun hc => ?_) (fun hc => ?_)
    · replace h := (if_pos hc).symm.trans h
      refine zi_iinc (q := 36) (v := s + 1) (L' := [some (.ref 14), some (.int x1), some (.ref 37), some (.int (s + 1))]) dX1_meets_33 rfl (by rw [ki_1]) (by decide) rfl rfl rfl ?_
      refine zi_goto (q := 10) dX1_meets_36 (by decide) ?_
      exact KI (s + 1) (Option.some.inj h).symm
    · replace h := (if_neg hc).symm.trans h
      refine zi_iconst (q := 32) dX1_meets_31 ki_1 rfl ?_
      obtain ⟨e1, e2⟩ := KR _ (Option.some.inj h).symm
      rw [e1, e2]
      exact zi_ret _ dX1_meets_32
set_option maxRecDepth 20000 in
theorem r_X1_meets {E : Nat × (Nat → Int32)} (x1 : Int32) (m : zM) (x : Bool) (h : f_X1_meets x1 m = some x) : zMet E zX1_meets [.ref 14, .int x1, .ref 37] zSH m (some (.int (bi x))) zSH m := by
  refine zMet.of (L0 := [some (.ref 14), some (.int x1), some (.ref 37), none]) rfl (zfit_bi _) (Nat.le_of_ble_eq_true rfl) rfl ?_
  unfold f_X1_meets at h
  refine zi_aloadn (q := 1) dX1_meets_0 rfl rfl ?_
  refine zi_iloadn (q := 2) dX1_meets_1 rfl rfl ?_
  obtain ⟨hz1, h⟩ := zg_some h
  refine zi_bald2 (q := 3) dX1_meets_2 so_37 (zin_vp hz1) rfl rfl ?_
  refine zi_ifeq (q := 8) (q2 := 6) dX1_meets_3 (by decide) rfl (fun hc => ?_) (fun hc => ?_)
  · replace h := (if_pos hc).symm.trans h
    refine zi_iconst (q := 9) dX1_meets_8 ki_0 rfl ?_
    refine zi_istoren (q := 10) (L' := [some (.ref 14), some (.int x1), some (.ref 37), some (.int 0)]) dX1_meets_9 (by decide) rfl rfl rfl ?_
    obtain ⟨r5, hr5, h⟩ := Option.bind_eq_some_iff.mp h
    refine zloop_rn (P := fun w : (Int32) => Rn E zX1_meets 10 [some (.ref 14), some (.int x1), some (.ref 37), some (.int w)] [] zSH m (some (.int (bi x))) zSH m) (X := Sum.elim (fun w : Unit => Rn E zX1_meets 39 [none, none, none, none] [] zSH m (some (.int (bi x))) zSH m) (fun v : Bool => (some (Value.int (bi x))) = some (Value.int (bi v)) ∧ m = m)) (fun w w0 hb KI KX => rb_X1_meets_10 x1 m w _ _ w0 hb KI (fun w1 e => KX (.inl w1) e) (fun w1 e => KX (.inr w1) e)) zFU _ r5 hr5 ?_
    rcases r5 with r5 | v6
    · replace h := (zelim_l).symm.trans h
      show Rn E zX1_meets 39 [none, none, none, none] [] zSH m (some (.int (bi x))) zSH m
      refine zi_iconst (q := 40) dX1_meets_39 ki_0 rfl ?_
      cases h
      exact zi_ret _ dX1_meets_40
    · replace h := (zelim_r).symm.trans h
      cases h
      exact ⟨rfl, rfl⟩
  · replace h := (if_neg hc).symm.trans h
    refine zi_iconst (q := 7) dX1_meets_6 ki_1 rfl ?_
    cases h
    exact zi_ret _ dX1_meets_7
set_option maxRecDepth 20000 in
theorem rj_X9_quietSpread_91 {E : Nat × (Nat → Int32)} (x1 : Int32) (x2 : Int32) (x3 : Int32) (x4 : Int32) (m : zM) (rv : Option Value) (m' : zM) (x : ((Int32 × Int32 × Int32 × Int32) ⊕ (Int32 × Int32))) (h : j_X9_quietSpread_91 x1 x2 x3 x4 m = some x) (KI : ∀ s1 : (Int32 × Int32 × Int32 × Int32), x = .inl s1 → Rn E zX9_quietSpread 9 [some (.ref 31), some (.int s1.1), some (.int s1.2.1), some (.int s1.2.2.1), some (.int s1.2.2.2)] [] zSH m rv zSH m') : Rn E zX9_quietSpread 91 [some (.ref 31), some (.int x1), some (.int x2), some (.int x3), some (.int x4)] [] zSH m rv zSH m' := by
  unfold j_X9_quietSpread_91 at h
  refine zi_iinc (q := 94) (v := x4 + 1) (L' := [some (.ref 31), some (.int x1), some (.int x2), some (.int x3), some (.int (x4 + 1))]) dX9_quietSpread_91 rfl (by rw [ki_1]) (by decide) rfl rfl rfl ?_
  refine zi_goto (q := 9) dX9_quietSpread_94 (by decide) ?_
  exact KI (x1, x2, x3, (x4 + 1)) (Option.some.inj h).symm
set_option maxRecDepth 20000 in
theorem rj_X9_quietSpread_88 {E : Nat × (Nat → Int32)} (x2 : Int32) (x4 : Int32) (s0 : Int32) (m : zM) (rv : Option Value) (m' : zM) (x : ((Int32 × Int32 × Int32 × Int32) ⊕ (Int32 × Int32))) (h : j_X9_quietSpread_88 x2 x4 s0 m = some x) (KI : ∀ s1 : (Int32 × Int32 × Int32 × Int32), x = .inl s1 → Rn E zX9_quietSpread 9 [some (.ref 31), some (.int s1.1), some (.int s1.2.1), some (.int s1.2.2.1), some (.int s1.2.2.2)] [] zSH m rv zSH m') : Rn E zX9_quietSpread 88 [some (.ref 31), none, some (.int x2), none, some (.int x4)] [.int s0] zSH m rv zSH m' := by
  unfold j_X9_quietSpread_88 at h
  refine zi_istoren (q := 89) (L' := [some (.ref 31), none, some (.int x2), some (.int s0), some (.int x4)]) dX9_quietSpread_88 (by decide) rfl rfl rfl ?_
  refine zi_iconst (q := 90) dX9_quietSpread_89 ki_1 rfl ?_
  refine zi_istoren (q := 91) (L' := [some (.ref 31), some (.int 1), some (.int x2), some (.int s0), some (.int x4)]) dX9_quietSpread_90 (by decide) rfl rfl rfl ?_
  exact rj_X9_quietSpread_91 1 x2 s0 x4 _ _ _ _ h KI
set_option maxRecDepth 20000 in
theorem rj_X9_quietSpread_62 {E : Nat × (Nat → Int32)} (x1 : Int32) (x3 : Int32) (x4 : Int32) (s0 : Int32) (m : zM) (rv : Option Value) (m' : zM) (x : ((Int32 × Int32 × Int32 × Int32) ⊕ (Int32 × Int32))) (h : j_X9_quietSpread_62 x1 x3 x4 s0 m = some x) (KI : ∀ s1 : (Int32 × Int32 × Int32 × Int32), x = .inl s1 → Rn E zX9_quietSpread 9 [some (.ref 31), some (.int s1.1), some (.int s1.2.1), some (.int s1.2.2.1), some (.int s1.2.2.2)] [] zSH m rv zSH m') : Rn E zX9_quietSpread 62 [some (.ref 31), some (.int x1), none, some (.int x3), some (.int x4)] [.int s0] zSH m rv zSH m' := by
  unfold j_X9_quietSpread_62 at h
  refine zi_istoren (q := 63) (L' := [some (.ref 31), some (.int x1), some (.int s0), some (.int x3), some (.int x4)]) dX9_quietSpread_62 (by decide) rfl rfl rfl ?_
  refine zi_iloadn (q := 64) dX9_quietSpread_63 rfl rfl ?_
  refine zi_ifeq (q := 81) (q2 := 67) dX9_quietSpread_64 (by decide) rfl (fun hc => ?_) (fun hc => ?_)
  · replace h := (if_pos hc).symm.trans h
    refine zi_aloadn (q := 82) dX9_quietSpread_81 rfl rfl ?_
    refine zi_getA (q := 85) dX9_quietSpread_82 fl_9_24 so_31 rfl rfl ?_
    refine zi_iload (q := 87) dX9_quietSpread_85 rfl rfl ?_
    obtain ⟨hz3, h⟩ := zg_some h
    refine zi_iald2 (q := 88) dX9_quietSpread_87 so_36 (zin_vp hz3) rfl rfl ?_
    refine Rn.weakm [true, false, true, false, true] ?_
    exact rj_X9_quietSpread_88 s0 x4 (m.1 36 x4.toNatClampNeg) _ _ _ _ h KI
  · replace h := (if_neg hc).symm.trans h
    refine zi_iloadn (q := 68) dX9_quietSpread_67 rfl rfl ?_
    refine zi_aloadn (q := 69) dX9_quietSpread_68 rfl rfl ?_
    refine zi_getA (q := 72) dX9_quietSpread_69 fl_9_24 so_31 rfl rfl ?_
    refine zi_iload (q := 74) dX9_quietSpread_72 rfl rfl ?_
    obtain ⟨hz4, h⟩ := zg_some h
    refine zi_iald2 (q := 75) dX9_quietSpread_74 so_36 (zin_vp hz4) rfl rfl ?_
    obtain ⟨r5, hr5, h⟩ := Option.bind_eq_some_iff.mp h
    refine zc_S2 (q := 78) (st := []) (S1 := [.int r5]) (r_J9_max_7cf53 x3 (m.1 36 x4.toNatClampNeg) _ r5 hr5) dX9_quietSpread_75 cb_J9_max_7cf53 k3_70 k3_0 ⟨by decide, by decide⟩ rfl (Nat.le_of_ble_eq_true rfl) (Or.inl rfl) rfl rfl ?_
    refine zi_goto (q := 88) dX9_quietSpread_78 (by decide) ?_
    refine Rn.weakm [true, false, true, false, true] ?_
    exact rj_X9_quietSpread_88 s0 x4 r5 _ _ _ _ h KI
set_option maxRecDepth 20000 in
theorem rb_X9_quietSpread_9 {E : Nat × (Nat → Int32)}  (m : zM) (s : (Int32 × Int32 × Int32 × Int32)) (rv : Option Value) (m' : zM) (x : ((Int32 × Int32 × Int32 × Int32) ⊕ (Int32 × Int32))) (h : b_X9_quietSpread_9 m s = some x) (KI : ∀ s1 : (Int32 × Int32 × Int32 × Int32), x = .inl s1 → Rn E zX9_quietSpread 9 [some (.ref 31), some (.int s1.1), some (.int s1.2.1), some (.int s1.2.2.1), some (.int s1.2.2.2)] [] zSH m rv zSH m') (KO : ∀ r1 : (Int32 × Int32), x = .inr r1 → Rn E zX9_quietSpread 97 [none, none, some (.int r1.1), some (.int r1.2), none] [] zSH m rv zSH m') : Rn E zX9_quietSpread 9 [some (.ref 31), some (.int s.1), some (.int s.2.1), some (.int s.2.2.1), some (.int s.2.2.2)] [] zSH m rv zSH m' := by
  unfold b_X9_quietSpread_9 at h
  refine zi_iload (q := 11) dX9_quietSpread_9 rfl rfl ?_
  refine zi_aloadn (q := 12) dX9_quietSpread_11 rfl rfl ?_
  refine zi_getA (q := 15) dX9_quietSpread_12 fl_9_31 so_31 rfl rfl ?_
  refine zi_getI (q := 18) dX9_quietSpread_15 fl_9_41 (by decide) so_14 rfl ?_
  refine zi_icmpge (q := 97) (q2 := 21) dX9_quietSpread_18 (by decide) rfl (fun hc => ?_) (fun hc => ?_)
  · replace h := (if_pos hc).symm.trans h
    refine Rn.weakm [false, false, true, true, false] ?_
    exact KO (s.2.1, s.2.2.1) (Option.some.inj h).symm
  · replace h := (if_neg hc).symm.trans h
    refine zi_aloadn (q := 22) dX9_quietSpread_21 rfl rfl ?_
    refine zi_getA (q := 25) dX9_quietSpread_22 fl_9_31 so_31 rfl rfl ?_
    refine zi_iload (q := 27) dX9_quietSpread_25 rfl rfl ?_
    refine zi_aloadn (q := 28) dX9_quietSpread_27 rfl rfl ?_
    refine zi_getA (q := 31) dX9_quietSpread_28 fl_9_27 so_31 rfl rfl ?_
    obtain ⟨r1, hr1, h⟩ := Option.bind_eq_some_iff.mp h
    refine zc_V2 (q := 34) (st := []) (S1 := [.int (bi r1)]) (r_X1_meets s.2.2.2 _ r1 hr1) dX9_quietSpread_31 cb_X1_meets k3_127 k3_128 k3_129 ⟨by decide, by decide⟩ so_14 rfl rfl rfl (Nat.le_of_ble_eq_true rfl) (Or.inl rfl) rfl rfl ?_
    refine zi_ifne (q := 91) (q2 := 37) dX9_quietSpread_34 (by decide) rfl (fun hc => ?_) (fun hc => ?_)
    · replace h := (if_neg hc).symm.trans h
      exact rj_X9_quietSpread_91 s.1 s.2.1 s.2.2.1 s.2.2.2 _ _ _ _ h KI
    · replace h := (if_pos hc).symm.trans h
      refine zi_iloadn (q := 38) dX9_quietSpread_37 rfl rfl ?_
      refine zi_ifeq (q := 55) (q2 := 41) dX9_quietSpread_38 (by decide) rfl (fun hc => ?_) (fun hc => ?_)
      · replace h := (if_pos hc).symm.trans h
        refine zi_aloadn (q := 56) dX9_quietSpread_55 rfl rfl ?_
        refine zi_getA (q := 59) dX9_quietSpread_56 fl_9_24 so_31 rfl rfl ?_
        refine zi_iload (q := 61) dX9_quietSpread_59 rfl rfl ?_
        obtain ⟨hz2, h⟩ := zg_some h
        refine zi_iald2 (q := 62) dX9_quietSpread_61 so_36 (zin_vp hz2) rfl rfl ?_
        refine Rn.weakm [true, true, false, true, true] ?_
        exact rj_X9_quietSpread_62 s.1 s.2.2.1 s.2.2.2 (m.1 36 s.2.2.2.toNatClampNeg) _ _ _ _ h KI
      · replace h := (if_neg hc).symm.trans h
        refine zi_iloadn (q := 42) dX9_quietSpread_41 rfl rfl ?_
        refine zi_aloadn (q := 43) dX9_quietSpread_42 rfl rfl ?_
        refine zi_getA (q := 46) dX9_quietSpread_43 fl_9_24 so_31 rfl rfl ?_
        refine zi_iload (q := 48) dX9_quietSpread_46 rfl rfl ?_
        obtain ⟨hz6, h⟩ := zg_some h
        refine zi_iald2 (q := 49) dX9_quietSpread_48 so_36 (zin_vp hz6) rfl rfl ?_
        obtain ⟨r7, hr7, h⟩ := Option.bind_eq_some_iff.mp h
        refine zc_S2 (q := 52) (st := []) (S1 := [.int r7]) (r_J9_min_7cf53 s.2.1 (m.1 36 s.2.2.2.toNatClampNeg) _ r7 hr7) dX9_quietSpread_49 cb_J9_min_7cf53 k3_69 k3_24 ⟨by decide, by decide⟩ rfl (Nat.le_of_ble_eq_true rfl) (Or.inl rfl) rfl rfl ?_
        refine zi_goto (q := 62) dX9_quietSpread_52 (by decide) ?_
        refine Rn.weakm [true, true, false, true, true] ?_
        exact rj_X9_quietSpread_62 s.1 s.2.2.1 s.2.2.2 r7 _ _ _ _ h KI
set_option maxRecDepth 20000 in
theorem r_X9_quietSpread {E : Nat × (Nat → Int32)}  (m : zM) (x : Int32) (h : f_X9_quietSpread  m = some x) : zMet E zX9_quietSpread [.ref 31] zSH m (some (.int x)) zSH m := by
  refine zMet.of (L0 := [some (.ref 31), none, none, none, none]) rfl rfl (Nat.le_of_ble_eq_true rfl) rfl ?_
  unfold f_X9_quietSpread at h
  refine zi_iconst (q := 1) dX9_quietSpread_0 ki_0 rfl ?_
  refine zi_istoren (q := 2) (L' := [some (.ref 31), some (.int 0), none, none, none]) dX9_quietSpread_1 (by decide) rfl rfl rfl ?_
  refine zi_iconst (q := 3) dX9_quietSpread_2 ki_0 rfl ?_
  refine zi_istoren (q := 4) (L' := [some (.ref 31), some (.int 0), some (.int 0), none, none]) dX9_quietSpread_3 (by decide) rfl rfl rfl ?_
  refine zi_iconst (q := 5) dX9_quietSpread_4 ki_0 rfl ?_
  refine zi_istoren (q := 6) (L' := [some (.ref 31), some (.int 0), some (.int 0), some (.int 0), none]) dX9_quietSpread_5 (by decide) rfl rfl rfl ?_
  refine zi_iconst (q := 7) dX9_quietSpread_6 ki_0 rfl ?_
  refine zi_istore (q := 9) (L' := [some (.ref 31), some (.int 0), some (.int 0), some (.int 0), some (.int 0)]) dX9_quietSpread_7 (by decide) rfl rfl rfl ?_
  obtain ⟨r8, hr8, h⟩ := Option.bind_eq_some_iff.mp h
  refine zloop_rn (P := fun w : (Int32 × Int32 × Int32 × Int32) => Rn E zX9_quietSpread 9 [some (.ref 31), some (.int w.1), some (.int w.2.1), some (.int w.2.2.1), some (.int w.2.2.2)] [] zSH m (some (.int x)) zSH m) (X := fun w : (Int32 × Int32) => Rn E zX9_quietSpread 97 [none, none, some (.int w.1), some (.int w.2), none] [] zSH m (some (.int x)) zSH m) (fun w w0 hb KI KX => rb_X9_quietSpread_9 m w _ _ w0 hb KI KX) zFU _ r8 hr8 ?_
  show Rn E zX9_quietSpread 97 [none, none, some (.int r8.1), some (.int r8.2), none] [] zSH m (some (.int x)) zSH m
  refine zi_iloadn (q := 98) dX9_quietSpread_97 rfl rfl ?_
  refine zi_iloadn (q := 99) dX9_quietSpread_98 rfl rfl ?_
  refine zi_isub (q := 100) dX9_quietSpread_99 rfl ?_
  cases h
  exact zi_ret _ dX9_quietSpread_100
set_option maxRecDepth 20000 in
theorem rj_X3_steepest_60 {E : Nat × (Nat → Int32)} (x1 : Int32) (x3 : Int32) (x4 : Int32) (m : zM) (rv : Option Value) (m' : zM) (x : ((Int32 × Int32) ⊕ (Int32))) (h : j_X3_steepest_60 x1 x3 x4 m = some x) (KI : ∀ s1 : (Int32 × Int32), x = .inl s1 → Rn E zX3_steepest 5 [some (.ref 38), some (.int x1), some (.ref 36), some (.int s1.1), some (.int s1.2), none] [] zSH m rv zSH m') : Rn E zX3_steepest 60 [some (.ref 38), some (.int x1), some (.ref 36), some (.int x3), some (.int x4), none] [] zSH m rv zSH m' := by
  unfold j_X3_steepest_60 at h
  refine zi_iinc (q := 63) (v := x4 + 1) (L' := [some (.ref 38), some (.int x1), some (.ref 36), some (.int x3), some (.int (x4 + 1)), none]) dX3_steepest_60 rfl (by rw [ki_1]) (by decide) rfl rfl rfl ?_
  refine zi_goto (q := 5) dX3_steepest_63 (by decide) ?_
  exact KI (x3, (x4 + 1)) (Option.some.inj h).symm
set_option maxRecDepth 20000 in
theorem rj_X3_steepest_57 {E : Nat × (Nat → Int32)} (x1 : Int32) (x4 : Int32) (x5 : Int32) (m : zM) (rv : Option Value) (m' : zM) (x : ((Int32 × Int32) ⊕ (Int32))) (h : j_X3_steepest_57 x1 x4 x5 m = some x) (KI : ∀ s1 : (Int32 × Int32), x = .inl s1 → Rn E zX3_steepest 5 [some (.ref 38), some (.int x1), some (.ref 36), some (.int s1.1), some (.int s1.2), none] [] zSH m rv zSH m') : Rn E zX3_steepest 57 [some (.ref 38), some (.int x1), some (.ref 36), none, some (.int x4), some (.int x5)] [] zSH m rv zSH m' := by
  unfold j_X3_steepest_57 at h
  refine zi_iload (q := 59) dX3_steepest_57 rfl rfl ?_
  refine zi_istoren (q := 60) (L' := [some (.ref 38), some (.int x1), some (.ref 36), some (.int x5), some (.int x4), some (.int x5)]) dX3_steepest_59 (by decide) rfl rfl rfl ?_
  refine Rn.weakm [true, true, true, true, true, false] ?_
  exact rj_X3_steepest_60 x1 x5 x4 _ _ _ _ h KI
set_option maxRecDepth 20000 in
theorem rb_X3_steepest_5 {E : Nat × (Nat → Int32)} (x1 : Int32) (m : zM) (s : (Int32 × Int32)) (rv : Option Value) (m' : zM) (x : ((Int32 × Int32) ⊕ (Int32))) (h : b_X3_steepest_5 x1 m s = some x) (KI : ∀ s1 : (Int32 × Int32), x = .inl s1 → Rn E zX3_steepest 5 [some (.ref 38), some (.int x1), some (.ref 36), some (.int s1.1), some (.int s1.2), none] [] zSH m rv zSH m') (KO : ∀ r1 : (Int32), x = .inr r1 → Rn E zX3_steepest 66 [none, none, none, some (.int r1), none, none] [] zSH m rv zSH m') : Rn E zX3_steepest 5 [some (.ref 38), some (.int x1), some (.ref 36), some (.int s.1), some (.int s.2), none] [] zSH m rv zSH m' := by
  unfold b_X3_steepest_5 at h
  refine zi_iload (q := 7) dX3_steepest_5 rfl rfl ?_
  refine zi_aloadn (q := 8) dX3_steepest_7 rfl rfl ?_
  refine zi_getA (q := 11) dX3_steepest_8 fl_3_28 so_38 rfl rfl ?_
  refine zi_getA (q := 14) dX3_steepest_11 fl_3_69 so_14 rfl rfl ?_
  refine zi_iloadn (q := 15) dX3_steepest_14 rfl rfl ?_
  obtain ⟨hz1, h⟩ := zg_some h
  refine zi_iald2 (q := 16) dX3_steepest_15 so_17 (zin_vp hz1) rfl rfl ?_
  refine zi_icmpge (q := 66) (q2 := 19) dX3_steepest_16 (by decide) rfl (fun hc => ?_) (fun hc => ?_)
  · replace h := (if_pos hc).symm.trans h
    refine Rn.weakm [false, false, false, true, false, false] ?_
    exact KO s.1 (Option.some.inj h).symm
  · replace h := (if_neg hc).symm.trans h
    refine zi_aloadn (q := 20) dX3_steepest_19 rfl rfl ?_
    refine zi_getA (q := 23) dX3_steepest_20 fl_3_28 so_38 rfl rfl ?_
    refine zi_iloadn (q := 24) dX3_steepest_23 rfl rfl ?_
    refine zi_iload (q := 26) dX3_steepest_24 rfl rfl ?_
    obtain ⟨r2, hr2, h⟩ := Option.bind_eq_some_iff.mp h
    refine zc_V2 (q := 29) (st := []) (S1 := [.int r2]) (r_X1_neighbour x1 s.2 _ r2 hr2) dX3_steepest_26 cb_X1_neighbour k3_151 k3_132 k3_133 ⟨by decide, by decide⟩ so_14 rfl rfl rfl (Nat.le_of_ble_eq_true rfl) (Or.inl rfl) rfl rfl ?_
    refine zi_istore (q := 31) (L' := [some (.ref 38), some (.int x1), some (.ref 36), some (.int s.1), some (.int s.2), some (.int r2)]) dX3_steepest_29 (by decide) rfl rfl rfl ?_
    refine zi_aloadn (q := 32) dX3_steepest_31 rfl rfl ?_
    refine zi_iload (q := 34) dX3_steepest_32 rfl rfl ?_
    obtain ⟨hz3, h⟩ := zg_some h
    refine zi_iald2 (q := 35) dX3_steepest_34 so_36 (zin_vp hz3) rfl rfl ?_
    refine zi_aloadn (q := 36) dX3_steepest_35 rfl rfl ?_
    refine zi_iloadn (q := 37) dX3_steepest_36 rfl rfl ?_
    obtain ⟨hz4, h⟩ := zg_some h
    refine zi_iald2 (q := 38) dX3_steepest_37 so_36 (zin_vp hz4) rfl rfl ?_
    refine zi_icmpgt (q := 57) (q2 := 41) dX3_steepest_38 (by decide) rfl (fun hc => ?_) (fun hc => ?_)
    · replace h := (if_pos hc).symm.trans h
      refine Rn.weakm [true, true, true, false, true, true] ?_
      exact rj_X3_steepest_57 x1 s.2 r2 _ _ _ _ h KI
    · replace h := (if_neg hc).symm.trans h
      refine zi_aloadn (q := 42) dX3_steepest_41 rfl rfl ?_
      refine zi_iload (q := 44) dX3_steepest_42 rfl rfl ?_
      obtain ⟨hz5, h⟩ := zg_some h
      refine zi_iald2 (q := 45) dX3_steepest_44 so_36 (zin_vp hz5) rfl rfl ?_
      refine zi_aloadn (q := 46) dX3_steepest_45 rfl rfl ?_
      refine zi_iloadn (q := 47) dX3_steepest_46 rfl rfl ?_
      obtain ⟨hz6, h⟩ := zg_some h
      refine zi_iald2 (q := 48) dX3_steepest_47 so_36 (zin_vp hz6) rfl rfl ?_
      refine zi_icmpne (q := 60) (q2 := 51) dX3_steepest_48 (by decide) rfl (fun hc => ?_) (fun hc => ?_)
      · replace h := (if_neg hc).symm.trans h
        refine Rn.weakm [true, true, true, true, true, false] ?_
        exact rj_X3_steepest_60 x1 s.1 s.2 _ _ _ _ h KI
      · replace h := (if_pos hc).symm.trans h
        refine zi_iload (q := 53) dX3_steepest_51 rfl rfl ?_
        refine zi_iloadn (q := 54) dX3_steepest_53 rfl rfl ?_
        refine zi_icmpge (q := 60) (q2 := 57) dX3_steepest_54 (by decide) rfl (fun hc => ?_) (fun hc => ?_)
        · replace h := (if_pos hc).symm.trans h
          refine Rn.weakm [true, true, true, true, true, false] ?_
          exact rj_X3_steepest_60 x1 s.1 s.2 _ _ _ _ h KI
        · replace h := (if_neg hc).symm.trans h
          refine Rn.weakm [true, true, true, false, true, true] ?_
          exact rj_X3_steepest_57 x1 s.2 r2 _ _ _ _ h KI
set_option maxRecDepth 20000 in
theorem r_X3_steepest {E : Nat × (Nat → Int32)} (x1 : Int32) (m : zM) (x : Int32) (h : f_X3_steepest x1 m = some x) : zMet E zX3_steepest [.ref 38, .int x1, .ref 36] zSH m (some (.int x)) zSH m := by
  refine zMet.of (L0 := [some (.ref 38), some (.int x1), some (.ref 36), none, none, none]) rfl rfl (Nat.le_of_ble_eq_true rfl) rfl ?_
  unfold f_X3_steepest at h
  refine zi_iloadn (q := 1) dX3_steepest_0 rfl rfl ?_
  refine zi_istoren (q := 2) (L' := [some (.ref 38), some (.int x1), some (.ref 36), some (.int x1), none, none]) dX3_steepest_1 (by decide) rfl rfl rfl ?_
  refine zi_iconst (q := 3) dX3_steepest_2 ki_0 rfl ?_
  refine zi_istore (q := 5) (L' := [some (.ref 38), some (.int x1), some (.ref 36), some (.int x1), some (.int 0), none]) dX3_steepest_3 (by decide) rfl rfl rfl ?_
  obtain ⟨r7, hr7, h⟩ := Option.bind_eq_some_iff.mp h
  refine zloop_rn (P := fun w : (Int32 × Int32) => Rn E zX3_steepest 5 [some (.ref 38), some (.int x1), some (.ref 36), some (.int w.1), some (.int w.2), none] [] zSH m (some (.int x)) zSH m) (X := fun w : (Int32) => Rn E zX3_steepest 66 [none, none, none, some (.int w), none, none] [] zSH m (some (.int x)) zSH m) (fun w w0 hb KI KX => rb_X3_steepest_5 x1 m w _ _ w0 hb KI KX) zFU _ r7 hr7 ?_
  show Rn E zX3_steepest 66 [none, none, none, some (.int r7), none, none] [] zSH m (some (.int x)) zSH m
  refine zi_iloadn (q := 67) dX3_steepest_66 rfl rfl ?_
  cases h
  exact zi_ret _ dX3_steepest_67
set_option maxRecDepth 20000 in
theorem rj_X3_findPeaks_108 {E : Nat × (Nat → Int32)} (x2 : Int32) (m : zM) (rv : Option Value) (m' : zM) (x : ((Int32 × zM) ⊕ (zM))) (h : j_X3_findPeaks_108 x2 m = some x) (KI : ∀ s1 : (Int32 × zM), x = .inl s1 → Rn E zX3_findPeaks 7 [some (.ref 38), some (.ref 31), some (.int s1.1)] [] zSH s1.2 rv zSH m') : Rn E zX3_findPeaks 108 [some (.ref 38), some (.ref 31), some (.int x2)] [] zSH m rv zSH m' := by
  unfold j_X3_findPeaks_108 at h
  refine zi_iinc (q := 111) (v := x2 + 1) (L' := [some (.ref 38), some (.ref 31), some (.int (x2 + 1))]) dX3_findPeaks_108 rfl (by rw [ki_1]) (by decide) rfl rfl rfl ?_
  refine zi_goto (q := 7) dX3_findPeaks_111 (by decide) ?_
  exact KI ((x2 + 1), m) (Option.some.inj h).symm
set_option maxRecDepth 20000 in
theorem rb_X3_findPeaks_7 {E : Nat × (Nat → Int32)}   (s : (Int32 × zM)) (rv : Option Value) (m' : zM) (x : ((Int32 × zM) ⊕ (zM))) (h : b_X3_findPeaks_7  s = some x) (KI : ∀ s1 : (Int32 × zM), x = .inl s1 → Rn E zX3_findPeaks 7 [some (.ref 38), some (.ref 31), some (.int s1.1)] [] zSH s1.2 rv zSH m') (KO : ∀ r1 : (zM), x = .inr r1 → Rn E zX3_findPeaks 114 [none, none, none] [] zSH r1 rv zSH m') : Rn E zX3_findPeaks 7 [some (.ref 38), some (.ref 31), some (.int s.1)] [] zSH s.2 rv zSH m' := by
  unfold b_X3_findPeaks_7 at h
  refine zi_iloadn (q := 8) dX3_findPeaks_7 rfl rfl ?_
  refine zi_aloadn (q := 9) dX3_findPeaks_8 rfl rfl ?_
  refine zi_getA (q := 12) dX3_findPeaks_9 fl_3_28 so_38 rfl rfl ?_
  refine zi_getI (q := 15) dX3_findPeaks_12 fl_3_60 (by decide) so_14 rfl ?_
  refine zi_icmpge (q := 114) (q2 := 18) dX3_findPeaks_15 (by decide) rfl (fun hc => ?_) (fun hc => ?_)
  · replace h := (if_pos hc).symm.trans h
    refine Rn.weakm [false, false, false] ?_
    exact KO s.2 (Option.some.inj h).symm
  · replace h := (if_neg hc).symm.trans h
    refine zi_aloadn (q := 19) dX3_findPeaks_18 rfl rfl ?_
    refine zi_getA (q := 22) dX3_findPeaks_19 fl_3_19 so_38 rfl rfl ?_
    refine zi_iloadn (q := 23) dX3_findPeaks_22 rfl rfl ?_
    refine zi_iconst (q := 24) dX3_findPeaks_23 ki_m1 rfl ?_
    obtain ⟨hz1, h⟩ := zg_some h
    refine zi_iast2 (q := 25) dX3_findPeaks_24 so_41 (zin_vp hz1) rfl rfl ?_
    refine zi_aloadn (q := 26) dX3_findPeaks_25 rfl rfl ?_
    refine zi_getA (q := 29) dX3_findPeaks_26 fl_3_36 so_31 rfl rfl ?_
    refine zi_iloadn (q := 30) dX3_findPeaks_29 rfl rfl ?_
    obtain ⟨hz2, h⟩ := zg_some h
    refine zi_bald2 (q := 31) dX3_findPeaks_30 so_37 (zin_vp hz2) rfl rfl ?_
    refine zi_ifeq (q := 108) (q2 := 34) dX3_findPeaks_31 (by decide) rfl (fun hc => ?_) (fun hc => ?_)
    · replace h := (if_pos hc).symm.trans h
      exact rj_X3_findPeaks_108 s.1 _ _ _ _ h KI
    · replace h := (if_neg hc).symm.trans h
      refine zi_aloadn (q := 35) dX3_findPeaks_34 rfl rfl ?_
      refine zi_getA (q := 38) dX3_findPeaks_35 fl_3_22 so_38 rfl rfl ?_
      refine zi_iloadn (q := 39) dX3_findPeaks_38 rfl rfl ?_
      refine zi_aloadn (q := 40) dX3_findPeaks_39 rfl rfl ?_
      refine zi_iloadn (q := 41) dX3_findPeaks_40 rfl rfl ?_
      refine zi_aloadn (q := 42) dX3_findPeaks_41 rfl rfl ?_
      refine zi_getA (q := 45) dX3_findPeaks_42 fl_3_45 so_31 rfl rfl ?_
      obtain ⟨r3, hr3, h⟩ := Option.bind_eq_some_iff.mp h
      refine zc_V2 (q := 48) (st := [.int s.1, .ref 42]) (S1 := [.int r3, .int s.1, .ref 42]) (r_X3_steepest s.1 _ r3 hr3) dX3_findPeaks_45 cb_X3_steepest k3_147 k3_149 ks_X3_steepest ⟨by decide, by decide⟩ so_38 rfl rfl rfl (Nat.le_of_ble_eq_true rfl) (Or.inl rfl) rfl rfl ?_
      obtain ⟨hz4, h⟩ := zg_some h
      refine zi_iast2 (q := 49) dX3_findPeaks_48 so_42 (zin_vp hz4) rfl rfl ?_
      refine zi_aloadn (q := 50) dX3_findPeaks_49 rfl rfl ?_
      refine zi_getA (q := 53) dX3_findPeaks_50 fl_3_22 so_38 rfl rfl ?_
      refine zi_iloadn (q := 54) dX3_findPeaks_53 rfl rfl ?_
      obtain ⟨hz5, h⟩ := zg_some h
      refine zi_iald2 (q := 55) dX3_findPeaks_54 so_42 (zin_vp hz5) rfl rfl ?_
      refine zi_iloadn (q := 56) dX3_findPeaks_55 rfl rfl ?_
      refine zi_icmpne (q := 108) (q2 := 59) dX3_findPeaks_56 (by decide) rfl (fun hc => ?_) (fun hc => ?_)
      · replace h := (if_neg hc).symm.trans h
        exact rj_X3_findPeaks_108 s.1 _ _ _ _ h KI
      · replace h := (if_pos hc).symm.trans h
        refine zi_aloadn (q := 60) dX3_findPeaks_59 rfl rfl ?_
        refine zi_getI (q := 63) dX3_findPeaks_60 fl_3_56 (by decide) so_38 rfl ?_
        refine zi_bipush (q := 65) dX3_findPeaks_63 kb_16 rfl ?_
        refine zi_icmpge (q := 108) (q2 := 68) dX3_findPeaks_65 (by decide) rfl (fun hc => ?_) (fun hc => ?_)
        · replace h := (if_pos hc).symm.trans h
          exact rj_X3_findPeaks_108 s.1 _ _ _ _ h KI
        · replace h := (if_neg hc).symm.trans h
          refine zi_aloadn (q := 69) dX3_findPeaks_68 rfl rfl ?_
          refine zi_getA (q := 72) dX3_findPeaks_69 fl_3_11 so_38 rfl rfl ?_
          refine zi_aloadn (q := 73) dX3_findPeaks_72 rfl rfl ?_
          refine zi_getI (q := 76) dX3_findPeaks_73 fl_3_56 (by decide) so_38 rfl ?_
          refine zi_iloadn (q := 77) dX3_findPeaks_76 rfl rfl ?_
          obtain ⟨hz6, h⟩ := zg_some h
          refine zi_iast2 (q := 78) dX3_findPeaks_77 so_39 (zin_vp hz6) rfl rfl ?_
          refine zi_aloadn (q := 79) dX3_findPeaks_78 rfl rfl ?_
          refine zi_getA (q := 82) dX3_findPeaks_79 fl_3_15 so_38 rfl rfl ?_
          refine zi_aloadn (q := 83) dX3_findPeaks_82 rfl rfl ?_
          refine zi_getI (q := 86) dX3_findPeaks_83 fl_3_56 (by decide) so_38 rfl ?_
          refine zi_iconst (q := 87) dX3_findPeaks_86 ki_1 rfl ?_
          obtain ⟨hz7, h⟩ := zg_some h
          refine zi_bast2 (q := 88) dX3_findPeaks_87 so_40 (zin_vp hz7) rfl rfl rfl ?_
          refine zi_aloadn (q := 89) dX3_findPeaks_88 rfl rfl ?_
          refine zi_getA (q := 92) dX3_findPeaks_89 fl_3_19 so_38 rfl rfl ?_
          refine zi_iloadn (q := 93) dX3_findPeaks_92 rfl rfl ?_
          refine zi_aloadn (q := 94) dX3_findPeaks_93 rfl rfl ?_
          refine zi_getI (q := 97) dX3_findPeaks_94 fl_3_56 (by decide) so_38 rfl ?_
          obtain ⟨hz8, h⟩ := zg_some h
          refine zi_iast2 (q := 98) dX3_findPeaks_97 so_41 (zin_vp hz8) rfl rfl ?_
          refine zi_aloadn (q := 99) dX3_findPeaks_98 rfl rfl ?_
          refine zi_dup (q := 100) dX3_findPeaks_99 rfl rfl ?_
          refine zi_getI (q := 103) dX3_findPeaks_100 fl_3_56 (by decide) so_38 rfl ?_
          refine zi_iconst (q := 104) dX3_findPeaks_103 ki_1 rfl ?_
          refine zi_iadd (q := 105) dX3_findPeaks_104 rfl ?_
          refine zi_putI (q := 108) dX3_findPeaks_105 pl_3_56 so_38 rfl ?_
          exact rj_X3_findPeaks_108 s.1 _ _ _ _ h KI
set_option maxRecDepth 20000 in
theorem r_X3_findPeaks {E : Nat × (Nat → Int32)}  (m : zM) (x : zM) (h : f_X3_findPeaks  m = some x) : zMet E zX3_findPeaks [.ref 38, .ref 31] zSH m none zSH x := by
  refine zMet.of (L0 := [some (.ref 38), some (.ref 31), none]) rfl trivial (Nat.le_of_ble_eq_true rfl) rfl ?_
  unfold f_X3_findPeaks at h
  refine zi_aloadn (q := 1) dX3_findPeaks_0 rfl rfl ?_
  refine zi_iconst (q := 2) dX3_findPeaks_1 ki_0 rfl ?_
  refine zi_putI (q := 5) dX3_findPeaks_2 pl_3_56 so_38 rfl ?_
  refine zi_iconst (q := 6) dX3_findPeaks_5 ki_0 rfl ?_
  refine zi_istoren (q := 7) (L' := [some (.ref 38), some (.ref 31), some (.int 0)]) dX3_findPeaks_6 (by decide) rfl rfl rfl ?_
  obtain ⟨r9, hr9, h⟩ := Option.bind_eq_some_iff.mp h
  refine zloop_rn (P := fun w : (Int32 × zM) => Rn E zX3_findPeaks 7 [some (.ref 38), some (.ref 31), some (.int w.1)] [] zSH w.2 none zSH x) (X := fun w : (zM) => Rn E zX3_findPeaks 114 [none, none, none] [] zSH w none zSH x) (fun w w0 hb KI KX => rb_X3_findPeaks_7  w _ _ w0 hb KI KX) zFU _ r9 hr9 ?_
  show Rn E zX3_findPeaks 114 [none, none, none] [] zSH r9 none zSH x
  cases h
  exact zi_ret _ dX3_findPeaks_114
set_option maxRecDepth 20000 in
theorem rj_X3_gatherCells_66 {E : Nat × (Nat → Int32)} (x2 : Int32) (m : zM) (rv : Option Value) (m' : zM) (x : ((Int32 × zM) ⊕ (zM))) (h : j_X3_gatherCells_66 x2 m = some x) (KI : ∀ s1 : (Int32 × zM), x = .inl s1 → Rn E zX3_gatherCells 2 [some (.ref 38), some (.ref 37), some (.int s1.1), none, none] [] zSH s1.2 rv zSH m') : Rn E zX3_gatherCells 66 [some (.ref 38), some (.ref 37), some (.int x2), none, none] [] zSH m rv zSH m' := by
  unfold j_X3_gatherCells_66 at h
  refine zi_iinc (q := 69) (v := x2 + 1) (L' := [some (.ref 38), some (.ref 37), some (.int (x2 + 1)), none, none]) dX3_gatherCells_66 rfl (by rw [ki_1]) (by decide) rfl rfl rfl ?_
  refine zi_goto (q := 2) dX3_gatherCells_69 (by decide) ?_
  exact KI ((x2 + 1), m) (Option.some.inj h).symm
set_option maxRecDepth 20000 in
theorem rb_X3_gatherCells_24 {E : Nat × (Nat → Int32)} (x2 : Int32) (m : zM) (s : (Int32 × Int32)) (rv : Option Value) (m' : zM) (x : ((Int32 × Int32) ⊕ (Int32))) (h : b_X3_gatherCells_24 x2 m s = some x) (KI : ∀ s1 : (Int32 × Int32), x = .inl s1 → Rn E zX3_gatherCells 24 [some (.ref 38), some (.ref 37), some (.int x2), some (.int s1.1), some (.int s1.2)] [] zSH m rv zSH m') (KO : ∀ r1 : (Int32), x = .inr r1 → Rn E zX3_gatherCells 54 [some (.ref 38), some (.ref 37), some (.int x2), some (.int r1), none] [] zSH m rv zSH m') : Rn E zX3_gatherCells 24 [some (.ref 38), some (.ref 37), some (.int x2), some (.int s.1), some (.int s.2)] [] zSH m rv zSH m' := by
  unfold b_X3_gatherCells_24 at h
  refine zi_iload (q := 26) dX3_gatherCells_24 rfl rfl ?_
  refine zi_bipush (q := 28) dX3_gatherCells_26 kb_64 rfl ?_
  refine zi_icmpge (q := 54) (q2 := 31) dX3_gatherCells_28 (by decide) rfl (fun hc => ?_) (fun hc => ?_)
  · replace h := (if_pos hc).symm.trans h
    refine Rn.weakm [true, true, true, true, false] ?_
    exact KO s.1 (Option.some.inj h).symm
  · replace h := (if_neg hc).symm.trans h
    refine zi_aloadn (q := 32) dX3_gatherCells_31 rfl rfl ?_
    refine zi_getA (q := 35) dX3_gatherCells_32 fl_3_19 so_38 rfl rfl ?_
    refine zi_iloadn (q := 36) dX3_gatherCells_35 rfl rfl ?_
    obtain ⟨hz2, h⟩ := zg_some h
    refine zi_iald2 (q := 37) dX3_gatherCells_36 so_41 (zin_vp hz2) rfl rfl ?_
    refine zi_iconst (q := 38) dX3_gatherCells_37 ki_m1 rfl ?_
    refine zi_icmpne (q := 54) (q2 := 41) dX3_gatherCells_38 (by decide) rfl (fun hc => ?_) (fun hc => ?_)
    · replace h := (if_neg hc).symm.trans h
      refine Rn.weakm [true, true, true, true, false] ?_
      exact KO s.1 (Option.some.inj h).symm
    · replace h := (if_pos hc).symm.trans h
      refine zi_aloadn (q := 42) dX3_gatherCells_41 rfl rfl ?_
      refine zi_getA (q := 45) dX3_gatherCells_42 fl_3_22 so_38 rfl rfl ?_
      refine zi_iloadn (q := 46) dX3_gatherCells_45 rfl rfl ?_
      obtain ⟨hz3, h⟩ := zg_some h
      refine zi_iald2 (q := 47) dX3_gatherCells_46 so_42 (zin_vp hz3) rfl rfl ?_
      refine zi_istoren (q := 48) (L' := [some (.ref 38), some (.ref 37), some (.int x2), some (.int (m.1 42 s.1.toNatClampNeg)), some (.int s.2)]) dX3_gatherCells_47 (by decide) rfl rfl rfl ?_
      refine zi_iinc (q := 51) (v := s.2 + 1) (L' := [some (.ref 38), some (.ref 37), some (.int x2), some (.int (m.1 42 s.1.toNatClampNeg)), some (.int (s.2 + 1))]) dX3_gatherCells_48 rfl (by rw [ki_1]) (by decide) rfl rfl rfl ?_
      refine zi_goto (q := 24) dX3_gatherCells_51 (by decide) ?_
      exact KI (m.1 42 s.1.toNatClampNeg, (s.2 + 1)) (Option.some.inj h).symm
set_option maxRecDepth 20000 in
theorem rj_X3_gatherCells_54 {E : Nat × (Nat → Int32)} (x2 : Int32) (x3 : Int32) (m : zM) (rv : Option Value) (m' : zM) (x : ((Int32 × zM) ⊕ (zM))) (h : j_X3_gatherCells_54 x2 x3 m = some x) (KI : ∀ s1 : (Int32 × zM), x = .inl s1 → Rn E zX3_gatherCells 2 [some (.ref 38), some (.ref 37), some (.int s1.1), none, none] [] zSH s1.2 rv zSH m') : Rn E zX3_gatherCells 54 [some (.ref 38), some (.ref 37), some (.int x2), some (.int x3), none] [] zSH m rv zSH m' := by
  unfold j_X3_gatherCells_54 at h
  refine zi_aloadn (q := 55) dX3_gatherCells_54 rfl rfl ?_
  refine zi_getA (q := 58) dX3_gatherCells_55 fl_3_19 so_38 rfl rfl ?_
  refine zi_iloadn (q := 59) dX3_gatherCells_58 rfl rfl ?_
  refine zi_aloadn (q := 60) dX3_gatherCells_59 rfl rfl ?_
  refine zi_getA (q := 63) dX3_gatherCells_60 fl_3_19 so_38 rfl rfl ?_
  refine zi_iloadn (q := 64) dX3_gatherCells_63 rfl rfl ?_
  obtain ⟨hz5, h⟩ := zg_some h
  refine zi_iald2 (q := 65) dX3_gatherCells_64 so_41 (zin_vp hz5) rfl rfl ?_
  obtain ⟨hz6, h⟩ := zg_some h
  refine zi_iast2 (q := 66) dX3_gatherCells_65 so_41 (zin_vp hz6) rfl rfl ?_
  refine Rn.weakm [true, true, true, false, false] ?_
  exact rj_X3_gatherCells_66 x2 _ _ _ _ h KI
set_option maxRecDepth 20000 in
theorem rb_X3_gatherCells_2 {E : Nat × (Nat → Int32)}   (s : (Int32 × zM)) (rv : Option Value) (m' : zM) (x : ((Int32 × zM) ⊕ (zM))) (h : b_X3_gatherCells_2  s = some x) (KI : ∀ s1 : (Int32 × zM), x = .inl s1 → Rn E zX3_gatherCells 2 [some (.ref 38), some (.ref 37), some (.int s1.1), none, none] [] zSH s1.2 rv zSH m') (KO : ∀ r1 : (zM), x = .inr r1 → Rn E zX3_gatherCells 72 [none, none, none, none, none] [] zSH r1 rv zSH m') : Rn E zX3_gatherCells 2 [some (.ref 38), some (.ref 37), some (.int s.1), none, none] [] zSH s.2 rv zSH m' := by
  unfold b_X3_gatherCells_2 at h
  refine zi_iloadn (q := 3) dX3_gatherCells_2 rfl rfl ?_
  refine zi_aloadn (q := 4) dX3_gatherCells_3 rfl rfl ?_
  refine zi_getA (q := 7) dX3_gatherCells_4 fl_3_28 so_38 rfl rfl ?_
  refine zi_getI (q := 10) dX3_gatherCells_7 fl_3_60 (by decide) so_14 rfl ?_
  refine zi_icmpge (q := 72) (q2 := 13) dX3_gatherCells_10 (by decide) rfl (fun hc => ?_) (fun hc => ?_)
  · replace h := (if_pos hc).symm.trans h
    refine Rn.weakm [false, false, false, false, false] ?_
    exact KO s.2 (Option.some.inj h).symm
  · replace h := (if_neg hc).symm.trans h
    refine zi_aloadn (q := 14) dX3_gatherCells_13 rfl rfl ?_
    refine zi_iloadn (q := 15) dX3_gatherCells_14 rfl rfl ?_
    obtain ⟨hz1, h⟩ := zg_some h
    refine zi_bald2 (q := 16) dX3_gatherCells_15 so_37 (zin_vp hz1) rfl rfl ?_
    refine zi_ifeq (q := 66) (q2 := 19) dX3_gatherCells_16 (by decide) rfl (fun hc => ?_) (fun hc => ?_)
    · replace h := (if_pos hc).symm.trans h
      exact rj_X3_gatherCells_66 s.1 _ _ _ _ h KI
    · replace h := (if_neg hc).symm.trans h
      refine zi_iloadn (q := 20) dX3_gatherCells_19 rfl rfl ?_
      refine zi_istoren (q := 21) (L' := [some (.ref 38), some (.ref 37), some (.int s.1), some (.int s.1), none]) dX3_gatherCells_20 (by decide) rfl rfl rfl ?_
      refine zi_iconst (q := 22) dX3_gatherCells_21 ki_0 rfl ?_
      refine zi_istore (q := 24) (L' := [some (.ref 38), some (.ref 37), some (.int s.1), some (.int s.1), some (.int 0)]) dX3_gatherCells_22 (by decide) rfl rfl rfl ?_
      obtain ⟨r4, hr4, h⟩ := Option.bind_eq_some_iff.mp h
      refine zloop_rn (P := fun w : (Int32 × Int32) => Rn E zX3_gatherCells 24 [some (.ref 38), some (.ref 37), some (.int s.1), some (.int w.1), some (.int w.2)] [] zSH s.2 rv zSH m') (X := fun w : (Int32) => Rn E zX3_gatherCells 54 [some (.ref 38), some (.ref 37), some (.int s.1), some (.int w), none] [] zSH s.2 rv zSH m') (fun w w0 hb KI KX => rb_X3_gatherCells_24 s.1 s.2 w _ _ w0 hb KI KX) zFU _ r4 hr4 ?_
      show Rn E zX3_gatherCells 54 [some (.ref 38), some (.ref 37), some (.int s.1), some (.int r4), none] [] zSH s.2 rv zSH m'
      exact rj_X3_gatherCells_54 s.1 r4 _ _ _ _ h KI
set_option maxRecDepth 20000 in
theorem r_X3_gatherCells {E : Nat × (Nat → Int32)}  (m : zM) (x : zM) (h : f_X3_gatherCells  m = some x) : zMet E zX3_gatherCells [.ref 38, .ref 37] zSH m none zSH x := by
  refine zMet.of (L0 := [some (.ref 38), some (.ref 37), none, none, none]) rfl trivial (Nat.le_of_ble_eq_true rfl) rfl ?_
  unfold f_X3_gatherCells at h
  refine zi_iconst (q := 1) dX3_gatherCells_0 ki_0 rfl ?_
  refine zi_istoren (q := 2) (L' := [some (.ref 38), some (.ref 37), some (.int 0), none, none]) dX3_gatherCells_1 (by decide) rfl rfl rfl ?_
  obtain ⟨r7, hr7, h⟩ := Option.bind_eq_some_iff.mp h
  refine zloop_rn (P := fun w : (Int32 × zM) => Rn E zX3_gatherCells 2 [some (.ref 38), some (.ref 37), some (.int w.1), none, none] [] zSH w.2 none zSH x) (X := fun w : (zM) => Rn E zX3_gatherCells 72 [none, none, none, none, none] [] zSH w none zSH x) (fun w w0 hb KI KX => rb_X3_gatherCells_2  w _ _ w0 hb KI KX) zFU _ r7 hr7 ?_
  show Rn E zX3_gatherCells 72 [none, none, none, none, none] [] zSH r7 none zSH x
  cases h
  exact zi_ret _ dX3_gatherCells_72
set_option maxRecDepth 20000 in
theorem rb_J7_fill_53178_v7_5 {E : Nat × (Nat → Int32)} (x1 : Int32) (x3 : Int32)  (s : (Int32 × zM)) (rv : Option Value) (m' : zM) (x : ((Int32 × zM) ⊕ (zM))) (h : b_J7_fill_53178_v7_5 x1 x3 s = some x) (KI : ∀ s1 : (Int32 × zM), x = .inl s1 → Rn E zJ7_fill_53178 5 [some (.ref 43), some (.int x1), some (.int s1.1), some (.int x3)] [] zSH s1.2 rv zSH m') (KO : ∀ r1 : (zM), x = .inr r1 → Rn E zJ7_fill_53178 20 [none, none, none, none] [] zSH r1 rv zSH m') : Rn E zJ7_fill_53178 5 [some (.ref 43), some (.int x1), some (.int s.1), some (.int x3)] [] zSH s.2 rv zSH m' := by
  unfold b_J7_fill_53178_v7_5 at h
  refine zi_iloadn (q := 6) dJ7_fill_53178_5 rfl rfl ?_
  refine zi_iloadn (q := 7) dJ7_fill_53178_6 rfl rfl ?_
  refine zi_icmpge (q := 20) (q2 := 10) dJ7_fill_53178_7 (by decide) rfl (fun hc => ?_) (fun hc => ?_)
  · replace h := (if_pos hc).symm.trans h
    refine Rn.weakm [false, false, false, false] ?_
    exact KO s.2 (Option.some.inj h).symm
  · replace h := (if_neg hc).symm.trans h
    refine zi_aloadn (q := 11) dJ7_fill_53178_10 rfl rfl ?_
    refine zi_iloadn (q := 12) dJ7_fill_53178_11 rfl rfl ?_
    refine zi_iloadn (q := 13) dJ7_fill_53178_12 rfl rfl ?_
    obtain ⟨hz1, h⟩ := zg_some h
    refine zi_iast2 (q := 14) dJ7_fill_53178_13 so_43 (zin_vp hz1) rfl rfl ?_
    refine zi_iinc (q := 17) (v := s.1 + 1) (L' := [some (.ref 43), some (.int x1), some (.int (s.1 + 1)), some (.int x3)]) dJ7_fill_53178_14 rfl (by rw [ki_1]) (by decide) rfl rfl rfl ?_
    refine zi_goto (q := 5) dJ7_fill_53178_17 (by decide) ?_
    exact KI ((s.1 + 1), (zi s.2 43 s.1.toNatClampNeg x1)) (Option.some.inj h).symm
set_option maxRecDepth 20000 in
theorem r_J7_fill_53178_v7 {E : Nat × (Nat → Int32)} (x1 : Int32) (m : zM) (x : zM) (h : f_J7_fill_53178_v7 x1 m = some x) : zMet E zJ7_fill_53178 [.ref 43, .int x1] zSH m none zSH x := by
  refine zMet.of (L0 := [some (.ref 43), some (.int x1), none, none]) rfl trivial (Nat.le_of_ble_eq_true rfl) rfl ?_
  unfold f_J7_fill_53178_v7 at h
  refine zi_iconst (q := 1) dJ7_fill_53178_0 ki_0 rfl ?_
  refine zi_istoren (q := 2) (L' := [some (.ref 43), some (.int x1), some (.int 0), none]) dJ7_fill_53178_1 (by decide) rfl rfl rfl ?_
  refine zi_aloadn (q := 3) dJ7_fill_53178_2 rfl rfl ?_
  refine zi_alen (q := 4) dJ7_fill_53178_3 so_43 al_256 rfl ?_
  refine zi_istoren (q := 5) (L' := [some (.ref 43), some (.int x1), some (.int 0), some (.int 256)]) dJ7_fill_53178_4 (by decide) rfl rfl rfl ?_
  obtain ⟨r2, hr2, h⟩ := Option.bind_eq_some_iff.mp h
  refine zloop_rn (P := fun w : (Int32 × zM) => Rn E zJ7_fill_53178 5 [some (.ref 43), some (.int x1), some (.int w.1), some (.int 256)] [] zSH w.2 none zSH x) (X := fun w : (zM) => Rn E zJ7_fill_53178 20 [none, none, none, none] [] zSH w none zSH x) (fun w w0 hb KI KX => rb_J7_fill_53178_v7_5 x1 256 w _ _ w0 hb KI KX) zFU _ r2 hr2 ?_
  show Rn E zJ7_fill_53178 20 [none, none, none, none] [] zSH r2 none zSH x
  cases h
  exact zi_ret _ dJ7_fill_53178_20
set_option maxRecDepth 20000 in
theorem r_X3_raisePass {E : Nat × (Nat → Int32)} (x1 : Int32) (x2 : Int32) (x3 : Int32) (m : zM) (x : zM) (h : f_X3_raisePass x1 x2 x3 m = some x) : zMet E zX3_raisePass [.ref 38, .int x1, .int x2, .int x3] zSH m none zSH x := by
  refine zMet.of (L0 := [some (.ref 38), some (.int x1), some (.int x2), some (.int x3), none]) rfl trivial (Nat.le_of_ble_eq_true rfl) rfl ?_
  unfold f_X3_raisePass at h
  refine zi_bipush (q := 2) dX3_raisePass_0 kb_16 rfl ?_
  refine zi_iloadn (q := 3) dX3_raisePass_2 rfl rfl ?_
  refine zi_imul (q := 4) dX3_raisePass_3 rfl ?_
  refine zi_iloadn (q := 5) dX3_raisePass_4 rfl rfl ?_
  refine zi_iadd (q := 6) dX3_raisePass_5 rfl ?_
  refine zi_istore (q := 8) (L' := [some (.ref 38), some (.int x1), some (.int x2), some (.int x3), some (.int ((16 * x1) + x2))]) dX3_raisePass_6 (by decide) rfl rfl rfl ?_
  refine zi_aloadn (q := 9) dX3_raisePass_8 rfl rfl ?_
  refine zi_getA (q := 12) dX3_raisePass_9 fl_3_25 so_38 rfl rfl ?_
  refine zi_iload (q := 14) dX3_raisePass_12 rfl rfl ?_
  refine zi_aloadn (q := 15) dX3_raisePass_14 rfl rfl ?_
  refine zi_getA (q := 18) dX3_raisePass_15 fl_3_25 so_38 rfl rfl ?_
  refine zi_iload (q := 20) dX3_raisePass_18 rfl rfl ?_
  obtain ⟨hz1, h⟩ := zg_some h
  refine zi_iald2 (q := 21) dX3_raisePass_20 so_43 (zin_vp hz1) rfl rfl ?_
  refine zi_iloadn (q := 22) dX3_raisePass_21 rfl rfl ?_
  obtain ⟨r2, hr2, h⟩ := Option.bind_eq_some_iff.mp h
  refine zc_S2 (q := 25) (st := [.int ((16 * x1) + x2), .ref 43]) (S1 := [.int r2, .int ((16 * x1) + x2), .ref 43]) (r_J9_max_7cf53 (m.1 43 ((16 * x1) + x2).toNatClampNeg) x3 _ r2 hr2) dX3_raisePass_22 cb_J9_max_7cf53 k3_166 k3_0 ⟨by decide, by decide⟩ rfl (Nat.le_of_ble_eq_true rfl) (Or.inl rfl) rfl rfl ?_
  obtain ⟨hz3, h⟩ := zg_some h
  refine zi_iast2 (q := 26) dX3_raisePass_25 so_43 (zin_vp hz3) rfl rfl ?_
  cases h
  exact zi_ret _ dX3_raisePass_26
set_option maxRecDepth 20000 in
theorem rj_X3_findPasses_101 {E : Nat × (Nat → Int32)} (x2 : Int32) (m : zM) (rv : Option Value) (m' : zM) (x : ((Int32 × zM) ⊕ (zM))) (h : j_X3_findPasses_101 x2 m = some x) (KI : ∀ s1 : (Int32 × zM), x = .inl s1 → Rn E zX3_findPasses 10 [some (.ref 38), some (.ref 36), some (.int s1.1), none, none] [] zSH s1.2 rv zSH m') : Rn E zX3_findPasses 101 [some (.ref 38), some (.ref 36), some (.int x2), none, none] [] zSH m rv zSH m' := by
  unfold j_X3_findPasses_101 at h
  refine zi_iinc (q := 104) (v := x2 + 1) (L' := [some (.ref 38), some (.ref 36), some (.int (x2 + 1)), none, none]) dX3_findPasses_101 rfl (by rw [ki_1]) (by decide) rfl rfl rfl ?_
  refine zi_goto (q := 10) dX3_findPasses_104 (by decide) ?_
  exact KI ((x2 + 1), m) (Option.some.inj h).symm
set_option maxRecDepth 20000 in
theorem rj_X3_findPasses_95 {E : Nat × (Nat → Int32)} (x2 : Int32) (x3 : Int32) (m : zM) (rv : Option Value) (m' : zM) (x : ((Int32 × zM) ⊕ (zM))) (h : j_X3_findPasses_95 x2 x3 m = some x) (KI : ∀ s1 : (Int32 × zM), x = .inl s1 → Rn E zX3_findPasses 33 [some (.ref 38), some (.ref 36), some (.int x2), some (.int s1.1), none] [] zSH s1.2 rv zSH m') : Rn E zX3_findPasses 95 [some (.ref 38), some (.ref 36), some (.int x2), some (.int x3), none] [] zSH m rv zSH m' := by
  unfold j_X3_findPasses_95 at h
  refine zi_iinc (q := 98) (v := x3 + 1) (L' := [some (.ref 38), some (.ref 36), some (.int x2), some (.int (x3 + 1)), none]) dX3_findPasses_95 rfl (by rw [ki_1]) (by decide) rfl rfl rfl ?_
  refine zi_goto (q := 33) dX3_findPasses_98 (by decide) ?_
  exact KI ((x3 + 1), m) (Option.some.inj h).symm
set_option maxRecDepth 20000 in
theorem rb_X3_findPasses_33 {E : Nat × (Nat → Int32)} (x2 : Int32)  (s : (Int32 × zM)) (rv : Option Value) (m' : zM) (x : ((Int32 × zM) ⊕ (zM))) (h : b_X3_findPasses_33 x2 s = some x) (KI : ∀ s1 : (Int32 × zM), x = .inl s1 → Rn E zX3_findPasses 33 [some (.ref 38), some (.ref 36), some (.int x2), some (.int s1.1), none] [] zSH s1.2 rv zSH m') (KO : ∀ r1 : (zM), x = .inr r1 → Rn E zX3_findPasses 101 [some (.ref 38), some (.ref 36), some (.int x2), none, none] [] zSH r1 rv zSH m') : Rn E zX3_findPasses 33 [some (.ref 38), some (.ref 36), some (.int x2), some (.int s.1), none] [] zSH s.2 rv zSH m' := by
  unfold b_X3_findPasses_33 at h
  refine zi_iloadn (q := 34) dX3_findPasses_33 rfl rfl ?_
  refine zi_aloadn (q := 35) dX3_findPasses_34 rfl rfl ?_
  refine zi_getA (q := 38) dX3_findPasses_35 fl_3_28 so_38 rfl rfl ?_
  refine zi_getA (q := 41) dX3_findPasses_38 fl_3_69 so_14 rfl rfl ?_
  refine zi_iloadn (q := 42) dX3_findPasses_41 rfl rfl ?_
  obtain ⟨hz3, h⟩ := zg_some h
  refine zi_iald2 (q := 43) dX3_findPasses_42 so_17 (zin_vp hz3) rfl rfl ?_
  refine zi_icmpge (q := 101) (q2 := 46) dX3_findPasses_43 (by decide) rfl (fun hc => ?_) (fun hc => ?_)
  · replace h := (if_pos hc).symm.trans h
    refine Rn.weakm [true, true, true, false, false] ?_
    exact KO s.2 (Option.some.inj h).symm
  · replace h := (if_neg hc).symm.trans h
    refine zi_aloadn (q := 47) dX3_findPasses_46 rfl rfl ?_
    refine zi_getA (q := 50) dX3_findPasses_47 fl_3_28 so_38 rfl rfl ?_
    refine zi_iloadn (q := 51) dX3_findPasses_50 rfl rfl ?_
    refine zi_iloadn (q := 52) dX3_findPasses_51 rfl rfl ?_
    obtain ⟨r4, hr4, h⟩ := Option.bind_eq_some_iff.mp h
    refine zc_V2 (q := 55) (st := []) (S1 := [.int r4]) (r_X1_neighbour x2 s.1 _ r4 hr4) dX3_findPasses_52 cb_X1_neighbour k3_151 k3_132 k3_133 ⟨by decide, by decide⟩ so_14 rfl rfl rfl (Nat.le_of_ble_eq_true rfl) (Or.inl rfl) rfl rfl ?_
    refine zi_istore (q := 57) (L' := [some (.ref 38), some (.ref 36), some (.int x2), some (.int s.1), some (.int r4)]) dX3_findPasses_55 (by decide) rfl rfl rfl ?_
    refine zi_aloadn (q := 58) dX3_findPasses_57 rfl rfl ?_
    refine zi_getA (q := 61) dX3_findPasses_58 fl_3_19 so_38 rfl rfl ?_
    refine zi_iload (q := 63) dX3_findPasses_61 rfl rfl ?_
    obtain ⟨hz5, h⟩ := zg_some h
    refine zi_iald2 (q := 64) dX3_findPasses_63 so_41 (zin_vp hz5) rfl rfl ?_
    refine zi_iconst (q := 65) dX3_findPasses_64 ki_m1 rfl ?_
    refine zi_icmpeq (q := 95) (q2 := 68) dX3_findPasses_65 (by decide) rfl (fun hc => ?_) (fun hc => ?_)
    · replace h := (if_pos hc).symm.trans h
      refine Rn.weakm [true, true, true, true, false] ?_
      exact rj_X3_findPasses_95 x2 s.1 _ _ _ _ h KI
    · replace h := (if_neg hc).symm.trans h
      refine zi_aloadn (q := 69) dX3_findPasses_68 rfl rfl ?_
      refine zi_aloadn (q := 70) dX3_findPasses_69 rfl rfl ?_
      refine zi_getA (q := 73) dX3_findPasses_70 fl_3_19 so_38 rfl rfl ?_
      refine zi_iloadn (q := 74) dX3_findPasses_73 rfl rfl ?_
      obtain ⟨hz6, h⟩ := zg_some h
      refine zi_iald2 (q := 75) dX3_findPasses_74 so_41 (zin_vp hz6) rfl rfl ?_
      refine zi_aloadn (q := 76) dX3_findPasses_75 rfl rfl ?_
      refine zi_getA (q := 79) dX3_findPasses_76 fl_3_19 so_38 rfl rfl ?_
      refine zi_iload (q := 81) dX3_findPasses_79 rfl rfl ?_
      obtain ⟨hz7, h⟩ := zg_some h
      refine zi_iald2 (q := 82) dX3_findPasses_81 so_41 (zin_vp hz7) rfl rfl ?_
      refine zi_aloadn (q := 83) dX3_findPasses_82 rfl rfl ?_
      refine zi_iloadn (q := 84) dX3_findPasses_83 rfl rfl ?_
      obtain ⟨hz8, h⟩ := zg_some h
      refine zi_iald2 (q := 85) dX3_findPasses_84 so_36 (zin_vp hz8) rfl rfl ?_
      refine zi_aloadn (q := 86) dX3_findPasses_85 rfl rfl ?_
      refine zi_iload (q := 88) dX3_findPasses_86 rfl rfl ?_
      obtain ⟨hz9, h⟩ := zg_some h
      refine zi_iald2 (q := 89) dX3_findPasses_88 so_36 (zin_vp hz9) rfl rfl ?_
      obtain ⟨r10, hr10, h⟩ := Option.bind_eq_some_iff.mp h
      refine zc_S2 (q := 92) (st := [.int (s.2.1 41 r4.toNatClampNeg), .int (s.2.1 41 x2.toNatClampNeg), .ref 38]) (S1 := [.int r10, .int (s.2.1 41 r4.toNatClampNeg), .int (s.2.1 41 x2.toNatClampNeg), .ref 38]) (r_J9_min_7cf53 (s.2.1 36 x2.toNatClampNeg) (s.2.1 36 r4.toNatClampNeg) _ r10 hr10) dX3_findPasses_89 cb_J9_min_7cf53 k3_161 k3_24 ⟨by decide, by decide⟩ rfl (Nat.le_of_ble_eq_true rfl) (Or.inl rfl) rfl rfl ?_
      obtain ⟨m11, hm11, h⟩ := Option.bind_eq_some_iff.mp h
      refine zc_V2 (q := 95) (st := []) (S1 := []) (r_X3_raisePass (s.2.1 41 x2.toNatClampNeg) (s.2.1 41 r4.toNatClampNeg) r10 _ m11 hm11) dX3_findPasses_92 cb_X3_raisePass k3_162 k3_164 ks_X3_raisePass ⟨by decide, by decide⟩ so_38 rfl rfl rfl (Nat.le_of_ble_eq_true rfl) (Or.inl rfl) rfl rfl ?_
      refine Rn.weakm [true, true, true, true, false] ?_
      exact rj_X3_findPasses_95 x2 s.1 _ _ _ _ h KI
set_option maxRecDepth 20000 in
theorem rb_X3_findPasses_10 {E : Nat × (Nat → Int32)}   (s : (Int32 × zM)) (rv : Option Value) (m' : zM) (x : ((Int32 × zM) ⊕ (zM))) (h : b_X3_findPasses_10  s = some x) (KI : ∀ s1 : (Int32 × zM), x = .inl s1 → Rn E zX3_findPasses 10 [some (.ref 38), some (.ref 36), some (.int s1.1), none, none] [] zSH s1.2 rv zSH m') (KO : ∀ r1 : (zM), x = .inr r1 → Rn E zX3_findPasses 107 [none, none, none, none, none] [] zSH r1 rv zSH m') : Rn E zX3_findPasses 10 [some (.ref 38), some (.ref 36), some (.int s.1), none, none] [] zSH s.2 rv zSH m' := by
  unfold b_X3_findPasses_10 at h
  refine zi_iloadn (q := 11) dX3_findPasses_10 rfl rfl ?_
  refine zi_aloadn (q := 12) dX3_findPasses_11 rfl rfl ?_
  refine zi_getA (q := 15) dX3_findPasses_12 fl_3_28 so_38 rfl rfl ?_
  refine zi_getI (q := 18) dX3_findPasses_15 fl_3_60 (by decide) so_14 rfl ?_
  refine zi_icmpge (q := 107) (q2 := 21) dX3_findPasses_18 (by decide) rfl (fun hc => ?_) (fun hc => ?_)
  · replace h := (if_pos hc).symm.trans h
    refine Rn.weakm [false, false, false, false, false] ?_
    exact KO s.2 (Option.some.inj h).symm
  · replace h := (if_neg hc).symm.trans h
    refine zi_aloadn (q := 22) dX3_findPasses_21 rfl rfl ?_
    refine zi_getA (q := 25) dX3_findPasses_22 fl_3_19 so_38 rfl rfl ?_
    refine zi_iloadn (q := 26) dX3_findPasses_25 rfl rfl ?_
    obtain ⟨hz2, h⟩ := zg_some h
    refine zi_iald2 (q := 27) dX3_findPasses_26 so_41 (zin_vp hz2) rfl rfl ?_
    refine zi_iconst (q := 28) dX3_findPasses_27 ki_m1 rfl ?_
    refine zi_icmpeq (q := 101) (q2 := 31) dX3_findPasses_28 (by decide) rfl (fun hc => ?_) (fun hc => ?_)
    · replace h := (if_pos hc).symm.trans h
      exact rj_X3_findPasses_101 s.1 _ _ _ _ h KI
    · replace h := (if_neg hc).symm.trans h
      refine zi_iconst (q := 32) dX3_findPasses_31 ki_0 rfl ?_
      refine zi_istoren (q := 33) (L' := [some (.ref 38), some (.ref 36), some (.int s.1), some (.int 0), none]) dX3_findPasses_32 (by decide) rfl rfl rfl ?_
      obtain ⟨r12, hr12, h⟩ := Option.bind_eq_some_iff.mp h
      refine zloop_rn (P := fun w : (Int32 × zM) => Rn E zX3_findPasses 33 [some (.ref 38), some (.ref 36), some (.int s.1), some (.int w.1), none] [] zSH w.2 rv zSH m') (X := fun w : (zM) => Rn E zX3_findPasses 101 [some (.ref 38), some (.ref 36), some (.int s.1), none, none] [] zSH w rv zSH m') (fun w w0 hb KI KX => rb_X3_findPasses_33 s.1 w _ _ w0 hb KI KX) zFU _ r12 hr12 ?_
      show Rn E zX3_findPasses 101 [some (.ref 38), some (.ref 36), some (.int s.1), none, none] [] zSH r12 rv zSH m'
      exact rj_X3_findPasses_101 s.1 _ _ _ _ h KI
set_option maxRecDepth 20000 in
theorem r_X3_findPasses {E : Nat × (Nat → Int32)}  (m : zM) (x : zM) (h : f_X3_findPasses  m = some x) : zMet E zX3_findPasses [.ref 38, .ref 36] zSH m none zSH x := by
  refine zMet.of (L0 := [some (.ref 38), some (.ref 36), none, none, none]) rfl trivial (Nat.le_of_ble_eq_true rfl) rfl ?_
  unfold f_X3_findPasses at h
  refine zi_aloadn (q := 1) dX3_findPasses_0 rfl rfl ?_
  refine zi_getA (q := 4) dX3_findPasses_1 fl_3_25 so_38 rfl rfl ?_
  refine zi_iconst (q := 5) dX3_findPasses_4 ki_m1 rfl ?_
  obtain ⟨m1, hm1, h⟩ := Option.bind_eq_some_iff.mp h
  refine zc_S2 (q := 8) (st := []) (S1 := []) (r_J7_fill_53178_v7 (-1) _ m1 hm1) dX3_findPasses_5 cb_J7_fill_53178 k3_160 k3_35 ⟨by decide, by decide⟩ rfl (Nat.le_of_ble_eq_true rfl) (Or.inl rfl) rfl rfl ?_
  refine zi_iconst (q := 9) dX3_findPasses_8 ki_0 rfl ?_
  refine zi_istoren (q := 10) (L' := [some (.ref 38), some (.ref 36), some (.int 0), none, none]) dX3_findPasses_9 (by decide) rfl rfl rfl ?_
  obtain ⟨r13, hr13, h⟩ := Option.bind_eq_some_iff.mp h
  refine zloop_rn (P := fun w : (Int32 × zM) => Rn E zX3_findPasses 10 [some (.ref 38), some (.ref 36), some (.int w.1), none, none] [] zSH w.2 none zSH x) (X := fun w : (zM) => Rn E zX3_findPasses 107 [none, none, none, none, none] [] zSH w none zSH x) (fun w w0 hb KI KX => rb_X3_findPasses_10  w _ _ w0 hb KI KX) zFU _ r13 hr13 ?_
  show Rn E zX3_findPasses 107 [none, none, none, none, none] [] zSH r13 none zSH x
  cases h
  exact zi_ret _ dX3_findPasses_107
set_option maxRecDepth 20000 in
theorem r_X3_canMerge {E : Nat × (Nat → Int32)} (x1 : Int32) (x2 : Int32) (x4 : Int32) (m : zM) (x : Bool) (h : f_X3_canMerge x1 x2 x4 m = some x) : zMet E zX3_canMerge [.ref 38, .int x1, .int x2, .ref 36, .int x4] zSH m (some (.int (bi x))) zSH m := by
  refine zMet.of (L0 := [some (.ref 38), some (.int x1), some (.int x2), some (.ref 36), some (.int x4), none, none]) rfl (zfit_bi _) (Nat.le_of_ble_eq_true rfl) rfl ?_
  unfold f_X3_canMerge at h
  refine zi_aloadn (q := 1) dX3_canMerge_0 rfl rfl ?_
  refine zi_getA (q := 4) dX3_canMerge_1 fl_3_25 so_38 rfl rfl ?_
  refine zi_bipush (q := 6) dX3_canMerge_4 kb_16 rfl ?_
  refine zi_iloadn (q := 7) dX3_canMerge_6 rfl rfl ?_
  refine zi_imul (q := 8) dX3_canMerge_7 rfl ?_
  refine zi_iloadn (q := 9) dX3_canMerge_8 rfl rfl ?_
  refine zi_iadd (q := 10) dX3_canMerge_9 rfl ?_
  obtain ⟨hz1, h⟩ := zg_some h
  refine zi_iald2 (q := 11) dX3_canMerge_10 so_43 (zin_vp hz1) rfl rfl ?_
  refine zi_istore (q := 13) (L' := [some (.ref 38), some (.int x1), some (.int x2), some (.ref 36), some (.int x4), some (.int (m.1 43 ((16 * x1) + x2).toNatClampNeg)), none]) dX3_canMerge_11 (by decide) rfl rfl rfl ?_
  refine zi_aloadn (q := 14) dX3_canMerge_13 rfl rfl ?_
  refine zi_aloadn (q := 15) dX3_canMerge_14 rfl rfl ?_
  refine zi_getA (q := 18) dX3_canMerge_15 fl_3_11 so_38 rfl rfl ?_
  refine zi_iloadn (q := 19) dX3_canMerge_18 rfl rfl ?_
  obtain ⟨hz2, h⟩ := zg_some h
  refine zi_iald2 (q := 20) dX3_canMerge_19 so_39 (zin_vp hz2) rfl rfl ?_
  obtain ⟨hz3, h⟩ := zg_some h
  refine zi_iald2 (q := 21) dX3_canMerge_20 so_36 (zin_vp hz3) rfl rfl ?_
  refine zi_aloadn (q := 22) dX3_canMerge_21 rfl rfl ?_
  refine zi_aloadn (q := 23) dX3_canMerge_22 rfl rfl ?_
  refine zi_getA (q := 26) dX3_canMerge_23 fl_3_11 so_38 rfl rfl ?_
  refine zi_iloadn (q := 27) dX3_canMerge_26 rfl rfl ?_
  obtain ⟨hz4, h⟩ := zg_some h
  refine zi_iald2 (q := 28) dX3_canMerge_27 so_39 (zin_vp hz4) rfl rfl ?_
  obtain ⟨hz5, h⟩ := zg_some h
  refine zi_iald2 (q := 29) dX3_canMerge_28 so_36 (zin_vp hz5) rfl rfl ?_
  obtain ⟨r6, hr6, h⟩ := Option.bind_eq_some_iff.mp h
  refine zc_S2 (q := 32) (st := []) (S1 := [.int r6]) (r_J9_min_7cf53 (m.1 36 (m.1 39 x1.toNatClampNeg).toNatClampNeg) (m.1 36 (m.1 39 x2.toNatClampNeg).toNatClampNeg) _ r6 hr6) dX3_canMerge_29 cb_J9_min_7cf53 k3_161 k3_24 ⟨by decide, by decide⟩ rfl (Nat.le_of_ble_eq_true rfl) (Or.inl rfl) rfl rfl ?_
  refine zi_istore (q := 34) (L' := [some (.ref 38), some (.int x1), some (.int x2), some (.ref 36), some (.int x4), some (.int (m.1 43 ((16 * x1) + x2).toNatClampNeg)), some (.int r6)]) dX3_canMerge_32 (by decide) rfl rfl rfl ?_
  refine zi_aloadn (q := 35) dX3_canMerge_34 rfl rfl ?_
  refine zi_getA (q := 38) dX3_canMerge_35 fl_3_15 so_38 rfl rfl ?_
  refine zi_iloadn (q := 39) dX3_canMerge_38 rfl rfl ?_
  obtain ⟨hz7, h⟩ := zg_some h
  refine zi_bald2 (q := 40) dX3_canMerge_39 so_40 (zin_vp hz7) rfl rfl ?_
  refine zi_ifeq (q := 75) (q2 := 43) dX3_canMerge_40 (by decide) rfl (fun hc => ?_) (fun hc => ?_)
  · replace h := (if_pos hc).symm.trans h
    refine zi_iconst (q := 76) dX3_canMerge_75 ki_0 rfl ?_
    cases h
    exact zi_ret _ dX3_canMerge_76
  · replace h := (if_neg hc).symm.trans h
    refine zi_aloadn (q := 44) dX3_canMerge_43 rfl rfl ?_
    refine zi_getA (q := 47) dX3_canMerge_44 fl_3_15 so_38 rfl rfl ?_
    refine zi_iloadn (q := 48) dX3_canMerge_47 rfl rfl ?_
    obtain ⟨hz8, h⟩ := zg_some h
    refine zi_bald2 (q := 49) dX3_canMerge_48 so_40 (zin_vp hz8) rfl rfl ?_
    refine zi_ifeq (q := 75) (q2 := 52) dX3_canMerge_49 (by decide) rfl (fun hc => ?_) (fun hc => ?_)
    · replace h := (if_pos hc).symm.trans h
      refine zi_iconst (q := 76) dX3_canMerge_75 ki_0 rfl ?_
      cases h
      exact zi_ret _ dX3_canMerge_76
    · replace h := (if_neg hc).symm.trans h
      refine zi_iload (q := 54) dX3_canMerge_52 rfl rfl ?_
      refine zi_iconst (q := 55) dX3_canMerge_54 ki_m1 rfl ?_
      refine zi_icmpeq (q := 75) (q2 := 58) dX3_canMerge_55 (by decide) rfl (fun hc => ?_) (fun hc => ?_)
      · replace h := (if_pos hc).symm.trans h
        refine zi_iconst (q := 76) dX3_canMerge_75 ki_0 rfl ?_
        cases h
        exact zi_ret _ dX3_canMerge_76
      · replace h := (if_neg hc).symm.trans h
        refine zi_bipush (q := 60) dX3_canMerge_58 kb_100 rfl ?_
        refine zi_iload (q := 62) dX3_canMerge_60 rfl rfl ?_
        refine zi_imul (q := 63) dX3_canMerge_62 rfl ?_
        refine zi_iload (q := 65) dX3_canMerge_63 rfl rfl ?_
        refine zi_iload (q := 67) dX3_canMerge_65 rfl rfl ?_
        refine zi_imul (q := 68) dX3_canMerge_67 rfl ?_
        refine zi_icmplt (q := 75) (q2 := 71) dX3_canMerge_68 (by decide) rfl (fun hc => ?_) (fun hc => ?_)
        · replace h := (if_pos hc).symm.trans h
          refine zi_iconst (q := 76) dX3_canMerge_75 ki_0 rfl ?_
          cases h
          exact zi_ret _ dX3_canMerge_76
        · replace h := (if_neg hc).symm.trans h
          refine zi_iconst (q := 72) dX3_canMerge_71 ki_1 rfl ?_
          refine zi_goto (q := 76) dX3_canMerge_72 (by decide) ?_
          cases h
          exact zi_ret _ dX3_canMerge_76
set_option maxRecDepth 20000 in
theorem rb_X3_merge_9 {E : Nat × (Nat → Int32)} (x1 : Int32) (x2 : Int32)  (s : (Int32 × zM)) (rv : Option Value) (m' : zM) (x : ((Int32 × zM) ⊕ (zM))) (h : b_X3_merge_9 x1 x2 s = some x) (KI : ∀ s1 : (Int32 × zM), x = .inl s1 → Rn E zX3_merge 9 [some (.ref 38), some (.int x1), some (.int x2), some (.int s1.1), none] [] zSH s1.2 rv zSH m') (KO : ∀ r1 : (zM), x = .inr r1 → Rn E zX3_merge 52 [some (.ref 38), some (.int x1), some (.int x2), none, none] [] zSH r1 rv zSH m') : Rn E zX3_merge 9 [some (.ref 38), some (.int x1), some (.int x2), some (.int s.1), none] [] zSH s.2 rv zSH m' := by
  unfold b_X3_merge_9 at h
  refine zi_iloadn (q := 10) dX3_merge_9 rfl rfl ?_
  refine zi_aloadn (q := 11) dX3_merge_10 rfl rfl ?_
  refine zi_getI (q := 14) dX3_merge_11 fl_3_56 (by decide) so_38 rfl ?_
  refine zi_icmpge (q := 52) (q2 := 17) dX3_merge_14 (by decide) rfl (fun hc => ?_) (fun hc => ?_)
  · replace h := (if_pos hc).symm.trans h
    refine Rn.weakm [true, true, true, false, false] ?_
    exact KO s.2 (Option.some.inj h).symm
  · replace h := (if_neg hc).symm.trans h
    refine zi_aloadn (q := 18) dX3_merge_17 rfl rfl ?_
    refine zi_getA (q := 21) dX3_merge_18 fl_3_25 so_38 rfl rfl ?_
    refine zi_bipush (q := 23) dX3_merge_21 kb_16 rfl ?_
    refine zi_iloadn (q := 24) dX3_merge_23 rfl rfl ?_
    refine zi_imul (q := 25) dX3_merge_24 rfl ?_
    refine zi_iloadn (q := 26) dX3_merge_25 rfl rfl ?_
    refine zi_iadd (q := 27) dX3_merge_26 rfl ?_
    obtain ⟨hz2, h⟩ := zg_some h
    refine zi_iald2 (q := 28) dX3_merge_27 so_43 (zin_vp hz2) rfl rfl ?_
    refine zi_istore (q := 30) (L' := [some (.ref 38), some (.int x1), some (.int x2), some (.int s.1), some (.int (s.2.1 43 ((16 * x2) + s.1).toNatClampNeg))]) dX3_merge_28 (by decide) rfl rfl rfl ?_
    refine zi_aloadn (q := 31) dX3_merge_30 rfl rfl ?_
    refine zi_iloadn (q := 32) dX3_merge_31 rfl rfl ?_
    refine zi_iloadn (q := 33) dX3_merge_32 rfl rfl ?_
    refine zi_iload (q := 35) dX3_merge_33 rfl rfl ?_
    obtain ⟨m3, hm3, h⟩ := Option.bind_eq_some_iff.mp h
    refine zc_V2 (q := 38) (st := []) (S1 := []) (r_X3_raisePass x1 s.1 (s.2.1 43 ((16 * x2) + s.1).toNatClampNeg) _ m3 hm3) dX3_merge_35 cb_X3_raisePass k3_162 k3_164 ks_X3_raisePass ⟨by decide, by decide⟩ so_38 rfl rfl rfl (Nat.le_of_ble_eq_true rfl) (Or.inl rfl) rfl rfl ?_
    refine zi_aloadn (q := 39) dX3_merge_38 rfl rfl ?_
    refine zi_iloadn (q := 40) dX3_merge_39 rfl rfl ?_
    refine zi_iloadn (q := 41) dX3_merge_40 rfl rfl ?_
    refine zi_iload (q := 43) dX3_merge_41 rfl rfl ?_
    obtain ⟨m4, hm4, h⟩ := Option.bind_eq_some_iff.mp h
    refine zc_V2 (q := 46) (st := []) (S1 := []) (r_X3_raisePass s.1 x1 (s.2.1 43 ((16 * x2) + s.1).toNatClampNeg) _ m4 hm4) dX3_merge_43 cb_X3_raisePass k3_162 k3_164 ks_X3_raisePass ⟨by decide, by decide⟩ so_38 rfl rfl rfl (Nat.le_of_ble_eq_true rfl) (Or.inl rfl) rfl rfl ?_
    refine zi_iinc (q := 49) (v := s.1 + 1) (L' := [some (.ref 38), some (.int x1), some (.int x2), some (.int (s.1 + 1)), some (.int (s.2.1 43 ((16 * x2) + s.1).toNatClampNeg))]) dX3_merge_46 rfl (by rw [ki_1]) (by decide) rfl rfl rfl ?_
    refine zi_goto (q := 9) dX3_merge_49 (by decide) ?_
    refine Rn.weakm [true, true, true, true, false] ?_
    exact KI ((s.1 + 1), m4) (Option.some.inj h).symm
set_option maxRecDepth 20000 in
theorem rj_X3_merge_82 {E : Nat × (Nat → Int32)} (x1 : Int32) (x2 : Int32) (x3 : Int32) (m : zM) (rv : Option Value) (m' : zM) (x : ((Int32 × zM) ⊕ (zM))) (h : j_X3_merge_82 x1 x2 x3 m = some x) (KI : ∀ s1 : (Int32 × zM), x = .inl s1 → Rn E zX3_merge 54 [some (.ref 38), some (.int x1), some (.int x2), some (.int s1.1), none] [] zSH s1.2 rv zSH m') : Rn E zX3_merge 82 [some (.ref 38), some (.int x1), some (.int x2), some (.int x3), none] [] zSH m rv zSH m' := by
  unfold j_X3_merge_82 at h
  refine zi_iinc (q := 85) (v := x3 + 1) (L' := [some (.ref 38), some (.int x1), some (.int x2), some (.int (x3 + 1)), none]) dX3_merge_82 rfl (by rw [ki_1]) (by decide) rfl rfl rfl ?_
  refine zi_goto (q := 54) dX3_merge_85 (by decide) ?_
  exact KI ((x3 + 1), m) (Option.some.inj h).symm
set_option maxRecDepth 20000 in
theorem rb_X3_merge_54 {E : Nat × (Nat → Int32)} (x1 : Int32) (x2 : Int32)  (s : (Int32 × zM)) (rv : Option Value) (m' : zM) (x : ((Int32 × zM) ⊕ (zM))) (h : b_X3_merge_54 x1 x2 s = some x) (KI : ∀ s1 : (Int32 × zM), x = .inl s1 → Rn E zX3_merge 54 [some (.ref 38), some (.int x1), some (.int x2), some (.int s1.1), none] [] zSH s1.2 rv zSH m') (KO : ∀ r1 : (zM), x = .inr r1 → Rn E zX3_merge 88 [none, none, none, none, none] [] zSH r1 rv zSH m') : Rn E zX3_merge 54 [some (.ref 38), some (.int x1), some (.int x2), some (.int s.1), none] [] zSH s.2 rv zSH m' := by
  unfold b_X3_merge_54 at h
  refine zi_iloadn (q := 55) dX3_merge_54 rfl rfl ?_
  refine zi_aloadn (q := 56) dX3_merge_55 rfl rfl ?_
  refine zi_getA (q := 59) dX3_merge_56 fl_3_28 so_38 rfl rfl ?_
  refine zi_getI (q := 62) dX3_merge_59 fl_3_60 (by decide) so_14 rfl ?_
  refine zi_icmpge (q := 88) (q2 := 65) dX3_merge_62 (by decide) rfl (fun hc => ?_) (fun hc => ?_)
  · replace h := (if_pos hc).symm.trans h
    refine Rn.weakm [false, false, false, false, false] ?_
    exact KO s.2 (Option.some.inj h).symm
  · replace h := (if_neg hc).symm.trans h
    refine zi_aloadn (q := 66) dX3_merge_65 rfl rfl ?_
    refine zi_getA (q := 69) dX3_merge_66 fl_3_19 so_38 rfl rfl ?_
    refine zi_iloadn (q := 70) dX3_merge_69 rfl rfl ?_
    obtain ⟨hz6, h⟩ := zg_some h
    refine zi_iald2 (q := 71) dX3_merge_70 so_41 (zin_vp hz6) rfl rfl ?_
    refine zi_iloadn (q := 72) dX3_merge_71 rfl rfl ?_
    refine zi_icmpne (q := 82) (q2 := 75) dX3_merge_72 (by decide) rfl (fun hc => ?_) (fun hc => ?_)
    · replace h := (if_neg hc).symm.trans h
      exact rj_X3_merge_82 x1 x2 s.1 _ _ _ _ h KI
    · replace h := (if_pos hc).symm.trans h
      refine zi_aloadn (q := 76) dX3_merge_75 rfl rfl ?_
      refine zi_getA (q := 79) dX3_merge_76 fl_3_19 so_38 rfl rfl ?_
      refine zi_iloadn (q := 80) dX3_merge_79 rfl rfl ?_
      refine zi_iloadn (q := 81) dX3_merge_80 rfl rfl ?_
      obtain ⟨hz7, h⟩ := zg_some h
      refine zi_iast2 (q := 82) dX3_merge_81 so_41 (zin_vp hz7) rfl rfl ?_
      exact rj_X3_merge_82 x1 x2 s.1 _ _ _ _ h KI
set_option maxRecDepth 20000 in
theorem r_X3_merge {E : Nat × (Nat → Int32)} (x1 : Int32) (x2 : Int32) (m : zM) (x : zM) (h : f_X3_merge x1 x2 m = some x) : zMet E zX3_merge [.ref 38, .int x1, .int x2] zSH m none zSH x := by
  refine zMet.of (L0 := [some (.ref 38), some (.int x1), some (.int x2), none, none]) rfl trivial (Nat.le_of_ble_eq_true rfl) rfl ?_
  unfold f_X3_merge at h
  refine zi_aloadn (q := 1) dX3_merge_0 rfl rfl ?_
  refine zi_getA (q := 4) dX3_merge_1 fl_3_15 so_38 rfl rfl ?_
  refine zi_iloadn (q := 5) dX3_merge_4 rfl rfl ?_
  refine zi_iconst (q := 6) dX3_merge_5 ki_0 rfl ?_
  obtain ⟨hz1, h⟩ := zg_some h
  refine zi_bast2 (q := 7) dX3_merge_6 so_40 (zin_vp hz1) rfl rfl rfl ?_
  refine zi_iconst (q := 8) dX3_merge_7 ki_0 rfl ?_
  refine zi_istoren (q := 9) (L' := [some (.ref 38), some (.int x1), some (.int x2), some (.int 0), none]) dX3_merge_8 (by decide) rfl rfl rfl ?_
  obtain ⟨r5, hr5, h⟩ := Option.bind_eq_some_iff.mp h
  refine zloop_rn (P := fun w : (Int32 × zM) => Rn E zX3_merge 9 [some (.ref 38), some (.int x1), some (.int x2), some (.int w.1), none] [] zSH w.2 none zSH x) (X := fun w : (zM) => Rn E zX3_merge 52 [some (.ref 38), some (.int x1), some (.int x2), none, none] [] zSH w none zSH x) (fun w w0 hb KI KX => rb_X3_merge_9 x1 x2 w _ _ w0 hb KI KX) zFU _ r5 hr5 ?_
  show Rn E zX3_merge 52 [some (.ref 38), some (.int x1), some (.int x2), none, none] [] zSH r5 none zSH x
  refine zi_iconst (q := 53) dX3_merge_52 ki_0 rfl ?_
  refine zi_istoren (q := 54) (L' := [some (.ref 38), some (.int x1), some (.int x2), some (.int 0), none]) dX3_merge_53 (by decide) rfl rfl rfl ?_
  obtain ⟨r8, hr8, h⟩ := Option.bind_eq_some_iff.mp h
  refine zloop_rn (P := fun w : (Int32 × zM) => Rn E zX3_merge 54 [some (.ref 38), some (.int x1), some (.int x2), some (.int w.1), none] [] zSH w.2 none zSH x) (X := fun w : (zM) => Rn E zX3_merge 88 [none, none, none, none, none] [] zSH w none zSH x) (fun w w0 hb KI KX => rb_X3_merge_54 x1 x2 w _ _ w0 hb KI KX) zFU _ r8 hr8 ?_
  show Rn E zX3_merge 88 [none, none, none, none, none] [] zSH r8 none zSH x
  cases h
  exact zi_ret _ dX3_merge_88
set_option maxRecDepth 20000 in
theorem rj_X3_mergeBestPair_80 {E : Nat × (Nat → Int32)} (x2 : Int32) (x3 : Int32) (x4 : Int32) (x5 : Int32) (x6 : Int32) (x7 : Int32) (m : zM) (rv : Option Value) (m' : zM) (x : ((Int32 × Int32 × Int32 × Int32) ⊕ (Int32 × Int32 × Int32))) (h : j_X3_mergeBestPair_80 x2 x3 x4 x5 x6 x7 m = some x) (KI : ∀ s1 : (Int32 × Int32 × Int32 × Int32), x = .inl s1 → Rn E zX3_mergeBestPair 26 [some (.ref 38), some (.ref 36), some (.int x2), some (.int s1.1), some (.int s1.2.1), some (.int s1.2.2.1), some (.int x6), some (.int s1.2.2.2), none] [] zSH m rv zSH m') : Rn E zX3_mergeBestPair 80 [some (.ref 38), some (.ref 36), some (.int x2), some (.int x3), some (.int x4), some (.int x5), some (.int x6), some (.int x7), none] [] zSH m rv zSH m' := by
  unfold j_X3_mergeBestPair_80 at h
  refine zi_iinc (q := 83) (v := x7 + 1) (L' := [some (.ref 38), some (.ref 36), some (.int x2), some (.int x3), some (.int x4), some (.int x5), some (.int x6), some (.int (x7 + 1)), none]) dX3_mergeBestPair_80 rfl (by rw [ki_1]) (by decide) rfl rfl rfl ?_
  refine zi_goto (q := 26) dX3_mergeBestPair_83 (by decide) ?_
  exact KI (x3, x4, x5, (x7 + 1)) (Option.some.inj h).symm
set_option maxRecDepth 20000 in
theorem rb_X3_mergeBestPair_26 {E : Nat × (Nat → Int32)} (x2 : Int32) (x6 : Int32) (m : zM) (s : (Int32 × Int32 × Int32 × Int32)) (rv : Option Value) (m' : zM) (x : ((Int32 × Int32 × Int32 × Int32) ⊕ (Int32 × Int32 × Int32))) (h : b_X3_mergeBestPair_26 x2 x6 m s = some x) (KI : ∀ s1 : (Int32 × Int32 × Int32 × Int32), x = .inl s1 → Rn E zX3_mergeBestPair 26 [some (.ref 38), some (.ref 36), some (.int x2), some (.int s1.1), some (.int s1.2.1), some (.int s1.2.2.1), some (.int x6), some (.int s1.2.2.2), none] [] zSH m rv zSH m') (KO : ∀ r1 : (Int32 × Int32 × Int32), x = .inr r1 → Rn E zX3_mergeBestPair 86 [some (.ref 38), some (.ref 36), some (.int x2), some (.int r1.1), some (.int r1.2.1), some (.int r1.2.2), some (.int x6), none, none] [] zSH m rv zSH m') : Rn E zX3_mergeBestPair 26 [some (.ref 38), some (.ref 36), some (.int x2), some (.int s.1), some (.int s.2.1), some (.int s.2.2.1), some (.int x6), some (.int s.2.2.2), none] [] zSH m rv zSH m' := by
  unfold b_X3_mergeBestPair_26 at h
  refine zi_iload (q := 28) dX3_mergeBestPair_26 rfl rfl ?_
  refine zi_aloadn (q := 29) dX3_mergeBestPair_28 rfl rfl ?_
  refine zi_getI (q := 32) dX3_mergeBestPair_29 fl_3_56 (by decide) so_38 rfl ?_
  refine zi_icmpge (q := 86) (q2 := 35) dX3_mergeBestPair_32 (by decide) rfl (fun hc => ?_) (fun hc => ?_)
  · replace h := (if_pos hc).symm.trans h
    refine Rn.weakm [true, true, true, true, true, true, true, false, false] ?_
    exact KO (s.1, s.2.1, s.2.2.1) (Option.some.inj h).symm
  · replace h := (if_neg hc).symm.trans h
    refine zi_aloadn (q := 36) dX3_mergeBestPair_35 rfl rfl ?_
    refine zi_getA (q := 39) dX3_mergeBestPair_36 fl_3_25 so_38 rfl rfl ?_
    refine zi_bipush (q := 41) dX3_mergeBestPair_39 kb_16 rfl ?_
    refine zi_iload (q := 43) dX3_mergeBestPair_41 rfl rfl ?_
    refine zi_imul (q := 44) dX3_mergeBestPair_43 rfl ?_
    refine zi_iload (q := 46) dX3_mergeBestPair_44 rfl rfl ?_
    refine zi_iadd (q := 47) dX3_mergeBestPair_46 rfl ?_
    obtain ⟨hz1, h⟩ := zg_some h
    refine zi_iald2 (q := 48) dX3_mergeBestPair_47 so_43 (zin_vp hz1) rfl rfl ?_
    refine zi_istore (q := 50) (L' := [some (.ref 38), some (.ref 36), some (.int x2), some (.int s.1), some (.int s.2.1), some (.int s.2.2.1), some (.int x6), some (.int s.2.2.2), some (.int (m.1 43 ((16 * x6) + s.2.2.2).toNatClampNeg))]) dX3_mergeBestPair_48 (by decide) rfl rfl rfl ?_
    refine zi_iload (q := 52) dX3_mergeBestPair_50 rfl rfl ?_
    refine zi_iloadn (q := 53) dX3_mergeBestPair_52 rfl rfl ?_
    refine zi_icmple (q := 80) (q2 := 56) dX3_mergeBestPair_53 (by decide) rfl (fun hc => ?_) (fun hc => ?_)
    · replace h := (if_pos hc).symm.trans h
      refine Rn.weakm [true, true, true, true, true, true, true, true, false] ?_
      exact rj_X3_mergeBestPair_80 x2 s.1 s.2.1 s.2.2.1 x6 s.2.2.2 _ _ _ _ h KI
    · replace h := (if_neg hc).symm.trans h
      refine zi_aloadn (q := 57) dX3_mergeBestPair_56 rfl rfl ?_
      refine zi_iload (q := 59) dX3_mergeBestPair_57 rfl rfl ?_
      refine zi_iload (q := 61) dX3_mergeBestPair_59 rfl rfl ?_
      refine zi_aloadn (q := 62) dX3_mergeBestPair_61 rfl rfl ?_
      refine zi_iloadn (q := 63) dX3_mergeBestPair_62 rfl rfl ?_
      obtain ⟨r2, hr2, h⟩ := Option.bind_eq_some_iff.mp h
      refine zc_V2 (q := 66) (st := []) (S1 := [.int (bi r2)]) (r_X3_canMerge x6 s.2.2.2 x2 _ r2 hr2) dX3_mergeBestPair_63 cb_X3_canMerge k3_171 k3_173 ks_X3_canMerge ⟨by decide, by decide⟩ so_38 rfl rfl rfl (Nat.le_of_ble_eq_true rfl) (Or.inl rfl) rfl rfl ?_
      refine zi_ifeq (q := 80) (q2 := 69) dX3_mergeBestPair_66 (by decide) rfl (fun hc => ?_) (fun hc => ?_)
      · replace h := (if_pos hc).symm.trans h
        refine Rn.weakm [true, true, true, true, true, true, true, true, false] ?_
        exact rj_X3_mergeBestPair_80 x2 s.1 s.2.1 s.2.2.1 x6 s.2.2.2 _ _ _ _ h KI
      · replace h := (if_neg hc).symm.trans h
        refine zi_iload (q := 71) dX3_mergeBestPair_69 rfl rfl ?_
        refine zi_istoren (q := 72) (L' := [some (.ref 38), some (.ref 36), some (.int x2), some (.int (m.1 43 ((16 * x6) + s.2.2.2).toNatClampNeg)), some (.int s.2.1), some (.int s.2.2.1), some (.int x6), some (.int s.2.2.2), some (.int (m.1 43 ((16 * x6) + s.2.2.2).toNatClampNeg))]) dX3_mergeBestPair_71 (by decide) rfl rfl rfl ?_
        refine zi_iload (q := 74) dX3_mergeBestPair_72 rfl rfl ?_
        refine zi_istore (q := 76) (L' := [some (.ref 38), some (.ref 36), some (.int x2), some (.int (m.1 43 ((16 * x6) + s.2.2.2).toNatClampNeg)), some (.int x6), some (.int s.2.2.1), some (.int x6), some (.int s.2.2.2), some (.int (m.1 43 ((16 * x6) + s.2.2.2).toNatClampNeg))]) dX3_mergeBestPair_74 (by decide) rfl rfl rfl ?_
        refine zi_iload (q := 78) dX3_mergeBestPair_76 rfl rfl ?_
        refine zi_istore (q := 80) (L' := [some (.ref 38), some (.ref 36), some (.int x2), some (.int (m.1 43 ((16 * x6) + s.2.2.2).toNatClampNeg)), some (.int x6), some (.int s.2.2.2), some (.int x6), some (.int s.2.2.2), some (.int (m.1 43 ((16 * x6) + s.2.2.2).toNatClampNeg))]) dX3_mergeBestPair_78 (by decide) rfl rfl rfl ?_
        refine Rn.weakm [true, true, true, true, true, true, true, true, false] ?_
        exact rj_X3_mergeBestPair_80 x2 (m.1 43 ((16 * x6) + s.2.2.2).toNatClampNeg) x6 s.2.2.2 x6 s.2.2.2 _ _ _ _ h KI
set_option maxRecDepth 20000 in
theorem rb_X3_mergeBestPair_11 {E : Nat × (Nat → Int32)} (x2 : Int32) (m : zM) (s : (Int32 × Int32 × Int32 × Int32)) (rv : Option Value) (m' : zM) (x : ((Int32 × Int32 × Int32 × Int32) ⊕ (Int32 × Int32))) (h : b_X3_mergeBestPair_11 x2 m s = some x) (KI : ∀ s1 : (Int32 × Int32 × Int32 × Int32), x = .inl s1 → Rn E zX3_mergeBestPair 11 [some (.ref 38), some (.ref 36), some (.int x2), some (.int s1.1), some (.int s1.2.1), some (.int s1.2.2.1), some (.int s1.2.2.2), none, none] [] zSH m rv zSH m') (KO : ∀ r1 : (Int32 × Int32), x = .inr r1 → Rn E zX3_mergeBestPair 92 [some (.ref 38), some (.ref 36), none, none, some (.int r1.1), some (.int r1.2), none, none, none] [] zSH m rv zSH m') : Rn E zX3_mergeBestPair 11 [some (.ref 38), some (.ref 36), some (.int x2), some (.int s.1), some (.int s.2.1), some (.int s.2.2.1), some (.int s.2.2.2), none, none] [] zSH m rv zSH m' := by
  unfold b_X3_mergeBestPair_11 at h
  refine zi_iload (q := 13) dX3_mergeBestPair_11 rfl rfl ?_
  refine zi_aloadn (q := 14) dX3_mergeBestPair_13 rfl rfl ?_
  refine zi_getI (q := 17) dX3_mergeBestPair_14 fl_3_56 (by decide) so_38 rfl ?_
  refine zi_icmpge (q := 92) (q2 := 20) dX3_mergeBestPair_17 (by decide) rfl (fun hc => ?_) (fun hc => ?_)
  · replace h := (if_pos hc).symm.trans h
    refine Rn.weakm [true, true, false, false, true, true, false, false, false] ?_
    exact KO (s.2.1, s.2.2.1) (Option.some.inj h).symm
  · replace h := (if_neg hc).symm.trans h
    refine zi_iload (q := 22) dX3_mergeBestPair_20 rfl rfl ?_
    refine zi_iconst (q := 23) dX3_mergeBestPair_22 ki_1 rfl ?_
    refine zi_iadd (q := 24) dX3_mergeBestPair_23 rfl ?_
    refine zi_istore (q := 26) (L' := [some (.ref 38), some (.ref 36), some (.int x2), some (.int s.1), some (.int s.2.1), some (.int s.2.2.1), some (.int s.2.2.2), some (.int (s.2.2.2 + 1)), none]) dX3_mergeBestPair_24 (by decide) rfl rfl rfl ?_
    obtain ⟨r3, hr3, h⟩ := Option.bind_eq_some_iff.mp h
    refine zloop_rn (P := fun w : (Int32 × Int32 × Int32 × Int32) => Rn E zX3_mergeBestPair 26 [some (.ref 38), some (.ref 36), some (.int x2), some (.int w.1), some (.int w.2.1), some (.int w.2.2.1), some (.int s.2.2.2), some (.int w.2.2.2), none] [] zSH m rv zSH m') (X := fun w : (Int32 × Int32 × Int32) => Rn E zX3_mergeBestPair 86 [some (.ref 38), some (.ref 36), some (.int x2), some (.int w.1), some (.int w.2.1), some (.int w.2.2), some (.int s.2.2.2), none, none] [] zSH m rv zSH m') (fun w w0 hb KI KX => rb_X3_mergeBestPair_26 x2 s.2.2.2 m w _ _ w0 hb KI KX) zFU _ r3 hr3 ?_
    show Rn E zX3_mergeBestPair 86 [some (.ref 38), some (.ref 36), some (.int x2), some (.int r3.1), some (.int r3.2.1), some (.int r3.2.2), some (.int s.2.2.2), none, none] [] zSH m rv zSH m'
    refine zi_iinc (q := 89) (v := s.2.2.2 + 1) (L' := [some (.ref 38), some (.ref 36), some (.int x2), some (.int r3.1), some (.int r3.2.1), some (.int r3.2.2), some (.int (s.2.2.2 + 1)), none, none]) dX3_mergeBestPair_86 rfl (by rw [ki_1]) (by decide) rfl rfl rfl ?_
    refine zi_goto (q := 11) dX3_mergeBestPair_89 (by decide) ?_
    exact KI (r3.1, r3.2.1, r3.2.2, (s.2.2.2 + 1)) (Option.some.inj h).symm
set_option maxRecDepth 20000 in
theorem r_X3_mergeBestPair {E : Nat × (Nat → Int32)} (x2 : Int32) (m : zM) (x : (Bool × zM)) (h : f_X3_mergeBestPair x2 m = some x) : zMet E zX3_mergeBestPair [.ref 38, .ref 36, .int x2] zSH m (some (.int (bi x.1))) zSH x.2 := by
  refine zMet.of (L0 := [some (.ref 38), some (.ref 36), some (.int x2), none, none, none, none, none, none]) rfl (zfit_bi _) (Nat.le_of_ble_eq_true rfl) rfl ?_
  unfold f_X3_mergeBestPair at h
  refine zi_iconst (q := 1) dX3_mergeBestPair_0 ki_m1 rfl ?_
  refine zi_istoren (q := 2) (L' := [some (.ref 38), some (.ref 36), some (.int x2), some (.int (-1)), none, none, none, none, none]) dX3_mergeBestPair_1 (by decide) rfl rfl rfl ?_
  refine zi_iconst (q := 3) dX3_mergeBestPair_2 ki_m1 rfl ?_
  refine zi_istore (q := 5) (L' := [some (.ref 38), some (.ref 36), some (.int x2), some (.int (-1)), some (.int (-1)), none, none, none, none]) dX3_mergeBestPair_3 (by decide) rfl rfl rfl ?_
  refine zi_iconst (q := 6) dX3_mergeBestPair_5 ki_m1 rfl ?_
  refine zi_istore (q := 8) (L' := [some (.ref 38), some (.ref 36), some (.int x2), some (.int (-1)), some (.int (-1)), some (.int (-1)), none, none, none]) dX3_mergeBestPair_6 (by decide) rfl rfl rfl ?_
  refine zi_iconst (q := 9) dX3_mergeBestPair_8 ki_0 rfl ?_
  refine zi_istore (q := 11) (L' := [some (.ref 38), some (.ref 36), some (.int x2), some (.int (-1)), some (.int (-1)), some (.int (-1)), some (.int 0), none, none]) dX3_mergeBestPair_9 (by decide) rfl rfl rfl ?_
  obtain ⟨r4, hr4, h⟩ := Option.bind_eq_some_iff.mp h
  refine zloop_rn (P := fun w : (Int32 × Int32 × Int32 × Int32) => Rn E zX3_mergeBestPair 11 [some (.ref 38), some (.ref 36), some (.int x2), some (.int w.1), some (.int w.2.1), some (.int w.2.2.1), some (.int w.2.2.2), none, none] [] zSH m (some (.int (bi x.1))) zSH x.2) (X := fun w : (Int32 × Int32) => Rn E zX3_mergeBestPair 92 [some (.ref 38), some (.ref 36), none, none, some (.int w.1), some (.int w.2), none, none, none] [] zSH m (some (.int (bi x.1))) zSH x.2) (fun w w0 hb KI KX => rb_X3_mergeBestPair_11 x2 m w _ _ w0 hb KI KX) zFU _ r4 hr4 ?_
  show Rn E zX3_mergeBestPair 92 [some (.ref 38), some (.ref 36), none, none, some (.int r4.1), some (.int r4.2), none, none, none] [] zSH m (some (.int (bi x.1))) zSH x.2
  refine zi_iload (q := 94) dX3_mergeBestPair_92 rfl rfl ?_
  refine zi_iconst (q := 95) dX3_mergeBestPair_94 ki_m1 rfl ?_
  refine zi_icmpne (q := 100) (q2 := 98) dX3_mergeBestPair_95 (by decide) rfl (fun hc => ?_) (fun hc => ?_)
  · replace h := (if_neg hc).symm.trans h
    refine zi_aloadn (q := 101) dX3_mergeBestPair_100 rfl rfl ?_
    refine zi_aloadn (q := 102) dX3_mergeBestPair_101 rfl rfl ?_
    refine zi_getA (q := 105) dX3_mergeBestPair_102 fl_3_11 so_38 rfl rfl ?_
    refine zi_iload (q := 107) dX3_mergeBestPair_105 rfl rfl ?_
    obtain ⟨hz5, h⟩ := zg_some h
    refine zi_iald2 (q := 108) dX3_mergeBestPair_107 so_39 (zin_vp hz5) rfl rfl ?_
    obtain ⟨hz6, h⟩ := zg_some h
    refine zi_iald2 (q := 109) dX3_mergeBestPair_108 so_36 (zin_vp hz6) rfl rfl ?_
    refine zi_aloadn (q := 110) dX3_mergeBestPair_109 rfl rfl ?_
    refine zi_aloadn (q := 111) dX3_mergeBestPair_110 rfl rfl ?_
    refine zi_getA (q := 114) dX3_mergeBestPair_111 fl_3_11 so_38 rfl rfl ?_
    refine zi_iload (q := 116) dX3_mergeBestPair_114 rfl rfl ?_
    obtain ⟨hz7, h⟩ := zg_some h
    refine zi_iald2 (q := 117) dX3_mergeBestPair_116 so_39 (zin_vp hz7) rfl rfl ?_
    obtain ⟨hz8, h⟩ := zg_some h
    refine zi_iald2 (q := 118) dX3_mergeBestPair_117 so_36 (zin_vp hz8) rfl rfl ?_
    refine zi_icmplt (q := 132) (q2 := 121) dX3_mergeBestPair_118 (by decide) rfl (fun hc => ?_) (fun hc => ?_)
    · replace h := (if_pos hc).symm.trans h
      refine zi_aloadn (q := 133) dX3_mergeBestPair_132 rfl rfl ?_
      refine zi_iload (q := 135) dX3_mergeBestPair_133 rfl rfl ?_
      refine zi_iload (q := 137) dX3_mergeBestPair_135 rfl rfl ?_
      obtain ⟨m9, hm9, h⟩ := Option.bind_eq_some_iff.mp h
      refine zc_V2 (q := 140) (st := []) (S1 := []) (r_X3_merge r4.2 r4.1 _ m9 hm9) dX3_mergeBestPair_137 cb_X3_merge k3_175 k3_177 ks_X3_merge ⟨by decide, by decide⟩ so_38 rfl rfl rfl (Nat.le_of_ble_eq_true rfl) (Or.inl rfl) rfl rfl ?_
      refine zi_iconst (q := 141) dX3_mergeBestPair_140 ki_1 rfl ?_
      cases h
      exact zi_ret _ dX3_mergeBestPair_141
    · replace h := (if_neg hc).symm.trans h
      refine zi_aloadn (q := 122) dX3_mergeBestPair_121 rfl rfl ?_
      refine zi_iload (q := 124) dX3_mergeBestPair_122 rfl rfl ?_
      refine zi_iload (q := 126) dX3_mergeBestPair_124 rfl rfl ?_
      obtain ⟨m10, hm10, h⟩ := Option.bind_eq_some_iff.mp h
      refine zc_V2 (q := 129) (st := []) (S1 := []) (r_X3_merge r4.1 r4.2 _ m10 hm10) dX3_mergeBestPair_126 cb_X3_merge k3_175 k3_177 ks_X3_merge ⟨by decide, by decide⟩ so_38 rfl rfl rfl (Nat.le_of_ble_eq_true rfl) (Or.inl rfl) rfl rfl ?_
      refine zi_goto (q := 140) dX3_mergeBestPair_129 (by decide) ?_
      refine zi_iconst (q := 141) dX3_mergeBestPair_140 ki_1 rfl ?_
      cases h
      exact zi_ret _ dX3_mergeBestPair_141
  · replace h := (if_pos hc).symm.trans h
    refine zi_iconst (q := 99) dX3_mergeBestPair_98 ki_0 rfl ?_
    cases h
    exact zi_ret _ dX3_mergeBestPair_99
set_option maxRecDepth 20000 in
theorem rb_X3_form_23 {E : Nat × (Nat → Int32)} (x2 : Int32)  (s : (Int32 × zM)) (rv : Option Value) (m' : zM) (x : ((Int32 × zM) ⊕ ((zM) ⊕ zM))) (h : b_X3_form_23 x2 s = some x) (KI : ∀ s1 : (Int32 × zM), x = .inl s1 → Rn E zX3_form 23 [some (.ref 38), some (.ref 31), some (.int x2), some (.int s1.1)] [] zSH s1.2 rv zSH m') (KO : ∀ r1 : (zM), x = .inr (.inl r1) → Rn E zX3_form 48 [none, none, none, none] [] zSH r1 rv zSH m') (KR : ∀ v : zM, x = .inr (.inr v) → rv = none ∧ m' = v) : Rn E zX3_form 23 [some (.ref 38), some (.ref 31), some (.int x2), some (.int s.1)] [] zSH s.2 rv zSH m' := by
  unfold b_X3_form_23 at h
  refine zi_iloadn (q := 24) dX3_form_23 rfl rfl ?_
  refine zi_bipush (q := 26) dX3_form_24 kb_16 rfl ?_
  refine zi_icmpge (q := 48) (q2 := 29) dX3_form_26 (by decide) rfl (fun hc => ?_) (fun hc => ?_)
  · replace h := (if_pos hc).symm.trans h
    refine Rn.weakm [false, false, false, false] ?_
    exact KO s.2 (Option.some.inj h).symm
  · replace h := (if_neg hc).symm.trans h
    refine zi_aloadn (q := 30) dX3_form_29 rfl rfl ?_
    refine zi_aloadn (q := 31) dX3_form_30 rfl rfl ?_
    refine zi_getA (q := 34) dX3_form_31 fl_3_45 so_31 rfl rfl ?_
    refine zi_iloadn (q := 35) dX3_form_34 rfl rfl ?_
    obtain ⟨r4, hr4, h⟩ := Option.bind_eq_some_iff.mp h
    refine zc_V2 (q := 38) (st := []) (S1 := [.int (bi r4.1)]) (r_X3_mergeBestPair x2 _ r4 hr4) dX3_form_35 cb_X3_mergeBestPair k3_167 k3_169 ks_X3_mergeBestPair ⟨by decide, by decide⟩ so_38 rfl rfl rfl (Nat.le_of_ble_eq_true rfl) (Or.inl rfl) rfl rfl ?_
    refine zi_ifne (q := 42) (q2 := 41) dX3_form_38 (by decide) rfl (fun hc => ?_) (fun hc => ?_)
    · replace h := (if_neg hc).symm.trans h
      refine zi_iinc (q := 45) (v := s.1 + 1) (L' := [some (.ref 38), some (.ref 31), some (.int x2), some (.int (s.1 + 1))]) dX3_form_42 rfl (by rw [ki_1]) (by decide) rfl rfl rfl ?_
      refine zi_goto (q := 23) dX3_form_45 (by decide) ?_
      exact KI ((s.1 + 1), r4.2) (Option.some.inj h).symm
    · replace h := (if_pos hc).symm.trans h
      obtain ⟨e1, e2⟩ := KR _ (Option.some.inj h).symm
      rw [e1, e2]
      exact zi_ret _ dX3_form_41
set_option maxRecDepth 20000 in
theorem r_X3_form {E : Nat × (Nat → Int32)} (x2 : Int32) (m : zM) (x : zM) (h : f_X3_form x2 m = some x) : zMet E zX3_form [.ref 38, .ref 31, .int x2] zSH m none zSH x := by
  refine zMet.of (L0 := [some (.ref 38), some (.ref 31), some (.int x2), none]) rfl trivial (Nat.le_of_ble_eq_true rfl) rfl ?_
  unfold f_X3_form at h
  refine zi_aloadn (q := 1) dX3_form_0 rfl rfl ?_
  refine zi_aloadn (q := 2) dX3_form_1 rfl rfl ?_
  obtain ⟨m1, hm1, h⟩ := Option.bind_eq_some_iff.mp h
  refine zc_V2 (q := 5) (st := []) (S1 := []) (r_X3_findPeaks  _ m1 hm1) dX3_form_2 cb_X3_findPeaks k3_143 k3_145 ks_X3_findPeaks ⟨by decide, by decide⟩ so_38 rfl rfl rfl (Nat.le_of_ble_eq_true rfl) (Or.inl rfl) rfl rfl ?_
  refine zi_aloadn (q := 6) dX3_form_5 rfl rfl ?_
  refine zi_aloadn (q := 7) dX3_form_6 rfl rfl ?_
  refine zi_getA (q := 10) dX3_form_7 fl_3_36 so_31 rfl rfl ?_
  obtain ⟨m2, hm2, h⟩ := Option.bind_eq_some_iff.mp h
  refine zc_V2 (q := 13) (st := []) (S1 := []) (r_X3_gatherCells  _ m2 hm2) dX3_form_10 cb_X3_gatherCells k3_152 k3_154 ks_X3_gatherCells ⟨by decide, by decide⟩ so_38 rfl rfl rfl (Nat.le_of_ble_eq_true rfl) (Or.inl rfl) rfl rfl ?_
  refine zi_aloadn (q := 14) dX3_form_13 rfl rfl ?_
  refine zi_aloadn (q := 15) dX3_form_14 rfl rfl ?_
  refine zi_getA (q := 18) dX3_form_15 fl_3_45 so_31 rfl rfl ?_
  obtain ⟨m3, hm3, h⟩ := Option.bind_eq_some_iff.mp h
  refine zc_V2 (q := 21) (st := []) (S1 := []) (r_X3_findPasses  _ m3 hm3) dX3_form_18 cb_X3_findPasses k3_156 k3_158 ks_X3_findPasses ⟨by decide, by decide⟩ so_38 rfl rfl rfl (Nat.le_of_ble_eq_true rfl) (Or.inl rfl) rfl rfl ?_
  refine zi_iconst (q := 22) dX3_form_21 ki_0 rfl ?_
  refine zi_istoren (q := 23) (L' := [some (.ref 38), some (.ref 31), some (.int x2), some (.int 0)]) dX3_form_22 (by decide) rfl rfl rfl ?_
  obtain ⟨r5, hr5, h⟩ := Option.bind_eq_some_iff.mp h
  refine zloop_rn (P := fun w : (Int32 × zM) => Rn E zX3_form 23 [some (.ref 38), some (.ref 31), some (.int x2), some (.int w.1)] [] zSH w.2 none zSH x) (X := Sum.elim (fun w : (zM) => Rn E zX3_form 48 [none, none, none, none] [] zSH w none zSH x) (fun v : zM => none = none ∧ x = v)) (fun w w0 hb KI KX => rb_X3_form_23 x2 w _ _ w0 hb KI (fun w1 e => KX (.inl w1) e) (fun w1 e => KX (.inr w1) e)) zFU _ r5 hr5 ?_
  rcases r5 with r5 | v6
  · replace h := (zelim_l).symm.trans h
    show Rn E zX3_form 48 [none, none, none, none] [] zSH r5 none zSH x
    cases h
    exact zi_ret _ dX3_form_48
  · replace h := (zelim_r).symm.trans h
    cases h
    exact ⟨rfl, rfl⟩
set_option maxRecDepth 20000 in
theorem rb_X8_weigh_2 {E : Nat × (Nat → Int32)}   (s : (Int32 × zM)) (rv : Option Value) (m' : zM) (x : ((Int32 × zM) ⊕ (zM))) (h : b_X8_weigh_2  s = some x) (KI : ∀ s1 : (Int32 × zM), x = .inl s1 → Rn E zX8_weigh 2 [some (.ref 44), some (.ref 38), some (.ref 36), some (.int s1.1), none] [] zSH s1.2 rv zSH m') (KO : ∀ r1 : (zM), x = .inr r1 → Rn E zX8_weigh 44 [some (.ref 44), some (.ref 38), some (.ref 36), none, none] [] zSH r1 rv zSH m') : Rn E zX8_weigh 2 [some (.ref 44), some (.ref 38), some (.ref 36), some (.int s.1), none] [] zSH s.2 rv zSH m' := by
  unfold b_X8_weigh_2 at h
  refine zi_iloadn (q := 3) dX8_weigh_2 rfl rfl ?_
  refine zi_aloadn (q := 4) dX8_weigh_3 rfl rfl ?_
  refine zi_getI (q := 7) dX8_weigh_4 fl_8_62 (by decide) so_38 rfl ?_
  refine zi_icmpge (q := 44) (q2 := 10) dX8_weigh_7 (by decide) rfl (fun hc => ?_) (fun hc => ?_)
  · replace h := (if_pos hc).symm.trans h
    refine Rn.weakm [true, true, true, false, false] ?_
    exact KO s.2 (Option.some.inj h).symm
  · replace h := (if_neg hc).symm.trans h
    refine zi_aloadn (q := 11) dX8_weigh_10 rfl rfl ?_
    refine zi_getA (q := 14) dX8_weigh_11 fl_8_32 so_44 rfl rfl ?_
    refine zi_iloadn (q := 15) dX8_weigh_14 rfl rfl ?_
    refine zi_iconst (q := 16) dX8_weigh_15 ki_0 rfl ?_
    obtain ⟨hz1, h⟩ := zg_some h
    refine zi_iast2 (q := 17) dX8_weigh_16 so_56 (zin_vp hz1) rfl rfl ?_
    refine zi_aloadn (q := 18) dX8_weigh_17 rfl rfl ?_
    refine zi_getA (q := 21) dX8_weigh_18 fl_8_35 so_44 rfl rfl ?_
    refine zi_iloadn (q := 22) dX8_weigh_21 rfl rfl ?_
    refine zi_iconst (q := 23) dX8_weigh_22 ki_0 rfl ?_
    obtain ⟨hz2, h⟩ := zg_some h
    refine zi_iast2 (q := 24) dX8_weigh_23 so_57 (zin_vp hz2) rfl rfl ?_
    refine zi_aloadn (q := 25) dX8_weigh_24 rfl rfl ?_
    refine zi_getA (q := 28) dX8_weigh_25 fl_8_38 so_44 rfl rfl ?_
    refine zi_iloadn (q := 29) dX8_weigh_28 rfl rfl ?_
    refine zi_iconst (q := 30) dX8_weigh_29 ki_0 rfl ?_
    obtain ⟨hz3, h⟩ := zg_some h
    refine zi_iast2 (q := 31) dX8_weigh_30 so_58 (zin_vp hz3) rfl rfl ?_
    refine zi_aloadn (q := 32) dX8_weigh_31 rfl rfl ?_
    refine zi_getA (q := 35) dX8_weigh_32 fl_8_41 so_44 rfl rfl ?_
    refine zi_iloadn (q := 36) dX8_weigh_35 rfl rfl ?_
    refine zi_iconst (q := 37) dX8_weigh_36 ki_0 rfl ?_
    obtain ⟨hz4, h⟩ := zg_some h
    refine zi_iast2 (q := 38) dX8_weigh_37 so_59 (zin_vp hz4) rfl rfl ?_
    refine zi_iinc (q := 41) (v := s.1 + 1) (L' := [some (.ref 44), some (.ref 38), some (.ref 36), some (.int (s.1 + 1)), none]) dX8_weigh_38 rfl (by rw [ki_1]) (by decide) rfl rfl rfl ?_
    refine zi_goto (q := 2) dX8_weigh_41 (by decide) ?_
    exact KI ((s.1 + 1), (zi (zi (zi (zi s.2 56 s.1.toNatClampNeg 0) 57 s.1.toNatClampNeg 0) 58 s.1.toNatClampNeg 0) 59 s.1.toNatClampNeg 0)) (Option.some.inj h).symm
set_option maxRecDepth 20000 in
theorem rj_X8_weigh_147 {E : Nat × (Nat → Int32)} (x3 : Int32) (m : zM) (rv : Option Value) (m' : zM) (x : ((Int32 × zM) ⊕ (zM))) (h : j_X8_weigh_147 x3 m = some x) (KI : ∀ s1 : (Int32 × zM), x = .inl s1 → Rn E zX8_weigh 46 [some (.ref 44), some (.ref 38), some (.ref 36), some (.int s1.1), none] [] zSH s1.2 rv zSH m') : Rn E zX8_weigh 147 [some (.ref 44), some (.ref 38), some (.ref 36), some (.int x3), none] [] zSH m rv zSH m' := by
  unfold j_X8_weigh_147 at h
  refine zi_iinc (q := 150) (v := x3 + 1) (L' := [some (.ref 44), some (.ref 38), some (.ref 36), some (.int (x3 + 1)), none]) dX8_weigh_147 rfl (by rw [ki_1]) (by decide) rfl rfl rfl ?_
  refine zi_goto (q := 46) dX8_weigh_150 (by decide) ?_
  exact KI ((x3 + 1), m) (Option.some.inj h).symm
set_option maxRecDepth 20000 in
theorem rb_X8_weigh_46 {E : Nat × (Nat → Int32)}   (s : (Int32 × zM)) (rv : Option Value) (m' : zM) (x : ((Int32 × zM) ⊕ (zM))) (h : b_X8_weigh_46  s = some x) (KI : ∀ s1 : (Int32 × zM), x = .inl s1 → Rn E zX8_weigh 46 [some (.ref 44), some (.ref 38), some (.ref 36), some (.int s1.1), none] [] zSH s1.2 rv zSH m') (KO : ∀ r1 : (zM), x = .inr r1 → Rn E zX8_weigh 153 [none, none, none, none, none] [] zSH r1 rv zSH m') : Rn E zX8_weigh 46 [some (.ref 44), some (.ref 38), some (.ref 36), some (.int s.1), none] [] zSH s.2 rv zSH m' := by
  unfold b_X8_weigh_46 at h
  refine zi_iloadn (q := 47) dX8_weigh_46 rfl rfl ?_
  refine zi_aloadn (q := 48) dX8_weigh_47 rfl rfl ?_
  refine zi_getA (q := 51) dX8_weigh_48 fl_8_44 so_44 rfl rfl ?_
  refine zi_getI (q := 54) dX8_weigh_51 fl_8_84 (by decide) so_14 rfl ?_
  refine zi_icmpge (q := 153) (q2 := 57) dX8_weigh_54 (by decide) rfl (fun hc => ?_) (fun hc => ?_)
  · replace h := (if_pos hc).symm.trans h
    refine Rn.weakm [false, false, false, false, false] ?_
    exact KO s.2 (Option.some.inj h).symm
  · replace h := (if_neg hc).symm.trans h
    refine zi_aloadn (q := 58) dX8_weigh_57 rfl rfl ?_
    refine zi_getA (q := 61) dX8_weigh_58 fl_8_77 so_38 rfl rfl ?_
    refine zi_iloadn (q := 62) dX8_weigh_61 rfl rfl ?_
    obtain ⟨hz6, h⟩ := zg_some h
    refine zi_iald2 (q := 63) dX8_weigh_62 so_41 (zin_vp hz6) rfl rfl ?_
    refine zi_istore (q := 65) (L' := [some (.ref 44), some (.ref 38), some (.ref 36), some (.int s.1), some (.int (s.2.1 41 s.1.toNatClampNeg))]) dX8_weigh_63 (by decide) rfl rfl rfl ?_
    refine zi_iload (q := 67) dX8_weigh_65 rfl rfl ?_
    refine zi_iconst (q := 68) dX8_weigh_67 ki_m1 rfl ?_
    refine zi_icmpeq (q := 147) (q2 := 71) dX8_weigh_68 (by decide) rfl (fun hc => ?_) (fun hc => ?_)
    · replace h := (if_pos hc).symm.trans h
      refine Rn.weakm [true, true, true, true, false] ?_
      exact rj_X8_weigh_147 s.1 _ _ _ _ h KI
    · replace h := (if_neg hc).symm.trans h
      refine zi_aloadn (q := 72) dX8_weigh_71 rfl rfl ?_
      refine zi_getA (q := 75) dX8_weigh_72 fl_8_32 so_44 rfl rfl ?_
      refine zi_iload (q := 77) dX8_weigh_75 rfl rfl ?_
      refine zi_dup2 (q := 78) dX8_weigh_77 rfl rfl rfl ?_
      obtain ⟨hz7, h⟩ := zg_some h
      refine zi_iald2 (q := 79) dX8_weigh_78 so_56 (zin_vp hz7) rfl rfl ?_
      refine zi_iconst (q := 80) dX8_weigh_79 ki_1 rfl ?_
      refine zi_iadd (q := 81) dX8_weigh_80 rfl ?_
      obtain ⟨hz8, h⟩ := zg_some h
      refine zi_iast2 (q := 82) dX8_weigh_81 so_56 (zin_vp hz8) rfl rfl ?_
      refine zi_aloadn (q := 83) dX8_weigh_82 rfl rfl ?_
      refine zi_getA (q := 86) dX8_weigh_83 fl_8_35 so_44 rfl rfl ?_
      refine zi_iload (q := 88) dX8_weigh_86 rfl rfl ?_
      refine zi_dup2 (q := 89) dX8_weigh_88 rfl rfl rfl ?_
      obtain ⟨hz9, h⟩ := zg_some h
      refine zi_iald2 (q := 90) dX8_weigh_89 so_57 (zin_vp hz9) rfl rfl ?_
      refine zi_aloadn (q := 91) dX8_weigh_90 rfl rfl ?_
      refine zi_iloadn (q := 92) dX8_weigh_91 rfl rfl ?_
      obtain ⟨hz10, h⟩ := zg_some h
      refine zi_iald2 (q := 93) dX8_weigh_92 so_36 (zin_vp hz10) rfl rfl ?_
      refine zi_iadd (q := 94) dX8_weigh_93 rfl ?_
      obtain ⟨hz11, h⟩ := zg_some h
      refine zi_iast2 (q := 95) dX8_weigh_94 so_57 (zin_vp hz11) rfl rfl ?_
      refine zi_aloadn (q := 96) dX8_weigh_95 rfl rfl ?_
      refine zi_getA (q := 99) dX8_weigh_96 fl_8_38 so_44 rfl rfl ?_
      refine zi_iload (q := 101) dX8_weigh_99 rfl rfl ?_
      refine zi_dup2 (q := 102) dX8_weigh_101 rfl rfl rfl ?_
      obtain ⟨hz12, h⟩ := zg_some h
      refine zi_iald2 (q := 103) dX8_weigh_102 so_58 (zin_vp hz12) rfl rfl ?_
      refine zi_bipush (q := 105) dX8_weigh_103 kb_16 rfl ?_
      refine zi_aloadn (q := 106) dX8_weigh_105 rfl rfl ?_
      refine zi_getA (q := 109) dX8_weigh_106 fl_8_44 so_44 rfl rfl ?_
      refine zi_getA (q := 112) dX8_weigh_109 fl_8_89 so_14 rfl rfl ?_
      refine zi_iloadn (q := 113) dX8_weigh_112 rfl rfl ?_
      obtain ⟨hz13, h⟩ := zg_some h
      refine zi_iald2 (q := 114) dX8_weigh_113 so_15 (zin_vp hz13) rfl rfl ?_
      refine zi_imul (q := 115) dX8_weigh_114 rfl ?_
      refine zi_aloadn (q := 116) dX8_weigh_115 rfl rfl ?_
      refine zi_iloadn (q := 117) dX8_weigh_116 rfl rfl ?_
      obtain ⟨hz14, h⟩ := zg_some h
      refine zi_iald2 (q := 118) dX8_weigh_117 so_36 (zin_vp hz14) rfl rfl ?_
      refine zi_imul (q := 119) dX8_weigh_118 rfl ?_
      refine zi_iadd (q := 120) dX8_weigh_119 rfl ?_
      obtain ⟨hz15, h⟩ := zg_some h
      refine zi_iast2 (q := 121) dX8_weigh_120 so_58 (zin_vp hz15) rfl rfl ?_
      refine zi_aloadn (q := 122) dX8_weigh_121 rfl rfl ?_
      refine zi_getA (q := 125) dX8_weigh_122 fl_8_41 so_44 rfl rfl ?_
      refine zi_iload (q := 127) dX8_weigh_125 rfl rfl ?_
      refine zi_dup2 (q := 128) dX8_weigh_127 rfl rfl rfl ?_
      obtain ⟨hz16, h⟩ := zg_some h
      refine zi_iald2 (q := 129) dX8_weigh_128 so_59 (zin_vp hz16) rfl rfl ?_
      refine zi_bipush (q := 131) dX8_weigh_129 kb_16 rfl ?_
      refine zi_aloadn (q := 132) dX8_weigh_131 rfl rfl ?_
      refine zi_getA (q := 135) dX8_weigh_132 fl_8_44 so_44 rfl rfl ?_
      refine zi_getA (q := 138) dX8_weigh_135 fl_8_92 so_14 rfl rfl ?_
      refine zi_iloadn (q := 139) dX8_weigh_138 rfl rfl ?_
      obtain ⟨hz17, h⟩ := zg_some h
      refine zi_iald2 (q := 140) dX8_weigh_139 so_16 (zin_vp hz17) rfl rfl ?_
      refine zi_imul (q := 141) dX8_weigh_140 rfl ?_
      refine zi_aloadn (q := 142) dX8_weigh_141 rfl rfl ?_
      refine zi_iloadn (q := 143) dX8_weigh_142 rfl rfl ?_
      obtain ⟨hz18, h⟩ := zg_some h
      refine zi_iald2 (q := 144) dX8_weigh_143 so_36 (zin_vp hz18) rfl rfl ?_
      refine zi_imul (q := 145) dX8_weigh_144 rfl ?_
      refine zi_iadd (q := 146) dX8_weigh_145 rfl ?_
      obtain ⟨hz19, h⟩ := zg_some h
      refine zi_iast2 (q := 147) dX8_weigh_146 so_59 (zin_vp hz19) rfl rfl ?_
      refine Rn.weakm [true, true, true, true, false] ?_
      exact rj_X8_weigh_147 s.1 _ _ _ _ h KI
set_option maxRecDepth 20000 in
theorem r_X8_weigh {E : Nat × (Nat → Int32)}  (m : zM) (x : zM) (h : f_X8_weigh  m = some x) : zMet E zX8_weigh [.ref 44, .ref 38, .ref 36] zSH m none zSH x := by
  refine zMet.of (L0 := [some (.ref 44), some (.ref 38), some (.ref 36), none, none]) rfl trivial (Nat.le_of_ble_eq_true rfl) rfl ?_
  unfold f_X8_weigh at h
  refine zi_iconst (q := 1) dX8_weigh_0 ki_0 rfl ?_
  refine zi_istoren (q := 2) (L' := [some (.ref 44), some (.ref 38), some (.ref 36), some (.int 0), none]) dX8_weigh_1 (by decide) rfl rfl rfl ?_
  obtain ⟨r5, hr5, h⟩ := Option.bind_eq_some_iff.mp h
  refine zloop_rn (P := fun w : (Int32 × zM) => Rn E zX8_weigh 2 [some (.ref 44), some (.ref 38), some (.ref 36), some (.int w.1), none] [] zSH w.2 none zSH x) (X := fun w : (zM) => Rn E zX8_weigh 44 [some (.ref 44), some (.ref 38), some (.ref 36), none, none] [] zSH w none zSH x) (fun w w0 hb KI KX => rb_X8_weigh_2  w _ _ w0 hb KI KX) zFU _ r5 hr5 ?_
  show Rn E zX8_weigh 44 [some (.ref 44), some (.ref 38), some (.ref 36), none, none] [] zSH r5 none zSH x
  refine zi_iconst (q := 45) dX8_weigh_44 ki_0 rfl ?_
  refine zi_istoren (q := 46) (L' := [some (.ref 44), some (.ref 38), some (.ref 36), some (.int 0), none]) dX8_weigh_45 (by decide) rfl rfl rfl ?_
  obtain ⟨r20, hr20, h⟩ := Option.bind_eq_some_iff.mp h
  refine zloop_rn (P := fun w : (Int32 × zM) => Rn E zX8_weigh 46 [some (.ref 44), some (.ref 38), some (.ref 36), some (.int w.1), none] [] zSH w.2 none zSH x) (X := fun w : (zM) => Rn E zX8_weigh 153 [none, none, none, none, none] [] zSH w none zSH x) (fun w w0 hb KI KX => rb_X8_weigh_46  w _ _ w0 hb KI KX) zFU _ r20 hr20 ?_
  show Rn E zX8_weigh 153 [none, none, none, none, none] [] zSH r20 none zSH x
  cases h
  exact zi_ret _ dX8_weigh_153
