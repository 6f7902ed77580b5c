set_option maxRecDepth 20000 in
theorem rj_X8_dropLightest_40 {E : Nat × (Nat → Int32)} (x1 : Int32) (x2 : Int32) (x3 : Int32) (m : zM) (rv : Option Value) (m' : zM) (x : ((Int32 × Int32) ⊕ (Int32))) (h : j_X8_dropLightest_40 x1 x2 x3 m = some x) (KI : ∀ s1 : (Int32 × Int32), x = .inl s1 → Rn E zX8_dropLightest 4 [some (.ref 44), some (.int x1), some (.int s1.1), some (.int s1.2)] [] zSH m rv zSH m') : Rn E zX8_dropLightest 40 [some (.ref 44), some (.int x1), some (.int x2), some (.int x3)] [] zSH m rv zSH m' := by
  unfold j_X8_dropLightest_40 at h
  refine zi_iinc (q := 43) (v := x3 + 1) (L' := [some (.ref 44), some (.int x1), some (.int x2), some (.int (x3 + 1))]) dX8_dropLightest_40 rfl (by rw [ki_1]) (by decide) rfl rfl rfl ?_
  refine zi_goto (q := 4) dX8_dropLightest_43 (by decide) ?_
  exact KI (x2, (x3 + 1)) (Option.some.inj h).symm
set_option maxRecDepth 20000 in
theorem rj_X8_dropLightest_38 {E : Nat × (Nat → Int32)} (x1 : Int32) (x3 : Int32) (m : zM) (rv : Option Value) (m' : zM) (x : ((Int32 × Int32) ⊕ (Int32))) (h : j_X8_dropLightest_38 x1 x3 m = some x) (KI : ∀ s1 : (Int32 × Int32), x = .inl s1 → Rn E zX8_dropLightest 4 [some (.ref 44), some (.int x1), some (.int s1.1), some (.int s1.2)] [] zSH m rv zSH m') : Rn E zX8_dropLightest 38 [some (.ref 44), some (.int x1), none, some (.int x3)] [] zSH m rv zSH m' := by
  unfold j_X8_dropLightest_38 at h
  refine zi_iloadn (q := 39) dX8_dropLightest_38 rfl rfl ?_
  refine zi_istoren (q := 40) (L' := [some (.ref 44), some (.int x1), some (.int x3), some (.int x3)]) dX8_dropLightest_39 (by decide) rfl rfl rfl ?_
  exact rj_X8_dropLightest_40 x1 x3 x3 _ _ _ _ h KI
set_option maxRecDepth 20000 in
theorem rb_X8_dropLightest_4 {E : Nat × (Nat → Int32)} (x1 : Int32) (m : zM) (s : (Int32 × Int32)) (rv : Option Value) (m' : zM) (x : ((Int32 × Int32) ⊕ (Int32))) (h : b_X8_dropLightest_4 x1 m s = some x) (KI : ∀ s1 : (Int32 × Int32), x = .inl s1 → Rn E zX8_dropLightest 4 [some (.ref 44), some (.int x1), some (.int s1.1), some (.int s1.2)] [] zSH m rv zSH m') (KO : ∀ r1 : (Int32), x = .inr r1 → Rn E zX8_dropLightest 46 [some (.ref 44), none, some (.int r1), none] [] zSH m rv zSH m') : Rn E zX8_dropLightest 4 [some (.ref 44), some (.int x1), some (.int s.1), some (.int s.2)] [] zSH m rv zSH m' := by
  unfold b_X8_dropLightest_4 at h
  refine zi_iloadn (q := 5) dX8_dropLightest_4 rfl rfl ?_
  refine zi_iloadn (q := 6) dX8_dropLightest_5 rfl rfl ?_
  refine zi_icmpge (q := 46) (q2 := 9) dX8_dropLightest_6 (by decide) rfl (fun hc => ?_) (fun hc => ?_)
  · replace h := (if_pos hc).symm.trans h
    refine Rn.weakm [true, false, true, false] ?_
    exact KO s.1 (Option.some.inj h).symm
  · replace h := (if_neg hc).symm.trans h
    refine zi_aloadn (q := 10) dX8_dropLightest_9 rfl rfl ?_
    refine zi_getA (q := 13) dX8_dropLightest_10 fl_8_26 so_44 rfl rfl ?_
    refine zi_iloadn (q := 14) dX8_dropLightest_13 rfl rfl ?_
    obtain ⟨hz1, h⟩ := zg_some h
    refine zi_bald2 (q := 15) dX8_dropLightest_14 so_54 (zin_vp hz1) rfl rfl ?_
    refine zi_ifeq (q := 40) (q2 := 18) dX8_dropLightest_15 (by decide) rfl (fun hc => ?_) (fun hc => ?_)
    · replace h := (if_pos hc).symm.trans h
      exact rj_X8_dropLightest_40 x1 s.1 s.2 _ _ _ _ h KI
    · replace h := (if_neg hc).symm.trans h
      refine zi_iloadn (q := 19) dX8_dropLightest_18 rfl rfl ?_
      refine zi_iconst (q := 20) dX8_dropLightest_19 ki_m1 rfl ?_
      refine zi_icmpeq (q := 38) (q2 := 23) dX8_dropLightest_20 (by decide) rfl (fun hc => ?_) (fun hc => ?_)
      · replace h := (if_pos hc).symm.trans h
        refine Rn.weakm [true, true, false, true] ?_
        exact rj_X8_dropLightest_38 x1 s.2 _ _ _ _ h KI
      · replace h := (if_neg hc).symm.trans h
        refine zi_aloadn (q := 24) dX8_dropLightest_23 rfl rfl ?_
        refine zi_getA (q := 27) dX8_dropLightest_24 fl_8_35 so_44 rfl rfl ?_
        refine zi_iloadn (q := 28) dX8_dropLightest_27 rfl rfl ?_
        obtain ⟨hz2, h⟩ := zg_some h
        refine zi_iald2 (q := 29) dX8_dropLightest_28 so_57 (zin_vp hz2) rfl rfl ?_
        refine zi_aloadn (q := 30) dX8_dropLightest_29 rfl rfl ?_
        refine zi_getA (q := 33) dX8_dropLightest_30 fl_8_35 so_44 rfl rfl ?_
        refine zi_iloadn (q := 34) dX8_dropLightest_33 rfl rfl ?_
        obtain ⟨hz3, h⟩ := zg_some h
        refine zi_iald2 (q := 35) dX8_dropLightest_34 so_57 (zin_vp hz3) rfl rfl ?_
        refine zi_icmpgt (q := 40) (q2 := 38) dX8_dropLightest_35 (by decide) rfl (fun hc => ?_) (fun hc => ?_)
        · replace h := (if_pos hc).symm.trans h
          exact rj_X8_dropLightest_40 x1 s.1 s.2 _ _ _ _ h KI
        · replace h := (if_neg hc).symm.trans h
          refine Rn.weakm [true, true, false, true] ?_
          exact rj_X8_dropLightest_38 x1 s.2 _ _ _ _ h KI
set_option maxRecDepth 20000 in
theorem r_X8_dropLightest {E : Nat × (Nat → Int32)} (x1 : Int32) (m : zM) (x : zM) (h : f_X8_dropLightest x1 m = some x) : zMet E zX8_dropLightest [.ref 44, .int x1] zSH m none zSH x := by
  refine zMet.of (L0 := [some (.ref 44), some (.int x1), none, none]) rfl trivial (Nat.le_of_ble_eq_true rfl) rfl ?_
  unfold f_X8_dropLightest at h
  refine zi_iconst (q := 1) dX8_dropLightest_0 ki_m1 rfl ?_
  refine zi_istoren (q := 2) (L' := [some (.ref 44), some (.int x1), some (.int (-1)), none]) dX8_dropLightest_1 (by decide) rfl rfl rfl ?_
  refine zi_iconst (q := 3) dX8_dropLightest_2 ki_0 rfl ?_
  refine zi_istoren (q := 4) (L' := [some (.ref 44), some (.int x1), some (.int (-1)), some (.int 0)]) dX8_dropLightest_3 (by decide) rfl rfl rfl ?_
  obtain ⟨r4, hr4, h⟩ := Option.bind_eq_some_iff.mp h
  refine zloop_rn (P := fun w : (Int32 × Int32) => Rn E zX8_dropLightest 4 [some (.ref 44), some (.int x1), some (.int w.1), some (.int w.2)] [] zSH m none zSH x) (X := fun w : (Int32) => Rn E zX8_dropLightest 46 [some (.ref 44), none, some (.int w), none] [] zSH m none zSH x) (fun w w0 hb KI KX => rb_X8_dropLightest_4 x1 m w _ _ w0 hb KI KX) zFU _ r4 hr4 ?_
  show Rn E zX8_dropLightest 46 [some (.ref 44), none, some (.int r4), none] [] zSH m none zSH x
  refine zi_iloadn (q := 47) dX8_dropLightest_46 rfl rfl ?_
  refine zi_iconst (q := 48) dX8_dropLightest_47 ki_m1 rfl ?_
  refine zi_icmpeq (q := 58) (q2 := 51) dX8_dropLightest_48 (by decide) rfl (fun hc => ?_) (fun hc => ?_)
  · replace h := (if_pos hc).symm.trans h
    cases h
    exact zi_ret _ dX8_dropLightest_58
  · replace h := (if_neg hc).symm.trans h
    refine zi_aloadn (q := 52) dX8_dropLightest_51 rfl rfl ?_
    refine zi_getA (q := 55) dX8_dropLightest_52 fl_8_26 so_44 rfl rfl ?_
    refine zi_iloadn (q := 56) dX8_dropLightest_55 rfl rfl ?_
    refine zi_iconst (q := 57) dX8_dropLightest_56 ki_0 rfl ?_
    obtain ⟨hz5, h⟩ := zg_some h
    refine zi_bast2 (q := 58) dX8_dropLightest_57 so_54 (zin_vp hz5) rfl rfl rfl ?_
    cases h
    exact zi_ret _ dX8_dropLightest_58
set_option maxRecDepth 20000 in
theorem rj_X8_fillRow_67 {E : Nat × (Nat → Int32)} (x1 : Nat) (s0 : Int32) (s1 : Int32) (s2 : Nat) (m : zM)  (x : zM) (h : j_X8_fillRow_67 x1 s0 s1 s2 m = some x) : Rn E zX8_fillRow 67 [none, some (.ref (46 + x1 % 6)), none, none, none] [.int s0, .int s1, .ref (46 + s2 % 6)] zSH m none zSH x := by
  unfold j_X8_fillRow_67 at h
  obtain ⟨hz4, h⟩ := zg_some h
  refine zi_iast2 (q := 68) dX8_fillRow_67 (sr_45 _) (zin_vp hz4) rfl rfl ?_
  refine zi_aloadn (q := 69) dX8_fillRow_68 rfl rfl ?_
  refine zi_iconst (q := 70) dX8_fillRow_69 ki_5 rfl ?_
  refine zi_iconst (q := 71) dX8_fillRow_70 ki_m1 rfl ?_
  refine zi_iast2 (q := 72) dX8_fillRow_71 (sr_45 _) vi_5_6 ix_5 rfl ?_
  cases h
  exact zi_ret _ dX8_fillRow_72
set_option maxRecDepth 20000 in
theorem rj_X8_fillRow_46 {E : Nat × (Nat → Int32)} (x1 : Nat) (x2 : Int32) (x4 : Int32) (s0 : Int32) (s1 : Int32) (s2 : Nat) (m : zM)  (x : zM) (h : j_X8_fillRow_46 x1 x2 x4 s0 s1 s2 m = some x) : Rn E zX8_fillRow 46 [some (.ref 44), some (.ref (46 + x1 % 6)), some (.int x2), none, some (.int x4)] [.int s0, .int s1, .ref (46 + s2 % 6)] zSH m none zSH x := by
  unfold j_X8_fillRow_46 at h
  obtain ⟨hz3, h⟩ := zg_some h
  refine zi_iast2 (q := 47) dX8_fillRow_46 (sr_45 _) (zin_vp hz3) rfl rfl ?_
  refine zi_aloadn (q := 48) dX8_fillRow_47 rfl rfl ?_
  refine zi_iconst (q := 49) dX8_fillRow_48 ki_4 rfl ?_
  refine zi_iload (q := 51) dX8_fillRow_49 rfl rfl ?_
  refine zi_ifle (q := 66) (q2 := 54) dX8_fillRow_51 (by decide) rfl (fun hc => ?_) (fun hc => ?_)
  · replace h := (if_pos hc).symm.trans h
    refine zi_iconst (q := 67) dX8_fillRow_66 ki_0 rfl ?_
    refine Rn.weakm [false, true, false, false, false] ?_
    exact rj_X8_fillRow_67 x1 0 4 x1 _ _ h
  · replace h := (if_neg hc).symm.trans h
    refine zi_aloadn (q := 55) dX8_fillRow_54 rfl rfl ?_
    refine zi_getA (q := 58) dX8_fillRow_55 fl_8_41 so_44 rfl rfl ?_
    refine zi_iloadn (q := 59) dX8_fillRow_58 rfl rfl ?_
    obtain ⟨hz5, h⟩ := zg_some h
    refine zi_iald2 (q := 60) dX8_fillRow_59 so_59 (zin_vp hz5) rfl rfl ?_
    refine zi_iload (q := 62) dX8_fillRow_60 rfl rfl ?_
    obtain ⟨hz6, h⟩ := zg_some h
    refine zi_idiv (q := 63) dX8_fillRow_62 (znz_of hz6) rfl ?_
    refine zi_goto (q := 67) dX8_fillRow_63 (by decide) ?_
    refine Rn.weakm [false, true, false, false, false] ?_
    exact rj_X8_fillRow_67 x1 (((zi m (46 + s2 % 6) s1.toNatClampNeg s0).1 59 x2.toNatClampNeg) / x4) 4 x1 _ _ h
set_option maxRecDepth 20000 in
theorem r_X8_fillRow {E : Nat × (Nat → Int32)} (x1 : Nat) (x2 : Int32) (x3 : Int32) (m : zM) (x : zM) (h : f_X8_fillRow x1 x2 x3 m = some x) : zMet E zX8_fillRow [.ref 44, .ref (46 + x1 % 6), .int x2, .int x3] zSH m none zSH x := by
  refine zMet.of (L0 := [some (.ref 44), some (.ref (46 + x1 % 6)), some (.int x2), some (.int x3), none]) rfl trivial (Nat.le_of_ble_eq_true rfl) rfl ?_
  unfold f_X8_fillRow at h
  refine zi_aloadn (q := 1) dX8_fillRow_0 rfl rfl ?_
  refine zi_getA (q := 4) dX8_fillRow_1 fl_8_35 so_44 rfl rfl ?_
  refine zi_iloadn (q := 5) dX8_fillRow_4 rfl rfl ?_
  obtain ⟨hz1, h⟩ := zg_some h
  refine zi_iald2 (q := 6) dX8_fillRow_5 so_57 (zin_vp hz1) rfl rfl ?_
  refine zi_istore (q := 8) (L' := [some (.ref 44), some (.ref (46 + x1 % 6)), some (.int x2), some (.int x3), some (.int (m.1 57 x2.toNatClampNeg))]) dX8_fillRow_6 (by decide) rfl rfl rfl ?_
  refine zi_aloadn (q := 9) dX8_fillRow_8 rfl rfl ?_
  refine zi_iconst (q := 10) dX8_fillRow_9 ki_0 rfl ?_
  refine zi_iloadn (q := 11) dX8_fillRow_10 rfl rfl ?_
  refine zi_iast2 (q := 12) dX8_fillRow_11 (sr_45 _) vi_0_6 ix_0 rfl ?_
  refine zi_aloadn (q := 13) dX8_fillRow_12 rfl rfl ?_
  refine zi_iconst (q := 14) dX8_fillRow_13 ki_1 rfl ?_
  refine zi_aloadn (q := 15) dX8_fillRow_14 rfl rfl ?_
  refine zi_getA (q := 18) dX8_fillRow_15 fl_8_32 so_44 rfl rfl ?_
  refine zi_iloadn (q := 19) dX8_fillRow_18 rfl rfl ?_
  obtain ⟨hz2, h⟩ := zg_some h
  refine zi_iald2 (q := 20) dX8_fillRow_19 so_56 (zin_vp hz2) rfl rfl ?_
  refine zi_iast2 (q := 21) dX8_fillRow_20 (sr_45 _) vi_1_6 ix_1 rfl ?_
  refine zi_aloadn (q := 22) dX8_fillRow_21 rfl rfl ?_
  refine zi_iconst (q := 23) dX8_fillRow_22 ki_2 rfl ?_
  refine zi_iload (q := 25) dX8_fillRow_23 rfl rfl ?_
  refine zi_iast2 (q := 26) dX8_fillRow_25 (sr_45 _) vi_2_6 ix_2 rfl ?_
  refine zi_aloadn (q := 27) dX8_fillRow_26 rfl rfl ?_
  refine zi_iconst (q := 28) dX8_fillRow_27 ki_3 rfl ?_
  refine zi_iload (q := 30) dX8_fillRow_28 rfl rfl ?_
  refine zi_ifle (q := 45) (q2 := 33) dX8_fillRow_30 (by decide) rfl (fun hc => ?_) (fun hc => ?_)
  · replace h := (if_pos hc).symm.trans h
    refine zi_iconst (q := 46) dX8_fillRow_45 ki_0 rfl ?_
    refine Rn.weakm [true, true, true, false, true] ?_
    exact rj_X8_fillRow_46 x1 x2 (m.1 57 x2.toNatClampNeg) 0 3 x1 _ _ h
  · replace h := (if_neg hc).symm.trans h
    refine zi_aloadn (q := 34) dX8_fillRow_33 rfl rfl ?_
    refine zi_getA (q := 37) dX8_fillRow_34 fl_8_38 so_44 rfl rfl ?_
    refine zi_iloadn (q := 38) dX8_fillRow_37 rfl rfl ?_
    obtain ⟨hz7, h⟩ := zg_some h
    refine zi_iald2 (q := 39) dX8_fillRow_38 so_58 (zin_vp hz7) rfl rfl ?_
    refine zi_iload (q := 41) dX8_fillRow_39 rfl rfl ?_
    obtain ⟨hz8, h⟩ := zg_some h
    refine zi_idiv (q := 42) dX8_fillRow_41 (znz_of hz8) rfl ?_
    refine zi_goto (q := 46) dX8_fillRow_42 (by decide) ?_
    refine Rn.weakm [true, true, true, false, true] ?_
    exact rj_X8_fillRow_46 x1 x2 (m.1 57 x2.toNatClampNeg) (((zi (zi (zi m (46 + x1 % 6) 0 x3) (46 + x1 % 6) 1 ((zi m (46 + x1 % 6) 0 x3).1 56 x2.toNatClampNeg)) (46 + x1 % 6) 2 (m.1 57 x2.toNatClampNeg)).1 58 x2.toNatClampNeg) / (m.1 57 x2.toNatClampNeg)) 3 x1 _ _ h
set_option maxRecDepth 20000 in
theorem rj_X8_numberHills_80 {E : Nat × (Nat → Int32)} (x2 : Int32) (m : zM) (rv : Option Value) (m' : zM) (x : ((Int32 × zM) ⊕ (zM))) (h : j_X8_numberHills_80 x2 m = some x) (KI : ∀ s1 : (Int32 × zM), x = .inl s1 → Rn E zX8_numberHills 7 [some (.ref 44), some (.ref 38), some (.int s1.1)] [] zSH s1.2 rv zSH m') : Rn E zX8_numberHills 80 [some (.ref 44), some (.ref 38), some (.int x2)] [] zSH m rv zSH m' := by
  unfold j_X8_numberHills_80 at h
  refine zi_iinc (q := 83) (v := x2 + 1) (L' := [some (.ref 44), some (.ref 38), some (.int (x2 + 1))]) dX8_numberHills_80 rfl (by rw [ki_1]) (by decide) rfl rfl rfl ?_
  refine zi_goto (q := 7) dX8_numberHills_83 (by decide) ?_
  exact KI ((x2 + 1), m) (Option.some.inj h).symm
set_option maxRecDepth 20000 in
theorem rb_X8_numberHills_7 {E : Nat × (Nat → Int32)}   (s : (Int32 × zM)) (rv : Option Value) (m' : zM) (x : ((Int32 × zM) ⊕ (zM))) (h : b_X8_numberHills_7  s = some x) (KI : ∀ s1 : (Int32 × zM), x = .inl s1 → Rn E zX8_numberHills 7 [some (.ref 44), some (.ref 38), some (.int s1.1)] [] zSH s1.2 rv zSH m') (KO : ∀ r1 : (zM), x = .inr r1 → Rn E zX8_numberHills 86 [none, none, none] [] zSH r1 rv zSH m') : Rn E zX8_numberHills 7 [some (.ref 44), some (.ref 38), some (.int s.1)] [] zSH s.2 rv zSH m' := by
  unfold b_X8_numberHills_7 at h
  refine zi_iloadn (q := 8) dX8_numberHills_7 rfl rfl ?_
  refine zi_aloadn (q := 9) dX8_numberHills_8 rfl rfl ?_
  refine zi_getI (q := 12) dX8_numberHills_9 fl_8_62 (by decide) so_38 rfl ?_
  refine zi_icmpge (q := 86) (q2 := 15) dX8_numberHills_12 (by decide) rfl (fun hc => ?_) (fun hc => ?_)
  · replace h := (if_pos hc).symm.trans h
    refine Rn.weakm [false, false, false] ?_
    exact KO s.2 (Option.some.inj h).symm
  · replace h := (if_neg hc).symm.trans h
    refine zi_aloadn (q := 16) dX8_numberHills_15 rfl rfl ?_
    refine zi_getA (q := 19) dX8_numberHills_16 fl_8_29 so_44 rfl rfl ?_
    refine zi_iloadn (q := 20) dX8_numberHills_19 rfl rfl ?_
    refine zi_iconst (q := 21) dX8_numberHills_20 ki_m1 rfl ?_
    obtain ⟨hz1, h⟩ := zg_some h
    refine zi_iast2 (q := 22) dX8_numberHills_21 so_55 (zin_vp hz1) rfl rfl ?_
    refine zi_aloadn (q := 23) dX8_numberHills_22 rfl rfl ?_
    refine zi_getA (q := 26) dX8_numberHills_23 fl_8_26 so_44 rfl rfl ?_
    refine zi_iloadn (q := 27) dX8_numberHills_26 rfl rfl ?_
    obtain ⟨hz2, h⟩ := zg_some h
    refine zi_bald2 (q := 28) dX8_numberHills_27 so_54 (zin_vp hz2) rfl rfl ?_
    refine zi_ifeq (q := 80) (q2 := 31) dX8_numberHills_28 (by decide) rfl (fun hc => ?_) (fun hc => ?_)
    · replace h := (if_pos hc).symm.trans h
      exact rj_X8_numberHills_80 s.1 _ _ _ _ h KI
    · replace h := (if_neg hc).symm.trans h
      refine zi_aloadn (q := 32) dX8_numberHills_31 rfl rfl ?_
      refine zi_getI (q := 35) dX8_numberHills_32 fl_8_48 (by decide) so_44 rfl ?_
      refine zi_bipush (q := 37) dX8_numberHills_35 kb_6 rfl ?_
      refine zi_icmpge (q := 80) (q2 := 40) dX8_numberHills_37 (by decide) rfl (fun hc => ?_) (fun hc => ?_)
      · replace h := (if_pos hc).symm.trans h
        exact rj_X8_numberHills_80 s.1 _ _ _ _ h KI
      · replace h := (if_neg hc).symm.trans h
        refine zi_aloadn (q := 41) dX8_numberHills_40 rfl rfl ?_
        refine zi_getA (q := 44) dX8_numberHills_41 fl_8_29 so_44 rfl rfl ?_
        refine zi_iloadn (q := 45) dX8_numberHills_44 rfl rfl ?_
        refine zi_aloadn (q := 46) dX8_numberHills_45 rfl rfl ?_
        refine zi_getI (q := 49) dX8_numberHills_46 fl_8_48 (by decide) so_44 rfl ?_
        obtain ⟨hz3, h⟩ := zg_some h
        refine zi_iast2 (q := 50) dX8_numberHills_49 so_55 (zin_vp hz3) rfl rfl ?_
        refine zi_aloadn (q := 51) dX8_numberHills_50 rfl rfl ?_
        refine zi_aloadn (q := 52) dX8_numberHills_51 rfl rfl ?_
        refine zi_getA (q := 55) dX8_numberHills_52 fl_8_11 so_44 rfl rfl ?_
        refine zi_aloadn (q := 56) dX8_numberHills_55 rfl rfl ?_
        refine zi_getI (q := 59) dX8_numberHills_56 fl_8_48 (by decide) so_44 rfl ?_
        obtain ⟨hz4, h⟩ := zg_some h
        refine zi_aald2 (q := 60) dX8_numberHills_59 so_45 (zin_vp hz4) rfl rfl ?_
        refine zi_iloadn (q := 61) dX8_numberHills_60 rfl rfl ?_
        refine zi_aloadn (q := 62) dX8_numberHills_61 rfl rfl ?_
        refine zi_getA (q := 65) dX8_numberHills_62 fl_8_66 so_38 rfl rfl ?_
        refine zi_iloadn (q := 66) dX8_numberHills_65 rfl rfl ?_
        obtain ⟨hz5, h⟩ := zg_some h
        refine zi_iald2 (q := 67) dX8_numberHills_66 so_39 (zin_vp hz5) rfl rfl ?_
        obtain ⟨m6, hm6, h⟩ := Option.bind_eq_some_iff.mp h
        refine zc_V2 (q := 70) (st := []) (S1 := []) (r_X8_fillRow (s.2.2.2 45 ((s.2.1 44 4).toNatClampNeg)) s.1 (s.2.1 39 s.1.toNatClampNeg) _ m6 hm6) dX8_numberHills_67 cb_X8_fillRow k3_195 k3_197 ks_X8_fillRow ⟨by decide, by decide⟩ so_44 rfl rfl rfl (Nat.le_of_ble_eq_true rfl) (Or.inl rfl) rfl rfl ?_
        refine zi_aloadn (q := 71) dX8_numberHills_70 rfl rfl ?_
        refine zi_dup (q := 72) dX8_numberHills_71 rfl rfl ?_
        refine zi_getI (q := 75) dX8_numberHills_72 fl_8_48 (by decide) so_44 rfl ?_
        refine zi_iconst (q := 76) dX8_numberHills_75 ki_1 rfl ?_
        refine zi_iadd (q := 77) dX8_numberHills_76 rfl ?_
        refine zi_putI (q := 80) dX8_numberHills_77 pl_8_48 so_44 rfl ?_
        exact rj_X8_numberHills_80 s.1 _ _ _ _ h KI
set_option maxRecDepth 20000 in
theorem r_X8_numberHills {E : Nat × (Nat → Int32)}  (m : zM) (x : zM) (h : f_X8_numberHills  m = some x) : zMet E zX8_numberHills [.ref 44, .ref 38] zSH m none zSH x := by
  refine zMet.of (L0 := [some (.ref 44), some (.ref 38), none]) rfl trivial (Nat.le_of_ble_eq_true rfl) rfl ?_
  unfold f_X8_numberHills at h
  refine zi_aloadn (q := 1) dX8_numberHills_0 rfl rfl ?_
  refine zi_iconst (q := 2) dX8_numberHills_1 ki_0 rfl ?_
  refine zi_putI (q := 5) dX8_numberHills_2 pl_8_48 so_44 rfl ?_
  refine zi_iconst (q := 6) dX8_numberHills_5 ki_0 rfl ?_
  refine zi_istoren (q := 7) (L' := [some (.ref 44), some (.ref 38), some (.int 0)]) dX8_numberHills_6 (by decide) rfl rfl rfl ?_
  obtain ⟨r7, hr7, h⟩ := Option.bind_eq_some_iff.mp h
  refine zloop_rn (P := fun w : (Int32 × zM) => Rn E zX8_numberHills 7 [some (.ref 44), some (.ref 38), some (.int w.1)] [] zSH w.2 none zSH x) (X := fun w : (zM) => Rn E zX8_numberHills 86 [none, none, none] [] zSH w none zSH x) (fun w w0 hb KI KX => rb_X8_numberHills_7  w _ _ w0 hb KI KX) zFU _ r7 hr7 ?_
  show Rn E zX8_numberHills 86 [none, none, none] [] zSH r7 none zSH x
  cases h
  exact zi_ret _ dX8_numberHills_86
set_option maxRecDepth 20000 in
theorem rj_X8_markCells_58 {E : Nat × (Nat → Int32)} (x2 : Int32) (s0 : Int32) (s1 : Int32) (m : zM) (rv : Option Value) (m' : zM) (x : ((Int32 × zM) ⊕ (zM))) (h : j_X8_markCells_58 x2 s0 s1 m = some x) (KI : ∀ s1 : (Int32 × zM), x = .inl s1 → Rn E zX8_markCells 2 [some (.ref 44), some (.ref 41), some (.int s1.1)] [] zSH s1.2 rv zSH m') : Rn E zX8_markCells 58 [some (.ref 44), some (.ref 41), some (.int x2)] [.int s0, .int s1, .ref 53] zSH m rv zSH m' := by
  unfold j_X8_markCells_58 at h
  obtain ⟨hz6, h⟩ := zg_some h
  obtain ⟨hz7, h⟩ := zg_some h
  refine zi_bast2 (q := 59) dX8_markCells_58 so_53 (zin_vp hz6) rfl hz7 rfl ?_
  refine zi_iinc (q := 62) (v := x2 + 1) (L' := [some (.ref 44), some (.ref 41), some (.int (x2 + 1))]) dX8_markCells_59 rfl (by rw [ki_1]) (by decide) rfl rfl rfl ?_
  refine zi_goto (q := 2) dX8_markCells_62 (by decide) ?_
  exact KI ((x2 + 1), (zi m 53 s1.toNatClampNeg s0)) (Option.some.inj h).symm
set_option maxRecDepth 20000 in
theorem rj_X8_markCells_37 {E : Nat × (Nat → Int32)} (x2 : Int32) (s0 : Int32) (s1 : Int32) (m : zM) (rv : Option Value) (m' : zM) (x : ((Int32 × zM) ⊕ (zM))) (h : j_X8_markCells_37 x2 s0 s1 m = some x) (KI : ∀ s1 : (Int32 × zM), x = .inl s1 → Rn E zX8_markCells 2 [some (.ref 44), some (.ref 41), some (.int s1.1)] [] zSH s1.2 rv zSH m') : Rn E zX8_markCells 37 [some (.ref 44), some (.ref 41), some (.int x2)] [.int s0, .int s1, .ref 52] zSH m rv zSH m' := by
  unfold j_X8_markCells_37 at h
  obtain ⟨hz4, h⟩ := zg_some h
  refine zi_iast2 (q := 38) dX8_markCells_37 so_52 (zin_vp hz4) rfl rfl ?_
  refine zi_aloadn (q := 39) dX8_markCells_38 rfl rfl ?_
  refine zi_getA (q := 42) dX8_markCells_39 fl_8_20 so_44 rfl rfl ?_
  refine zi_iloadn (q := 43) dX8_markCells_42 rfl rfl ?_
  refine zi_aloadn (q := 44) dX8_markCells_43 rfl rfl ?_
  refine zi_getA (q := 47) dX8_markCells_44 fl_8_16 so_44 rfl rfl ?_
  refine zi_iloadn (q := 48) dX8_markCells_47 rfl rfl ?_
  obtain ⟨hz5, h⟩ := zg_some h
  refine zi_iald2 (q := 49) dX8_markCells_48 so_52 (zin_vp hz5) rfl rfl ?_
  refine zi_iconst (q := 50) dX8_markCells_49 ki_m1 rfl ?_
  refine zi_icmpeq (q := 57) (q2 := 53) dX8_markCells_50 (by decide) rfl (fun hc => ?_) (fun hc => ?_)
  · replace h := (if_pos hc).symm.trans h
    refine zi_iconst (q := 58) dX8_markCells_57 ki_0 rfl ?_
    exact rj_X8_markCells_58 x2 0 x2 _ _ _ _ h KI
  · replace h := (if_neg hc).symm.trans h
    refine zi_iconst (q := 54) dX8_markCells_53 ki_1 rfl ?_
    refine zi_goto (q := 58) dX8_markCells_54 (by decide) ?_
    exact rj_X8_markCells_58 x2 1 x2 _ _ _ _ h KI
set_option maxRecDepth 20000 in
theorem rb_X8_markCells_2 {E : Nat × (Nat → Int32)}   (s : (Int32 × zM)) (rv : Option Value) (m' : zM) (x : ((Int32 × zM) ⊕ (zM))) (h : b_X8_markCells_2  s = some x) (KI : ∀ s1 : (Int32 × zM), x = .inl s1 → Rn E zX8_markCells 2 [some (.ref 44), some (.ref 41), some (.int s1.1)] [] zSH s1.2 rv zSH m') (KO : ∀ r1 : (zM), x = .inr r1 → Rn E zX8_markCells 65 [none, none, none] [] zSH r1 rv zSH m') : Rn E zX8_markCells 2 [some (.ref 44), some (.ref 41), some (.int s.1)] [] zSH s.2 rv zSH m' := by
  unfold b_X8_markCells_2 at h
  refine zi_iloadn (q := 3) dX8_markCells_2 rfl rfl ?_
  refine zi_aloadn (q := 4) dX8_markCells_3 rfl rfl ?_
  refine zi_getA (q := 7) dX8_markCells_4 fl_8_44 so_44 rfl rfl ?_
  refine zi_getI (q := 10) dX8_markCells_7 fl_8_84 (by decide) so_14 rfl ?_
  refine zi_icmpge (q := 65) (q2 := 13) dX8_markCells_10 (by decide) rfl (fun hc => ?_) (fun hc => ?_)
  · replace h := (if_pos hc).symm.trans h
    refine Rn.weakm [false, false, false] ?_
    exact KO s.2 (Option.some.inj h).symm
  · replace h := (if_neg hc).symm.trans h
    refine zi_aloadn (q := 14) dX8_markCells_13 rfl rfl ?_
    refine zi_getA (q := 17) dX8_markCells_14 fl_8_16 so_44 rfl rfl ?_
    refine zi_iloadn (q := 18) dX8_markCells_17 rfl rfl ?_
    refine zi_aloadn (q := 19) dX8_markCells_18 rfl rfl ?_
    refine zi_iloadn (q := 20) dX8_markCells_19 rfl rfl ?_
    obtain ⟨hz1, h⟩ := zg_some h
    refine zi_iald2 (q := 21) dX8_markCells_20 so_41 (zin_vp hz1) rfl rfl ?_
    refine zi_iconst (q := 22) dX8_markCells_21 ki_m1 rfl ?_
    refine zi_icmpne (q := 29) (q2 := 25) dX8_markCells_22 (by decide) rfl (fun hc => ?_) (fun hc => ?_)
    · replace h := (if_neg hc).symm.trans h
      refine zi_aloadn (q := 30) dX8_markCells_29 rfl rfl ?_
      refine zi_getA (q := 33) dX8_markCells_30 fl_8_29 so_44 rfl rfl ?_
      refine zi_aloadn (q := 34) dX8_markCells_33 rfl rfl ?_
      refine zi_iloadn (q := 35) dX8_markCells_34 rfl rfl ?_
      obtain ⟨hz2, h⟩ := zg_some h
      refine zi_iald2 (q := 36) dX8_markCells_35 so_41 (zin_vp hz2) rfl rfl ?_
      obtain ⟨hz3, h⟩ := zg_some h
      refine zi_iald2 (q := 37) dX8_markCells_36 so_55 (zin_vp hz3) rfl rfl ?_
      exact rj_X8_markCells_37 s.1 (s.2.1 55 (s.2.1 41 s.1.toNatClampNeg).toNatClampNeg) s.1 _ _ _ _ h KI
    · replace h := (if_pos hc).symm.trans h
      refine zi_iconst (q := 26) dX8_markCells_25 ki_m1 rfl ?_
      refine zi_goto (q := 37) dX8_markCells_26 (by decide) ?_
      exact rj_X8_markCells_37 s.1 (-1) s.1 _ _ _ _ h KI
set_option maxRecDepth 20000 in
theorem r_X8_markCells {E : Nat × (Nat → Int32)}  (m : zM) (x : zM) (h : f_X8_markCells  m = some x) : zMet E zX8_markCells [.ref 44, .ref 41] zSH m none zSH x := by
  refine zMet.of (L0 := [some (.ref 44), some (.ref 41), none]) rfl trivial (Nat.le_of_ble_eq_true rfl) rfl ?_
  unfold f_X8_markCells at h
  refine zi_iconst (q := 1) dX8_markCells_0 ki_0 rfl ?_
  refine zi_istoren (q := 2) (L' := [some (.ref 44), some (.ref 41), some (.int 0)]) dX8_markCells_1 (by decide) rfl rfl rfl ?_
  obtain ⟨r8, hr8, h⟩ := Option.bind_eq_some_iff.mp h
  refine zloop_rn (P := fun w : (Int32 × zM) => Rn E zX8_markCells 2 [some (.ref 44), some (.ref 41), some (.int w.1)] [] zSH w.2 none zSH x) (X := fun w : (zM) => Rn E zX8_markCells 65 [none, none, none] [] zSH w none zSH x) (fun w w0 hb KI KX => rb_X8_markCells_2  w _ _ w0 hb KI KX) zFU _ r8 hr8 ?_
  show Rn E zX8_markCells 65 [none, none, none] [] zSH r8 none zSH x
  cases h
  exact zi_ret _ dX8_markCells_65
set_option maxRecDepth 20000 in
theorem rj_X8_choose_69 {E : Nat × (Nat → Int32)} (x3 : Int32) (x4 : Int32) (x5 : Int32) (m : zM) (rv : Option Value) (m' : zM) (x : ((Int32 × Int32 × zM) ⊕ (Int32 × zM))) (h : j_X8_choose_69 x3 x4 x5 m = some x) (KI : ∀ s1 : (Int32 × Int32 × zM), x = .inl s1 → Rn E zX8_choose 12 [some (.ref 44), some (.ref 38), some (.ref 36), some (.int x3), some (.int s1.1), some (.int s1.2.1)] [] zSH s1.2.2 rv zSH m') : Rn E zX8_choose 69 [some (.ref 44), some (.ref 38), some (.ref 36), some (.int x3), some (.int x4), some (.int x5)] [] zSH m rv zSH m' := by
  unfold j_X8_choose_69 at h
  refine zi_iinc (q := 72) (v := x5 + 1) (L' := [some (.ref 44), some (.ref 38), some (.ref 36), some (.int x3), some (.int x4), some (.int (x5 + 1))]) dX8_choose_69 rfl (by rw [ki_1]) (by decide) rfl rfl rfl ?_
  refine zi_goto (q := 12) dX8_choose_72 (by decide) ?_
  exact KI (x4, (x5 + 1), m) (Option.some.inj h).symm
set_option maxRecDepth 20000 in
theorem rj_X8_choose_55 {E : Nat × (Nat → Int32)} (x3 : Int32) (x4 : Int32) (x5 : Int32) (s0 : Int32) (s1 : Int32) (m : zM) (rv : Option Value) (m' : zM) (x : ((Int32 × Int32 × zM) ⊕ (Int32 × zM))) (h : j_X8_choose_55 x3 x4 x5 s0 s1 m = some x) (KI : ∀ s1 : (Int32 × Int32 × zM), x = .inl s1 → Rn E zX8_choose 12 [some (.ref 44), some (.ref 38), some (.ref 36), some (.int x3), some (.int s1.1), some (.int s1.2.1)] [] zSH s1.2.2 rv zSH m') : Rn E zX8_choose 55 [some (.ref 44), some (.ref 38), some (.ref 36), some (.int x3), some (.int x4), some (.int x5)] [.int s0, .int s1, .ref 54] zSH m rv zSH m' := by
  unfold j_X8_choose_55 at h
  obtain ⟨hz3, h⟩ := zg_some h
  obtain ⟨hz4, h⟩ := zg_some h
  refine zi_bast2 (q := 56) dX8_choose_55 so_54 (zin_vp hz3) rfl hz4 rfl ?_
  refine zi_aloadn (q := 57) dX8_choose_56 rfl rfl ?_
  refine zi_getA (q := 60) dX8_choose_57 fl_8_26 so_44 rfl rfl ?_
  refine zi_iload (q := 62) dX8_choose_60 rfl rfl ?_
  obtain ⟨hz5, h⟩ := zg_some h
  refine zi_bald2 (q := 63) dX8_choose_62 so_54 (zin_vp hz5) rfl rfl ?_
  refine zi_ifeq (q := 69) (q2 := 66) dX8_choose_63 (by decide) rfl (fun hc => ?_) (fun hc => ?_)
  · replace h := (if_pos hc).symm.trans h
    exact rj_X8_choose_69 x3 x4 x5 _ _ _ _ h KI
  · replace h := (if_neg hc).symm.trans h
    refine zi_iinc (q := 69) (v := x4 + 1) (L' := [some (.ref 44), some (.ref 38), some (.ref 36), some (.int x3), some (.int (x4 + 1)), some (.int x5)]) dX8_choose_66 rfl (by rw [ki_1]) (by decide) rfl rfl rfl ?_
    exact rj_X8_choose_69 x3 (x4 + 1) x5 _ _ _ _ h KI
set_option maxRecDepth 20000 in
theorem rj_X8_choose_54 {E : Nat × (Nat → Int32)} (x3 : Int32) (x4 : Int32) (x5 : Int32) (s0 : Int32) (m : zM) (rv : Option Value) (m' : zM) (x : ((Int32 × Int32 × zM) ⊕ (Int32 × zM))) (h : j_X8_choose_54 x3 x4 x5 s0 m = some x) (KI : ∀ s1 : (Int32 × Int32 × zM), x = .inl s1 → Rn E zX8_choose 12 [some (.ref 44), some (.ref 38), some (.ref 36), some (.int x3), some (.int s1.1), some (.int s1.2.1)] [] zSH s1.2.2 rv zSH m') : Rn E zX8_choose 54 [some (.ref 44), some (.ref 38), some (.ref 36), some (.int x3), some (.int x4), some (.int x5)] [.int s0, .ref 54] zSH m rv zSH m' := by
  unfold j_X8_choose_54 at h
  refine zi_iconst (q := 55) dX8_choose_54 ki_0 rfl ?_
  exact rj_X8_choose_55 x3 x4 x5 0 s0 _ _ _ _ h KI
set_option maxRecDepth 20000 in
theorem rb_X8_choose_12 {E : Nat × (Nat → Int32)} (x3 : Int32)  (s : (Int32 × Int32 × zM)) (rv : Option Value) (m' : zM) (x : ((Int32 × Int32 × zM) ⊕ (Int32 × zM))) (h : b_X8_choose_12 x3 s = some x) (KI : ∀ s1 : (Int32 × Int32 × zM), x = .inl s1 → Rn E zX8_choose 12 [some (.ref 44), some (.ref 38), some (.ref 36), some (.int x3), some (.int s1.1), some (.int s1.2.1)] [] zSH s1.2.2 rv zSH m') (KO : ∀ r1 : (Int32 × zM), x = .inr r1 → Rn E zX8_choose 75 [some (.ref 44), some (.ref 38), none, none, some (.int r1.1), none] [] zSH r1.2 rv zSH m') : Rn E zX8_choose 12 [some (.ref 44), some (.ref 38), some (.ref 36), some (.int x3), some (.int s.1), some (.int s.2.1)] [] zSH s.2.2 rv zSH m' := by
  unfold b_X8_choose_12 at h
  refine zi_iload (q := 14) dX8_choose_12 rfl rfl ?_
  refine zi_aloadn (q := 15) dX8_choose_14 rfl rfl ?_
  refine zi_getI (q := 18) dX8_choose_15 fl_8_62 (by decide) so_38 rfl ?_
  refine zi_icmpge (q := 75) (q2 := 21) dX8_choose_18 (by decide) rfl (fun hc => ?_) (fun hc => ?_)
  · replace h := (if_pos hc).symm.trans h
    refine Rn.weakm [true, true, false, false, true, false] ?_
    exact KO (s.1, s.2.2) (Option.some.inj h).symm
  · replace h := (if_neg hc).symm.trans h
    refine zi_aloadn (q := 22) dX8_choose_21 rfl rfl ?_
    refine zi_getA (q := 25) dX8_choose_22 fl_8_26 so_44 rfl rfl ?_
    refine zi_iload (q := 27) dX8_choose_25 rfl rfl ?_
    refine zi_aloadn (q := 28) dX8_choose_27 rfl rfl ?_
    refine zi_getA (q := 31) dX8_choose_28 fl_8_63 so_38 rfl rfl ?_
    refine zi_iload (q := 33) dX8_choose_31 rfl rfl ?_
    obtain ⟨hz2, h⟩ := zg_some h
    refine zi_bald2 (q := 34) dX8_choose_33 so_40 (zin_vp hz2) rfl rfl ?_
    refine zi_ifeq (q := 54) (q2 := 37) dX8_choose_34 (by decide) rfl (fun hc => ?_) (fun hc => ?_)
    · replace h := (if_pos hc).symm.trans h
      exact rj_X8_choose_54 x3 s.1 s.2.1 s.2.1 _ _ _ _ h KI
    · replace h := (if_neg hc).symm.trans h
      refine zi_aloadn (q := 38) dX8_choose_37 rfl rfl ?_
      refine zi_aloadn (q := 39) dX8_choose_38 rfl rfl ?_
      refine zi_getA (q := 42) dX8_choose_39 fl_8_66 so_38 rfl rfl ?_
      refine zi_iload (q := 44) dX8_choose_42 rfl rfl ?_
      obtain ⟨hz6, h⟩ := zg_some h
      refine zi_iald2 (q := 45) dX8_choose_44 so_39 (zin_vp hz6) rfl rfl ?_
      obtain ⟨hz7, h⟩ := zg_some h
      refine zi_iald2 (q := 46) dX8_choose_45 so_36 (zin_vp hz7) rfl rfl ?_
      refine zi_iloadn (q := 47) dX8_choose_46 rfl rfl ?_
      refine zi_icmplt (q := 54) (q2 := 50) dX8_choose_47 (by decide) rfl (fun hc => ?_) (fun hc => ?_)
      · replace h := (if_pos hc).symm.trans h
        exact rj_X8_choose_54 x3 s.1 s.2.1 s.2.1 _ _ _ _ h KI
      · replace h := (if_neg hc).symm.trans h
        refine zi_iconst (q := 51) dX8_choose_50 ki_1 rfl ?_
        refine zi_goto (q := 55) dX8_choose_51 (by decide) ?_
        exact rj_X8_choose_55 x3 s.1 s.2.1 1 s.2.1 _ _ _ _ h KI
set_option maxRecDepth 20000 in
theorem rb_X8_choose_79 {E : Nat × (Nat → Int32)}   (s : (Int32 × zM)) (rv : Option Value) (m' : zM) (x : ((Int32 × zM) ⊕ (zM))) (h : b_X8_choose_79  s = some x) (KI : ∀ s1 : (Int32 × zM), x = .inl s1 → Rn E zX8_choose 79 [some (.ref 44), some (.ref 38), none, none, none, some (.int s1.1)] [] zSH s1.2 rv zSH m') (KO : ∀ r1 : (zM), x = .inr r1 → Rn E zX8_choose 100 [some (.ref 44), some (.ref 38), none, none, none, none] [] zSH r1 rv zSH m') : Rn E zX8_choose 79 [some (.ref 44), some (.ref 38), none, none, none, some (.int s.1)] [] zSH s.2 rv zSH m' := by
  unfold b_X8_choose_79 at h
  refine zi_iload (q := 81) dX8_choose_79 rfl rfl ?_
  refine zi_bipush (q := 83) dX8_choose_81 kb_6 rfl ?_
  refine zi_icmple (q := 100) (q2 := 86) dX8_choose_83 (by decide) rfl (fun hc => ?_) (fun hc => ?_)
  · replace h := (if_pos hc).symm.trans h
    refine Rn.weakm [true, true, false, false, false, false] ?_
    exact KO s.2 (Option.some.inj h).symm
  · replace h := (if_neg hc).symm.trans h
    refine zi_aloadn (q := 87) dX8_choose_86 rfl rfl ?_
    refine zi_aloadn (q := 88) dX8_choose_87 rfl rfl ?_
    refine zi_getI (q := 91) dX8_choose_88 fl_8_62 (by decide) so_38 rfl ?_
    obtain ⟨m9, hm9, h⟩ := Option.bind_eq_some_iff.mp h
    refine zc_V2 (q := 94) (st := []) (S1 := []) (r_X8_dropLightest (s.2.1 38 4) _ m9 hm9) dX8_choose_91 cb_X8_dropLightest k3_187 k3_189 ks_X8_dropLightest ⟨by decide, by decide⟩ so_44 rfl rfl rfl (Nat.le_of_ble_eq_true rfl) (Or.inl rfl) rfl rfl ?_
    refine zi_iinc (q := 97) (v := s.1 + (-1)) (L' := [some (.ref 44), some (.ref 38), none, none, none, some (.int (s.1 + (-1)))]) dX8_choose_94 rfl (by rw [ki_m1]) (by decide) rfl rfl rfl ?_
    refine zi_goto (q := 79) dX8_choose_97 (by decide) ?_
    exact KI ((s.1 + (-1)), m9) (Option.some.inj h).symm
set_option maxRecDepth 20000 in
theorem r_X8_choose {E : Nat × (Nat → Int32)} (x3 : Int32) (m : zM) (x : zM) (h : f_X8_choose x3 m = some x) : zMet E zX8_choose [.ref 44, .ref 38, .ref 36, .int x3] zSH m none zSH x := by
  refine zMet.of (L0 := [some (.ref 44), some (.ref 38), some (.ref 36), some (.int x3), none, none]) rfl trivial (Nat.le_of_ble_eq_true rfl) rfl ?_
  unfold f_X8_choose at h
  refine zi_aloadn (q := 1) dX8_choose_0 rfl rfl ?_
  refine zi_aloadn (q := 2) dX8_choose_1 rfl rfl ?_
  refine zi_aloadn (q := 3) dX8_choose_2 rfl rfl ?_
  obtain ⟨m1, hm1, h⟩ := Option.bind_eq_some_iff.mp h
  refine zc_V2 (q := 6) (st := []) (S1 := []) (r_X8_weigh  _ m1 hm1) dX8_choose_3 cb_X8_weigh k3_183 k3_185 ks_X8_weigh ⟨by decide, by decide⟩ so_44 rfl rfl rfl (Nat.le_of_ble_eq_true rfl) (Or.inl rfl) rfl rfl ?_
  refine zi_iconst (q := 7) dX8_choose_6 ki_0 rfl ?_
  refine zi_istore (q := 9) (L' := [some (.ref 44), some (.ref 38), some (.ref 36), some (.int x3), some (.int 0), none]) dX8_choose_7 (by decide) rfl rfl rfl ?_
  refine zi_iconst (q := 10) dX8_choose_9 ki_0 rfl ?_
  refine zi_istore (q := 12) (L' := [some (.ref 44), some (.ref 38), some (.ref 36), some (.int x3), some (.int 0), some (.int 0)]) dX8_choose_10 (by decide) rfl rfl rfl ?_
  obtain ⟨r8, hr8, h⟩ := Option.bind_eq_some_iff.mp h
  refine zloop_rn (P := fun w : (Int32 × Int32 × zM) => Rn E zX8_choose 12 [some (.ref 44), some (.ref 38), some (.ref 36), some (.int x3), some (.int w.1), some (.int w.2.1)] [] zSH w.2.2 none zSH x) (X := fun w : (Int32 × zM) => Rn E zX8_choose 75 [some (.ref 44), some (.ref 38), none, none, some (.int w.1), none] [] zSH w.2 none zSH x) (fun w w0 hb KI KX => rb_X8_choose_12 x3 w _ _ w0 hb KI KX) zFU _ r8 hr8 ?_
  show Rn E zX8_choose 75 [some (.ref 44), some (.ref 38), none, none, some (.int r8.1), none] [] zSH r8.2 none zSH x
  refine zi_iload (q := 77) dX8_choose_75 rfl rfl ?_
  refine zi_istore (q := 79) (L' := [some (.ref 44), some (.ref 38), none, none, some (.int r8.1), some (.int r8.1)]) dX8_choose_77 (by decide) rfl rfl rfl ?_
  obtain ⟨r10, hr10, h⟩ := Option.bind_eq_some_iff.mp h
  refine Rn.weakm [true, true, false, false, false, true] ?_
  refine zloop_rn (P := fun w : (Int32 × zM) => Rn E zX8_choose 79 [some (.ref 44), some (.ref 38), none, none, none, some (.int w.1)] [] zSH w.2 none zSH x) (X := fun w : (zM) => Rn E zX8_choose 100 [some (.ref 44), some (.ref 38), none, none, none, none] [] zSH w none zSH x) (fun w w0 hb KI KX => rb_X8_choose_79  w _ _ w0 hb KI KX) zFU _ r10 hr10 ?_
  show Rn E zX8_choose 100 [some (.ref 44), some (.ref 38), none, none, none, none] [] zSH r10 none zSH x
  refine zi_aloadn (q := 101) dX8_choose_100 rfl rfl ?_
  refine zi_aloadn (q := 102) dX8_choose_101 rfl rfl ?_
  obtain ⟨m11, hm11, h⟩ := Option.bind_eq_some_iff.mp h
  refine zc_V2 (q := 105) (st := []) (S1 := []) (r_X8_numberHills  _ m11 hm11) dX8_choose_102 cb_X8_numberHills k3_191 k3_193 ks_X8_numberHills ⟨by decide, by decide⟩ so_44 rfl rfl rfl (Nat.le_of_ble_eq_true rfl) (Or.inl rfl) rfl rfl ?_
  refine zi_aloadn (q := 106) dX8_choose_105 rfl rfl ?_
  refine zi_aloadn (q := 107) dX8_choose_106 rfl rfl ?_
  refine zi_getA (q := 110) dX8_choose_107 fl_8_77 so_38 rfl rfl ?_
  obtain ⟨m12, hm12, h⟩ := Option.bind_eq_some_iff.mp h
  refine zc_V2 (q := 113) (st := []) (S1 := []) (r_X8_markCells  _ m12 hm12) dX8_choose_110 cb_X8_markCells k3_199 k3_201 ks_X8_markCells ⟨by decide, by decide⟩ so_44 rfl rfl rfl (Nat.le_of_ble_eq_true rfl) (Or.inl rfl) rfl rfl ?_
  cases h
  exact zi_ret _ dX8_choose_113
set_option maxRecDepth 20000 in
theorem r_J9_abs_0f7a4 {E : Nat × (Nat → Int32)} (x0 : Int32) (m : zM) (x : Int32) (h : f_J9_abs_0f7a4 x0 m = some x) : zMet E zJ9_abs_0f7a4 [.int x0] zSH m (some (.int x)) zSH m := by
  refine zMet.of (L0 := [some (.int x0)]) (by decide +kernel) rfl (Nat.le_of_ble_eq_true rfl) rfl ?_
  unfold f_J9_abs_0f7a4 at h
  refine zi_iloadn (q := 1) dJ9_abs_0f7a4_0 rfl rfl ?_
  refine zi_ifge (q := 9) (q2 := 4) dJ9_abs_0f7a4_1 (by decide) rfl (fun hc => ?_) (fun hc => ?_)
  · replace h := (if_pos hc).symm.trans h
    refine zi_iloadn (q := 10) dJ9_abs_0f7a4_9 rfl rfl ?_
    cases h
    exact zi_ret _ dJ9_abs_0f7a4_10
  · replace h := (if_neg hc).symm.trans h
    refine zi_iloadn (q := 5) dJ9_abs_0f7a4_4 rfl rfl ?_
    refine zi_ineg (q := 6) dJ9_abs_0f7a4_5 rfl ?_
    refine zi_goto (q := 10) dJ9_abs_0f7a4_6 (by decide) ?_
    cases h
    exact zi_ret _ dJ9_abs_0f7a4_10
set_option maxRecDepth 20000 in
theorem rj_X6_weighPairs_126 {E : Nat × (Nat → Int32)} (x3 : Int32) (x4 : Int32) (x5 : Int32) (s0 : Int32) (s1 : Int32) (m : zM) (rv : Option Value) (m' : zM) (x : ((Int32 × zM) ⊕ (zM))) (h : j_X6_weighPairs_126 x3 x4 x5 s0 s1 m = some x) (KI : ∀ s1 : (Int32 × zM), x = .inl s1 → Rn E zX6_weighPairs 15 [some (.ref 27), some (.ref 60), some (.ref 44), some (.int x3), some (.int x4), some (.int s1.1), none, none, none] [] zSH s1.2 rv zSH m') : Rn E zX6_weighPairs 126 [some (.ref 27), some (.ref 60), some (.ref 44), some (.int x3), some (.int x4), some (.int x5), none, none, none] [.int s0, .int s1, .ref 29] zSH m rv zSH m' := by
  unfold j_X6_weighPairs_126 at h
  obtain ⟨hz7, h⟩ := zg_some h
  refine zi_iast2 (q := 127) dX6_weighPairs_126 so_29 (zin_vp hz7) rfl rfl ?_
  refine zi_iinc (q := 130) (v := x5 + 1) (L' := [some (.ref 27), some (.ref 60), some (.ref 44), some (.int x3), some (.int x4), some (.int (x5 + 1)), none, none, none]) dX6_weighPairs_127 rfl (by rw [ki_1]) (by decide) rfl rfl rfl ?_
  refine zi_goto (q := 15) dX6_weighPairs_130 (by decide) ?_
  exact KI ((x5 + 1), (zi m 29 s1.toNatClampNeg s0)) (Option.some.inj h).symm
set_option maxRecDepth 20000 in
theorem rj_X6_weighPairs_89 {E : Nat × (Nat → Int32)} (x3 : Int32) (x4 : Int32) (x5 : Int32) (x6 : Int32) (x7 : Int32) (s0 : Int32) (m : zM) (rv : Option Value) (m' : zM) (x : ((Int32 × zM) ⊕ (zM))) (h : j_X6_weighPairs_89 x3 x4 x5 x6 x7 s0 m = some x) (KI : ∀ s1 : (Int32 × zM), x = .inl s1 → Rn E zX6_weighPairs 15 [some (.ref 27), some (.ref 60), some (.ref 44), some (.int x3), some (.int x4), some (.int s1.1), none, none, none] [] zSH s1.2 rv zSH m') : Rn E zX6_weighPairs 89 [some (.ref 27), some (.ref 60), some (.ref 44), some (.int x3), some (.int x4), some (.int x5), some (.int x6), some (.int x7), none] [.int s0] zSH m rv zSH m' := by
  unfold j_X6_weighPairs_89 at h
  refine zi_istore (q := 91) (L' := [some (.ref 27), some (.ref 60), some (.ref 44), some (.int x3), some (.int x4), some (.int x5), some (.int x6), some (.int x7), some (.int s0)]) dX6_weighPairs_89 (by decide) rfl rfl rfl ?_
  refine zi_aloadn (q := 92) dX6_weighPairs_91 rfl rfl ?_
  refine zi_getA (q := 95) dX6_weighPairs_92 fl_6_15 so_27 rfl rfl ?_
  refine zi_bipush (q := 97) dX6_weighPairs_95 kb_6 rfl ?_
  refine zi_iload (q := 99) dX6_weighPairs_97 rfl rfl ?_
  refine zi_imul (q := 100) dX6_weighPairs_99 rfl ?_
  refine zi_iload (q := 102) dX6_weighPairs_100 rfl rfl ?_
  refine zi_iadd (q := 103) dX6_weighPairs_102 rfl ?_
  refine zi_iload (q := 105) dX6_weighPairs_103 rfl rfl ?_
  refine zi_ifeq (q := 125) (q2 := 108) dX6_weighPairs_105 (by decide) rfl (fun hc => ?_) (fun hc => ?_)
  · replace h := (if_pos hc).symm.trans h
    refine zi_iconst (q := 126) dX6_weighPairs_125 ki_m1 rfl ?_
    refine Rn.weakm [true, true, true, true, true, true, false, false, false] ?_
    exact rj_X6_weighPairs_126 x3 x4 x5 (-1) ((6 * x4) + x5) _ _ _ _ h KI
  · replace h := (if_neg hc).symm.trans h
    refine zi_ldc (q := 110) dX6_weighPairs_108 k3_214 rfl ?_
    refine zi_iload (q := 112) dX6_weighPairs_110 rfl rfl ?_
    refine zi_iload (q := 114) dX6_weighPairs_112 rfl rfl ?_
    refine zi_imul (q := 115) dX6_weighPairs_114 rfl ?_
    refine zi_isub (q := 116) dX6_weighPairs_115 rfl ?_
    refine zi_iload (q := 118) dX6_weighPairs_116 rfl rfl ?_
    refine zi_iload (q := 120) dX6_weighPairs_118 rfl rfl ?_
    refine zi_imul (q := 121) dX6_weighPairs_120 rfl ?_
    refine zi_isub (q := 122) dX6_weighPairs_121 rfl ?_
    refine zi_goto (q := 126) dX6_weighPairs_122 (by decide) ?_
    refine Rn.weakm [true, true, true, true, true, true, false, false, false] ?_
    exact rj_X6_weighPairs_126 x3 x4 x5 ((1000000 - (x6 * x6)) - (x7 * x7)) ((6 * x4) + x5) _ _ _ _ h KI
set_option maxRecDepth 20000 in
theorem rj_X6_weighPairs_88 {E : Nat × (Nat → Int32)} (x3 : Int32) (x4 : Int32) (x5 : Int32) (x6 : Int32) (x7 : Int32) (m : zM) (rv : Option Value) (m' : zM) (x : ((Int32 × zM) ⊕ (zM))) (h : j_X6_weighPairs_88 x3 x4 x5 x6 x7 m = some x) (KI : ∀ s1 : (Int32 × zM), x = .inl s1 → Rn E zX6_weighPairs 15 [some (.ref 27), some (.ref 60), some (.ref 44), some (.int x3), some (.int x4), some (.int s1.1), none, none, none] [] zSH s1.2 rv zSH m') : Rn E zX6_weighPairs 88 [some (.ref 27), some (.ref 60), some (.ref 44), some (.int x3), some (.int x4), some (.int x5), some (.int x6), some (.int x7), none] [] zSH m rv zSH m' := by
  unfold j_X6_weighPairs_88 at h
  refine zi_iconst (q := 89) dX6_weighPairs_88 ki_0 rfl ?_
  exact rj_X6_weighPairs_89 x3 x4 x5 x6 x7 0 _ _ _ _ h KI
set_option maxRecDepth 20000 in
theorem rb_X6_weighPairs_15 {E : Nat × (Nat → Int32)} (x3 : Int32) (x4 : Int32)  (s : (Int32 × zM)) (rv : Option Value) (m' : zM) (x : ((Int32 × zM) ⊕ (zM))) (h : b_X6_weighPairs_15 x3 x4 s = some x) (KI : ∀ s1 : (Int32 × zM), x = .inl s1 → Rn E zX6_weighPairs 15 [some (.ref 27), some (.ref 60), some (.ref 44), some (.int x3), some (.int x4), some (.int s1.1), none, none, none] [] zSH s1.2 rv zSH m') (KO : ∀ r1 : (zM), x = .inr r1 → Rn E zX6_weighPairs 133 [some (.ref 27), some (.ref 60), some (.ref 44), some (.int x3), some (.int x4), none, none, none, none] [] zSH r1 rv zSH m') : Rn E zX6_weighPairs 15 [some (.ref 27), some (.ref 60), some (.ref 44), some (.int x3), some (.int x4), some (.int s.1), none, none, none] [] zSH s.2 rv zSH m' := by
  unfold b_X6_weighPairs_15 at h
  refine zi_iload (q := 17) dX6_weighPairs_15 rfl rfl ?_
  refine zi_aloadn (q := 18) dX6_weighPairs_17 rfl rfl ?_
  refine zi_getI (q := 21) dX6_weighPairs_18 fl_6_27 (by decide) so_27 rfl ?_
  refine zi_icmpge (q := 133) (q2 := 24) dX6_weighPairs_21 (by decide) rfl (fun hc => ?_) (fun hc => ?_)
  · replace h := (if_pos hc).symm.trans h
    refine Rn.weakm [true, true, true, true, true, false, false, false, false] ?_
    exact KO s.2 (Option.some.inj h).symm
  · replace h := (if_neg hc).symm.trans h
    refine zi_aloadn (q := 25) dX6_weighPairs_24 rfl rfl ?_
    refine zi_getA (q := 28) dX6_weighPairs_25 fl_6_48 so_60 rfl rfl ?_
    refine zi_iload (q := 30) dX6_weighPairs_28 rfl rfl ?_
    obtain ⟨hz1, h⟩ := zg_some h
    refine zi_aald2 (q := 31) dX6_weighPairs_30 so_61 (zin_vp hz1) rfl rfl ?_
    refine zi_iconst (q := 32) dX6_weighPairs_31 ki_1 rfl ?_
    refine zi_iald2 (q := 33) dX6_weighPairs_32 (sr_61 _) vi_1_9 ix_1 rfl ?_
    refine zi_aloadn (q := 34) dX6_weighPairs_33 rfl rfl ?_
    refine zi_getA (q := 37) dX6_weighPairs_34 fl_6_52 so_44 rfl rfl ?_
    refine zi_iload (q := 39) dX6_weighPairs_37 rfl rfl ?_
    obtain ⟨hz2, h⟩ := zg_some h
    refine zi_aald2 (q := 40) dX6_weighPairs_39 so_45 (zin_vp hz2) rfl rfl ?_
    refine zi_iconst (q := 41) dX6_weighPairs_40 ki_3 rfl ?_
    refine zi_iald2 (q := 42) dX6_weighPairs_41 (sr_45 _) vi_3_6 ix_3 rfl ?_
    refine zi_isub (q := 43) dX6_weighPairs_42 rfl ?_
    obtain ⟨r3, hr3, h⟩ := Option.bind_eq_some_iff.mp h
    refine zc_S2 (q := 46) (st := []) (S1 := [.int r3]) (r_J9_abs_0f7a4 ((s.2.1 (62 + (s.2.2.2 61 x4.toNatClampNeg) % 6) 1) - (s.2.1 (46 + (s.2.2.2 45 s.1.toNatClampNeg) % 6) 3)) _ r3 hr3) dX6_weighPairs_43 cb_J9_abs_0f7a4 k3_211 k3_212 ⟨by decide, by decide⟩ rfl (Nat.le_of_ble_eq_true rfl) (Or.inl rfl) rfl rfl ?_
    refine zi_istore (q := 48) (L' := [some (.ref 27), some (.ref 60), some (.ref 44), some (.int x3), some (.int x4), some (.int s.1), some (.int r3), none, none]) dX6_weighPairs_46 (by decide) rfl rfl rfl ?_
    refine zi_aloadn (q := 49) dX6_weighPairs_48 rfl rfl ?_
    refine zi_getA (q := 52) dX6_weighPairs_49 fl_6_48 so_60 rfl rfl ?_
    refine zi_iload (q := 54) dX6_weighPairs_52 rfl rfl ?_
    obtain ⟨hz4, h⟩ := zg_some h
    refine zi_aald2 (q := 55) dX6_weighPairs_54 so_61 (zin_vp hz4) rfl rfl ?_
    refine zi_iconst (q := 56) dX6_weighPairs_55 ki_2 rfl ?_
    refine zi_iald2 (q := 57) dX6_weighPairs_56 (sr_61 _) vi_2_9 ix_2 rfl ?_
    refine zi_aloadn (q := 58) dX6_weighPairs_57 rfl rfl ?_
    refine zi_getA (q := 61) dX6_weighPairs_58 fl_6_52 so_44 rfl rfl ?_
    refine zi_iload (q := 63) dX6_weighPairs_61 rfl rfl ?_
    obtain ⟨hz5, h⟩ := zg_some h
    refine zi_aald2 (q := 64) dX6_weighPairs_63 so_45 (zin_vp hz5) rfl rfl ?_
    refine zi_iconst (q := 65) dX6_weighPairs_64 ki_4 rfl ?_
    refine zi_iald2 (q := 66) dX6_weighPairs_65 (sr_45 _) vi_4_6 ix_4 rfl ?_
    refine zi_isub (q := 67) dX6_weighPairs_66 rfl ?_
    obtain ⟨r6, hr6, h⟩ := Option.bind_eq_some_iff.mp h
    refine zc_S2 (q := 70) (st := []) (S1 := [.int r6]) (r_J9_abs_0f7a4 ((s.2.1 (62 + (s.2.2.2 61 x4.toNatClampNeg) % 6) 2) - (s.2.1 (46 + (s.2.2.2 45 s.1.toNatClampNeg) % 6) 4)) _ r6 hr6) dX6_weighPairs_67 cb_J9_abs_0f7a4 k3_211 k3_212 ⟨by decide, by decide⟩ rfl (Nat.le_of_ble_eq_true rfl) (Or.inl rfl) rfl rfl ?_
    refine zi_istore (q := 72) (L' := [some (.ref 27), some (.ref 60), some (.ref 44), some (.int x3), some (.int x4), some (.int s.1), some (.int r3), some (.int r6), none]) dX6_weighPairs_70 (by decide) rfl rfl rfl ?_
    refine zi_iload (q := 74) dX6_weighPairs_72 rfl rfl ?_
    refine zi_iloadn (q := 75) dX6_weighPairs_74 rfl rfl ?_
    refine zi_icmpgt (q := 88) (q2 := 78) dX6_weighPairs_75 (by decide) rfl (fun hc => ?_) (fun hc => ?_)
    · replace h := (if_pos hc).symm.trans h
      exact rj_X6_weighPairs_88 x3 x4 s.1 r3 r6 _ _ _ _ h KI
    · replace h := (if_neg hc).symm.trans h
      refine zi_iload (q := 80) dX6_weighPairs_78 rfl rfl ?_
      refine zi_iloadn (q := 81) dX6_weighPairs_80 rfl rfl ?_
      refine zi_icmpgt (q := 88) (q2 := 84) dX6_weighPairs_81 (by decide) rfl (fun hc => ?_) (fun hc => ?_)
      · replace h := (if_pos hc).symm.trans h
        exact rj_X6_weighPairs_88 x3 x4 s.1 r3 r6 _ _ _ _ h KI
      · replace h := (if_neg hc).symm.trans h
        refine zi_iconst (q := 85) dX6_weighPairs_84 ki_1 rfl ?_
        refine zi_goto (q := 89) dX6_weighPairs_85 (by decide) ?_
        exact rj_X6_weighPairs_89 x3 x4 s.1 r3 r6 1 _ _ _ _ h KI
set_option maxRecDepth 20000 in
theorem rb_X6_weighPairs_3 {E : Nat × (Nat → Int32)} (x3 : Int32)  (s : (Int32 × zM)) (rv : Option Value) (m' : zM) (x : ((Int32 × zM) ⊕ (zM))) (h : b_X6_weighPairs_3 x3 s = some x) (KI : ∀ s1 : (Int32 × zM), x = .inl s1 → Rn E zX6_weighPairs 3 [some (.ref 27), some (.ref 60), some (.ref 44), some (.int x3), some (.int s1.1), none, none, none, none] [] zSH s1.2 rv zSH m') (KO : ∀ r1 : (zM), x = .inr r1 → Rn E zX6_weighPairs 139 [none, none, none, none, none, none, none, none, none] [] zSH r1 rv zSH m') : Rn E zX6_weighPairs 3 [some (.ref 27), some (.ref 60), some (.ref 44), some (.int x3), some (.int s.1), none, none, none, none] [] zSH s.2 rv zSH m' := by
  unfold b_X6_weighPairs_3 at h
  refine zi_iload (q := 5) dX6_weighPairs_3 rfl rfl ?_
  refine zi_aloadn (q := 6) dX6_weighPairs_5 rfl rfl ?_
  refine zi_getI (q := 9) dX6_weighPairs_6 fl_6_34 (by decide) so_60 rfl ?_
  refine zi_icmpge (q := 139) (q2 := 12) dX6_weighPairs_9 (by decide) rfl (fun hc => ?_) (fun hc => ?_)
  · replace h := (if_pos hc).symm.trans h
    refine Rn.weakm [false, false, false, false, false, false, false, false, false] ?_
    exact KO s.2 (Option.some.inj h).symm
  · replace h := (if_neg hc).symm.trans h
    refine zi_iconst (q := 13) dX6_weighPairs_12 ki_0 rfl ?_
    refine zi_istore (q := 15) (L' := [some (.ref 27), some (.ref 60), some (.ref 44), some (.int x3), some (.int s.1), some (.int 0), none, none, none]) dX6_weighPairs_13 (by decide) rfl rfl rfl ?_
    obtain ⟨r8, hr8, h⟩ := Option.bind_eq_some_iff.mp h
    refine zloop_rn (P := fun w : (Int32 × zM) => Rn E zX6_weighPairs 15 [some (.ref 27), some (.ref 60), some (.ref 44), some (.int x3), some (.int s.1), some (.int w.1), none, none, none] [] zSH w.2 rv zSH m') (X := fun w : (zM) => Rn E zX6_weighPairs 133 [some (.ref 27), some (.ref 60), some (.ref 44), some (.int x3), some (.int s.1), none, none, none, none] [] zSH w rv zSH m') (fun w w0 hb KI KX => rb_X6_weighPairs_15 x3 s.1 w _ _ w0 hb KI KX) zFU _ r8 hr8 ?_
    show Rn E zX6_weighPairs 133 [some (.ref 27), some (.ref 60), some (.ref 44), some (.int x3), some (.int s.1), none, none, none, none] [] zSH r8 rv zSH m'
    refine zi_iinc (q := 136) (v := s.1 + 1) (L' := [some (.ref 27), some (.ref 60), some (.ref 44), some (.int x3), some (.int (s.1 + 1)), none, none, none, none]) dX6_weighPairs_133 rfl (by rw [ki_1]) (by decide) rfl rfl rfl ?_
    refine zi_goto (q := 3) dX6_weighPairs_136 (by decide) ?_
    exact KI ((s.1 + 1), r8) (Option.some.inj h).symm
set_option maxRecDepth 20000 in
theorem r_X6_weighPairs {E : Nat × (Nat → Int32)} (x3 : Int32) (m : zM) (x : zM) (h : f_X6_weighPairs x3 m = some x) : zMet E zX6_weighPairs [.ref 27, .ref 60, .ref 44, .int x3] zSH m none zSH x := by
  refine zMet.of (L0 := [some (.ref 27), some (.ref 60), some (.ref 44), some (.int x3), none, none, none, none, none]) rfl trivial (Nat.le_of_ble_eq_true rfl) rfl ?_
  unfold f_X6_weighPairs at h
  refine zi_iconst (q := 1) dX6_weighPairs_0 ki_0 rfl ?_
  refine zi_istore (q := 3) (L' := [some (.ref 27), some (.ref 60), some (.ref 44), some (.int x3), some (.int 0), none, none, none, none]) dX6_weighPairs_1 (by decide) rfl rfl rfl ?_
  obtain ⟨r9, hr9, h⟩ := Option.bind_eq_some_iff.mp h
  refine zloop_rn (P := fun w : (Int32 × zM) => Rn E zX6_weighPairs 3 [some (.ref 27), some (.ref 60), some (.ref 44), some (.int x3), some (.int w.1), none, none, none, none] [] zSH w.2 none zSH x) (X := fun w : (zM) => Rn E zX6_weighPairs 139 [none, none, none, none, none, none, none, none, none] [] zSH w none zSH x) (fun w w0 hb KI KX => rb_X6_weighPairs_3 x3 w _ _ w0 hb KI KX) zFU _ r9 hr9 ?_
  show Rn E zX6_weighPairs 139 [none, none, none, none, none, none, none, none, none] [] zSH r9 none zSH x
  cases h
  exact zi_ret _ dX6_weighPairs_139
set_option maxRecDepth 20000 in
theorem r_X6_withSpot {E : Nat × (Nat → Int32)} (x0 : Int32) (x1 : Int32) (m : zM) (x : Int32) (h : f_X6_withSpot x0 x1 m = some x) : zMet E zX6_withSpot [.int x0, .int x1] zSH m (some (.int x)) zSH m := by
  refine zMet.of (L0 := [some (.int x0), some (.int x1)]) rfl rfl (Nat.le_of_ble_eq_true rfl) rfl ?_
  unfold f_X6_withSpot at h
  refine zi_iloadn (q := 1) dX6_withSpot_0 rfl rfl ?_
  refine zi_iconst (q := 2) dX6_withSpot_1 ki_m1 rfl ?_
  refine zi_icmpne (q := 9) (q2 := 5) dX6_withSpot_2 (by decide) rfl (fun hc => ?_) (fun hc => ?_)
  · replace h := (if_neg hc).symm.trans h
    refine zi_iloadn (q := 10) dX6_withSpot_9 rfl rfl ?_
    refine zi_iconst (q := 11) dX6_withSpot_10 ki_1 rfl ?_
    refine zi_iloadn (q := 12) dX6_withSpot_11 rfl rfl ?_
    refine zi_ishl2 (q := 13) dX6_withSpot_12 rfl ?_
    refine zi_ior (q := 14) dX6_withSpot_13 rfl ?_
    cases h
    exact zi_ret _ dX6_withSpot_14
  · replace h := (if_pos hc).symm.trans h
    refine zi_iloadn (q := 6) dX6_withSpot_5 rfl rfl ?_
    refine zi_goto (q := 14) dX6_withSpot_6 (by decide) ?_
    cases h
    exact zi_ret _ dX6_withSpot_14
set_option maxRecDepth 20000 in
theorem r_X6_worthOf {E : Nat × (Nat → Int32)} (x1 : Int32) (x2 : Int32) (x3 : Int32) (m : zM) (x : Int32) (h : f_X6_worthOf x1 x2 x3 m = some x) : zMet E zX6_worthOf [.ref 27, .int x1, .int x2, .int x3] zSH m (some (.int x)) zSH m := by
  refine zMet.of (L0 := [some (.ref 27), some (.int x1), some (.int x2), some (.int x3), none]) rfl rfl (Nat.le_of_ble_eq_true rfl) rfl ?_
  unfold f_X6_worthOf at h
  refine zi_aloadn (q := 1) dX6_worthOf_0 rfl rfl ?_
  refine zi_getA (q := 4) dX6_worthOf_1 fl_6_18 so_27 rfl rfl ?_
  refine zi_bipush (q := 6) dX6_worthOf_4 kb_64 rfl ?_
  refine zi_iloadn (q := 7) dX6_worthOf_6 rfl rfl ?_
  refine zi_iconst (q := 8) dX6_worthOf_7 ki_1 rfl ?_
  refine zi_iadd (q := 9) dX6_worthOf_8 rfl ?_
  refine zi_imul (q := 10) dX6_worthOf_9 rfl ?_
  refine zi_iloadn (q := 11) dX6_worthOf_10 rfl rfl ?_
  refine zi_iloadn (q := 12) dX6_worthOf_11 rfl rfl ?_
  obtain ⟨r1, hr1, h⟩ := Option.bind_eq_some_iff.mp h
  refine zc_S2 (q := 15) (st := [.int (64 * (x1 + 1)), .ref 30]) (S1 := [.int r1, .int (64 * (x1 + 1)), .ref 30]) (r_X6_withSpot x2 x3 _ r1 hr1) dX6_worthOf_12 cb_X6_withSpot k3_223 k3_224 ⟨by decide, by decide⟩ rfl (Nat.le_of_ble_eq_true rfl) (Or.inl rfl) rfl rfl ?_
  refine zi_iadd (q := 16) dX6_worthOf_15 rfl ?_
  obtain ⟨hz2, h⟩ := zg_some h
  refine zi_iald2 (q := 17) dX6_worthOf_16 so_30 (zin_vp hz2) rfl rfl ?_
  refine zi_istore (q := 19) (L' := [some (.ref 27), some (.int x1), some (.int x2), some (.int x3), some (.int (m.1 30 ((64 * (x1 + 1)) + r1).toNatClampNeg))]) dX6_worthOf_17 (by decide) rfl rfl rfl ?_
  refine zi_iloadn (q := 20) dX6_worthOf_19 rfl rfl ?_
  refine zi_iconst (q := 21) dX6_worthOf_20 ki_m1 rfl ?_
  refine zi_icmpne (q := 29) (q2 := 24) dX6_worthOf_21 (by decide) rfl (fun hc => ?_) (fun hc => ?_)
  · replace h := (if_neg hc).symm.trans h
    refine zi_aloadn (q := 30) dX6_worthOf_29 rfl rfl ?_
    refine zi_getA (q := 33) dX6_worthOf_30 fl_6_15 so_27 rfl rfl ?_
    refine zi_bipush (q := 35) dX6_worthOf_33 kb_6 rfl ?_
    refine zi_iloadn (q := 36) dX6_worthOf_35 rfl rfl ?_
    refine zi_imul (q := 37) dX6_worthOf_36 rfl ?_
    refine zi_iloadn (q := 38) dX6_worthOf_37 rfl rfl ?_
    refine zi_iadd (q := 39) dX6_worthOf_38 rfl ?_
    obtain ⟨hz3, h⟩ := zg_some h
    refine zi_iald2 (q := 40) dX6_worthOf_39 so_29 (zin_vp hz3) rfl rfl ?_
    refine zi_iload (q := 42) dX6_worthOf_40 rfl rfl ?_
    refine zi_iadd (q := 43) dX6_worthOf_42 rfl ?_
    cases h
    exact zi_ret _ dX6_worthOf_43
  · replace h := (if_pos hc).symm.trans h
    refine zi_iload (q := 26) dX6_worthOf_24 rfl rfl ?_
    refine zi_goto (q := 43) dX6_worthOf_26 (by decide) ?_
    cases h
    exact zi_ret _ dX6_worthOf_43
set_option maxRecDepth 20000 in
theorem rj_X6_bestSpot_78 {E : Nat × (Nat → Int32)} (x1 : Int32) (x2 : Int32) (x3 : Int32) (x4 : Int32) (x5 : Int32) (m : zM) (rv : Option Value) (m' : zM) (x : ((Int32 × Int32 × Int32) ⊕ (Int32 × Int32))) (h : j_X6_bestSpot_78 x1 x2 x3 x4 x5 m = some x) (KI : ∀ s1 : (Int32 × Int32 × Int32), x = .inl s1 → Rn E zX6_bestSpot 8 [some (.ref 27), some (.int x1), some (.int x2), some (.int s1.1), some (.int s1.2.1), some (.int s1.2.2), none, none] [] zSH m rv zSH m') : Rn E zX6_bestSpot 78 [some (.ref 27), some (.int x1), some (.int x2), some (.int x3), some (.int x4), some (.int x5), none, none] [] zSH m rv zSH m' := by
  unfold j_X6_bestSpot_78 at h
  refine zi_iinc (q := 81) (v := x5 + 1) (L' := [some (.ref 27), some (.int x1), some (.int x2), some (.int x3), some (.int x4), some (.int (x5 + 1)), none, none]) dX6_bestSpot_78 rfl (by rw [ki_1]) (by decide) rfl rfl rfl ?_
  refine zi_goto (q := 8) dX6_bestSpot_81 (by decide) ?_
  exact KI (x3, x4, (x5 + 1)) (Option.some.inj h).symm
set_option maxRecDepth 20000 in
theorem rj_X6_bestSpot_31 {E : Nat × (Nat → Int32)} (x1 : Int32) (x2 : Int32) (x3 : Int32) (x4 : Int32) (x5 : Int32) (s0 : Int32) (m : zM) (rv : Option Value) (m' : zM) (x : ((Int32 × Int32 × Int32) ⊕ (Int32 × Int32))) (h : j_X6_bestSpot_31 x1 x2 x3 x4 x5 s0 m = some x) (KI : ∀ s1 : (Int32 × Int32 × Int32), x = .inl s1 → Rn E zX6_bestSpot 8 [some (.ref 27), some (.int x1), some (.int x2), some (.int s1.1), some (.int s1.2.1), some (.int s1.2.2), none, none] [] zSH m rv zSH m') : Rn E zX6_bestSpot 31 [some (.ref 27), some (.int x1), some (.int x2), some (.int x3), some (.int x4), some (.int x5), none, none] [.int s0] zSH m rv zSH m' := by
  unfold j_X6_bestSpot_31 at h
  refine zi_istore (q := 33) (L' := [some (.ref 27), some (.int x1), some (.int x2), some (.int x3), some (.int x4), some (.int x5), some (.int s0), none]) dX6_bestSpot_31 (by decide) rfl rfl rfl ?_
  refine zi_iload (q := 35) dX6_bestSpot_33 rfl rfl ?_
  refine zi_ifeq (q := 78) (q2 := 38) dX6_bestSpot_35 (by decide) rfl (fun hc => ?_) (fun hc => ?_)
  · replace h := (if_pos hc).symm.trans h
    refine Rn.weakm [true, true, true, true, true, true, false, false] ?_
    exact rj_X6_bestSpot_78 x1 x2 x3 x4 x5 _ _ _ _ h KI
  · replace h := (if_neg hc).symm.trans h
    refine zi_aloadn (q := 39) dX6_bestSpot_38 rfl rfl ?_
    refine zi_getA (q := 42) dX6_bestSpot_39 fl_6_15 so_27 rfl rfl ?_
    refine zi_bipush (q := 44) dX6_bestSpot_42 kb_6 rfl ?_
    refine zi_iloadn (q := 45) dX6_bestSpot_44 rfl rfl ?_
    refine zi_imul (q := 46) dX6_bestSpot_45 rfl ?_
    refine zi_iload (q := 48) dX6_bestSpot_46 rfl rfl ?_
    refine zi_iadd (q := 49) dX6_bestSpot_48 rfl ?_
    obtain ⟨hz1, h⟩ := zg_some h
    refine zi_iald2 (q := 50) dX6_bestSpot_49 so_29 (zin_vp hz1) rfl rfl ?_
    refine zi_iconst (q := 51) dX6_bestSpot_50 ki_m1 rfl ?_
    refine zi_icmpeq (q := 78) (q2 := 54) dX6_bestSpot_51 (by decide) rfl (fun hc => ?_) (fun hc => ?_)
    · replace h := (if_pos hc).symm.trans h
      refine Rn.weakm [true, true, true, true, true, true, false, false] ?_
      exact rj_X6_bestSpot_78 x1 x2 x3 x4 x5 _ _ _ _ h KI
    · replace h := (if_neg hc).symm.trans h
      refine zi_aloadn (q := 55) dX6_bestSpot_54 rfl rfl ?_
      refine zi_iloadn (q := 56) dX6_bestSpot_55 rfl rfl ?_
      refine zi_iloadn (q := 57) dX6_bestSpot_56 rfl rfl ?_
      refine zi_iload (q := 59) dX6_bestSpot_57 rfl rfl ?_
      obtain ⟨r2, hr2, h⟩ := Option.bind_eq_some_iff.mp h
      refine zc_V2 (q := 62) (st := []) (S1 := [.int r2]) (r_X6_worthOf x1 x2 x5 _ r2 hr2) dX6_bestSpot_59 cb_X6_worthOf k3_219 k3_221 ks_X6_worthOf ⟨by decide, by decide⟩ so_27 rfl rfl rfl (Nat.le_of_ble_eq_true rfl) (Or.inl rfl) rfl rfl ?_
      refine zi_istore (q := 64) (L' := [some (.ref 27), some (.int x1), some (.int x2), some (.int x3), some (.int x4), some (.int x5), some (.int s0), some (.int r2)]) dX6_bestSpot_62 (by decide) rfl rfl rfl ?_
      refine zi_iload (q := 66) dX6_bestSpot_64 rfl rfl ?_
      refine zi_iload (q := 68) dX6_bestSpot_66 rfl rfl ?_
      refine zi_icmple (q := 78) (q2 := 71) dX6_bestSpot_68 (by decide) rfl (fun hc => ?_) (fun hc => ?_)
      · replace h := (if_pos hc).symm.trans h
        refine Rn.weakm [true, true, true, true, true, true, false, false] ?_
        exact rj_X6_bestSpot_78 x1 x2 x3 x4 x5 _ _ _ _ h KI
      · replace h := (if_neg hc).symm.trans h
        refine zi_iload (q := 73) dX6_bestSpot_71 rfl rfl ?_
        refine zi_istore (q := 75) (L' := [some (.ref 27), some (.int x1), some (.int x2), some (.int x3), some (.int r2), some (.int x5), some (.int s0), some (.int r2)]) dX6_bestSpot_73 (by decide) rfl rfl rfl ?_
        refine zi_iload (q := 77) dX6_bestSpot_75 rfl rfl ?_
        refine zi_istoren (q := 78) (L' := [some (.ref 27), some (.int x1), some (.int x2), some (.int x5), some (.int r2), some (.int x5), some (.int s0), some (.int r2)]) dX6_bestSpot_77 (by decide) rfl rfl rfl ?_
        refine Rn.weakm [true, true, true, true, true, true, false, false] ?_
        exact rj_X6_bestSpot_78 x1 x2 x5 r2 x5 _ _ _ _ h KI
set_option maxRecDepth 20000 in
theorem rb_X6_bestSpot_8 {E : Nat × (Nat → Int32)} (x1 : Int32) (x2 : Int32) (m : zM) (s : (Int32 × Int32 × Int32)) (rv : Option Value) (m' : zM) (x : ((Int32 × Int32 × Int32) ⊕ (Int32 × Int32))) (h : b_X6_bestSpot_8 x1 x2 m s = some x) (KI : ∀ s1 : (Int32 × Int32 × Int32), x = .inl s1 → Rn E zX6_bestSpot 8 [some (.ref 27), some (.int x1), some (.int x2), some (.int s1.1), some (.int s1.2.1), some (.int s1.2.2), none, none] [] zSH m rv zSH m') (KO : ∀ r1 : (Int32 × Int32), x = .inr r1 → Rn E zX6_bestSpot 84 [some (.ref 27), some (.int x1), some (.int x2), some (.int r1.1), some (.int r1.2), none, none, none] [] zSH m rv zSH m') : Rn E zX6_bestSpot 8 [some (.ref 27), some (.int x1), some (.int x2), some (.int s.1), some (.int s.2.1), some (.int s.2.2), none, none] [] zSH m rv zSH m' := by
  unfold b_X6_bestSpot_8 at h
  refine zi_iload (q := 10) dX6_bestSpot_8 rfl rfl ?_
  refine zi_aloadn (q := 11) dX6_bestSpot_10 rfl rfl ?_
  refine zi_getI (q := 14) dX6_bestSpot_11 fl_6_27 (by decide) so_27 rfl ?_
  refine zi_icmpge (q := 84) (q2 := 17) dX6_bestSpot_14 (by decide) rfl (fun hc => ?_) (fun hc => ?_)
  · replace h := (if_pos hc).symm.trans h
    refine Rn.weakm [true, true, true, true, true, false, false, false] ?_
    exact KO (s.1, s.2.1) (Option.some.inj h).symm
  · replace h := (if_neg hc).symm.trans h
    refine zi_iloadn (q := 18) dX6_bestSpot_17 rfl rfl ?_
    refine zi_iload (q := 20) dX6_bestSpot_18 rfl rfl ?_
    refine zi_ishr2 (q := 21) dX6_bestSpot_20 rfl ?_
    refine zi_iconst (q := 22) dX6_bestSpot_21 ki_1 rfl ?_
    refine zi_iand (q := 23) dX6_bestSpot_22 rfl ?_
    refine zi_ifne (q := 30) (q2 := 26) dX6_bestSpot_23 (by decide) rfl (fun hc => ?_) (fun hc => ?_)
    · replace h := (if_neg hc).symm.trans h
      refine zi_iconst (q := 31) dX6_bestSpot_30 ki_0 rfl ?_
      exact rj_X6_bestSpot_31 x1 x2 s.1 s.2.1 s.2.2 0 _ _ _ _ h KI
    · replace h := (if_pos hc).symm.trans h
      refine zi_iconst (q := 27) dX6_bestSpot_26 ki_1 rfl ?_
      refine zi_goto (q := 31) dX6_bestSpot_27 (by decide) ?_
      exact rj_X6_bestSpot_31 x1 x2 s.1 s.2.1 s.2.2 1 _ _ _ _ h KI
set_option maxRecDepth 20000 in
theorem r_X6_bestSpot {E : Nat × (Nat → Int32)} (x1 : Int32) (x2 : Int32) (m : zM) (x : Int32) (h : f_X6_bestSpot x1 x2 m = some x) : zMet E zX6_bestSpot [.ref 27, .int x1, .int x2] zSH m (some (.int x)) zSH m := by
  refine zMet.of (L0 := [some (.ref 27), some (.int x1), some (.int x2), none, none, none, none, none]) rfl rfl (Nat.le_of_ble_eq_true rfl) rfl ?_
  unfold f_X6_bestSpot at h
  refine zi_iconst (q := 1) dX6_bestSpot_0 ki_m1 rfl ?_
  refine zi_istoren (q := 2) (L' := [some (.ref 27), some (.int x1), some (.int x2), some (.int (-1)), none, none, none, none]) dX6_bestSpot_1 (by decide) rfl rfl rfl ?_
  refine zi_iconst (q := 3) dX6_bestSpot_2 ki_m1 rfl ?_
  refine zi_istore (q := 5) (L' := [some (.ref 27), some (.int x1), some (.int x2), some (.int (-1)), some (.int (-1)), none, none, none]) dX6_bestSpot_3 (by decide) rfl rfl rfl ?_
  refine zi_iconst (q := 6) dX6_bestSpot_5 ki_0 rfl ?_
  refine zi_istore (q := 8) (L' := [some (.ref 27), some (.int x1), some (.int x2), some (.int (-1)), some (.int (-1)), some (.int 0), none, none]) dX6_bestSpot_6 (by decide) rfl rfl rfl ?_
  obtain ⟨r3, hr3, h⟩ := Option.bind_eq_some_iff.mp h
  refine zloop_rn (P := fun w : (Int32 × Int32 × Int32) => Rn E zX6_bestSpot 8 [some (.ref 27), some (.int x1), some (.int x2), some (.int w.1), some (.int w.2.1), some (.int w.2.2), none, none] [] zSH m (some (.int x)) zSH m) (X := fun w : (Int32 × Int32) => Rn E zX6_bestSpot 84 [some (.ref 27), some (.int x1), some (.int x2), some (.int w.1), some (.int w.2), none, none, none] [] zSH m (some (.int x)) zSH m) (fun w w0 hb KI KX => rb_X6_bestSpot_8 x1 x2 m w _ _ w0 hb KI KX) zFU _ r3 hr3 ?_
  show Rn E zX6_bestSpot 84 [some (.ref 27), some (.int x1), some (.int x2), some (.int r3.1), some (.int r3.2), none, none, none] [] zSH m (some (.int x)) zSH m
  refine zi_aloadn (q := 85) dX6_bestSpot_84 rfl rfl ?_
  refine zi_iloadn (q := 86) dX6_bestSpot_85 rfl rfl ?_
  refine zi_iloadn (q := 87) dX6_bestSpot_86 rfl rfl ?_
  refine zi_iconst (q := 88) dX6_bestSpot_87 ki_m1 rfl ?_
  obtain ⟨r4, hr4, h⟩ := Option.bind_eq_some_iff.mp h
  refine zc_V2 (q := 91) (st := []) (S1 := [.int r4]) (r_X6_worthOf x1 x2 (-1) _ r4 hr4) dX6_bestSpot_88 cb_X6_worthOf k3_219 k3_221 ks_X6_worthOf ⟨by decide, by decide⟩ so_27 rfl rfl rfl (Nat.le_of_ble_eq_true rfl) (Or.inl rfl) rfl rfl ?_
  refine zi_iload (q := 93) dX6_bestSpot_91 rfl rfl ?_
  refine zi_icmple (q := 100) (q2 := 96) dX6_bestSpot_93 (by decide) rfl (fun hc => ?_) (fun hc => ?_)
  · replace h := (if_pos hc).symm.trans h
    refine zi_iloadn (q := 101) dX6_bestSpot_100 rfl rfl ?_
    cases h
    exact zi_ret _ dX6_bestSpot_101
  · replace h := (if_neg hc).symm.trans h
    refine zi_iconst (q := 97) dX6_bestSpot_96 ki_m1 rfl ?_
    refine zi_goto (q := 101) dX6_bestSpot_97 (by decide) ?_
    cases h
    exact zi_ret _ dX6_bestSpot_101
set_option maxRecDepth 20000 in
theorem rb_X6_solve_26 {E : Nat × (Nat → Int32)} (x4 : Int32)  (s : (Int32 × zM)) (rv : Option Value) (m' : zM) (x : ((Int32 × zM) ⊕ (zM))) (h : b_X6_solve_26 x4 s = some x) (KI : ∀ s1 : (Int32 × zM), x = .inl s1 → Rn E zX6_solve 26 [some (.ref 27), some (.ref 60), none, none, some (.int x4), some (.int s1.1), none, none] [] zSH s1.2 rv zSH m') (KO : ∀ r1 : (zM), x = .inr r1 → Rn E zX6_solve 55 [some (.ref 27), some (.ref 60), none, none, some (.int x4), none, none, none] [] zSH r1 rv zSH m') : Rn E zX6_solve 26 [some (.ref 27), some (.ref 60), none, none, some (.int x4), some (.int s.1), none, none] [] zSH s.2 rv zSH m' := by
  unfold b_X6_solve_26 at h
  refine zi_iload (q := 28) dX6_solve_26 rfl rfl ?_
  refine zi_iload (q := 30) dX6_solve_28 rfl rfl ?_
  refine zi_icmpge (q := 55) (q2 := 33) dX6_solve_30 (by decide) rfl (fun hc => ?_) (fun hc => ?_)
  · replace h := (if_pos hc).symm.trans h
    refine Rn.weakm [true, true, false, false, true, false, false, false] ?_
    exact KO s.2 (Option.some.inj h).symm
  · replace h := (if_neg hc).symm.trans h
    refine zi_aloadn (q := 34) dX6_solve_33 rfl rfl ?_
    refine zi_getA (q := 37) dX6_solve_34 fl_6_18 so_27 rfl rfl ?_
    refine zi_bipush (q := 39) dX6_solve_37 kb_64 rfl ?_
    refine zi_aloadn (q := 40) dX6_solve_39 rfl rfl ?_
    refine zi_getI (q := 43) dX6_solve_40 fl_6_34 (by decide) so_60 rfl ?_
    refine zi_imul (q := 44) dX6_solve_43 rfl ?_
    refine zi_iload (q := 46) dX6_solve_44 rfl rfl ?_
    refine zi_iadd (q := 47) dX6_solve_46 rfl ?_
    refine zi_iconst (q := 48) dX6_solve_47 ki_0 rfl ?_
    obtain ⟨hz2, h⟩ := zg_some h
    refine zi_iast2 (q := 49) dX6_solve_48 so_30 (zin_vp hz2) rfl rfl ?_
    refine zi_iinc (q := 52) (v := s.1 + 1) (L' := [some (.ref 27), some (.ref 60), none, none, some (.int x4), some (.int (s.1 + 1)), none, none]) dX6_solve_49 rfl (by rw [ki_1]) (by decide) rfl rfl rfl ?_
    refine zi_goto (q := 26) dX6_solve_52 (by decide) ?_
    exact KI ((s.1 + 1), (zi s.2 30 (((64 * (s.2.1 60 1)) + s.1).toNatClampNeg) 0)) (Option.some.inj h).symm
set_option maxRecDepth 20000 in
theorem rb_X6_solve_71 {E : Nat × (Nat → Int32)} (x4 : Int32) (x5 : Int32)  (s : (Int32 × zM)) (rv : Option Value) (m' : zM) (x : ((Int32 × zM) ⊕ (zM))) (h : b_X6_solve_71 x4 x5 s = some x) (KI : ∀ s1 : (Int32 × zM), x = .inl s1 → Rn E zX6_solve 71 [some (.ref 27), some (.ref 60), none, none, some (.int x4), some (.int x5), some (.int s1.1), none] [] zSH s1.2 rv zSH m') (KO : ∀ r1 : (zM), x = .inr r1 → Rn E zX6_solve 113 [some (.ref 27), some (.ref 60), none, none, some (.int x4), some (.int x5), none, none] [] zSH r1 rv zSH m') : Rn E zX6_solve 71 [some (.ref 27), some (.ref 60), none, none, some (.int x4), some (.int x5), some (.int s.1), none] [] zSH s.2 rv zSH m' := by
  unfold b_X6_solve_71 at h
  refine zi_iload (q := 73) dX6_solve_71 rfl rfl ?_
  refine zi_iload (q := 75) dX6_solve_73 rfl rfl ?_
  refine zi_icmpge (q := 113) (q2 := 78) dX6_solve_75 (by decide) rfl (fun hc => ?_) (fun hc => ?_)
  · replace h := (if_pos hc).symm.trans h
    refine Rn.weakm [true, true, false, false, true, true, false, false] ?_
    exact KO s.2 (Option.some.inj h).symm
  · replace h := (if_neg hc).symm.trans h
    refine zi_aloadn (q := 79) dX6_solve_78 rfl rfl ?_
    refine zi_getA (q := 82) dX6_solve_79 fl_6_18 so_27 rfl rfl ?_
    refine zi_bipush (q := 84) dX6_solve_82 kb_64 rfl ?_
    refine zi_iload (q := 86) dX6_solve_84 rfl rfl ?_
    refine zi_imul (q := 87) dX6_solve_86 rfl ?_
    refine zi_iload (q := 89) dX6_solve_87 rfl rfl ?_
    refine zi_iadd (q := 90) dX6_solve_89 rfl ?_
    refine zi_aloadn (q := 91) dX6_solve_90 rfl rfl ?_
    refine zi_iload (q := 93) dX6_solve_91 rfl rfl ?_
    refine zi_iload (q := 95) dX6_solve_93 rfl rfl ?_
    refine zi_aloadn (q := 96) dX6_solve_95 rfl rfl ?_
    refine zi_iload (q := 98) dX6_solve_96 rfl rfl ?_
    refine zi_iload (q := 100) dX6_solve_98 rfl rfl ?_
    obtain ⟨r4, hr4, h⟩ := Option.bind_eq_some_iff.mp h
    refine zc_V2 (q := 103) (st := [.int s.1, .int x5, .ref 27, .int ((64 * x5) + s.1), .ref 30]) (S1 := [.int r4, .int s.1, .int x5, .ref 27, .int ((64 * x5) + s.1), .ref 30]) (r_X6_bestSpot x5 s.1 _ r4 hr4) dX6_solve_100 cb_X6_bestSpot k3_215 k3_217 ks_X6_bestSpot ⟨by decide, by decide⟩ so_27 rfl rfl rfl (Nat.le_of_ble_eq_true rfl) (Or.inl rfl) rfl rfl ?_
    obtain ⟨r5, hr5, h⟩ := Option.bind_eq_some_iff.mp h
    refine zc_V2 (q := 106) (st := [.int ((64 * x5) + s.1), .ref 30]) (S1 := [.int r5, .int ((64 * x5) + s.1), .ref 30]) (r_X6_worthOf x5 s.1 r4 _ r5 hr5) dX6_solve_103 cb_X6_worthOf k3_219 k3_221 ks_X6_worthOf ⟨by decide, by decide⟩ so_27 rfl rfl rfl (Nat.le_of_ble_eq_true rfl) (Or.inl rfl) rfl rfl ?_
    obtain ⟨hz6, h⟩ := zg_some h
    refine zi_iast2 (q := 107) dX6_solve_106 so_30 (zin_vp hz6) rfl rfl ?_
    refine zi_iinc (q := 110) (v := s.1 + 1) (L' := [some (.ref 27), some (.ref 60), none, none, some (.int x4), some (.int x5), some (.int (s.1 + 1)), none]) dX6_solve_107 rfl (by rw [ki_1]) (by decide) rfl rfl rfl ?_
    refine zi_goto (q := 71) dX6_solve_110 (by decide) ?_
    exact KI ((s.1 + 1), (zi s.2 30 (((64 * x5) + s.1).toNatClampNeg) r5)) (Option.some.inj h).symm
set_option maxRecDepth 20000 in
theorem rb_X6_solve_63 {E : Nat × (Nat → Int32)} (x4 : Int32)  (s : (Int32 × zM)) (rv : Option Value) (m' : zM) (x : ((Int32 × zM) ⊕ (zM))) (h : b_X6_solve_63 x4 s = some x) (KI : ∀ s1 : (Int32 × zM), x = .inl s1 → Rn E zX6_solve 63 [some (.ref 27), some (.ref 60), none, none, some (.int x4), some (.int s1.1), none, none] [] zSH s1.2 rv zSH m') (KO : ∀ r1 : (zM), x = .inr r1 → Rn E zX6_solve 119 [some (.ref 27), some (.ref 60), none, none, none, none, none, none] [] zSH r1 rv zSH m') : Rn E zX6_solve 63 [some (.ref 27), some (.ref 60), none, none, some (.int x4), some (.int s.1), none, none] [] zSH s.2 rv zSH m' := by
  unfold b_X6_solve_63 at h
  refine zi_iload (q := 65) dX6_solve_63 rfl rfl ?_
  refine zi_iflt (q := 119) (q2 := 68) dX6_solve_65 (by decide) rfl (fun hc => ?_) (fun hc => ?_)
  · replace h := (if_pos hc).symm.trans h
    refine Rn.weakm [true, true, false, false, false, false, false, false] ?_
    exact KO s.2 (Option.some.inj h).symm
  · replace h := (if_neg hc).symm.trans h
    refine zi_iconst (q := 69) dX6_solve_68 ki_0 rfl ?_
    refine zi_istore (q := 71) (L' := [some (.ref 27), some (.ref 60), none, none, some (.int x4), some (.int s.1), some (.int 0), none]) dX6_solve_69 (by decide) rfl rfl rfl ?_
    obtain ⟨r7, hr7, h⟩ := Option.bind_eq_some_iff.mp h
    refine zloop_rn (P := fun w : (Int32 × zM) => Rn E zX6_solve 71 [some (.ref 27), some (.ref 60), none, none, some (.int x4), some (.int s.1), some (.int w.1), none] [] zSH w.2 rv zSH m') (X := fun w : (zM) => Rn E zX6_solve 113 [some (.ref 27), some (.ref 60), none, none, some (.int x4), some (.int s.1), none, none] [] zSH w rv zSH m') (fun w w0 hb KI KX => rb_X6_solve_71 x4 s.1 w _ _ w0 hb KI KX) zFU _ r7 hr7 ?_
    show Rn E zX6_solve 113 [some (.ref 27), some (.ref 60), none, none, some (.int x4), some (.int s.1), none, none] [] zSH r7 rv zSH m'
    refine zi_iinc (q := 116) (v := s.1 + (-1)) (L' := [some (.ref 27), some (.ref 60), none, none, some (.int x4), some (.int (s.1 + (-1))), none, none]) dX6_solve_113 rfl (by rw [ki_m1]) (by decide) rfl rfl rfl ?_
    refine zi_goto (q := 63) dX6_solve_116 (by decide) ?_
    exact KI ((s.1 + (-1)), r7) (Option.some.inj h).symm
set_option maxRecDepth 20000 in
theorem rb_X6_solve_125 {E : Nat × (Nat → Int32)}   (s : (Int32 × Int32 × zM)) (rv : Option Value) (m' : zM) (x : ((Int32 × Int32 × zM) ⊕ (zM))) (h : b_X6_solve_125  s = some x) (KI : ∀ s1 : (Int32 × Int32 × zM), x = .inl s1 → Rn E zX6_solve 125 [some (.ref 27), some (.ref 60), none, none, none, some (.int s1.1), some (.int s1.2.1), none] [] zSH s1.2.2 rv zSH m') (KO : ∀ r1 : (zM), x = .inr r1 → Rn E zX6_solve 168 [none, none, none, none, none, none, none, none] [] zSH r1 rv zSH m') : Rn E zX6_solve 125 [some (.ref 27), some (.ref 60), none, none, none, some (.int s.1), some (.int s.2.1), none] [] zSH s.2.2 rv zSH m' := by
  unfold b_X6_solve_125 at h
  refine zi_iload (q := 127) dX6_solve_125 rfl rfl ?_
  refine zi_aloadn (q := 128) dX6_solve_127 rfl rfl ?_
  refine zi_getI (q := 131) dX6_solve_128 fl_6_34 (by decide) so_60 rfl ?_
  refine zi_icmpge (q := 168) (q2 := 134) dX6_solve_131 (by decide) rfl (fun hc => ?_) (fun hc => ?_)
  · replace h := (if_pos hc).symm.trans h
    refine Rn.weakm [false, false, false, false, false, false, false, false] ?_
    exact KO s.2.2 (Option.some.inj h).symm
  · replace h := (if_neg hc).symm.trans h
    refine zi_aloadn (q := 135) dX6_solve_134 rfl rfl ?_
    refine zi_iload (q := 137) dX6_solve_135 rfl rfl ?_
    refine zi_iload (q := 139) dX6_solve_137 rfl rfl ?_
    obtain ⟨r9, hr9, h⟩ := Option.bind_eq_some_iff.mp h
    refine zc_V2 (q := 142) (st := []) (S1 := [.int r9]) (r_X6_bestSpot s.2.1 s.1 _ r9 hr9) dX6_solve_139 cb_X6_bestSpot k3_215 k3_217 ks_X6_bestSpot ⟨by decide, by decide⟩ so_27 rfl rfl rfl (Nat.le_of_ble_eq_true rfl) (Or.inl rfl) rfl rfl ?_
    refine zi_istore (q := 144) (L' := [some (.ref 27), some (.ref 60), none, none, none, some (.int s.1), some (.int s.2.1), some (.int r9)]) dX6_solve_142 (by decide) rfl rfl rfl ?_
    refine zi_aloadn (q := 145) dX6_solve_144 rfl rfl ?_
    refine zi_getA (q := 148) dX6_solve_145 fl_6_9 so_27 rfl rfl ?_
    refine zi_iload (q := 150) dX6_solve_148 rfl rfl ?_
    refine zi_iload (q := 152) dX6_solve_150 rfl rfl ?_
    obtain ⟨hz10, h⟩ := zg_some h
    refine zi_iast2 (q := 153) dX6_solve_152 so_28 (zin_vp hz10) rfl rfl ?_
    refine zi_iload (q := 155) dX6_solve_153 rfl rfl ?_
    refine zi_iload (q := 157) dX6_solve_155 rfl rfl ?_
    obtain ⟨r11, hr11, h⟩ := Option.bind_eq_some_iff.mp h
    refine zc_S2 (q := 160) (st := []) (S1 := [.int r11]) (r_X6_withSpot s.1 r9 _ r11 hr11) dX6_solve_157 cb_X6_withSpot k3_223 k3_224 ⟨by decide, by decide⟩ rfl (Nat.le_of_ble_eq_true rfl) (Or.inl rfl) rfl rfl ?_
    refine zi_istore (q := 162) (L' := [some (.ref 27), some (.ref 60), none, none, none, some (.int r11), some (.int s.2.1), some (.int r9)]) dX6_solve_160 (by decide) rfl rfl rfl ?_
    refine zi_iinc (q := 165) (v := s.2.1 + 1) (L' := [some (.ref 27), some (.ref 60), none, none, none, some (.int r11), some (.int (s.2.1 + 1)), some (.int r9)]) dX6_solve_162 rfl (by rw [ki_1]) (by decide) rfl rfl rfl ?_
    refine zi_goto (q := 125) dX6_solve_165 (by decide) ?_
    refine Rn.weakm [true, true, false, false, false, true, true, false] ?_
    exact KI (r11, (s.2.1 + 1), (zi s.2.2 28 s.2.1.toNatClampNeg r9)) (Option.some.inj h).symm
set_option maxRecDepth 20000 in
theorem r_X6_solve {E : Nat × (Nat → Int32)} (x3 : Int32) (m : zM) (x : zM) (h : f_X6_solve x3 m = some x) : zMet E zX6_solve [.ref 27, .ref 60, .ref 44, .int x3] zSH m none zSH x := by
  refine zMet.of (L0 := [some (.ref 27), some (.ref 60), some (.ref 44), some (.int x3), none, none, none, none]) rfl trivial (Nat.le_of_ble_eq_true rfl) rfl ?_
  unfold f_X6_solve at h
  refine zi_aloadn (q := 1) dX6_solve_0 rfl rfl ?_
  refine zi_aloadn (q := 2) dX6_solve_1 rfl rfl ?_
  refine zi_getI (q := 5) dX6_solve_2 fl_6_21 (by decide) so_44 rfl ?_
  refine zi_putI (q := 8) dX6_solve_5 pl_6_27 so_27 rfl ?_
  refine zi_aloadn (q := 9) dX6_solve_8 rfl rfl ?_
  refine zi_aloadn (q := 10) dX6_solve_9 rfl rfl ?_
  refine zi_aloadn (q := 11) dX6_solve_10 rfl rfl ?_
  refine zi_iloadn (q := 12) dX6_solve_11 rfl rfl ?_
  obtain ⟨m1, hm1, h⟩ := Option.bind_eq_some_iff.mp h
  refine zc_V2 (q := 15) (st := []) (S1 := []) (r_X6_weighPairs x3 _ m1 hm1) dX6_solve_12 cb_X6_weighPairs k3_207 k3_209 ks_X6_weighPairs ⟨by decide, by decide⟩ so_27 rfl rfl rfl (Nat.le_of_ble_eq_true rfl) (Or.inl rfl) rfl rfl ?_
  refine zi_iconst (q := 16) dX6_solve_15 ki_1 rfl ?_
  refine zi_aloadn (q := 17) dX6_solve_16 rfl rfl ?_
  refine zi_getI (q := 20) dX6_solve_17 fl_6_27 (by decide) so_27 rfl ?_
  refine zi_ishl2 (q := 21) dX6_solve_20 rfl ?_
  refine zi_istore (q := 23) (L' := [some (.ref 27), some (.ref 60), some (.ref 44), some (.int x3), some (.int (zshl 1 (m1.1 27 3))), none, none, none]) dX6_solve_21 (by decide) rfl rfl rfl ?_
  refine zi_iconst (q := 24) dX6_solve_23 ki_0 rfl ?_
  refine zi_istore (q := 26) (L' := [some (.ref 27), some (.ref 60), some (.ref 44), some (.int x3), some (.int (zshl 1 (m1.1 27 3))), some (.int 0), none, none]) dX6_solve_24 (by decide) rfl rfl rfl ?_
  obtain ⟨r3, hr3, h⟩ := Option.bind_eq_some_iff.mp h
  refine Rn.weakm [true, true, false, false, true, true, false, false] ?_
  refine zloop_rn (P := fun w : (Int32 × zM) => Rn E zX6_solve 26 [some (.ref 27), some (.ref 60), none, none, some (.int (zshl 1 (m1.1 27 3))), some (.int w.1), none, none] [] zSH w.2 none zSH x) (X := fun w : (zM) => Rn E zX6_solve 55 [some (.ref 27), some (.ref 60), none, none, some (.int (zshl 1 (m1.1 27 3))), none, none, none] [] zSH w none zSH x) (fun w w0 hb KI KX => rb_X6_solve_26 (zshl 1 (m1.1 27 3)) w _ _ w0 hb KI KX) zFU _ r3 hr3 ?_
  show Rn E zX6_solve 55 [some (.ref 27), some (.ref 60), none, none, some (.int (zshl 1 (m1.1 27 3))), none, none, none] [] zSH r3 none zSH x
  refine zi_aloadn (q := 56) dX6_solve_55 rfl rfl ?_
  refine zi_getI (q := 59) dX6_solve_56 fl_6_34 (by decide) so_60 rfl ?_
  refine zi_iconst (q := 60) dX6_solve_59 ki_1 rfl ?_
  refine zi_isub (q := 61) dX6_solve_60 rfl ?_
  refine zi_istore (q := 63) (L' := [some (.ref 27), some (.ref 60), none, none, some (.int (zshl 1 (m1.1 27 3))), some (.int ((r3.1 60 1) - 1)), none, none]) dX6_solve_61 (by decide) rfl rfl rfl ?_
  obtain ⟨r8, hr8, h⟩ := Option.bind_eq_some_iff.mp h
  refine zloop_rn (P := fun w : (Int32 × zM) => Rn E zX6_solve 63 [some (.ref 27), some (.ref 60), none, none, some (.int (zshl 1 (m1.1 27 3))), some (.int w.1), none, none] [] zSH w.2 none zSH x) (X := fun w : (zM) => Rn E zX6_solve 119 [some (.ref 27), some (.ref 60), none, none, none, none, none, none] [] zSH w none zSH x) (fun w w0 hb KI KX => rb_X6_solve_63 (zshl 1 (m1.1 27 3)) w _ _ w0 hb KI KX) zFU _ r8 hr8 ?_
  show Rn E zX6_solve 119 [some (.ref 27), some (.ref 60), none, none, none, none, none, none] [] zSH r8 none zSH x
  refine zi_iconst (q := 120) dX6_solve_119 ki_0 rfl ?_
  refine zi_istore (q := 122) (L' := [some (.ref 27), some (.ref 60), none, none, none, some (.int 0), none, none]) dX6_solve_120 (by decide) rfl rfl rfl ?_
  refine zi_iconst (q := 123) dX6_solve_122 ki_0 rfl ?_
  refine zi_istore (q := 125) (L' := [some (.ref 27), some (.ref 60), none, none, none, some (.int 0), some (.int 0), none]) dX6_solve_123 (by decide) rfl rfl rfl ?_
  obtain ⟨r12, hr12, h⟩ := Option.bind_eq_some_iff.mp h
  refine zloop_rn (P := fun w : (Int32 × Int32 × zM) => Rn E zX6_solve 125 [some (.ref 27), some (.ref 60), none, none, none, some (.int w.1), some (.int w.2.1), none] [] zSH w.2.2 none zSH x) (X := fun w : (zM) => Rn E zX6_solve 168 [none, none, none, none, none, none, none, none] [] zSH w none zSH x) (fun w w0 hb KI KX => rb_X6_solve_125  w _ _ w0 hb KI KX) zFU _ r12 hr12 ?_
  show Rn E zX6_solve 168 [none, none, none, none, none, none, none, none] [] zSH r12 none zSH x
  cases h
  exact zi_ret _ dX6_solve_168
set_option maxRecDepth 20000 in
theorem r_X10_takeOver {E : Nat × (Nat → Int32)} (x1 : Nat) (x2 : Nat) (m : zM) (x : zM) (h : f_X10_takeOver x1 x2 m = some x) : zMet E zX10_takeOver [.ref 60, .ref (62 + x1 % 6), .ref (46 + x2 % 6)] zSH m none zSH x := by
  refine zMet.of (L0 := [some (.ref 60), some (.ref (62 + x1 % 6)), some (.ref (46 + x2 % 6))]) rfl trivial (Nat.le_of_ble_eq_true rfl) rfl ?_
  unfold f_X10_takeOver at h
  refine zi_aloadn (q := 1) dX10_takeOver_0 rfl rfl ?_
  refine zi_iconst (q := 2) dX10_takeOver_1 ki_1 rfl ?_
  refine zi_aloadn (q := 3) dX10_takeOver_2 rfl rfl ?_
  refine zi_iconst (q := 4) dX10_takeOver_3 ki_3 rfl ?_
  refine zi_iald2 (q := 5) dX10_takeOver_4 (sr_45 _) vi_3_6 ix_3 rfl ?_
  refine zi_iast2 (q := 6) dX10_takeOver_5 (sr_61 _) vi_1_9 ix_1 rfl ?_
  refine zi_aloadn (q := 7) dX10_takeOver_6 rfl rfl ?_
  refine zi_iconst (q := 8) dX10_takeOver_7 ki_2 rfl ?_
  refine zi_aloadn (q := 9) dX10_takeOver_8 rfl rfl ?_
  refine zi_iconst (q := 10) dX10_takeOver_9 ki_4 rfl ?_
  refine zi_iald2 (q := 11) dX10_takeOver_10 (sr_45 _) vi_4_6 ix_4 rfl ?_
  refine zi_iast2 (q := 12) dX10_takeOver_11 (sr_61 _) vi_2_9 ix_2 rfl ?_
  refine zi_aloadn (q := 13) dX10_takeOver_12 rfl rfl ?_
  refine zi_iconst (q := 14) dX10_takeOver_13 ki_3 rfl ?_
  refine zi_aloadn (q := 15) dX10_takeOver_14 rfl rfl ?_
  refine zi_iconst (q := 16) dX10_takeOver_15 ki_1 rfl ?_
  refine zi_iald2 (q := 17) dX10_takeOver_16 (sr_45 _) vi_1_6 ix_1 rfl ?_
  refine zi_iast2 (q := 18) dX10_takeOver_17 (sr_61 _) vi_3_9 ix_3 rfl ?_
  refine zi_aloadn (q := 19) dX10_takeOver_18 rfl rfl ?_
  refine zi_iconst (q := 20) dX10_takeOver_19 ki_4 rfl ?_
  refine zi_aloadn (q := 21) dX10_takeOver_20 rfl rfl ?_
  refine zi_iconst (q := 22) dX10_takeOver_21 ki_2 rfl ?_
  refine zi_iald2 (q := 23) dX10_takeOver_22 (sr_45 _) vi_2_6 ix_2 rfl ?_
  refine zi_iast2 (q := 24) dX10_takeOver_23 (sr_61 _) vi_4_9 ix_4 rfl ?_
  refine zi_aloadn (q := 25) dX10_takeOver_24 rfl rfl ?_
  refine zi_iconst (q := 26) dX10_takeOver_25 ki_5 rfl ?_
  refine zi_aloadn (q := 27) dX10_takeOver_26 rfl rfl ?_
  refine zi_iconst (q := 28) dX10_takeOver_27 ki_0 rfl ?_
  refine zi_iald2 (q := 29) dX10_takeOver_28 (sr_61 _) vi_0_9 ix_0 rfl ?_
  refine zi_iast2 (q := 30) dX10_takeOver_29 (sr_45 _) vi_5_6 ix_5 rfl ?_
  cases h
  exact zi_ret _ dX10_takeOver_30
set_option maxRecDepth 20000 in
theorem r_X4_write {E : Nat × (Nat → Int32)} (x1 : Int32) (x2 : Int32) (x3 : Int32) (m : zM) (x : zM) (h : f_X4_write x1 x2 x3 m = some x) : zMet E zX4_write [.ref 8, .int x1, .int x2, .int x3] zSH m none zSH x := by
  refine zMet.of (L0 := [some (.ref 8), some (.int x1), some (.int x2), some (.int x3), none]) rfl trivial (Nat.le_of_ble_eq_true rfl) rfl ?_
  unfold f_X4_write at h
  refine zi_aloadn (q := 1) dX4_write_0 rfl rfl ?_
  refine zi_getI (q := 4) dX4_write_1 fl_4_24 (by decide) so_8 rfl ?_
  refine zi_bipush (q := 6) dX4_write_4 kb_12 rfl ?_
  refine zi_irem2 (q := 7) dX4_write_6 nz_12 rfl ?_
  refine zi_istore (q := 9) (L' := [some (.ref 8), some (.int x1), some (.int x2), some (.int x3), some (.int (zrem (m.1 8 4) 12))]) dX4_write_7 (by decide) rfl rfl rfl ?_
  refine zi_iload (q := 11) dX4_write_9 rfl rfl ?_
  refine zi_iflt (q := 67) (q2 := 14) dX4_write_11 (by decide) rfl (fun hc => ?_) (fun hc => ?_)
  · replace h := (if_pos hc).symm.trans h
    cases h
    exact zi_ret _ dX4_write_67
  · replace h := (if_neg hc).symm.trans h
    refine zi_iloadn (q := 15) dX4_write_14 rfl rfl ?_
    refine zi_iconst (q := 16) dX4_write_15 ki_1 rfl ?_
    refine zi_iconst (q := 17) dX4_write_16 ki_4 rfl ?_
    obtain ⟨r1, hr1, h⟩ := Option.bind_eq_some_iff.mp h
    refine zc_SN2 (q := 20) (st := []) (S1 := [.int (bi r1)]) (r_X11_within x1 1 4 _ r1 hr1) dX4_write_17 cb_X11_within zn_4_28 k2_175 ⟨by decide, by decide⟩ rfl (Nat.le_of_ble_eq_true rfl) (Or.inl rfl) rfl rfl ?_
    refine zi_ifeq (q := 67) (q2 := 23) dX4_write_20 (by decide) rfl (fun hc => ?_) (fun hc => ?_)
    · replace h := (if_pos hc).symm.trans h
      cases h
      exact zi_ret _ dX4_write_67
    · replace h := (if_neg hc).symm.trans h
      refine zi_aloadn (q := 24) dX4_write_23 rfl rfl ?_
      refine zi_getA (q := 27) dX4_write_24 fl_4_9 so_8 rfl rfl ?_
      refine zi_iload (q := 29) dX4_write_27 rfl rfl ?_
      refine zi_iloadn (q := 30) dX4_write_29 rfl rfl ?_
      obtain ⟨hz2, h⟩ := zg_some h
      refine zi_iast2 (q := 31) dX4_write_30 so_9 (zin_vp hz2) rfl rfl ?_
      refine zi_aloadn (q := 32) dX4_write_31 rfl rfl ?_
      refine zi_getA (q := 35) dX4_write_32 fl_4_15 so_8 rfl rfl ?_
      refine zi_iload (q := 37) dX4_write_35 rfl rfl ?_
      refine zi_iloadn (q := 38) dX4_write_37 rfl rfl ?_
      obtain ⟨hz3, h⟩ := zg_some h
      refine zi_iast2 (q := 39) dX4_write_38 so_10 (zin_vp hz3) rfl rfl ?_
      refine zi_aloadn (q := 40) dX4_write_39 rfl rfl ?_
      refine zi_getA (q := 43) dX4_write_40 fl_4_18 so_8 rfl rfl ?_
      refine zi_iload (q := 45) dX4_write_43 rfl rfl ?_
      refine zi_iloadn (q := 46) dX4_write_45 rfl rfl ?_
      obtain ⟨hz4, h⟩ := zg_some h
      refine zi_iast2 (q := 47) dX4_write_46 so_11 (zin_vp hz4) rfl rfl ?_
      refine zi_aloadn (q := 48) dX4_write_47 rfl rfl ?_
      refine zi_getA (q := 51) dX4_write_48 fl_4_21 so_8 rfl rfl ?_
      refine zi_iloadn (q := 52) dX4_write_51 rfl rfl ?_
      refine zi_dup2 (q := 53) dX4_write_52 rfl rfl rfl ?_
      obtain ⟨hz5, h⟩ := zg_some h
      refine zi_iald2 (q := 54) dX4_write_53 so_12 (zin_vp hz5) rfl rfl ?_
      refine zi_iconst (q := 55) dX4_write_54 ki_1 rfl ?_
      refine zi_iadd (q := 56) dX4_write_55 rfl ?_
      obtain ⟨hz6, h⟩ := zg_some h
      refine zi_iast2 (q := 57) dX4_write_56 so_12 (zin_vp hz6) rfl rfl ?_
      refine zi_aloadn (q := 58) dX4_write_57 rfl rfl ?_
      refine zi_dup (q := 59) dX4_write_58 rfl rfl ?_
      refine zi_getI (q := 62) dX4_write_59 fl_4_24 (by decide) so_8 rfl ?_
      refine zi_iconst (q := 63) dX4_write_62 ki_1 rfl ?_
      refine zi_iadd (q := 64) dX4_write_63 rfl ?_
      refine zi_putI (q := 67) dX4_write_64 pl_4_24 so_8 rfl ?_
      cases h
      exact zi_ret _ dX4_write_67
set_option maxRecDepth 20000 in
theorem r_X10_isPalm {E : Nat × (Nat → Int32)} (x1 : Nat) (m : zM) (x : Bool) (h : f_X10_isPalm x1 m = some x) : zMet E zX10_isPalm [.ref 60, .ref (46 + x1 % 6)] zSH m (some (.int (bi x))) zSH m := by
  refine zMet.of (L0 := [some (.ref 60), some (.ref (46 + x1 % 6))]) rfl (zfit_bi _) (Nat.le_of_ble_eq_true rfl) rfl ?_
  unfold f_X10_isPalm at h
  refine zi_aloadn (q := 1) dX10_isPalm_0 rfl rfl ?_
  refine zi_iconst (q := 2) dX10_isPalm_1 ki_1 rfl ?_
  refine zi_iald2 (q := 3) dX10_isPalm_2 (sr_45 _) vi_1_6 ix_1 rfl ?_
  refine zi_aloadn (q := 4) dX10_isPalm_3 rfl rfl ?_
  refine zi_getA (q := 7) dX10_isPalm_4 fl_10_16 so_60 rfl rfl ?_
  refine zi_iconst (q := 8) dX10_isPalm_7 ki_3 rfl ?_
  refine zi_iald2 (q := 9) dX10_isPalm_8 so_26 vi_3_9 ix_3 rfl ?_
  refine zi_icmplt (q := 16) (q2 := 12) dX10_isPalm_9 (by decide) rfl (fun hc => ?_) (fun hc => ?_)
  · replace h := (if_pos hc).symm.trans h
    refine zi_iconst (q := 17) dX10_isPalm_16 ki_0 rfl ?_
    cases h
    exact zi_ret _ dX10_isPalm_17
  · replace h := (if_neg hc).symm.trans h
    refine zi_iconst (q := 13) dX10_isPalm_12 ki_1 rfl ?_
    refine zi_goto (q := 17) dX10_isPalm_13 (by decide) ?_
    cases h
    exact zi_ret _ dX10_isPalm_17
set_option maxRecDepth 20000 in
theorem rj_X10_move_85 {E : Nat × (Nat → Int32)} (x1 : Nat) (x3 : Int32) (m : zM)  (x : zM) (h : j_X10_move_85 x1 x3 m = some x) : Rn E zX10_move 85 [some (.ref 60), some (.ref (62 + x1 % 6)), none, some (.int x3)] [] zSH m none zSH x := by
  unfold j_X10_move_85 at h
  refine zi_aloadn (q := 86) dX10_move_85 rfl rfl ?_
  refine zi_iconst (q := 87) dX10_move_86 ki_5 rfl ?_
  refine zi_iald2 (q := 88) dX10_move_87 (sr_61 _) vi_5_9 ix_5 rfl ?_
  refine zi_iconst (q := 89) dX10_move_88 ki_2 rfl ?_
  refine zi_icmpne (q := 111) (q2 := 92) dX10_move_89 (by decide) rfl (fun hc => ?_) (fun hc => ?_)
  · replace h := (if_neg hc).symm.trans h
    cases h
    exact zi_ret _ dX10_move_111
  · replace h := (if_pos hc).symm.trans h
    refine zi_aloadn (q := 93) dX10_move_92 rfl rfl ?_
    refine zi_bipush (q := 95) dX10_move_93 kb_8 rfl ?_
    refine zi_iald2 (q := 96) dX10_move_95 (sr_61 _) vi_8_9 ix_8 rfl ?_
    refine zi_ifne (q := 111) (q2 := 99) dX10_move_96 (by decide) rfl (fun hc => ?_) (fun hc => ?_)
    · replace h := (if_neg hc).symm.trans h
      cases h
      exact zi_ret _ dX10_move_111
    · replace h := (if_pos hc).symm.trans h
      refine zi_aloadn (q := 100) dX10_move_99 rfl rfl ?_
      refine zi_getA (q := 103) dX10_move_100 fl_10_20 so_60 rfl rfl ?_
      refine zi_iconst (q := 104) dX10_move_103 ki_1 rfl ?_
      refine zi_aloadn (q := 105) dX10_move_104 rfl rfl ?_
      refine zi_iconst (q := 106) dX10_move_105 ki_0 rfl ?_
      refine zi_iald2 (q := 107) dX10_move_106 (sr_61 _) vi_0_9 ix_0 rfl ?_
      refine zi_iloadn (q := 108) dX10_move_107 rfl rfl ?_
      obtain ⟨m4, hm4, h⟩ := Option.bind_eq_some_iff.mp h
      refine zc_V2 (q := 111) (st := []) (S1 := []) (r_X4_write 1 (m.1 (62 + x1 % 6) 0) x3 _ m4 hm4) dX10_move_108 cb_X4_write k3_234 k3_235 k3_236 ⟨by decide, by decide⟩ so_8 rfl rfl rfl (Nat.le_of_ble_eq_true rfl) (Or.inl rfl) rfl rfl ?_
      cases h
      exact zi_ret _ dX10_move_111
set_option maxRecDepth 20000 in
theorem r_X10_move {E : Nat × (Nat → Int32)} (x1 : Nat) (x2 : Nat) (x3 : Int32) (m : zM) (x : zM) (h : f_X10_move x1 x2 x3 m = some x) : zMet E zX10_move [.ref 60, .ref (62 + x1 % 6), .ref (46 + x2 % 6), .int x3] zSH m none zSH x := by
  refine zMet.of (L0 := [some (.ref 60), some (.ref (62 + x1 % 6)), some (.ref (46 + x2 % 6)), some (.int x3)]) rfl trivial (Nat.le_of_ble_eq_true rfl) rfl ?_
  unfold f_X10_move at h
  refine zi_aloadn (q := 1) dX10_move_0 rfl rfl ?_
  refine zi_bipush (q := 3) dX10_move_1 kb_7 rfl ?_
  refine zi_dup2 (q := 4) dX10_move_3 rfl rfl rfl ?_
  refine zi_iald2 (q := 5) dX10_move_4 (sr_61 _) vi_7_9 ix_7 rfl ?_
  refine zi_aloadn (q := 6) dX10_move_5 rfl rfl ?_
  refine zi_iconst (q := 7) dX10_move_6 ki_3 rfl ?_
  refine zi_iald2 (q := 8) dX10_move_7 (sr_45 _) vi_3_6 ix_3 rfl ?_
  refine zi_aloadn (q := 9) dX10_move_8 rfl rfl ?_
  refine zi_iconst (q := 10) dX10_move_9 ki_1 rfl ?_
  refine zi_iald2 (q := 11) dX10_move_10 (sr_61 _) vi_1_9 ix_1 rfl ?_
  refine zi_isub (q := 12) dX10_move_11 rfl ?_
  obtain ⟨r1, hr1, h⟩ := Option.bind_eq_some_iff.mp h
  refine zc_S2 (q := 15) (st := [.int (m.1 (62 + x1 % 6) 7), .int 7, .ref (62 + x1 % 6)]) (S1 := [.int r1, .int (m.1 (62 + x1 % 6) 7), .int 7, .ref (62 + x1 % 6)]) (r_J9_abs_0f7a4 ((m.1 (46 + x2 % 6) 3) - (m.1 (62 + x1 % 6) 1)) _ r1 hr1) dX10_move_12 cb_J9_abs_0f7a4 k4_3 k3_212 ⟨by decide, by decide⟩ rfl (Nat.le_of_ble_eq_true rfl) (Or.inl rfl) rfl rfl ?_
  refine zi_aloadn (q := 16) dX10_move_15 rfl rfl ?_
  refine zi_iconst (q := 17) dX10_move_16 ki_4 rfl ?_
  refine zi_iald2 (q := 18) dX10_move_17 (sr_45 _) vi_4_6 ix_4 rfl ?_
  refine zi_aloadn (q := 19) dX10_move_18 rfl rfl ?_
  refine zi_iconst (q := 20) dX10_move_19 ki_2 rfl ?_
  refine zi_iald2 (q := 21) dX10_move_20 (sr_61 _) vi_2_9 ix_2 rfl ?_
  refine zi_isub (q := 22) dX10_move_21 rfl ?_
  obtain ⟨r2, hr2, h⟩ := Option.bind_eq_some_iff.mp h
  refine zc_S2 (q := 25) (st := [.int r1, .int (m.1 (62 + x1 % 6) 7), .int 7, .ref (62 + x1 % 6)]) (S1 := [.int r2, .int r1, .int (m.1 (62 + x1 % 6) 7), .int 7, .ref (62 + x1 % 6)]) (r_J9_abs_0f7a4 ((m.1 (46 + x2 % 6) 4) - (m.1 (62 + x1 % 6) 2)) _ r2 hr2) dX10_move_22 cb_J9_abs_0f7a4 k4_3 k3_212 ⟨by decide, by decide⟩ rfl (Nat.le_of_ble_eq_true rfl) (Or.inl rfl) rfl rfl ?_
  refine zi_iadd (q := 26) dX10_move_25 rfl ?_
  refine zi_iadd (q := 27) dX10_move_26 rfl ?_
  refine zi_iast2 (q := 28) dX10_move_27 (sr_61 _) vi_7_9 ix_7 rfl ?_
  refine zi_aloadn (q := 29) dX10_move_28 rfl rfl ?_
  refine zi_aloadn (q := 30) dX10_move_29 rfl rfl ?_
  refine zi_aloadn (q := 31) dX10_move_30 rfl rfl ?_
  obtain ⟨m3, hm3, h⟩ := Option.bind_eq_some_iff.mp h
  refine zc_V2 (q := 34) (st := []) (S1 := []) (r_X10_takeOver x1 x2 _ m3 hm3) dX10_move_31 cb_X10_takeOver k4_4 k4_6 ks_X10_takeOver ⟨by decide, by decide⟩ so_60 rfl rfl rfl (Nat.le_of_ble_eq_true rfl) (Or.inl rfl) rfl rfl ?_
  refine zi_aloadn (q := 35) dX10_move_34 rfl rfl ?_
  refine zi_iconst (q := 36) dX10_move_35 ki_5 rfl ?_
  refine zi_dup2 (q := 37) dX10_move_36 rfl rfl rfl ?_
  refine zi_iald2 (q := 38) dX10_move_37 (sr_61 _) vi_5_9 ix_5 rfl ?_
  refine zi_iconst (q := 39) dX10_move_38 ki_1 rfl ?_
  refine zi_iadd (q := 40) dX10_move_39 rfl ?_
  refine zi_iast2 (q := 41) dX10_move_40 (sr_61 _) vi_5_9 ix_5 rfl ?_
  refine zi_aloadn (q := 42) dX10_move_41 rfl rfl ?_
  refine zi_bipush (q := 44) dX10_move_42 kb_6 rfl ?_
  refine zi_iconst (q := 45) dX10_move_44 ki_0 rfl ?_
  refine zi_iast2 (q := 46) dX10_move_45 (sr_61 _) vi_6_9 ix_6 rfl ?_
  refine zi_aloadn (q := 47) dX10_move_46 rfl rfl ?_
  refine zi_bipush (q := 49) dX10_move_47 kb_8 rfl ?_
  refine zi_iald2 (q := 50) dX10_move_49 (sr_61 _) vi_8_9 ix_8 rfl ?_
  refine zi_ifne (q := 85) (q2 := 53) dX10_move_50 (by decide) rfl (fun hc => ?_) (fun hc => ?_)
  · replace h := (if_neg hc).symm.trans h
    refine Rn.weakm [true, true, false, true] ?_
    exact rj_X10_move_85 x1 x3 _ _ h
  · replace h := (if_pos hc).symm.trans h
    refine zi_aloadn (q := 54) dX10_move_53 rfl rfl ?_
    refine zi_aloadn (q := 55) dX10_move_54 rfl rfl ?_
    obtain ⟨r5, hr5, h⟩ := Option.bind_eq_some_iff.mp h
    refine zc_V2 (q := 58) (st := []) (S1 := [.int (bi r5)]) (r_X10_isPalm x2 _ r5 hr5) dX10_move_55 cb_X10_isPalm k4_8 k4_10 ks_X10_isPalm ⟨by decide, by decide⟩ so_60 rfl rfl rfl (Nat.le_of_ble_eq_true rfl) (Or.inl rfl) rfl rfl ?_
    refine zi_ifeq (q := 85) (q2 := 61) dX10_move_58 (by decide) rfl (fun hc => ?_) (fun hc => ?_)
    · replace h := (if_pos hc).symm.trans h
      refine Rn.weakm [true, true, false, true] ?_
      exact rj_X10_move_85 x1 x3 _ _ h
    · replace h := (if_neg hc).symm.trans h
      refine zi_aloadn (q := 62) dX10_move_61 rfl rfl ?_
      refine zi_bipush (q := 64) dX10_move_62 kb_8 rfl ?_
      refine zi_iconst (q := 65) dX10_move_64 ki_1 rfl ?_
      refine zi_iast2 (q := 66) dX10_move_65 (sr_61 _) vi_8_9 ix_8 rfl ?_
      refine zi_aloadn (q := 67) dX10_move_66 rfl rfl ?_
      refine zi_iconst (q := 68) dX10_move_67 ki_5 rfl ?_
      refine zi_iald2 (q := 69) dX10_move_68 (sr_61 _) vi_5_9 ix_5 rfl ?_
      refine zi_iconst (q := 70) dX10_move_69 ki_2 rfl ?_
      refine zi_icmple (q := 85) (q2 := 73) dX10_move_70 (by decide) rfl (fun hc => ?_) (fun hc => ?_)
      · replace h := (if_pos hc).symm.trans h
        refine Rn.weakm [true, true, false, true] ?_
        exact rj_X10_move_85 x1 x3 _ _ h
      · replace h := (if_neg hc).symm.trans h
        refine zi_aloadn (q := 74) dX10_move_73 rfl rfl ?_
        refine zi_getA (q := 77) dX10_move_74 fl_10_20 so_60 rfl rfl ?_
        refine zi_iconst (q := 78) dX10_move_77 ki_3 rfl ?_
        refine zi_aloadn (q := 79) dX10_move_78 rfl rfl ?_
        refine zi_iconst (q := 80) dX10_move_79 ki_0 rfl ?_
        refine zi_iald2 (q := 81) dX10_move_80 (sr_61 _) vi_0_9 ix_0 rfl ?_
        refine zi_iloadn (q := 82) dX10_move_81 rfl rfl ?_
        obtain ⟨m6, hm6, h⟩ := Option.bind_eq_some_iff.mp h
        refine zc_V2 (q := 85) (st := []) (S1 := []) (r_X4_write 3 ((zi (zi (zi m3 (62 + x1 % 6) 5 ((m3.1 (62 + x1 % 6) 5) + 1)) (62 + x1 % 6) 6 0) (62 + x1 % 6) 8 1).1 (62 + x1 % 6) 0) x3 _ m6 hm6) dX10_move_82 cb_X4_write k3_234 k3_235 k3_236 ⟨by decide, by decide⟩ so_8 rfl rfl rfl (Nat.le_of_ble_eq_true rfl) (Or.inl rfl) rfl rfl ?_
        refine Rn.weakm [true, true, false, true] ?_
        exact rj_X10_move_85 x1 x3 _ _ h
