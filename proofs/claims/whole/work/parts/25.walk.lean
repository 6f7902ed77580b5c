set_option maxRecDepth 20000 in
theorem rj_X10_miss_78 {E : Nat × (Nat → Int32)} (x1 : Nat) (x2 : Int32) (s0 : Int32) (m : zM)  (x : (Bool × zM)) (h : j_X10_miss_78 x1 x2 s0 m = some x) : Rn E zX10_miss 78 [none, some (.ref (62 + x1 % 6)), some (.int x2), none] [.int s0, .ref 8] zSH m (some (.int (bi x.1))) zSH x.2 := by
  unfold j_X10_miss_78 at h
  refine zi_aloadn (q := 79) dX10_miss_78 rfl rfl ?_
  refine zi_iconst (q := 80) dX10_miss_79 ki_0 rfl ?_
  refine zi_iald2 (q := 81) dX10_miss_80 (sr_61 _) vi_0_9 ix_0 rfl ?_
  refine zi_iloadn (q := 82) dX10_miss_81 rfl rfl ?_
  obtain ⟨m1, hm1, h⟩ := Option.bind_eq_some_iff.mp h
  refine zc_V2 (q := 85) (st := []) (S1 := []) (r_X4_write s0 (m.1 (62 + x1 % 6) 0) x2 _ m1 hm1) dX10_miss_82 cb_X4_write k3_234 k3_235 k3_236 ⟨by decide, by decide⟩ so_8 rfl rfl rfl (Nat.le_of_ble_eq_true rfl) (Or.inl rfl) rfl rfl ?_
  refine zi_iconst (q := 86) dX10_miss_85 ki_0 rfl ?_
  cases h
  exact zi_ret _ dX10_miss_86
set_option maxRecDepth 20000 in
theorem rj_X10_miss_64 {E : Nat × (Nat → Int32)} (x1 : Nat) (x2 : Int32) (s0 : Int32) (m : zM)  (x : (Bool × zM)) (h : j_X10_miss_64 x1 x2 s0 m = some x) : Rn E zX10_miss 64 [some (.ref 60), some (.ref (62 + x1 % 6)), some (.int x2), none] [.int s0] zSH m (some (.int (bi x.1))) zSH x.2 := by
  unfold j_X10_miss_64 at h
  refine zi_istoren (q := 65) (L' := [some (.ref 60), some (.ref (62 + x1 % 6)), some (.int x2), some (.int s0)]) dX10_miss_64 (by decide) rfl rfl rfl ?_
  refine zi_aloadn (q := 66) dX10_miss_65 rfl rfl ?_
  refine zi_getA (q := 69) dX10_miss_66 fl_10_20 so_60 rfl rfl ?_
  refine zi_iloadn (q := 70) dX10_miss_69 rfl rfl ?_
  refine zi_ifeq (q := 77) (q2 := 73) dX10_miss_70 (by decide) rfl (fun hc => ?_) (fun hc => ?_)
  · replace h := (if_pos hc).symm.trans h
    refine zi_iconst (q := 78) dX10_miss_77 ki_2 rfl ?_
    refine Rn.weakm [false, true, true, false] ?_
    exact rj_X10_miss_78 x1 x2 2 _ _ h
  · replace h := (if_neg hc).symm.trans h
    refine zi_iconst (q := 74) dX10_miss_73 ki_4 rfl ?_
    refine zi_goto (q := 78) dX10_miss_74 (by decide) ?_
    refine Rn.weakm [false, true, true, false] ?_
    exact rj_X10_miss_78 x1 x2 4 _ _ h
set_option maxRecDepth 20000 in
theorem rj_X10_miss_63 {E : Nat × (Nat → Int32)} (x1 : Nat) (x2 : Int32) (m : zM)  (x : (Bool × zM)) (h : j_X10_miss_63 x1 x2 m = some x) : Rn E zX10_miss 63 [some (.ref 60), some (.ref (62 + x1 % 6)), some (.int x2), none] [] zSH m (some (.int (bi x.1))) zSH x.2 := by
  unfold j_X10_miss_63 at h
  refine zi_iconst (q := 64) dX10_miss_63 ki_0 rfl ?_
  exact rj_X10_miss_64 x1 x2 0 _ _ h
set_option maxRecDepth 20000 in
theorem r_X10_miss {E : Nat × (Nat → Int32)} (x1 : Nat) (x2 : Int32) (m : zM) (x : (Bool × zM)) (h : f_X10_miss x1 x2 m = some x) : zMet E zX10_miss [.ref 60, .ref (62 + x1 % 6), .int x2] zSH m (some (.int (bi x.1))) zSH x.2 := by
  refine zMet.of (L0 := [some (.ref 60), some (.ref (62 + x1 % 6)), some (.int x2), none]) rfl (zfit_bi _) (Nat.le_of_ble_eq_true rfl) rfl ?_
  unfold f_X10_miss at h
  refine zi_aloadn (q := 1) dX10_miss_0 rfl rfl ?_
  refine zi_bipush (q := 3) dX10_miss_1 kb_6 rfl ?_
  refine zi_dup2 (q := 4) dX10_miss_3 rfl rfl rfl ?_
  refine zi_iald2 (q := 5) dX10_miss_4 (sr_61 _) vi_6_9 ix_6 rfl ?_
  refine zi_iconst (q := 6) dX10_miss_5 ki_1 rfl ?_
  refine zi_iadd (q := 7) dX10_miss_6 rfl ?_
  refine zi_iast2 (q := 8) dX10_miss_7 (sr_61 _) vi_6_9 ix_6 rfl ?_
  refine zi_aloadn (q := 9) dX10_miss_8 rfl rfl ?_
  refine zi_bipush (q := 11) dX10_miss_9 kb_6 rfl ?_
  refine zi_iald2 (q := 12) dX10_miss_11 (sr_61 _) vi_6_9 ix_6 rfl ?_
  refine zi_aloadn (q := 13) dX10_miss_12 rfl rfl ?_
  refine zi_getA (q := 16) dX10_miss_13 fl_10_16 so_60 rfl rfl ?_
  refine zi_iconst (q := 17) dX10_miss_16 ki_5 rfl ?_
  refine zi_iald2 (q := 18) dX10_miss_17 so_26 vi_5_9 ix_5 rfl ?_
  refine zi_icmpgt (q := 23) (q2 := 21) dX10_miss_18 (by decide) rfl (fun hc => ?_) (fun hc => ?_)
  · replace h := (if_pos hc).symm.trans h
    refine zi_aloadn (q := 24) dX10_miss_23 rfl rfl ?_
    refine zi_bipush (q := 26) dX10_miss_24 kb_8 rfl ?_
    refine zi_iald2 (q := 27) dX10_miss_26 (sr_61 _) vi_8_9 ix_8 rfl ?_
    refine zi_ifne (q := 85) (q2 := 30) dX10_miss_27 (by decide) rfl (fun hc => ?_) (fun hc => ?_)
    · replace h := (if_neg hc).symm.trans h
      refine zi_iconst (q := 86) dX10_miss_85 ki_0 rfl ?_
      cases h
      exact zi_ret _ dX10_miss_86
    · replace h := (if_pos hc).symm.trans h
      refine zi_aloadn (q := 31) dX10_miss_30 rfl rfl ?_
      refine zi_iconst (q := 32) dX10_miss_31 ki_5 rfl ?_
      refine zi_iald2 (q := 33) dX10_miss_32 (sr_61 _) vi_5_9 ix_5 rfl ?_
      refine zi_iconst (q := 34) dX10_miss_33 ki_2 rfl ?_
      refine zi_icmplt (q := 85) (q2 := 37) dX10_miss_34 (by decide) rfl (fun hc => ?_) (fun hc => ?_)
      · replace h := (if_pos hc).symm.trans h
        refine zi_iconst (q := 86) dX10_miss_85 ki_0 rfl ?_
        cases h
        exact zi_ret _ dX10_miss_86
      · replace h := (if_neg hc).symm.trans h
        refine zi_aloadn (q := 38) dX10_miss_37 rfl rfl ?_
        refine zi_iconst (q := 39) dX10_miss_38 ki_5 rfl ?_
        refine zi_iald2 (q := 40) dX10_miss_39 (sr_61 _) vi_5_9 ix_5 rfl ?_
        refine zi_aloadn (q := 41) dX10_miss_40 rfl rfl ?_
        refine zi_getA (q := 44) dX10_miss_41 fl_10_16 so_60 rfl rfl ?_
        refine zi_bipush (q := 46) dX10_miss_44 kb_6 rfl ?_
        refine zi_iald2 (q := 47) dX10_miss_46 so_26 vi_6_9 ix_6 rfl ?_
        refine zi_icmpgt (q := 63) (q2 := 50) dX10_miss_47 (by decide) rfl (fun hc => ?_) (fun hc => ?_)
        · replace h := (if_pos hc).symm.trans h
          exact rj_X10_miss_63 x1 x2 _ _ h
        · replace h := (if_neg hc).symm.trans h
          refine zi_aloadn (q := 51) dX10_miss_50 rfl rfl ?_
          refine zi_bipush (q := 53) dX10_miss_51 kb_7 rfl ?_
          refine zi_iald2 (q := 54) dX10_miss_53 (sr_61 _) vi_7_9 ix_7 rfl ?_
          refine zi_bipush (q := 56) dX10_miss_54 kb_16 rfl ?_
          refine zi_icmpgt (q := 63) (q2 := 59) dX10_miss_56 (by decide) rfl (fun hc => ?_) (fun hc => ?_)
          · replace h := (if_pos hc).symm.trans h
            exact rj_X10_miss_63 x1 x2 _ _ h
          · replace h := (if_neg hc).symm.trans h
            refine zi_iconst (q := 60) dX10_miss_59 ki_1 rfl ?_
            refine zi_goto (q := 64) dX10_miss_60 (by decide) ?_
            exact rj_X10_miss_64 x1 x2 1 _ _ h
  · replace h := (if_neg hc).symm.trans h
    refine zi_iconst (q := 22) dX10_miss_21 ki_1 rfl ?_
    cases h
    exact zi_ret _ dX10_miss_22
set_option maxRecDepth 20000 in
theorem rj_X10_follow_96 {E : Nat × (Nat → Int32)} (x3 : Int32) (x4 : Int32) (x5 : Int32) (m : zM) (rv : Option Value) (m' : zM) (x : ((Int32 × Int32 × zM) ⊕ (Int32 × zM))) (h : j_X10_follow_96 x3 x4 x5 m = some x) (KI : ∀ s1 : (Int32 × Int32 × zM), x = .inl s1 → Rn E zX10_follow 6 [some (.ref 60), some (.ref 44), some (.ref 28), some (.int x3), some (.int s1.1), some (.int s1.2.1), none, none, none] [] zSH s1.2.2 rv zSH m') : Rn E zX10_follow 96 [some (.ref 60), some (.ref 44), some (.ref 28), some (.int x3), some (.int x4), some (.int x5), none, none, none] [] zSH m rv zSH m' := by
  unfold j_X10_follow_96 at h
  refine zi_iinc (q := 99) (v := x5 + 1) (L' := [some (.ref 60), some (.ref 44), some (.ref 28), some (.int x3), some (.int x4), some (.int (x5 + 1)), none, none, none]) dX10_follow_96 rfl (by rw [ki_1]) (by decide) rfl rfl rfl ?_
  refine zi_goto (q := 6) dX10_follow_99 (by decide) ?_
  exact KI (x4, (x5 + 1), m) (Option.some.inj h).symm
set_option maxRecDepth 20000 in
theorem rj_X10_follow_65 {E : Nat × (Nat → Int32)} (x3 : Int32) (x4 : Int32) (x5 : Int32) (x6 : Nat) (x8 : Int32) (m : zM) (rv : Option Value) (m' : zM) (x : ((Int32 × Int32 × zM) ⊕ (Int32 × zM))) (h : j_X10_follow_65 x3 x4 x5 x6 x8 m = some x) (KI : ∀ s1 : (Int32 × Int32 × zM), x = .inl s1 → Rn E zX10_follow 6 [some (.ref 60), some (.ref 44), some (.ref 28), some (.int x3), some (.int s1.1), some (.int s1.2.1), none, none, none] [] zSH s1.2.2 rv zSH m') : Rn E zX10_follow 65 [some (.ref 60), some (.ref 44), some (.ref 28), some (.int x3), some (.int x4), some (.int x5), some (.ref (62 + x6 % 6)), none, some (.int x8)] [] zSH m rv zSH m' := by
  unfold j_X10_follow_65 at h
  refine zi_iload (q := 67) dX10_follow_65 rfl rfl ?_
  refine zi_ifeq (q := 96) (q2 := 70) dX10_follow_67 (by decide) rfl (fun hc => ?_) (fun hc => ?_)
  · replace h := (if_pos hc).symm.trans h
    refine Rn.weakm [true, true, true, true, true, true, false, false, false] ?_
    exact rj_X10_follow_96 x3 x4 x5 _ _ _ _ h KI
  · replace h := (if_neg hc).symm.trans h
    refine zi_aloadn (q := 71) dX10_follow_70 rfl rfl ?_
    refine zi_getA (q := 74) dX10_follow_71 fl_10_11 so_60 rfl rfl ?_
    refine zi_iload (q := 76) dX10_follow_74 rfl rfl ?_
    refine zi_aloadn (q := 77) dX10_follow_76 rfl rfl ?_
    refine zi_getA (q := 80) dX10_follow_77 fl_10_11 so_60 rfl rfl ?_
    refine zi_iload (q := 82) dX10_follow_80 rfl rfl ?_
    obtain ⟨hz5, h⟩ := zg_some h
    refine zi_aald2 (q := 83) dX10_follow_82 so_61 (zin_vp hz5) rfl rfl ?_
    obtain ⟨hz6, h⟩ := zg_some h
    refine zi_aast2 (q := 84) dX10_follow_83 so_61 (zin_vp hz6) rfl (zrow_in _ _ (by decide)) (sr_61 _) (zrow_sub _ _) rfl ?_
    refine zi_aloadn (q := 85) dX10_follow_84 rfl rfl ?_
    refine zi_getA (q := 88) dX10_follow_85 fl_10_11 so_60 rfl rfl ?_
    refine zi_iload (q := 90) dX10_follow_88 rfl rfl ?_
    refine zi_aload (q := 92) dX10_follow_90 rfl rfl ?_
    obtain ⟨hz7, h⟩ := zg_some h
    refine zi_aast2 (q := 93) dX10_follow_92 so_61 (zin_vp hz7) rfl (zrow_in _ _ (by decide)) (sr_61 _) (zrow_sub _ _) rfl ?_
    refine zi_iinc (q := 96) (v := x4 + 1) (L' := [some (.ref 60), some (.ref 44), some (.ref 28), some (.int x3), some (.int (x4 + 1)), some (.int x5), some (.ref (62 + x6 % 6)), none, some (.int x8)]) dX10_follow_93 rfl (by rw [ki_1]) (by decide) rfl rfl rfl ?_
    refine Rn.weakm [true, true, true, true, true, true, false, false, false] ?_
    exact rj_X10_follow_96 x3 (x4 + 1) x5 _ _ _ _ h KI
set_option maxRecDepth 20000 in
theorem rb_X10_follow_6 {E : Nat × (Nat → Int32)} (x3 : Int32)  (s : (Int32 × Int32 × zM)) (rv : Option Value) (m' : zM) (x : ((Int32 × Int32 × zM) ⊕ (Int32 × zM))) (h : b_X10_follow_6 x3 s = some x) (KI : ∀ s1 : (Int32 × Int32 × zM), x = .inl s1 → Rn E zX10_follow 6 [some (.ref 60), some (.ref 44), some (.ref 28), some (.int x3), some (.int s1.1), some (.int s1.2.1), none, none, none] [] zSH s1.2.2 rv zSH m') (KO : ∀ r1 : (Int32 × zM), x = .inr r1 → Rn E zX10_follow 102 [some (.ref 60), none, none, none, some (.int r1.1), none, none, none, none] [] zSH r1.2 rv zSH m') : Rn E zX10_follow 6 [some (.ref 60), some (.ref 44), some (.ref 28), some (.int x3), some (.int s.1), some (.int s.2.1), none, none, none] [] zSH s.2.2 rv zSH m' := by
  unfold b_X10_follow_6 at h
  refine zi_iload (q := 8) dX10_follow_6 rfl rfl ?_
  refine zi_aloadn (q := 9) dX10_follow_8 rfl rfl ?_
  refine zi_getI (q := 12) dX10_follow_9 fl_10_24 (by decide) so_60 rfl ?_
  refine zi_icmpge (q := 102) (q2 := 15) dX10_follow_12 (by decide) rfl (fun hc => ?_) (fun hc => ?_)
  · replace h := (if_pos hc).symm.trans h
    refine Rn.weakm [true, false, false, false, true, false, false, false, false] ?_
    exact KO (s.1, s.2.2) (Option.some.inj h).symm
  · replace h := (if_neg hc).symm.trans h
    refine zi_aloadn (q := 16) dX10_follow_15 rfl rfl ?_
    refine zi_getA (q := 19) dX10_follow_16 fl_10_11 so_60 rfl rfl ?_
    refine zi_iload (q := 21) dX10_follow_19 rfl rfl ?_
    obtain ⟨hz1, h⟩ := zg_some h
    refine zi_aald2 (q := 22) dX10_follow_21 so_61 (zin_vp hz1) rfl rfl ?_
    refine zi_astore (q := 24) (L' := [some (.ref 60), some (.ref 44), some (.ref 28), some (.int x3), some (.int s.1), some (.int s.2.1), some (.ref (62 + (s.2.2.2.2 61 s.2.1.toNatClampNeg) % 6)), none, none]) dX10_follow_22 (by decide) rfl rfl rfl ?_
    refine zi_aloadn (q := 25) dX10_follow_24 rfl rfl ?_
    refine zi_iload (q := 27) dX10_follow_25 rfl rfl ?_
    obtain ⟨hz2, h⟩ := zg_some h
    refine zi_iald2 (q := 28) dX10_follow_27 so_28 (zin_vp hz2) rfl rfl ?_
    refine zi_istore (q := 30) (L' := [some (.ref 60), some (.ref 44), some (.ref 28), some (.int x3), some (.int s.1), some (.int s.2.1), some (.ref (62 + (s.2.2.2.2 61 s.2.1.toNatClampNeg) % 6)), some (.int (s.2.2.1 28 s.2.1.toNatClampNeg)), none]) dX10_follow_28 (by decide) rfl rfl rfl ?_
    refine zi_iconst (q := 31) dX10_follow_30 ki_1 rfl ?_
    refine zi_istore (q := 33) (L' := [some (.ref 60), some (.ref 44), some (.ref 28), some (.int x3), some (.int s.1), some (.int s.2.1), some (.ref (62 + (s.2.2.2.2 61 s.2.1.toNatClampNeg) % 6)), some (.int (s.2.2.1 28 s.2.1.toNatClampNeg)), some (.int 1)]) dX10_follow_31 (by decide) rfl rfl rfl ?_
    refine zi_iload (q := 35) dX10_follow_33 rfl rfl ?_
    refine zi_iconst (q := 36) dX10_follow_35 ki_m1 rfl ?_
    refine zi_icmpne (q := 51) (q2 := 39) dX10_follow_36 (by decide) rfl (fun hc => ?_) (fun hc => ?_)
    · replace h := (if_neg hc).symm.trans h
      refine zi_aloadn (q := 52) dX10_follow_51 rfl rfl ?_
      refine zi_aload (q := 54) dX10_follow_52 rfl rfl ?_
      refine zi_aloadn (q := 55) dX10_follow_54 rfl rfl ?_
      refine zi_getA (q := 58) dX10_follow_55 fl_10_32 so_44 rfl rfl ?_
      refine zi_iload (q := 60) dX10_follow_58 rfl rfl ?_
      obtain ⟨hz3, h⟩ := zg_some h
      refine zi_aald2 (q := 61) dX10_follow_60 so_45 (zin_vp hz3) rfl rfl ?_
      refine zi_iloadn (q := 62) dX10_follow_61 rfl rfl ?_
      obtain ⟨m4, hm4, h⟩ := Option.bind_eq_some_iff.mp h
      refine zc_V2 (q := 65) (st := []) (S1 := []) (r_X10_move (s.2.2.2.2 61 s.2.1.toNatClampNeg) (s.2.2.2.2 45 ((s.2.2.1 28 s.2.1.toNatClampNeg).toNatClampNeg)) x3 _ m4 hm4) dX10_follow_62 cb_X10_move k3_239 k4_1 ks_X10_move ⟨by decide, by decide⟩ so_60 rfl rfl rfl (Nat.le_of_ble_eq_true rfl) (Or.inl rfl) rfl rfl ?_
      refine Rn.weakm [true, true, true, true, true, true, true, false, true] ?_
      exact rj_X10_follow_65 x3 s.1 s.2.1 (s.2.2.2.2 61 s.2.1.toNatClampNeg) 1 _ _ _ _ h KI
    · replace h := (if_pos hc).symm.trans h
      refine zi_aloadn (q := 40) dX10_follow_39 rfl rfl ?_
      refine zi_aload (q := 42) dX10_follow_40 rfl rfl ?_
      refine zi_iloadn (q := 43) dX10_follow_42 rfl rfl ?_
      obtain ⟨r8, hr8, h⟩ := Option.bind_eq_some_iff.mp h
      refine zc_V2 (q := 46) (st := []) (S1 := [.int (bi r8.1)]) (r_X10_miss (s.2.2.2.2 61 s.2.1.toNatClampNeg) x3 _ r8 hr8) dX10_follow_43 cb_X10_miss k3_230 k3_232 ks_X10_miss ⟨by decide, by decide⟩ so_60 rfl rfl rfl (Nat.le_of_ble_eq_true rfl) (Or.inl rfl) rfl rfl ?_
      refine zi_istore (q := 48) (L' := [some (.ref 60), some (.ref 44), some (.ref 28), some (.int x3), some (.int s.1), some (.int s.2.1), some (.ref (62 + (s.2.2.2.2 61 s.2.1.toNatClampNeg) % 6)), some (.int (s.2.2.1 28 s.2.1.toNatClampNeg)), some (.int (bi r8.1))]) dX10_follow_46 (by decide) rfl rfl rfl ?_
      refine zi_goto (q := 65) dX10_follow_48 (by decide) ?_
      refine Rn.weakm [true, true, true, true, true, true, true, false, true] ?_
      exact rj_X10_follow_65 x3 s.1 s.2.1 (s.2.2.2.2 61 s.2.1.toNatClampNeg) (bi r8.1) _ _ _ _ h KI
set_option maxRecDepth 20000 in
theorem r_X10_follow {E : Nat × (Nat → Int32)} (x3 : Int32) (m : zM) (x : zM) (h : f_X10_follow x3 m = some x) : zMet E zX10_follow [.ref 60, .ref 44, .ref 28, .int x3] zSH m none zSH x := by
  refine zMet.of (L0 := [some (.ref 60), some (.ref 44), some (.ref 28), some (.int x3), none, none, none, none, none]) rfl trivial (Nat.le_of_ble_eq_true rfl) rfl ?_
  unfold f_X10_follow at h
  refine zi_iconst (q := 1) dX10_follow_0 ki_0 rfl ?_
  refine zi_istore (q := 3) (L' := [some (.ref 60), some (.ref 44), some (.ref 28), some (.int x3), some (.int 0), none, none, none, none]) dX10_follow_1 (by decide) rfl rfl rfl ?_
  refine zi_iconst (q := 4) dX10_follow_3 ki_0 rfl ?_
  refine zi_istore (q := 6) (L' := [some (.ref 60), some (.ref 44), some (.ref 28), some (.int x3), some (.int 0), some (.int 0), none, none, none]) dX10_follow_4 (by decide) rfl rfl rfl ?_
  obtain ⟨r9, hr9, h⟩ := Option.bind_eq_some_iff.mp h
  refine zloop_rn (P := fun w : (Int32 × Int32 × zM) => Rn E zX10_follow 6 [some (.ref 60), some (.ref 44), some (.ref 28), some (.int x3), some (.int w.1), some (.int w.2.1), none, none, none] [] zSH w.2.2 none zSH x) (X := fun w : (Int32 × zM) => Rn E zX10_follow 102 [some (.ref 60), none, none, none, some (.int w.1), none, none, none, none] [] zSH w.2 none zSH x) (fun w w0 hb KI KX => rb_X10_follow_6 x3 w _ _ w0 hb KI KX) zFU _ r9 hr9 ?_
  show Rn E zX10_follow 102 [some (.ref 60), none, none, none, some (.int r9.1), none, none, none, none] [] zSH r9.2 none zSH x
  refine zi_aloadn (q := 103) dX10_follow_102 rfl rfl ?_
  refine zi_iload (q := 105) dX10_follow_103 rfl rfl ?_
  refine zi_putI (q := 108) dX10_follow_105 pl_10_24 so_60 rfl ?_
  cases h
  exact zi_ret _ dX10_follow_108
set_option maxRecDepth 20000 in
theorem rj_X10_begin_53 {E : Nat × (Nat → Int32)} (s0 : Int32) (s1 : Int32) (s2 : Nat) (m : zM)  (x : zM) (h : j_X10_begin_53 s0 s1 s2 m = some x) : Rn E zX10_begin 53 [none, none, none] [.int s0, .int s1, .ref (62 + s2 % 6)] zSH m none zSH x := by
  unfold j_X10_begin_53 at h
  obtain ⟨hz3, h⟩ := zg_some h
  refine zi_iast2 (q := 54) dX10_begin_53 (sr_61 _) (zin_vp hz3) rfl rfl ?_
  cases h
  exact zi_ret _ dX10_begin_54
set_option maxRecDepth 20000 in
theorem r_X10_begin {E : Nat × (Nat → Int32)} (x1 : Nat) (x2 : Nat) (m : zM) (x : zM) (h : f_X10_begin x1 x2 m = some x) : zMet E zX10_begin [.ref 60, .ref (62 + x1 % 6), .ref (46 + x2 % 6)] zSH m none zSH x := by
  refine zMet.of (L0 := [some (.ref 60), some (.ref (62 + x1 % 6)), some (.ref (46 + x2 % 6))]) rfl trivial (Nat.le_of_ble_eq_true rfl) rfl ?_
  unfold f_X10_begin at h
  refine zi_aloadn (q := 1) dX10_begin_0 rfl rfl ?_
  refine zi_dup (q := 2) dX10_begin_1 rfl rfl ?_
  refine zi_getI (q := 5) dX10_begin_2 fl_10_63 (by decide) so_60 rfl ?_
  refine zi_iconst (q := 6) dX10_begin_5 ki_1 rfl ?_
  refine zi_iadd (q := 7) dX10_begin_6 rfl ?_
  refine zi_putI (q := 10) dX10_begin_7 pl_10_63 so_60 rfl ?_
  refine zi_aloadn (q := 11) dX10_begin_10 rfl rfl ?_
  refine zi_iconst (q := 12) dX10_begin_11 ki_0 rfl ?_
  refine zi_aloadn (q := 13) dX10_begin_12 rfl rfl ?_
  refine zi_getI (q := 16) dX10_begin_13 fl_10_63 (by decide) so_60 rfl ?_
  refine zi_iast2 (q := 17) dX10_begin_16 (sr_61 _) vi_0_9 ix_0 rfl ?_
  refine zi_aloadn (q := 18) dX10_begin_17 rfl rfl ?_
  refine zi_aloadn (q := 19) dX10_begin_18 rfl rfl ?_
  refine zi_aloadn (q := 20) dX10_begin_19 rfl rfl ?_
  obtain ⟨m1, hm1, h⟩ := Option.bind_eq_some_iff.mp h
  refine zc_V2 (q := 23) (st := []) (S1 := []) (r_X10_takeOver x1 x2 _ m1 hm1) dX10_begin_20 cb_X10_takeOver k4_4 k4_6 ks_X10_takeOver ⟨by decide, by decide⟩ so_60 rfl rfl rfl (Nat.le_of_ble_eq_true rfl) (Or.inl rfl) rfl rfl ?_
  refine zi_aloadn (q := 24) dX10_begin_23 rfl rfl ?_
  refine zi_iconst (q := 25) dX10_begin_24 ki_5 rfl ?_
  refine zi_iconst (q := 26) dX10_begin_25 ki_1 rfl ?_
  refine zi_iast2 (q := 27) dX10_begin_26 (sr_61 _) vi_5_9 ix_5 rfl ?_
  refine zi_aloadn (q := 28) dX10_begin_27 rfl rfl ?_
  refine zi_bipush (q := 30) dX10_begin_28 kb_6 rfl ?_
  refine zi_iconst (q := 31) dX10_begin_30 ki_0 rfl ?_
  refine zi_iast2 (q := 32) dX10_begin_31 (sr_61 _) vi_6_9 ix_6 rfl ?_
  refine zi_aloadn (q := 33) dX10_begin_32 rfl rfl ?_
  refine zi_bipush (q := 35) dX10_begin_33 kb_7 rfl ?_
  refine zi_iconst (q := 36) dX10_begin_35 ki_0 rfl ?_
  refine zi_iast2 (q := 37) dX10_begin_36 (sr_61 _) vi_7_9 ix_7 rfl ?_
  refine zi_aloadn (q := 38) dX10_begin_37 rfl rfl ?_
  refine zi_bipush (q := 40) dX10_begin_38 kb_8 rfl ?_
  refine zi_aloadn (q := 41) dX10_begin_40 rfl rfl ?_
  refine zi_aloadn (q := 42) dX10_begin_41 rfl rfl ?_
  obtain ⟨r2, hr2, h⟩ := Option.bind_eq_some_iff.mp h
  refine zc_V2 (q := 45) (st := [.int 8, .ref (62 + x1 % 6)]) (S1 := [.int (bi r2), .int 8, .ref (62 + x1 % 6)]) (r_X10_isPalm x2 _ r2 hr2) dX10_begin_42 cb_X10_isPalm k4_8 k4_10 ks_X10_isPalm ⟨by decide, by decide⟩ so_60 rfl rfl rfl (Nat.le_of_ble_eq_true rfl) (Or.inl rfl) rfl rfl ?_
  refine zi_ifeq (q := 52) (q2 := 48) dX10_begin_45 (by decide) rfl (fun hc => ?_) (fun hc => ?_)
  · replace h := (if_pos hc).symm.trans h
    refine zi_iconst (q := 53) dX10_begin_52 ki_0 rfl ?_
    refine Rn.weakm [false, false, false] ?_
    exact rj_X10_begin_53 0 8 x1 _ _ h
  · replace h := (if_neg hc).symm.trans h
    refine zi_iconst (q := 49) dX10_begin_48 ki_1 rfl ?_
    refine zi_goto (q := 53) dX10_begin_49 (by decide) ?_
    refine Rn.weakm [false, false, false] ?_
    exact rj_X10_begin_53 1 8 x1 _ _ h
set_option maxRecDepth 20000 in
theorem rj_X10_beginNew_60 {E : Nat × (Nat → Int32)} (x2 : Int32) (m : zM) (rv : Option Value) (m' : zM) (x : ((Int32 × zM) ⊕ (zM))) (h : j_X10_beginNew_60 x2 m = some x) (KI : ∀ s1 : (Int32 × zM), x = .inl s1 → Rn E zX10_beginNew 2 [some (.ref 60), some (.ref 44), some (.int s1.1)] [] zSH s1.2 rv zSH m') : Rn E zX10_beginNew 60 [some (.ref 60), some (.ref 44), some (.int x2)] [] zSH m rv zSH m' := by
  unfold j_X10_beginNew_60 at h
  refine zi_iinc (q := 63) (v := x2 + 1) (L' := [some (.ref 60), some (.ref 44), some (.int (x2 + 1))]) dX10_beginNew_60 rfl (by rw [ki_1]) (by decide) rfl rfl rfl ?_
  refine zi_goto (q := 2) dX10_beginNew_63 (by decide) ?_
  exact KI ((x2 + 1), m) (Option.some.inj h).symm
set_option maxRecDepth 20000 in
theorem rb_X10_beginNew_2 {E : Nat × (Nat → Int32)}   (s : (Int32 × zM)) (rv : Option Value) (m' : zM) (x : ((Int32 × zM) ⊕ (zM))) (h : b_X10_beginNew_2  s = some x) (KI : ∀ s1 : (Int32 × zM), x = .inl s1 → Rn E zX10_beginNew 2 [some (.ref 60), some (.ref 44), some (.int s1.1)] [] zSH s1.2 rv zSH m') (KO : ∀ r1 : (zM), x = .inr r1 → Rn E zX10_beginNew 66 [none, none, none] [] zSH r1 rv zSH m') : Rn E zX10_beginNew 2 [some (.ref 60), some (.ref 44), some (.int s.1)] [] zSH s.2 rv zSH m' := by
  unfold b_X10_beginNew_2 at h
  refine zi_iloadn (q := 3) dX10_beginNew_2 rfl rfl ?_
  refine zi_aloadn (q := 4) dX10_beginNew_3 rfl rfl ?_
  refine zi_getI (q := 7) dX10_beginNew_4 fl_10_59 (by decide) so_44 rfl ?_
  refine zi_icmpge (q := 66) (q2 := 10) dX10_beginNew_7 (by decide) rfl (fun hc => ?_) (fun hc => ?_)
  · replace h := (if_pos hc).symm.trans h
    refine Rn.weakm [false, false, false] ?_
    exact KO s.2 (Option.some.inj h).symm
  · replace h := (if_neg hc).symm.trans h
    refine zi_aloadn (q := 11) dX10_beginNew_10 rfl rfl ?_
    refine zi_getA (q := 14) dX10_beginNew_11 fl_10_32 so_44 rfl rfl ?_
    refine zi_iloadn (q := 15) dX10_beginNew_14 rfl rfl ?_
    obtain ⟨hz1, h⟩ := zg_some h
    refine zi_aald2 (q := 16) dX10_beginNew_15 so_45 (zin_vp hz1) rfl rfl ?_
    refine zi_iconst (q := 17) dX10_beginNew_16 ki_5 rfl ?_
    refine zi_iald2 (q := 18) dX10_beginNew_17 (sr_45 _) vi_5_6 ix_5 rfl ?_
    refine zi_iconst (q := 19) dX10_beginNew_18 ki_m1 rfl ?_
    refine zi_icmpne (q := 60) (q2 := 22) dX10_beginNew_19 (by decide) rfl (fun hc => ?_) (fun hc => ?_)
    · replace h := (if_neg hc).symm.trans h
      exact rj_X10_beginNew_60 s.1 _ _ _ _ h KI
    · replace h := (if_pos hc).symm.trans h
      refine zi_aloadn (q := 23) dX10_beginNew_22 rfl rfl ?_
      refine zi_getI (q := 26) dX10_beginNew_23 fl_10_24 (by decide) so_60 rfl ?_
      refine zi_bipush (q := 28) dX10_beginNew_26 kb_6 rfl ?_
      refine zi_icmpge (q := 60) (q2 := 31) dX10_beginNew_28 (by decide) rfl (fun hc => ?_) (fun hc => ?_)
      · replace h := (if_pos hc).symm.trans h
        exact rj_X10_beginNew_60 s.1 _ _ _ _ h KI
      · replace h := (if_neg hc).symm.trans h
        refine zi_aloadn (q := 32) dX10_beginNew_31 rfl rfl ?_
        refine zi_aloadn (q := 33) dX10_beginNew_32 rfl rfl ?_
        refine zi_getA (q := 36) dX10_beginNew_33 fl_10_11 so_60 rfl rfl ?_
        refine zi_aloadn (q := 37) dX10_beginNew_36 rfl rfl ?_
        refine zi_getI (q := 40) dX10_beginNew_37 fl_10_24 (by decide) so_60 rfl ?_
        obtain ⟨hz2, h⟩ := zg_some h
        refine zi_aald2 (q := 41) dX10_beginNew_40 so_61 (zin_vp hz2) rfl rfl ?_
        refine zi_aloadn (q := 42) dX10_beginNew_41 rfl rfl ?_
        refine zi_getA (q := 45) dX10_beginNew_42 fl_10_32 so_44 rfl rfl ?_
        refine zi_iloadn (q := 46) dX10_beginNew_45 rfl rfl ?_
        obtain ⟨hz3, h⟩ := zg_some h
        refine zi_aald2 (q := 47) dX10_beginNew_46 so_45 (zin_vp hz3) rfl rfl ?_
        obtain ⟨m4, hm4, h⟩ := Option.bind_eq_some_iff.mp h
        refine zc_V2 (q := 50) (st := []) (S1 := []) (r_X10_begin (s.2.2.2 61 ((s.2.1 60 1).toNatClampNeg)) (s.2.2.2 45 s.1.toNatClampNeg) _ m4 hm4) dX10_beginNew_47 cb_X10_begin k4_16 k4_18 ks_X10_begin ⟨by decide, by decide⟩ so_60 rfl rfl rfl (Nat.le_of_ble_eq_true rfl) (Or.inl rfl) rfl rfl ?_
        refine zi_aloadn (q := 51) dX10_beginNew_50 rfl rfl ?_
        refine zi_dup (q := 52) dX10_beginNew_51 rfl rfl ?_
        refine zi_getI (q := 55) dX10_beginNew_52 fl_10_24 (by decide) so_60 rfl ?_
        refine zi_iconst (q := 56) dX10_beginNew_55 ki_1 rfl ?_
        refine zi_iadd (q := 57) dX10_beginNew_56 rfl ?_
        refine zi_putI (q := 60) dX10_beginNew_57 pl_10_24 so_60 rfl ?_
        exact rj_X10_beginNew_60 s.1 _ _ _ _ h KI
set_option maxRecDepth 20000 in
theorem r_X10_beginNew {E : Nat × (Nat → Int32)}  (m : zM) (x : zM) (h : f_X10_beginNew  m = some x) : zMet E zX10_beginNew [.ref 60, .ref 44] zSH m none zSH x := by
  refine zMet.of (L0 := [some (.ref 60), some (.ref 44), none]) rfl trivial (Nat.le_of_ble_eq_true rfl) rfl ?_
  unfold f_X10_beginNew at h
  refine zi_iconst (q := 1) dX10_beginNew_0 ki_0 rfl ?_
  refine zi_istoren (q := 2) (L' := [some (.ref 60), some (.ref 44), some (.int 0)]) dX10_beginNew_1 (by decide) rfl rfl rfl ?_
  obtain ⟨r5, hr5, h⟩ := Option.bind_eq_some_iff.mp h
  refine zloop_rn (P := fun w : (Int32 × zM) => Rn E zX10_beginNew 2 [some (.ref 60), some (.ref 44), some (.int w.1)] [] zSH w.2 none zSH x) (X := fun w : (zM) => Rn E zX10_beginNew 66 [none, none, none] [] zSH w none zSH x) (fun w w0 hb KI KX => rb_X10_beginNew_2  w _ _ w0 hb KI KX) zFU _ r5 hr5 ?_
  show Rn E zX10_beginNew 66 [none, none, none] [] zSH r5 none zSH x
  cases h
  exact zi_ret _ dX10_beginNew_66
set_option maxRecDepth 20000 in
theorem rb_X1_meets_v1_10 {E : Nat × (Nat → Int32)} (x1 : Int32) (m : zM) (s : (Int32)) (rv : Option Value) (m' : zM) (x : ((Int32) ⊕ (Unit ⊕ Bool))) (h : b_X1_meets_v1_10 x1 m s = some x) (KI : ∀ s1 : (Int32), x = .inl s1 → Rn E zX1_meets 10 [some (.ref 14), some (.int x1), some (.ref 53), some (.int s1)] [] zSH m rv zSH m') (KO : ∀ r1 : Unit, x = .inr (.inl r1) → Rn E zX1_meets 39 [none, none, none, none] [] zSH m rv zSH m') (KR : ∀ v : Bool, x = .inr (.inr v) → rv = some (.int (bi v)) ∧ m' = m) : Rn E zX1_meets 10 [some (.ref 14), some (.int x1), some (.ref 53), some (.int s)] [] zSH m rv zSH m' := by
  unfold b_X1_meets_v1_10 at h
  refine zi_iloadn (q := 11) dX1_meets_10 rfl rfl ?_
  refine zi_aloadn (q := 12) dX1_meets_11 rfl rfl ?_
  refine zi_getA (q := 15) dX1_meets_12 fl_1_18 so_14 rfl rfl ?_
  refine zi_iloadn (q := 16) dX1_meets_15 rfl rfl ?_
  obtain ⟨hz2, h⟩ := zg_some h
  refine zi_iald2 (q := 17) dX1_meets_16 so_17 (zin_vp hz2) rfl rfl ?_
  refine zi_icmpge (q := 39) (q2 := 20) dX1_meets_17 (by decide) rfl (fun hc => ?_) (fun hc => ?_)
  · replace h := (if_pos hc).symm.trans h
    refine Rn.weakm [false, false, false, false] ?_
    exact KO () (Option.some.inj h).symm
  · replace h := (if_neg hc).symm.trans h
    refine zi_aloadn (q := 21) dX1_meets_20 rfl rfl ?_
    refine zi_aloadn (q := 22) dX1_meets_21 rfl rfl ?_
    refine zi_iloadn (q := 23) dX1_meets_22 rfl rfl ?_
    refine zi_iloadn (q := 24) dX1_meets_23 rfl rfl ?_
    obtain ⟨r3, hr3, h⟩ := Option.bind_eq_some_iff.mp h
    refine zc_V2 (q := 27) (st := [.ref 53]) (S1 := [.int r3, .ref 53]) (r_X1_neighbour x1 s _ r3 hr3) dX1_meets_24 cb_X1_neighbour k3_131 k3_132 k3_133 ⟨by decide, by decide⟩ so_14 rfl rfl rfl (Nat.le_of_ble_eq_true rfl) (Or.inl rfl) rfl rfl ?_
    obtain ⟨hz4, h⟩ := zg_some h
    refine zi_bald2 (q := 28) dX1_meets_27 so_53 (zin_vp hz4) rfl rfl ?_
    refine zi_ifeq (q := 33) (q2 := 31) dX1_meets_28 (by decide) rfl (fun hc => ?_) (fun hc => ?_)
    · replace h := (if_pos hc).symm.trans h
      refine zi_iinc (q := 36) (v := s + 1) (L' := [some (.ref 14), some (.int x1), some (.ref 53), some (.int (s + 1))]) dX1_meets_33 rfl (by rw [ki_1]) (by decide) rfl rfl rfl ?_
      refine zi_goto (q := 10) dX1_meets_36 (by decide) ?_
      exact KI (s + 1) (Option.some.inj h).symm
    · replace h := (if_neg hc).symm.trans h
      refine zi_iconst (q := 32) dX1_meets_31 ki_1 rfl ?_
      obtain ⟨e1, e2⟩ := KR _ (Option.some.inj h).symm
      rw [e1, e2]
      exact zi_ret _ dX1_meets_32
set_option maxRecDepth 20000 in
theorem r_X1_meets_v1 {E : Nat × (Nat → Int32)} (x1 : Int32) (m : zM) (x : Bool) (h : f_X1_meets_v1 x1 m = some x) : zMet E zX1_meets [.ref 14, .int x1, .ref 53] zSH m (some (.int (bi x))) zSH m := by
  refine zMet.of (L0 := [some (.ref 14), some (.int x1), some (.ref 53), none]) rfl (zfit_bi _) (Nat.le_of_ble_eq_true rfl) rfl ?_
  unfold f_X1_meets_v1 at h
  refine zi_aloadn (q := 1) dX1_meets_0 rfl rfl ?_
  refine zi_iloadn (q := 2) dX1_meets_1 rfl rfl ?_
  obtain ⟨hz1, h⟩ := zg_some h
  refine zi_bald2 (q := 3) dX1_meets_2 so_53 (zin_vp hz1) rfl rfl ?_
  refine zi_ifeq (q := 8) (q2 := 6) dX1_meets_3 (by decide) rfl (fun hc => ?_) (fun hc => ?_)
  · replace h := (if_pos hc).symm.trans h
    refine zi_iconst (q := 9) dX1_meets_8 ki_0 rfl ?_
    refine zi_istoren (q := 10) (L' := [some (.ref 14), some (.int x1), some (.ref 53), some (.int 0)]) dX1_meets_9 (by decide) rfl rfl rfl ?_
    obtain ⟨r5, hr5, h⟩ := Option.bind_eq_some_iff.mp h
    refine zloop_rn (P := fun w : (Int32) => Rn E zX1_meets 10 [some (.ref 14), some (.int x1), some (.ref 53), some (.int w)] [] zSH m (some (.int (bi x))) zSH m) (X := Sum.elim (fun w : Unit => Rn E zX1_meets 39 [none, none, none, none] [] zSH m (some (.int (bi x))) zSH m) (fun v : Bool => (some (Value.int (bi x))) = some (Value.int (bi v)) ∧ m = m)) (fun w w0 hb KI KX => rb_X1_meets_v1_10 x1 m w _ _ w0 hb KI (fun w1 e => KX (.inl w1) e) (fun w1 e => KX (.inr w1) e)) zFU _ r5 hr5 ?_
    rcases r5 with r5 | v6
    · replace h := (zelim_l).symm.trans h
      show Rn E zX1_meets 39 [none, none, none, none] [] zSH m (some (.int (bi x))) zSH m
      refine zi_iconst (q := 40) dX1_meets_39 ki_0 rfl ?_
      cases h
      exact zi_ret _ dX1_meets_40
    · replace h := (zelim_r).symm.trans h
      cases h
      exact ⟨rfl, rfl⟩
  · replace h := (if_neg hc).symm.trans h
    refine zi_iconst (q := 7) dX1_meets_6 ki_1 rfl ?_
    cases h
    exact zi_ret _ dX1_meets_7
set_option maxRecDepth 20000 in
theorem rj_X9_driftBaselines_60 {E : Nat × (Nat → Int32)} (x2 : Int32) (x3 : Int32) (m : zM) (rv : Option Value) (m' : zM) (x : ((Int32 × zM) ⊕ (zM))) (h : j_X9_driftBaselines_60 x2 x3 m = some x) (KI : ∀ s1 : (Int32 × zM), x = .inl s1 → Rn E zX9_driftBaselines 2 [some (.ref 31), some (.ref 53), some (.int x2), some (.int s1.1), none] [] zSH s1.2 rv zSH m') : Rn E zX9_driftBaselines 60 [some (.ref 31), some (.ref 53), some (.int x2), some (.int x3), none] [] zSH m rv zSH m' := by
  unfold j_X9_driftBaselines_60 at h
  refine zi_iinc (q := 63) (v := x3 + 1) (L' := [some (.ref 31), some (.ref 53), some (.int x2), some (.int (x3 + 1)), none]) dX9_driftBaselines_60 rfl (by rw [ki_1]) (by decide) rfl rfl rfl ?_
  refine zi_goto (q := 2) dX9_driftBaselines_63 (by decide) ?_
  exact KI ((x3 + 1), m) (Option.some.inj h).symm
set_option maxRecDepth 20000 in
theorem rb_X9_driftBaselines_2 {E : Nat × (Nat → Int32)} (x2 : Int32)  (s : (Int32 × zM)) (rv : Option Value) (m' : zM) (x : ((Int32 × zM) ⊕ (zM))) (h : b_X9_driftBaselines_2 x2 s = some x) (KI : ∀ s1 : (Int32 × zM), x = .inl s1 → Rn E zX9_driftBaselines 2 [some (.ref 31), some (.ref 53), some (.int x2), some (.int s1.1), none] [] zSH s1.2 rv zSH m') (KO : ∀ r1 : (zM), x = .inr r1 → Rn E zX9_driftBaselines 66 [none, none, none, none, none] [] zSH r1 rv zSH m') : Rn E zX9_driftBaselines 2 [some (.ref 31), some (.ref 53), some (.int x2), some (.int s.1), none] [] zSH s.2 rv zSH m' := by
  unfold b_X9_driftBaselines_2 at h
  refine zi_iloadn (q := 3) dX9_driftBaselines_2 rfl rfl ?_
  refine zi_aloadn (q := 4) dX9_driftBaselines_3 rfl rfl ?_
  refine zi_getA (q := 7) dX9_driftBaselines_4 fl_9_31 so_31 rfl rfl ?_
  refine zi_getI (q := 10) dX9_driftBaselines_7 fl_9_41 (by decide) so_14 rfl ?_
  refine zi_icmpge (q := 66) (q2 := 13) dX9_driftBaselines_10 (by decide) rfl (fun hc => ?_) (fun hc => ?_)
  · replace h := (if_pos hc).symm.trans h
    refine Rn.weakm [false, false, false, false, false] ?_
    exact KO s.2 (Option.some.inj h).symm
  · replace h := (if_neg hc).symm.trans h
    refine zi_aloadn (q := 14) dX9_driftBaselines_13 rfl rfl ?_
    refine zi_getA (q := 17) dX9_driftBaselines_14 fl_9_31 so_31 rfl rfl ?_
    refine zi_iloadn (q := 18) dX9_driftBaselines_17 rfl rfl ?_
    refine zi_aloadn (q := 19) dX9_driftBaselines_18 rfl rfl ?_
    obtain ⟨r1, hr1, h⟩ := Option.bind_eq_some_iff.mp h
    refine zc_V2 (q := 22) (st := []) (S1 := [.int (bi r1)]) (r_X1_meets_v1 s.1 _ r1 hr1) dX9_driftBaselines_19 cb_X1_meets k3_127 k3_128 k3_129 ⟨by decide, by decide⟩ so_14 rfl rfl rfl (Nat.le_of_ble_eq_true rfl) (Or.inl rfl) rfl rfl ?_
    refine zi_ifne (q := 60) (q2 := 25) dX9_driftBaselines_22 (by decide) rfl (fun hc => ?_) (fun hc => ?_)
    · replace h := (if_neg hc).symm.trans h
      exact rj_X9_driftBaselines_60 x2 s.1 _ _ _ _ h KI
    · replace h := (if_pos hc).symm.trans h
      refine zi_aloadn (q := 26) dX9_driftBaselines_25 rfl rfl ?_
      refine zi_getA (q := 29) dX9_driftBaselines_26 fl_9_21 so_31 rfl rfl ?_
      refine zi_iloadn (q := 30) dX9_driftBaselines_29 rfl rfl ?_
      obtain ⟨hz2, h⟩ := zg_some h
      refine zi_iald2 (q := 31) dX9_driftBaselines_30 so_35 (zin_vp hz2) rfl rfl ?_
      refine zi_aloadn (q := 32) dX9_driftBaselines_31 rfl rfl ?_
      refine zi_getA (q := 35) dX9_driftBaselines_32 fl_9_15 so_31 rfl rfl ?_
      refine zi_iloadn (q := 36) dX9_driftBaselines_35 rfl rfl ?_
      obtain ⟨hz3, h⟩ := zg_some h
      refine zi_iald2 (q := 37) dX9_driftBaselines_36 so_33 (zin_vp hz3) rfl rfl ?_
      refine zi_isub (q := 38) dX9_driftBaselines_37 rfl ?_
      refine zi_istore (q := 40) (L' := [some (.ref 31), some (.ref 53), some (.int x2), some (.int s.1), some (.int ((s.2.1 35 s.1.toNatClampNeg) - (s.2.1 33 s.1.toNatClampNeg)))]) dX9_driftBaselines_38 (by decide) rfl rfl rfl ?_
      refine zi_aloadn (q := 41) dX9_driftBaselines_40 rfl rfl ?_
      refine zi_getA (q := 44) dX9_driftBaselines_41 fl_9_15 so_31 rfl rfl ?_
      refine zi_iloadn (q := 45) dX9_driftBaselines_44 rfl rfl ?_
      refine zi_dup2 (q := 46) dX9_driftBaselines_45 rfl rfl rfl ?_
      obtain ⟨hz4, h⟩ := zg_some h
      refine zi_iald2 (q := 47) dX9_driftBaselines_46 so_33 (zin_vp hz4) rfl rfl ?_
      refine zi_iloadn (q := 48) dX9_driftBaselines_47 rfl rfl ?_
      refine zi_ineg (q := 49) dX9_driftBaselines_48 rfl ?_
      refine zi_iloadn (q := 50) dX9_driftBaselines_49 rfl rfl ?_
      refine zi_iload (q := 52) dX9_driftBaselines_50 rfl rfl ?_
      obtain ⟨r5, hr5, h⟩ := Option.bind_eq_some_iff.mp h
      refine zc_S2 (q := 55) (st := [.int (-x2), .int (s.2.1 33 s.1.toNatClampNeg), .int s.1, .ref 33]) (S1 := [.int r5, .int (-x2), .int (s.2.1 33 s.1.toNatClampNeg), .int s.1, .ref 33]) (r_J9_min_7cf53 x2 ((s.2.1 35 s.1.toNatClampNeg) - (s.2.1 33 s.1.toNatClampNeg)) _ r5 hr5) dX9_driftBaselines_52 cb_J9_min_7cf53 k3_69 k3_24 ⟨by decide, by decide⟩ rfl (Nat.le_of_ble_eq_true rfl) (Or.inl rfl) rfl rfl ?_
      obtain ⟨r6, hr6, h⟩ := Option.bind_eq_some_iff.mp h
      refine zc_S2 (q := 58) (st := [.int (s.2.1 33 s.1.toNatClampNeg), .int s.1, .ref 33]) (S1 := [.int r6, .int (s.2.1 33 s.1.toNatClampNeg), .int s.1, .ref 33]) (r_J9_max_7cf53 (-x2) r5 _ r6 hr6) dX9_driftBaselines_55 cb_J9_max_7cf53 k3_70 k3_0 ⟨by decide, by decide⟩ rfl (Nat.le_of_ble_eq_true rfl) (Or.inl rfl) rfl rfl ?_
      refine zi_iadd (q := 59) dX9_driftBaselines_58 rfl ?_
      obtain ⟨hz7, h⟩ := zg_some h
      refine zi_iast2 (q := 60) dX9_driftBaselines_59 so_33 (zin_vp hz7) rfl rfl ?_
      refine Rn.weakm [true, true, true, true, false] ?_
      exact rj_X9_driftBaselines_60 x2 s.1 _ _ _ _ h KI
set_option maxRecDepth 20000 in
theorem r_X9_driftBaselines {E : Nat × (Nat → Int32)} (x2 : Int32) (m : zM) (x : zM) (h : f_X9_driftBaselines x2 m = some x) : zMet E zX9_driftBaselines [.ref 31, .ref 53, .int x2] zSH m none zSH x := by
  refine zMet.of (L0 := [some (.ref 31), some (.ref 53), some (.int x2), none, none]) rfl trivial (Nat.le_of_ble_eq_true rfl) rfl ?_
  unfold f_X9_driftBaselines at h
  refine zi_iconst (q := 1) dX9_driftBaselines_0 ki_0 rfl ?_
  refine zi_istoren (q := 2) (L' := [some (.ref 31), some (.ref 53), some (.int x2), some (.int 0), none]) dX9_driftBaselines_1 (by decide) rfl rfl rfl ?_
  obtain ⟨r8, hr8, h⟩ := Option.bind_eq_some_iff.mp h
  refine zloop_rn (P := fun w : (Int32 × zM) => Rn E zX9_driftBaselines 2 [some (.ref 31), some (.ref 53), some (.int x2), some (.int w.1), none] [] zSH w.2 none zSH x) (X := fun w : (zM) => Rn E zX9_driftBaselines 66 [none, none, none, none, none] [] zSH w none zSH x) (fun w w0 hb KI KX => rb_X9_driftBaselines_2 x2 w _ _ w0 hb KI KX) zFU _ r8 hr8 ?_
  show Rn E zX9_driftBaselines 66 [none, none, none, none, none] [] zSH r8 none zSH x
  cases h
  exact zi_ret _ dX9_driftBaselines_66
set_option maxRecDepth 20000 in
theorem rj_X0_activateNext_19 {E : Nat × (Nat → Int32)} (s0 : Int32) (m : zM)  (x : zM) (h : j_X0_activateNext_19 s0 m = some x) : Rn E zX0_activateNext 19 [none] [.int s0, .ref 24] zSH m none zSH x := by
  unfold j_X0_activateNext_19 at h
  refine zi_putI (q := 22) dX0_activateNext_19 pl_0_21 so_24 rfl ?_
  cases h
  exact zi_ret _ dX0_activateNext_22
set_option maxRecDepth 20000 in
theorem r_X0_activateNext {E : Nat × (Nat → Int32)}  (m : zM) (x : zM) (h : f_X0_activateNext  m = some x) : zMet E zX0_activateNext [.ref 24] zSH m none zSH x := by
  refine zMet.of (L0 := [some (.ref 24)]) rfl trivial (Nat.le_of_ble_eq_true rfl) rfl ?_
  unfold f_X0_activateNext at h
  refine zi_aloadn (q := 1) dX0_activateNext_0 rfl rfl ?_
  refine zi_aloadn (q := 2) dX0_activateNext_1 rfl rfl ?_
  refine zi_getI (q := 5) dX0_activateNext_2 fl_0_21 (by decide) so_24 rfl ?_
  refine zi_iconst (q := 6) dX0_activateNext_5 ki_2 rfl ?_
  refine zi_icmpge (q := 18) (q2 := 9) dX0_activateNext_6 (by decide) rfl (fun hc => ?_) (fun hc => ?_)
  · replace h := (if_pos hc).symm.trans h
    refine zi_iconst (q := 19) dX0_activateNext_18 ki_0 rfl ?_
    refine Rn.weakm [false] ?_
    exact rj_X0_activateNext_19 0 _ _ h
  · replace h := (if_neg hc).symm.trans h
    refine zi_aloadn (q := 10) dX0_activateNext_9 rfl rfl ?_
    refine zi_getI (q := 13) dX0_activateNext_10 fl_0_21 (by decide) so_24 rfl ?_
    refine zi_iconst (q := 14) dX0_activateNext_13 ki_1 rfl ?_
    refine zi_iadd (q := 15) dX0_activateNext_14 rfl ?_
    refine zi_goto (q := 19) dX0_activateNext_15 (by decide) ?_
    refine Rn.weakm [false] ?_
    exact rj_X0_activateNext_19 ((m.1 24 1) + 1) _ _ h
set_option maxRecDepth 20000 in
theorem rj_X7_runFrame_68 {E : Nat × (Nat → Int32)} (s0 : Int32) (m : zM)  (x : zM) (h : j_X7_runFrame_68 s0 m = some x) : Rn E zX7_runFrame 68 [some (.ref 13)] [.int s0, .ref 13] zSH m none zSH x := by
  unfold j_X7_runFrame_68 at h
  obtain ⟨hz3, h⟩ := zg_some h
  refine zi_putZ (q := 71) dX7_runFrame_68 pl_7_109 so_13 hz3 rfl ?_
  refine zi_aloadn (q := 72) dX7_runFrame_71 rfl rfl ?_
  refine zi_getI (q := 75) dX7_runFrame_72 fl_7_109 (by decide) so_13 rfl ?_
  refine zi_ifeq (q := 103) (q2 := 78) dX7_runFrame_75 (by decide) rfl (fun hc => ?_) (fun hc => ?_)
  · replace h := (if_pos hc).symm.trans h
    refine zi_aloadn (q := 104) dX7_runFrame_103 rfl rfl ?_
    refine zi_getA (q := 107) dX7_runFrame_104 fl_7_55 so_13 rfl rfl ?_
    refine zi_aloadn (q := 108) dX7_runFrame_107 rfl rfl ?_
    refine zi_getA (q := 111) dX7_runFrame_108 fl_7_48 so_13 rfl rfl ?_
    refine zi_aloadn (q := 112) dX7_runFrame_111 rfl rfl ?_
    refine zi_getA (q := 115) dX7_runFrame_112 fl_7_32 so_13 rfl rfl ?_
    refine zi_iconst (q := 116) dX7_runFrame_115 ki_2 rfl ?_
    refine zi_iald2 (q := 117) dX7_runFrame_116 so_26 vi_2_9 ix_2 rfl ?_
    obtain ⟨m4, hm4, h⟩ := Option.bind_eq_some_iff.mp h
    refine zc_V2 (q := 120) (st := []) (S1 := []) (r_X3_form (m.1 26 2) _ m4 hm4) dX7_runFrame_117 cb_X3_form k3_139 k3_140 k3_141 ⟨by decide, by decide⟩ so_38 rfl rfl rfl (Nat.le_of_ble_eq_true rfl) (Or.inl rfl) rfl rfl ?_
    refine zi_aloadn (q := 121) dX7_runFrame_120 rfl rfl ?_
    refine zi_getA (q := 124) dX7_runFrame_121 fl_7_62 so_13 rfl rfl ?_
    refine zi_aloadn (q := 125) dX7_runFrame_124 rfl rfl ?_
    refine zi_getA (q := 128) dX7_runFrame_125 fl_7_55 so_13 rfl rfl ?_
    refine zi_aloadn (q := 129) dX7_runFrame_128 rfl rfl ?_
    refine zi_getA (q := 132) dX7_runFrame_129 fl_7_48 so_13 rfl rfl ?_
    refine zi_getA (q := 135) dX7_runFrame_132 fl_7_144 so_31 rfl rfl ?_
    refine zi_aloadn (q := 136) dX7_runFrame_135 rfl rfl ?_
    refine zi_getA (q := 139) dX7_runFrame_136 fl_7_32 so_13 rfl rfl ?_
    refine zi_iconst (q := 140) dX7_runFrame_139 ki_0 rfl ?_
    refine zi_iald2 (q := 141) dX7_runFrame_140 so_26 vi_0_9 ix_0 rfl ?_
    obtain ⟨m5, hm5, h⟩ := Option.bind_eq_some_iff.mp h
    refine zc_V2 (q := 144) (st := []) (S1 := []) (r_X8_choose (m4.1 26 0) _ m5 hm5) dX7_runFrame_141 cb_X8_choose k3_179 k3_180 k3_181 ⟨by decide, by decide⟩ so_44 rfl rfl rfl (Nat.le_of_ble_eq_true rfl) (Or.inl rfl) rfl rfl ?_
    refine zi_aloadn (q := 145) dX7_runFrame_144 rfl rfl ?_
    refine zi_getA (q := 148) dX7_runFrame_145 fl_7_39 so_13 rfl rfl ?_
    refine zi_aloadn (q := 149) dX7_runFrame_148 rfl rfl ?_
    refine zi_getA (q := 152) dX7_runFrame_149 fl_7_71 so_13 rfl rfl ?_
    refine zi_aloadn (q := 153) dX7_runFrame_152 rfl rfl ?_
    refine zi_getA (q := 156) dX7_runFrame_153 fl_7_62 so_13 rfl rfl ?_
    refine zi_aloadn (q := 157) dX7_runFrame_156 rfl rfl ?_
    refine zi_getA (q := 160) dX7_runFrame_157 fl_7_32 so_13 rfl rfl ?_
    refine zi_iconst (q := 161) dX7_runFrame_160 ki_4 rfl ?_
    refine zi_iald2 (q := 162) dX7_runFrame_161 so_26 vi_4_9 ix_4 rfl ?_
    obtain ⟨m6, hm6, h⟩ := Option.bind_eq_some_iff.mp h
    refine zc_V2 (q := 165) (st := []) (S1 := []) (r_X6_solve (m5.1 26 4) _ m6 hm6) dX7_runFrame_162 cb_X6_solve k3_203 k3_204 k3_205 ⟨by decide, by decide⟩ so_27 rfl rfl rfl (Nat.le_of_ble_eq_true rfl) (Or.inl rfl) rfl rfl ?_
    refine zi_aloadn (q := 166) dX7_runFrame_165 rfl rfl ?_
    refine zi_getA (q := 169) dX7_runFrame_166 fl_7_71 so_13 rfl rfl ?_
    refine zi_aloadn (q := 170) dX7_runFrame_169 rfl rfl ?_
    refine zi_getA (q := 173) dX7_runFrame_170 fl_7_62 so_13 rfl rfl ?_
    refine zi_aloadn (q := 174) dX7_runFrame_173 rfl rfl ?_
    refine zi_getA (q := 177) dX7_runFrame_174 fl_7_39 so_13 rfl rfl ?_
    refine zi_getA (q := 180) dX7_runFrame_177 fl_7_155 so_27 rfl rfl ?_
    refine zi_aloadn (q := 181) dX7_runFrame_180 rfl rfl ?_
    refine zi_getI (q := 184) dX7_runFrame_181 fl_7_112 (by decide) so_13 rfl ?_
    obtain ⟨m7, hm7, h⟩ := Option.bind_eq_some_iff.mp h
    refine zc_V2 (q := 187) (st := []) (S1 := []) (r_X10_follow (m6.1 13 14) _ m7 hm7) dX7_runFrame_184 cb_X10_follow k3_226 k3_227 k3_228 ⟨by decide, by decide⟩ so_60 rfl rfl rfl (Nat.le_of_ble_eq_true rfl) (Or.inl rfl) rfl rfl ?_
    refine zi_aloadn (q := 188) dX7_runFrame_187 rfl rfl ?_
    refine zi_getA (q := 191) dX7_runFrame_188 fl_7_71 so_13 rfl rfl ?_
    refine zi_aloadn (q := 192) dX7_runFrame_191 rfl rfl ?_
    refine zi_getA (q := 195) dX7_runFrame_192 fl_7_62 so_13 rfl rfl ?_
    obtain ⟨m8, hm8, h⟩ := Option.bind_eq_some_iff.mp h
    refine zc_V2 (q := 198) (st := []) (S1 := []) (r_X10_beginNew  _ m8 hm8) dX7_runFrame_195 cb_X10_beginNew k4_12 k4_13 k4_14 ⟨by decide, by decide⟩ so_60 rfl rfl rfl (Nat.le_of_ble_eq_true rfl) (Or.inl rfl) rfl rfl ?_
    refine zi_aloadn (q := 199) dX7_runFrame_198 rfl rfl ?_
    refine zi_getA (q := 202) dX7_runFrame_199 fl_7_48 so_13 rfl rfl ?_
    refine zi_aloadn (q := 203) dX7_runFrame_202 rfl rfl ?_
    refine zi_getA (q := 206) dX7_runFrame_203 fl_7_62 so_13 rfl rfl ?_
    refine zi_getA (q := 209) dX7_runFrame_206 fl_7_166 so_44 rfl rfl ?_
    refine zi_aloadn (q := 210) dX7_runFrame_209 rfl rfl ?_
    refine zi_getA (q := 213) dX7_runFrame_210 fl_7_32 so_13 rfl rfl ?_
    refine zi_bipush (q := 215) dX7_runFrame_213 kb_7 rfl ?_
    refine zi_iald2 (q := 216) dX7_runFrame_215 so_26 vi_7_9 ix_7 rfl ?_
    obtain ⟨m9, hm9, h⟩ := Option.bind_eq_some_iff.mp h
    refine zc_V2 (q := 219) (st := []) (S1 := []) (r_X9_driftBaselines (m8.1 26 7) _ m9 hm9) dX7_runFrame_216 cb_X9_driftBaselines k4_20 k4_21 k4_22 ⟨by decide, by decide⟩ so_31 rfl rfl rfl (Nat.le_of_ble_eq_true rfl) (Or.inl rfl) rfl rfl ?_
    cases h
    exact zi_ret _ dX7_runFrame_219
  · replace h := (if_neg hc).symm.trans h
    refine zi_aloadn (q := 79) dX7_runFrame_78 rfl rfl ?_
    refine zi_dup (q := 80) dX7_runFrame_79 rfl rfl ?_
    refine zi_getI (q := 83) dX7_runFrame_80 fl_7_134 (by decide) so_13 rfl ?_
    refine zi_iconst (q := 84) dX7_runFrame_83 ki_1 rfl ?_
    refine zi_iadd (q := 85) dX7_runFrame_84 rfl ?_
    refine zi_putI (q := 88) dX7_runFrame_85 pl_7_134 so_13 rfl ?_
    refine zi_aloadn (q := 89) dX7_runFrame_88 rfl rfl ?_
    refine zi_getA (q := 92) dX7_runFrame_89 fl_7_28 so_13 rfl rfl ?_
    obtain ⟨m10, hm10, h⟩ := Option.bind_eq_some_iff.mp h
    refine zc_V2 (q := 95) (st := []) (S1 := []) (r_X0_activateNext  _ m10 hm10) dX7_runFrame_92 cb_X0_activateNext k3_135 k3_136 k3_137 ⟨by decide, by decide⟩ so_24 rfl rfl rfl (Nat.le_of_ble_eq_true rfl) (Or.inl rfl) rfl rfl ?_
    refine zi_aloadn (q := 96) dX7_runFrame_95 rfl rfl ?_
    refine zi_getA (q := 99) dX7_runFrame_96 fl_7_62 so_13 rfl rfl ?_
    obtain ⟨m11, hm11, h⟩ := Option.bind_eq_some_iff.mp h
    refine zc_V2 (q := 102) (st := []) (S1 := []) (r_X8_clear  _ m11 hm11) dX7_runFrame_99 cb_X8_clear k3_47 k3_48 k3_49 ⟨by decide, by decide⟩ so_44 rfl rfl rfl (Nat.le_of_ble_eq_true rfl) (Or.inl rfl) rfl rfl ?_
    cases h
    exact zi_ret _ dX7_runFrame_102
set_option maxRecDepth 20000 in
theorem r_X7_runFrame {E : Nat × (Nat → Int32)}  (m : zM) (x : zM) (h : f_X7_runFrame  m = some x) : zMet E zX7_runFrame [.ref 13] zSH m none zSH x := by
  refine zMet.of (L0 := [some (.ref 13)]) rfl trivial (Nat.le_of_ble_eq_true rfl) rfl ?_
  unfold f_X7_runFrame at h
  refine zi_aloadn (q := 1) dX7_runFrame_0 rfl rfl ?_
  refine zi_dup (q := 2) dX7_runFrame_1 rfl rfl ?_
  refine zi_getI (q := 5) dX7_runFrame_2 fl_7_112 (by decide) so_13 rfl ?_
  refine zi_iconst (q := 6) dX7_runFrame_5 ki_1 rfl ?_
  refine zi_iadd (q := 7) dX7_runFrame_6 rfl ?_
  refine zi_putI (q := 10) dX7_runFrame_7 pl_7_112 so_13 rfl ?_
  refine zi_aloadn (q := 11) dX7_runFrame_10 rfl rfl ?_
  refine zi_dup (q := 12) dX7_runFrame_11 rfl rfl ?_
  refine zi_getI (q := 15) dX7_runFrame_12 fl_7_123 (by decide) so_13 rfl ?_
  refine zi_iconst (q := 16) dX7_runFrame_15 ki_1 rfl ?_
  refine zi_iadd (q := 17) dX7_runFrame_16 rfl ?_
  refine zi_putI (q := 20) dX7_runFrame_17 pl_7_123 so_13 rfl ?_
  refine zi_aloadn (q := 21) dX7_runFrame_20 rfl rfl ?_
  refine zi_getA (q := 24) dX7_runFrame_21 fl_7_48 so_13 rfl rfl ?_
  refine zi_aloadn (q := 25) dX7_runFrame_24 rfl rfl ?_
  refine zi_getA (q := 28) dX7_runFrame_25 fl_7_28 so_13 rfl rfl ?_
  refine zi_aloadn (q := 29) dX7_runFrame_28 rfl rfl ?_
  refine zi_getA (q := 32) dX7_runFrame_29 fl_7_32 so_13 rfl rfl ?_
  refine zi_iconst (q := 33) dX7_runFrame_32 ki_1 rfl ?_
  refine zi_iald2 (q := 34) dX7_runFrame_33 so_26 vi_1_9 ix_1 rfl ?_
  obtain ⟨m1, hm1, h⟩ := Option.bind_eq_some_iff.mp h
  refine zc_V2 (q := 37) (st := []) (S1 := []) (r_X9_sense (m.1 26 1) _ m1 hm1) dX7_runFrame_34 cb_X9_sense k3_103 k3_104 k3_105 ⟨by decide, by decide⟩ so_31 rfl rfl rfl (Nat.le_of_ble_eq_true rfl) (Or.inl rfl) rfl rfl ?_
  refine zi_aloadn (q := 38) dX7_runFrame_37 rfl rfl ?_
  refine zi_aloadn (q := 39) dX7_runFrame_38 rfl rfl ?_
  refine zi_getA (q := 42) dX7_runFrame_39 fl_7_48 so_13 rfl rfl ?_
  obtain ⟨r2, hr2, h⟩ := Option.bind_eq_some_iff.mp h
  refine zc_V2 (q := 45) (st := [.ref 13]) (S1 := [.int r2, .ref 13]) (r_X9_quietSpread  _ r2 hr2) dX7_runFrame_42 cb_X9_quietSpread k3_123 k3_124 k3_125 ⟨by decide, by decide⟩ so_31 rfl rfl rfl (Nat.le_of_ble_eq_true rfl) (Or.inl rfl) rfl rfl ?_
  refine zi_putI (q := 48) dX7_runFrame_45 pl_7_106 so_13 rfl ?_
  refine zi_aloadn (q := 49) dX7_runFrame_48 rfl rfl ?_
  refine zi_aloadn (q := 50) dX7_runFrame_49 rfl rfl ?_
  refine zi_getI (q := 53) dX7_runFrame_50 fl_7_106 (by decide) so_13 rfl ?_
  refine zi_aloadn (q := 54) dX7_runFrame_53 rfl rfl ?_
  refine zi_getA (q := 57) dX7_runFrame_54 fl_7_32 so_13 rfl rfl ?_
  refine zi_bipush (q := 59) dX7_runFrame_57 kb_8 rfl ?_
  refine zi_iald2 (q := 60) dX7_runFrame_59 so_26 vi_8_9 ix_8 rfl ?_
  refine zi_icmple (q := 67) (q2 := 63) dX7_runFrame_60 (by decide) rfl (fun hc => ?_) (fun hc => ?_)
  · replace h := (if_pos hc).symm.trans h
    refine zi_iconst (q := 68) dX7_runFrame_67 ki_0 rfl ?_
    exact rj_X7_runFrame_68 0 _ _ h
  · replace h := (if_neg hc).symm.trans h
    refine zi_iconst (q := 64) dX7_runFrame_63 ki_1 rfl ?_
    refine zi_goto (q := 68) dX7_runFrame_64 (by decide) ?_
    exact rj_X7_runFrame_68 1 _ _ h
set_option maxRecDepth 20000 in
theorem rb_X11_frames_38 {E : Nat × (Nat → Int32)} (x1 : Int32) (x2 : Int32)  (s : (Int32 × zM)) (rv : Option Value) (m' : zM) (x : ((Int32 × zM) ⊕ (zM))) (h : b_X11_frames_38 x1 x2 s = some x) (KI : ∀ s1 : (Int32 × zM), x = .inl s1 → Rn E zX11_frames 38 [some (.ref 0), some (.int x1), some (.int x2), some (.int s1.1)] [] zSH s1.2 rv zSH m') (KO : ∀ r1 : (zM), x = .inr r1 → Rn E zX11_frames 56 [some (.ref 0), none, some (.int x2), none] [] zSH r1 rv zSH m') : Rn E zX11_frames 38 [some (.ref 0), some (.int x1), some (.int x2), some (.int s.1)] [] zSH s.2 rv zSH m' := by
  unfold b_X11_frames_38 at h
  refine zi_iloadn (q := 39) dX11_frames_38 rfl rfl ?_
  refine zi_iloadn (q := 40) dX11_frames_39 rfl rfl ?_
  refine zi_icmpge (q := 56) (q2 := 43) dX11_frames_40 (by decide) rfl (fun hc => ?_) (fun hc => ?_)
  · replace h := (if_pos hc).symm.trans h
    refine Rn.weakm [true, false, true, false] ?_
    exact KO s.2 (Option.some.inj h).symm
  · replace h := (if_neg hc).symm.trans h
    refine zi_aloadn (q := 44) dX11_frames_43 rfl rfl ?_
    refine zi_getA (q := 47) dX11_frames_44 fl_11_28 so_0 rfl rfl ?_
    obtain ⟨m2, hm2, h⟩ := Option.bind_eq_some_iff.mp h
    refine zc_V2 (q := 50) (st := []) (S1 := []) (r_X7_runFrame  _ m2 hm2) dX11_frames_47 cb_X7_runFrame k3_99 k3_100 k3_101 ⟨by decide, by decide⟩ so_13 rfl rfl rfl (Nat.le_of_ble_eq_true rfl) (Or.inl rfl) rfl rfl ?_
    refine zi_iinc (q := 53) (v := s.1 + 1) (L' := [some (.ref 0), some (.int x1), some (.int x2), some (.int (s.1 + 1))]) dX11_frames_50 rfl (by rw [ki_1]) (by decide) rfl rfl rfl ?_
    refine zi_goto (q := 38) dX11_frames_53 (by decide) ?_
    exact KI ((s.1 + 1), m2) (Option.some.inj h).symm
set_option maxRecDepth 20000 in
theorem r_X11_frames {E : Nat × (Nat → Int32)} (x1 : Int32) (m : zM) (x : (Int32 × zM)) (h : f_X11_frames x1 m = some x) : zMet E zX11_frames [.ref 0, .int x1] zSH m (some (.int x.1)) zSH x.2 := by
  refine zMet.of (L0 := [some (.ref 0), some (.int x1), none, none]) rfl rfl (Nat.le_of_ble_eq_true rfl) rfl ?_
  unfold f_X11_frames at h
  refine zi_aloadn (q := 1) dX11_frames_0 rfl rfl ?_
  refine zi_getA (q := 4) dX11_frames_1 fl_11_28 so_0 rfl rfl ?_
  refine zi_getI (q := 7) dX11_frames_4 fl_11_44 (by decide) so_13 rfl ?_
  refine zi_ifne (q := 14) (q2 := 10) dX11_frames_7 (by decide) rfl (fun hc => ?_) (fun hc => ?_)
  · replace h := (if_neg hc).symm.trans h
    refine zi_iloadn (q := 15) dX11_frames_14 rfl rfl ?_
    refine zi_iconst (q := 16) dX11_frames_15 ki_1 rfl ?_
    refine zi_bipush (q := 18) dX11_frames_16 kb_20 rfl ?_
    obtain ⟨r1, hr1, h⟩ := Option.bind_eq_some_iff.mp h
    refine zc_S2 (q := 21) (st := []) (S1 := [.int (bi r1)]) (r_X11_within x1 1 20 _ r1 hr1) dX11_frames_18 cb_X11_within k2_174 k2_175 ⟨by decide, by decide⟩ rfl (Nat.le_of_ble_eq_true rfl) (Or.inl rfl) rfl rfl ?_
    refine zi_ifne (q := 28) (q2 := 24) dX11_frames_21 (by decide) rfl (fun hc => ?_) (fun hc => ?_)
    · replace h := (if_neg hc).symm.trans h
      refine zi_aloadn (q := 29) dX11_frames_28 rfl rfl ?_
      refine zi_getA (q := 32) dX11_frames_29 fl_11_19 so_0 rfl rfl ?_
      refine zi_getI (q := 35) dX11_frames_32 fl_11_136 (by decide) so_8 rfl ?_
      refine zi_istoren (q := 36) (L' := [some (.ref 0), some (.int x1), some (.int (m.1 8 4)), none]) dX11_frames_35 (by decide) rfl rfl rfl ?_
      refine zi_iconst (q := 37) dX11_frames_36 ki_0 rfl ?_
      refine zi_istoren (q := 38) (L' := [some (.ref 0), some (.int x1), some (.int (m.1 8 4)), some (.int 0)]) dX11_frames_37 (by decide) rfl rfl rfl ?_
      obtain ⟨r3, hr3, h⟩ := Option.bind_eq_some_iff.mp h
      refine zloop_rn (P := fun w : (Int32 × zM) => Rn E zX11_frames 38 [some (.ref 0), some (.int x1), some (.int (m.1 8 4)), some (.int w.1)] [] zSH w.2 (some (.int x.1)) zSH x.2) (X := fun w : (zM) => Rn E zX11_frames 56 [some (.ref 0), none, some (.int (m.1 8 4)), none] [] zSH w (some (.int x.1)) zSH x.2) (fun w w0 hb KI KX => rb_X11_frames_38 x1 (m.1 8 4) w _ _ w0 hb KI KX) zFU _ r3 hr3 ?_
      show Rn E zX11_frames 56 [some (.ref 0), none, some (.int (m.1 8 4)), none] [] zSH r3 (some (.int x.1)) zSH x.2
      refine zi_aloadn (q := 57) dX11_frames_56 rfl rfl ?_
      refine zi_getA (q := 60) dX11_frames_57 fl_11_19 so_0 rfl rfl ?_
      refine zi_getI (q := 63) dX11_frames_60 fl_11_136 (by decide) so_8 rfl ?_
      refine zi_iloadn (q := 64) dX11_frames_63 rfl rfl ?_
      refine zi_isub (q := 65) dX11_frames_64 rfl ?_
      cases h
      exact zi_ret _ dX11_frames_65
    · replace h := (if_pos hc).symm.trans h
      refine zi_sipush (q := 27) dX11_frames_24 kc_m10002 rfl ?_
      cases h
      exact zi_ret _ dX11_frames_27
  · replace h := (if_pos hc).symm.trans h
    refine zi_sipush (q := 13) dX11_frames_10 kc_m10003 rfl ?_
    cases h
    exact zi_ret _ dX11_frames_13
set_option maxRecDepth 20000 in
theorem r_X12_eventsAll {E : Nat × (Nat → Int32)}  (m : zM) (x : Int32) (h : f_X12_eventsAll  m = some x) : zMet E zX12_eventsAll [.ref 68] zSH m (some (.int x)) zSH m := by
  refine zMet.of (L0 := [some (.ref 68)]) rfl rfl (Nat.le_of_ble_eq_true rfl) rfl ?_
  unfold f_X12_eventsAll at h
  refine zi_aloadn (q := 1) dX12_eventsAll_0 rfl rfl ?_
  refine zi_getA (q := 4) dX12_eventsAll_1 fl_12_101 so_68 rfl rfl ?_
  refine zi_iconst (q := 5) dX12_eventsAll_4 ki_1 rfl ?_
  refine zi_iald2 (q := 6) dX12_eventsAll_5 so_99 vi_1_5 ix_1 rfl ?_
  refine zi_aloadn (q := 7) dX12_eventsAll_6 rfl rfl ?_
  refine zi_getA (q := 10) dX12_eventsAll_7 fl_12_101 so_68 rfl rfl ?_
  refine zi_iconst (q := 11) dX12_eventsAll_10 ki_2 rfl ?_
  refine zi_iald2 (q := 12) dX12_eventsAll_11 so_99 vi_2_5 ix_2 rfl ?_
  refine zi_iadd (q := 13) dX12_eventsAll_12 rfl ?_
  refine zi_aloadn (q := 14) dX12_eventsAll_13 rfl rfl ?_
  refine zi_getA (q := 17) dX12_eventsAll_14 fl_12_101 so_68 rfl rfl ?_
  refine zi_iconst (q := 18) dX12_eventsAll_17 ki_3 rfl ?_
  refine zi_iald2 (q := 19) dX12_eventsAll_18 so_99 vi_3_5 ix_3 rfl ?_
  refine zi_iadd (q := 20) dX12_eventsAll_19 rfl ?_
  refine zi_aloadn (q := 21) dX12_eventsAll_20 rfl rfl ?_
  refine zi_getA (q := 24) dX12_eventsAll_21 fl_12_101 so_68 rfl rfl ?_
  refine zi_iconst (q := 25) dX12_eventsAll_24 ki_4 rfl ?_
  refine zi_iald2 (q := 26) dX12_eventsAll_25 so_99 vi_4_5 ix_4 rfl ?_
  refine zi_iadd (q := 27) dX12_eventsAll_26 rfl ?_
  cases h
  exact zi_ret _ dX12_eventsAll_27
set_option maxRecDepth 20000 in
theorem rj_X12_feltOf_65 {E : Nat × (Nat → Int32)} (s0 : Int32) (m : zM)  (x : Int32) (h : j_X12_feltOf_65 s0 m = some x) : Rn E zX12_feltOf 65 [none, none, none, none, none, none] [.int s0] zSH m (some (.int x)) zSH m := by
  unfold j_X12_feltOf_65 at h
  refine zi_istore (q := 67) (L' := [none, none, none, none, none, some (.int s0)]) dX12_feltOf_65 (by decide) rfl rfl rfl ?_
  refine zi_iload (q := 69) dX12_feltOf_67 rfl rfl ?_
  refine zi_ifle (q := 77) (q2 := 72) dX12_feltOf_69 (by decide) rfl (fun hc => ?_) (fun hc => ?_)
  · replace h := (if_pos hc).symm.trans h
    refine zi_iconst (q := 78) dX12_feltOf_77 ki_0 rfl ?_
    cases h
    exact zi_ret _ dX12_feltOf_78
  · replace h := (if_neg hc).symm.trans h
    refine zi_iload (q := 74) dX12_feltOf_72 rfl rfl ?_
    refine zi_goto (q := 78) dX12_feltOf_74 (by decide) ?_
    cases h
    exact zi_ret _ dX12_feltOf_78
set_option maxRecDepth 20000 in
theorem r_X12_feltOf {E : Nat × (Nat → Int32)} (x1 : Int32) (x2 : Int32) (m : zM) (x : Int32) (h : f_X12_feltOf x1 x2 m = some x) : zMet E zX12_feltOf [.ref 68, .int x1, .int x2] zSH m (some (.int x)) zSH m := by
  refine zMet.of (L0 := [some (.ref 68), some (.int x1), some (.int x2), none, none, none]) rfl rfl (Nat.le_of_ble_eq_true rfl) rfl ?_
  unfold f_X12_feltOf at h
  refine zi_iconst (q := 1) dX12_feltOf_0 ki_2 rfl ?_
  refine zi_iloadn (q := 2) dX12_feltOf_1 rfl rfl ?_
  refine zi_aloadn (q := 3) dX12_feltOf_2 rfl rfl ?_
  refine zi_getI (q := 6) dX12_feltOf_3 fl_12_116 (by decide) so_68 rfl ?_
  obtain ⟨hz1, h⟩ := zg_some h
  refine zi_irem2 (q := 7) dX12_feltOf_6 (znz_of hz1) rfl ?_
  refine zi_imul (q := 8) dX12_feltOf_7 rfl ?_
  refine zi_aloadn (q := 9) dX12_feltOf_8 rfl rfl ?_
  refine zi_getA (q := 12) dX12_feltOf_9 fl_12_32 so_68 rfl rfl ?_
  refine zi_iloadn (q := 13) dX12_feltOf_12 rfl rfl ?_
  obtain ⟨hz2, h⟩ := zg_some h
  refine zi_iald2 (q := 14) dX12_feltOf_13 so_76 (zin_vp hz2) rfl rfl ?_
  refine zi_isub (q := 15) dX12_feltOf_14 rfl ?_
  refine zi_istoren (q := 16) (L' := [some (.ref 68), some (.int x1), some (.int x2), some (.int ((2 * (zrem x1 (m.1 68 2))) - (m.1 76 x2.toNatClampNeg))), none, none]) dX12_feltOf_15 (by decide) rfl rfl rfl ?_
  refine zi_iconst (q := 17) dX12_feltOf_16 ki_2 rfl ?_
  refine zi_iloadn (q := 18) dX12_feltOf_17 rfl rfl ?_
  refine zi_aloadn (q := 19) dX12_feltOf_18 rfl rfl ?_
  refine zi_getI (q := 22) dX12_feltOf_19 fl_12_116 (by decide) so_68 rfl ?_
  obtain ⟨hz3, h⟩ := zg_some h
  refine zi_idiv (q := 23) dX12_feltOf_22 (znz_of hz3) rfl ?_
  refine zi_imul (q := 24) dX12_feltOf_23 rfl ?_
  refine zi_aloadn (q := 25) dX12_feltOf_24 rfl rfl ?_
  refine zi_getA (q := 28) dX12_feltOf_25 fl_12_35 so_68 rfl rfl ?_
  refine zi_iloadn (q := 29) dX12_feltOf_28 rfl rfl ?_
  obtain ⟨hz4, h⟩ := zg_some h
  refine zi_iald2 (q := 30) dX12_feltOf_29 so_77 (zin_vp hz4) rfl rfl ?_
  refine zi_isub (q := 31) dX12_feltOf_30 rfl ?_
  refine zi_istore (q := 33) (L' := [some (.ref 68), some (.int x1), some (.int x2), some (.int ((2 * (zrem x1 (m.1 68 2))) - (m.1 76 x2.toNatClampNeg))), some (.int ((2 * (x1 / (m.1 68 2))) - (m.1 77 x2.toNatClampNeg))), none]) dX12_feltOf_31 (by decide) rfl rfl rfl ?_
  refine zi_aloadn (q := 34) dX12_feltOf_33 rfl rfl ?_
  refine zi_getA (q := 37) dX12_feltOf_34 fl_12_28 so_68 rfl rfl ?_
  refine zi_iloadn (q := 38) dX12_feltOf_37 rfl rfl ?_
  obtain ⟨hz5, h⟩ := zg_some h
  refine zi_bald2 (q := 39) dX12_feltOf_38 so_75 (zin_vp hz5) rfl rfl ?_
  refine zi_ifeq (q := 64) (q2 := 42) dX12_feltOf_39 (by decide) rfl (fun hc => ?_) (fun hc => ?_)
  · replace h := (if_pos hc).symm.trans h
    refine zi_iconst (q := 65) dX12_feltOf_64 ki_0 rfl ?_
    refine Rn.weakm [false, false, false, false, false, false] ?_
    exact rj_X12_feltOf_65 0 _ _ h
  · replace h := (if_neg hc).symm.trans h
    refine zi_aloadn (q := 43) dX12_feltOf_42 rfl rfl ?_
    refine zi_getA (q := 46) dX12_feltOf_43 fl_12_38 so_68 rfl rfl ?_
    refine zi_iloadn (q := 47) dX12_feltOf_46 rfl rfl ?_
    obtain ⟨hz6, h⟩ := zg_some h
    refine zi_iald2 (q := 48) dX12_feltOf_47 so_78 (zin_vp hz6) rfl rfl ?_
    refine zi_bipush (q := 50) dX12_feltOf_48 kb_12 rfl ?_
    refine zi_iloadn (q := 51) dX12_feltOf_50 rfl rfl ?_
    refine zi_iloadn (q := 52) dX12_feltOf_51 rfl rfl ?_
    refine zi_imul (q := 53) dX12_feltOf_52 rfl ?_
    refine zi_iload (q := 55) dX12_feltOf_53 rfl rfl ?_
    refine zi_iload (q := 57) dX12_feltOf_55 rfl rfl ?_
    refine zi_imul (q := 58) dX12_feltOf_57 rfl ?_
    refine zi_iadd (q := 59) dX12_feltOf_58 rfl ?_
    refine zi_imul (q := 60) dX12_feltOf_59 rfl ?_
    refine zi_isub (q := 61) dX12_feltOf_60 rfl ?_
    refine zi_goto (q := 65) dX12_feltOf_61 (by decide) ?_
    refine Rn.weakm [false, false, false, false, false, false] ?_
    exact rj_X12_feltOf_65 ((m.1 78 x2.toNatClampNeg) - (12 * ((((2 * (zrem x1 (m.1 68 2))) - (m.1 76 x2.toNatClampNeg)) * ((2 * (zrem x1 (m.1 68 2))) - (m.1 76 x2.toNatClampNeg))) + (((2 * (x1 / (m.1 68 2))) - (m.1 77 x2.toNatClampNeg)) * ((2 * (x1 / (m.1 68 2))) - (m.1 77 x2.toNatClampNeg)))))) _ _ h
set_option maxRecDepth 20000 in
theorem rb_X12_feltAll_4 {E : Nat × (Nat → Int32)} (x1 : Int32) (m : zM) (s : (Int32 × Int32)) (rv : Option Value) (m' : zM) (x : ((Int32 × Int32) ⊕ (Int32))) (h : b_X12_feltAll_4 x1 m s = some x) (KI : ∀ s1 : (Int32 × Int32), x = .inl s1 → Rn E zX12_feltAll 4 [some (.ref 68), some (.int x1), some (.int s1.1), some (.int s1.2)] [] zSH m rv zSH m') (KO : ∀ r1 : (Int32), x = .inr r1 → Rn E zX12_feltAll 24 [none, none, some (.int r1), none] [] zSH m rv zSH m') : Rn E zX12_feltAll 4 [some (.ref 68), some (.int x1), some (.int s.1), some (.int s.2)] [] zSH m rv zSH m' := by
  unfold b_X12_feltAll_4 at h
  refine zi_iloadn (q := 5) dX12_feltAll_4 rfl rfl ?_
  refine zi_iconst (q := 6) dX12_feltAll_5 ki_5 rfl ?_
  refine zi_icmpge (q := 24) (q2 := 9) dX12_feltAll_6 (by decide) rfl (fun hc => ?_) (fun hc => ?_)
  · replace h := (if_pos hc).symm.trans h
    refine Rn.weakm [false, false, true, false] ?_
    exact KO s.1 (Option.some.inj h).symm
  · replace h := (if_neg hc).symm.trans h
    refine zi_iloadn (q := 10) dX12_feltAll_9 rfl rfl ?_
    refine zi_aloadn (q := 11) dX12_feltAll_10 rfl rfl ?_
    refine zi_iloadn (q := 12) dX12_feltAll_11 rfl rfl ?_
    refine zi_iloadn (q := 13) dX12_feltAll_12 rfl rfl ?_
    obtain ⟨r1, hr1, h⟩ := Option.bind_eq_some_iff.mp h
    refine zc_V2 (q := 16) (st := [.int s.1]) (S1 := [.int r1, .int s.1]) (r_X12_feltOf x1 s.2 _ r1 hr1) dX12_feltAll_13 cb_X12_feltOf k5_196 k5_198 ks_X12_feltOf ⟨by decide, by decide⟩ so_68 rfl rfl rfl (Nat.le_of_ble_eq_true rfl) (Or.inl rfl) rfl rfl ?_
    refine zi_iadd (q := 17) dX12_feltAll_16 rfl ?_
    refine zi_istoren (q := 18) (L' := [some (.ref 68), some (.int x1), some (.int (s.1 + r1)), some (.int s.2)]) dX12_feltAll_17 (by decide) rfl rfl rfl ?_
    refine zi_iinc (q := 21) (v := s.2 + 1) (L' := [some (.ref 68), some (.int x1), some (.int (s.1 + r1)), some (.int (s.2 + 1))]) dX12_feltAll_18 rfl (by rw [ki_1]) (by decide) rfl rfl rfl ?_
    refine zi_goto (q := 4) dX12_feltAll_21 (by decide) ?_
    exact KI ((s.1 + r1), (s.2 + 1)) (Option.some.inj h).symm
set_option maxRecDepth 20000 in
theorem r_X12_feltAll {E : Nat × (Nat → Int32)} (x1 : Int32) (m : zM) (x : Int32) (h : f_X12_feltAll x1 m = some x) : zMet E zX12_feltAll [.ref 68, .int x1] zSH m (some (.int x)) zSH m := by
  refine zMet.of (L0 := [some (.ref 68), some (.int x1), none, none]) rfl rfl (Nat.le_of_ble_eq_true rfl) rfl ?_
  unfold f_X12_feltAll at h
  refine zi_iconst (q := 1) dX12_feltAll_0 ki_0 rfl ?_
  refine zi_istoren (q := 2) (L' := [some (.ref 68), some (.int x1), some (.int 0), none]) dX12_feltAll_1 (by decide) rfl rfl rfl ?_
  refine zi_iconst (q := 3) dX12_feltAll_2 ki_0 rfl ?_
  refine zi_istoren (q := 4) (L' := [some (.ref 68), some (.int x1), some (.int 0), some (.int 0)]) dX12_feltAll_3 (by decide) rfl rfl rfl ?_
  obtain ⟨r2, hr2, h⟩ := Option.bind_eq_some_iff.mp h
  refine zloop_rn (P := fun w : (Int32 × Int32) => Rn E zX12_feltAll 4 [some (.ref 68), some (.int x1), some (.int w.1), some (.int w.2)] [] zSH m (some (.int x)) zSH m) (X := fun w : (Int32) => Rn E zX12_feltAll 24 [none, none, some (.int w), none] [] zSH m (some (.int x)) zSH m) (fun w w0 hb KI KX => rb_X12_feltAll_4 x1 m w _ _ w0 hb KI KX) zFU _ r2 hr2 ?_
  show Rn E zX12_feltAll 24 [none, none, some (.int r2), none] [] zSH m (some (.int x)) zSH m
  refine zi_iloadn (q := 25) dX12_feltAll_24 rfl rfl ?_
  cases h
  exact zi_ret _ dX12_feltAll_25
set_option maxRecDepth 20000 in
theorem r_X12_draw {E : Nat × (Nat → Int32)} (x1 : Int32) (m : zM) (x : (Int32 × zM)) (h : f_X12_draw x1 m = some x) : zMet E zX12_draw [.ref 68, .int x1] zSH m (some (.int x.1)) zSH x.2 := by
  refine zMet.of (L0 := [some (.ref 68), some (.int x1), none, none]) rfl rfl (Nat.le_of_ble_eq_true rfl) rfl ?_
  unfold f_X12_draw at h
  refine zi_ldc2 (q := 3) dX12_draw_0 k5_204 rfl ?_
  refine zi_aloadn (q := 4) dX12_draw_3 rfl rfl ?_
  refine zi_getI (q := 7) dX12_draw_4 fl_12_197 (by decide) so_68 rfl ?_
  refine zi_i2l (q := 8) dX12_draw_7 rfl ?_
  refine zi_lmul (q := 9) dX12_draw_8 rfl ?_
  refine zi_ldc2 (q := 12) dX12_draw_9 k5_205 rfl ?_
  refine zi_ladd (q := 13) dX12_draw_12 rfl ?_
  refine zi_ldc2 (q := 16) dX12_draw_13 k5_206 rfl ?_
  refine zi_lrem2 (q := 17) dX12_draw_16 (by decide) rfl ?_
  refine zi_lstoren (q := 18) (L' := [some (.ref 68), some (.int x1), some (.long (zlrem (((1103515245 : Int64) * ((m.1 68 16).toInt64)) + (12345 : Int64)) (2147483648 : Int64))), none]) dX12_draw_17 (by decide) rfl rfl rfl ?_
  refine zi_aloadn (q := 19) dX12_draw_18 rfl rfl ?_
  refine zi_lloadn (q := 20) dX12_draw_19 rfl rfl ?_
  refine zi_l2i (q := 21) dX12_draw_20 rfl ?_
  refine zi_putI (q := 24) dX12_draw_21 pl_12_197 so_68 rfl ?_
  refine zi_lloadn (q := 25) dX12_draw_24 rfl rfl ?_
  refine zi_ldc2 (q := 28) dX12_draw_25 k5_207 rfl ?_
  refine zi_ldiv (q := 29) dX12_draw_28 (by decide) rfl ?_
  refine zi_iloadn (q := 30) dX12_draw_29 rfl rfl ?_
  refine zi_i2l (q := 31) dX12_draw_30 rfl ?_
  obtain ⟨hz1, h⟩ := zg_some h
  refine zi_lrem2 (q := 32) dX12_draw_31 (znzl_of hz1) rfl ?_
  refine zi_l2i (q := 33) dX12_draw_32 rfl ?_
  cases h
  exact zi_ret _ dX12_draw_33
set_option maxRecDepth 20000 in
theorem rj_X12_layRaw_56 {E : Nat × (Nat → Int32)} (x1 : Int32) (x2 : Int32) (s0 : Int32) (s1 : Int32) (s2 : Int32) (m : zM) (rv : Option Value) (m' : zM) (x : ((Int32 × zM) ⊕ (zM))) (h : j_X12_layRaw_56 x1 x2 s0 s1 s2 m = some x) (KI : ∀ s1 : (Int32 × zM), x = .inl s1 → Rn E zX12_layRaw 12 [some (.ref 68), some (.int x1), some (.int s1.1)] [] zSH s1.2 rv zSH m') : Rn E zX12_layRaw 56 [some (.ref 68), some (.int x1), some (.int x2)] [.int s0, .int s1, .int s2, .ref 72] zSH m rv zSH m' := by
  unfold j_X12_layRaw_56 at h
  refine zi_iadd (q := 57) dX12_layRaw_56 rfl ?_
  obtain ⟨hz5, h⟩ := zg_some h
  refine zi_iast2 (q := 58) dX12_layRaw_57 so_72 (zin_vp hz5) rfl rfl ?_
  refine zi_aloadn (q := 59) dX12_layRaw_58 rfl rfl ?_
  refine zi_getA (q := 62) dX12_layRaw_59 fl_12_22 so_68 rfl rfl ?_
  refine zi_iloadn (q := 63) dX12_layRaw_62 rfl rfl ?_
  refine zi_aloadn (q := 64) dX12_layRaw_63 rfl rfl ?_
  refine zi_getA (q := 67) dX12_layRaw_64 fl_12_19 so_68 rfl rfl ?_
  refine zi_iloadn (q := 68) dX12_layRaw_67 rfl rfl ?_
  obtain ⟨hz6, h⟩ := zg_some h
  refine zi_iald2 (q := 69) dX12_layRaw_68 so_72 (zin_vp hz6) rfl rfl ?_
  refine zi_aloadn (q := 70) dX12_layRaw_69 rfl rfl ?_
  refine zi_getA (q := 73) dX12_layRaw_70 fl_12_16 so_68 rfl rfl ?_
  refine zi_iloadn (q := 74) dX12_layRaw_73 rfl rfl ?_
  obtain ⟨hz7, h⟩ := zg_some h
  refine zi_iald2 (q := 75) dX12_layRaw_74 so_71 (zin_vp hz7) rfl rfl ?_
  refine zi_isub (q := 76) dX12_layRaw_75 rfl ?_
  obtain ⟨hz8, h⟩ := zg_some h
  refine zi_iast2 (q := 77) dX12_layRaw_76 so_73 (zin_vp hz8) rfl rfl ?_
  refine zi_aloadn (q := 78) dX12_layRaw_77 rfl rfl ?_
  refine zi_getA (q := 81) dX12_layRaw_78 fl_12_25 so_68 rfl rfl ?_
  refine zi_iloadn (q := 82) dX12_layRaw_81 rfl rfl ?_
  refine zi_iconst (q := 83) dX12_layRaw_82 ki_m1 rfl ?_
  obtain ⟨hz9, h⟩ := zg_some h
  refine zi_iast2 (q := 84) dX12_layRaw_83 so_74 (zin_vp hz9) rfl rfl ?_
  refine zi_iinc (q := 87) (v := x2 + 1) (L' := [some (.ref 68), some (.int x1), some (.int (x2 + 1))]) dX12_layRaw_84 rfl (by rw [ki_1]) (by decide) rfl rfl rfl ?_
  refine zi_goto (q := 12) dX12_layRaw_87 (by decide) ?_
  exact KI ((x2 + 1), (zi (zi (zi m 72 s2.toNatClampNeg (s1 + s0)) 73 x2.toNatClampNeg (((zi m 72 s2.toNatClampNeg (s1 + s0)).1 72 x2.toNatClampNeg) - (m.1 71 x2.toNatClampNeg))) 74 x2.toNatClampNeg (-1))) (Option.some.inj h).symm
set_option maxRecDepth 20000 in
theorem rb_X12_layRaw_12 {E : Nat × (Nat → Int32)} (x1 : Int32)  (s : (Int32 × zM)) (rv : Option Value) (m' : zM) (x : ((Int32 × zM) ⊕ (zM))) (h : b_X12_layRaw_12 x1 s = some x) (KI : ∀ s1 : (Int32 × zM), x = .inl s1 → Rn E zX12_layRaw 12 [some (.ref 68), some (.int x1), some (.int s1.1)] [] zSH s1.2 rv zSH m') (KO : ∀ r1 : (zM), x = .inr r1 → Rn E zX12_layRaw 90 [none, none, none] [] zSH r1 rv zSH m') : Rn E zX12_layRaw 12 [some (.ref 68), some (.int x1), some (.int s.1)] [] zSH s.2 rv zSH m' := by
  unfold b_X12_layRaw_12 at h
  refine zi_iloadn (q := 13) dX12_layRaw_12 rfl rfl ?_
  refine zi_aloadn (q := 14) dX12_layRaw_13 rfl rfl ?_
  obtain ⟨r2, hr2, h⟩ := Option.bind_eq_some_iff.mp h
  refine zc_V2 (q := 17) (st := [.int s.1]) (S1 := [.int r2, .int s.1]) (r_X12_cells  _ r2 hr2) dX12_layRaw_14 cb_X12_cells k5_138 k5_140 ks_X12_cells ⟨by decide, by decide⟩ so_68 rfl rfl rfl (Nat.le_of_ble_eq_true rfl) (Or.inl rfl) rfl rfl ?_
  refine zi_icmpge (q := 90) (q2 := 20) dX12_layRaw_17 (by decide) rfl (fun hc => ?_) (fun hc => ?_)
  · replace h := (if_pos hc).symm.trans h
    refine Rn.weakm [false, false, false] ?_
    exact KO s.2 (Option.some.inj h).symm
  · replace h := (if_neg hc).symm.trans h
    refine zi_aloadn (q := 21) dX12_layRaw_20 rfl rfl ?_
    refine zi_getA (q := 24) dX12_layRaw_21 fl_12_19 so_68 rfl rfl ?_
    refine zi_iloadn (q := 25) dX12_layRaw_24 rfl rfl ?_
    refine zi_aloadn (q := 26) dX12_layRaw_25 rfl rfl ?_
    refine zi_getA (q := 29) dX12_layRaw_26 fl_12_13 so_68 rfl rfl ?_
    refine zi_iloadn (q := 30) dX12_layRaw_29 rfl rfl ?_
    obtain ⟨hz3, h⟩ := zg_some h
    refine zi_iald2 (q := 31) dX12_layRaw_30 so_70 (zin_vp hz3) rfl rfl ?_
    refine zi_aloadn (q := 32) dX12_layRaw_31 rfl rfl ?_
    refine zi_iloadn (q := 33) dX12_layRaw_32 rfl rfl ?_
    obtain ⟨r4, hr4, h⟩ := Option.bind_eq_some_iff.mp h
    refine zc_V2 (q := 36) (st := [.int (s.2.1 70 s.1.toNatClampNeg), .int s.1, .ref 72]) (S1 := [.int r4, .int (s.2.1 70 s.1.toNatClampNeg), .int s.1, .ref 72]) (r_X12_feltAll s.1 _ r4 hr4) dX12_layRaw_33 cb_X12_feltAll k5_192 k5_194 ks_X12_feltAll ⟨by decide, by decide⟩ so_68 rfl rfl rfl (Nat.le_of_ble_eq_true rfl) (Or.inl rfl) rfl rfl ?_
    refine zi_iadd (q := 37) dX12_layRaw_36 rfl ?_
    refine zi_iloadn (q := 38) dX12_layRaw_37 rfl rfl ?_
    refine zi_ifle (q := 55) (q2 := 41) dX12_layRaw_38 (by decide) rfl (fun hc => ?_) (fun hc => ?_)
    · replace h := (if_pos hc).symm.trans h
      refine zi_iconst (q := 56) dX12_layRaw_55 ki_0 rfl ?_
      exact rj_X12_layRaw_56 x1 s.1 0 ((s.2.1 70 s.1.toNatClampNeg) + r4) s.1 _ _ _ _ h KI
    · replace h := (if_neg hc).symm.trans h
      refine zi_aloadn (q := 42) dX12_layRaw_41 rfl rfl ?_
      refine zi_iconst (q := 43) dX12_layRaw_42 ki_2 rfl ?_
      refine zi_iloadn (q := 44) dX12_layRaw_43 rfl rfl ?_
      refine zi_imul (q := 45) dX12_layRaw_44 rfl ?_
      refine zi_iconst (q := 46) dX12_layRaw_45 ki_1 rfl ?_
      refine zi_iadd (q := 47) dX12_layRaw_46 rfl ?_
      obtain ⟨r10, hr10, h⟩ := Option.bind_eq_some_iff.mp h
      refine zc_V2 (q := 50) (st := [.int ((s.2.1 70 s.1.toNatClampNeg) + r4), .int s.1, .ref 72]) (S1 := [.int r10.1, .int ((s.2.1 70 s.1.toNatClampNeg) + r4), .int s.1, .ref 72]) (r_X12_draw ((2 * x1) + 1) _ r10 hr10) dX12_layRaw_47 cb_X12_draw k5_200 k5_202 ks_X12_draw ⟨by decide, by decide⟩ so_68 rfl rfl rfl (Nat.le_of_ble_eq_true rfl) (Or.inl rfl) rfl rfl ?_
      refine zi_iloadn (q := 51) dX12_layRaw_50 rfl rfl ?_
      refine zi_isub (q := 52) dX12_layRaw_51 rfl ?_
      refine zi_goto (q := 56) dX12_layRaw_52 (by decide) ?_
      exact rj_X12_layRaw_56 x1 s.1 (r10.1 - x1) ((s.2.1 70 s.1.toNatClampNeg) + r4) s.1 _ _ _ _ h KI
set_option maxRecDepth 20000 in
theorem r_X12_layRaw {E : Nat × (Nat → Int32)}  (m : zM) (x : zM) (h : f_X12_layRaw  m = some x) : zMet E zX12_layRaw [.ref 68] zSH m none zSH x := by
  refine zMet.of (L0 := [some (.ref 68), none, none]) rfl trivial (Nat.le_of_ble_eq_true rfl) rfl ?_
  unfold f_X12_layRaw at h
  refine zi_aloadn (q := 1) dX12_layRaw_0 rfl rfl ?_
  refine zi_getA (q := 4) dX12_layRaw_1 fl_12_41 so_68 rfl rfl ?_
  refine zi_aloadn (q := 5) dX12_layRaw_4 rfl rfl ?_
  refine zi_getI (q := 8) dX12_layRaw_5 fl_12_194 (by decide) so_68 rfl ?_
  obtain ⟨hz1, h⟩ := zg_some h
  refine zi_iald2 (q := 9) dX12_layRaw_8 so_79 (zin_vp hz1) rfl rfl ?_
  refine zi_istoren (q := 10) (L' := [some (.ref 68), some (.int (m.1 79 (m.1 68 15).toNatClampNeg)), none]) dX12_layRaw_9 (by decide) rfl rfl rfl ?_
  refine zi_iconst (q := 11) dX12_layRaw_10 ki_0 rfl ?_
  refine zi_istoren (q := 12) (L' := [some (.ref 68), some (.int (m.1 79 (m.1 68 15).toNatClampNeg)), some (.int 0)]) dX12_layRaw_11 (by decide) rfl rfl rfl ?_
  obtain ⟨r11, hr11, h⟩ := Option.bind_eq_some_iff.mp h
  refine zloop_rn (P := fun w : (Int32 × zM) => Rn E zX12_layRaw 12 [some (.ref 68), some (.int (m.1 79 (m.1 68 15).toNatClampNeg)), some (.int w.1)] [] zSH w.2 none zSH x) (X := fun w : (zM) => Rn E zX12_layRaw 90 [none, none, none] [] zSH w none zSH x) (fun w w0 hb KI KX => rb_X12_layRaw_12 (m.1 79 (m.1 68 15).toNatClampNeg) w _ _ w0 hb KI KX) zFU _ r11 hr11 ?_
  show Rn E zX12_layRaw 90 [none, none, none] [] zSH r11 none zSH x
  cases h
  exact zi_ret _ dX12_layRaw_90
set_option maxRecDepth 20000 in
theorem r_X12_isTouched {E : Nat × (Nat → Int32)} (x1 : Int32) (m : zM) (x : Bool) (h : f_X12_isTouched x1 m = some x) : zMet E zX12_isTouched [.ref 68, .int x1] zSH m (some (.int (bi x))) zSH m := by
  refine zMet.of (L0 := [some (.ref 68), some (.int x1)]) rfl (zfit_bi _) (Nat.le_of_ble_eq_true rfl) rfl ?_
  unfold f_X12_isTouched at h
  refine zi_aloadn (q := 1) dX12_isTouched_0 rfl rfl ?_
  refine zi_getA (q := 4) dX12_isTouched_1 fl_12_22 so_68 rfl rfl ?_
  refine zi_iloadn (q := 5) dX12_isTouched_4 rfl rfl ?_
  obtain ⟨hz1, h⟩ := zg_some h
  refine zi_iald2 (q := 6) dX12_isTouched_5 so_73 (zin_vp hz1) rfl rfl ?_
  refine zi_aloadn (q := 7) dX12_isTouched_6 rfl rfl ?_
  refine zi_getA (q := 10) dX12_isTouched_7 fl_12_44 so_68 rfl rfl ?_
  refine zi_iconst (q := 11) dX12_isTouched_10 ki_1 rfl ?_
  refine zi_iald2 (q := 12) dX12_isTouched_11 so_80 vi_1_9 ix_1 rfl ?_
  refine zi_icmplt (q := 19) (q2 := 15) dX12_isTouched_12 (by decide) rfl (fun hc => ?_) (fun hc => ?_)
  · replace h := (if_pos hc).symm.trans h
    refine zi_iconst (q := 20) dX12_isTouched_19 ki_0 rfl ?_
    cases h
    exact zi_ret _ dX12_isTouched_20
  · replace h := (if_neg hc).symm.trans h
    refine zi_iconst (q := 16) dX12_isTouched_15 ki_1 rfl ?_
    refine zi_goto (q := 20) dX12_isTouched_16 (by decide) ?_
    cases h
    exact zi_ret _ dX12_isTouched_20
set_option maxRecDepth 20000 in
theorem rj_X12_beside_12 {E : Nat × (Nat → Int32)} (x1 : Int32) (s0 : Int32) (m : zM)  (x : Int32) (h : j_X12_beside_12 x1 s0 m = some x) : Rn E zX12_beside 12 [some (.ref 68), some (.int x1), none, none, none, none] [.int s0] zSH m (some (.int x)) zSH m := by
  unfold j_X12_beside_12 at h
  refine zi_istoren (q := 13) (L' := [some (.ref 68), some (.int x1), none, some (.int s0), none, none]) dX12_beside_12 (by decide) rfl rfl rfl ?_
  refine zi_iloadn (q := 14) dX12_beside_13 rfl rfl ?_
  refine zi_aloadn (q := 15) dX12_beside_14 rfl rfl ?_
  refine zi_getI (q := 18) dX12_beside_15 fl_12_116 (by decide) so_68 rfl ?_
  obtain ⟨hz1, h⟩ := zg_some h
  refine zi_irem2 (q := 19) dX12_beside_18 (znz_of hz1) rfl ?_
  refine zi_iloadn (q := 20) dX12_beside_19 rfl rfl ?_
  refine zi_iconst (q := 21) dX12_beside_20 ki_3 rfl ?_
  refine zi_irem2 (q := 22) dX12_beside_21 nz_3 rfl ?_
  refine zi_iadd (q := 23) dX12_beside_22 rfl ?_
  refine zi_iconst (q := 24) dX12_beside_23 ki_1 rfl ?_
  refine zi_isub (q := 25) dX12_beside_24 rfl ?_
  refine zi_istore (q := 27) (L' := [some (.ref 68), some (.int x1), none, some (.int s0), some (.int (((zrem x1 (m.1 68 2)) + (zrem s0 3)) - 1)), none]) dX12_beside_25 (by decide) rfl rfl rfl ?_
  refine zi_iloadn (q := 28) dX12_beside_27 rfl rfl ?_
  refine zi_aloadn (q := 29) dX12_beside_28 rfl rfl ?_
  refine zi_getI (q := 32) dX12_beside_29 fl_12_116 (by decide) so_68 rfl ?_
  obtain ⟨hz2, h⟩ := zg_some h
  refine zi_idiv (q := 33) dX12_beside_32 (znz_of hz2) rfl ?_
  refine zi_iloadn (q := 34) dX12_beside_33 rfl rfl ?_
  refine zi_iconst (q := 35) dX12_beside_34 ki_3 rfl ?_
  refine zi_idiv (q := 36) dX12_beside_35 nz_3 rfl ?_
  refine zi_iadd (q := 37) dX12_beside_36 rfl ?_
  refine zi_iconst (q := 38) dX12_beside_37 ki_1 rfl ?_
  refine zi_isub (q := 39) dX12_beside_38 rfl ?_
  refine zi_istore (q := 41) (L' := [some (.ref 68), some (.int x1), none, some (.int s0), some (.int (((zrem x1 (m.1 68 2)) + (zrem s0 3)) - 1)), some (.int (((x1 / (m.1 68 2)) + (s0 / 3)) - 1))]) dX12_beside_39 (by decide) rfl rfl rfl ?_
  refine zi_iload (q := 43) dX12_beside_41 rfl rfl ?_
  refine zi_iconst (q := 44) dX12_beside_43 ki_0 rfl ?_
  refine zi_aloadn (q := 45) dX12_beside_44 rfl rfl ?_
  refine zi_getI (q := 48) dX12_beside_45 fl_12_116 (by decide) so_68 rfl ?_
  refine zi_iconst (q := 49) dX12_beside_48 ki_1 rfl ?_
  refine zi_isub (q := 50) dX12_beside_49 rfl ?_
  obtain ⟨r3, hr3, h⟩ := Option.bind_eq_some_iff.mp h
  refine zc_S2 (q := 53) (st := []) (S1 := [.int (bi r3)]) (r_X12_within (((zrem x1 (m.1 68 2)) + (zrem s0 3)) - 1) 0 ((m.1 68 2) - 1) _ r3 hr3) dX12_beside_50 cb_X12_within k5_71 k5_72 ⟨by decide, by decide⟩ rfl (Nat.le_of_ble_eq_true rfl) (Or.inl rfl) rfl rfl ?_
  refine zi_ifeq (q := 84) (q2 := 56) dX12_beside_53 (by decide) rfl (fun hc => ?_) (fun hc => ?_)
  · replace h := (if_pos hc).symm.trans h
    refine zi_iconst (q := 85) dX12_beside_84 ki_m1 rfl ?_
    cases h
    exact zi_ret _ dX12_beside_85
  · replace h := (if_neg hc).symm.trans h
    refine zi_iload (q := 58) dX12_beside_56 rfl rfl ?_
    refine zi_iconst (q := 59) dX12_beside_58 ki_0 rfl ?_
    refine zi_aloadn (q := 60) dX12_beside_59 rfl rfl ?_
    refine zi_getI (q := 63) dX12_beside_60 fl_12_120 (by decide) so_68 rfl ?_
    refine zi_iconst (q := 64) dX12_beside_63 ki_1 rfl ?_
    refine zi_isub (q := 65) dX12_beside_64 rfl ?_
    obtain ⟨r4, hr4, h⟩ := Option.bind_eq_some_iff.mp h
    refine zc_S2 (q := 68) (st := []) (S1 := [.int (bi r4)]) (r_X12_within (((x1 / (m.1 68 2)) + (s0 / 3)) - 1) 0 ((m.1 68 3) - 1) _ r4 hr4) dX12_beside_65 cb_X12_within k5_71 k5_72 ⟨by decide, by decide⟩ rfl (Nat.le_of_ble_eq_true rfl) (Or.inl rfl) rfl rfl ?_
    refine zi_ifeq (q := 84) (q2 := 71) dX12_beside_68 (by decide) rfl (fun hc => ?_) (fun hc => ?_)
    · replace h := (if_pos hc).symm.trans h
      refine zi_iconst (q := 85) dX12_beside_84 ki_m1 rfl ?_
      cases h
      exact zi_ret _ dX12_beside_85
    · replace h := (if_neg hc).symm.trans h
      refine zi_aloadn (q := 72) dX12_beside_71 rfl rfl ?_
      refine zi_getI (q := 75) dX12_beside_72 fl_12_116 (by decide) so_68 rfl ?_
      refine zi_iload (q := 77) dX12_beside_75 rfl rfl ?_
      refine zi_imul (q := 78) dX12_beside_77 rfl ?_
      refine zi_iload (q := 80) dX12_beside_78 rfl rfl ?_
      refine zi_iadd (q := 81) dX12_beside_80 rfl ?_
      refine zi_goto (q := 85) dX12_beside_81 (by decide) ?_
      cases h
      exact zi_ret _ dX12_beside_85
set_option maxRecDepth 20000 in
theorem r_X12_beside {E : Nat × (Nat → Int32)} (x1 : Int32) (x2 : Int32) (m : zM) (x : Int32) (h : f_X12_beside x1 x2 m = some x) : zMet E zX12_beside [.ref 68, .int x1, .int x2] zSH m (some (.int x)) zSH m := by
  refine zMet.of (L0 := [some (.ref 68), some (.int x1), some (.int x2), none, none, none]) rfl rfl (Nat.le_of_ble_eq_true rfl) rfl ?_
  unfold f_X12_beside at h
  refine zi_iloadn (q := 1) dX12_beside_0 rfl rfl ?_
  refine zi_iconst (q := 2) dX12_beside_1 ki_4 rfl ?_
  refine zi_icmpge (q := 9) (q2 := 5) dX12_beside_2 (by decide) rfl (fun hc => ?_) (fun hc => ?_)
  · replace h := (if_pos hc).symm.trans h
    refine zi_iloadn (q := 10) dX12_beside_9 rfl rfl ?_
    refine zi_iconst (q := 11) dX12_beside_10 ki_1 rfl ?_
    refine zi_iadd (q := 12) dX12_beside_11 rfl ?_
    refine Rn.weakm [true, true, false, false, false, false] ?_
    exact rj_X12_beside_12 x1 (x2 + 1) _ _ h
  · replace h := (if_neg hc).symm.trans h
    refine zi_iloadn (q := 6) dX12_beside_5 rfl rfl ?_
    refine zi_goto (q := 12) dX12_beside_6 (by decide) ?_
    refine Rn.weakm [true, true, false, false, false, false] ?_
    exact rj_X12_beside_12 x1 x2 _ _ h
set_option maxRecDepth 20000 in
theorem rj_X12_isNearTouched_46 {E : Nat × (Nat → Int32)} (x1 : Int32) (x3 : Int32) (s0 : Int32) (m : zM) (rv : Option Value) (m' : zM) (x : ((Int32 × Int32) ⊕ (Int32))) (h : j_X12_isNearTouched_46 x1 x3 s0 m = some x) (KI : ∀ s1 : (Int32 × Int32), x = .inl s1 → Rn E zX12_isNearTouched 8 [some (.ref 68), some (.int x1), some (.int s1.1), some (.int s1.2), none] [] zSH m rv zSH m') : Rn E zX12_isNearTouched 46 [some (.ref 68), some (.int x1), none, some (.int x3), none] [.int s0] zSH m rv zSH m' := by
  unfold j_X12_isNearTouched_46 at h
  refine zi_istoren (q := 47) (L' := [some (.ref 68), some (.int x1), some (.int s0), some (.int x3), none]) dX12_isNearTouched_46 (by decide) rfl rfl rfl ?_
  refine zi_iinc (q := 50) (v := x3 + 1) (L' := [some (.ref 68), some (.int x1), some (.int s0), some (.int (x3 + 1)), none]) dX12_isNearTouched_47 rfl (by rw [ki_1]) (by decide) rfl rfl rfl ?_
  refine zi_goto (q := 8) dX12_isNearTouched_50 (by decide) ?_
  exact KI (s0, (x3 + 1)) (Option.some.inj h).symm
set_option maxRecDepth 20000 in
theorem rj_X12_isNearTouched_41 {E : Nat × (Nat → Int32)} (x1 : Int32) (x3 : Int32) (m : zM) (rv : Option Value) (m' : zM) (x : ((Int32 × Int32) ⊕ (Int32))) (h : j_X12_isNearTouched_41 x1 x3 m = some x) (KI : ∀ s1 : (Int32 × Int32), x = .inl s1 → Rn E zX12_isNearTouched 8 [some (.ref 68), some (.int x1), some (.int s1.1), some (.int s1.2), none] [] zSH m rv zSH m') : Rn E zX12_isNearTouched 41 [some (.ref 68), some (.int x1), none, some (.int x3), none] [] zSH m rv zSH m' := by
  unfold j_X12_isNearTouched_41 at h
  refine zi_iconst (q := 42) dX12_isNearTouched_41 ki_1 rfl ?_
  refine zi_goto (q := 46) dX12_isNearTouched_42 (by decide) ?_
  exact rj_X12_isNearTouched_46 x1 x3 1 _ _ _ _ h KI
set_option maxRecDepth 20000 in
theorem rj_X12_isNearTouched_45 {E : Nat × (Nat → Int32)} (x1 : Int32) (x3 : Int32) (m : zM) (rv : Option Value) (m' : zM) (x : ((Int32 × Int32) ⊕ (Int32))) (h : j_X12_isNearTouched_45 x1 x3 m = some x) (KI : ∀ s1 : (Int32 × Int32), x = .inl s1 → Rn E zX12_isNearTouched 8 [some (.ref 68), some (.int x1), some (.int s1.1), some (.int s1.2), none] [] zSH m rv zSH m') : Rn E zX12_isNearTouched 45 [some (.ref 68), some (.int x1), none, some (.int x3), none] [] zSH m rv zSH m' := by
  unfold j_X12_isNearTouched_45 at h
  refine zi_iconst (q := 46) dX12_isNearTouched_45 ki_0 rfl ?_
  exact rj_X12_isNearTouched_46 x1 x3 0 _ _ _ _ h KI
set_option maxRecDepth 20000 in
theorem rb_X12_isNearTouched_8 {E : Nat × (Nat → Int32)} (x1 : Int32) (m : zM) (s : (Int32 × Int32)) (rv : Option Value) (m' : zM) (x : ((Int32 × Int32) ⊕ (Int32))) (h : b_X12_isNearTouched_8 x1 m s = some x) (KI : ∀ s1 : (Int32 × Int32), x = .inl s1 → Rn E zX12_isNearTouched 8 [some (.ref 68), some (.int x1), some (.int s1.1), some (.int s1.2), none] [] zSH m rv zSH m') (KO : ∀ r1 : (Int32), x = .inr r1 → Rn E zX12_isNearTouched 53 [none, none, some (.int r1), none, none] [] zSH m rv zSH m') : Rn E zX12_isNearTouched 8 [some (.ref 68), some (.int x1), some (.int s.1), some (.int s.2), none] [] zSH m rv zSH m' := by
  unfold b_X12_isNearTouched_8 at h
  refine zi_iloadn (q := 9) dX12_isNearTouched_8 rfl rfl ?_
  refine zi_bipush (q := 11) dX12_isNearTouched_9 kb_8 rfl ?_
  refine zi_icmpge (q := 53) (q2 := 14) dX12_isNearTouched_11 (by decide) rfl (fun hc => ?_) (fun hc => ?_)
  · replace h := (if_pos hc).symm.trans h
    refine Rn.weakm [false, false, true, false, false] ?_
    exact KO s.1 (Option.some.inj h).symm
  · replace h := (if_neg hc).symm.trans h
    refine zi_aloadn (q := 15) dX12_isNearTouched_14 rfl rfl ?_
    refine zi_iloadn (q := 16) dX12_isNearTouched_15 rfl rfl ?_
    refine zi_iloadn (q := 17) dX12_isNearTouched_16 rfl rfl ?_
    obtain ⟨r2, hr2, h⟩ := Option.bind_eq_some_iff.mp h
    refine zc_V2 (q := 20) (st := []) (S1 := [.int r2]) (r_X12_beside x1 s.2 _ r2 hr2) dX12_isNearTouched_17 cb_X12_beside k5_222 k5_224 ks_X12_beside ⟨by decide, by decide⟩ so_68 rfl rfl rfl (Nat.le_of_ble_eq_true rfl) (Or.inl rfl) rfl rfl ?_
    refine zi_istore (q := 22) (L' := [some (.ref 68), some (.int x1), some (.int s.1), some (.int s.2), some (.int r2)]) dX12_isNearTouched_20 (by decide) rfl rfl rfl ?_
    refine zi_iloadn (q := 23) dX12_isNearTouched_22 rfl rfl ?_
    refine zi_ifne (q := 41) (q2 := 26) dX12_isNearTouched_23 (by decide) rfl (fun hc => ?_) (fun hc => ?_)
    · replace h := (if_neg hc).symm.trans h
      refine Rn.weakm [true, true, false, true, false] ?_
      exact rj_X12_isNearTouched_41 x1 s.2 _ _ _ _ h KI
    · replace h := (if_pos hc).symm.trans h
      refine zi_iload (q := 28) dX12_isNearTouched_26 rfl rfl ?_
      refine zi_iconst (q := 29) dX12_isNearTouched_28 ki_m1 rfl ?_
      refine zi_icmpeq (q := 45) (q2 := 32) dX12_isNearTouched_29 (by decide) rfl (fun hc => ?_) (fun hc => ?_)
      · replace h := (if_pos hc).symm.trans h
        refine Rn.weakm [true, true, false, true, false] ?_
        exact rj_X12_isNearTouched_45 x1 s.2 _ _ _ _ h KI
      · replace h := (if_neg hc).symm.trans h
        refine zi_aloadn (q := 33) dX12_isNearTouched_32 rfl rfl ?_
        refine zi_iload (q := 35) dX12_isNearTouched_33 rfl rfl ?_
        obtain ⟨r3, hr3, h⟩ := Option.bind_eq_some_iff.mp h
        refine zc_V2 (q := 38) (st := []) (S1 := [.int (bi r3)]) (r_X12_isTouched r2 _ r3 hr3) dX12_isNearTouched_35 cb_X12_isTouched k5_218 k5_220 ks_X12_isTouched ⟨by decide, by decide⟩ so_68 rfl rfl rfl (Nat.le_of_ble_eq_true rfl) (Or.inl rfl) rfl rfl ?_
        refine zi_ifeq (q := 45) (q2 := 41) dX12_isNearTouched_38 (by decide) rfl (fun hc => ?_) (fun hc => ?_)
        · replace h := (if_pos hc).symm.trans h
          refine Rn.weakm [true, true, false, true, false] ?_
          exact rj_X12_isNearTouched_45 x1 s.2 _ _ _ _ h KI
        · replace h := (if_neg hc).symm.trans h
          refine Rn.weakm [true, true, false, true, false] ?_
          exact rj_X12_isNearTouched_41 x1 s.2 _ _ _ _ h KI
set_option maxRecDepth 20000 in
theorem r_X12_isNearTouched {E : Nat × (Nat → Int32)} (x1 : Int32) (m : zM) (x : Bool) (h : f_X12_isNearTouched x1 m = some x) : zMet E zX12_isNearTouched [.ref 68, .int x1] zSH m (some (.int (bi x))) zSH m := by
  refine zMet.of (L0 := [some (.ref 68), some (.int x1), none, none, none]) rfl (zfit_bi _) (Nat.le_of_ble_eq_true rfl) rfl ?_
  unfold f_X12_isNearTouched at h
  refine zi_aloadn (q := 1) dX12_isNearTouched_0 rfl rfl ?_
  refine zi_iloadn (q := 2) dX12_isNearTouched_1 rfl rfl ?_
  obtain ⟨r1, hr1, h⟩ := Option.bind_eq_some_iff.mp h
  refine zc_V2 (q := 5) (st := []) (S1 := [.int (bi r1)]) (r_X12_isTouched x1 _ r1 hr1) dX12_isNearTouched_2 cb_X12_isTouched k5_218 k5_220 ks_X12_isTouched ⟨by decide, by decide⟩ so_68 rfl rfl rfl (Nat.le_of_ble_eq_true rfl) (Or.inl rfl) rfl rfl ?_
  refine zi_istoren (q := 6) (L' := [some (.ref 68), some (.int x1), some (.int (bi r1)), none, none]) dX12_isNearTouched_5 (by decide) rfl rfl rfl ?_
  refine zi_iconst (q := 7) dX12_isNearTouched_6 ki_0 rfl ?_
  refine zi_istoren (q := 8) (L' := [some (.ref 68), some (.int x1), some (.int (bi r1)), some (.int 0), none]) dX12_isNearTouched_7 (by decide) rfl rfl rfl ?_
  obtain ⟨r4, hr4, h⟩ := Option.bind_eq_some_iff.mp h
  refine zloop_rn (P := fun w : (Int32 × Int32) => Rn E zX12_isNearTouched 8 [some (.ref 68), some (.int x1), some (.int w.1), some (.int w.2), none] [] zSH m (some (.int (bi x))) zSH m) (X := fun w : (Int32) => Rn E zX12_isNearTouched 53 [none, none, some (.int w), none, none] [] zSH m (some (.int (bi x))) zSH m) (fun w w0 hb KI KX => rb_X12_isNearTouched_8 x1 m w _ _ w0 hb KI KX) zFU _ r4 hr4 ?_
  show Rn E zX12_isNearTouched 53 [none, none, some (.int r4), none, none] [] zSH m (some (.int (bi x))) zSH m
  refine zi_iloadn (q := 54) dX12_isNearTouched_53 rfl rfl ?_
  obtain ⟨hz5, h⟩ := zg_some h
  cases h
  rw [show (some (Value.int (bi (decide (r4 = 1))))) = some (.int r4) from by rw [zb_dec hz5]]
  exact zi_ret _ dX12_isNearTouched_54
set_option maxRecDepth 20000 in
theorem rj_X12_spanOf_68 {E : Nat × (Nat → Int32)} (x1 : Int32) (x2 : Int32) (x3 : Int32) (m : zM) (rv : Option Value) (m' : zM) (x : ((Int32 × Int32 × Int32) ⊕ (Int32 × Int32))) (h : j_X12_spanOf_68 x1 x2 x3 m = some x) (KI : ∀ s1 : (Int32 × Int32 × Int32), x = .inl s1 → Rn E zX12_spanOf 10 [some (.ref 68), some (.int s1.1), some (.int s1.2.1), some (.int s1.2.2)] [] zSH m rv zSH m') : Rn E zX12_spanOf 68 [some (.ref 68), some (.int x1), some (.int x2), some (.int x3)] [] zSH m rv zSH m' := by
  unfold j_X12_spanOf_68 at h
  refine zi_iinc (q := 71) (v := x3 + 1) (L' := [some (.ref 68), some (.int x1), some (.int x2), some (.int (x3 + 1))]) dX12_spanOf_68 rfl (by rw [ki_1]) (by decide) rfl rfl rfl ?_
  refine zi_goto (q := 10) dX12_spanOf_71 (by decide) ?_
  exact KI (x1, x2, (x3 + 1)) (Option.some.inj h).symm
set_option maxRecDepth 20000 in
theorem rj_X12_spanOf_67 {E : Nat × (Nat → Int32)} (x1 : Int32) (x3 : Int32) (s0 : Int32) (m : zM) (rv : Option Value) (m' : zM) (x : ((Int32 × Int32 × Int32) ⊕ (Int32 × Int32))) (h : j_X12_spanOf_67 x1 x3 s0 m = some x) (KI : ∀ s1 : (Int32 × Int32 × Int32), x = .inl s1 → Rn E zX12_spanOf 10 [some (.ref 68), some (.int s1.1), some (.int s1.2.1), some (.int s1.2.2)] [] zSH m rv zSH m') : Rn E zX12_spanOf 67 [some (.ref 68), some (.int x1), none, some (.int x3)] [.int s0] zSH m rv zSH m' := by
  unfold j_X12_spanOf_67 at h
  refine zi_istoren (q := 68) (L' := [some (.ref 68), some (.int x1), some (.int s0), some (.int x3)]) dX12_spanOf_67 (by decide) rfl rfl rfl ?_
  exact rj_X12_spanOf_68 x1 s0 x3 _ _ _ _ h KI
set_option maxRecDepth 20000 in
theorem rj_X12_spanOf_46 {E : Nat × (Nat → Int32)} (x2 : Int32) (x3 : Int32) (s0 : Int32) (m : zM) (rv : Option Value) (m' : zM) (x : ((Int32 × Int32 × Int32) ⊕ (Int32 × Int32))) (h : j_X12_spanOf_46 x2 x3 s0 m = some x) (KI : ∀ s1 : (Int32 × Int32 × Int32), x = .inl s1 → Rn E zX12_spanOf 10 [some (.ref 68), some (.int s1.1), some (.int s1.2.1), some (.int s1.2.2)] [] zSH m rv zSH m') : Rn E zX12_spanOf 46 [some (.ref 68), none, some (.int x2), some (.int x3)] [.int s0] zSH m rv zSH m' := by
  unfold j_X12_spanOf_46 at h
  refine zi_istoren (q := 47) (L' := [some (.ref 68), some (.int s0), some (.int x2), some (.int x3)]) dX12_spanOf_46 (by decide) rfl rfl rfl ?_
  refine zi_aloadn (q := 48) dX12_spanOf_47 rfl rfl ?_
  refine zi_getA (q := 51) dX12_spanOf_48 fl_12_22 so_68 rfl rfl ?_
  refine zi_iloadn (q := 52) dX12_spanOf_51 rfl rfl ?_
  obtain ⟨hz4, h⟩ := zg_some h
  refine zi_iald2 (q := 53) dX12_spanOf_52 so_73 (zin_vp hz4) rfl rfl ?_
  refine zi_iloadn (q := 54) dX12_spanOf_53 rfl rfl ?_
  refine zi_icmple (q := 66) (q2 := 57) dX12_spanOf_54 (by decide) rfl (fun hc => ?_) (fun hc => ?_)
  · replace h := (if_pos hc).symm.trans h
    refine zi_iloadn (q := 67) dX12_spanOf_66 rfl rfl ?_
    refine Rn.weakm [true, true, false, true] ?_
    exact rj_X12_spanOf_67 s0 x3 x2 _ _ _ _ h KI
  · replace h := (if_neg hc).symm.trans h
    refine zi_aloadn (q := 58) dX12_spanOf_57 rfl rfl ?_
    refine zi_getA (q := 61) dX12_spanOf_58 fl_12_22 so_68 rfl rfl ?_
    refine zi_iloadn (q := 62) dX12_spanOf_61 rfl rfl ?_
    obtain ⟨hz5, h⟩ := zg_some h
    refine zi_iald2 (q := 63) dX12_spanOf_62 so_73 (zin_vp hz5) rfl rfl ?_
    refine zi_goto (q := 67) dX12_spanOf_63 (by decide) ?_
    refine Rn.weakm [true, true, false, true] ?_
    exact rj_X12_spanOf_67 s0 x3 (m.1 73 x3.toNatClampNeg) _ _ _ _ h KI
set_option maxRecDepth 20000 in
theorem rb_X12_spanOf_10 {E : Nat × (Nat → Int32)}  (m : zM) (s : (Int32 × Int32 × Int32)) (rv : Option Value) (m' : zM) (x : ((Int32 × Int32 × Int32) ⊕ (Int32 × Int32))) (h : b_X12_spanOf_10 m s = some x) (KI : ∀ s1 : (Int32 × Int32 × Int32), x = .inl s1 → Rn E zX12_spanOf 10 [some (.ref 68), some (.int s1.1), some (.int s1.2.1), some (.int s1.2.2)] [] zSH m rv zSH m') (KO : ∀ r1 : (Int32 × Int32), x = .inr r1 → Rn E zX12_spanOf 74 [none, some (.int r1.1), some (.int r1.2), none] [] zSH m rv zSH m') : Rn E zX12_spanOf 10 [some (.ref 68), some (.int s.1), some (.int s.2.1), some (.int s.2.2)] [] zSH m rv zSH m' := by
  unfold b_X12_spanOf_10 at h
  refine zi_iloadn (q := 11) dX12_spanOf_10 rfl rfl ?_
  refine zi_aloadn (q := 12) dX12_spanOf_11 rfl rfl ?_
  obtain ⟨r1, hr1, h⟩ := Option.bind_eq_some_iff.mp h
  refine zc_V2 (q := 15) (st := [.int s.2.2]) (S1 := [.int r1, .int s.2.2]) (r_X12_cells  _ r1 hr1) dX12_spanOf_12 cb_X12_cells k5_138 k5_140 ks_X12_cells ⟨by decide, by decide⟩ so_68 rfl rfl rfl (Nat.le_of_ble_eq_true rfl) (Or.inl rfl) rfl rfl ?_
  refine zi_icmpge (q := 74) (q2 := 18) dX12_spanOf_15 (by decide) rfl (fun hc => ?_) (fun hc => ?_)
  · replace h := (if_pos hc).symm.trans h
    refine Rn.weakm [false, true, true, false] ?_
    exact KO (s.1, s.2.1) (Option.some.inj h).symm
  · replace h := (if_neg hc).symm.trans h
    refine zi_aloadn (q := 19) dX12_spanOf_18 rfl rfl ?_
    refine zi_iloadn (q := 20) dX12_spanOf_19 rfl rfl ?_
    obtain ⟨r2, hr2, h⟩ := Option.bind_eq_some_iff.mp h
    refine zc_V2 (q := 23) (st := []) (S1 := [.int (bi r2)]) (r_X12_isNearTouched s.2.2 _ r2 hr2) dX12_spanOf_20 cb_X12_isNearTouched k5_214 k5_216 ks_X12_isNearTouched ⟨by decide, by decide⟩ so_68 rfl rfl rfl (Nat.le_of_ble_eq_true rfl) (Or.inl rfl) rfl rfl ?_
    refine zi_ifne (q := 68) (q2 := 26) dX12_spanOf_23 (by decide) rfl (fun hc => ?_) (fun hc => ?_)
    · replace h := (if_neg hc).symm.trans h
      exact rj_X12_spanOf_68 s.1 s.2.1 s.2.2 _ _ _ _ h KI
    · replace h := (if_pos hc).symm.trans h
      refine zi_aloadn (q := 27) dX12_spanOf_26 rfl rfl ?_
      refine zi_getA (q := 30) dX12_spanOf_27 fl_12_22 so_68 rfl rfl ?_
      refine zi_iloadn (q := 31) dX12_spanOf_30 rfl rfl ?_
      obtain ⟨hz3, h⟩ := zg_some h
      refine zi_iald2 (q := 32) dX12_spanOf_31 so_73 (zin_vp hz3) rfl rfl ?_
      refine zi_iloadn (q := 33) dX12_spanOf_32 rfl rfl ?_
      refine zi_icmpge (q := 45) (q2 := 36) dX12_spanOf_33 (by decide) rfl (fun hc => ?_) (fun hc => ?_)
      · replace h := (if_pos hc).symm.trans h
        refine zi_iloadn (q := 46) dX12_spanOf_45 rfl rfl ?_
        refine Rn.weakm [true, false, true, true] ?_
        exact rj_X12_spanOf_46 s.2.1 s.2.2 s.1 _ _ _ _ h KI
      · replace h := (if_neg hc).symm.trans h
        refine zi_aloadn (q := 37) dX12_spanOf_36 rfl rfl ?_
        refine zi_getA (q := 40) dX12_spanOf_37 fl_12_22 so_68 rfl rfl ?_
        refine zi_iloadn (q := 41) dX12_spanOf_40 rfl rfl ?_
        obtain ⟨hz6, h⟩ := zg_some h
        refine zi_iald2 (q := 42) dX12_spanOf_41 so_73 (zin_vp hz6) rfl rfl ?_
        refine zi_goto (q := 46) dX12_spanOf_42 (by decide) ?_
        refine Rn.weakm [true, false, true, true] ?_
        exact rj_X12_spanOf_46 s.2.1 s.2.2 (m.1 73 s.2.2.toNatClampNeg) _ _ _ _ h KI
set_option maxRecDepth 20000 in
theorem r_X12_spanOf {E : Nat × (Nat → Int32)}  (m : zM) (x : Int32) (h : f_X12_spanOf  m = some x) : zMet E zX12_spanOf [.ref 68] zSH m (some (.int x)) zSH m := by
  refine zMet.of (L0 := [some (.ref 68), none, none, none]) rfl rfl (Nat.le_of_ble_eq_true rfl) rfl ?_
  unfold f_X12_spanOf at h
  refine zi_ldcw (q := 3) dX12_spanOf_0 k5_212 rfl ?_
  refine zi_istoren (q := 4) (L' := [some (.ref 68), some (.int 268435456), none, none]) dX12_spanOf_3 (by decide) rfl rfl rfl ?_
  refine zi_ldcw (q := 7) dX12_spanOf_4 k5_213 rfl ?_
  refine zi_istoren (q := 8) (L' := [some (.ref 68), some (.int 268435456), some (.int (-268435456)), none]) dX12_spanOf_7 (by decide) rfl rfl rfl ?_
  refine zi_iconst (q := 9) dX12_spanOf_8 ki_0 rfl ?_
  refine zi_istoren (q := 10) (L' := [some (.ref 68), some (.int 268435456), some (.int (-268435456)), some (.int 0)]) dX12_spanOf_9 (by decide) rfl rfl rfl ?_
  obtain ⟨r7, hr7, h⟩ := Option.bind_eq_some_iff.mp h
  refine zloop_rn (P := fun w : (Int32 × Int32 × Int32) => Rn E zX12_spanOf 10 [some (.ref 68), some (.int w.1), some (.int w.2.1), some (.int w.2.2)] [] zSH m (some (.int x)) zSH m) (X := fun w : (Int32 × Int32) => Rn E zX12_spanOf 74 [none, some (.int w.1), some (.int w.2), none] [] zSH m (some (.int x)) zSH m) (fun w w0 hb KI KX => rb_X12_spanOf_10 m w _ _ w0 hb KI KX) zFU _ r7 hr7 ?_
  show Rn E zX12_spanOf 74 [none, some (.int r7.1), some (.int r7.2), none] [] zSH m (some (.int x)) zSH m
  refine zi_iloadn (q := 75) dX12_spanOf_74 rfl rfl ?_
  refine zi_ldcw (q := 78) dX12_spanOf_75 k5_212 rfl ?_
  refine zi_icmpne (q := 85) (q2 := 81) dX12_spanOf_78 (by decide) rfl (fun hc => ?_) (fun hc => ?_)
  · replace h := (if_neg hc).symm.trans h
    refine zi_iloadn (q := 86) dX12_spanOf_85 rfl rfl ?_
    refine zi_iloadn (q := 87) dX12_spanOf_86 rfl rfl ?_
    refine zi_isub (q := 88) dX12_spanOf_87 rfl ?_
    cases h
    exact zi_ret _ dX12_spanOf_88
  · replace h := (if_pos hc).symm.trans h
    refine zi_iconst (q := 82) dX12_spanOf_81 ki_0 rfl ?_
    refine zi_goto (q := 88) dX12_spanOf_82 (by decide) ?_
    cases h
    exact zi_ret _ dX12_spanOf_88
