set_option maxRecDepth 20000 in
theorem r_X11_glass {E : Nat × (Nat → Int32)} (x1 : Int32) (x2 : Int32) (m : zM) (x : (Int32 × zM)) (h : f_X11_glass x1 x2 m = some x) : zMet E zX11_glass [.ref 0, .int x1, .int x2] zSH m (some (.int x.1)) zSH x.2 := by
  refine zMet.of (L0 := [some (.ref 0), some (.int x1), some (.int x2)]) rfl rfl (Nat.le_of_ble_eq_true rfl) rfl ?_
  unfold f_X11_glass at h
  refine zi_iloadn (q := 1) dX11_glass_0 rfl rfl ?_
  refine zi_iconst (q := 2) dX11_glass_1 ki_3 rfl ?_
  refine zi_bipush (q := 4) dX11_glass_2 kb_8 rfl ?_
  obtain ⟨r1, hr1, h⟩ := Option.bind_eq_some_iff.mp h
  refine zc_S2 (q := 7) (st := []) (S1 := [.int (bi r1)]) (r_X11_within x1 3 8 _ r1 hr1) dX11_glass_4 cb_X11_within k2_174 k2_175 ⟨by decide, by decide⟩ rfl (Nat.le_of_ble_eq_true rfl) (Or.inl rfl) rfl rfl ?_
  refine zi_ifeq (q := 20) (q2 := 10) dX11_glass_7 (by decide) rfl (fun hc => ?_) (fun hc => ?_)
  · replace h := (if_pos hc).symm.trans h
    refine zi_sipush (q := 23) dX11_glass_20 kc_m10002 rfl ?_
    cases h
    exact zi_ret _ dX11_glass_23
  · replace h := (if_neg hc).symm.trans h
    refine zi_iloadn (q := 11) dX11_glass_10 rfl rfl ?_
    refine zi_iconst (q := 12) dX11_glass_11 ki_3 rfl ?_
    refine zi_bipush (q := 14) dX11_glass_12 kb_8 rfl ?_
    obtain ⟨r2, hr2, h⟩ := Option.bind_eq_some_iff.mp h
    refine zc_S2 (q := 17) (st := []) (S1 := [.int (bi r2)]) (r_X11_within x2 3 8 _ r2 hr2) dX11_glass_14 cb_X11_within k2_174 k2_175 ⟨by decide, by decide⟩ rfl (Nat.le_of_ble_eq_true rfl) (Or.inl rfl) rfl rfl ?_
    refine zi_ifne (q := 24) (q2 := 20) dX11_glass_17 (by decide) rfl (fun hc => ?_) (fun hc => ?_)
    · replace h := (if_neg hc).symm.trans h
      refine zi_aloadn (q := 25) dX11_glass_24 rfl rfl ?_
      refine zi_getA (q := 28) dX11_glass_25 fl_11_28 so_0 rfl rfl ?_
      refine zi_iloadn (q := 29) dX11_glass_28 rfl rfl ?_
      refine zi_iloadn (q := 30) dX11_glass_29 rfl rfl ?_
      obtain ⟨m3, hm3, h⟩ := Option.bind_eq_some_iff.mp h
      refine zc_V2 (q := 33) (st := []) (S1 := []) (r_X7_renew x1 x2 _ m3 hm3) dX11_glass_30 cb_X7_renew k3_10 k3_11 k3_12 ⟨by decide, by decide⟩ so_13 rfl rfl rfl (Nat.le_of_ble_eq_true rfl) (Or.inl rfl) rfl rfl ?_
      refine zi_aloadn (q := 34) dX11_glass_33 rfl rfl ?_
      refine zi_dup (q := 35) dX11_glass_34 rfl rfl ?_
      refine zi_getI (q := 38) dX11_glass_35 fl_11_92 (by decide) so_0 rfl ?_
      refine zi_iconst (q := 39) dX11_glass_38 ki_1 rfl ?_
      refine zi_iadd (q := 40) dX11_glass_39 rfl ?_
      refine zi_putI (q := 43) dX11_glass_40 pl_11_92 so_0 rfl ?_
      refine zi_aloadn (q := 44) dX11_glass_43 rfl rfl ?_
      refine zi_getA (q := 47) dX11_glass_44 fl_11_28 so_0 rfl rfl ?_
      refine zi_getA (q := 50) dX11_glass_47 fl_11_48 so_13 rfl rfl ?_
      refine zi_getI (q := 53) dX11_glass_50 fl_11_95 (by decide) so_14 rfl ?_
      cases h
      exact zi_ret _ dX11_glass_53
    · replace h := (if_pos hc).symm.trans h
      refine zi_sipush (q := 23) dX11_glass_20 kc_m10002 rfl ?_
      cases h
      exact zi_ret _ dX11_glass_23
set_option maxRecDepth 20000 in
theorem r_X12_layBounds {E : Nat × (Nat → Int32)}  (m : zM) (x : zM) (h : f_X12_layBounds  m = some x) : zMet E zX12_layBounds [.ref 68] zSH m none zSH x := by
  refine zMet.of (L0 := [some (.ref 68)]) rfl trivial (Nat.le_of_ble_eq_true rfl) rfl ?_
  unfold f_X12_layBounds at h
  refine zi_aloadn (q := 1) dX12_layBounds_0 rfl rfl ?_
  refine zi_getA (q := 4) dX12_layBounds_1 fl_12_44 so_68 rfl rfl ?_
  refine zi_iconst (q := 5) dX12_layBounds_4 ki_0 rfl ?_
  refine zi_bipush (q := 7) dX12_layBounds_5 kb_40 rfl ?_
  refine zi_iast2 (q := 8) dX12_layBounds_7 so_80 vi_0_9 ix_0 rfl ?_
  refine zi_aloadn (q := 9) dX12_layBounds_8 rfl rfl ?_
  refine zi_getA (q := 12) dX12_layBounds_9 fl_12_44 so_68 rfl rfl ?_
  refine zi_iconst (q := 13) dX12_layBounds_12 ki_1 rfl ?_
  refine zi_bipush (q := 15) dX12_layBounds_13 kb_20 rfl ?_
  refine zi_iast2 (q := 16) dX12_layBounds_15 so_80 vi_1_9 ix_1 rfl ?_
  refine zi_aloadn (q := 17) dX12_layBounds_16 rfl rfl ?_
  refine zi_getA (q := 20) dX12_layBounds_17 fl_12_44 so_68 rfl rfl ?_
  refine zi_iconst (q := 21) dX12_layBounds_20 ki_2 rfl ?_
  refine zi_bipush (q := 23) dX12_layBounds_21 kb_80 rfl ?_
  refine zi_iast2 (q := 24) dX12_layBounds_23 so_80 vi_2_9 ix_2 rfl ?_
  refine zi_aloadn (q := 25) dX12_layBounds_24 rfl rfl ?_
  refine zi_getA (q := 28) dX12_layBounds_25 fl_12_44 so_68 rfl rfl ?_
  refine zi_iconst (q := 29) dX12_layBounds_28 ki_3 rfl ?_
  refine zi_bipush (q := 31) dX12_layBounds_29 kb_10 rfl ?_
  refine zi_iast2 (q := 32) dX12_layBounds_31 so_80 vi_3_9 ix_3 rfl ?_
  refine zi_aloadn (q := 33) dX12_layBounds_32 rfl rfl ?_
  refine zi_getA (q := 36) dX12_layBounds_33 fl_12_44 so_68 rfl rfl ?_
  refine zi_iconst (q := 37) dX12_layBounds_36 ki_4 rfl ?_
  refine zi_bipush (q := 39) dX12_layBounds_37 kb_24 rfl ?_
  refine zi_iast2 (q := 40) dX12_layBounds_39 so_80 vi_4_9 ix_4 rfl ?_
  refine zi_aloadn (q := 41) dX12_layBounds_40 rfl rfl ?_
  refine zi_getA (q := 44) dX12_layBounds_41 fl_12_44 so_68 rfl rfl ?_
  refine zi_iconst (q := 45) dX12_layBounds_44 ki_5 rfl ?_
  refine zi_iconst (q := 46) dX12_layBounds_45 ki_1 rfl ?_
  refine zi_iast2 (q := 47) dX12_layBounds_46 so_80 vi_5_9 ix_5 rfl ?_
  refine zi_aloadn (q := 48) dX12_layBounds_47 rfl rfl ?_
  refine zi_getA (q := 51) dX12_layBounds_48 fl_12_44 so_68 rfl rfl ?_
  refine zi_bipush (q := 53) dX12_layBounds_51 kb_6 rfl ?_
  refine zi_bipush (q := 55) dX12_layBounds_53 kb_6 rfl ?_
  refine zi_iast2 (q := 56) dX12_layBounds_55 so_80 vi_6_9 ix_6 rfl ?_
  refine zi_aloadn (q := 57) dX12_layBounds_56 rfl rfl ?_
  refine zi_getA (q := 60) dX12_layBounds_57 fl_12_44 so_68 rfl rfl ?_
  refine zi_bipush (q := 62) dX12_layBounds_60 kb_7 rfl ?_
  refine zi_iconst (q := 63) dX12_layBounds_62 ki_2 rfl ?_
  refine zi_iast2 (q := 64) dX12_layBounds_63 so_80 vi_7_9 ix_7 rfl ?_
  refine zi_aloadn (q := 65) dX12_layBounds_64 rfl rfl ?_
  refine zi_getA (q := 68) dX12_layBounds_65 fl_12_44 so_68 rfl rfl ?_
  refine zi_bipush (q := 70) dX12_layBounds_68 kb_8 rfl ?_
  refine zi_bipush (q := 72) dX12_layBounds_70 kb_30 rfl ?_
  refine zi_iast2 (q := 73) dX12_layBounds_72 so_80 vi_8_9 ix_8 rfl ?_
  cases h
  exact zi_ret _ dX12_layBounds_73
set_option maxRecDepth 20000 in
theorem r_X12_cells {E : Nat × (Nat → Int32)}  (m : zM) (x : Int32) (h : f_X12_cells  m = some x) : zMet E zX12_cells [.ref 68] zSH m (some (.int x)) zSH m := by
  refine zMet.of (L0 := [some (.ref 68)]) rfl rfl (Nat.le_of_ble_eq_true rfl) rfl ?_
  unfold f_X12_cells at h
  refine zi_aloadn (q := 1) dX12_cells_0 rfl rfl ?_
  refine zi_getI (q := 4) dX12_cells_1 fl_12_116 (by decide) so_68 rfl ?_
  refine zi_aloadn (q := 5) dX12_cells_4 rfl rfl ?_
  refine zi_getI (q := 8) dX12_cells_5 fl_12_120 (by decide) so_68 rfl ?_
  refine zi_imul (q := 9) dX12_cells_8 rfl ?_
  cases h
  exact zi_ret _ dX12_cells_9
set_option maxRecDepth 20000 in
theorem rb_X12_glass_36 {E : Nat × (Nat → Int32)}   (s : (Int32 × zM)) (rv : Option Value) (m' : zM) (x : ((Int32 × zM) ⊕ (zM))) (h : b_X12_glass_36  s = some x) (KI : ∀ s1 : (Int32 × zM), x = .inl s1 → Rn E zX12_glass 36 [some (.ref 68), none, none, some (.int s1.1)] [] zSH s1.2 rv zSH m') (KO : ∀ r1 : (zM), x = .inr r1 → Rn E zX12_glass 85 [some (.ref 68), none, none, none] [] zSH r1 rv zSH m') : Rn E zX12_glass 36 [some (.ref 68), none, none, some (.int s.1)] [] zSH s.2 rv zSH m' := by
  unfold b_X12_glass_36 at h
  refine zi_iloadn (q := 37) dX12_glass_36 rfl rfl ?_
  refine zi_bipush (q := 39) dX12_glass_37 kb_64 rfl ?_
  refine zi_icmpge (q := 85) (q2 := 42) dX12_glass_39 (by decide) rfl (fun hc => ?_) (fun hc => ?_)
  · replace h := (if_pos hc).symm.trans h
    refine Rn.weakm [true, false, false, false] ?_
    exact KO s.2 (Option.some.inj h).symm
  · replace h := (if_neg hc).symm.trans h
    refine zi_aloadn (q := 43) dX12_glass_42 rfl rfl ?_
    refine zi_getA (q := 46) dX12_glass_43 fl_12_13 so_68 rfl rfl ?_
    refine zi_iloadn (q := 47) dX12_glass_46 rfl rfl ?_
    refine zi_bipush (q := 49) dX12_glass_47 kb_100 rfl ?_
    obtain ⟨hz3, h⟩ := zg_some h
    refine zi_iast2 (q := 50) dX12_glass_49 so_70 (zin_vp hz3) rfl rfl ?_
    refine zi_aloadn (q := 51) dX12_glass_50 rfl rfl ?_
    refine zi_getA (q := 54) dX12_glass_51 fl_12_16 so_68 rfl rfl ?_
    refine zi_iloadn (q := 55) dX12_glass_54 rfl rfl ?_
    refine zi_bipush (q := 57) dX12_glass_55 kb_100 rfl ?_
    obtain ⟨hz4, h⟩ := zg_some h
    refine zi_iast2 (q := 58) dX12_glass_57 so_71 (zin_vp hz4) rfl rfl ?_
    refine zi_aloadn (q := 59) dX12_glass_58 rfl rfl ?_
    refine zi_getA (q := 62) dX12_glass_59 fl_12_19 so_68 rfl rfl ?_
    refine zi_iloadn (q := 63) dX12_glass_62 rfl rfl ?_
    refine zi_iconst (q := 64) dX12_glass_63 ki_0 rfl ?_
    obtain ⟨hz5, h⟩ := zg_some h
    refine zi_iast2 (q := 65) dX12_glass_64 so_72 (zin_vp hz5) rfl rfl ?_
    refine zi_aloadn (q := 66) dX12_glass_65 rfl rfl ?_
    refine zi_getA (q := 69) dX12_glass_66 fl_12_22 so_68 rfl rfl ?_
    refine zi_iloadn (q := 70) dX12_glass_69 rfl rfl ?_
    refine zi_iconst (q := 71) dX12_glass_70 ki_0 rfl ?_
    obtain ⟨hz6, h⟩ := zg_some h
    refine zi_iast2 (q := 72) dX12_glass_71 so_73 (zin_vp hz6) rfl rfl ?_
    refine zi_aloadn (q := 73) dX12_glass_72 rfl rfl ?_
    refine zi_getA (q := 76) dX12_glass_73 fl_12_25 so_68 rfl rfl ?_
    refine zi_iloadn (q := 77) dX12_glass_76 rfl rfl ?_
    refine zi_iconst (q := 78) dX12_glass_77 ki_m1 rfl ?_
    obtain ⟨hz7, h⟩ := zg_some h
    refine zi_iast2 (q := 79) dX12_glass_78 so_74 (zin_vp hz7) rfl rfl ?_
    refine zi_iinc (q := 82) (v := s.1 + 1) (L' := [some (.ref 68), none, none, some (.int (s.1 + 1))]) dX12_glass_79 rfl (by rw [ki_1]) (by decide) rfl rfl rfl ?_
    refine zi_goto (q := 36) dX12_glass_82 (by decide) ?_
    exact KI ((s.1 + 1), (zi (zi (zi (zi (zi s.2 70 s.1.toNatClampNeg 100) 71 s.1.toNatClampNeg 100) 72 s.1.toNatClampNeg 0) 73 s.1.toNatClampNeg 0) 74 s.1.toNatClampNeg (-1))) (Option.some.inj h).symm
set_option maxRecDepth 20000 in
theorem rb_X12_glass_87 {E : Nat × (Nat → Int32)}   (s : (Int32 × zM)) (rv : Option Value) (m' : zM) (x : ((Int32 × zM) ⊕ (zM))) (h : b_X12_glass_87  s = some x) (KI : ∀ s1 : (Int32 × zM), x = .inl s1 → Rn E zX12_glass 87 [some (.ref 68), none, none, some (.int s1.1)] [] zSH s1.2 rv zSH m') (KO : ∀ r1 : (zM), x = .inr r1 → Rn E zX12_glass 105 [some (.ref 68), none, none, none] [] zSH r1 rv zSH m') : Rn E zX12_glass 87 [some (.ref 68), none, none, some (.int s.1)] [] zSH s.2 rv zSH m' := by
  unfold b_X12_glass_87 at h
  refine zi_iloadn (q := 88) dX12_glass_87 rfl rfl ?_
  refine zi_iconst (q := 89) dX12_glass_88 ki_5 rfl ?_
  refine zi_icmpge (q := 105) (q2 := 92) dX12_glass_89 (by decide) rfl (fun hc => ?_) (fun hc => ?_)
  · replace h := (if_pos hc).symm.trans h
    refine Rn.weakm [true, false, false, false] ?_
    exact KO s.2 (Option.some.inj h).symm
  · replace h := (if_neg hc).symm.trans h
    refine zi_aloadn (q := 93) dX12_glass_92 rfl rfl ?_
    refine zi_getA (q := 96) dX12_glass_93 fl_12_28 so_68 rfl rfl ?_
    refine zi_iloadn (q := 97) dX12_glass_96 rfl rfl ?_
    refine zi_iconst (q := 98) dX12_glass_97 ki_0 rfl ?_
    obtain ⟨hz9, h⟩ := zg_some h
    refine zi_bast2 (q := 99) dX12_glass_98 so_75 (zin_vp hz9) rfl rfl rfl ?_
    refine zi_iinc (q := 102) (v := s.1 + 1) (L' := [some (.ref 68), none, none, some (.int (s.1 + 1))]) dX12_glass_99 rfl (by rw [ki_1]) (by decide) rfl rfl rfl ?_
    refine zi_goto (q := 87) dX12_glass_102 (by decide) ?_
    exact KI ((s.1 + 1), (zi s.2 75 s.1.toNatClampNeg 0)) (Option.some.inj h).symm
set_option maxRecDepth 20000 in
theorem rb_X12_glass_107 {E : Nat × (Nat → Int32)}   (s : (Int32 × zM)) (rv : Option Value) (m' : zM) (x : ((Int32 × zM) ⊕ (zM))) (h : b_X12_glass_107  s = some x) (KI : ∀ s1 : (Int32 × zM), x = .inl s1 → Rn E zX12_glass 107 [some (.ref 68), none, none, some (.int s1.1)] [] zSH s1.2 rv zSH m') (KO : ∀ r1 : (zM), x = .inr r1 → Rn E zX12_glass 125 [some (.ref 68), none, none, none] [] zSH r1 rv zSH m') : Rn E zX12_glass 107 [some (.ref 68), none, none, some (.int s.1)] [] zSH s.2 rv zSH m' := by
  unfold b_X12_glass_107 at h
  refine zi_iloadn (q := 108) dX12_glass_107 rfl rfl ?_
  refine zi_iconst (q := 109) dX12_glass_108 ki_3 rfl ?_
  refine zi_icmpge (q := 125) (q2 := 112) dX12_glass_109 (by decide) rfl (fun hc => ?_) (fun hc => ?_)
  · replace h := (if_pos hc).symm.trans h
    refine Rn.weakm [true, false, false, false] ?_
    exact KO s.2 (Option.some.inj h).symm
  · replace h := (if_neg hc).symm.trans h
    refine zi_aloadn (q := 113) dX12_glass_112 rfl rfl ?_
    refine zi_getA (q := 116) dX12_glass_113 fl_12_41 so_68 rfl rfl ?_
    refine zi_iloadn (q := 117) dX12_glass_116 rfl rfl ?_
    refine zi_iconst (q := 118) dX12_glass_117 ki_0 rfl ?_
    obtain ⟨hz11, h⟩ := zg_some h
    refine zi_iast2 (q := 119) dX12_glass_118 so_79 (zin_vp hz11) rfl rfl ?_
    refine zi_iinc (q := 122) (v := s.1 + 1) (L' := [some (.ref 68), none, none, some (.int (s.1 + 1))]) dX12_glass_119 rfl (by rw [ki_1]) (by decide) rfl rfl rfl ?_
    refine zi_goto (q := 107) dX12_glass_122 (by decide) ?_
    exact KI ((s.1 + 1), (zi s.2 79 s.1.toNatClampNeg 0)) (Option.some.inj h).symm
set_option maxRecDepth 20000 in
theorem r_X12_glass {E : Nat × (Nat → Int32)} (x1 : Int32) (x2 : Int32) (m : zM) (x : (Int32 × zM)) (h : f_X12_glass x1 x2 m = some x) : zMet E zX12_glass [.ref 68, .int x1, .int x2] zSH m (some (.int x.1)) zSH x.2 := by
  refine zMet.of (L0 := [some (.ref 68), some (.int x1), some (.int x2), none]) rfl rfl (Nat.le_of_ble_eq_true rfl) rfl ?_
  unfold f_X12_glass at h
  refine zi_iloadn (q := 1) dX12_glass_0 rfl rfl ?_
  refine zi_iconst (q := 2) dX12_glass_1 ki_3 rfl ?_
  refine zi_bipush (q := 4) dX12_glass_2 kb_8 rfl ?_
  obtain ⟨r1, hr1, h⟩ := Option.bind_eq_some_iff.mp h
  refine zc_S2 (q := 7) (st := []) (S1 := [.int (bi r1)]) (r_X12_within x1 3 8 _ r1 hr1) dX12_glass_4 cb_X12_within k5_71 k5_72 ⟨by decide, by decide⟩ rfl (Nat.le_of_ble_eq_true rfl) (Or.inl rfl) rfl rfl ?_
  refine zi_ifeq (q := 20) (q2 := 10) dX12_glass_7 (by decide) rfl (fun hc => ?_) (fun hc => ?_)
  · replace h := (if_pos hc).symm.trans h
    refine zi_sipush (q := 23) dX12_glass_20 kc_m10002 rfl ?_
    cases h
    exact zi_ret _ dX12_glass_23
  · replace h := (if_neg hc).symm.trans h
    refine zi_iloadn (q := 11) dX12_glass_10 rfl rfl ?_
    refine zi_iconst (q := 12) dX12_glass_11 ki_3 rfl ?_
    refine zi_bipush (q := 14) dX12_glass_12 kb_8 rfl ?_
    obtain ⟨r2, hr2, h⟩ := Option.bind_eq_some_iff.mp h
    refine zc_S2 (q := 17) (st := []) (S1 := [.int (bi r2)]) (r_X12_within x2 3 8 _ r2 hr2) dX12_glass_14 cb_X12_within k5_71 k5_72 ⟨by decide, by decide⟩ rfl (Nat.le_of_ble_eq_true rfl) (Or.inl rfl) rfl rfl ?_
    refine zi_ifne (q := 24) (q2 := 20) dX12_glass_17 (by decide) rfl (fun hc => ?_) (fun hc => ?_)
    · replace h := (if_neg hc).symm.trans h
      refine zi_aloadn (q := 25) dX12_glass_24 rfl rfl ?_
      refine zi_iloadn (q := 26) dX12_glass_25 rfl rfl ?_
      refine zi_putI (q := 29) dX12_glass_26 pl_12_116 so_68 rfl ?_
      refine zi_aloadn (q := 30) dX12_glass_29 rfl rfl ?_
      refine zi_iloadn (q := 31) dX12_glass_30 rfl rfl ?_
      refine zi_putI (q := 34) dX12_glass_31 pl_12_120 so_68 rfl ?_
      refine zi_iconst (q := 35) dX12_glass_34 ki_0 rfl ?_
      refine zi_istoren (q := 36) (L' := [some (.ref 68), some (.int x1), some (.int x2), some (.int 0)]) dX12_glass_35 (by decide) rfl rfl rfl ?_
      obtain ⟨r8, hr8, h⟩ := Option.bind_eq_some_iff.mp h
      refine Rn.weakm [true, false, false, true] ?_
      refine zloop_rn (P := fun w : (Int32 × zM) => Rn E zX12_glass 36 [some (.ref 68), none, none, some (.int w.1)] [] zSH w.2 (some (.int x.1)) zSH x.2) (X := fun w : (zM) => Rn E zX12_glass 85 [some (.ref 68), none, none, none] [] zSH w (some (.int x.1)) zSH x.2) (fun w w0 hb KI KX => rb_X12_glass_36  w _ _ w0 hb KI KX) zFU _ r8 hr8 ?_
      show Rn E zX12_glass 85 [some (.ref 68), none, none, none] [] zSH r8 (some (.int x.1)) zSH x.2
      refine zi_iconst (q := 86) dX12_glass_85 ki_0 rfl ?_
      refine zi_istoren (q := 87) (L' := [some (.ref 68), none, none, some (.int 0)]) dX12_glass_86 (by decide) rfl rfl rfl ?_
      obtain ⟨r10, hr10, h⟩ := Option.bind_eq_some_iff.mp h
      refine zloop_rn (P := fun w : (Int32 × zM) => Rn E zX12_glass 87 [some (.ref 68), none, none, some (.int w.1)] [] zSH w.2 (some (.int x.1)) zSH x.2) (X := fun w : (zM) => Rn E zX12_glass 105 [some (.ref 68), none, none, none] [] zSH w (some (.int x.1)) zSH x.2) (fun w w0 hb KI KX => rb_X12_glass_87  w _ _ w0 hb KI KX) zFU _ r10 hr10 ?_
      show Rn E zX12_glass 105 [some (.ref 68), none, none, none] [] zSH r10 (some (.int x.1)) zSH x.2
      refine zi_iconst (q := 106) dX12_glass_105 ki_0 rfl ?_
      refine zi_istoren (q := 107) (L' := [some (.ref 68), none, none, some (.int 0)]) dX12_glass_106 (by decide) rfl rfl rfl ?_
      obtain ⟨r12, hr12, h⟩ := Option.bind_eq_some_iff.mp h
      refine zloop_rn (P := fun w : (Int32 × zM) => Rn E zX12_glass 107 [some (.ref 68), none, none, some (.int w.1)] [] zSH w.2 (some (.int x.1)) zSH x.2) (X := fun w : (zM) => Rn E zX12_glass 125 [some (.ref 68), none, none, none] [] zSH w (some (.int x.1)) zSH x.2) (fun w w0 hb KI KX => rb_X12_glass_107  w _ _ w0 hb KI KX) zFU _ r12 hr12 ?_
      show Rn E zX12_glass 125 [some (.ref 68), none, none, none] [] zSH r12 (some (.int x.1)) zSH x.2
      refine zi_aloadn (q := 126) dX12_glass_125 rfl rfl ?_
      obtain ⟨m13, hm13, h⟩ := Option.bind_eq_some_iff.mp h
      refine zc_V2 (q := 129) (st := []) (S1 := []) (r_X12_layBounds  _ m13 hm13) dX12_glass_126 cb_X12_layBounds k5_134 k5_136 ks_X12_layBounds ⟨by decide, by decide⟩ so_68 rfl rfl rfl (Nat.le_of_ble_eq_true rfl) (Or.inl rfl) rfl rfl ?_
      refine zi_aloadn (q := 130) dX12_glass_129 rfl rfl ?_
      refine zi_iconst (q := 131) dX12_glass_130 ki_0 rfl ?_
      refine zi_putI (q := 134) dX12_glass_131 pl_12_194 so_68 rfl ?_
      refine zi_aloadn (q := 135) dX12_glass_134 rfl rfl ?_
      refine zi_iconst (q := 136) dX12_glass_135 ki_1 rfl ?_
      refine zi_putI (q := 139) dX12_glass_136 pl_12_197 so_68 rfl ?_
      refine zi_aloadn (q := 140) dX12_glass_139 rfl rfl ?_
      refine zi_iconst (q := 141) dX12_glass_140 ki_0 rfl ?_
      refine zi_putI (q := 144) dX12_glass_141 pl_12_200 so_68 rfl ?_
      refine zi_aloadn (q := 145) dX12_glass_144 rfl rfl ?_
      refine zi_iconst (q := 146) dX12_glass_145 ki_0 rfl ?_
      refine zi_putI (q := 149) dX12_glass_146 pl_12_203 so_68 rfl ?_
      refine zi_aloadn (q := 150) dX12_glass_149 rfl rfl ?_
      refine zi_iconst (q := 151) dX12_glass_150 ki_0 rfl ?_
      refine zi_putZ (q := 154) dX12_glass_151 pl_12_206 so_68 rfl rfl ?_
      refine zi_aloadn (q := 155) dX12_glass_154 rfl rfl ?_
      refine zi_iconst (q := 156) dX12_glass_155 ki_0 rfl ?_
      refine zi_putI (q := 159) dX12_glass_156 pl_12_209 so_68 rfl ?_
      refine zi_aloadn (q := 160) dX12_glass_159 rfl rfl ?_
      refine zi_iconst (q := 161) dX12_glass_160 ki_0 rfl ?_
      refine zi_putI (q := 164) dX12_glass_161 pl_12_212 so_68 rfl ?_
      refine zi_aloadn (q := 165) dX12_glass_164 rfl rfl ?_
      refine zi_dup (q := 166) dX12_glass_165 rfl rfl ?_
      refine zi_getI (q := 169) dX12_glass_166 fl_12_215 (by decide) so_68 rfl ?_
      refine zi_iconst (q := 170) dX12_glass_169 ki_1 rfl ?_
      refine zi_iadd (q := 171) dX12_glass_170 rfl ?_
      refine zi_putI (q := 174) dX12_glass_171 pl_12_215 so_68 rfl ?_
      refine zi_aloadn (q := 175) dX12_glass_174 rfl rfl ?_
      obtain ⟨r14, hr14, h⟩ := Option.bind_eq_some_iff.mp h
      refine zc_V2 (q := 178) (st := []) (S1 := [.int r14]) (r_X12_cells  _ r14 hr14) dX12_glass_175 cb_X12_cells k5_138 k5_140 ks_X12_cells ⟨by decide, by decide⟩ so_68 rfl rfl rfl (Nat.le_of_ble_eq_true rfl) (Or.inl rfl) rfl rfl ?_
      cases h
      exact zi_ret _ dX12_glass_178
    · replace h := (if_pos hc).symm.trans h
      refine zi_sipush (q := 23) dX12_glass_20 kc_m10002 rfl ?_
      cases h
      exact zi_ret _ dX12_glass_23
set_option maxRecDepth 20000 in
theorem r_X7_hasCell {E : Nat × (Nat → Int32)} (x1 : Int32) (m : zM) (x : Bool) (h : f_X7_hasCell x1 m = some x) : zMet E zX7_hasCell [.ref 13, .int x1] zSH m (some (.int (bi x))) zSH m := by
  refine zMet.of (L0 := [some (.ref 13), some (.int x1)]) rfl (zfit_bi _) (Nat.le_of_ble_eq_true rfl) rfl ?_
  unfold f_X7_hasCell at h
  refine zi_aloadn (q := 1) dX7_hasCell_0 rfl rfl ?_
  refine zi_getI (q := 4) dX7_hasCell_1 fl_7_75 (by decide) so_13 rfl ?_
  refine zi_ifeq (q := 28) (q2 := 7) dX7_hasCell_4 (by decide) rfl (fun hc => ?_) (fun hc => ?_)
  · replace h := (if_pos hc).symm.trans h
    refine zi_iconst (q := 29) dX7_hasCell_28 ki_0 rfl ?_
    cases h
    exact zi_ret _ dX7_hasCell_29
  · replace h := (if_neg hc).symm.trans h
    refine zi_iloadn (q := 8) dX7_hasCell_7 rfl rfl ?_
    refine zi_iconst (q := 9) dX7_hasCell_8 ki_0 rfl ?_
    refine zi_aloadn (q := 10) dX7_hasCell_9 rfl rfl ?_
    refine zi_getA (q := 13) dX7_hasCell_10 fl_7_12 so_13 rfl rfl ?_
    refine zi_getI (q := 16) dX7_hasCell_13 fl_7_115 (by decide) so_14 rfl ?_
    refine zi_iconst (q := 17) dX7_hasCell_16 ki_1 rfl ?_
    refine zi_isub (q := 18) dX7_hasCell_17 rfl ?_
    obtain ⟨r1, hr1, h⟩ := Option.bind_eq_some_iff.mp h
    refine zc_SN2 (q := 21) (st := []) (S1 := [.int (bi r1)]) (r_X11_within x1 0 ((m.1 14 2) - 1) _ r1 hr1) dX7_hasCell_18 cb_X11_within zn_7_118 k2_175 ⟨by decide, by decide⟩ rfl (Nat.le_of_ble_eq_true rfl) (Or.inl rfl) rfl rfl ?_
    refine zi_ifeq (q := 28) (q2 := 24) dX7_hasCell_21 (by decide) rfl (fun hc => ?_) (fun hc => ?_)
    · replace h := (if_pos hc).symm.trans h
      refine zi_iconst (q := 29) dX7_hasCell_28 ki_0 rfl ?_
      cases h
      exact zi_ret _ dX7_hasCell_29
    · replace h := (if_neg hc).symm.trans h
      refine zi_iconst (q := 25) dX7_hasCell_24 ki_1 rfl ?_
      refine zi_goto (q := 29) dX7_hasCell_25 (by decide) ?_
      cases h
      exact zi_ret _ dX7_hasCell_29
set_option maxRecDepth 20000 in
theorem r_X11_air {E : Nat × (Nat → Int32)} (x1 : Int32) (x2 : Int32) (m : zM) (x : (Int32 × zM)) (h : f_X11_air x1 x2 m = some x) : zMet E zX11_air [.ref 0, .int x1, .int x2] zSH m (some (.int x.1)) zSH x.2 := by
  refine zMet.of (L0 := [some (.ref 0), some (.int x1), some (.int x2), none]) rfl rfl (Nat.le_of_ble_eq_true rfl) rfl ?_
  unfold f_X11_air at h
  refine zi_aloadn (q := 1) dX11_air_0 rfl rfl ?_
  refine zi_getA (q := 4) dX11_air_1 fl_11_28 so_0 rfl rfl ?_
  refine zi_iloadn (q := 5) dX11_air_4 rfl rfl ?_
  obtain ⟨r1, hr1, h⟩ := Option.bind_eq_some_iff.mp h
  refine zc_V2 (q := 8) (st := []) (S1 := [.int (bi r1)]) (r_X7_hasCell x1 _ r1 hr1) dX11_air_5 cb_X7_hasCell k3_56 k3_57 k3_58 ⟨by decide, by decide⟩ so_13 rfl rfl rfl (Nat.le_of_ble_eq_true rfl) (Or.inl rfl) rfl rfl ?_
  refine zi_ifne (q := 15) (q2 := 11) dX11_air_8 (by decide) rfl (fun hc => ?_) (fun hc => ?_)
  · replace h := (if_neg hc).symm.trans h
    refine zi_iloadn (q := 16) dX11_air_15 rfl rfl ?_
    refine zi_iconst (q := 17) dX11_air_16 ki_0 rfl ?_
    refine zi_sipush (q := 20) dX11_air_17 kc_999 rfl ?_
    obtain ⟨r2, hr2, h⟩ := Option.bind_eq_some_iff.mp h
    refine zc_S2 (q := 23) (st := []) (S1 := [.int (bi r2)]) (r_X11_within x2 0 999 _ r2 hr2) dX11_air_20 cb_X11_within k2_174 k2_175 ⟨by decide, by decide⟩ rfl (Nat.le_of_ble_eq_true rfl) (Or.inl rfl) rfl rfl ?_
    refine zi_ifne (q := 30) (q2 := 26) dX11_air_23 (by decide) rfl (fun hc => ?_) (fun hc => ?_)
    · replace h := (if_neg hc).symm.trans h
      refine zi_aloadn (q := 31) dX11_air_30 rfl rfl ?_
      refine zi_getA (q := 34) dX11_air_31 fl_11_28 so_0 rfl rfl ?_
      refine zi_getA (q := 37) dX11_air_34 fl_11_72 so_13 rfl rfl ?_
      refine zi_getA (q := 40) dX11_air_37 fl_11_104 so_31 rfl rfl ?_
      refine zi_iloadn (q := 41) dX11_air_40 rfl rfl ?_
      obtain ⟨hz3, h⟩ := zg_some h
      refine zi_iald2 (q := 42) dX11_air_41 so_32 (zin_vp hz3) rfl rfl ?_
      refine zi_istoren (q := 43) (L' := [some (.ref 0), some (.int x1), some (.int x2), some (.int (m.1 32 x1.toNatClampNeg))]) dX11_air_42 (by decide) rfl rfl rfl ?_
      refine zi_aloadn (q := 44) dX11_air_43 rfl rfl ?_
      refine zi_getA (q := 47) dX11_air_44 fl_11_28 so_0 rfl rfl ?_
      refine zi_getA (q := 50) dX11_air_47 fl_11_72 so_13 rfl rfl ?_
      refine zi_getA (q := 53) dX11_air_50 fl_11_104 so_31 rfl rfl ?_
      refine zi_iloadn (q := 54) dX11_air_53 rfl rfl ?_
      refine zi_iloadn (q := 55) dX11_air_54 rfl rfl ?_
      obtain ⟨hz4, h⟩ := zg_some h
      refine zi_iast2 (q := 56) dX11_air_55 so_32 (zin_vp hz4) rfl rfl ?_
      refine zi_iloadn (q := 57) dX11_air_56 rfl rfl ?_
      cases h
      exact zi_ret _ dX11_air_57
    · replace h := (if_pos hc).symm.trans h
      refine zi_sipush (q := 29) dX11_air_26 kc_m10002 rfl ?_
      cases h
      exact zi_ret _ dX11_air_29
  · replace h := (if_pos hc).symm.trans h
    refine zi_sipush (q := 14) dX11_air_11 kc_m10001 rfl ?_
    cases h
    exact zi_ret _ dX11_air_14
set_option maxRecDepth 20000 in
theorem r_X12_isCell {E : Nat × (Nat → Int32)} (x1 : Int32) (m : zM) (x : Bool) (h : f_X12_isCell x1 m = some x) : zMet E zX12_isCell [.ref 68, .int x1] zSH m (some (.int (bi x))) zSH m := by
  refine zMet.of (L0 := [some (.ref 68), some (.int x1)]) rfl (zfit_bi _) (Nat.le_of_ble_eq_true rfl) rfl ?_
  unfold f_X12_isCell at h
  refine zi_aloadn (q := 1) dX12_isCell_0 rfl rfl ?_
  obtain ⟨r1, hr1, h⟩ := Option.bind_eq_some_iff.mp h
  refine zc_V2 (q := 4) (st := []) (S1 := [.int (bi r1)]) (r_X12_isGlass  _ r1 hr1) dX12_isCell_1 cb_X12_isGlass k5_82 k5_84 ks_X12_isGlass ⟨by decide, by decide⟩ so_68 rfl rfl rfl (Nat.le_of_ble_eq_true rfl) (Or.inl rfl) rfl rfl ?_
  refine zi_ifeq (q := 25) (q2 := 7) dX12_isCell_4 (by decide) rfl (fun hc => ?_) (fun hc => ?_)
  · replace h := (if_pos hc).symm.trans h
    refine zi_iconst (q := 26) dX12_isCell_25 ki_0 rfl ?_
    cases h
    exact zi_ret _ dX12_isCell_26
  · replace h := (if_neg hc).symm.trans h
    refine zi_iloadn (q := 8) dX12_isCell_7 rfl rfl ?_
    refine zi_iconst (q := 9) dX12_isCell_8 ki_0 rfl ?_
    refine zi_aloadn (q := 10) dX12_isCell_9 rfl rfl ?_
    obtain ⟨r2, hr2, h⟩ := Option.bind_eq_some_iff.mp h
    refine zc_V2 (q := 13) (st := [.int 0, .int x1]) (S1 := [.int r2, .int 0, .int x1]) (r_X12_cells  _ r2 hr2) dX12_isCell_10 cb_X12_cells k5_138 k5_140 ks_X12_cells ⟨by decide, by decide⟩ so_68 rfl rfl rfl (Nat.le_of_ble_eq_true rfl) (Or.inl rfl) rfl rfl ?_
    refine zi_iconst (q := 14) dX12_isCell_13 ki_1 rfl ?_
    refine zi_isub (q := 15) dX12_isCell_14 rfl ?_
    obtain ⟨r3, hr3, h⟩ := Option.bind_eq_some_iff.mp h
    refine zc_S2 (q := 18) (st := []) (S1 := [.int (bi r3)]) (r_X12_within x1 0 (r2 - 1) _ r3 hr3) dX12_isCell_15 cb_X12_within k5_71 k5_72 ⟨by decide, by decide⟩ rfl (Nat.le_of_ble_eq_true rfl) (Or.inl rfl) rfl rfl ?_
    refine zi_ifeq (q := 25) (q2 := 21) dX12_isCell_18 (by decide) rfl (fun hc => ?_) (fun hc => ?_)
    · replace h := (if_pos hc).symm.trans h
      refine zi_iconst (q := 26) dX12_isCell_25 ki_0 rfl ?_
      cases h
      exact zi_ret _ dX12_isCell_26
    · replace h := (if_neg hc).symm.trans h
      refine zi_iconst (q := 22) dX12_isCell_21 ki_1 rfl ?_
      refine zi_goto (q := 26) dX12_isCell_22 (by decide) ?_
      cases h
      exact zi_ret _ dX12_isCell_26
set_option maxRecDepth 20000 in
theorem r_X12_air {E : Nat × (Nat → Int32)} (x1 : Int32) (x2 : Int32) (m : zM) (x : (Int32 × zM)) (h : f_X12_air x1 x2 m = some x) : zMet E zX12_air [.ref 68, .int x1, .int x2] zSH m (some (.int x.1)) zSH x.2 := by
  refine zMet.of (L0 := [some (.ref 68), some (.int x1), some (.int x2), none]) rfl rfl (Nat.le_of_ble_eq_true rfl) rfl ?_
  unfold f_X12_air at h
  refine zi_aloadn (q := 1) dX12_air_0 rfl rfl ?_
  refine zi_iloadn (q := 2) dX12_air_1 rfl rfl ?_
  obtain ⟨r1, hr1, h⟩ := Option.bind_eq_some_iff.mp h
  refine zc_V2 (q := 5) (st := []) (S1 := [.int (bi r1)]) (r_X12_isCell x1 _ r1 hr1) dX12_air_2 cb_X12_isCell k5_146 k5_148 ks_X12_isCell ⟨by decide, by decide⟩ so_68 rfl rfl rfl (Nat.le_of_ble_eq_true rfl) (Or.inl rfl) rfl rfl ?_
  refine zi_ifne (q := 12) (q2 := 8) dX12_air_5 (by decide) rfl (fun hc => ?_) (fun hc => ?_)
  · replace h := (if_neg hc).symm.trans h
    refine zi_iloadn (q := 13) dX12_air_12 rfl rfl ?_
    refine zi_iconst (q := 14) dX12_air_13 ki_0 rfl ?_
    refine zi_sipush (q := 17) dX12_air_14 kc_999 rfl ?_
    obtain ⟨r2, hr2, h⟩ := Option.bind_eq_some_iff.mp h
    refine zc_S2 (q := 20) (st := []) (S1 := [.int (bi r2)]) (r_X12_within x2 0 999 _ r2 hr2) dX12_air_17 cb_X12_within k5_71 k5_72 ⟨by decide, by decide⟩ rfl (Nat.le_of_ble_eq_true rfl) (Or.inl rfl) rfl rfl ?_
    refine zi_ifne (q := 27) (q2 := 23) dX12_air_20 (by decide) rfl (fun hc => ?_) (fun hc => ?_)
    · replace h := (if_neg hc).symm.trans h
      refine zi_aloadn (q := 28) dX12_air_27 rfl rfl ?_
      refine zi_getA (q := 31) dX12_air_28 fl_12_13 so_68 rfl rfl ?_
      refine zi_iloadn (q := 32) dX12_air_31 rfl rfl ?_
      obtain ⟨hz3, h⟩ := zg_some h
      refine zi_iald2 (q := 33) dX12_air_32 so_70 (zin_vp hz3) rfl rfl ?_
      refine zi_istoren (q := 34) (L' := [some (.ref 68), some (.int x1), some (.int x2), some (.int (m.1 70 x1.toNatClampNeg))]) dX12_air_33 (by decide) rfl rfl rfl ?_
      refine zi_aloadn (q := 35) dX12_air_34 rfl rfl ?_
      refine zi_getA (q := 38) dX12_air_35 fl_12_13 so_68 rfl rfl ?_
      refine zi_iloadn (q := 39) dX12_air_38 rfl rfl ?_
      refine zi_iloadn (q := 40) dX12_air_39 rfl rfl ?_
      obtain ⟨hz4, h⟩ := zg_some h
      refine zi_iast2 (q := 41) dX12_air_40 so_70 (zin_vp hz4) rfl rfl ?_
      refine zi_iloadn (q := 42) dX12_air_41 rfl rfl ?_
      cases h
      exact zi_ret _ dX12_air_42
    · replace h := (if_pos hc).symm.trans h
      refine zi_sipush (q := 26) dX12_air_23 kc_m10002 rfl ?_
      cases h
      exact zi_ret _ dX12_air_26
  · replace h := (if_pos hc).symm.trans h
    refine zi_sipush (q := 11) dX12_air_8 kc_m10001 rfl ?_
    cases h
    exact zi_ret _ dX12_air_11
set_option maxRecDepth 20000 in
theorem rj_X9_addToBackgrounds_57 {E : Nat × (Nat → Int32)} (x1 : Int32) (x2 : Int32) (x3 : Int32) (m : zM) (rv : Option Value) (m' : zM) (x : ((Int32 × Int32 × zM) ⊕ (Int32 × zM))) (h : j_X9_addToBackgrounds_57 x1 x2 x3 m = some x) (KI : ∀ s1 : (Int32 × Int32 × zM), x = .inl s1 → Rn E zX9_addToBackgrounds 4 [some (.ref 31), some (.int x1), some (.int s1.1), some (.int s1.2.1), none] [] zSH s1.2.2 rv zSH m') : Rn E zX9_addToBackgrounds 57 [some (.ref 31), some (.int x1), some (.int x2), some (.int x3), none] [] zSH m rv zSH m' := by
  unfold j_X9_addToBackgrounds_57 at h
  refine zi_iinc (q := 60) (v := x3 + 1) (L' := [some (.ref 31), some (.int x1), some (.int x2), some (.int (x3 + 1)), none]) dX9_addToBackgrounds_57 rfl (by rw [ki_1]) (by decide) rfl rfl rfl ?_
  refine zi_goto (q := 4) dX9_addToBackgrounds_60 (by decide) ?_
  exact KI (x2, (x3 + 1), m) (Option.some.inj h).symm
set_option maxRecDepth 20000 in
theorem rb_X9_addToBackgrounds_4 {E : Nat × (Nat → Int32)} (x1 : Int32)  (s : (Int32 × Int32 × zM)) (rv : Option Value) (m' : zM) (x : ((Int32 × Int32 × zM) ⊕ (Int32 × zM))) (h : b_X9_addToBackgrounds_4 x1 s = some x) (KI : ∀ s1 : (Int32 × Int32 × zM), x = .inl s1 → Rn E zX9_addToBackgrounds 4 [some (.ref 31), some (.int x1), some (.int s1.1), some (.int s1.2.1), none] [] zSH s1.2.2 rv zSH m') (KO : ∀ r1 : (Int32 × zM), x = .inr r1 → Rn E zX9_addToBackgrounds 63 [none, none, some (.int r1.1), none, none] [] zSH r1.2 rv zSH m') : Rn E zX9_addToBackgrounds 4 [some (.ref 31), some (.int x1), some (.int s.1), some (.int s.2.1), none] [] zSH s.2.2 rv zSH m' := by
  unfold b_X9_addToBackgrounds_4 at h
  refine zi_iloadn (q := 5) dX9_addToBackgrounds_4 rfl rfl ?_
  refine zi_aloadn (q := 6) dX9_addToBackgrounds_5 rfl rfl ?_
  refine zi_getA (q := 9) dX9_addToBackgrounds_6 fl_9_31 so_31 rfl rfl ?_
  refine zi_getI (q := 12) dX9_addToBackgrounds_9 fl_9_41 (by decide) so_14 rfl ?_
  refine zi_icmpge (q := 63) (q2 := 15) dX9_addToBackgrounds_12 (by decide) rfl (fun hc => ?_) (fun hc => ?_)
  · replace h := (if_pos hc).symm.trans h
    refine Rn.weakm [false, false, true, false, false] ?_
    exact KO (s.1, s.2.2) (Option.some.inj h).symm
  · replace h := (if_neg hc).symm.trans h
    refine zi_iconst (q := 16) dX9_addToBackgrounds_15 ki_0 rfl ?_
    refine zi_sipush (q := 19) dX9_addToBackgrounds_16 kc_999 rfl ?_
    refine zi_aloadn (q := 20) dX9_addToBackgrounds_19 rfl rfl ?_
    refine zi_getA (q := 23) dX9_addToBackgrounds_20 fl_9_9 so_31 rfl rfl ?_
    refine zi_iloadn (q := 24) dX9_addToBackgrounds_23 rfl rfl ?_
    obtain ⟨hz1, h⟩ := zg_some h
    refine zi_iald2 (q := 25) dX9_addToBackgrounds_24 so_32 (zin_vp hz1) rfl rfl ?_
    refine zi_iloadn (q := 26) dX9_addToBackgrounds_25 rfl rfl ?_
    refine zi_iadd (q := 27) dX9_addToBackgrounds_26 rfl ?_
    obtain ⟨r2, hr2, h⟩ := Option.bind_eq_some_iff.mp h
    refine zc_S2 (q := 30) (st := [.int 0]) (S1 := [.int r2, .int 0]) (r_J9_min_7cf53 999 ((s.2.2.1 32 s.2.1.toNatClampNeg) + x1) _ r2 hr2) dX9_addToBackgrounds_27 cb_J9_min_7cf53 k3_69 k3_24 ⟨by decide, by decide⟩ rfl (Nat.le_of_ble_eq_true rfl) (Or.inl rfl) rfl rfl ?_
    obtain ⟨r3, hr3, h⟩ := Option.bind_eq_some_iff.mp h
    refine zc_S2 (q := 33) (st := []) (S1 := [.int r3]) (r_J9_max_7cf53 0 r2 _ r3 hr3) dX9_addToBackgrounds_30 cb_J9_max_7cf53 k3_70 k3_0 ⟨by decide, by decide⟩ rfl (Nat.le_of_ble_eq_true rfl) (Or.inl rfl) rfl rfl ?_
    refine zi_istore (q := 35) (L' := [some (.ref 31), some (.int x1), some (.int s.1), some (.int s.2.1), some (.int r3)]) dX9_addToBackgrounds_33 (by decide) rfl rfl rfl ?_
    refine zi_iload (q := 37) dX9_addToBackgrounds_35 rfl rfl ?_
    refine zi_aloadn (q := 38) dX9_addToBackgrounds_37 rfl rfl ?_
    refine zi_getA (q := 41) dX9_addToBackgrounds_38 fl_9_9 so_31 rfl rfl ?_
    refine zi_iloadn (q := 42) dX9_addToBackgrounds_41 rfl rfl ?_
    obtain ⟨hz4, h⟩ := zg_some h
    refine zi_iald2 (q := 43) dX9_addToBackgrounds_42 so_32 (zin_vp hz4) rfl rfl ?_
    refine zi_icmpeq (q := 57) (q2 := 46) dX9_addToBackgrounds_43 (by decide) rfl (fun hc => ?_) (fun hc => ?_)
    · replace h := (if_pos hc).symm.trans h
      refine Rn.weakm [true, true, true, true, false] ?_
      exact rj_X9_addToBackgrounds_57 x1 s.1 s.2.1 _ _ _ _ h KI
    · replace h := (if_neg hc).symm.trans h
      refine zi_aloadn (q := 47) dX9_addToBackgrounds_46 rfl rfl ?_
      refine zi_getA (q := 50) dX9_addToBackgrounds_47 fl_9_9 so_31 rfl rfl ?_
      refine zi_iloadn (q := 51) dX9_addToBackgrounds_50 rfl rfl ?_
      refine zi_iload (q := 53) dX9_addToBackgrounds_51 rfl rfl ?_
      obtain ⟨hz5, h⟩ := zg_some h
      refine zi_iast2 (q := 54) dX9_addToBackgrounds_53 so_32 (zin_vp hz5) rfl rfl ?_
      refine zi_iinc (q := 57) (v := s.1 + 1) (L' := [some (.ref 31), some (.int x1), some (.int (s.1 + 1)), some (.int s.2.1), some (.int r3)]) dX9_addToBackgrounds_54 rfl (by rw [ki_1]) (by decide) rfl rfl rfl ?_
      refine Rn.weakm [true, true, true, true, false] ?_
      exact rj_X9_addToBackgrounds_57 x1 (s.1 + 1) s.2.1 _ _ _ _ h KI
set_option maxRecDepth 20000 in
theorem r_X9_addToBackgrounds {E : Nat × (Nat → Int32)} (x1 : Int32) (m : zM) (x : (Int32 × zM)) (h : f_X9_addToBackgrounds x1 m = some x) : zMet E zX9_addToBackgrounds [.ref 31, .int x1] zSH m (some (.int x.1)) zSH x.2 := by
  refine zMet.of (L0 := [some (.ref 31), some (.int x1), none, none, none]) rfl rfl (Nat.le_of_ble_eq_true rfl) rfl ?_
  unfold f_X9_addToBackgrounds at h
  refine zi_iconst (q := 1) dX9_addToBackgrounds_0 ki_0 rfl ?_
  refine zi_istoren (q := 2) (L' := [some (.ref 31), some (.int x1), some (.int 0), none, none]) dX9_addToBackgrounds_1 (by decide) rfl rfl rfl ?_
  refine zi_iconst (q := 3) dX9_addToBackgrounds_2 ki_0 rfl ?_
  refine zi_istoren (q := 4) (L' := [some (.ref 31), some (.int x1), some (.int 0), some (.int 0), none]) dX9_addToBackgrounds_3 (by decide) rfl rfl rfl ?_
  obtain ⟨r6, hr6, h⟩ := Option.bind_eq_some_iff.mp h
  refine zloop_rn (P := fun w : (Int32 × Int32 × zM) => Rn E zX9_addToBackgrounds 4 [some (.ref 31), some (.int x1), some (.int w.1), some (.int w.2.1), none] [] zSH w.2.2 (some (.int x.1)) zSH x.2) (X := fun w : (Int32 × zM) => Rn E zX9_addToBackgrounds 63 [none, none, some (.int w.1), none, none] [] zSH w.2 (some (.int x.1)) zSH x.2) (fun w w0 hb KI KX => rb_X9_addToBackgrounds_4 x1 w _ _ w0 hb KI KX) zFU _ r6 hr6 ?_
  show Rn E zX9_addToBackgrounds 63 [none, none, some (.int r6.1), none, none] [] zSH r6.2 (some (.int x.1)) zSH x.2
  refine zi_iloadn (q := 64) dX9_addToBackgrounds_63 rfl rfl ?_
  cases h
  exact zi_ret _ dX9_addToBackgrounds_64
set_option maxRecDepth 20000 in
theorem r_X11_warm {E : Nat × (Nat → Int32)} (x1 : Int32) (m : zM) (x : (Int32 × zM)) (h : f_X11_warm x1 m = some x) : zMet E zX11_warm [.ref 0, .int x1] zSH m (some (.int x.1)) zSH x.2 := by
  refine zMet.of (L0 := [some (.ref 0), some (.int x1)]) rfl rfl (Nat.le_of_ble_eq_true rfl) rfl ?_
  unfold f_X11_warm at h
  refine zi_aloadn (q := 1) dX11_warm_0 rfl rfl ?_
  refine zi_getA (q := 4) dX11_warm_1 fl_11_28 so_0 rfl rfl ?_
  refine zi_getI (q := 7) dX11_warm_4 fl_11_44 (by decide) so_13 rfl ?_
  refine zi_ifne (q := 14) (q2 := 10) dX11_warm_7 (by decide) rfl (fun hc => ?_) (fun hc => ?_)
  · replace h := (if_neg hc).symm.trans h
    refine zi_iloadn (q := 15) dX11_warm_14 rfl rfl ?_
    refine zi_bipush (q := 17) dX11_warm_15 kb_m99 rfl ?_
    refine zi_bipush (q := 19) dX11_warm_17 kb_99 rfl ?_
    obtain ⟨r1, hr1, h⟩ := Option.bind_eq_some_iff.mp h
    refine zc_S2 (q := 22) (st := []) (S1 := [.int (bi r1)]) (r_X11_within x1 (-99) 99 _ r1 hr1) dX11_warm_19 cb_X11_within k2_174 k2_175 ⟨by decide, by decide⟩ rfl (Nat.le_of_ble_eq_true rfl) (Or.inl rfl) rfl rfl ?_
    refine zi_ifne (q := 29) (q2 := 25) dX11_warm_22 (by decide) rfl (fun hc => ?_) (fun hc => ?_)
    · replace h := (if_neg hc).symm.trans h
      refine zi_aloadn (q := 30) dX11_warm_29 rfl rfl ?_
      refine zi_getA (q := 33) dX11_warm_30 fl_11_28 so_0 rfl rfl ?_
      refine zi_getA (q := 36) dX11_warm_33 fl_11_72 so_13 rfl rfl ?_
      refine zi_iloadn (q := 37) dX11_warm_36 rfl rfl ?_
      obtain ⟨r2, hr2, h⟩ := Option.bind_eq_some_iff.mp h
      refine zc_V2 (q := 40) (st := []) (S1 := [.int r2.1]) (r_X9_addToBackgrounds x1 _ r2 hr2) dX11_warm_37 cb_X9_addToBackgrounds k3_65 k3_66 k3_67 ⟨by decide, by decide⟩ so_31 rfl rfl rfl (Nat.le_of_ble_eq_true rfl) (Or.inl rfl) rfl rfl ?_
      cases h
      exact zi_ret _ dX11_warm_40
    · replace h := (if_pos hc).symm.trans h
      refine zi_sipush (q := 28) dX11_warm_25 kc_m10002 rfl ?_
      cases h
      exact zi_ret _ dX11_warm_28
  · replace h := (if_pos hc).symm.trans h
    refine zi_sipush (q := 13) dX11_warm_10 kc_m10003 rfl ?_
    cases h
    exact zi_ret _ dX11_warm_13
set_option maxRecDepth 20000 in
theorem r_X12_held {E : Nat × (Nat → Int32)} (x0 : Int32) (m : zM) (x : Int32) (h : f_X12_held x0 m = some x) : zMet E zX12_held [.int x0] zSH m (some (.int x)) zSH m := by
  refine zMet.of (L0 := [some (.int x0)]) rfl rfl (Nat.le_of_ble_eq_true rfl) rfl ?_
  unfold f_X12_held at h
  refine zi_iloadn (q := 1) dX12_held_0 rfl rfl ?_
  refine zi_ifge (q := 8) (q2 := 4) dX12_held_1 (by decide) rfl (fun hc => ?_) (fun hc => ?_)
  · replace h := (if_pos hc).symm.trans h
    refine zi_iloadn (q := 9) dX12_held_8 rfl rfl ?_
    refine zi_sipush (q := 12) dX12_held_9 kc_999 rfl ?_
    refine zi_icmple (q := 21) (q2 := 15) dX12_held_12 (by decide) rfl (fun hc => ?_) (fun hc => ?_)
    · replace h := (if_pos hc).symm.trans h
      refine zi_iloadn (q := 22) dX12_held_21 rfl rfl ?_
      cases h
      exact zi_ret _ dX12_held_22
    · replace h := (if_neg hc).symm.trans h
      refine zi_sipush (q := 18) dX12_held_15 kc_999 rfl ?_
      refine zi_goto (q := 22) dX12_held_18 (by decide) ?_
      cases h
      exact zi_ret _ dX12_held_22
  · replace h := (if_neg hc).symm.trans h
    refine zi_iconst (q := 5) dX12_held_4 ki_0 rfl ?_
    refine zi_goto (q := 22) dX12_held_5 (by decide) ?_
    cases h
    exact zi_ret _ dX12_held_22
set_option maxRecDepth 20000 in
theorem rj_X12_warm_68 {E : Nat × (Nat → Int32)} (x1 : Int32) (x3 : Int32) (x4 : Int32) (s0 : Int32) (s1 : Int32) (m : zM) (rv : Option Value) (m' : zM) (x : ((Int32 × Int32 × zM) ⊕ (Int32 × zM))) (h : j_X12_warm_68 x1 x3 x4 s0 s1 m = some x) (KI : ∀ s1 : (Int32 × Int32 × zM), x = .inl s1 → Rn E zX12_warm 30 [some (.ref 68), some (.int x1), some (.int s1.1), some (.int s1.2.1), none] [] zSH s1.2.2 rv zSH m') : Rn E zX12_warm 68 [some (.ref 68), some (.int x1), none, some (.int x3), some (.int x4)] [.int s0, .int s1] zSH m rv zSH m' := by
  unfold j_X12_warm_68 at h
  refine zi_iadd (q := 69) dX12_warm_68 rfl ?_
  refine zi_istoren (q := 70) (L' := [some (.ref 68), some (.int x1), some (.int (s1 + s0)), some (.int x3), some (.int x4)]) dX12_warm_69 (by decide) rfl rfl rfl ?_
  refine zi_aloadn (q := 71) dX12_warm_70 rfl rfl ?_
  refine zi_getA (q := 74) dX12_warm_71 fl_12_13 so_68 rfl rfl ?_
  refine zi_iloadn (q := 75) dX12_warm_74 rfl rfl ?_
  refine zi_iload (q := 77) dX12_warm_75 rfl rfl ?_
  obtain ⟨hz7, h⟩ := zg_some h
  refine zi_iast2 (q := 78) dX12_warm_77 so_70 (zin_vp hz7) rfl rfl ?_
  refine zi_iinc (q := 81) (v := x3 + 1) (L' := [some (.ref 68), some (.int x1), some (.int (s1 + s0)), some (.int (x3 + 1)), some (.int x4)]) dX12_warm_78 rfl (by rw [ki_1]) (by decide) rfl rfl rfl ?_
  refine zi_goto (q := 30) dX12_warm_81 (by decide) ?_
  refine Rn.weakm [true, true, true, true, false] ?_
  exact KI ((s1 + s0), (x3 + 1), (zi m 70 x3.toNatClampNeg x4)) (Option.some.inj h).symm
set_option maxRecDepth 20000 in
theorem rb_X12_warm_30 {E : Nat × (Nat → Int32)} (x1 : Int32)  (s : (Int32 × Int32 × zM)) (rv : Option Value) (m' : zM) (x : ((Int32 × Int32 × zM) ⊕ (Int32 × zM))) (h : b_X12_warm_30 x1 s = some x) (KI : ∀ s1 : (Int32 × Int32 × zM), x = .inl s1 → Rn E zX12_warm 30 [some (.ref 68), some (.int x1), some (.int s1.1), some (.int s1.2.1), none] [] zSH s1.2.2 rv zSH m') (KO : ∀ r1 : (Int32 × zM), x = .inr r1 → Rn E zX12_warm 84 [none, none, some (.int r1.1), none, none] [] zSH r1.2 rv zSH m') : Rn E zX12_warm 30 [some (.ref 68), some (.int x1), some (.int s.1), some (.int s.2.1), none] [] zSH s.2.2 rv zSH m' := by
  unfold b_X12_warm_30 at h
  refine zi_iloadn (q := 31) dX12_warm_30 rfl rfl ?_
  refine zi_aloadn (q := 32) dX12_warm_31 rfl rfl ?_
  obtain ⟨r3, hr3, h⟩ := Option.bind_eq_some_iff.mp h
  refine zc_V2 (q := 35) (st := [.int s.2.1]) (S1 := [.int r3, .int s.2.1]) (r_X12_cells  _ r3 hr3) dX12_warm_32 cb_X12_cells k5_138 k5_140 ks_X12_cells ⟨by decide, by decide⟩ so_68 rfl rfl rfl (Nat.le_of_ble_eq_true rfl) (Or.inl rfl) rfl rfl ?_
  refine zi_icmpge (q := 84) (q2 := 38) dX12_warm_35 (by decide) rfl (fun hc => ?_) (fun hc => ?_)
  · replace h := (if_pos hc).symm.trans h
    refine Rn.weakm [false, false, true, false, false] ?_
    exact KO (s.1, s.2.2) (Option.some.inj h).symm
  · replace h := (if_neg hc).symm.trans h
    refine zi_aloadn (q := 39) dX12_warm_38 rfl rfl ?_
    refine zi_getA (q := 42) dX12_warm_39 fl_12_13 so_68 rfl rfl ?_
    refine zi_iloadn (q := 43) dX12_warm_42 rfl rfl ?_
    obtain ⟨hz4, h⟩ := zg_some h
    refine zi_iald2 (q := 44) dX12_warm_43 so_70 (zin_vp hz4) rfl rfl ?_
    refine zi_iloadn (q := 45) dX12_warm_44 rfl rfl ?_
    refine zi_iadd (q := 46) dX12_warm_45 rfl ?_
    obtain ⟨r5, hr5, h⟩ := Option.bind_eq_some_iff.mp h
    refine zc_S2 (q := 49) (st := []) (S1 := [.int r5]) (r_X12_held ((s.2.2.1 70 s.2.1.toNatClampNeg) + x1) _ r5 hr5) dX12_warm_46 cb_X12_held k5_154 k5_155 ⟨by decide, by decide⟩ rfl (Nat.le_of_ble_eq_true rfl) (Or.inl rfl) rfl rfl ?_
    refine zi_istore (q := 51) (L' := [some (.ref 68), some (.int x1), some (.int s.1), some (.int s.2.1), some (.int r5)]) dX12_warm_49 (by decide) rfl rfl rfl ?_
    refine zi_iloadn (q := 52) dX12_warm_51 rfl rfl ?_
    refine zi_iload (q := 54) dX12_warm_52 rfl rfl ?_
    refine zi_aloadn (q := 55) dX12_warm_54 rfl rfl ?_
    refine zi_getA (q := 58) dX12_warm_55 fl_12_13 so_68 rfl rfl ?_
    refine zi_iloadn (q := 59) dX12_warm_58 rfl rfl ?_
    obtain ⟨hz6, h⟩ := zg_some h
    refine zi_iald2 (q := 60) dX12_warm_59 so_70 (zin_vp hz6) rfl rfl ?_
    refine zi_icmpne (q := 67) (q2 := 63) dX12_warm_60 (by decide) rfl (fun hc => ?_) (fun hc => ?_)
    · replace h := (if_neg hc).symm.trans h
      refine zi_iconst (q := 68) dX12_warm_67 ki_1 rfl ?_
      refine Rn.weakm [true, true, false, true, true] ?_
      exact rj_X12_warm_68 x1 s.2.1 r5 1 s.1 _ _ _ _ h KI
    · replace h := (if_pos hc).symm.trans h
      refine zi_iconst (q := 64) dX12_warm_63 ki_0 rfl ?_
      refine zi_goto (q := 68) dX12_warm_64 (by decide) ?_
      refine Rn.weakm [true, true, false, true, true] ?_
      exact rj_X12_warm_68 x1 s.2.1 r5 0 s.1 _ _ _ _ h KI
set_option maxRecDepth 20000 in
theorem r_X12_warm {E : Nat × (Nat → Int32)} (x1 : Int32) (m : zM) (x : (Int32 × zM)) (h : f_X12_warm x1 m = some x) : zMet E zX12_warm [.ref 68, .int x1] zSH m (some (.int x.1)) zSH x.2 := by
  refine zMet.of (L0 := [some (.ref 68), some (.int x1), none, none, none]) rfl rfl (Nat.le_of_ble_eq_true rfl) rfl ?_
  unfold f_X12_warm at h
  refine zi_aloadn (q := 1) dX12_warm_0 rfl rfl ?_
  obtain ⟨r1, hr1, h⟩ := Option.bind_eq_some_iff.mp h
  refine zc_V2 (q := 4) (st := []) (S1 := [.int (bi r1)]) (r_X12_isGlass  _ r1 hr1) dX12_warm_1 cb_X12_isGlass k5_82 k5_84 ks_X12_isGlass ⟨by decide, by decide⟩ so_68 rfl rfl rfl (Nat.le_of_ble_eq_true rfl) (Or.inl rfl) rfl rfl ?_
  refine zi_ifne (q := 11) (q2 := 7) dX12_warm_4 (by decide) rfl (fun hc => ?_) (fun hc => ?_)
  · replace h := (if_neg hc).symm.trans h
    refine zi_iloadn (q := 12) dX12_warm_11 rfl rfl ?_
    refine zi_bipush (q := 14) dX12_warm_12 kb_m99 rfl ?_
    refine zi_bipush (q := 16) dX12_warm_14 kb_99 rfl ?_
    obtain ⟨r2, hr2, h⟩ := Option.bind_eq_some_iff.mp h
    refine zc_S2 (q := 19) (st := []) (S1 := [.int (bi r2)]) (r_X12_within x1 (-99) 99 _ r2 hr2) dX12_warm_16 cb_X12_within k5_71 k5_72 ⟨by decide, by decide⟩ rfl (Nat.le_of_ble_eq_true rfl) (Or.inl rfl) rfl rfl ?_
    refine zi_ifne (q := 26) (q2 := 22) dX12_warm_19 (by decide) rfl (fun hc => ?_) (fun hc => ?_)
    · replace h := (if_neg hc).symm.trans h
      refine zi_iconst (q := 27) dX12_warm_26 ki_0 rfl ?_
      refine zi_istoren (q := 28) (L' := [some (.ref 68), some (.int x1), some (.int 0), none, none]) dX12_warm_27 (by decide) rfl rfl rfl ?_
      refine zi_iconst (q := 29) dX12_warm_28 ki_0 rfl ?_
      refine zi_istoren (q := 30) (L' := [some (.ref 68), some (.int x1), some (.int 0), some (.int 0), none]) dX12_warm_29 (by decide) rfl rfl rfl ?_
      obtain ⟨r8, hr8, h⟩ := Option.bind_eq_some_iff.mp h
      refine zloop_rn (P := fun w : (Int32 × Int32 × zM) => Rn E zX12_warm 30 [some (.ref 68), some (.int x1), some (.int w.1), some (.int w.2.1), none] [] zSH w.2.2 (some (.int x.1)) zSH x.2) (X := fun w : (Int32 × zM) => Rn E zX12_warm 84 [none, none, some (.int w.1), none, none] [] zSH w.2 (some (.int x.1)) zSH x.2) (fun w w0 hb KI KX => rb_X12_warm_30 x1 w _ _ w0 hb KI KX) zFU _ r8 hr8 ?_
      show Rn E zX12_warm 84 [none, none, some (.int r8.1), none, none] [] zSH r8.2 (some (.int x.1)) zSH x.2
      refine zi_iloadn (q := 85) dX12_warm_84 rfl rfl ?_
      cases h
      exact zi_ret _ dX12_warm_85
    · replace h := (if_pos hc).symm.trans h
      refine zi_sipush (q := 25) dX12_warm_22 kc_m10002 rfl ?_
      cases h
      exact zi_ret _ dX12_warm_25
  · replace h := (if_pos hc).symm.trans h
    refine zi_sipush (q := 10) dX12_warm_7 kc_m10003 rfl ?_
    cases h
    exact zi_ret _ dX12_warm_10
set_option maxRecDepth 20000 in
theorem r_X11_noise {E : Nat × (Nat → Int32)} (x1 : Int32) (x2 : Int32) (m : zM) (x : (Int32 × zM)) (h : f_X11_noise x1 x2 m = some x) : zMet E zX11_noise [.ref 0, .int x1, .int x2] zSH m (some (.int x.1)) zSH x.2 := by
  refine zMet.of (L0 := [some (.ref 0), some (.int x1), some (.int x2), none]) rfl rfl (Nat.le_of_ble_eq_true rfl) rfl ?_
  unfold f_X11_noise at h
  refine zi_aloadn (q := 1) dX11_noise_0 rfl rfl ?_
  refine zi_getA (q := 4) dX11_noise_1 fl_11_28 so_0 rfl rfl ?_
  refine zi_getI (q := 7) dX11_noise_4 fl_11_44 (by decide) so_13 rfl ?_
  refine zi_ifne (q := 14) (q2 := 10) dX11_noise_7 (by decide) rfl (fun hc => ?_) (fun hc => ?_)
  · replace h := (if_neg hc).symm.trans h
    refine zi_iloadn (q := 15) dX11_noise_14 rfl rfl ?_
    refine zi_iconst (q := 16) dX11_noise_15 ki_0 rfl ?_
    refine zi_iconst (q := 17) dX11_noise_16 ki_2 rfl ?_
    obtain ⟨r1, hr1, h⟩ := Option.bind_eq_some_iff.mp h
    refine zc_S2 (q := 20) (st := []) (S1 := [.int (bi r1)]) (r_X11_within x1 0 2 _ r1 hr1) dX11_noise_17 cb_X11_within k2_174 k2_175 ⟨by decide, by decide⟩ rfl (Nat.le_of_ble_eq_true rfl) (Or.inl rfl) rfl rfl ?_
    refine zi_ifeq (q := 33) (q2 := 23) dX11_noise_20 (by decide) rfl (fun hc => ?_) (fun hc => ?_)
    · replace h := (if_pos hc).symm.trans h
      refine zi_sipush (q := 36) dX11_noise_33 kc_m10002 rfl ?_
      cases h
      exact zi_ret _ dX11_noise_36
    · replace h := (if_neg hc).symm.trans h
      refine zi_iloadn (q := 24) dX11_noise_23 rfl rfl ?_
      refine zi_iconst (q := 25) dX11_noise_24 ki_0 rfl ?_
      refine zi_bipush (q := 27) dX11_noise_25 kb_60 rfl ?_
      obtain ⟨r2, hr2, h⟩ := Option.bind_eq_some_iff.mp h
      refine zc_S2 (q := 30) (st := []) (S1 := [.int (bi r2)]) (r_X11_within x2 0 60 _ r2 hr2) dX11_noise_27 cb_X11_within k2_174 k2_175 ⟨by decide, by decide⟩ rfl (Nat.le_of_ble_eq_true rfl) (Or.inl rfl) rfl rfl ?_
      refine zi_ifne (q := 37) (q2 := 33) dX11_noise_30 (by decide) rfl (fun hc => ?_) (fun hc => ?_)
      · replace h := (if_neg hc).symm.trans h
        refine zi_aloadn (q := 38) dX11_noise_37 rfl rfl ?_
        refine zi_getA (q := 41) dX11_noise_38 fl_11_28 so_0 rfl rfl ?_
        refine zi_getA (q := 44) dX11_noise_41 fl_11_112 so_13 rfl rfl ?_
        refine zi_getA (q := 47) dX11_noise_44 fl_11_116 so_24 rfl rfl ?_
        refine zi_iloadn (q := 48) dX11_noise_47 rfl rfl ?_
        obtain ⟨hz3, h⟩ := zg_some h
        refine zi_iald2 (q := 49) dX11_noise_48 so_25 (zin_vp hz3) rfl rfl ?_
        refine zi_istoren (q := 50) (L' := [some (.ref 0), some (.int x1), some (.int x2), some (.int (m.1 25 x1.toNatClampNeg))]) dX11_noise_49 (by decide) rfl rfl rfl ?_
        refine zi_aloadn (q := 51) dX11_noise_50 rfl rfl ?_
        refine zi_getA (q := 54) dX11_noise_51 fl_11_28 so_0 rfl rfl ?_
        refine zi_getA (q := 57) dX11_noise_54 fl_11_112 so_13 rfl rfl ?_
        refine zi_getA (q := 60) dX11_noise_57 fl_11_116 so_24 rfl rfl ?_
        refine zi_iloadn (q := 61) dX11_noise_60 rfl rfl ?_
        refine zi_iloadn (q := 62) dX11_noise_61 rfl rfl ?_
        obtain ⟨hz4, h⟩ := zg_some h
        refine zi_iast2 (q := 63) dX11_noise_62 so_25 (zin_vp hz4) rfl rfl ?_
        refine zi_iloadn (q := 64) dX11_noise_63 rfl rfl ?_
        cases h
        exact zi_ret _ dX11_noise_64
      · replace h := (if_pos hc).symm.trans h
        refine zi_sipush (q := 36) dX11_noise_33 kc_m10002 rfl ?_
        cases h
        exact zi_ret _ dX11_noise_36
  · replace h := (if_pos hc).symm.trans h
    refine zi_sipush (q := 13) dX11_noise_10 kc_m10003 rfl ?_
    cases h
    exact zi_ret _ dX11_noise_13
set_option maxRecDepth 20000 in
theorem r_X12_noise {E : Nat × (Nat → Int32)} (x1 : Int32) (x2 : Int32) (m : zM) (x : (Int32 × zM)) (h : f_X12_noise x1 x2 m = some x) : zMet E zX12_noise [.ref 68, .int x1, .int x2] zSH m (some (.int x.1)) zSH x.2 := by
  refine zMet.of (L0 := [some (.ref 68), some (.int x1), some (.int x2), none]) rfl rfl (Nat.le_of_ble_eq_true rfl) rfl ?_
  unfold f_X12_noise at h
  refine zi_aloadn (q := 1) dX12_noise_0 rfl rfl ?_
  obtain ⟨r1, hr1, h⟩ := Option.bind_eq_some_iff.mp h
  refine zc_V2 (q := 4) (st := []) (S1 := [.int (bi r1)]) (r_X12_isGlass  _ r1 hr1) dX12_noise_1 cb_X12_isGlass k5_82 k5_84 ks_X12_isGlass ⟨by decide, by decide⟩ so_68 rfl rfl rfl (Nat.le_of_ble_eq_true rfl) (Or.inl rfl) rfl rfl ?_
  refine zi_ifne (q := 11) (q2 := 7) dX12_noise_4 (by decide) rfl (fun hc => ?_) (fun hc => ?_)
  · replace h := (if_neg hc).symm.trans h
    refine zi_iloadn (q := 12) dX12_noise_11 rfl rfl ?_
    refine zi_iconst (q := 13) dX12_noise_12 ki_0 rfl ?_
    refine zi_iconst (q := 14) dX12_noise_13 ki_2 rfl ?_
    obtain ⟨r2, hr2, h⟩ := Option.bind_eq_some_iff.mp h
    refine zc_S2 (q := 17) (st := []) (S1 := [.int (bi r2)]) (r_X12_within x1 0 2 _ r2 hr2) dX12_noise_14 cb_X12_within k5_71 k5_72 ⟨by decide, by decide⟩ rfl (Nat.le_of_ble_eq_true rfl) (Or.inl rfl) rfl rfl ?_
    refine zi_ifeq (q := 30) (q2 := 20) dX12_noise_17 (by decide) rfl (fun hc => ?_) (fun hc => ?_)
    · replace h := (if_pos hc).symm.trans h
      refine zi_sipush (q := 33) dX12_noise_30 kc_m10002 rfl ?_
      cases h
      exact zi_ret _ dX12_noise_33
    · replace h := (if_neg hc).symm.trans h
      refine zi_iloadn (q := 21) dX12_noise_20 rfl rfl ?_
      refine zi_iconst (q := 22) dX12_noise_21 ki_0 rfl ?_
      refine zi_bipush (q := 24) dX12_noise_22 kb_60 rfl ?_
      obtain ⟨r3, hr3, h⟩ := Option.bind_eq_some_iff.mp h
      refine zc_S2 (q := 27) (st := []) (S1 := [.int (bi r3)]) (r_X12_within x2 0 60 _ r3 hr3) dX12_noise_24 cb_X12_within k5_71 k5_72 ⟨by decide, by decide⟩ rfl (Nat.le_of_ble_eq_true rfl) (Or.inl rfl) rfl rfl ?_
      refine zi_ifne (q := 34) (q2 := 30) dX12_noise_27 (by decide) rfl (fun hc => ?_) (fun hc => ?_)
      · replace h := (if_neg hc).symm.trans h
        refine zi_aloadn (q := 35) dX12_noise_34 rfl rfl ?_
        refine zi_getA (q := 38) dX12_noise_35 fl_12_41 so_68 rfl rfl ?_
        refine zi_iloadn (q := 39) dX12_noise_38 rfl rfl ?_
        obtain ⟨hz4, h⟩ := zg_some h
        refine zi_iald2 (q := 40) dX12_noise_39 so_79 (zin_vp hz4) rfl rfl ?_
        refine zi_istoren (q := 41) (L' := [some (.ref 68), some (.int x1), some (.int x2), some (.int (m.1 79 x1.toNatClampNeg))]) dX12_noise_40 (by decide) rfl rfl rfl ?_
        refine zi_aloadn (q := 42) dX12_noise_41 rfl rfl ?_
        refine zi_getA (q := 45) dX12_noise_42 fl_12_41 so_68 rfl rfl ?_
        refine zi_iloadn (q := 46) dX12_noise_45 rfl rfl ?_
        refine zi_iloadn (q := 47) dX12_noise_46 rfl rfl ?_
        obtain ⟨hz5, h⟩ := zg_some h
        refine zi_iast2 (q := 48) dX12_noise_47 so_79 (zin_vp hz5) rfl rfl ?_
        refine zi_iloadn (q := 49) dX12_noise_48 rfl rfl ?_
        cases h
        exact zi_ret _ dX12_noise_49
      · replace h := (if_pos hc).symm.trans h
        refine zi_sipush (q := 33) dX12_noise_30 kc_m10002 rfl ?_
        cases h
        exact zi_ret _ dX12_noise_33
  · replace h := (if_pos hc).symm.trans h
    refine zi_sipush (q := 10) dX12_noise_7 kc_m10003 rfl ?_
    cases h
    exact zi_ret _ dX12_noise_10
set_option maxRecDepth 20000 in
theorem r_X11_seed {E : Nat × (Nat → Int32)} (x1 : Int32) (m : zM) (x : (Int32 × zM)) (h : f_X11_seed x1 m = some x) : zMet E zX11_seed [.ref 0, .int x1] zSH m (some (.int x.1)) zSH x.2 := by
  refine zMet.of (L0 := [some (.ref 0), some (.int x1), none]) rfl rfl (Nat.le_of_ble_eq_true rfl) rfl ?_
  unfold f_X11_seed at h
  refine zi_aloadn (q := 1) dX11_seed_0 rfl rfl ?_
  refine zi_getA (q := 4) dX11_seed_1 fl_11_28 so_0 rfl rfl ?_
  refine zi_getI (q := 7) dX11_seed_4 fl_11_44 (by decide) so_13 rfl ?_
  refine zi_ifne (q := 14) (q2 := 10) dX11_seed_7 (by decide) rfl (fun hc => ?_) (fun hc => ?_)
  · replace h := (if_neg hc).symm.trans h
    refine zi_iloadn (q := 15) dX11_seed_14 rfl rfl ?_
    refine zi_ifge (q := 22) (q2 := 18) dX11_seed_15 (by decide) rfl (fun hc => ?_) (fun hc => ?_)
    · replace h := (if_pos hc).symm.trans h
      refine zi_aloadn (q := 23) dX11_seed_22 rfl rfl ?_
      refine zi_getA (q := 26) dX11_seed_23 fl_11_28 so_0 rfl rfl ?_
      refine zi_getA (q := 29) dX11_seed_26 fl_11_112 so_13 rfl rfl ?_
      refine zi_getI (q := 32) dX11_seed_29 fl_11_121 (by decide) so_24 rfl ?_
      refine zi_istoren (q := 33) (L' := [some (.ref 0), some (.int x1), some (.int (m.1 24 2))]) dX11_seed_32 (by decide) rfl rfl rfl ?_
      refine zi_aloadn (q := 34) dX11_seed_33 rfl rfl ?_
      refine zi_getA (q := 37) dX11_seed_34 fl_11_28 so_0 rfl rfl ?_
      refine zi_getA (q := 40) dX11_seed_37 fl_11_112 so_13 rfl rfl ?_
      refine zi_iloadn (q := 41) dX11_seed_40 rfl rfl ?_
      refine zi_putI (q := 44) dX11_seed_41 pl_11_121 so_24 rfl ?_
      refine zi_iloadn (q := 45) dX11_seed_44 rfl rfl ?_
      cases h
      exact zi_ret _ dX11_seed_45
    · replace h := (if_neg hc).symm.trans h
      refine zi_sipush (q := 21) dX11_seed_18 kc_m10002 rfl ?_
      cases h
      exact zi_ret _ dX11_seed_21
  · replace h := (if_pos hc).symm.trans h
    refine zi_sipush (q := 13) dX11_seed_10 kc_m10003 rfl ?_
    cases h
    exact zi_ret _ dX11_seed_13
set_option maxRecDepth 20000 in
theorem r_X12_seed {E : Nat × (Nat → Int32)} (x1 : Int32) (m : zM) (x : (Int32 × zM)) (h : f_X12_seed x1 m = some x) : zMet E zX12_seed [.ref 68, .int x1] zSH m (some (.int x.1)) zSH x.2 := by
  refine zMet.of (L0 := [some (.ref 68), some (.int x1), none]) rfl rfl (Nat.le_of_ble_eq_true rfl) rfl ?_
  unfold f_X12_seed at h
  refine zi_aloadn (q := 1) dX12_seed_0 rfl rfl ?_
  obtain ⟨r1, hr1, h⟩ := Option.bind_eq_some_iff.mp h
  refine zc_V2 (q := 4) (st := []) (S1 := [.int (bi r1)]) (r_X12_isGlass  _ r1 hr1) dX12_seed_1 cb_X12_isGlass k5_82 k5_84 ks_X12_isGlass ⟨by decide, by decide⟩ so_68 rfl rfl rfl (Nat.le_of_ble_eq_true rfl) (Or.inl rfl) rfl rfl ?_
  refine zi_ifne (q := 11) (q2 := 7) dX12_seed_4 (by decide) rfl (fun hc => ?_) (fun hc => ?_)
  · replace h := (if_neg hc).symm.trans h
    refine zi_iloadn (q := 12) dX12_seed_11 rfl rfl ?_
    refine zi_ifge (q := 19) (q2 := 15) dX12_seed_12 (by decide) rfl (fun hc => ?_) (fun hc => ?_)
    · replace h := (if_pos hc).symm.trans h
      refine zi_aloadn (q := 20) dX12_seed_19 rfl rfl ?_
      refine zi_getI (q := 23) dX12_seed_20 fl_12_197 (by decide) so_68 rfl ?_
      refine zi_istoren (q := 24) (L' := [some (.ref 68), some (.int x1), some (.int (m.1 68 16))]) dX12_seed_23 (by decide) rfl rfl rfl ?_
      refine zi_aloadn (q := 25) dX12_seed_24 rfl rfl ?_
      refine zi_iloadn (q := 26) dX12_seed_25 rfl rfl ?_
      refine zi_putI (q := 29) dX12_seed_26 pl_12_197 so_68 rfl ?_
      refine zi_iloadn (q := 30) dX12_seed_29 rfl rfl ?_
      cases h
      exact zi_ret _ dX12_seed_30
    · replace h := (if_neg hc).symm.trans h
      refine zi_sipush (q := 18) dX12_seed_15 kc_m10002 rfl ?_
      cases h
      exact zi_ret _ dX12_seed_18
  · replace h := (if_pos hc).symm.trans h
    refine zi_sipush (q := 10) dX12_seed_7 kc_m10003 rfl ?_
    cases h
    exact zi_ret _ dX12_seed_10
set_option maxRecDepth 20000 in
theorem r_X11_bound {E : Nat × (Nat → Int32)} (x1 : Int32) (x2 : Int32) (m : zM) (x : (Int32 × zM)) (h : f_X11_bound x1 x2 m = some x) : zMet E zX11_bound [.ref 0, .int x1, .int x2] zSH m (some (.int x.1)) zSH x.2 := by
  refine zMet.of (L0 := [some (.ref 0), some (.int x1), some (.int x2), none]) rfl rfl (Nat.le_of_ble_eq_true rfl) rfl ?_
  unfold f_X11_bound at h
  refine zi_aloadn (q := 1) dX11_bound_0 rfl rfl ?_
  refine zi_getA (q := 4) dX11_bound_1 fl_11_28 so_0 rfl rfl ?_
  refine zi_getI (q := 7) dX11_bound_4 fl_11_44 (by decide) so_13 rfl ?_
  refine zi_ifne (q := 14) (q2 := 10) dX11_bound_7 (by decide) rfl (fun hc => ?_) (fun hc => ?_)
  · replace h := (if_neg hc).symm.trans h
    refine zi_iloadn (q := 15) dX11_bound_14 rfl rfl ?_
    refine zi_iconst (q := 16) dX11_bound_15 ki_0 rfl ?_
    refine zi_bipush (q := 18) dX11_bound_16 kb_8 rfl ?_
    obtain ⟨r1, hr1, h⟩ := Option.bind_eq_some_iff.mp h
    refine zc_S2 (q := 21) (st := []) (S1 := [.int (bi r1)]) (r_X11_within x1 0 8 _ r1 hr1) dX11_bound_18 cb_X11_within k2_174 k2_175 ⟨by decide, by decide⟩ rfl (Nat.le_of_ble_eq_true rfl) (Or.inl rfl) rfl rfl ?_
    refine zi_ifeq (q := 41) (q2 := 24) dX11_bound_21 (by decide) rfl (fun hc => ?_) (fun hc => ?_)
    · replace h := (if_pos hc).symm.trans h
      refine zi_sipush (q := 44) dX11_bound_41 kc_m10002 rfl ?_
      cases h
      exact zi_ret _ dX11_bound_44
    · replace h := (if_neg hc).symm.trans h
      refine zi_iloadn (q := 25) dX11_bound_24 rfl rfl ?_
      refine zi_gets1 (q := 28) dX11_bound_25 k3_83 rfl ?_
      refine zi_iloadn (q := 29) dX11_bound_28 rfl rfl ?_
      obtain ⟨hz2, h⟩ := zg_some h
      refine zi_t1ald (q := 30) dX11_bound_29 (zin_vp hz2) rfl ?_
      refine zi_gets2 (q := 33) dX11_bound_30 k3_85 rfl ?_
      refine zi_iloadn (q := 34) dX11_bound_33 rfl rfl ?_
      obtain ⟨hz3, h⟩ := zg_some h
      refine zi_t2ald (q := 35) dX11_bound_34 (zin_vp hz3) rfl ?_
      obtain ⟨r4, hr4, h⟩ := Option.bind_eq_some_iff.mp h
      refine zc_S2 (q := 38) (st := []) (S1 := [.int (bi r4)]) (r_X11_within x2 (zxs 1001 x1.toNatClampNeg) (zxs 1002 x1.toNatClampNeg) _ r4 hr4) dX11_bound_35 cb_X11_within k2_174 k2_175 ⟨by decide, by decide⟩ rfl (Nat.le_of_ble_eq_true rfl) (Or.inl rfl) rfl rfl ?_
      refine zi_ifne (q := 45) (q2 := 41) dX11_bound_38 (by decide) rfl (fun hc => ?_) (fun hc => ?_)
      · replace h := (if_neg hc).symm.trans h
        refine zi_aloadn (q := 46) dX11_bound_45 rfl rfl ?_
        refine zi_getA (q := 49) dX11_bound_46 fl_11_28 so_0 rfl rfl ?_
        refine zi_getA (q := 52) dX11_bound_49 fl_11_130 so_13 rfl rfl ?_
        refine zi_iloadn (q := 53) dX11_bound_52 rfl rfl ?_
        obtain ⟨hz5, h⟩ := zg_some h
        refine zi_iald2 (q := 54) dX11_bound_53 so_26 (zin_vp hz5) rfl rfl ?_
        refine zi_istoren (q := 55) (L' := [some (.ref 0), some (.int x1), some (.int x2), some (.int (m.1 26 x1.toNatClampNeg))]) dX11_bound_54 (by decide) rfl rfl rfl ?_
        refine zi_aloadn (q := 56) dX11_bound_55 rfl rfl ?_
        refine zi_getA (q := 59) dX11_bound_56 fl_11_28 so_0 rfl rfl ?_
        refine zi_getA (q := 62) dX11_bound_59 fl_11_130 so_13 rfl rfl ?_
        refine zi_iloadn (q := 63) dX11_bound_62 rfl rfl ?_
        refine zi_iloadn (q := 64) dX11_bound_63 rfl rfl ?_
        obtain ⟨hz6, h⟩ := zg_some h
        refine zi_iast2 (q := 65) dX11_bound_64 so_26 (zin_vp hz6) rfl rfl ?_
        refine zi_iloadn (q := 66) dX11_bound_65 rfl rfl ?_
        cases h
        exact zi_ret _ dX11_bound_66
      · replace h := (if_pos hc).symm.trans h
        refine zi_sipush (q := 44) dX11_bound_41 kc_m10002 rfl ?_
        cases h
        exact zi_ret _ dX11_bound_44
  · replace h := (if_pos hc).symm.trans h
    refine zi_sipush (q := 13) dX11_bound_10 kc_m10003 rfl ?_
    cases h
    exact zi_ret _ dX11_bound_13
set_option maxRecDepth 20000 in
theorem r_X12_isBound {E : Nat × (Nat → Int32)} (x0 : Int32) (x1 : Int32) (m : zM) (x : Bool) (h : f_X12_isBound x0 x1 m = some x) : zMet E zX12_isBound [.int x0, .int x1] zSH m (some (.int (bi x))) zSH m := by
  refine zMet.of (L0 := [some (.int x0), some (.int x1)]) rfl (zfit_bi _) (Nat.le_of_ble_eq_true rfl) rfl ?_
  unfold f_X12_isBound at h
  refine zi_iloadn (q := 1) dX12_isBound_0 rfl rfl ?_
  by_cases he0 : x0 = 0
  · replace h := (if_pos he0).symm.trans h
    refine zi_tsIn (q := 52) (j := 0) dX12_isBound_1 (zts_in ti_0 he0) (by decide) rfl (by decide) ?_
    refine zi_iloadn (q := 53) dX12_isBound_52 rfl rfl ?_
    refine zi_bipush (q := 55) dX12_isBound_53 kb_20 rfl ?_
    refine zi_sipush (q := 58) dX12_isBound_55 kc_200 rfl ?_
    obtain ⟨r1, hr1, h⟩ := Option.bind_eq_some_iff.mp h
    refine zc_S2 (q := 61) (st := []) (S1 := [.int (bi r1)]) (r_X12_within x1 20 200 _ r1 hr1) dX12_isBound_58 cb_X12_within k5_71 k5_72 ⟨by decide, by decide⟩ rfl (Nat.le_of_ble_eq_true rfl) (Or.inl rfl) rfl rfl ?_
    cases h
    exact zi_ret _ dX12_isBound_61
  · replace h := (if_neg he0).symm.trans h
    by_cases he1 : x0 = 1
    · replace h := (if_pos he1).symm.trans h
      refine zi_tsIn (q := 62) (j := 1) dX12_isBound_1 (zts_in ti_1 he1) (by decide) rfl (by decide) ?_
      refine zi_iloadn (q := 63) dX12_isBound_62 rfl rfl ?_
      refine zi_bipush (q := 65) dX12_isBound_63 kb_10 rfl ?_
      refine zi_bipush (q := 67) dX12_isBound_65 kb_100 rfl ?_
      obtain ⟨r2, hr2, h⟩ := Option.bind_eq_some_iff.mp h
      refine zc_S2 (q := 70) (st := []) (S1 := [.int (bi r2)]) (r_X12_within x1 10 100 _ r2 hr2) dX12_isBound_67 cb_X12_within k5_71 k5_72 ⟨by decide, by decide⟩ rfl (Nat.le_of_ble_eq_true rfl) (Or.inl rfl) rfl rfl ?_
      cases h
      exact zi_ret _ dX12_isBound_70
    · replace h := (if_neg he1).symm.trans h
      by_cases he2 : x0 = 2
      · replace h := (if_pos he2).symm.trans h
        refine zi_tsIn (q := 71) (j := 2) dX12_isBound_1 (zts_in ti_2 he2) (by decide) rfl (by decide) ?_
        refine zi_iloadn (q := 72) dX12_isBound_71 rfl rfl ?_
        refine zi_iconst (q := 73) dX12_isBound_72 ki_1 rfl ?_
        refine zi_bipush (q := 75) dX12_isBound_73 kb_100 rfl ?_
        obtain ⟨r3, hr3, h⟩ := Option.bind_eq_some_iff.mp h
        refine zc_S2 (q := 78) (st := []) (S1 := [.int (bi r3)]) (r_X12_within x1 1 100 _ r3 hr3) dX12_isBound_75 cb_X12_within k5_71 k5_72 ⟨by decide, by decide⟩ rfl (Nat.le_of_ble_eq_true rfl) (Or.inl rfl) rfl rfl ?_
        cases h
        exact zi_ret _ dX12_isBound_78
      · replace h := (if_neg he2).symm.trans h
        by_cases he3 : x0 = 3
        · replace h := (if_pos he3).symm.trans h
          refine zi_tsIn (q := 79) (j := 3) dX12_isBound_1 (zts_in ti_3 he3) (by decide) rfl (by decide) ?_
          refine zi_iloadn (q := 80) dX12_isBound_79 rfl rfl ?_
          refine zi_iconst (q := 81) dX12_isBound_80 ki_2 rfl ?_
          refine zi_bipush (q := 83) dX12_isBound_81 kb_64 rfl ?_
          obtain ⟨r4, hr4, h⟩ := Option.bind_eq_some_iff.mp h
          refine zc_S2 (q := 86) (st := []) (S1 := [.int (bi r4)]) (r_X12_within x1 2 64 _ r4 hr4) dX12_isBound_83 cb_X12_within k5_71 k5_72 ⟨by decide, by decide⟩ rfl (Nat.le_of_ble_eq_true rfl) (Or.inl rfl) rfl rfl ?_
          cases h
          exact zi_ret _ dX12_isBound_86
        · replace h := (if_neg he3).symm.trans h
          by_cases he4 : x0 = 4
          · replace h := (if_pos he4).symm.trans h
            refine zi_tsIn (q := 87) (j := 4) dX12_isBound_1 (zts_in ti_4 he4) (by decide) rfl (by decide) ?_
            refine zi_iloadn (q := 88) dX12_isBound_87 rfl rfl ?_
            refine zi_iconst (q := 89) dX12_isBound_88 ki_1 rfl ?_
            refine zi_bipush (q := 91) dX12_isBound_89 kb_127 rfl ?_
            obtain ⟨r5, hr5, h⟩ := Option.bind_eq_some_iff.mp h
            refine zc_S2 (q := 94) (st := []) (S1 := [.int (bi r5)]) (r_X12_within x1 1 127 _ r5 hr5) dX12_isBound_91 cb_X12_within k5_71 k5_72 ⟨by decide, by decide⟩ rfl (Nat.le_of_ble_eq_true rfl) (Or.inl rfl) rfl rfl ?_
            cases h
            exact zi_ret _ dX12_isBound_94
          · replace h := (if_neg he4).symm.trans h
            by_cases he5 : x0 = 5
            · replace h := (if_pos he5).symm.trans h
              refine zi_tsIn (q := 95) (j := 5) dX12_isBound_1 (zts_in ti_5 he5) (by decide) rfl (by decide) ?_
              refine zi_iloadn (q := 96) dX12_isBound_95 rfl rfl ?_
              refine zi_iconst (q := 97) dX12_isBound_96 ki_0 rfl ?_
              refine zi_bipush (q := 99) dX12_isBound_97 kb_9 rfl ?_
              obtain ⟨r6, hr6, h⟩ := Option.bind_eq_some_iff.mp h
              refine zc_S2 (q := 102) (st := []) (S1 := [.int (bi r6)]) (r_X12_within x1 0 9 _ r6 hr6) dX12_isBound_99 cb_X12_within k5_71 k5_72 ⟨by decide, by decide⟩ rfl (Nat.le_of_ble_eq_true rfl) (Or.inl rfl) rfl rfl ?_
              cases h
              exact zi_ret _ dX12_isBound_102
            · replace h := (if_neg he5).symm.trans h
              by_cases he6 : x0 = 6
              · replace h := (if_pos he6).symm.trans h
                refine zi_tsIn (q := 103) (j := 6) dX12_isBound_1 (zts_in ti_6 he6) (by decide) rfl (by decide) ?_
                refine zi_iloadn (q := 104) dX12_isBound_103 rfl rfl ?_
                refine zi_iconst (q := 105) dX12_isBound_104 ki_1 rfl ?_
                refine zi_bipush (q := 107) dX12_isBound_105 kb_30 rfl ?_
                obtain ⟨r7, hr7, h⟩ := Option.bind_eq_some_iff.mp h
                refine zc_S2 (q := 110) (st := []) (S1 := [.int (bi r7)]) (r_X12_within x1 1 30 _ r7 hr7) dX12_isBound_107 cb_X12_within k5_71 k5_72 ⟨by decide, by decide⟩ rfl (Nat.le_of_ble_eq_true rfl) (Or.inl rfl) rfl rfl ?_
                cases h
                exact zi_ret _ dX12_isBound_110
              · replace h := (if_neg he6).symm.trans h
                by_cases he7 : x0 = 7
                · replace h := (if_pos he7).symm.trans h
                  refine zi_tsIn (q := 111) (j := 7) dX12_isBound_1 (zts_in ti_7 he7) (by decide) rfl (by decide) ?_
                  refine zi_iloadn (q := 112) dX12_isBound_111 rfl rfl ?_
                  refine zi_iconst (q := 113) dX12_isBound_112 ki_0 rfl ?_
                  refine zi_bipush (q := 115) dX12_isBound_113 kb_50 rfl ?_
                  obtain ⟨r8, hr8, h⟩ := Option.bind_eq_some_iff.mp h
                  refine zc_S2 (q := 118) (st := []) (S1 := [.int (bi r8)]) (r_X12_within x1 0 50 _ r8 hr8) dX12_isBound_115 cb_X12_within k5_71 k5_72 ⟨by decide, by decide⟩ rfl (Nat.le_of_ble_eq_true rfl) (Or.inl rfl) rfl rfl ?_
                  cases h
                  exact zi_ret _ dX12_isBound_118
                · replace h := (if_neg he7).symm.trans h
                  by_cases he8 : x0 = 8
                  · replace h := (if_pos he8).symm.trans h
                    refine zi_tsIn (q := 119) (j := 8) dX12_isBound_1 (zts_in ti_8 he8) (by decide) rfl (by decide) ?_
                    refine zi_iloadn (q := 120) dX12_isBound_119 rfl rfl ?_
                    refine zi_iconst (q := 121) dX12_isBound_120 ki_0 rfl ?_
                    refine zi_sipush (q := 124) dX12_isBound_121 kc_200 rfl ?_
                    obtain ⟨r9, hr9, h⟩ := Option.bind_eq_some_iff.mp h
                    refine zc_S2 (q := 127) (st := []) (S1 := [.int (bi r9)]) (r_X12_within x1 0 200 _ r9 hr9) dX12_isBound_124 cb_X12_within k5_71 k5_72 ⟨by decide, by decide⟩ rfl (Nat.le_of_ble_eq_true rfl) (Or.inl rfl) rfl rfl ?_
                    cases h
                    exact zi_ret _ dX12_isBound_127
                  · replace h := (if_neg he8).symm.trans h
                    refine zi_tsOut (q := 128) dX12_isBound_1 (zts_out9 he0 he1 he2 he3 he4 he5 he6 he7 he8) (by decide) ?_
                    refine zi_iconst (q := 129) dX12_isBound_128 ki_0 rfl ?_
                    cases h
                    exact zi_ret _ dX12_isBound_129
set_option maxRecDepth 20000 in
theorem r_X12_bound {E : Nat × (Nat → Int32)} (x1 : Int32) (x2 : Int32) (m : zM) (x : (Int32 × zM)) (h : f_X12_bound x1 x2 m = some x) : zMet E zX12_bound [.ref 68, .int x1, .int x2] zSH m (some (.int x.1)) zSH x.2 := by
  refine zMet.of (L0 := [some (.ref 68), some (.int x1), some (.int x2), none]) rfl rfl (Nat.le_of_ble_eq_true rfl) rfl ?_
  unfold f_X12_bound at h
  refine zi_aloadn (q := 1) dX12_bound_0 rfl rfl ?_
  obtain ⟨r1, hr1, h⟩ := Option.bind_eq_some_iff.mp h
  refine zc_V2 (q := 4) (st := []) (S1 := [.int (bi r1)]) (r_X12_isGlass  _ r1 hr1) dX12_bound_1 cb_X12_isGlass k5_82 k5_84 ks_X12_isGlass ⟨by decide, by decide⟩ so_68 rfl rfl rfl (Nat.le_of_ble_eq_true rfl) (Or.inl rfl) rfl rfl ?_
  refine zi_ifne (q := 11) (q2 := 7) dX12_bound_4 (by decide) rfl (fun hc => ?_) (fun hc => ?_)
  · replace h := (if_neg hc).symm.trans h
    refine zi_iloadn (q := 12) dX12_bound_11 rfl rfl ?_
    refine zi_iloadn (q := 13) dX12_bound_12 rfl rfl ?_
    obtain ⟨r2, hr2, h⟩ := Option.bind_eq_some_iff.mp h
    refine zc_S2 (q := 16) (st := []) (S1 := [.int (bi r2)]) (r_X12_isBound x1 x2 _ r2 hr2) dX12_bound_13 cb_X12_isBound k5_169 k5_170 ⟨by decide, by decide⟩ rfl (Nat.le_of_ble_eq_true rfl) (Or.inl rfl) rfl rfl ?_
    refine zi_ifne (q := 23) (q2 := 19) dX12_bound_16 (by decide) rfl (fun hc => ?_) (fun hc => ?_)
    · replace h := (if_neg hc).symm.trans h
      refine zi_aloadn (q := 24) dX12_bound_23 rfl rfl ?_
      refine zi_getA (q := 27) dX12_bound_24 fl_12_44 so_68 rfl rfl ?_
      refine zi_iloadn (q := 28) dX12_bound_27 rfl rfl ?_
      obtain ⟨hz3, h⟩ := zg_some h
      refine zi_iald2 (q := 29) dX12_bound_28 so_80 (zin_vp hz3) rfl rfl ?_
      refine zi_istoren (q := 30) (L' := [some (.ref 68), some (.int x1), some (.int x2), some (.int (m.1 80 x1.toNatClampNeg))]) dX12_bound_29 (by decide) rfl rfl rfl ?_
      refine zi_aloadn (q := 31) dX12_bound_30 rfl rfl ?_
      refine zi_getA (q := 34) dX12_bound_31 fl_12_44 so_68 rfl rfl ?_
      refine zi_iloadn (q := 35) dX12_bound_34 rfl rfl ?_
      refine zi_iloadn (q := 36) dX12_bound_35 rfl rfl ?_
      obtain ⟨hz4, h⟩ := zg_some h
      refine zi_iast2 (q := 37) dX12_bound_36 so_80 (zin_vp hz4) rfl rfl ?_
      refine zi_iloadn (q := 38) dX12_bound_37 rfl rfl ?_
      cases h
      exact zi_ret _ dX12_bound_38
    · replace h := (if_pos hc).symm.trans h
      refine zi_sipush (q := 22) dX12_bound_19 kc_m10002 rfl ?_
      cases h
      exact zi_ret _ dX12_bound_22
  · replace h := (if_pos hc).symm.trans h
    refine zi_sipush (q := 10) dX12_bound_7 kc_m10003 rfl ?_
    cases h
    exact zi_ret _ dX12_bound_10
set_option maxRecDepth 20000 in
theorem rj_X9_baselinesToBackgrounds_45 {E : Nat × (Nat → Int32)} (x1 : Int32) (x2 : Int32) (m : zM) (rv : Option Value) (m' : zM) (x : ((Int32 × Int32 × zM) ⊕ (Int32 × zM))) (h : j_X9_baselinesToBackgrounds_45 x1 x2 m = some x) (KI : ∀ s1 : (Int32 × Int32 × zM), x = .inl s1 → Rn E zX9_baselinesToBackgrounds 4 [some (.ref 31), some (.int s1.1), some (.int s1.2.1)] [] zSH s1.2.2 rv zSH m') : Rn E zX9_baselinesToBackgrounds 45 [some (.ref 31), some (.int x1), some (.int x2)] [] zSH m rv zSH m' := by
  unfold j_X9_baselinesToBackgrounds_45 at h
  refine zi_iinc (q := 48) (v := x2 + 1) (L' := [some (.ref 31), some (.int x1), some (.int (x2 + 1))]) dX9_baselinesToBackgrounds_45 rfl (by rw [ki_1]) (by decide) rfl rfl rfl ?_
  refine zi_goto (q := 4) dX9_baselinesToBackgrounds_48 (by decide) ?_
  exact KI (x1, (x2 + 1), m) (Option.some.inj h).symm
set_option maxRecDepth 20000 in
theorem rb_X9_baselinesToBackgrounds_4 {E : Nat × (Nat → Int32)}   (s : (Int32 × Int32 × zM)) (rv : Option Value) (m' : zM) (x : ((Int32 × Int32 × zM) ⊕ (Int32 × zM))) (h : b_X9_baselinesToBackgrounds_4  s = some x) (KI : ∀ s1 : (Int32 × Int32 × zM), x = .inl s1 → Rn E zX9_baselinesToBackgrounds 4 [some (.ref 31), some (.int s1.1), some (.int s1.2.1)] [] zSH s1.2.2 rv zSH m') (KO : ∀ r1 : (Int32 × zM), x = .inr r1 → Rn E zX9_baselinesToBackgrounds 51 [none, some (.int r1.1), none] [] zSH r1.2 rv zSH m') : Rn E zX9_baselinesToBackgrounds 4 [some (.ref 31), some (.int s.1), some (.int s.2.1)] [] zSH s.2.2 rv zSH m' := by
  unfold b_X9_baselinesToBackgrounds_4 at h
  refine zi_iloadn (q := 5) dX9_baselinesToBackgrounds_4 rfl rfl ?_
  refine zi_aloadn (q := 6) dX9_baselinesToBackgrounds_5 rfl rfl ?_
  refine zi_getA (q := 9) dX9_baselinesToBackgrounds_6 fl_9_31 so_31 rfl rfl ?_
  refine zi_getI (q := 12) dX9_baselinesToBackgrounds_9 fl_9_41 (by decide) so_14 rfl ?_
  refine zi_icmpge (q := 51) (q2 := 15) dX9_baselinesToBackgrounds_12 (by decide) rfl (fun hc => ?_) (fun hc => ?_)
  · replace h := (if_pos hc).symm.trans h
    refine Rn.weakm [false, true, false] ?_
    exact KO (s.1, s.2.2) (Option.some.inj h).symm
  · replace h := (if_neg hc).symm.trans h
    refine zi_aloadn (q := 16) dX9_baselinesToBackgrounds_15 rfl rfl ?_
    refine zi_getA (q := 19) dX9_baselinesToBackgrounds_16 fl_9_15 so_31 rfl rfl ?_
    refine zi_iloadn (q := 20) dX9_baselinesToBackgrounds_19 rfl rfl ?_
    obtain ⟨hz1, h⟩ := zg_some h
    refine zi_iald2 (q := 21) dX9_baselinesToBackgrounds_20 so_33 (zin_vp hz1) rfl rfl ?_
    refine zi_aloadn (q := 22) dX9_baselinesToBackgrounds_21 rfl rfl ?_
    refine zi_getA (q := 25) dX9_baselinesToBackgrounds_22 fl_9_9 so_31 rfl rfl ?_
    refine zi_iloadn (q := 26) dX9_baselinesToBackgrounds_25 rfl rfl ?_
    obtain ⟨hz2, h⟩ := zg_some h
    refine zi_iald2 (q := 27) dX9_baselinesToBackgrounds_26 so_32 (zin_vp hz2) rfl rfl ?_
    refine zi_icmpeq (q := 45) (q2 := 30) dX9_baselinesToBackgrounds_27 (by decide) rfl (fun hc => ?_) (fun hc => ?_)
    · replace h := (if_pos hc).symm.trans h
      exact rj_X9_baselinesToBackgrounds_45 s.1 s.2.1 _ _ _ _ h KI
    · replace h := (if_neg hc).symm.trans h
      refine zi_aloadn (q := 31) dX9_baselinesToBackgrounds_30 rfl rfl ?_
      refine zi_getA (q := 34) dX9_baselinesToBackgrounds_31 fl_9_15 so_31 rfl rfl ?_
      refine zi_iloadn (q := 35) dX9_baselinesToBackgrounds_34 rfl rfl ?_
      refine zi_aloadn (q := 36) dX9_baselinesToBackgrounds_35 rfl rfl ?_
      refine zi_getA (q := 39) dX9_baselinesToBackgrounds_36 fl_9_9 so_31 rfl rfl ?_
      refine zi_iloadn (q := 40) dX9_baselinesToBackgrounds_39 rfl rfl ?_
      obtain ⟨hz3, h⟩ := zg_some h
      refine zi_iald2 (q := 41) dX9_baselinesToBackgrounds_40 so_32 (zin_vp hz3) rfl rfl ?_
      obtain ⟨hz4, h⟩ := zg_some h
      refine zi_iast2 (q := 42) dX9_baselinesToBackgrounds_41 so_33 (zin_vp hz4) rfl rfl ?_
      refine zi_iinc (q := 45) (v := s.1 + 1) (L' := [some (.ref 31), some (.int (s.1 + 1)), some (.int s.2.1)]) dX9_baselinesToBackgrounds_42 rfl (by rw [ki_1]) (by decide) rfl rfl rfl ?_
      exact rj_X9_baselinesToBackgrounds_45 (s.1 + 1) s.2.1 _ _ _ _ h KI
set_option maxRecDepth 20000 in
theorem r_X9_baselinesToBackgrounds {E : Nat × (Nat → Int32)}  (m : zM) (x : (Int32 × zM)) (h : f_X9_baselinesToBackgrounds  m = some x) : zMet E zX9_baselinesToBackgrounds [.ref 31] zSH m (some (.int x.1)) zSH x.2 := by
  refine zMet.of (L0 := [some (.ref 31), none, none]) rfl rfl (Nat.le_of_ble_eq_true rfl) rfl ?_
  unfold f_X9_baselinesToBackgrounds at h
  refine zi_iconst (q := 1) dX9_baselinesToBackgrounds_0 ki_0 rfl ?_
  refine zi_istoren (q := 2) (L' := [some (.ref 31), some (.int 0), none]) dX9_baselinesToBackgrounds_1 (by decide) rfl rfl rfl ?_
  refine zi_iconst (q := 3) dX9_baselinesToBackgrounds_2 ki_0 rfl ?_
  refine zi_istoren (q := 4) (L' := [some (.ref 31), some (.int 0), some (.int 0)]) dX9_baselinesToBackgrounds_3 (by decide) rfl rfl rfl ?_
  obtain ⟨r5, hr5, h⟩ := Option.bind_eq_some_iff.mp h
  refine zloop_rn (P := fun w : (Int32 × Int32 × zM) => Rn E zX9_baselinesToBackgrounds 4 [some (.ref 31), some (.int w.1), some (.int w.2.1)] [] zSH w.2.2 (some (.int x.1)) zSH x.2) (X := fun w : (Int32 × zM) => Rn E zX9_baselinesToBackgrounds 51 [none, some (.int w.1), none] [] zSH w.2 (some (.int x.1)) zSH x.2) (fun w w0 hb KI KX => rb_X9_baselinesToBackgrounds_4  w _ _ w0 hb KI KX) zFU _ r5 hr5 ?_
  show Rn E zX9_baselinesToBackgrounds 51 [none, some (.int r5.1), none] [] zSH r5.2 (some (.int x.1)) zSH x.2
  refine zi_iloadn (q := 52) dX9_baselinesToBackgrounds_51 rfl rfl ?_
  cases h
  exact zi_ret _ dX9_baselinesToBackgrounds_52
set_option maxRecDepth 20000 in
theorem r_X11_settle {E : Nat × (Nat → Int32)}  (m : zM) (x : (Int32 × zM)) (h : f_X11_settle  m = some x) : zMet E zX11_settle [.ref 0] zSH m (some (.int x.1)) zSH x.2 := by
  refine zMet.of (L0 := [some (.ref 0)]) rfl rfl (Nat.le_of_ble_eq_true rfl) rfl ?_
  unfold f_X11_settle at h
  refine zi_aloadn (q := 1) dX11_settle_0 rfl rfl ?_
  refine zi_getA (q := 4) dX11_settle_1 fl_11_28 so_0 rfl rfl ?_
  refine zi_getI (q := 7) dX11_settle_4 fl_11_44 (by decide) so_13 rfl ?_
  refine zi_ifne (q := 14) (q2 := 10) dX11_settle_7 (by decide) rfl (fun hc => ?_) (fun hc => ?_)
  · replace h := (if_neg hc).symm.trans h
    refine zi_aloadn (q := 15) dX11_settle_14 rfl rfl ?_
    refine zi_getA (q := 18) dX11_settle_15 fl_11_28 so_0 rfl rfl ?_
    refine zi_getA (q := 21) dX11_settle_18 fl_11_72 so_13 rfl rfl ?_
    obtain ⟨r1, hr1, h⟩ := Option.bind_eq_some_iff.mp h
    refine zc_V2 (q := 24) (st := []) (S1 := [.int r1.1]) (r_X9_baselinesToBackgrounds  _ r1 hr1) dX11_settle_21 cb_X9_baselinesToBackgrounds k3_91 k3_92 k3_93 ⟨by decide, by decide⟩ so_31 rfl rfl rfl (Nat.le_of_ble_eq_true rfl) (Or.inl rfl) rfl rfl ?_
    cases h
    exact zi_ret _ dX11_settle_24
  · replace h := (if_pos hc).symm.trans h
    refine zi_sipush (q := 13) dX11_settle_10 kc_m10003 rfl ?_
    cases h
    exact zi_ret _ dX11_settle_13
set_option maxRecDepth 20000 in
theorem rj_X12_settle_44 {E : Nat × (Nat → Int32)} (x2 : Int32) (s0 : Int32) (s1 : Int32) (m : zM) (rv : Option Value) (m' : zM) (x : ((Int32 × Int32 × zM) ⊕ (Int32 × zM))) (h : j_X12_settle_44 x2 s0 s1 m = some x) (KI : ∀ s1 : (Int32 × Int32 × zM), x = .inl s1 → Rn E zX12_settle 15 [some (.ref 68), some (.int s1.1), some (.int s1.2.1)] [] zSH s1.2.2 rv zSH m') : Rn E zX12_settle 44 [some (.ref 68), none, some (.int x2)] [.int s0, .int s1] zSH m rv zSH m' := by
  unfold j_X12_settle_44 at h
  refine zi_iadd (q := 45) dX12_settle_44 rfl ?_
  refine zi_istoren (q := 46) (L' := [some (.ref 68), some (.int (s1 + s0)), some (.int x2)]) dX12_settle_45 (by decide) rfl rfl rfl ?_
  refine zi_aloadn (q := 47) dX12_settle_46 rfl rfl ?_
  refine zi_getA (q := 50) dX12_settle_47 fl_12_16 so_68 rfl rfl ?_
  refine zi_iloadn (q := 51) dX12_settle_50 rfl rfl ?_
  refine zi_aloadn (q := 52) dX12_settle_51 rfl rfl ?_
  refine zi_getA (q := 55) dX12_settle_52 fl_12_13 so_68 rfl rfl ?_
  refine zi_iloadn (q := 56) dX12_settle_55 rfl rfl ?_
  obtain ⟨hz5, h⟩ := zg_some h
  refine zi_iald2 (q := 57) dX12_settle_56 so_70 (zin_vp hz5) rfl rfl ?_
  obtain ⟨hz6, h⟩ := zg_some h
  refine zi_iast2 (q := 58) dX12_settle_57 so_71 (zin_vp hz6) rfl rfl ?_
  refine zi_iinc (q := 61) (v := x2 + 1) (L' := [some (.ref 68), some (.int (s1 + s0)), some (.int (x2 + 1))]) dX12_settle_58 rfl (by rw [ki_1]) (by decide) rfl rfl rfl ?_
  refine zi_goto (q := 15) dX12_settle_61 (by decide) ?_
  exact KI ((s1 + s0), (x2 + 1), (zi m 71 x2.toNatClampNeg (m.1 70 x2.toNatClampNeg))) (Option.some.inj h).symm
set_option maxRecDepth 20000 in
theorem rb_X12_settle_15 {E : Nat × (Nat → Int32)}   (s : (Int32 × Int32 × zM)) (rv : Option Value) (m' : zM) (x : ((Int32 × Int32 × zM) ⊕ (Int32 × zM))) (h : b_X12_settle_15  s = some x) (KI : ∀ s1 : (Int32 × Int32 × zM), x = .inl s1 → Rn E zX12_settle 15 [some (.ref 68), some (.int s1.1), some (.int s1.2.1)] [] zSH s1.2.2 rv zSH m') (KO : ∀ r1 : (Int32 × zM), x = .inr r1 → Rn E zX12_settle 64 [none, some (.int r1.1), none] [] zSH r1.2 rv zSH m') : Rn E zX12_settle 15 [some (.ref 68), some (.int s.1), some (.int s.2.1)] [] zSH s.2.2 rv zSH m' := by
  unfold b_X12_settle_15 at h
  refine zi_iloadn (q := 16) dX12_settle_15 rfl rfl ?_
  refine zi_aloadn (q := 17) dX12_settle_16 rfl rfl ?_
  obtain ⟨r2, hr2, h⟩ := Option.bind_eq_some_iff.mp h
  refine zc_V2 (q := 20) (st := [.int s.2.1]) (S1 := [.int r2, .int s.2.1]) (r_X12_cells  _ r2 hr2) dX12_settle_17 cb_X12_cells k5_138 k5_140 ks_X12_cells ⟨by decide, by decide⟩ so_68 rfl rfl rfl (Nat.le_of_ble_eq_true rfl) (Or.inl rfl) rfl rfl ?_
  refine zi_icmpge (q := 64) (q2 := 23) dX12_settle_20 (by decide) rfl (fun hc => ?_) (fun hc => ?_)
  · replace h := (if_pos hc).symm.trans h
    refine Rn.weakm [false, true, false] ?_
    exact KO (s.1, s.2.2) (Option.some.inj h).symm
  · replace h := (if_neg hc).symm.trans h
    refine zi_iloadn (q := 24) dX12_settle_23 rfl rfl ?_
    refine zi_aloadn (q := 25) dX12_settle_24 rfl rfl ?_
    refine zi_getA (q := 28) dX12_settle_25 fl_12_16 so_68 rfl rfl ?_
    refine zi_iloadn (q := 29) dX12_settle_28 rfl rfl ?_
    obtain ⟨hz3, h⟩ := zg_some h
    refine zi_iald2 (q := 30) dX12_settle_29 so_71 (zin_vp hz3) rfl rfl ?_
    refine zi_aloadn (q := 31) dX12_settle_30 rfl rfl ?_
    refine zi_getA (q := 34) dX12_settle_31 fl_12_13 so_68 rfl rfl ?_
    refine zi_iloadn (q := 35) dX12_settle_34 rfl rfl ?_
    obtain ⟨hz4, h⟩ := zg_some h
    refine zi_iald2 (q := 36) dX12_settle_35 so_70 (zin_vp hz4) rfl rfl ?_
    refine zi_icmpne (q := 43) (q2 := 39) dX12_settle_36 (by decide) rfl (fun hc => ?_) (fun hc => ?_)
    · replace h := (if_neg hc).symm.trans h
      refine zi_iconst (q := 44) dX12_settle_43 ki_1 rfl ?_
      refine Rn.weakm [true, false, true] ?_
      exact rj_X12_settle_44 s.2.1 1 s.1 _ _ _ _ h KI
    · replace h := (if_pos hc).symm.trans h
      refine zi_iconst (q := 40) dX12_settle_39 ki_0 rfl ?_
      refine zi_goto (q := 44) dX12_settle_40 (by decide) ?_
      refine Rn.weakm [true, false, true] ?_
      exact rj_X12_settle_44 s.2.1 0 s.1 _ _ _ _ h KI
set_option maxRecDepth 20000 in
theorem r_X12_settle {E : Nat × (Nat → Int32)}  (m : zM) (x : (Int32 × zM)) (h : f_X12_settle  m = some x) : zMet E zX12_settle [.ref 68] zSH m (some (.int x.1)) zSH x.2 := by
  refine zMet.of (L0 := [some (.ref 68), none, none]) rfl rfl (Nat.le_of_ble_eq_true rfl) rfl ?_
  unfold f_X12_settle at h
  refine zi_aloadn (q := 1) dX12_settle_0 rfl rfl ?_
  obtain ⟨r1, hr1, h⟩ := Option.bind_eq_some_iff.mp h
  refine zc_V2 (q := 4) (st := []) (S1 := [.int (bi r1)]) (r_X12_isGlass  _ r1 hr1) dX12_settle_1 cb_X12_isGlass k5_82 k5_84 ks_X12_isGlass ⟨by decide, by decide⟩ so_68 rfl rfl rfl (Nat.le_of_ble_eq_true rfl) (Or.inl rfl) rfl rfl ?_
  refine zi_ifne (q := 11) (q2 := 7) dX12_settle_4 (by decide) rfl (fun hc => ?_) (fun hc => ?_)
  · replace h := (if_neg hc).symm.trans h
    refine zi_iconst (q := 12) dX12_settle_11 ki_0 rfl ?_
    refine zi_istoren (q := 13) (L' := [some (.ref 68), some (.int 0), none]) dX12_settle_12 (by decide) rfl rfl rfl ?_
    refine zi_iconst (q := 14) dX12_settle_13 ki_0 rfl ?_
    refine zi_istoren (q := 15) (L' := [some (.ref 68), some (.int 0), some (.int 0)]) dX12_settle_14 (by decide) rfl rfl rfl ?_
    obtain ⟨r7, hr7, h⟩ := Option.bind_eq_some_iff.mp h
    refine zloop_rn (P := fun w : (Int32 × Int32 × zM) => Rn E zX12_settle 15 [some (.ref 68), some (.int w.1), some (.int w.2.1)] [] zSH w.2.2 (some (.int x.1)) zSH x.2) (X := fun w : (Int32 × zM) => Rn E zX12_settle 64 [none, some (.int w.1), none] [] zSH w.2 (some (.int x.1)) zSH x.2) (fun w w0 hb KI KX => rb_X12_settle_15  w _ _ w0 hb KI KX) zFU _ r7 hr7 ?_
    show Rn E zX12_settle 64 [none, some (.int r7.1), none] [] zSH r7.2 (some (.int x.1)) zSH x.2
    refine zi_iloadn (q := 65) dX12_settle_64 rfl rfl ?_
    cases h
    exact zi_ret _ dX12_settle_65
  · replace h := (if_pos hc).symm.trans h
    refine zi_sipush (q := 10) dX12_settle_7 kc_m10003 rfl ?_
    cases h
    exact zi_ret _ dX12_settle_10
set_option maxRecDepth 20000 in
theorem r_X0_activeLevel {E : Nat × (Nat → Int32)}  (m : zM) (x : Int32) (h : f_X0_activeLevel  m = some x) : zMet E zX0_activeLevel [.ref 24] zSH m (some (.int x)) zSH m := by
  refine zMet.of (L0 := [some (.ref 24)]) rfl rfl (Nat.le_of_ble_eq_true rfl) rfl ?_
  unfold f_X0_activeLevel at h
  refine zi_aloadn (q := 1) dX0_activeLevel_0 rfl rfl ?_
  refine zi_getA (q := 4) dX0_activeLevel_1 fl_0_9 so_24 rfl rfl ?_
  refine zi_aloadn (q := 5) dX0_activeLevel_4 rfl rfl ?_
  refine zi_getI (q := 8) dX0_activeLevel_5 fl_0_21 (by decide) so_24 rfl ?_
  obtain ⟨hz1, h⟩ := zg_some h
  refine zi_iald2 (q := 9) dX0_activeLevel_8 so_25 (zin_vp hz1) rfl rfl ?_
  cases h
  exact zi_ret _ dX0_activeLevel_9
set_option maxRecDepth 20000 in
theorem r_X0_drawBelow {E : Nat × (Nat → Int32)} (x1 : Int32) (m : zM) (x : (Int32 × zM)) (h : f_X0_drawBelow x1 m = some x) : zMet E zX0_drawBelow [.ref 24, .int x1] zSH m (some (.int x.1)) zSH x.2 := by
  refine zMet.of (L0 := [some (.ref 24), some (.int x1)]) rfl rfl (Nat.le_of_ble_eq_true rfl) rfl ?_
  unfold f_X0_drawBelow at h
  refine zi_aloadn (q := 1) dX0_drawBelow_0 rfl rfl ?_
  refine zi_ldc2 (q := 4) dX0_drawBelow_1 k3_119 rfl ?_
  refine zi_aloadn (q := 5) dX0_drawBelow_4 rfl rfl ?_
  refine zi_getI (q := 8) dX0_drawBelow_5 fl_0_25 (by decide) so_24 rfl ?_
  refine zi_i2l (q := 9) dX0_drawBelow_8 rfl ?_
  refine zi_lmul (q := 10) dX0_drawBelow_9 rfl ?_
  refine zi_ldc2 (q := 13) dX0_drawBelow_10 k3_120 rfl ?_
  refine zi_ladd (q := 14) dX0_drawBelow_13 rfl ?_
  refine zi_ldc2 (q := 17) dX0_drawBelow_14 k3_121 rfl ?_
  refine zi_lrem2 (q := 18) dX0_drawBelow_17 (by decide) rfl ?_
  refine zi_l2i (q := 19) dX0_drawBelow_18 rfl ?_
  refine zi_putI (q := 22) dX0_drawBelow_19 pl_0_25 so_24 rfl ?_
  refine zi_iloadn (q := 23) dX0_drawBelow_22 rfl rfl ?_
  refine zi_ifle (q := 38) (q2 := 26) dX0_drawBelow_23 (by decide) rfl (fun hc => ?_) (fun hc => ?_)
  · replace h := (if_pos hc).symm.trans h
    refine zi_iconst (q := 39) dX0_drawBelow_38 ki_0 rfl ?_
    cases h
    exact zi_ret _ dX0_drawBelow_39
  · replace h := (if_neg hc).symm.trans h
    refine zi_aloadn (q := 27) dX0_drawBelow_26 rfl rfl ?_
    refine zi_getI (q := 30) dX0_drawBelow_27 fl_0_25 (by decide) so_24 rfl ?_
    refine zi_ldc (q := 32) dX0_drawBelow_30 k3_122 rfl ?_
    refine zi_idiv (q := 33) dX0_drawBelow_32 nz_65536 rfl ?_
    refine zi_iloadn (q := 34) dX0_drawBelow_33 rfl rfl ?_
    obtain ⟨hz1, h⟩ := zg_some h
    refine zi_irem2 (q := 35) dX0_drawBelow_34 (znz_of hz1) rfl ?_
    refine zi_goto (q := 39) dX0_drawBelow_35 (by decide) ?_
    cases h
    exact zi_ret _ dX0_drawBelow_39
set_option maxRecDepth 20000 in
theorem r_X0_drawNoise {E : Nat × (Nat → Int32)} (x1 : Int32) (m : zM) (x : (Int32 × zM)) (h : f_X0_drawNoise x1 m = some x) : zMet E zX0_drawNoise [.ref 24, .int x1] zSH m (some (.int x.1)) zSH x.2 := by
  refine zMet.of (L0 := [some (.ref 24), some (.int x1)]) rfl rfl (Nat.le_of_ble_eq_true rfl) rfl ?_
  unfold f_X0_drawNoise at h
  refine zi_aloadn (q := 1) dX0_drawNoise_0 rfl rfl ?_
  refine zi_iconst (q := 2) dX0_drawNoise_1 ki_2 rfl ?_
  refine zi_iloadn (q := 3) dX0_drawNoise_2 rfl rfl ?_
  refine zi_imul (q := 4) dX0_drawNoise_3 rfl ?_
  refine zi_iconst (q := 5) dX0_drawNoise_4 ki_1 rfl ?_
  refine zi_iadd (q := 6) dX0_drawNoise_5 rfl ?_
  obtain ⟨r1, hr1, h⟩ := Option.bind_eq_some_iff.mp h
  refine zc_V2 (q := 9) (st := []) (S1 := [.int r1.1]) (r_X0_drawBelow ((2 * x1) + 1) _ r1 hr1) dX0_drawNoise_6 cb_X0_drawBelow k3_115 k3_117 ks_X0_drawBelow ⟨by decide, by decide⟩ so_24 rfl rfl rfl (Nat.le_of_ble_eq_true rfl) (Or.inl rfl) rfl rfl ?_
  refine zi_iloadn (q := 10) dX0_drawNoise_9 rfl rfl ?_
  refine zi_isub (q := 11) dX0_drawNoise_10 rfl ?_
  cases h
  exact zi_ret _ dX0_drawNoise_11
set_option maxRecDepth 20000 in
theorem rj_X9_sense_104 {E : Nat × (Nat → Int32)} (x2 : Int32) (x3 : Int32) (x4 : Int32) (s0 : Int32) (s1 : Int32) (m : zM) (rv : Option Value) (m' : zM) (x : ((Int32 × zM) ⊕ (zM))) (h : j_X9_sense_104 x2 x3 x4 s0 s1 m = some x) (KI : ∀ s1 : (Int32 × zM), x = .inl s1 → Rn E zX9_sense 8 [some (.ref 31), some (.ref 24), some (.int x2), some (.int x3), some (.int s1.1), none] [] zSH s1.2 rv zSH m') : Rn E zX9_sense 104 [some (.ref 31), some (.ref 24), some (.int x2), some (.int x3), some (.int x4), none] [.int s0, .int s1, .ref 37] zSH m rv zSH m' := by
  unfold j_X9_sense_104 at h
  obtain ⟨hz9, h⟩ := zg_some h
  obtain ⟨hz10, h⟩ := zg_some h
  refine zi_bast2 (q := 105) dX9_sense_104 so_37 (zin_vp hz9) rfl hz10 rfl ?_
  refine zi_iinc (q := 108) (v := x4 + 1) (L' := [some (.ref 31), some (.ref 24), some (.int x2), some (.int x3), some (.int (x4 + 1)), none]) dX9_sense_105 rfl (by rw [ki_1]) (by decide) rfl rfl rfl ?_
  refine zi_goto (q := 8) dX9_sense_108 (by decide) ?_
  exact KI ((x4 + 1), (zi m 37 s1.toNatClampNeg s0)) (Option.some.inj h).symm
set_option maxRecDepth 20000 in
theorem rj_X9_sense_33 {E : Nat × (Nat → Int32)} (x2 : Int32) (x3 : Int32) (x4 : Int32) (s0 : Int32) (m : zM) (rv : Option Value) (m' : zM) (x : ((Int32 × zM) ⊕ (zM))) (h : j_X9_sense_33 x2 x3 x4 s0 m = some x) (KI : ∀ s1 : (Int32 × zM), x = .inl s1 → Rn E zX9_sense 8 [some (.ref 31), some (.ref 24), some (.int x2), some (.int x3), some (.int s1.1), none] [] zSH s1.2 rv zSH m') : Rn E zX9_sense 33 [some (.ref 31), some (.ref 24), some (.int x2), some (.int x3), some (.int x4), none] [.int s0] zSH m rv zSH m' := by
  unfold j_X9_sense_33 at h
  refine zi_istore (q := 35) (L' := [some (.ref 31), some (.ref 24), some (.int x2), some (.int x3), some (.int x4), some (.int s0)]) dX9_sense_33 (by decide) rfl rfl rfl ?_
  refine zi_aloadn (q := 36) dX9_sense_35 rfl rfl ?_
  refine zi_getA (q := 39) dX9_sense_36 fl_9_21 so_31 rfl rfl ?_
  refine zi_iload (q := 41) dX9_sense_39 rfl rfl ?_
  refine zi_aloadn (q := 42) dX9_sense_41 rfl rfl ?_
  refine zi_getA (q := 45) dX9_sense_42 fl_9_9 so_31 rfl rfl ?_
  refine zi_iload (q := 47) dX9_sense_45 rfl rfl ?_
  obtain ⟨hz2, h⟩ := zg_some h
  refine zi_iald2 (q := 48) dX9_sense_47 so_32 (zin_vp hz2) rfl rfl ?_
  refine zi_aloadn (q := 49) dX9_sense_48 rfl rfl ?_
  refine zi_getA (q := 52) dX9_sense_49 fl_9_18 so_31 rfl rfl ?_
  refine zi_iload (q := 54) dX9_sense_52 rfl rfl ?_
  obtain ⟨hz3, h⟩ := zg_some h
  refine zi_iald2 (q := 55) dX9_sense_54 so_34 (zin_vp hz3) rfl rfl ?_
  refine zi_iadd (q := 56) dX9_sense_55 rfl ?_
  refine zi_iload (q := 58) dX9_sense_56 rfl rfl ?_
  refine zi_iadd (q := 59) dX9_sense_58 rfl ?_
  obtain ⟨hz4, h⟩ := zg_some h
  refine zi_iast2 (q := 60) dX9_sense_59 so_35 (zin_vp hz4) rfl rfl ?_
  refine zi_aloadn (q := 61) dX9_sense_60 rfl rfl ?_
  refine zi_getA (q := 64) dX9_sense_61 fl_9_24 so_31 rfl rfl ?_
  refine zi_iload (q := 66) dX9_sense_64 rfl rfl ?_
  refine zi_aloadn (q := 67) dX9_sense_66 rfl rfl ?_
  refine zi_getA (q := 70) dX9_sense_67 fl_9_21 so_31 rfl rfl ?_
  refine zi_iload (q := 72) dX9_sense_70 rfl rfl ?_
  obtain ⟨hz5, h⟩ := zg_some h
  refine zi_iald2 (q := 73) dX9_sense_72 so_35 (zin_vp hz5) rfl rfl ?_
  refine zi_aloadn (q := 74) dX9_sense_73 rfl rfl ?_
  refine zi_getA (q := 77) dX9_sense_74 fl_9_15 so_31 rfl rfl ?_
  refine zi_iload (q := 79) dX9_sense_77 rfl rfl ?_
  obtain ⟨hz6, h⟩ := zg_some h
  refine zi_iald2 (q := 80) dX9_sense_79 so_33 (zin_vp hz6) rfl rfl ?_
  refine zi_isub (q := 81) dX9_sense_80 rfl ?_
  obtain ⟨hz7, h⟩ := zg_some h
  refine zi_iast2 (q := 82) dX9_sense_81 so_36 (zin_vp hz7) rfl rfl ?_
  refine zi_aloadn (q := 83) dX9_sense_82 rfl rfl ?_
  refine zi_getA (q := 86) dX9_sense_83 fl_9_27 so_31 rfl rfl ?_
  refine zi_iload (q := 88) dX9_sense_86 rfl rfl ?_
  refine zi_aloadn (q := 89) dX9_sense_88 rfl rfl ?_
  refine zi_getA (q := 92) dX9_sense_89 fl_9_24 so_31 rfl rfl ?_
  refine zi_iload (q := 94) dX9_sense_92 rfl rfl ?_
  obtain ⟨hz8, h⟩ := zg_some h
  refine zi_iald2 (q := 95) dX9_sense_94 so_36 (zin_vp hz8) rfl rfl ?_
  refine zi_iloadn (q := 96) dX9_sense_95 rfl rfl ?_
  refine zi_icmplt (q := 103) (q2 := 99) dX9_sense_96 (by decide) rfl (fun hc => ?_) (fun hc => ?_)
  · replace h := (if_pos hc).symm.trans h
    refine zi_iconst (q := 104) dX9_sense_103 ki_0 rfl ?_
    refine Rn.weakm [true, true, true, true, true, false] ?_
    exact rj_X9_sense_104 x2 x3 x4 0 x4 _ _ _ _ h KI
  · replace h := (if_neg hc).symm.trans h
    refine zi_iconst (q := 100) dX9_sense_99 ki_1 rfl ?_
    refine zi_goto (q := 104) dX9_sense_100 (by decide) ?_
    refine Rn.weakm [true, true, true, true, true, false] ?_
    exact rj_X9_sense_104 x2 x3 x4 1 x4 _ _ _ _ h KI
set_option maxRecDepth 20000 in
theorem rb_X9_sense_8 {E : Nat × (Nat → Int32)} (x2 : Int32) (x3 : Int32)  (s : (Int32 × zM)) (rv : Option Value) (m' : zM) (x : ((Int32 × zM) ⊕ (zM))) (h : b_X9_sense_8 x2 x3 s = some x) (KI : ∀ s1 : (Int32 × zM), x = .inl s1 → Rn E zX9_sense 8 [some (.ref 31), some (.ref 24), some (.int x2), some (.int x3), some (.int s1.1), none] [] zSH s1.2 rv zSH m') (KO : ∀ r1 : (zM), x = .inr r1 → Rn E zX9_sense 111 [none, none, none, none, none, none] [] zSH r1 rv zSH m') : Rn E zX9_sense 8 [some (.ref 31), some (.ref 24), some (.int x2), some (.int x3), some (.int s.1), none] [] zSH s.2 rv zSH m' := by
  unfold b_X9_sense_8 at h
  refine zi_iload (q := 10) dX9_sense_8 rfl rfl ?_
  refine zi_aloadn (q := 11) dX9_sense_10 rfl rfl ?_
  refine zi_getA (q := 14) dX9_sense_11 fl_9_31 so_31 rfl rfl ?_
  refine zi_getI (q := 17) dX9_sense_14 fl_9_41 (by decide) so_14 rfl ?_
  refine zi_icmpge (q := 111) (q2 := 20) dX9_sense_17 (by decide) rfl (fun hc => ?_) (fun hc => ?_)
  · replace h := (if_pos hc).symm.trans h
    refine Rn.weakm [false, false, false, false, false, false] ?_
    exact KO s.2 (Option.some.inj h).symm
  · replace h := (if_neg hc).symm.trans h
    refine zi_iloadn (q := 21) dX9_sense_20 rfl rfl ?_
    refine zi_ifle (q := 32) (q2 := 24) dX9_sense_21 (by decide) rfl (fun hc => ?_) (fun hc => ?_)
    · replace h := (if_pos hc).symm.trans h
      refine zi_iconst (q := 33) dX9_sense_32 ki_0 rfl ?_
      exact rj_X9_sense_33 x2 x3 s.1 0 _ _ _ _ h KI
    · replace h := (if_neg hc).symm.trans h
      refine zi_aloadn (q := 25) dX9_sense_24 rfl rfl ?_
      refine zi_iloadn (q := 26) dX9_sense_25 rfl rfl ?_
      obtain ⟨r11, hr11, h⟩ := Option.bind_eq_some_iff.mp h
      refine zc_V2 (q := 29) (st := []) (S1 := [.int r11.1]) (r_X0_drawNoise x3 _ r11 hr11) dX9_sense_26 cb_X0_drawNoise k3_111 k3_112 k3_113 ⟨by decide, by decide⟩ so_24 rfl rfl rfl (Nat.le_of_ble_eq_true rfl) (Or.inl rfl) rfl rfl ?_
      refine zi_goto (q := 33) dX9_sense_29 (by decide) ?_
      exact rj_X9_sense_33 x2 x3 s.1 r11.1 _ _ _ _ h KI
set_option maxRecDepth 20000 in
theorem r_X9_sense {E : Nat × (Nat → Int32)} (x2 : Int32) (m : zM) (x : zM) (h : f_X9_sense x2 m = some x) : zMet E zX9_sense [.ref 31, .ref 24, .int x2] zSH m none zSH x := by
  refine zMet.of (L0 := [some (.ref 31), some (.ref 24), some (.int x2), none, none, none]) rfl trivial (Nat.le_of_ble_eq_true rfl) rfl ?_
  unfold f_X9_sense at h
  refine zi_aloadn (q := 1) dX9_sense_0 rfl rfl ?_
  obtain ⟨r1, hr1, h⟩ := Option.bind_eq_some_iff.mp h
  refine zc_V2 (q := 4) (st := []) (S1 := [.int r1]) (r_X0_activeLevel  _ r1 hr1) dX9_sense_1 cb_X0_activeLevel k3_107 k3_108 k3_109 ⟨by decide, by decide⟩ so_24 rfl rfl rfl (Nat.le_of_ble_eq_true rfl) (Or.inl rfl) rfl rfl ?_
  refine zi_istoren (q := 5) (L' := [some (.ref 31), some (.ref 24), some (.int x2), some (.int r1), none, none]) dX9_sense_4 (by decide) rfl rfl rfl ?_
  refine zi_iconst (q := 6) dX9_sense_5 ki_0 rfl ?_
  refine zi_istore (q := 8) (L' := [some (.ref 31), some (.ref 24), some (.int x2), some (.int r1), some (.int 0), none]) dX9_sense_6 (by decide) rfl rfl rfl ?_
  obtain ⟨r12, hr12, h⟩ := Option.bind_eq_some_iff.mp h
  refine zloop_rn (P := fun w : (Int32 × zM) => Rn E zX9_sense 8 [some (.ref 31), some (.ref 24), some (.int x2), some (.int r1), some (.int w.1), none] [] zSH w.2 none zSH x) (X := fun w : (zM) => Rn E zX9_sense 111 [none, none, none, none, none, none] [] zSH w none zSH x) (fun w w0 hb KI KX => rb_X9_sense_8 x2 r1 w _ _ w0 hb KI KX) zFU _ r12 hr12 ?_
  show Rn E zX9_sense 111 [none, none, none, none, none, none] [] zSH r12 none zSH x
  cases h
  exact zi_ret _ dX9_sense_111
