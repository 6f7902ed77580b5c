set_option maxRecDepth 20000 in
theorem r_X11_within {E : Nat × (Nat → Int32)} (x0 : Int32) (x1 : Int32) (x2 : Int32) (m : zM) (x : Bool) (h : f_X11_within x0 x1 x2 m = some x) : zMet E zX11_within [.int x0, .int x1, .int x2] zSH m (some (.int (bi x))) zSH m := by
  refine zMet.of (L0 := [some (.int x0), some (.int x1), some (.int x2)]) rfl (zfit_bi _) (Nat.le_of_ble_eq_true rfl) rfl ?_
  unfold f_X11_within at h
  refine zi_iloadn (q := 1) dX11_within_0 rfl rfl ?_
  refine zi_iloadn (q := 2) dX11_within_1 rfl rfl ?_
  refine zi_icmplt (q := 14) (q2 := 5) dX11_within_2 (by decide) rfl (fun hc => ?_) (fun hc => ?_)
  · replace h := (if_pos hc).symm.trans h
    refine zi_iconst (q := 15) dX11_within_14 ki_0 rfl ?_
    cases h
    exact zi_ret _ dX11_within_15
  · replace h := (if_neg hc).symm.trans h
    refine zi_iloadn (q := 6) dX11_within_5 rfl rfl ?_
    refine zi_iloadn (q := 7) dX11_within_6 rfl rfl ?_
    refine zi_icmpgt (q := 14) (q2 := 10) dX11_within_7 (by decide) rfl (fun hc => ?_) (fun hc => ?_)
    · replace h := (if_pos hc).symm.trans h
      refine zi_iconst (q := 15) dX11_within_14 ki_0 rfl ?_
      cases h
      exact zi_ret _ dX11_within_15
    · replace h := (if_neg hc).symm.trans h
      refine zi_iconst (q := 11) dX11_within_10 ki_1 rfl ?_
      refine zi_goto (q := 15) dX11_within_11 (by decide) ?_
      cases h
      exact zi_ret _ dX11_within_15
set_option maxRecDepth 20000 in
theorem r_X5_append {E : Nat × (Nat → Int32)} (x1 : Int32) (m : zM) (x : zM) (h : f_X5_append x1 m = some x) : zMet E zX5_append [.ref 1, .int x1] zSH m none zSH x := by
  refine zMet.of (L0 := [some (.ref 1), some (.int x1)]) rfl trivial (Nat.le_of_ble_eq_true rfl) rfl ?_
  unfold f_X5_append at h
  refine zi_aloadn (q := 1) dX5_append_0 rfl rfl ?_
  refine zi_getI (q := 4) dX5_append_1 fl_5_22 (by decide) so_1 rfl ?_
  refine zi_bipush (q := 6) dX5_append_4 kb_40 rfl ?_
  refine zi_icmpge (q := 29) (q2 := 9) dX5_append_6 (by decide) rfl (fun hc => ?_) (fun hc => ?_)
  · replace h := (if_pos hc).symm.trans h
    cases h
    exact zi_ret _ dX5_append_29
  · replace h := (if_neg hc).symm.trans h
    refine zi_aloadn (q := 10) dX5_append_9 rfl rfl ?_
    refine zi_getA (q := 13) dX5_append_10 fl_5_9 so_1 rfl rfl ?_
    refine zi_aloadn (q := 14) dX5_append_13 rfl rfl ?_
    refine zi_getI (q := 17) dX5_append_14 fl_5_22 (by decide) so_1 rfl ?_
    refine zi_iloadn (q := 18) dX5_append_17 rfl rfl ?_
    obtain ⟨hz1, h⟩ := zg_some h
    refine zi_iast2 (q := 19) dX5_append_18 so_2 (zin_vp hz1) rfl rfl ?_
    refine zi_aloadn (q := 20) dX5_append_19 rfl rfl ?_
    refine zi_dup (q := 21) dX5_append_20 rfl rfl ?_
    refine zi_getI (q := 24) dX5_append_21 fl_5_22 (by decide) so_1 rfl ?_
    refine zi_iconst (q := 25) dX5_append_24 ki_1 rfl ?_
    refine zi_iadd (q := 26) dX5_append_25 rfl ?_
    refine zi_putI (q := 29) dX5_append_26 pl_5_22 so_1 rfl ?_
    cases h
    exact zi_ret _ dX5_append_29
set_option maxRecDepth 20000 in
theorem r_X11_letter {E : Nat × (Nat → Int32)} (x1 : Int32) (m : zM) (x : (Int32 × zM)) (h : f_X11_letter x1 m = some x) : zMet E zX11_letter [.ref 0, .int x1] zSH m (some (.int x.1)) zSH x.2 := by
  refine zMet.of (L0 := [some (.ref 0), some (.int x1)]) rfl rfl (Nat.le_of_ble_eq_true rfl) rfl ?_
  unfold f_X11_letter at h
  refine zi_iloadn (q := 1) dX11_letter_0 rfl rfl ?_
  refine zi_bipush (q := 3) dX11_letter_1 kb_32 rfl ?_
  refine zi_bipush (q := 5) dX11_letter_3 kb_126 rfl ?_
  obtain ⟨r1, hr1, h⟩ := Option.bind_eq_some_iff.mp h
  refine zc_S2 (q := 8) (st := []) (S1 := [.int (bi r1)]) (r_X11_within x1 32 126 _ r1 hr1) dX11_letter_5 cb_X11_within k2_174 k2_175 ⟨by decide, by decide⟩ rfl (Nat.le_of_ble_eq_true rfl) (Or.inl rfl) rfl rfl ?_
  refine zi_ifne (q := 15) (q2 := 11) dX11_letter_8 (by decide) rfl (fun hc => ?_) (fun hc => ?_)
  · replace h := (if_neg hc).symm.trans h
    refine zi_aloadn (q := 16) dX11_letter_15 rfl rfl ?_
    refine zi_getA (q := 19) dX11_letter_16 fl_11_10 so_0 rfl rfl ?_
    refine zi_getI (q := 22) dX11_letter_19 fl_11_36 (by decide) so_1 rfl ?_
    refine zi_bipush (q := 24) dX11_letter_22 kb_40 rfl ?_
    refine zi_icmplt (q := 31) (q2 := 27) dX11_letter_24 (by decide) rfl (fun hc => ?_) (fun hc => ?_)
    · replace h := (if_pos hc).symm.trans h
      refine zi_aloadn (q := 32) dX11_letter_31 rfl rfl ?_
      refine zi_getA (q := 35) dX11_letter_32 fl_11_10 so_0 rfl rfl ?_
      refine zi_iloadn (q := 36) dX11_letter_35 rfl rfl ?_
      obtain ⟨m2, hm2, h⟩ := Option.bind_eq_some_iff.mp h
      refine zc_V2 (q := 39) (st := []) (S1 := []) (r_X5_append x1 _ m2 hm2) dX11_letter_36 cb_X5_append k2_177 k2_178 k2_179 ⟨by decide, by decide⟩ so_1 rfl rfl rfl (Nat.le_of_ble_eq_true rfl) (Or.inl rfl) rfl rfl ?_
      refine zi_aloadn (q := 40) dX11_letter_39 rfl rfl ?_
      refine zi_getA (q := 43) dX11_letter_40 fl_11_10 so_0 rfl rfl ?_
      refine zi_getI (q := 46) dX11_letter_43 fl_11_36 (by decide) so_1 rfl ?_
      cases h
      exact zi_ret _ dX11_letter_46
    · replace h := (if_neg hc).symm.trans h
      refine zi_sipush (q := 30) dX11_letter_27 kc_m10004 rfl ?_
      cases h
      exact zi_ret _ dX11_letter_30
  · replace h := (if_pos hc).symm.trans h
    refine zi_sipush (q := 14) dX11_letter_11 kc_m10002 rfl ?_
    cases h
    exact zi_ret _ dX11_letter_14
set_option maxRecDepth 20000 in
theorem r_X12_within {E : Nat × (Nat → Int32)} (x0 : Int32) (x1 : Int32) (x2 : Int32) (m : zM) (x : Bool) (h : f_X12_within x0 x1 x2 m = some x) : zMet E zX12_within [.int x0, .int x1, .int x2] zSH m (some (.int (bi x))) zSH m := by
  refine zMet.of (L0 := [some (.int x0), some (.int x1), some (.int x2)]) rfl (zfit_bi _) (Nat.le_of_ble_eq_true rfl) rfl ?_
  unfold f_X12_within at h
  refine zi_iloadn (q := 1) dX12_within_0 rfl rfl ?_
  refine zi_iloadn (q := 2) dX12_within_1 rfl rfl ?_
  refine zi_icmplt (q := 14) (q2 := 5) dX12_within_2 (by decide) rfl (fun hc => ?_) (fun hc => ?_)
  · replace h := (if_pos hc).symm.trans h
    refine zi_iconst (q := 15) dX12_within_14 ki_0 rfl ?_
    cases h
    exact zi_ret _ dX12_within_15
  · replace h := (if_neg hc).symm.trans h
    refine zi_iloadn (q := 6) dX12_within_5 rfl rfl ?_
    refine zi_iloadn (q := 7) dX12_within_6 rfl rfl ?_
    refine zi_icmpgt (q := 14) (q2 := 10) dX12_within_7 (by decide) rfl (fun hc => ?_) (fun hc => ?_)
    · replace h := (if_pos hc).symm.trans h
      refine zi_iconst (q := 15) dX12_within_14 ki_0 rfl ?_
      cases h
      exact zi_ret _ dX12_within_15
    · replace h := (if_neg hc).symm.trans h
      refine zi_iconst (q := 11) dX12_within_10 ki_1 rfl ?_
      refine zi_goto (q := 15) dX12_within_11 (by decide) ?_
      cases h
      exact zi_ret _ dX12_within_15
set_option maxRecDepth 20000 in
theorem r_X12_letter {E : Nat × (Nat → Int32)} (x1 : Int32) (m : zM) (x : (Int32 × zM)) (h : f_X12_letter x1 m = some x) : zMet E zX12_letter [.ref 68, .int x1] zSH m (some (.int x.1)) zSH x.2 := by
  refine zMet.of (L0 := [some (.ref 68), some (.int x1)]) rfl rfl (Nat.le_of_ble_eq_true rfl) rfl ?_
  unfold f_X12_letter at h
  refine zi_iloadn (q := 1) dX12_letter_0 rfl rfl ?_
  refine zi_bipush (q := 3) dX12_letter_1 kb_32 rfl ?_
  refine zi_bipush (q := 5) dX12_letter_3 kb_126 rfl ?_
  obtain ⟨r1, hr1, h⟩ := Option.bind_eq_some_iff.mp h
  refine zc_S2 (q := 8) (st := []) (S1 := [.int (bi r1)]) (r_X12_within x1 32 126 _ r1 hr1) dX12_letter_5 cb_X12_within k5_71 k5_72 ⟨by decide, by decide⟩ rfl (Nat.le_of_ble_eq_true rfl) (Or.inl rfl) rfl rfl ?_
  refine zi_ifne (q := 15) (q2 := 11) dX12_letter_8 (by decide) rfl (fun hc => ?_) (fun hc => ?_)
  · replace h := (if_neg hc).symm.trans h
    refine zi_aloadn (q := 16) dX12_letter_15 rfl rfl ?_
    refine zi_getI (q := 19) dX12_letter_16 fl_12_127 (by decide) so_68 rfl ?_
    refine zi_bipush (q := 21) dX12_letter_19 kb_40 rfl ?_
    refine zi_icmpne (q := 28) (q2 := 24) dX12_letter_21 (by decide) rfl (fun hc => ?_) (fun hc => ?_)
    · replace h := (if_neg hc).symm.trans h
      refine zi_aloadn (q := 29) dX12_letter_28 rfl rfl ?_
      refine zi_getA (q := 32) dX12_letter_29 fl_12_7 so_68 rfl rfl ?_
      refine zi_aloadn (q := 33) dX12_letter_32 rfl rfl ?_
      refine zi_getI (q := 36) dX12_letter_33 fl_12_127 (by decide) so_68 rfl ?_
      refine zi_iloadn (q := 37) dX12_letter_36 rfl rfl ?_
      obtain ⟨hz2, h⟩ := zg_some h
      refine zi_iast2 (q := 38) dX12_letter_37 so_69 (zin_vp hz2) rfl rfl ?_
      refine zi_aloadn (q := 39) dX12_letter_38 rfl rfl ?_
      refine zi_dup (q := 40) dX12_letter_39 rfl rfl ?_
      refine zi_getI (q := 43) dX12_letter_40 fl_12_127 (by decide) so_68 rfl ?_
      refine zi_iconst (q := 44) dX12_letter_43 ki_1 rfl ?_
      refine zi_iadd (q := 45) dX12_letter_44 rfl ?_
      refine zi_putI (q := 48) dX12_letter_45 pl_12_127 so_68 rfl ?_
      refine zi_aloadn (q := 49) dX12_letter_48 rfl rfl ?_
      refine zi_getI (q := 52) dX12_letter_49 fl_12_127 (by decide) so_68 rfl ?_
      cases h
      exact zi_ret _ dX12_letter_52
    · replace h := (if_pos hc).symm.trans h
      refine zi_sipush (q := 27) dX12_letter_24 kc_m10004 rfl ?_
      cases h
      exact zi_ret _ dX12_letter_27
  · replace h := (if_pos hc).symm.trans h
    refine zi_sipush (q := 14) dX12_letter_11 kc_m10002 rfl ?_
    cases h
    exact zi_ret _ dX12_letter_14
set_option maxRecDepth 20000 in
theorem r_X11_blank {E : Nat × (Nat → Int32)}  (m : zM) (x : (Int32 × zM)) (h : f_X11_blank  m = some x) : zMet E zX11_blank [.ref 0] zSH m (some (.int x.1)) zSH x.2 := by
  refine zMet.of (L0 := [some (.ref 0), none]) rfl rfl (Nat.le_of_ble_eq_true rfl) rfl ?_
  unfold f_X11_blank at h
  refine zi_aloadn (q := 1) dX11_blank_0 rfl rfl ?_
  refine zi_getA (q := 4) dX11_blank_1 fl_11_10 so_0 rfl rfl ?_
  refine zi_getI (q := 7) dX11_blank_4 fl_11_36 (by decide) so_1 rfl ?_
  refine zi_istoren (q := 8) (L' := [some (.ref 0), some (.int (m.1 1 1))]) dX11_blank_7 (by decide) rfl rfl rfl ?_
  refine zi_aloadn (q := 9) dX11_blank_8 rfl rfl ?_
  refine zi_getA (q := 12) dX11_blank_9 fl_11_10 so_0 rfl rfl ?_
  refine zi_iconst (q := 13) dX11_blank_12 ki_0 rfl ?_
  refine zi_putI (q := 16) dX11_blank_13 pl_11_36 so_1 rfl ?_
  refine zi_iloadn (q := 17) dX11_blank_16 rfl rfl ?_
  cases h
  exact zi_ret _ dX11_blank_17
set_option maxRecDepth 20000 in
theorem r_X12_blank {E : Nat × (Nat → Int32)}  (m : zM) (x : (Int32 × zM)) (h : f_X12_blank  m = some x) : zMet E zX12_blank [.ref 68] zSH m (some (.int x.1)) zSH x.2 := by
  refine zMet.of (L0 := [some (.ref 68), none]) rfl rfl (Nat.le_of_ble_eq_true rfl) rfl ?_
  unfold f_X12_blank at h
  refine zi_aloadn (q := 1) dX12_blank_0 rfl rfl ?_
  refine zi_getI (q := 4) dX12_blank_1 fl_12_127 (by decide) so_68 rfl ?_
  refine zi_istoren (q := 5) (L' := [some (.ref 68), some (.int (m.1 68 0))]) dX12_blank_4 (by decide) rfl rfl rfl ?_
  refine zi_aloadn (q := 6) dX12_blank_5 rfl rfl ?_
  refine zi_iconst (q := 7) dX12_blank_6 ki_0 rfl ?_
  refine zi_putI (q := 10) dX12_blank_7 pl_12_127 so_68 rfl ?_
  refine zi_iloadn (q := 11) dX12_blank_10 rfl rfl ?_
  cases h
  exact zi_ret _ dX12_blank_11
set_option maxRecDepth 20000 in
theorem rb_X2_copyFrom_2 {E : Nat × (Nat → Int32)}   (s : (Int32 × zM)) (rv : Option Value) (m' : zM) (x : ((Int32 × zM) ⊕ (zM))) (h : b_X2_copyFrom_2  s = some x) (KI : ∀ s1 : (Int32 × zM), x = .inl s1 → Rn E zX2_copyFrom 2 [some (.ref 3), some (.ref 19), some (.int s1.1)] [] zSH s1.2 rv zSH m') (KO : ∀ r1 : (zM), x = .inr r1 → Rn E zX2_copyFrom 61 [none, none, none] [] zSH r1 rv zSH m') : Rn E zX2_copyFrom 2 [some (.ref 3), some (.ref 19), some (.int s.1)] [] zSH s.2 rv zSH m' := by
  unfold b_X2_copyFrom_2 at h
  refine zi_iloadn (q := 3) dX2_copyFrom_2 rfl rfl ?_
  refine zi_iconst (q := 4) dX2_copyFrom_3 ki_5 rfl ?_
  refine zi_icmpge (q := 61) (q2 := 7) dX2_copyFrom_4 (by decide) rfl (fun hc => ?_) (fun hc => ?_)
  · replace h := (if_pos hc).symm.trans h
    refine Rn.weakm [false, false, false] ?_
    exact KO s.2 (Option.some.inj h).symm
  · replace h := (if_neg hc).symm.trans h
    refine zi_aloadn (q := 8) dX2_copyFrom_7 rfl rfl ?_
    refine zi_getA (q := 11) dX2_copyFrom_8 fl_2_9 so_3 rfl rfl ?_
    refine zi_iloadn (q := 12) dX2_copyFrom_11 rfl rfl ?_
    refine zi_aloadn (q := 13) dX2_copyFrom_12 rfl rfl ?_
    refine zi_getA (q := 16) dX2_copyFrom_13 fl_2_9 so_19 rfl rfl ?_
    refine zi_iloadn (q := 17) dX2_copyFrom_16 rfl rfl ?_
    obtain ⟨hz1, h⟩ := zg_some h
    refine zi_bald2 (q := 18) dX2_copyFrom_17 so_20 (zin_vp hz1) rfl rfl ?_
    obtain ⟨hz2, h⟩ := zg_some h
    obtain ⟨hz3, h⟩ := zg_some h
    refine zi_bast2 (q := 19) dX2_copyFrom_18 so_4 (zin_vp hz2) rfl hz3 rfl ?_
    refine zi_aloadn (q := 20) dX2_copyFrom_19 rfl rfl ?_
    refine zi_getA (q := 23) dX2_copyFrom_20 fl_2_15 so_3 rfl rfl ?_
    refine zi_iloadn (q := 24) dX2_copyFrom_23 rfl rfl ?_
    refine zi_aloadn (q := 25) dX2_copyFrom_24 rfl rfl ?_
    refine zi_getA (q := 28) dX2_copyFrom_25 fl_2_15 so_19 rfl rfl ?_
    refine zi_iloadn (q := 29) dX2_copyFrom_28 rfl rfl ?_
    obtain ⟨hz4, h⟩ := zg_some h
    refine zi_iald2 (q := 30) dX2_copyFrom_29 so_21 (zin_vp hz4) rfl rfl ?_
    obtain ⟨hz5, h⟩ := zg_some h
    refine zi_iast2 (q := 31) dX2_copyFrom_30 so_5 (zin_vp hz5) rfl rfl ?_
    refine zi_aloadn (q := 32) dX2_copyFrom_31 rfl rfl ?_
    refine zi_getA (q := 35) dX2_copyFrom_32 fl_2_19 so_3 rfl rfl ?_
    refine zi_iloadn (q := 36) dX2_copyFrom_35 rfl rfl ?_
    refine zi_aloadn (q := 37) dX2_copyFrom_36 rfl rfl ?_
    refine zi_getA (q := 40) dX2_copyFrom_37 fl_2_19 so_19 rfl rfl ?_
    refine zi_iloadn (q := 41) dX2_copyFrom_40 rfl rfl ?_
    obtain ⟨hz6, h⟩ := zg_some h
    refine zi_iald2 (q := 42) dX2_copyFrom_41 so_22 (zin_vp hz6) rfl rfl ?_
    obtain ⟨hz7, h⟩ := zg_some h
    refine zi_iast2 (q := 43) dX2_copyFrom_42 so_6 (zin_vp hz7) rfl rfl ?_
    refine zi_aloadn (q := 44) dX2_copyFrom_43 rfl rfl ?_
    refine zi_getA (q := 47) dX2_copyFrom_44 fl_2_22 so_3 rfl rfl ?_
    refine zi_iloadn (q := 48) dX2_copyFrom_47 rfl rfl ?_
    refine zi_aloadn (q := 49) dX2_copyFrom_48 rfl rfl ?_
    refine zi_getA (q := 52) dX2_copyFrom_49 fl_2_22 so_19 rfl rfl ?_
    refine zi_iloadn (q := 53) dX2_copyFrom_52 rfl rfl ?_
    obtain ⟨hz8, h⟩ := zg_some h
    refine zi_iald2 (q := 54) dX2_copyFrom_53 so_23 (zin_vp hz8) rfl rfl ?_
    obtain ⟨hz9, h⟩ := zg_some h
    refine zi_iast2 (q := 55) dX2_copyFrom_54 so_7 (zin_vp hz9) rfl rfl ?_
    refine zi_iinc (q := 58) (v := s.1 + 1) (L' := [some (.ref 3), some (.ref 19), some (.int (s.1 + 1))]) dX2_copyFrom_55 rfl (by rw [ki_1]) (by decide) rfl rfl rfl ?_
    refine zi_goto (q := 2) dX2_copyFrom_58 (by decide) ?_
    exact KI ((s.1 + 1), (zi (zi (zi (zi s.2 4 s.1.toNatClampNeg (s.2.1 20 s.1.toNatClampNeg)) 5 s.1.toNatClampNeg (s.2.1 21 s.1.toNatClampNeg)) 6 s.1.toNatClampNeg (s.2.1 22 s.1.toNatClampNeg)) 7 s.1.toNatClampNeg (s.2.1 23 s.1.toNatClampNeg))) (Option.some.inj h).symm
set_option maxRecDepth 20000 in
theorem r_X2_copyFrom {E : Nat × (Nat → Int32)}  (m : zM) (x : zM) (h : f_X2_copyFrom  m = some x) : zMet E zX2_copyFrom [.ref 3, .ref 19] zSH m none zSH x := by
  refine zMet.of (L0 := [some (.ref 3), some (.ref 19), none]) rfl trivial (Nat.le_of_ble_eq_true rfl) rfl ?_
  unfold f_X2_copyFrom at h
  refine zi_iconst (q := 1) dX2_copyFrom_0 ki_0 rfl ?_
  refine zi_istoren (q := 2) (L' := [some (.ref 3), some (.ref 19), some (.int 0)]) dX2_copyFrom_1 (by decide) rfl rfl rfl ?_
  obtain ⟨r10, hr10, h⟩ := Option.bind_eq_some_iff.mp h
  refine zloop_rn (P := fun w : (Int32 × zM) => Rn E zX2_copyFrom 2 [some (.ref 3), some (.ref 19), some (.int w.1)] [] zSH w.2 none zSH x) (X := fun w : (zM) => Rn E zX2_copyFrom 61 [none, none, none] [] zSH w none zSH x) (fun w w0 hb KI KX => rb_X2_copyFrom_2  w _ _ w0 hb KI KX) zFU _ r10 hr10 ?_
  show Rn E zX2_copyFrom 61 [none, none, none] [] zSH r10 none zSH x
  cases h
  exact zi_ret _ dX2_copyFrom_61
set_option maxRecDepth 20000 in
theorem r_X5_codeHere {E : Nat × (Nat → Int32)}  (m : zM) (x : Int32) (h : f_X5_codeHere  m = some x) : zMet E zX5_codeHere [.ref 1] zSH m (some (.int x)) zSH m := by
  refine zMet.of (L0 := [some (.ref 1)]) rfl rfl (Nat.le_of_ble_eq_true rfl) rfl ?_
  unfold f_X5_codeHere at h
  refine zi_aloadn (q := 1) dX5_codeHere_0 rfl rfl ?_
  refine zi_getI (q := 4) dX5_codeHere_1 fl_5_44 (by decide) so_1 rfl ?_
  refine zi_aloadn (q := 5) dX5_codeHere_4 rfl rfl ?_
  refine zi_getI (q := 8) dX5_codeHere_5 fl_5_22 (by decide) so_1 rfl ?_
  refine zi_icmpge (q := 23) (q2 := 11) dX5_codeHere_8 (by decide) rfl (fun hc => ?_) (fun hc => ?_)
  · replace h := (if_pos hc).symm.trans h
    refine zi_iconst (q := 24) dX5_codeHere_23 ki_m1 rfl ?_
    cases h
    exact zi_ret _ dX5_codeHere_24
  · replace h := (if_neg hc).symm.trans h
    refine zi_aloadn (q := 12) dX5_codeHere_11 rfl rfl ?_
    refine zi_getA (q := 15) dX5_codeHere_12 fl_5_9 so_1 rfl rfl ?_
    refine zi_aloadn (q := 16) dX5_codeHere_15 rfl rfl ?_
    refine zi_getI (q := 19) dX5_codeHere_16 fl_5_44 (by decide) so_1 rfl ?_
    obtain ⟨hz1, h⟩ := zg_some h
    refine zi_iald2 (q := 20) dX5_codeHere_19 so_2 (zin_vp hz1) rfl rfl ?_
    refine zi_goto (q := 24) dX5_codeHere_20 (by decide) ?_
    cases h
    exact zi_ret _ dX5_codeHere_24
set_option maxRecDepth 20000 in
theorem r_X5_digitHere {E : Nat × (Nat → Int32)}  (m : zM) (x : Int32) (h : f_X5_digitHere  m = some x) : zMet E zX5_digitHere [.ref 1] zSH m (some (.int x)) zSH m := by
  refine zMet.of (L0 := [some (.ref 1), none]) rfl rfl (Nat.le_of_ble_eq_true rfl) rfl ?_
  unfold f_X5_digitHere at h
  refine zi_aloadn (q := 1) dX5_digitHere_0 rfl rfl ?_
  obtain ⟨r1, hr1, h⟩ := Option.bind_eq_some_iff.mp h
  refine zc_V2 (q := 4) (st := []) (S1 := [.int r1]) (r_X5_codeHere  _ r1 hr1) dX5_digitHere_1 cb_X5_codeHere k2_205 k2_207 ks_X5_codeHere ⟨by decide, by decide⟩ so_1 rfl rfl rfl (Nat.le_of_ble_eq_true rfl) (Or.inl rfl) rfl rfl ?_
  refine zi_istoren (q := 5) (L' := [some (.ref 1), some (.int r1)]) dX5_digitHere_4 (by decide) rfl rfl rfl ?_
  refine zi_iloadn (q := 6) dX5_digitHere_5 rfl rfl ?_
  refine zi_bipush (q := 8) dX5_digitHere_6 kb_48 rfl ?_
  refine zi_bipush (q := 10) dX5_digitHere_8 kb_57 rfl ?_
  obtain ⟨r2, hr2, h⟩ := Option.bind_eq_some_iff.mp h
  refine zc_SN2 (q := 13) (st := []) (S1 := [.int (bi r2)]) (r_X11_within r1 48 57 _ r2 hr2) dX5_digitHere_10 cb_X11_within zn_5_59 k2_175 ⟨by decide, by decide⟩ rfl (Nat.le_of_ble_eq_true rfl) (Or.inl rfl) rfl rfl ?_
  refine zi_ifeq (q := 23) (q2 := 16) dX5_digitHere_13 (by decide) rfl (fun hc => ?_) (fun hc => ?_)
  · replace h := (if_pos hc).symm.trans h
    refine zi_iconst (q := 24) dX5_digitHere_23 ki_m1 rfl ?_
    cases h
    exact zi_ret _ dX5_digitHere_24
  · replace h := (if_neg hc).symm.trans h
    refine zi_iloadn (q := 17) dX5_digitHere_16 rfl rfl ?_
    refine zi_bipush (q := 19) dX5_digitHere_17 kb_48 rfl ?_
    refine zi_isub (q := 20) dX5_digitHere_19 rfl ?_
    refine zi_goto (q := 24) dX5_digitHere_20 (by decide) ?_
    cases h
    exact zi_ret _ dX5_digitHere_24
set_option maxRecDepth 20000 in
theorem r_X5_take {E : Nat × (Nat → Int32)} (x1 : Int32) (m : zM) (x : (Bool × zM)) (h : f_X5_take x1 m = some x) : zMet E zX5_take [.ref 1, .int x1] zSH m (some (.int (bi x.1))) zSH x.2 := by
  refine zMet.of (L0 := [some (.ref 1), some (.int x1)]) rfl (zfit_bi _) (Nat.le_of_ble_eq_true rfl) rfl ?_
  unfold f_X5_take at h
  refine zi_aloadn (q := 1) dX5_take_0 rfl rfl ?_
  obtain ⟨r1, hr1, h⟩ := Option.bind_eq_some_iff.mp h
  refine zc_V2 (q := 4) (st := []) (S1 := [.int r1]) (r_X5_codeHere  _ r1 hr1) dX5_take_1 cb_X5_codeHere k2_205 k2_207 ks_X5_codeHere ⟨by decide, by decide⟩ so_1 rfl rfl rfl (Nat.le_of_ble_eq_true rfl) (Or.inl rfl) rfl rfl ?_
  refine zi_iloadn (q := 5) dX5_take_4 rfl rfl ?_
  refine zi_icmpeq (q := 10) (q2 := 8) dX5_take_5 (by decide) rfl (fun hc => ?_) (fun hc => ?_)
  · replace h := (if_pos hc).symm.trans h
    refine zi_aloadn (q := 11) dX5_take_10 rfl rfl ?_
    refine zi_dup (q := 12) dX5_take_11 rfl rfl ?_
    refine zi_getI (q := 15) dX5_take_12 fl_5_44 (by decide) so_1 rfl ?_
    refine zi_iconst (q := 16) dX5_take_15 ki_1 rfl ?_
    refine zi_iadd (q := 17) dX5_take_16 rfl ?_
    refine zi_putI (q := 20) dX5_take_17 pl_5_44 so_1 rfl ?_
    refine zi_iconst (q := 21) dX5_take_20 ki_1 rfl ?_
    cases h
    exact zi_ret _ dX5_take_21
  · replace h := (if_neg hc).symm.trans h
    refine zi_iconst (q := 9) dX5_take_8 ki_0 rfl ?_
    cases h
    exact zi_ret _ dX5_take_9
set_option maxRecDepth 20000 in
theorem rj_X5_readNumber_44 {E : Nat × (Nat → Int32)} (x1 : Int32) (x2 : Int32) (x3 : Int32) (x4 : Int32) (s0 : Int32) (m : zM) (rv : Option Value) (m' : zM) (x : ((Int32 × Int32 × zM) ⊕ ((Int32 × zM) ⊕ (Int32 × zM)))) (h : j_X5_readNumber_44 x1 x2 x3 x4 s0 m = some x) (KI : ∀ s1 : (Int32 × Int32 × zM), x = .inl s1 → Rn E zX5_readNumber 5 [some (.ref 1), some (.int x1), some (.int x2), some (.int s1.1), some (.int s1.2.1), none, none] [] zSH s1.2.2 rv zSH m') (KR : ∀ v : (Int32 × zM), x = .inr (.inr v) → rv = some (.int v.1) ∧ m' = v.2) : Rn E zX5_readNumber 44 [some (.ref 1), some (.int x1), some (.int x2), some (.int x3), some (.int x4), none, none] [.int s0] zSH m rv zSH m' := by
  unfold j_X5_readNumber_44 at h
  refine zi_istore (q := 46) (L' := [some (.ref 1), some (.int x1), some (.int x2), some (.int x3), some (.int x4), none, some (.int s0)]) dX5_readNumber_44 (by decide) rfl rfl rfl ?_
  refine zi_iloadn (q := 47) dX5_readNumber_46 rfl rfl ?_
  refine zi_ifeq (q := 56) (q2 := 50) dX5_readNumber_47 (by decide) rfl (fun hc => ?_) (fun hc => ?_)
  · replace h := (if_pos hc).symm.trans h
    refine zi_iconst (q := 57) dX5_readNumber_56 ki_m1 rfl ?_
    obtain ⟨e1, e2⟩ := KR _ (Option.some.inj h).symm
    rw [e1, e2]
    exact zi_ret _ dX5_readNumber_57
  · replace h := (if_neg hc).symm.trans h
    refine zi_iload (q := 52) dX5_readNumber_50 rfl rfl ?_
    refine zi_iloadn (q := 53) dX5_readNumber_52 rfl rfl ?_
    refine zi_icmple (q := 58) (q2 := 56) dX5_readNumber_53 (by decide) rfl (fun hc => ?_) (fun hc => ?_)
    · replace h := (if_pos hc).symm.trans h
      refine zi_iload (q := 60) dX5_readNumber_58 rfl rfl ?_
      refine zi_istoren (q := 61) (L' := [some (.ref 1), some (.int x1), some (.int x2), some (.int s0), some (.int x4), none, some (.int s0)]) dX5_readNumber_60 (by decide) rfl rfl rfl ?_
      refine zi_aloadn (q := 62) dX5_readNumber_61 rfl rfl ?_
      refine zi_dup (q := 63) dX5_readNumber_62 rfl rfl ?_
      refine zi_getI (q := 66) dX5_readNumber_63 fl_5_44 (by decide) so_1 rfl ?_
      refine zi_iconst (q := 67) dX5_readNumber_66 ki_1 rfl ?_
      refine zi_iadd (q := 68) dX5_readNumber_67 rfl ?_
      refine zi_putI (q := 71) dX5_readNumber_68 pl_5_44 so_1 rfl ?_
      refine zi_iinc (q := 74) (v := x4 + 1) (L' := [some (.ref 1), some (.int x1), some (.int x2), some (.int s0), some (.int (x4 + 1)), none, some (.int s0)]) dX5_readNumber_71 rfl (by rw [ki_1]) (by decide) rfl rfl rfl ?_
      refine zi_goto (q := 5) dX5_readNumber_74 (by decide) ?_
      refine Rn.weakm [true, true, true, true, true, false, false] ?_
      exact KI (s0, (x4 + 1), (zi m 1 3 ((m.1 1 3) + 1))) (Option.some.inj h).symm
    · replace h := (if_neg hc).symm.trans h
      refine zi_iconst (q := 57) dX5_readNumber_56 ki_m1 rfl ?_
      obtain ⟨e1, e2⟩ := KR _ (Option.some.inj h).symm
      rw [e1, e2]
      exact zi_ret _ dX5_readNumber_57
set_option maxRecDepth 20000 in
theorem rb_X5_readNumber_5 {E : Nat × (Nat → Int32)} (x1 : Int32) (x2 : Int32)  (s : (Int32 × Int32 × zM)) (rv : Option Value) (m' : zM) (x : ((Int32 × Int32 × zM) ⊕ ((Int32 × zM) ⊕ (Int32 × zM)))) (h : b_X5_readNumber_5 x1 x2 s = some x) (KI : ∀ s1 : (Int32 × Int32 × zM), x = .inl s1 → Rn E zX5_readNumber 5 [some (.ref 1), some (.int x1), some (.int x2), some (.int s1.1), some (.int s1.2.1), none, none] [] zSH s1.2.2 rv zSH m') (KO : ∀ r1 : (Int32 × zM), x = .inr (.inl r1) → Rn E zX5_readNumber 77 [none, some (.int x1), none, some (.int r1.1), none, none, none] [] zSH r1.2 rv zSH m') (KR : ∀ v : (Int32 × zM), x = .inr (.inr v) → rv = some (.int v.1) ∧ m' = v.2) : Rn E zX5_readNumber 5 [some (.ref 1), some (.int x1), some (.int x2), some (.int s.1), some (.int s.2.1), none, none] [] zSH s.2.2 rv zSH m' := by
  unfold b_X5_readNumber_5 at h
  refine zi_iload (q := 7) dX5_readNumber_5 rfl rfl ?_
  refine zi_bipush (q := 9) dX5_readNumber_7 kb_40 rfl ?_
  refine zi_icmpge (q := 77) (q2 := 12) dX5_readNumber_9 (by decide) rfl (fun hc => ?_) (fun hc => ?_)
  · replace h := (if_pos hc).symm.trans h
    refine Rn.weakm [false, true, false, true, false, false, false] ?_
    exact KO (s.1, s.2.2) (Option.some.inj h).symm
  · replace h := (if_neg hc).symm.trans h
    refine zi_aloadn (q := 13) dX5_readNumber_12 rfl rfl ?_
    obtain ⟨r1, hr1, h⟩ := Option.bind_eq_some_iff.mp h
    refine zc_V2 (q := 16) (st := []) (S1 := [.int r1]) (r_X5_digitHere  _ r1 hr1) dX5_readNumber_13 cb_X5_digitHere k2_201 k2_203 ks_X5_digitHere ⟨by decide, by decide⟩ so_1 rfl rfl rfl (Nat.le_of_ble_eq_true rfl) (Or.inl rfl) rfl rfl ?_
    refine zi_istore (q := 18) (L' := [some (.ref 1), some (.int x1), some (.int x2), some (.int s.1), some (.int s.2.1), some (.int r1), none]) dX5_readNumber_16 (by decide) rfl rfl rfl ?_
    refine zi_iload (q := 20) dX5_readNumber_18 rfl rfl ?_
    refine zi_iconst (q := 21) dX5_readNumber_20 ki_m1 rfl ?_
    refine zi_icmpne (q := 27) (q2 := 24) dX5_readNumber_21 (by decide) rfl (fun hc => ?_) (fun hc => ?_)
    · replace h := (if_neg hc).symm.trans h
      refine zi_iloadn (q := 28) dX5_readNumber_27 rfl rfl ?_
      refine zi_iconst (q := 29) dX5_readNumber_28 ki_m1 rfl ?_
      refine zi_icmpne (q := 37) (q2 := 32) dX5_readNumber_29 (by decide) rfl (fun hc => ?_) (fun hc => ?_)
      · replace h := (if_neg hc).symm.trans h
        refine zi_bipush (q := 39) dX5_readNumber_37 kb_10 rfl ?_
        refine zi_iloadn (q := 40) dX5_readNumber_39 rfl rfl ?_
        refine zi_imul (q := 41) dX5_readNumber_40 rfl ?_
        refine zi_iload (q := 43) dX5_readNumber_41 rfl rfl ?_
        refine zi_iadd (q := 44) dX5_readNumber_43 rfl ?_
        refine Rn.weakm [true, true, true, true, true, false, false] ?_
        exact rj_X5_readNumber_44 x1 x2 s.1 s.2.1 ((10 * s.1) + r1) _ _ _ _ h KI KR
      · replace h := (if_pos hc).symm.trans h
        refine zi_iload (q := 34) dX5_readNumber_32 rfl rfl ?_
        refine zi_goto (q := 44) dX5_readNumber_34 (by decide) ?_
        refine Rn.weakm [true, true, true, true, true, false, false] ?_
        exact rj_X5_readNumber_44 x1 x2 s.1 s.2.1 r1 _ _ _ _ h KI KR
    · replace h := (if_pos hc).symm.trans h
      refine zi_goto (q := 77) dX5_readNumber_24 (by decide) ?_
      refine Rn.weakm [false, true, false, true, false, false, false] ?_
      exact KO (s.1, s.2.2) (Option.some.inj h).symm
set_option maxRecDepth 20000 in
theorem rj_X5_readNumber_77 {E : Nat × (Nat → Int32)} (x1 : Int32) (x3 : Int32) (m : zM)  (x : (Int32 × zM)) (h : j_X5_readNumber_77 x1 x3 m = some x) : Rn E zX5_readNumber 77 [none, some (.int x1), none, some (.int x3), none, none, none] [] zSH m (some (.int x.1)) zSH x.2 := by
  unfold j_X5_readNumber_77 at h
  refine zi_iloadn (q := 78) dX5_readNumber_77 rfl rfl ?_
  refine zi_iloadn (q := 79) dX5_readNumber_78 rfl rfl ?_
  refine zi_icmpge (q := 86) (q2 := 82) dX5_readNumber_79 (by decide) rfl (fun hc => ?_) (fun hc => ?_)
  · replace h := (if_pos hc).symm.trans h
    refine zi_iloadn (q := 87) dX5_readNumber_86 rfl rfl ?_
    cases h
    exact zi_ret _ dX5_readNumber_87
  · replace h := (if_neg hc).symm.trans h
    refine zi_iconst (q := 83) dX5_readNumber_82 ki_m1 rfl ?_
    refine zi_goto (q := 87) dX5_readNumber_83 (by decide) ?_
    cases h
    exact zi_ret _ dX5_readNumber_87
set_option maxRecDepth 20000 in
theorem r_X5_readNumber {E : Nat × (Nat → Int32)} (x1 : Int32) (x2 : Int32) (m : zM) (x : (Int32 × zM)) (h : f_X5_readNumber x1 x2 m = some x) : zMet E zX5_readNumber [.ref 1, .int x1, .int x2] zSH m (some (.int x.1)) zSH x.2 := by
  refine zMet.of (L0 := [some (.ref 1), some (.int x1), some (.int x2), none, none, none, none]) rfl rfl (Nat.le_of_ble_eq_true rfl) rfl ?_
  unfold f_X5_readNumber at h
  refine zi_iconst (q := 1) dX5_readNumber_0 ki_m1 rfl ?_
  refine zi_istoren (q := 2) (L' := [some (.ref 1), some (.int x1), some (.int x2), some (.int (-1)), none, none, none]) dX5_readNumber_1 (by decide) rfl rfl rfl ?_
  refine zi_iconst (q := 3) dX5_readNumber_2 ki_0 rfl ?_
  refine zi_istore (q := 5) (L' := [some (.ref 1), some (.int x1), some (.int x2), some (.int (-1)), some (.int 0), none, none]) dX5_readNumber_3 (by decide) rfl rfl rfl ?_
  obtain ⟨r2, hr2, h⟩ := Option.bind_eq_some_iff.mp h
  refine zloop_rn (P := fun w : (Int32 × Int32 × zM) => Rn E zX5_readNumber 5 [some (.ref 1), some (.int x1), some (.int x2), some (.int w.1), some (.int w.2.1), none, none] [] zSH w.2.2 (some (.int x.1)) zSH x.2) (X := Sum.elim (fun w : (Int32 × zM) => Rn E zX5_readNumber 77 [none, some (.int x1), none, some (.int w.1), none, none, none] [] zSH w.2 (some (.int x.1)) zSH x.2) (fun v : (Int32 × zM) => (some (Value.int x.1)) = some (Value.int v.1) ∧ x.2 = v.2)) (fun w w0 hb KI KX => rb_X5_readNumber_5 x1 x2 w _ _ w0 hb KI (fun w1 e => KX (.inl w1) e) (fun w1 e => KX (.inr w1) e)) zFU _ r2 hr2 ?_
  rcases r2 with r2 | v3
  · replace h := (zelim_l).symm.trans h
    show Rn E zX5_readNumber 77 [none, some (.int x1), none, some (.int r2.1), none, none, none] [] zSH r2.2 (some (.int x.1)) zSH x.2
    exact rj_X5_readNumber_77 x1 r2.1 _ _ h
  · replace h := (zelim_r).symm.trans h
    cases h
    exact ⟨rfl, rfl⟩
set_option maxRecDepth 20000 in
theorem r_X2_put {E : Nat × (Nat → Int32)} (x1 : Int32) (x2 : Int32) (x3 : Int32) (x4 : Int32) (m : zM) (x : zM) (h : f_X2_put x1 x2 x3 x4 m = some x) : zMet E zX2_put [.ref 3, .int x1, .int x2, .int x3, .int x4] zSH m none zSH x := by
  refine zMet.of (L0 := [some (.ref 3), some (.int x1), some (.int x2), some (.int x3), some (.int x4)]) rfl trivial (Nat.le_of_ble_eq_true rfl) rfl ?_
  unfold f_X2_put at h
  refine zi_aloadn (q := 1) dX2_put_0 rfl rfl ?_
  refine zi_getA (q := 4) dX2_put_1 fl_2_9 so_3 rfl rfl ?_
  refine zi_iloadn (q := 5) dX2_put_4 rfl rfl ?_
  refine zi_iconst (q := 6) dX2_put_5 ki_1 rfl ?_
  obtain ⟨hz1, h⟩ := zg_some h
  refine zi_bast2 (q := 7) dX2_put_6 so_4 (zin_vp hz1) rfl rfl rfl ?_
  refine zi_aloadn (q := 8) dX2_put_7 rfl rfl ?_
  refine zi_getA (q := 11) dX2_put_8 fl_2_15 so_3 rfl rfl ?_
  refine zi_iloadn (q := 12) dX2_put_11 rfl rfl ?_
  refine zi_iloadn (q := 13) dX2_put_12 rfl rfl ?_
  obtain ⟨hz2, h⟩ := zg_some h
  refine zi_iast2 (q := 14) dX2_put_13 so_5 (zin_vp hz2) rfl rfl ?_
  refine zi_aloadn (q := 15) dX2_put_14 rfl rfl ?_
  refine zi_getA (q := 18) dX2_put_15 fl_2_19 so_3 rfl rfl ?_
  refine zi_iloadn (q := 19) dX2_put_18 rfl rfl ?_
  refine zi_iloadn (q := 20) dX2_put_19 rfl rfl ?_
  obtain ⟨hz3, h⟩ := zg_some h
  refine zi_iast2 (q := 21) dX2_put_20 so_6 (zin_vp hz3) rfl rfl ?_
  refine zi_aloadn (q := 22) dX2_put_21 rfl rfl ?_
  refine zi_getA (q := 25) dX2_put_22 fl_2_22 so_3 rfl rfl ?_
  refine zi_iloadn (q := 26) dX2_put_25 rfl rfl ?_
  refine zi_iload (q := 28) dX2_put_26 rfl rfl ?_
  obtain ⟨hz4, h⟩ := zg_some h
  refine zi_iast2 (q := 29) dX2_put_28 so_7 (zin_vp hz4) rfl rfl ?_
  cases h
  exact zi_ret _ dX2_put_29
set_option maxRecDepth 20000 in
theorem r_X5_readPlace {E : Nat × (Nat → Int32)} (x1 : Int32) (m : zM) (x : (Bool × zM)) (h : f_X5_readPlace x1 m = some x) : zMet E zX5_readPlace [.ref 1, .int x1] zSH m (some (.int (bi x.1))) zSH x.2 := by
  refine zMet.of (L0 := [some (.ref 1), some (.int x1), none, none, none]) rfl (zfit_bi _) (Nat.le_of_ble_eq_true rfl) rfl ?_
  unfold f_X5_readPlace at h
  refine zi_aloadn (q := 1) dX5_readPlace_0 rfl rfl ?_
  refine zi_iconst (q := 2) dX5_readPlace_1 ki_0 rfl ?_
  refine zi_aloadn (q := 3) dX5_readPlace_2 rfl rfl ?_
  refine zi_getI (q := 6) dX5_readPlace_3 fl_5_31 (by decide) so_1 rfl ?_
  obtain ⟨r1, hr1, h⟩ := Option.bind_eq_some_iff.mp h
  refine zc_V2 (q := 9) (st := []) (S1 := [.int r1.1]) (r_X5_readNumber 0 (m.1 1 4) _ r1 hr1) dX5_readPlace_6 cb_X5_readNumber k2_218 k2_220 ks_X5_readNumber ⟨by decide, by decide⟩ so_1 rfl rfl rfl (Nat.le_of_ble_eq_true rfl) (Or.inl rfl) rfl rfl ?_
  refine zi_istoren (q := 10) (L' := [some (.ref 1), some (.int x1), some (.int r1.1), none, none]) dX5_readPlace_9 (by decide) rfl rfl rfl ?_
  refine zi_iloadn (q := 11) dX5_readPlace_10 rfl rfl ?_
  refine zi_iconst (q := 12) dX5_readPlace_11 ki_m1 rfl ?_
  refine zi_icmpeq (q := 24) (q2 := 15) dX5_readPlace_12 (by decide) rfl (fun hc => ?_) (fun hc => ?_)
  · replace h := (if_pos hc).symm.trans h
    refine zi_iconst (q := 25) dX5_readPlace_24 ki_0 rfl ?_
    cases h
    exact zi_ret _ dX5_readPlace_25
  · replace h := (if_neg hc).symm.trans h
    refine zi_aloadn (q := 16) dX5_readPlace_15 rfl rfl ?_
    refine zi_bipush (q := 18) dX5_readPlace_16 kb_44 rfl ?_
    obtain ⟨r2, hr2, h⟩ := Option.bind_eq_some_iff.mp h
    refine zc_V2 (q := 21) (st := []) (S1 := [.int (bi r2.1)]) (r_X5_take 44 _ r2 hr2) dX5_readPlace_18 cb_X5_take k2_210 k2_212 ks_X5_take ⟨by decide, by decide⟩ so_1 rfl rfl rfl (Nat.le_of_ble_eq_true rfl) (Or.inl rfl) rfl rfl ?_
    refine zi_ifne (q := 26) (q2 := 24) dX5_readPlace_21 (by decide) rfl (fun hc => ?_) (fun hc => ?_)
    · replace h := (if_neg hc).symm.trans h
      refine zi_aloadn (q := 27) dX5_readPlace_26 rfl rfl ?_
      refine zi_iconst (q := 28) dX5_readPlace_27 ki_0 rfl ?_
      refine zi_aloadn (q := 29) dX5_readPlace_28 rfl rfl ?_
      refine zi_getI (q := 32) dX5_readPlace_29 fl_5_37 (by decide) so_1 rfl ?_
      obtain ⟨r3, hr3, h⟩ := Option.bind_eq_some_iff.mp h
      refine zc_V2 (q := 35) (st := []) (S1 := [.int r3.1]) (r_X5_readNumber 0 (r2.2.1 1 5) _ r3 hr3) dX5_readPlace_32 cb_X5_readNumber k2_218 k2_220 ks_X5_readNumber ⟨by decide, by decide⟩ so_1 rfl rfl rfl (Nat.le_of_ble_eq_true rfl) (Or.inl rfl) rfl rfl ?_
      refine zi_istoren (q := 36) (L' := [some (.ref 1), some (.int x1), some (.int r1.1), some (.int r3.1), none]) dX5_readPlace_35 (by decide) rfl rfl rfl ?_
      refine zi_iloadn (q := 37) dX5_readPlace_36 rfl rfl ?_
      refine zi_iconst (q := 38) dX5_readPlace_37 ki_m1 rfl ?_
      refine zi_icmpeq (q := 50) (q2 := 41) dX5_readPlace_38 (by decide) rfl (fun hc => ?_) (fun hc => ?_)
      · replace h := (if_pos hc).symm.trans h
        refine zi_iconst (q := 51) dX5_readPlace_50 ki_0 rfl ?_
        cases h
        exact zi_ret _ dX5_readPlace_51
      · replace h := (if_neg hc).symm.trans h
        refine zi_aloadn (q := 42) dX5_readPlace_41 rfl rfl ?_
        refine zi_bipush (q := 44) dX5_readPlace_42 kb_42 rfl ?_
        obtain ⟨r4, hr4, h⟩ := Option.bind_eq_some_iff.mp h
        refine zc_V2 (q := 47) (st := []) (S1 := [.int (bi r4.1)]) (r_X5_take 42 _ r4 hr4) dX5_readPlace_44 cb_X5_take k2_210 k2_212 ks_X5_take ⟨by decide, by decide⟩ so_1 rfl rfl rfl (Nat.le_of_ble_eq_true rfl) (Or.inl rfl) rfl rfl ?_
        refine zi_ifne (q := 52) (q2 := 50) dX5_readPlace_47 (by decide) rfl (fun hc => ?_) (fun hc => ?_)
        · replace h := (if_neg hc).symm.trans h
          refine zi_aloadn (q := 53) dX5_readPlace_52 rfl rfl ?_
          refine zi_bipush (q := 55) dX5_readPlace_53 kb_10 rfl ?_
          refine zi_sipush (q := 58) dX5_readPlace_55 kc_250 rfl ?_
          obtain ⟨r5, hr5, h⟩ := Option.bind_eq_some_iff.mp h
          refine zc_V2 (q := 61) (st := []) (S1 := [.int r5.1]) (r_X5_readNumber 10 250 _ r5 hr5) dX5_readPlace_58 cb_X5_readNumber k2_218 k2_220 ks_X5_readNumber ⟨by decide, by decide⟩ so_1 rfl rfl rfl (Nat.le_of_ble_eq_true rfl) (Or.inl rfl) rfl rfl ?_
          refine zi_istore (q := 63) (L' := [some (.ref 1), some (.int x1), some (.int r1.1), some (.int r3.1), some (.int r5.1)]) dX5_readPlace_61 (by decide) rfl rfl rfl ?_
          refine zi_iload (q := 65) dX5_readPlace_63 rfl rfl ?_
          refine zi_iconst (q := 66) dX5_readPlace_65 ki_m1 rfl ?_
          refine zi_icmpne (q := 71) (q2 := 69) dX5_readPlace_66 (by decide) rfl (fun hc => ?_) (fun hc => ?_)
          · replace h := (if_neg hc).symm.trans h
            refine zi_aloadn (q := 72) dX5_readPlace_71 rfl rfl ?_
            refine zi_getA (q := 75) dX5_readPlace_72 fl_5_18 so_1 rfl rfl ?_
            refine zi_iloadn (q := 76) dX5_readPlace_75 rfl rfl ?_
            refine zi_iloadn (q := 77) dX5_readPlace_76 rfl rfl ?_
            refine zi_iloadn (q := 78) dX5_readPlace_77 rfl rfl ?_
            refine zi_iload (q := 80) dX5_readPlace_78 rfl rfl ?_
            obtain ⟨m6, hm6, h⟩ := Option.bind_eq_some_iff.mp h
            refine zc_V2 (q := 83) (st := []) (S1 := []) (r_X2_put x1 r1.1 r3.1 r5.1 _ m6 hm6) dX5_readPlace_80 cb_X2_put k2_222 k2_223 k2_224 ⟨by decide, by decide⟩ so_3 rfl rfl rfl (Nat.le_of_ble_eq_true rfl) (Or.inl rfl) rfl rfl ?_
            refine zi_iconst (q := 84) dX5_readPlace_83 ki_1 rfl ?_
            cases h
            exact zi_ret _ dX5_readPlace_84
          · replace h := (if_pos hc).symm.trans h
            refine zi_iconst (q := 70) dX5_readPlace_69 ki_0 rfl ?_
            cases h
            exact zi_ret _ dX5_readPlace_70
        · replace h := (if_pos hc).symm.trans h
          refine zi_iconst (q := 51) dX5_readPlace_50 ki_0 rfl ?_
          cases h
          exact zi_ret _ dX5_readPlace_51
    · replace h := (if_pos hc).symm.trans h
      refine zi_iconst (q := 25) dX5_readPlace_24 ki_0 rfl ?_
      cases h
      exact zi_ret _ dX5_readPlace_25
set_option maxRecDepth 20000 in
theorem r_X5_readPart {E : Nat × (Nat → Int32)}  (m : zM) (x : (Bool × zM)) (h : f_X5_readPart  m = some x) : zMet E zX5_readPart [.ref 1] zSH m (some (.int (bi x.1))) zSH x.2 := by
  refine zMet.of (L0 := [some (.ref 1), none]) rfl (zfit_bi _) (Nat.le_of_ble_eq_true rfl) rfl ?_
  unfold f_X5_readPart at h
  refine zi_aloadn (q := 1) dX5_readPart_0 rfl rfl ?_
  obtain ⟨r1, hr1, h⟩ := Option.bind_eq_some_iff.mp h
  refine zc_V2 (q := 4) (st := []) (S1 := [.int r1]) (r_X5_digitHere  _ r1 hr1) dX5_readPart_1 cb_X5_digitHere k2_201 k2_203 ks_X5_digitHere ⟨by decide, by decide⟩ so_1 rfl rfl rfl (Nat.le_of_ble_eq_true rfl) (Or.inl rfl) rfl rfl ?_
  refine zi_istoren (q := 5) (L' := [some (.ref 1), some (.int r1)]) dX5_readPart_4 (by decide) rfl rfl rfl ?_
  refine zi_iloadn (q := 6) dX5_readPart_5 rfl rfl ?_
  refine zi_iconst (q := 7) dX5_readPart_6 ki_0 rfl ?_
  refine zi_iconst (q := 8) dX5_readPart_7 ki_4 rfl ?_
  obtain ⟨r2, hr2, h⟩ := Option.bind_eq_some_iff.mp h
  refine zc_SN2 (q := 11) (st := []) (S1 := [.int (bi r2)]) (r_X11_within r1 0 4 _ r2 hr2) dX5_readPart_8 cb_X11_within zn_5_59 k2_175 ⟨by decide, by decide⟩ rfl (Nat.le_of_ble_eq_true rfl) (Or.inl rfl) rfl rfl ?_
  refine zi_ifne (q := 16) (q2 := 14) dX5_readPart_11 (by decide) rfl (fun hc => ?_) (fun hc => ?_)
  · replace h := (if_neg hc).symm.trans h
    refine zi_aloadn (q := 17) dX5_readPart_16 rfl rfl ?_
    refine zi_dup (q := 18) dX5_readPart_17 rfl rfl ?_
    refine zi_getI (q := 21) dX5_readPart_18 fl_5_44 (by decide) so_1 rfl ?_
    refine zi_iconst (q := 22) dX5_readPart_21 ki_1 rfl ?_
    refine zi_iadd (q := 23) dX5_readPart_22 rfl ?_
    refine zi_putI (q := 26) dX5_readPart_23 pl_5_44 so_1 rfl ?_
    refine zi_aloadn (q := 27) dX5_readPart_26 rfl rfl ?_
    refine zi_bipush (q := 29) dX5_readPart_27 kb_45 rfl ?_
    obtain ⟨r3, hr3, h⟩ := Option.bind_eq_some_iff.mp h
    refine zc_V2 (q := 32) (st := []) (S1 := [.int (bi r3.1)]) (r_X5_take 45 _ r3 hr3) dX5_readPart_29 cb_X5_take k2_210 k2_212 ks_X5_take ⟨by decide, by decide⟩ so_1 rfl rfl rfl (Nat.le_of_ble_eq_true rfl) (Or.inl rfl) rfl rfl ?_
    refine zi_ifeq (q := 47) (q2 := 35) dX5_readPart_32 (by decide) rfl (fun hc => ?_) (fun hc => ?_)
    · replace h := (if_pos hc).symm.trans h
      refine zi_aloadn (q := 48) dX5_readPart_47 rfl rfl ?_
      refine zi_bipush (q := 50) dX5_readPart_48 kb_64 rfl ?_
      obtain ⟨r4, hr4, h⟩ := Option.bind_eq_some_iff.mp h
      refine zc_V2 (q := 53) (st := []) (S1 := [.int (bi r4.1)]) (r_X5_take 64 _ r4 hr4) dX5_readPart_50 cb_X5_take k2_210 k2_212 ks_X5_take ⟨by decide, by decide⟩ so_1 rfl rfl rfl (Nat.le_of_ble_eq_true rfl) (Or.inl rfl) rfl rfl ?_
      refine zi_ifeq (q := 68) (q2 := 56) dX5_readPart_53 (by decide) rfl (fun hc => ?_) (fun hc => ?_)
      · replace h := (if_pos hc).symm.trans h
        refine zi_iconst (q := 69) dX5_readPart_68 ki_0 rfl ?_
        cases h
        exact zi_ret _ dX5_readPart_69
      · replace h := (if_neg hc).symm.trans h
        refine zi_aloadn (q := 57) dX5_readPart_56 rfl rfl ?_
        refine zi_iloadn (q := 58) dX5_readPart_57 rfl rfl ?_
        obtain ⟨r5, hr5, h⟩ := Option.bind_eq_some_iff.mp h
        refine zc_V2 (q := 61) (st := []) (S1 := [.int (bi r5.1)]) (r_X5_readPlace r1 _ r5 hr5) dX5_readPart_58 cb_X5_readPlace k2_214 k2_216 ks_X5_readPlace ⟨by decide, by decide⟩ so_1 rfl rfl rfl (Nat.le_of_ble_eq_true rfl) (Or.inl rfl) rfl rfl ?_
        refine zi_ifeq (q := 68) (q2 := 64) dX5_readPart_61 (by decide) rfl (fun hc => ?_) (fun hc => ?_)
        · replace h := (if_pos hc).symm.trans h
          refine zi_iconst (q := 69) dX5_readPart_68 ki_0 rfl ?_
          cases h
          exact zi_ret _ dX5_readPart_69
        · replace h := (if_neg hc).symm.trans h
          refine zi_iconst (q := 65) dX5_readPart_64 ki_1 rfl ?_
          refine zi_goto (q := 69) dX5_readPart_65 (by decide) ?_
          cases h
          exact zi_ret _ dX5_readPart_69
    · replace h := (if_neg hc).symm.trans h
      refine zi_aloadn (q := 36) dX5_readPart_35 rfl rfl ?_
      refine zi_getA (q := 39) dX5_readPart_36 fl_5_18 so_1 rfl rfl ?_
      refine zi_getA (q := 42) dX5_readPart_39 fl_5_63 so_3 rfl rfl ?_
      refine zi_iloadn (q := 43) dX5_readPart_42 rfl rfl ?_
      refine zi_iconst (q := 44) dX5_readPart_43 ki_0 rfl ?_
      obtain ⟨hz6, h⟩ := zg_some h
      refine zi_bast2 (q := 45) dX5_readPart_44 so_4 (zin_vp hz6) rfl rfl rfl ?_
      refine zi_iconst (q := 46) dX5_readPart_45 ki_1 rfl ?_
      cases h
      exact zi_ret _ dX5_readPart_46
  · replace h := (if_pos hc).symm.trans h
    refine zi_iconst (q := 15) dX5_readPart_14 ki_0 rfl ?_
    cases h
    exact zi_ret _ dX5_readPart_15
set_option maxRecDepth 20000 in
theorem rb_X5_read_39 {E : Nat × (Nat → Int32)}   (s : (Int32 × zM)) (rv : Option Value) (m' : zM) (x : ((Int32 × zM) ⊕ ((zM) ⊕ (Bool × zM)))) (h : b_X5_read_39  s = some x) (KI : ∀ s1 : (Int32 × zM), x = .inl s1 → Rn E zX5_read 39 [some (.ref 1), none, none, some (.int s1.1)] [] zSH s1.2 rv zSH m') (KO : ∀ r1 : (zM), x = .inr (.inl r1) → Rn E zX5_read 84 [none, none, none, none] [] zSH r1 rv zSH m') (KR : ∀ v : (Bool × zM), x = .inr (.inr v) → rv = some (.int (bi v.1)) ∧ m' = v.2) : Rn E zX5_read 39 [some (.ref 1), none, none, some (.int s.1)] [] zSH s.2 rv zSH m' := by
  unfold b_X5_read_39 at h
  refine zi_iloadn (q := 40) dX5_read_39 rfl rfl ?_
  refine zi_bipush (q := 42) dX5_read_40 kb_40 rfl ?_
  refine zi_icmpge (q := 84) (q2 := 45) dX5_read_42 (by decide) rfl (fun hc => ?_) (fun hc => ?_)
  · replace h := (if_pos hc).symm.trans h
    refine Rn.weakm [false, false, false, false] ?_
    exact KO s.2 (Option.some.inj h).symm
  · replace h := (if_neg hc).symm.trans h
    refine zi_aloadn (q := 46) dX5_read_45 rfl rfl ?_
    obtain ⟨r2, hr2, h⟩ := Option.bind_eq_some_iff.mp h
    refine zc_V2 (q := 49) (st := []) (S1 := [.int (bi r2.1)]) (r_X5_readPart  _ r2 hr2) dX5_read_46 cb_X5_readPart k2_197 k2_199 ks_X5_readPart ⟨by decide, by decide⟩ so_1 rfl rfl rfl (Nat.le_of_ble_eq_true rfl) (Or.inl rfl) rfl rfl ?_
    refine zi_ifne (q := 54) (q2 := 52) dX5_read_49 (by decide) rfl (fun hc => ?_) (fun hc => ?_)
    · replace h := (if_neg hc).symm.trans h
      refine zi_aloadn (q := 55) dX5_read_54 rfl rfl ?_
      refine zi_getI (q := 58) dX5_read_55 fl_5_44 (by decide) so_1 rfl ?_
      refine zi_aloadn (q := 59) dX5_read_58 rfl rfl ?_
      refine zi_getI (q := 62) dX5_read_59 fl_5_22 (by decide) so_1 rfl ?_
      refine zi_icmplt (q := 67) (q2 := 65) dX5_read_62 (by decide) rfl (fun hc => ?_) (fun hc => ?_)
      · replace h := (if_pos hc).symm.trans h
        refine zi_aloadn (q := 68) dX5_read_67 rfl rfl ?_
        refine zi_bipush (q := 70) dX5_read_68 kb_59 rfl ?_
        obtain ⟨r3, hr3, h⟩ := Option.bind_eq_some_iff.mp h
        refine zc_V2 (q := 73) (st := []) (S1 := [.int (bi r3.1)]) (r_X5_take 59 _ r3 hr3) dX5_read_70 cb_X5_take k2_210 k2_212 ks_X5_take ⟨by decide, by decide⟩ so_1 rfl rfl rfl (Nat.le_of_ble_eq_true rfl) (Or.inl rfl) rfl rfl ?_
        refine zi_ifne (q := 78) (q2 := 76) dX5_read_73 (by decide) rfl (fun hc => ?_) (fun hc => ?_)
        · replace h := (if_neg hc).symm.trans h
          refine zi_iinc (q := 81) (v := s.1 + 1) (L' := [some (.ref 1), none, none, some (.int (s.1 + 1))]) dX5_read_78 rfl (by rw [ki_1]) (by decide) rfl rfl rfl ?_
          refine zi_goto (q := 39) dX5_read_81 (by decide) ?_
          exact KI ((s.1 + 1), r3.2) (Option.some.inj h).symm
        · replace h := (if_pos hc).symm.trans h
          refine zi_iconst (q := 77) dX5_read_76 ki_0 rfl ?_
          obtain ⟨e1, e2⟩ := KR _ (Option.some.inj h).symm
          rw [e1, e2]
          exact zi_ret _ dX5_read_77
      · replace h := (if_neg hc).symm.trans h
        refine zi_iconst (q := 66) dX5_read_65 ki_1 rfl ?_
        obtain ⟨e1, e2⟩ := KR _ (Option.some.inj h).symm
        rw [e1, e2]
        exact zi_ret _ dX5_read_66
    · replace h := (if_pos hc).symm.trans h
      refine zi_iconst (q := 53) dX5_read_52 ki_0 rfl ?_
      obtain ⟨e1, e2⟩ := KR _ (Option.some.inj h).symm
      rw [e1, e2]
      exact zi_ret _ dX5_read_53
set_option maxRecDepth 20000 in
theorem r_X5_read {E : Nat × (Nat → Int32)}  (m : zM) (x : (Bool × zM)) (h : f_X5_read  m = some x) : zMet E zX5_read [.ref 1, .ref 14, .ref 19] zSH m (some (.int (bi x.1))) zSH x.2 := by
  refine zMet.of (L0 := [some (.ref 1), some (.ref 14), some (.ref 19), none]) rfl (zfit_bi _) (Nat.le_of_ble_eq_true rfl) rfl ?_
  unfold f_X5_read at h
  refine zi_aloadn (q := 1) dX5_read_0 rfl rfl ?_
  refine zi_iconst (q := 2) dX5_read_1 ki_2 rfl ?_
  refine zi_aloadn (q := 3) dX5_read_2 rfl rfl ?_
  refine zi_getI (q := 6) dX5_read_3 fl_5_26 (by decide) so_14 rfl ?_
  refine zi_imul (q := 7) dX5_read_6 rfl ?_
  refine zi_iconst (q := 8) dX5_read_7 ki_2 rfl ?_
  refine zi_isub (q := 9) dX5_read_8 rfl ?_
  refine zi_putI (q := 12) dX5_read_9 pl_5_31 so_1 rfl ?_
  refine zi_aloadn (q := 13) dX5_read_12 rfl rfl ?_
  refine zi_iconst (q := 14) dX5_read_13 ki_2 rfl ?_
  refine zi_aloadn (q := 15) dX5_read_14 rfl rfl ?_
  refine zi_getI (q := 18) dX5_read_15 fl_5_34 (by decide) so_14 rfl ?_
  refine zi_imul (q := 19) dX5_read_18 rfl ?_
  refine zi_iconst (q := 20) dX5_read_19 ki_2 rfl ?_
  refine zi_isub (q := 21) dX5_read_20 rfl ?_
  refine zi_putI (q := 24) dX5_read_21 pl_5_37 so_1 rfl ?_
  refine zi_aloadn (q := 25) dX5_read_24 rfl rfl ?_
  refine zi_getA (q := 28) dX5_read_25 fl_5_18 so_1 rfl rfl ?_
  refine zi_aloadn (q := 29) dX5_read_28 rfl rfl ?_
  obtain ⟨m1, hm1, h⟩ := Option.bind_eq_some_iff.mp h
  refine zc_V2 (q := 32) (st := []) (S1 := []) (r_X2_copyFrom  _ m1 hm1) dX5_read_29 cb_X2_copyFrom k2_193 k2_194 k2_195 ⟨by decide, by decide⟩ so_3 rfl rfl rfl (Nat.le_of_ble_eq_true rfl) (Or.inl rfl) rfl rfl ?_
  refine zi_aloadn (q := 33) dX5_read_32 rfl rfl ?_
  refine zi_iconst (q := 34) dX5_read_33 ki_0 rfl ?_
  refine zi_putI (q := 37) dX5_read_34 pl_5_44 so_1 rfl ?_
  refine zi_iconst (q := 38) dX5_read_37 ki_0 rfl ?_
  refine zi_istoren (q := 39) (L' := [some (.ref 1), some (.ref 14), some (.ref 19), some (.int 0)]) dX5_read_38 (by decide) rfl rfl rfl ?_
  obtain ⟨r4, hr4, h⟩ := Option.bind_eq_some_iff.mp h
  refine Rn.weakm [true, false, false, true] ?_
  refine zloop_rn (P := fun w : (Int32 × zM) => Rn E zX5_read 39 [some (.ref 1), none, none, some (.int w.1)] [] zSH w.2 (some (.int (bi x.1))) zSH x.2) (X := Sum.elim (fun w : (zM) => Rn E zX5_read 84 [none, none, none, none] [] zSH w (some (.int (bi x.1))) zSH x.2) (fun v : (Bool × zM) => (some (Value.int (bi x.1))) = some (Value.int (bi v.1)) ∧ x.2 = v.2)) (fun w w0 hb KI KX => rb_X5_read_39  w _ _ w0 hb KI (fun w1 e => KX (.inl w1) e) (fun w1 e => KX (.inr w1) e)) zFU _ r4 hr4 ?_
  rcases r4 with r4 | v5
  · replace h := (zelim_l).symm.trans h
    show Rn E zX5_read 84 [none, none, none, none] [] zSH r4 (some (.int (bi x.1))) zSH x.2
    refine zi_iconst (q := 85) dX5_read_84 ki_0 rfl ?_
    cases h
    exact zi_ret _ dX5_read_85
  · replace h := (zelim_r).symm.trans h
    cases h
    exact ⟨rfl, rfl⟩
set_option maxRecDepth 20000 in
theorem r_X11_fault {E : Nat × (Nat → Int32)}  (m : zM) (x : (Int32 × zM)) (h : f_X11_fault  m = some x) : zMet E zX11_fault [.ref 0] zSH m (some (.int x.1)) zSH x.2 := by
  refine zMet.of (L0 := [some (.ref 0)]) rfl rfl (Nat.le_of_ble_eq_true rfl) rfl ?_
  unfold f_X11_fault at h
  refine zi_aloadn (q := 1) dX11_fault_0 rfl rfl ?_
  refine zi_getA (q := 4) dX11_fault_1 fl_11_28 so_0 rfl rfl ?_
  refine zi_getI (q := 7) dX11_fault_4 fl_11_44 (by decide) so_13 rfl ?_
  refine zi_ifne (q := 14) (q2 := 10) dX11_fault_7 (by decide) rfl (fun hc => ?_) (fun hc => ?_)
  · replace h := (if_neg hc).symm.trans h
    refine zi_aloadn (q := 15) dX11_fault_14 rfl rfl ?_
    refine zi_getA (q := 18) dX11_fault_15 fl_11_10 so_0 rfl rfl ?_
    refine zi_aloadn (q := 19) dX11_fault_18 rfl rfl ?_
    refine zi_getA (q := 22) dX11_fault_19 fl_11_28 so_0 rfl rfl ?_
    refine zi_getA (q := 25) dX11_fault_22 fl_11_48 so_13 rfl rfl ?_
    refine zi_aloadn (q := 26) dX11_fault_25 rfl rfl ?_
    refine zi_getA (q := 29) dX11_fault_26 fl_11_28 so_0 rfl rfl ?_
    refine zi_getA (q := 32) dX11_fault_29 fl_11_52 so_13 rfl rfl ?_
    obtain ⟨r1, hr1, h⟩ := Option.bind_eq_some_iff.mp h
    refine zc_V2 (q := 35) (st := []) (S1 := [.int (bi r1.1)]) (r_X5_read  _ r1 hr1) dX11_fault_32 cb_X5_read k2_189 k2_190 k2_191 ⟨by decide, by decide⟩ so_1 rfl rfl rfl (Nat.le_of_ble_eq_true rfl) (Or.inl rfl) rfl rfl ?_
    refine zi_pop (q := 36) dX11_fault_35 rfl rfl ?_
    refine zi_aloadn (q := 37) dX11_fault_36 rfl rfl ?_
    refine zi_getA (q := 40) dX11_fault_37 fl_11_10 so_0 rfl rfl ?_
    refine zi_getI (q := 43) dX11_fault_40 fl_11_60 (by decide) so_1 rfl ?_
    cases h
    exact zi_ret _ dX11_fault_43
  · replace h := (if_pos hc).symm.trans h
    refine zi_sipush (q := 13) dX11_fault_10 kc_m10003 rfl ?_
    cases h
    exact zi_ret _ dX11_fault_13
set_option maxRecDepth 20000 in
theorem r_X12_isGlass {E : Nat × (Nat → Int32)}  (m : zM) (x : Bool) (h : f_X12_isGlass  m = some x) : zMet E zX12_isGlass [.ref 68] zSH m (some (.int (bi x))) zSH m := by
  refine zMet.of (L0 := [some (.ref 68)]) rfl (zfit_bi _) (Nat.le_of_ble_eq_true rfl) rfl ?_
  unfold f_X12_isGlass at h
  refine zi_aloadn (q := 1) dX12_isGlass_0 rfl rfl ?_
  refine zi_getI (q := 4) dX12_isGlass_1 fl_12_116 (by decide) so_68 rfl ?_
  refine zi_ifle (q := 11) (q2 := 7) dX12_isGlass_4 (by decide) rfl (fun hc => ?_) (fun hc => ?_)
  · replace h := (if_pos hc).symm.trans h
    refine zi_iconst (q := 12) dX12_isGlass_11 ki_0 rfl ?_
    cases h
    exact zi_ret _ dX12_isGlass_12
  · replace h := (if_neg hc).symm.trans h
    refine zi_iconst (q := 8) dX12_isGlass_7 ki_1 rfl ?_
    refine zi_goto (q := 12) dX12_isGlass_8 (by decide) ?_
    cases h
    exact zi_ret _ dX12_isGlass_12
set_option maxRecDepth 20000 in
theorem rj_X12_goes_29 {E : Nat × (Nat → Int32)} (x1 : Int32) (s0 : Int32) (m : zM)  (x : (Bool × zM)) (h : j_X12_goes_29 x1 s0 m = some x) : Rn E zX12_goes 29 [none, some (.int x1), none] [.int s0, .ref 68] zSH m (some (.int (bi x.1))) zSH x.2 := by
  unfold j_X12_goes_29 at h
  refine zi_putI (q := 32) dX12_goes_29 pl_12_133 so_68 rfl ?_
  refine zi_iloadn (q := 33) dX12_goes_32 rfl rfl ?_
  obtain ⟨hz1, h⟩ := zg_some h
  cases h
  rw [show (some (Value.int (bi (decide (x1 = 1))))) = some (.int x1) from by rw [zb_dec hz1]]
  exact zi_ret _ dX12_goes_33
set_option maxRecDepth 20000 in
theorem rj_X12_goes_13 {E : Nat × (Nat → Int32)} (x1 : Int32) (s0 : Int32) (m : zM)  (x : (Bool × zM)) (h : j_X12_goes_13 x1 s0 m = some x) : Rn E zX12_goes 13 [some (.ref 68), some (.int x1), none] [.int s0, .ref 68] zSH m (some (.int (bi x.1))) zSH x.2 := by
  unfold j_X12_goes_13 at h
  refine zi_putI (q := 16) dX12_goes_13 pl_12_130 so_68 rfl ?_
  refine zi_aloadn (q := 17) dX12_goes_16 rfl rfl ?_
  refine zi_iloadn (q := 18) dX12_goes_17 rfl rfl ?_
  refine zi_ifeq (q := 25) (q2 := 21) dX12_goes_18 (by decide) rfl (fun hc => ?_) (fun hc => ?_)
  · replace h := (if_pos hc).symm.trans h
    refine zi_aloadn (q := 26) dX12_goes_25 rfl rfl ?_
    refine zi_getI (q := 29) dX12_goes_26 fl_12_133 (by decide) so_68 rfl ?_
    refine Rn.weakm [false, true, false] ?_
    exact rj_X12_goes_29 x1 (m.1 68 48) _ _ h
  · replace h := (if_neg hc).symm.trans h
    refine zi_iconst (q := 22) dX12_goes_21 ki_m1 rfl ?_
    refine zi_goto (q := 29) dX12_goes_22 (by decide) ?_
    refine Rn.weakm [false, true, false] ?_
    exact rj_X12_goes_29 x1 (-1) _ _ h
set_option maxRecDepth 20000 in
theorem r_X12_goes {E : Nat × (Nat → Int32)} (x1 : Int32) (x2 : Int32) (m : zM) (x : (Bool × zM)) (h : f_X12_goes x1 x2 m = some x) : zMet E zX12_goes [.ref 68, .int x1, .int x2] zSH m (some (.int (bi x.1))) zSH x.2 := by
  refine zMet.of (L0 := [some (.ref 68), some (.int x1), some (.int x2)]) rfl (zfit_bi _) (Nat.le_of_ble_eq_true rfl) rfl ?_
  unfold f_X12_goes at h
  refine zi_aloadn (q := 1) dX12_goes_0 rfl rfl ?_
  refine zi_iloadn (q := 2) dX12_goes_1 rfl rfl ?_
  refine zi_ifeq (q := 9) (q2 := 5) dX12_goes_2 (by decide) rfl (fun hc => ?_) (fun hc => ?_)
  · replace h := (if_pos hc).symm.trans h
    refine zi_aloadn (q := 10) dX12_goes_9 rfl rfl ?_
    refine zi_getI (q := 13) dX12_goes_10 fl_12_130 (by decide) so_68 rfl ?_
    refine Rn.weakm [true, true, false] ?_
    exact rj_X12_goes_13 x1 (m.1 68 47) _ _ h
  · replace h := (if_neg hc).symm.trans h
    refine zi_iloadn (q := 6) dX12_goes_5 rfl rfl ?_
    refine zi_goto (q := 13) dX12_goes_6 (by decide) ?_
    refine Rn.weakm [true, true, false] ?_
    exact rj_X12_goes_13 x1 x2 _ _ h
set_option maxRecDepth 20000 in
theorem r_X12_takesDigit {E : Nat × (Nat → Int32)} (x1 : Int32) (m : zM) (x : (Bool × zM)) (h : f_X12_takesDigit x1 m = some x) : zMet E zX12_takesDigit [.ref 68, .int x1] zSH m (some (.int (bi x.1))) zSH x.2 := by
  refine zMet.of (L0 := [some (.ref 68), some (.int x1), none]) rfl (zfit_bi _) (Nat.le_of_ble_eq_true rfl) rfl ?_
  unfold f_X12_takesDigit at h
  refine zi_iloadn (q := 1) dX12_takesDigit_0 rfl rfl ?_
  refine zi_bipush (q := 3) dX12_takesDigit_1 kb_48 rfl ?_
  refine zi_bipush (q := 5) dX12_takesDigit_3 kb_52 rfl ?_
  obtain ⟨r1, hr1, h⟩ := Option.bind_eq_some_iff.mp h
  refine zc_S2 (q := 8) (st := []) (S1 := [.int (bi r1)]) (r_X12_within x1 48 52 _ r1 hr1) dX12_takesDigit_5 cb_X12_within k5_71 k5_72 ⟨by decide, by decide⟩ rfl (Nat.le_of_ble_eq_true rfl) (Or.inl rfl) rfl rfl ?_
  refine zi_istoren (q := 9) (L' := [some (.ref 68), some (.int x1), some (.int (bi r1))]) dX12_takesDigit_8 (by decide) rfl rfl rfl ?_
  refine zi_aloadn (q := 10) dX12_takesDigit_9 rfl rfl ?_
  refine zi_iloadn (q := 11) dX12_takesDigit_10 rfl rfl ?_
  refine zi_bipush (q := 13) dX12_takesDigit_11 kb_48 rfl ?_
  refine zi_isub (q := 14) dX12_takesDigit_13 rfl ?_
  refine zi_putI (q := 17) dX12_takesDigit_14 pl_12_158 so_68 rfl ?_
  refine zi_aloadn (q := 18) dX12_takesDigit_17 rfl rfl ?_
  refine zi_iloadn (q := 19) dX12_takesDigit_18 rfl rfl ?_
  refine zi_iconst (q := 20) dX12_takesDigit_19 ki_1 rfl ?_
  obtain ⟨r2, hr2, h⟩ := Option.bind_eq_some_iff.mp h
  refine zc_V2 (q := 23) (st := []) (S1 := [.int (bi r2.1)]) (r_X12_goes (bi r1) 1 _ r2 hr2) dX12_takesDigit_20 cb_X12_goes k5_98 k5_100 ks_X12_goes ⟨by decide, by decide⟩ so_68 rfl rfl rfl (Nat.le_of_ble_eq_true rfl) (Or.inl rfl) rfl rfl ?_
  cases h
  exact zi_ret _ dX12_takesDigit_23
set_option maxRecDepth 20000 in
theorem rj_X12_takesKind_58 {E : Nat × (Nat → Int32)} (s0 : Int32) (m : zM)  (x : (Bool × zM)) (h : j_X12_takesKind_58 s0 m = some x) : Rn E zX12_takesKind 58 [none, none] [.int s0, .ref 68] zSH m (some (.int (bi x.1))) zSH x.2 := by
  unfold j_X12_takesKind_58 at h
  refine zi_iconst (q := 59) dX12_takesKind_58 ki_3 rfl ?_
  obtain ⟨r1, hr1, h⟩ := Option.bind_eq_some_iff.mp h
  refine zc_V2 (q := 62) (st := []) (S1 := [.int (bi r1.1)]) (r_X12_goes s0 3 _ r1 hr1) dX12_takesKind_59 cb_X12_goes k5_98 k5_100 ks_X12_goes ⟨by decide, by decide⟩ so_68 rfl rfl rfl (Nat.le_of_ble_eq_true rfl) (Or.inl rfl) rfl rfl ?_
  cases h
  exact zi_ret _ dX12_takesKind_62
set_option maxRecDepth 20000 in
theorem rj_X12_takesKind_38 {E : Nat × (Nat → Int32)} (s0 : Int32) (s1 : Int32) (m : zM)  (x : (Bool × zM)) (h : j_X12_takesKind_38 s0 s1 m = some x) : Rn E zX12_takesKind 38 [some (.ref 68), none] [.int s0, .int s1, .ref 75] zSH m (some (.int (bi x.1))) zSH x.2 := by
  unfold j_X12_takesKind_38 at h
  obtain ⟨hz3, h⟩ := zg_some h
  obtain ⟨hz4, h⟩ := zg_some h
  refine zi_bast2 (q := 39) dX12_takesKind_38 so_75 (zin_vp hz3) rfl hz4 rfl ?_
  refine zi_aloadn (q := 40) dX12_takesKind_39 rfl rfl ?_
  refine zi_iconst (q := 41) dX12_takesKind_40 ki_1 rfl ?_
  refine zi_iconst (q := 42) dX12_takesKind_41 ki_2 rfl ?_
  obtain ⟨r5, hr5, h⟩ := Option.bind_eq_some_iff.mp h
  refine zc_V2 (q := 45) (st := []) (S1 := [.int (bi r5.1)]) (r_X12_goes 1 2 _ r5 hr5) dX12_takesKind_42 cb_X12_goes k5_98 k5_100 ks_X12_goes ⟨by decide, by decide⟩ so_68 rfl rfl rfl (Nat.le_of_ble_eq_true rfl) (Or.inl rfl) rfl rfl ?_
  cases h
  exact zi_ret _ dX12_takesKind_45
set_option maxRecDepth 20000 in
theorem rj_X12_takesKind_37 {E : Nat × (Nat → Int32)} (s0 : Int32) (m : zM)  (x : (Bool × zM)) (h : j_X12_takesKind_37 s0 m = some x) : Rn E zX12_takesKind 37 [some (.ref 68), none] [.int s0, .ref 75] zSH m (some (.int (bi x.1))) zSH x.2 := by
  unfold j_X12_takesKind_37 at h
  refine zi_iconst (q := 38) dX12_takesKind_37 ki_0 rfl ?_
  exact rj_X12_takesKind_38 0 s0 _ _ h
set_option maxRecDepth 20000 in
theorem r_X12_takesKind {E : Nat × (Nat → Int32)} (x1 : Int32) (m : zM) (x : (Bool × zM)) (h : f_X12_takesKind x1 m = some x) : zMet E zX12_takesKind [.ref 68, .int x1] zSH m (some (.int (bi x.1))) zSH x.2 := by
  refine zMet.of (L0 := [some (.ref 68), some (.int x1)]) rfl (zfit_bi _) (Nat.le_of_ble_eq_true rfl) rfl ?_
  unfold f_X12_takesKind at h
  refine zi_iloadn (q := 1) dX12_takesKind_0 rfl rfl ?_
  refine zi_bipush (q := 3) dX12_takesKind_1 kb_45 rfl ?_
  refine zi_icmpne (q := 46) (q2 := 6) dX12_takesKind_3 (by decide) rfl (fun hc => ?_) (fun hc => ?_)
  · replace h := (if_neg hc).symm.trans h
    refine zi_aloadn (q := 47) dX12_takesKind_46 rfl rfl ?_
    refine zi_iloadn (q := 48) dX12_takesKind_47 rfl rfl ?_
    refine zi_bipush (q := 50) dX12_takesKind_48 kb_64 rfl ?_
    refine zi_icmpne (q := 57) (q2 := 53) dX12_takesKind_50 (by decide) rfl (fun hc => ?_) (fun hc => ?_)
    · replace h := (if_neg hc).symm.trans h
      refine zi_iconst (q := 58) dX12_takesKind_57 ki_0 rfl ?_
      refine Rn.weakm [false, false] ?_
      exact rj_X12_takesKind_58 0 _ _ h
    · replace h := (if_pos hc).symm.trans h
      refine zi_iconst (q := 54) dX12_takesKind_53 ki_1 rfl ?_
      refine zi_goto (q := 58) dX12_takesKind_54 (by decide) ?_
      refine Rn.weakm [false, false] ?_
      exact rj_X12_takesKind_58 1 _ _ h
  · replace h := (if_pos hc).symm.trans h
    refine zi_aloadn (q := 7) dX12_takesKind_6 rfl rfl ?_
    refine zi_getA (q := 10) dX12_takesKind_7 fl_12_28 so_68 rfl rfl ?_
    refine zi_aloadn (q := 11) dX12_takesKind_10 rfl rfl ?_
    refine zi_getI (q := 14) dX12_takesKind_11 fl_12_158 (by decide) so_68 rfl ?_
    refine zi_aloadn (q := 15) dX12_takesKind_14 rfl rfl ?_
    refine zi_getA (q := 18) dX12_takesKind_15 fl_12_28 so_68 rfl rfl ?_
    refine zi_aloadn (q := 19) dX12_takesKind_18 rfl rfl ?_
    refine zi_getI (q := 22) dX12_takesKind_19 fl_12_158 (by decide) so_68 rfl ?_
    obtain ⟨hz2, h⟩ := zg_some h
    refine zi_bald2 (q := 23) dX12_takesKind_22 so_75 (zin_vp hz2) rfl rfl ?_
    refine zi_ifeq (q := 37) (q2 := 26) dX12_takesKind_23 (by decide) rfl (fun hc => ?_) (fun hc => ?_)
    · replace h := (if_pos hc).symm.trans h
      refine Rn.weakm [true, false] ?_
      exact rj_X12_takesKind_37 (m.1 68 49) _ _ h
    · replace h := (if_neg hc).symm.trans h
      refine zi_aloadn (q := 27) dX12_takesKind_26 rfl rfl ?_
      refine zi_getI (q := 30) dX12_takesKind_27 fl_12_154 (by decide) so_68 rfl ?_
      refine zi_ifne (q := 37) (q2 := 33) dX12_takesKind_30 (by decide) rfl (fun hc => ?_) (fun hc => ?_)
      · replace h := (if_neg hc).symm.trans h
        refine Rn.weakm [true, false] ?_
        exact rj_X12_takesKind_37 (m.1 68 49) _ _ h
      · replace h := (if_pos hc).symm.trans h
        refine zi_iconst (q := 34) dX12_takesKind_33 ki_1 rfl ?_
        refine zi_goto (q := 38) dX12_takesKind_34 (by decide) ?_
        refine Rn.weakm [true, false] ?_
        exact rj_X12_takesKind_38 1 (m.1 68 49) _ _ h
set_option maxRecDepth 20000 in
theorem r_X12_putOn {E : Nat × (Nat → Int32)} (x1 : Int32) (m : zM) (x : zM) (h : f_X12_putOn x1 m = some x) : zMet E zX12_putOn [.ref 68, .int x1] zSH m none zSH x := by
  refine zMet.of (L0 := [some (.ref 68), some (.int x1)]) rfl trivial (Nat.le_of_ble_eq_true rfl) rfl ?_
  unfold f_X12_putOn at h
  refine zi_aloadn (q := 1) dX12_putOn_0 rfl rfl ?_
  refine zi_getI (q := 4) dX12_putOn_1 fl_12_154 (by decide) so_68 rfl ?_
  refine zi_ifeq (q := 53) (q2 := 7) dX12_putOn_4 (by decide) rfl (fun hc => ?_) (fun hc => ?_)
  · replace h := (if_pos hc).symm.trans h
    cases h
    exact zi_ret _ dX12_putOn_53
  · replace h := (if_neg hc).symm.trans h
    refine zi_aloadn (q := 8) dX12_putOn_7 rfl rfl ?_
    refine zi_getA (q := 11) dX12_putOn_8 fl_12_28 so_68 rfl rfl ?_
    refine zi_aloadn (q := 12) dX12_putOn_11 rfl rfl ?_
    refine zi_getI (q := 15) dX12_putOn_12 fl_12_158 (by decide) so_68 rfl ?_
    refine zi_iconst (q := 16) dX12_putOn_15 ki_1 rfl ?_
    obtain ⟨hz1, h⟩ := zg_some h
    refine zi_bast2 (q := 17) dX12_putOn_16 so_75 (zin_vp hz1) rfl rfl rfl ?_
    refine zi_aloadn (q := 18) dX12_putOn_17 rfl rfl ?_
    refine zi_getA (q := 21) dX12_putOn_18 fl_12_32 so_68 rfl rfl ?_
    refine zi_aloadn (q := 22) dX12_putOn_21 rfl rfl ?_
    refine zi_getI (q := 25) dX12_putOn_22 fl_12_158 (by decide) so_68 rfl ?_
    refine zi_aloadn (q := 26) dX12_putOn_25 rfl rfl ?_
    refine zi_getI (q := 29) dX12_putOn_26 fl_12_140 (by decide) so_68 rfl ?_
    obtain ⟨hz2, h⟩ := zg_some h
    refine zi_iast2 (q := 30) dX12_putOn_29 so_76 (zin_vp hz2) rfl rfl ?_
    refine zi_aloadn (q := 31) dX12_putOn_30 rfl rfl ?_
    refine zi_getA (q := 34) dX12_putOn_31 fl_12_35 so_68 rfl rfl ?_
    refine zi_aloadn (q := 35) dX12_putOn_34 rfl rfl ?_
    refine zi_getI (q := 38) dX12_putOn_35 fl_12_158 (by decide) so_68 rfl ?_
    refine zi_aloadn (q := 39) dX12_putOn_38 rfl rfl ?_
    refine zi_getI (q := 42) dX12_putOn_39 fl_12_147 (by decide) so_68 rfl ?_
    obtain ⟨hz3, h⟩ := zg_some h
    refine zi_iast2 (q := 43) dX12_putOn_42 so_77 (zin_vp hz3) rfl rfl ?_
    refine zi_aloadn (q := 44) dX12_putOn_43 rfl rfl ?_
    refine zi_getA (q := 47) dX12_putOn_44 fl_12_38 so_68 rfl rfl ?_
    refine zi_aloadn (q := 48) dX12_putOn_47 rfl rfl ?_
    refine zi_getI (q := 51) dX12_putOn_48 fl_12_158 (by decide) so_68 rfl ?_
    refine zi_iloadn (q := 52) dX12_putOn_51 rfl rfl ?_
    obtain ⟨hz4, h⟩ := zg_some h
    refine zi_iast2 (q := 53) dX12_putOn_52 so_78 (zin_vp hz4) rfl rfl ?_
    cases h
    exact zi_ret _ dX12_putOn_53
set_option maxRecDepth 20000 in
theorem rj_X12_takesSign_102 {E : Nat × (Nat → Int32)} (x3 : Int32) (m : zM)  (x : (Bool × zM)) (h : j_X12_takesSign_102 x3 m = some x) : Rn E zX12_takesSign 102 [some (.ref 68), none, none, some (.int x3)] [] zSH m (some (.int (bi x.1))) zSH x.2 := by
  unfold j_X12_takesSign_102 at h
  refine zi_aloadn (q := 103) dX12_takesSign_102 rfl rfl ?_
  refine zi_iloadn (q := 104) dX12_takesSign_103 rfl rfl ?_
  refine zi_iconst (q := 105) dX12_takesSign_104 ki_0 rfl ?_
  obtain ⟨r1, hr1, h⟩ := Option.bind_eq_some_iff.mp h
  refine zc_V2 (q := 108) (st := []) (S1 := [.int (bi r1.1)]) (r_X12_goes x3 0 _ r1 hr1) dX12_takesSign_105 cb_X12_goes k5_98 k5_100 ks_X12_goes ⟨by decide, by decide⟩ so_68 rfl rfl rfl (Nat.le_of_ble_eq_true rfl) (Or.inl rfl) rfl rfl ?_
  cases h
  exact zi_ret _ dX12_takesSign_108
set_option maxRecDepth 20000 in
theorem rj_X12_takesSign_92 {E : Nat × (Nat → Int32)} (x2 : Int32) (s0 : Int32) (m : zM)  (x : (Bool × zM)) (h : j_X12_takesSign_92 x2 s0 m = some x) : Rn E zX12_takesSign 92 [some (.ref 68), none, some (.int x2), none] [.int s0] zSH m (some (.int (bi x.1))) zSH x.2 := by
  unfold j_X12_takesSign_92 at h
  refine zi_istoren (q := 93) (L' := [some (.ref 68), none, some (.int x2), some (.int s0)]) dX12_takesSign_92 (by decide) rfl rfl rfl ?_
  refine zi_iloadn (q := 94) dX12_takesSign_93 rfl rfl ?_
  refine zi_ifeq (q := 102) (q2 := 97) dX12_takesSign_94 (by decide) rfl (fun hc => ?_) (fun hc => ?_)
  · replace h := (if_pos hc).symm.trans h
    refine Rn.weakm [true, false, false, true] ?_
    exact rj_X12_takesSign_102 s0 _ _ h
  · replace h := (if_neg hc).symm.trans h
    refine zi_aloadn (q := 98) dX12_takesSign_97 rfl rfl ?_
    refine zi_iloadn (q := 99) dX12_takesSign_98 rfl rfl ?_
    obtain ⟨m2, hm2, h⟩ := Option.bind_eq_some_iff.mp h
    refine zc_V2 (q := 102) (st := []) (S1 := []) (r_X12_putOn x2 _ m2 hm2) dX12_takesSign_99 cb_X12_putOn k5_118 k5_120 ks_X12_putOn ⟨by decide, by decide⟩ so_68 rfl rfl rfl (Nat.le_of_ble_eq_true rfl) (Or.inl rfl) rfl rfl ?_
    refine Rn.weakm [true, false, false, true] ?_
    exact rj_X12_takesSign_102 s0 _ _ h
set_option maxRecDepth 20000 in
theorem rj_X12_takesSign_91 {E : Nat × (Nat → Int32)} (x2 : Int32) (m : zM)  (x : (Bool × zM)) (h : j_X12_takesSign_91 x2 m = some x) : Rn E zX12_takesSign 91 [some (.ref 68), none, some (.int x2), none] [] zSH m (some (.int (bi x.1))) zSH x.2 := by
  unfold j_X12_takesSign_91 at h
  refine zi_iconst (q := 92) dX12_takesSign_91 ki_0 rfl ?_
  exact rj_X12_takesSign_92 x2 0 _ _ h
set_option maxRecDepth 20000 in
theorem rj_X12_takesSign_70 {E : Nat × (Nat → Int32)} (s0 : Int32) (m : zM)  (x : (Bool × zM)) (h : j_X12_takesSign_70 s0 m = some x) : Rn E zX12_takesSign 70 [none, none, none, none] [.int s0, .ref 68] zSH m (some (.int (bi x.1))) zSH x.2 := by
  unfold j_X12_takesSign_70 at h
  refine zi_iconst (q := 71) dX12_takesSign_70 ki_5 rfl ?_
  obtain ⟨r3, hr3, h⟩ := Option.bind_eq_some_iff.mp h
  refine zc_V2 (q := 74) (st := []) (S1 := [.int (bi r3.1)]) (r_X12_goes s0 5 _ r3 hr3) dX12_takesSign_71 cb_X12_goes k5_98 k5_100 ks_X12_goes ⟨by decide, by decide⟩ so_68 rfl rfl rfl (Nat.le_of_ble_eq_true rfl) (Or.inl rfl) rfl rfl ?_
  cases h
  exact zi_ret _ dX12_takesSign_74
set_option maxRecDepth 20000 in
theorem rj_X12_takesSign_69 {E : Nat × (Nat → Int32)} (m : zM)  (x : (Bool × zM)) (h : j_X12_takesSign_69  m = some x) : Rn E zX12_takesSign 69 [none, none, none, none] [.ref 68] zSH m (some (.int (bi x.1))) zSH x.2 := by
  unfold j_X12_takesSign_69 at h
  refine zi_iconst (q := 70) dX12_takesSign_69 ki_0 rfl ?_
  exact rj_X12_takesSign_70 0 _ _ h
set_option maxRecDepth 20000 in
theorem rj_X12_takesSign_35 {E : Nat × (Nat → Int32)} (s0 : Int32) (m : zM)  (x : (Bool × zM)) (h : j_X12_takesSign_35 s0 m = some x) : Rn E zX12_takesSign 35 [none, none, none, none] [.int s0, .ref 68] zSH m (some (.int (bi x.1))) zSH x.2 := by
  unfold j_X12_takesSign_35 at h
  refine zi_iconst (q := 36) dX12_takesSign_35 ki_4 rfl ?_
  obtain ⟨r4, hr4, h⟩ := Option.bind_eq_some_iff.mp h
  refine zc_V2 (q := 39) (st := []) (S1 := [.int (bi r4.1)]) (r_X12_goes s0 4 _ r4 hr4) dX12_takesSign_36 cb_X12_goes k5_98 k5_100 ks_X12_goes ⟨by decide, by decide⟩ so_68 rfl rfl rfl (Nat.le_of_ble_eq_true rfl) (Or.inl rfl) rfl rfl ?_
  cases h
  exact zi_ret _ dX12_takesSign_39
set_option maxRecDepth 20000 in
theorem rj_X12_takesSign_34 {E : Nat × (Nat → Int32)} (m : zM)  (x : (Bool × zM)) (h : j_X12_takesSign_34  m = some x) : Rn E zX12_takesSign 34 [none, none, none, none] [.ref 68] zSH m (some (.int (bi x.1))) zSH x.2 := by
  unfold j_X12_takesSign_34 at h
  refine zi_iconst (q := 35) dX12_takesSign_34 ki_0 rfl ?_
  exact rj_X12_takesSign_35 0 _ _ h
set_option maxRecDepth 20000 in
theorem r_X12_takesSign {E : Nat × (Nat → Int32)} (x1 : Int32) (m : zM) (x : (Bool × zM)) (h : f_X12_takesSign x1 m = some x) : zMet E zX12_takesSign [.ref 68, .int x1] zSH m (some (.int (bi x.1))) zSH x.2 := by
  refine zMet.of (L0 := [some (.ref 68), some (.int x1), none, none]) rfl (zfit_bi _) (Nat.le_of_ble_eq_true rfl) rfl ?_
  unfold f_X12_takesSign at h
  refine zi_aloadn (q := 1) dX12_takesSign_0 rfl rfl ?_
  refine zi_getI (q := 4) dX12_takesSign_1 fl_12_133 (by decide) so_68 rfl ?_
  refine zi_istoren (q := 5) (L' := [some (.ref 68), some (.int x1), some (.int (m.1 68 48)), none]) dX12_takesSign_4 (by decide) rfl rfl rfl ?_
  refine zi_aloadn (q := 6) dX12_takesSign_5 rfl rfl ?_
  refine zi_getI (q := 9) dX12_takesSign_6 fl_12_130 (by decide) so_68 rfl ?_
  refine zi_iconst (q := 10) dX12_takesSign_9 ki_3 rfl ?_
  refine zi_icmpne (q := 40) (q2 := 13) dX12_takesSign_10 (by decide) rfl (fun hc => ?_) (fun hc => ?_)
  · replace h := (if_neg hc).symm.trans h
    refine zi_aloadn (q := 41) dX12_takesSign_40 rfl rfl ?_
    refine zi_getI (q := 44) dX12_takesSign_41 fl_12_130 (by decide) so_68 rfl ?_
    refine zi_iconst (q := 45) dX12_takesSign_44 ki_4 rfl ?_
    refine zi_icmpne (q := 75) (q2 := 48) dX12_takesSign_45 (by decide) rfl (fun hc => ?_) (fun hc => ?_)
    · replace h := (if_neg hc).symm.trans h
      refine zi_iloadn (q := 76) dX12_takesSign_75 rfl rfl ?_
      refine zi_bipush (q := 78) dX12_takesSign_76 kb_59 rfl ?_
      refine zi_icmpne (q := 91) (q2 := 81) dX12_takesSign_78 (by decide) rfl (fun hc => ?_) (fun hc => ?_)
      · replace h := (if_neg hc).symm.trans h
        refine Rn.weakm [true, false, true, false] ?_
        exact rj_X12_takesSign_91 (m.1 68 48) _ _ h
      · replace h := (if_pos hc).symm.trans h
        refine zi_iloadn (q := 82) dX12_takesSign_81 rfl rfl ?_
        refine zi_bipush (q := 84) dX12_takesSign_82 kb_10 rfl ?_
        refine zi_icmplt (q := 91) (q2 := 87) dX12_takesSign_84 (by decide) rfl (fun hc => ?_) (fun hc => ?_)
        · replace h := (if_pos hc).symm.trans h
          refine Rn.weakm [true, false, true, false] ?_
          exact rj_X12_takesSign_91 (m.1 68 48) _ _ h
        · replace h := (if_neg hc).symm.trans h
          refine zi_iconst (q := 88) dX12_takesSign_87 ki_1 rfl ?_
          refine zi_goto (q := 92) dX12_takesSign_88 (by decide) ?_
          refine Rn.weakm [true, false, true, false] ?_
          exact rj_X12_takesSign_92 (m.1 68 48) 1 _ _ h
    · replace h := (if_pos hc).symm.trans h
      refine zi_aloadn (q := 49) dX12_takesSign_48 rfl rfl ?_
      refine zi_iloadn (q := 50) dX12_takesSign_49 rfl rfl ?_
      refine zi_putI (q := 53) dX12_takesSign_50 pl_12_147 so_68 rfl ?_
      refine zi_aloadn (q := 54) dX12_takesSign_53 rfl rfl ?_
      refine zi_iloadn (q := 55) dX12_takesSign_54 rfl rfl ?_
      refine zi_bipush (q := 57) dX12_takesSign_55 kb_42 rfl ?_
      refine zi_icmpne (q := 69) (q2 := 60) dX12_takesSign_57 (by decide) rfl (fun hc => ?_) (fun hc => ?_)
      · replace h := (if_neg hc).symm.trans h
        refine Rn.weakm [false, false, false, false] ?_
        exact rj_X12_takesSign_69  _ _ h
      · replace h := (if_pos hc).symm.trans h
        refine zi_iloadn (q := 61) dX12_takesSign_60 rfl rfl ?_
        refine zi_iconst (q := 62) dX12_takesSign_61 ki_m1 rfl ?_
        refine zi_icmpeq (q := 69) (q2 := 65) dX12_takesSign_62 (by decide) rfl (fun hc => ?_) (fun hc => ?_)
        · replace h := (if_pos hc).symm.trans h
          refine Rn.weakm [false, false, false, false] ?_
          exact rj_X12_takesSign_69  _ _ h
        · replace h := (if_neg hc).symm.trans h
          refine zi_iconst (q := 66) dX12_takesSign_65 ki_1 rfl ?_
          refine zi_goto (q := 70) dX12_takesSign_66 (by decide) ?_
          refine Rn.weakm [false, false, false, false] ?_
          exact rj_X12_takesSign_70 1 _ _ h
  · replace h := (if_pos hc).symm.trans h
    refine zi_aloadn (q := 14) dX12_takesSign_13 rfl rfl ?_
    refine zi_iloadn (q := 15) dX12_takesSign_14 rfl rfl ?_
    refine zi_putI (q := 18) dX12_takesSign_15 pl_12_140 so_68 rfl ?_
    refine zi_aloadn (q := 19) dX12_takesSign_18 rfl rfl ?_
    refine zi_iloadn (q := 20) dX12_takesSign_19 rfl rfl ?_
    refine zi_bipush (q := 22) dX12_takesSign_20 kb_44 rfl ?_
    refine zi_icmpne (q := 34) (q2 := 25) dX12_takesSign_22 (by decide) rfl (fun hc => ?_) (fun hc => ?_)
    · replace h := (if_neg hc).symm.trans h
      refine Rn.weakm [false, false, false, false] ?_
      exact rj_X12_takesSign_34  _ _ h
    · replace h := (if_pos hc).symm.trans h
      refine zi_iloadn (q := 26) dX12_takesSign_25 rfl rfl ?_
      refine zi_iconst (q := 27) dX12_takesSign_26 ki_m1 rfl ?_
      refine zi_icmpeq (q := 34) (q2 := 30) dX12_takesSign_27 (by decide) rfl (fun hc => ?_) (fun hc => ?_)
      · replace h := (if_pos hc).symm.trans h
        refine Rn.weakm [false, false, false, false] ?_
        exact rj_X12_takesSign_34  _ _ h
      · replace h := (if_neg hc).symm.trans h
        refine zi_iconst (q := 31) dX12_takesSign_30 ki_1 rfl ?_
        refine zi_goto (q := 35) dX12_takesSign_31 (by decide) ?_
        refine Rn.weakm [false, false, false, false] ?_
        exact rj_X12_takesSign_35 1 _ _ h
set_option maxRecDepth 20000 in
theorem r_X12_mostNow {E : Nat × (Nat → Int32)}  (m : zM) (x : Int32) (h : f_X12_mostNow  m = some x) : zMet E zX12_mostNow [.ref 68] zSH m (some (.int x)) zSH m := by
  refine zMet.of (L0 := [some (.ref 68)]) rfl rfl (Nat.le_of_ble_eq_true rfl) rfl ?_
  unfold f_X12_mostNow at h
  refine zi_aloadn (q := 1) dX12_mostNow_0 rfl rfl ?_
  refine zi_getI (q := 4) dX12_mostNow_1 fl_12_130 (by decide) so_68 rfl ?_
  refine zi_iconst (q := 5) dX12_mostNow_4 ki_3 rfl ?_
  refine zi_icmpne (q := 19) (q2 := 8) dX12_mostNow_5 (by decide) rfl (fun hc => ?_) (fun hc => ?_)
  · replace h := (if_neg hc).symm.trans h
    refine zi_aloadn (q := 20) dX12_mostNow_19 rfl rfl ?_
    refine zi_getI (q := 23) dX12_mostNow_20 fl_12_130 (by decide) so_68 rfl ?_
    refine zi_iconst (q := 24) dX12_mostNow_23 ki_4 rfl ?_
    refine zi_icmpne (q := 38) (q2 := 27) dX12_mostNow_24 (by decide) rfl (fun hc => ?_) (fun hc => ?_)
    · replace h := (if_neg hc).symm.trans h
      refine zi_sipush (q := 41) dX12_mostNow_38 kc_250 rfl ?_
      cases h
      exact zi_ret _ dX12_mostNow_41
    · replace h := (if_pos hc).symm.trans h
      refine zi_iconst (q := 28) dX12_mostNow_27 ki_2 rfl ?_
      refine zi_aloadn (q := 29) dX12_mostNow_28 rfl rfl ?_
      refine zi_getI (q := 32) dX12_mostNow_29 fl_12_120 (by decide) so_68 rfl ?_
      refine zi_imul (q := 33) dX12_mostNow_32 rfl ?_
      refine zi_iconst (q := 34) dX12_mostNow_33 ki_2 rfl ?_
      refine zi_isub (q := 35) dX12_mostNow_34 rfl ?_
      refine zi_goto (q := 41) dX12_mostNow_35 (by decide) ?_
      cases h
      exact zi_ret _ dX12_mostNow_41
  · replace h := (if_pos hc).symm.trans h
    refine zi_iconst (q := 9) dX12_mostNow_8 ki_2 rfl ?_
    refine zi_aloadn (q := 10) dX12_mostNow_9 rfl rfl ?_
    refine zi_getI (q := 13) dX12_mostNow_10 fl_12_116 (by decide) so_68 rfl ?_
    refine zi_imul (q := 14) dX12_mostNow_13 rfl ?_
    refine zi_iconst (q := 15) dX12_mostNow_14 ki_2 rfl ?_
    refine zi_isub (q := 16) dX12_mostNow_15 rfl ?_
    refine zi_goto (q := 41) dX12_mostNow_16 (by decide) ?_
    cases h
    exact zi_ret _ dX12_mostNow_41
set_option maxRecDepth 20000 in
theorem rj_X12_takesFigure_56 {E : Nat × (Nat → Int32)} (x3 : Int32) (s0 : Int32) (m : zM)  (x : (Bool × zM)) (h : j_X12_takesFigure_56 x3 s0 m = some x) : Rn E zX12_takesFigure 56 [none, none, none, some (.int x3)] [.int s0, .ref 68] zSH m (some (.int (bi x.1))) zSH x.2 := by
  unfold j_X12_takesFigure_56 at h
  refine zi_putI (q := 59) dX12_takesFigure_56 pl_12_133 so_68 rfl ?_
  refine zi_iloadn (q := 60) dX12_takesFigure_59 rfl rfl ?_
  obtain ⟨hz1, h⟩ := zg_some h
  cases h
  rw [show (some (Value.int (bi (decide (x3 = 1))))) = some (.int x3) from by rw [zb_dec hz1]]
  exact zi_ret _ dX12_takesFigure_60
set_option maxRecDepth 20000 in
theorem rj_X12_takesFigure_42 {E : Nat × (Nat → Int32)} (x2 : Int32) (s0 : Int32) (m : zM)  (x : (Bool × zM)) (h : j_X12_takesFigure_42 x2 s0 m = some x) : Rn E zX12_takesFigure 42 [some (.ref 68), none, some (.int x2), none] [.int s0] zSH m (some (.int (bi x.1))) zSH x.2 := by
  unfold j_X12_takesFigure_42 at h
  refine zi_istoren (q := 43) (L' := [some (.ref 68), none, some (.int x2), some (.int s0)]) dX12_takesFigure_42 (by decide) rfl rfl rfl ?_
  refine zi_aloadn (q := 44) dX12_takesFigure_43 rfl rfl ?_
  refine zi_iloadn (q := 45) dX12_takesFigure_44 rfl rfl ?_
  refine zi_ifeq (q := 52) (q2 := 48) dX12_takesFigure_45 (by decide) rfl (fun hc => ?_) (fun hc => ?_)
  · replace h := (if_pos hc).symm.trans h
    refine zi_aloadn (q := 53) dX12_takesFigure_52 rfl rfl ?_
    refine zi_getI (q := 56) dX12_takesFigure_53 fl_12_133 (by decide) so_68 rfl ?_
    refine Rn.weakm [false, false, false, true] ?_
    exact rj_X12_takesFigure_56 s0 (m.1 68 48) _ _ h
  · replace h := (if_neg hc).symm.trans h
    refine zi_iloadn (q := 49) dX12_takesFigure_48 rfl rfl ?_
    refine zi_goto (q := 56) dX12_takesFigure_49 (by decide) ?_
    refine Rn.weakm [false, false, false, true] ?_
    exact rj_X12_takesFigure_56 s0 x2 _ _ h
set_option maxRecDepth 20000 in
theorem rj_X12_takesFigure_41 {E : Nat × (Nat → Int32)} (x2 : Int32) (m : zM)  (x : (Bool × zM)) (h : j_X12_takesFigure_41 x2 m = some x) : Rn E zX12_takesFigure 41 [some (.ref 68), none, some (.int x2), none] [] zSH m (some (.int (bi x.1))) zSH x.2 := by
  unfold j_X12_takesFigure_41 at h
  refine zi_iconst (q := 42) dX12_takesFigure_41 ki_0 rfl ?_
  exact rj_X12_takesFigure_42 x2 0 _ _ h
set_option maxRecDepth 20000 in
theorem rj_X12_takesFigure_21 {E : Nat × (Nat → Int32)} (s0 : Int32) (m : zM)  (x : (Bool × zM)) (h : j_X12_takesFigure_21 s0 m = some x) : Rn E zX12_takesFigure 21 [some (.ref 68), none, none, none] [.int s0] zSH m (some (.int (bi x.1))) zSH x.2 := by
  unfold j_X12_takesFigure_21 at h
  refine zi_istoren (q := 22) (L' := [some (.ref 68), none, some (.int s0), none]) dX12_takesFigure_21 (by decide) rfl rfl rfl ?_
  refine zi_aloadn (q := 23) dX12_takesFigure_22 rfl rfl ?_
  refine zi_getI (q := 26) dX12_takesFigure_23 fl_12_133 (by decide) so_68 rfl ?_
  refine zi_ifeq (q := 41) (q2 := 29) dX12_takesFigure_26 (by decide) rfl (fun hc => ?_) (fun hc => ?_)
  · replace h := (if_pos hc).symm.trans h
    exact rj_X12_takesFigure_41 s0 _ _ h
  · replace h := (if_neg hc).symm.trans h
    refine zi_iloadn (q := 30) dX12_takesFigure_29 rfl rfl ?_
    refine zi_aloadn (q := 31) dX12_takesFigure_30 rfl rfl ?_
    obtain ⟨r2, hr2, h⟩ := Option.bind_eq_some_iff.mp h
    refine zc_V2 (q := 34) (st := [.int s0]) (S1 := [.int r2, .int s0]) (r_X12_mostNow  _ r2 hr2) dX12_takesFigure_31 cb_X12_mostNow k5_110 k5_112 ks_X12_mostNow ⟨by decide, by decide⟩ so_68 rfl rfl rfl (Nat.le_of_ble_eq_true rfl) (Or.inl rfl) rfl rfl ?_
    refine zi_icmpgt (q := 41) (q2 := 37) dX12_takesFigure_34 (by decide) rfl (fun hc => ?_) (fun hc => ?_)
    · replace h := (if_pos hc).symm.trans h
      exact rj_X12_takesFigure_41 s0 _ _ h
    · replace h := (if_neg hc).symm.trans h
      refine zi_iconst (q := 38) dX12_takesFigure_37 ki_1 rfl ?_
      refine zi_goto (q := 42) dX12_takesFigure_38 (by decide) ?_
      exact rj_X12_takesFigure_42 s0 1 _ _ h
set_option maxRecDepth 20000 in
theorem r_X12_takesFigure {E : Nat × (Nat → Int32)} (x1 : Int32) (m : zM) (x : (Bool × zM)) (h : f_X12_takesFigure x1 m = some x) : zMet E zX12_takesFigure [.ref 68, .int x1] zSH m (some (.int (bi x.1))) zSH x.2 := by
  refine zMet.of (L0 := [some (.ref 68), some (.int x1), none, none]) rfl (zfit_bi _) (Nat.le_of_ble_eq_true rfl) rfl ?_
  unfold f_X12_takesFigure at h
  refine zi_aloadn (q := 1) dX12_takesFigure_0 rfl rfl ?_
  refine zi_getI (q := 4) dX12_takesFigure_1 fl_12_133 (by decide) so_68 rfl ?_
  refine zi_iconst (q := 5) dX12_takesFigure_4 ki_m1 rfl ?_
  refine zi_icmpne (q := 12) (q2 := 8) dX12_takesFigure_5 (by decide) rfl (fun hc => ?_) (fun hc => ?_)
  · replace h := (if_neg hc).symm.trans h
    refine zi_bipush (q := 14) dX12_takesFigure_12 kb_10 rfl ?_
    refine zi_aloadn (q := 15) dX12_takesFigure_14 rfl rfl ?_
    refine zi_getI (q := 18) dX12_takesFigure_15 fl_12_133 (by decide) so_68 rfl ?_
    refine zi_imul (q := 19) dX12_takesFigure_18 rfl ?_
    refine zi_iloadn (q := 20) dX12_takesFigure_19 rfl rfl ?_
    refine zi_iadd (q := 21) dX12_takesFigure_20 rfl ?_
    refine Rn.weakm [true, false, false, false] ?_
    exact rj_X12_takesFigure_21 ((10 * (m.1 68 48)) + x1) _ _ h
  · replace h := (if_pos hc).symm.trans h
    refine zi_iloadn (q := 9) dX12_takesFigure_8 rfl rfl ?_
    refine zi_goto (q := 21) dX12_takesFigure_9 (by decide) ?_
    refine Rn.weakm [true, false, false, false] ?_
    exact rj_X12_takesFigure_21 x1 _ _ h
set_option maxRecDepth 20000 in
theorem rj_X12_takes_56 {E : Nat × (Nat → Int32)} (s0 : Int32) (m : zM)  (x : (Bool × zM)) (h : j_X12_takes_56 s0 m = some x) : Rn E zX12_takes 56 [none, none] [.int s0, .ref 68] zSH m (some (.int (bi x.1))) zSH x.2 := by
  unfold j_X12_takes_56 at h
  refine zi_iconst (q := 57) dX12_takes_56 ki_0 rfl ?_
  obtain ⟨r3, hr3, h⟩ := Option.bind_eq_some_iff.mp h
  refine zc_V2 (q := 60) (st := []) (S1 := [.int (bi r3.1)]) (r_X12_goes s0 0 _ r3 hr3) dX12_takes_57 cb_X12_goes k5_98 k5_100 ks_X12_goes ⟨by decide, by decide⟩ so_68 rfl rfl rfl (Nat.le_of_ble_eq_true rfl) (Or.inl rfl) rfl rfl ?_
  cases h
  exact zi_ret _ dX12_takes_60
set_option maxRecDepth 20000 in
theorem r_X12_takes {E : Nat × (Nat → Int32)} (x1 : Int32) (m : zM) (x : (Bool × zM)) (h : f_X12_takes x1 m = some x) : zMet E zX12_takes [.ref 68, .int x1] zSH m (some (.int (bi x.1))) zSH x.2 := by
  refine zMet.of (L0 := [some (.ref 68), some (.int x1)]) rfl (zfit_bi _) (Nat.le_of_ble_eq_true rfl) rfl ?_
  unfold f_X12_takes at h
  refine zi_aloadn (q := 1) dX12_takes_0 rfl rfl ?_
  refine zi_getI (q := 4) dX12_takes_1 fl_12_130 (by decide) so_68 rfl ?_
  by_cases he0 : (m.1 68 47) = 0
  · replace h := (if_pos he0).symm.trans h
    refine zi_tsIn (q := 32) (j := 0) dX12_takes_4 (zts_in ti_0 he0) (by decide) rfl (by decide) ?_
    refine zi_aloadn (q := 33) dX12_takes_32 rfl rfl ?_
    refine zi_iloadn (q := 34) dX12_takes_33 rfl rfl ?_
    obtain ⟨r1, hr1, h⟩ := Option.bind_eq_some_iff.mp h
    refine zc_V2 (q := 37) (st := []) (S1 := [.int (bi r1.1)]) (r_X12_takesDigit x1 _ r1 hr1) dX12_takes_34 cb_X12_takesDigit k5_94 k5_96 ks_X12_takesDigit ⟨by decide, by decide⟩ so_68 rfl rfl rfl (Nat.le_of_ble_eq_true rfl) (Or.inl rfl) rfl rfl ?_
    cases h
    exact zi_ret _ dX12_takes_37
  · replace h := (if_neg he0).symm.trans h
    by_cases he1 : (m.1 68 47) = 1
    · replace h := (if_pos he1).symm.trans h
      refine zi_tsIn (q := 38) (j := 1) dX12_takes_4 (zts_in ti_1 he1) (by decide) rfl (by decide) ?_
      refine zi_aloadn (q := 39) dX12_takes_38 rfl rfl ?_
      refine zi_iloadn (q := 40) dX12_takes_39 rfl rfl ?_
      obtain ⟨r2, hr2, h⟩ := Option.bind_eq_some_iff.mp h
      refine zc_V2 (q := 43) (st := []) (S1 := [.int (bi r2.1)]) (r_X12_takesKind x1 _ r2 hr2) dX12_takes_40 cb_X12_takesKind k5_102 k5_104 ks_X12_takesKind ⟨by decide, by decide⟩ so_68 rfl rfl rfl (Nat.le_of_ble_eq_true rfl) (Or.inl rfl) rfl rfl ?_
      cases h
      exact zi_ret _ dX12_takes_43
    · replace h := (if_neg he1).symm.trans h
      by_cases he2 : (m.1 68 47) = 2
      · replace h := (if_pos he2).symm.trans h
        refine zi_tsIn (q := 44) (j := 2) dX12_takes_4 (zts_in ti_2 he2) (by decide) rfl (by decide) ?_
        refine zi_aloadn (q := 45) dX12_takes_44 rfl rfl ?_
        refine zi_iloadn (q := 46) dX12_takes_45 rfl rfl ?_
        refine zi_bipush (q := 48) dX12_takes_46 kb_59 rfl ?_
        refine zi_icmpne (q := 55) (q2 := 51) dX12_takes_48 (by decide) rfl (fun hc => ?_) (fun hc => ?_)
        · replace h := (if_neg hc).symm.trans h
          refine zi_iconst (q := 56) dX12_takes_55 ki_0 rfl ?_
          refine Rn.weakm [false, false] ?_
          exact rj_X12_takes_56 0 _ _ h
        · replace h := (if_pos hc).symm.trans h
          refine zi_iconst (q := 52) dX12_takes_51 ki_1 rfl ?_
          refine zi_goto (q := 56) dX12_takes_52 (by decide) ?_
          refine Rn.weakm [false, false] ?_
          exact rj_X12_takes_56 1 _ _ h
      · replace h := (if_neg he2).symm.trans h
        refine zi_tsOut (q := 61) dX12_takes_4 (zts_out3 he0 he1 he2) (by decide) ?_
        refine zi_iloadn (q := 62) dX12_takes_61 rfl rfl ?_
        refine zi_bipush (q := 64) dX12_takes_62 kb_48 rfl ?_
        refine zi_bipush (q := 66) dX12_takes_64 kb_57 rfl ?_
        obtain ⟨r4, hr4, h⟩ := Option.bind_eq_some_iff.mp h
        refine zc_S2 (q := 69) (st := []) (S1 := [.int (bi r4)]) (r_X12_within x1 48 57 _ r4 hr4) dX12_takes_66 cb_X12_within k5_71 k5_72 ⟨by decide, by decide⟩ rfl (Nat.le_of_ble_eq_true rfl) (Or.inl rfl) rfl rfl ?_
        refine zi_ifeq (q := 83) (q2 := 72) dX12_takes_69 (by decide) rfl (fun hc => ?_) (fun hc => ?_)
        · replace h := (if_pos hc).symm.trans h
          refine zi_aloadn (q := 84) dX12_takes_83 rfl rfl ?_
          refine zi_iloadn (q := 85) dX12_takes_84 rfl rfl ?_
          obtain ⟨r5, hr5, h⟩ := Option.bind_eq_some_iff.mp h
          refine zc_V2 (q := 88) (st := []) (S1 := [.int (bi r5.1)]) (r_X12_takesSign x1 _ r5 hr5) dX12_takes_85 cb_X12_takesSign k5_114 k5_116 ks_X12_takesSign ⟨by decide, by decide⟩ so_68 rfl rfl rfl (Nat.le_of_ble_eq_true rfl) (Or.inl rfl) rfl rfl ?_
          cases h
          exact zi_ret _ dX12_takes_88
        · replace h := (if_neg hc).symm.trans h
          refine zi_aloadn (q := 73) dX12_takes_72 rfl rfl ?_
          refine zi_iloadn (q := 74) dX12_takes_73 rfl rfl ?_
          refine zi_bipush (q := 76) dX12_takes_74 kb_48 rfl ?_
          refine zi_isub (q := 77) dX12_takes_76 rfl ?_
          obtain ⟨r6, hr6, h⟩ := Option.bind_eq_some_iff.mp h
          refine zc_V2 (q := 80) (st := []) (S1 := [.int (bi r6.1)]) (r_X12_takesFigure (x1 - 48) _ r6 hr6) dX12_takes_77 cb_X12_takesFigure k5_106 k5_108 ks_X12_takesFigure ⟨by decide, by decide⟩ so_68 rfl rfl rfl (Nat.le_of_ble_eq_true rfl) (Or.inl rfl) rfl rfl ?_
          refine zi_goto (q := 88) dX12_takes_80 (by decide) ?_
          cases h
          exact zi_ret _ dX12_takes_88
set_option maxRecDepth 20000 in
theorem rb_X12_goAlong_17 {E : Nat × (Nat → Int32)}   (s : (Int32 × zM)) (rv : Option Value) (m' : zM) (x : ((Int32 × zM) ⊕ (Int32 × zM))) (h : b_X12_goAlong_17  s = some x) (KI : ∀ s1 : (Int32 × zM), x = .inl s1 → Rn E zX12_goAlong 17 [some (.ref 68), none, some (.int s1.1)] [] zSH s1.2 rv zSH m') (KO : ∀ r1 : (Int32 × zM), x = .inr r1 → Rn E zX12_goAlong 44 [none, none, some (.int r1.1)] [] zSH r1.2 rv zSH m') : Rn E zX12_goAlong 17 [some (.ref 68), none, some (.int s.1)] [] zSH s.2 rv zSH m' := by
  unfold b_X12_goAlong_17 at h
  refine zi_iloadn (q := 18) dX12_goAlong_17 rfl rfl ?_
  refine zi_aloadn (q := 19) dX12_goAlong_18 rfl rfl ?_
  refine zi_getI (q := 22) dX12_goAlong_19 fl_12_127 (by decide) so_68 rfl ?_
  refine zi_icmpge (q := 44) (q2 := 25) dX12_goAlong_22 (by decide) rfl (fun hc => ?_) (fun hc => ?_)
  · replace h := (if_pos hc).symm.trans h
    refine Rn.weakm [false, false, true] ?_
    exact KO (s.1, s.2) (Option.some.inj h).symm
  · replace h := (if_neg hc).symm.trans h
    refine zi_aloadn (q := 26) dX12_goAlong_25 rfl rfl ?_
    refine zi_aloadn (q := 27) dX12_goAlong_26 rfl rfl ?_
    refine zi_getA (q := 30) dX12_goAlong_27 fl_12_7 so_68 rfl rfl ?_
    refine zi_iloadn (q := 31) dX12_goAlong_30 rfl rfl ?_
    obtain ⟨hz2, h⟩ := zg_some h
    refine zi_iald2 (q := 32) dX12_goAlong_31 so_69 (zin_vp hz2) rfl rfl ?_
    obtain ⟨r3, hr3, h⟩ := Option.bind_eq_some_iff.mp h
    refine zc_V2 (q := 35) (st := []) (S1 := [.int (bi r3.1)]) (r_X12_takes (s.2.1 69 s.1.toNatClampNeg) _ r3 hr3) dX12_goAlong_32 cb_X12_takes k5_90 k5_92 ks_X12_takes ⟨by decide, by decide⟩ so_68 rfl rfl rfl (Nat.le_of_ble_eq_true rfl) (Or.inl rfl) rfl rfl ?_
    refine zi_ifeq (q := 44) (q2 := 38) dX12_goAlong_35 (by decide) rfl (fun hc => ?_) (fun hc => ?_)
    · replace h := (if_pos hc).symm.trans h
      refine Rn.weakm [false, false, true] ?_
      exact KO (s.1, r3.2) (Option.some.inj h).symm
    · replace h := (if_neg hc).symm.trans h
      refine zi_iinc (q := 41) (v := s.1 + 1) (L' := [some (.ref 68), none, some (.int (s.1 + 1))]) dX12_goAlong_38 rfl (by rw [ki_1]) (by decide) rfl rfl rfl ?_
      refine zi_goto (q := 17) dX12_goAlong_41 (by decide) ?_
      exact KI ((s.1 + 1), r3.2) (Option.some.inj h).symm
set_option maxRecDepth 20000 in
theorem r_X12_goAlong {E : Nat × (Nat → Int32)} (x1 : Int32) (m : zM) (x : (Int32 × zM)) (h : f_X12_goAlong x1 m = some x) : zMet E zX12_goAlong [.ref 68, .int x1] zSH m (some (.int x.1)) zSH x.2 := by
  refine zMet.of (L0 := [some (.ref 68), some (.int x1), none]) rfl rfl (Nat.le_of_ble_eq_true rfl) rfl ?_
  unfold f_X12_goAlong at h
  refine zi_aloadn (q := 1) dX12_goAlong_0 rfl rfl ?_
  refine zi_iconst (q := 2) dX12_goAlong_1 ki_0 rfl ?_
  refine zi_putI (q := 5) dX12_goAlong_2 pl_12_130 so_68 rfl ?_
  refine zi_aloadn (q := 6) dX12_goAlong_5 rfl rfl ?_
  refine zi_iconst (q := 7) dX12_goAlong_6 ki_m1 rfl ?_
  refine zi_putI (q := 10) dX12_goAlong_7 pl_12_133 so_68 rfl ?_
  refine zi_aloadn (q := 11) dX12_goAlong_10 rfl rfl ?_
  refine zi_iloadn (q := 12) dX12_goAlong_11 rfl rfl ?_
  obtain ⟨hz1, h⟩ := zg_some h
  refine zi_putZ (q := 15) dX12_goAlong_12 pl_12_154 so_68 hz1 rfl ?_
  refine zi_iconst (q := 16) dX12_goAlong_15 ki_0 rfl ?_
  refine zi_istoren (q := 17) (L' := [some (.ref 68), some (.int x1), some (.int 0)]) dX12_goAlong_16 (by decide) rfl rfl rfl ?_
  obtain ⟨r4, hr4, h⟩ := Option.bind_eq_some_iff.mp h
  refine Rn.weakm [true, false, true] ?_
  refine zloop_rn (P := fun w : (Int32 × zM) => Rn E zX12_goAlong 17 [some (.ref 68), none, some (.int w.1)] [] zSH w.2 (some (.int x.1)) zSH x.2) (X := fun w : (Int32 × zM) => Rn E zX12_goAlong 44 [none, none, some (.int w.1)] [] zSH w.2 (some (.int x.1)) zSH x.2) (fun w w0 hb KI KX => rb_X12_goAlong_17  w _ _ w0 hb KI KX) zFU _ r4 hr4 ?_
  show Rn E zX12_goAlong 44 [none, none, some (.int r4.1)] [] zSH r4.2 (some (.int x.1)) zSH x.2
  refine zi_iloadn (q := 45) dX12_goAlong_44 rfl rfl ?_
  cases h
  exact zi_ret _ dX12_goAlong_45
