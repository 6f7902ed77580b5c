set_option maxRecDepth 20000 in
theorem r_X12_fault {E : Nat × (Nat → Int32)}  (m : zM) (x : (Int32 × zM)) (h : f_X12_fault  m = some x) : zMet E zX12_fault [.ref 68] zSH m (some (.int x.1)) zSH x.2 := by
  refine zMet.of (L0 := [some (.ref 68)]) rfl rfl (Nat.le_of_ble_eq_true rfl) rfl ?_
  unfold f_X12_fault at h
  refine zi_aloadn (q := 1) dX12_fault_0 rfl rfl ?_
  obtain ⟨r1, hr1, h⟩ := Option.bind_eq_some_iff.mp h
  refine zc_V2 (q := 4) (st := []) (S1 := [.int (bi r1)]) (r_X12_isGlass  _ r1 hr1) dX12_fault_1 cb_X12_isGlass k5_82 k5_84 ks_X12_isGlass ⟨by decide, by decide⟩ so_68 rfl rfl rfl (Nat.le_of_ble_eq_true rfl) (Or.inl rfl) rfl rfl ?_
  refine zi_ifeq (q := 15) (q2 := 7) dX12_fault_4 (by decide) rfl (fun hc => ?_) (fun hc => ?_)
  · replace h := (if_pos hc).symm.trans h
    refine zi_sipush (q := 18) dX12_fault_15 kc_m10003 rfl ?_
    cases h
    exact zi_ret _ dX12_fault_18
  · replace h := (if_neg hc).symm.trans h
    refine zi_aloadn (q := 8) dX12_fault_7 rfl rfl ?_
    refine zi_iconst (q := 9) dX12_fault_8 ki_0 rfl ?_
    obtain ⟨r2, hr2, h⟩ := Option.bind_eq_some_iff.mp h
    refine zc_V2 (q := 12) (st := []) (S1 := [.int r2.1]) (r_X12_goAlong 0 _ r2 hr2) dX12_fault_9 cb_X12_goAlong k5_86 k5_88 ks_X12_goAlong ⟨by decide, by decide⟩ so_68 rfl rfl rfl (Nat.le_of_ble_eq_true rfl) (Or.inl rfl) rfl rfl ?_
    refine zi_goto (q := 18) dX12_fault_12 (by decide) ?_
    cases h
    exact zi_ret _ dX12_fault_18
set_option maxRecDepth 20000 in
theorem rb_X2_copyFrom_v1_2 {E : Nat × (Nat → Int32)}   (s : (Int32 × zM)) (rv : Option Value) (m' : zM) (x : ((Int32 × zM) ⊕ (zM))) (h : b_X2_copyFrom_v1_2  s = some x) (KI : ∀ s1 : (Int32 × zM), x = .inl s1 → Rn E zX2_copyFrom 2 [some (.ref 19), some (.ref 3), some (.int s1.1)] [] zSH s1.2 rv zSH m') (KO : ∀ r1 : (zM), x = .inr r1 → Rn E zX2_copyFrom 61 [none, none, none] [] zSH r1 rv zSH m') : Rn E zX2_copyFrom 2 [some (.ref 19), some (.ref 3), some (.int s.1)] [] zSH s.2 rv zSH m' := by
  unfold b_X2_copyFrom_v1_2 at h
  refine zi_iloadn (q := 3) dX2_copyFrom_2 rfl rfl ?_
  refine zi_iconst (q := 4) dX2_copyFrom_3 ki_5 rfl ?_
  refine zi_icmpge (q := 61) (q2 := 7) dX2_copyFrom_4 (by decide) rfl (fun hc => ?_) (fun hc => ?_)
  · replace h := (if_pos hc).symm.trans h
    refine Rn.weakm [false, false, false] ?_
    exact KO s.2 (Option.some.inj h).symm
  · replace h := (if_neg hc).symm.trans h
    refine zi_aloadn (q := 8) dX2_copyFrom_7 rfl rfl ?_
    refine zi_getA (q := 11) dX2_copyFrom_8 fl_2_9 so_19 rfl rfl ?_
    refine zi_iloadn (q := 12) dX2_copyFrom_11 rfl rfl ?_
    refine zi_aloadn (q := 13) dX2_copyFrom_12 rfl rfl ?_
    refine zi_getA (q := 16) dX2_copyFrom_13 fl_2_9 so_3 rfl rfl ?_
    refine zi_iloadn (q := 17) dX2_copyFrom_16 rfl rfl ?_
    obtain ⟨hz1, h⟩ := zg_some h
    refine zi_bald2 (q := 18) dX2_copyFrom_17 so_4 (zin_vp hz1) rfl rfl ?_
    obtain ⟨hz2, h⟩ := zg_some h
    obtain ⟨hz3, h⟩ := zg_some h
    refine zi_bast2 (q := 19) dX2_copyFrom_18 so_20 (zin_vp hz2) rfl hz3 rfl ?_
    refine zi_aloadn (q := 20) dX2_copyFrom_19 rfl rfl ?_
    refine zi_getA (q := 23) dX2_copyFrom_20 fl_2_15 so_19 rfl rfl ?_
    refine zi_iloadn (q := 24) dX2_copyFrom_23 rfl rfl ?_
    refine zi_aloadn (q := 25) dX2_copyFrom_24 rfl rfl ?_
    refine zi_getA (q := 28) dX2_copyFrom_25 fl_2_15 so_3 rfl rfl ?_
    refine zi_iloadn (q := 29) dX2_copyFrom_28 rfl rfl ?_
    obtain ⟨hz4, h⟩ := zg_some h
    refine zi_iald2 (q := 30) dX2_copyFrom_29 so_5 (zin_vp hz4) rfl rfl ?_
    obtain ⟨hz5, h⟩ := zg_some h
    refine zi_iast2 (q := 31) dX2_copyFrom_30 so_21 (zin_vp hz5) rfl rfl ?_
    refine zi_aloadn (q := 32) dX2_copyFrom_31 rfl rfl ?_
    refine zi_getA (q := 35) dX2_copyFrom_32 fl_2_19 so_19 rfl rfl ?_
    refine zi_iloadn (q := 36) dX2_copyFrom_35 rfl rfl ?_
    refine zi_aloadn (q := 37) dX2_copyFrom_36 rfl rfl ?_
    refine zi_getA (q := 40) dX2_copyFrom_37 fl_2_19 so_3 rfl rfl ?_
    refine zi_iloadn (q := 41) dX2_copyFrom_40 rfl rfl ?_
    obtain ⟨hz6, h⟩ := zg_some h
    refine zi_iald2 (q := 42) dX2_copyFrom_41 so_6 (zin_vp hz6) rfl rfl ?_
    obtain ⟨hz7, h⟩ := zg_some h
    refine zi_iast2 (q := 43) dX2_copyFrom_42 so_22 (zin_vp hz7) rfl rfl ?_
    refine zi_aloadn (q := 44) dX2_copyFrom_43 rfl rfl ?_
    refine zi_getA (q := 47) dX2_copyFrom_44 fl_2_22 so_19 rfl rfl ?_
    refine zi_iloadn (q := 48) dX2_copyFrom_47 rfl rfl ?_
    refine zi_aloadn (q := 49) dX2_copyFrom_48 rfl rfl ?_
    refine zi_getA (q := 52) dX2_copyFrom_49 fl_2_22 so_3 rfl rfl ?_
    refine zi_iloadn (q := 53) dX2_copyFrom_52 rfl rfl ?_
    obtain ⟨hz8, h⟩ := zg_some h
    refine zi_iald2 (q := 54) dX2_copyFrom_53 so_7 (zin_vp hz8) rfl rfl ?_
    obtain ⟨hz9, h⟩ := zg_some h
    refine zi_iast2 (q := 55) dX2_copyFrom_54 so_23 (zin_vp hz9) rfl rfl ?_
    refine zi_iinc (q := 58) (v := s.1 + 1) (L' := [some (.ref 19), some (.ref 3), some (.int (s.1 + 1))]) dX2_copyFrom_55 rfl (by rw [ki_1]) (by decide) rfl rfl rfl ?_
    refine zi_goto (q := 2) dX2_copyFrom_58 (by decide) ?_
    exact KI ((s.1 + 1), (zi (zi (zi (zi s.2 20 s.1.toNatClampNeg (s.2.1 4 s.1.toNatClampNeg)) 21 s.1.toNatClampNeg (s.2.1 5 s.1.toNatClampNeg)) 22 s.1.toNatClampNeg (s.2.1 6 s.1.toNatClampNeg)) 23 s.1.toNatClampNeg (s.2.1 7 s.1.toNatClampNeg))) (Option.some.inj h).symm
set_option maxRecDepth 20000 in
theorem r_X2_copyFrom_v1 {E : Nat × (Nat → Int32)}  (m : zM) (x : zM) (h : f_X2_copyFrom_v1  m = some x) : zMet E zX2_copyFrom [.ref 19, .ref 3] zSH m none zSH x := by
  refine zMet.of (L0 := [some (.ref 19), some (.ref 3), none]) rfl trivial (Nat.le_of_ble_eq_true rfl) rfl ?_
  unfold f_X2_copyFrom_v1 at h
  refine zi_iconst (q := 1) dX2_copyFrom_0 ki_0 rfl ?_
  refine zi_istoren (q := 2) (L' := [some (.ref 19), some (.ref 3), some (.int 0)]) dX2_copyFrom_1 (by decide) rfl rfl rfl ?_
  obtain ⟨r10, hr10, h⟩ := Option.bind_eq_some_iff.mp h
  refine zloop_rn (P := fun w : (Int32 × zM) => Rn E zX2_copyFrom 2 [some (.ref 19), some (.ref 3), some (.int w.1)] [] zSH w.2 none zSH x) (X := fun w : (zM) => Rn E zX2_copyFrom 61 [none, none, none] [] zSH w none zSH x) (fun w w0 hb KI KX => rb_X2_copyFrom_v1_2  w _ _ w0 hb KI KX) zFU _ r10 hr10 ?_
  show Rn E zX2_copyFrom 61 [none, none, none] [] zSH r10 none zSH x
  cases h
  exact zi_ret _ dX2_copyFrom_61
set_option maxRecDepth 20000 in
theorem r_J9_max_7cf53 {E : Nat × (Nat → Int32)} (x0 : Int32) (x1 : Int32) (m : zM) (x : Int32) (h : f_J9_max_7cf53 x0 x1 m = some x) : zMet E zJ9_max_7cf53 [.int x0, .int x1] zSH m (some (.int x)) zSH m := by
  refine zMet.of (L0 := [some (.int x0), some (.int x1)]) (by decide +kernel) rfl (Nat.le_of_ble_eq_true rfl) rfl ?_
  unfold f_J9_max_7cf53 at h
  refine zi_iloadn (q := 1) dJ9_max_7cf53_0 rfl rfl ?_
  refine zi_iloadn (q := 2) dJ9_max_7cf53_1 rfl rfl ?_
  refine zi_icmplt (q := 9) (q2 := 5) dJ9_max_7cf53_2 (by decide) rfl (fun hc => ?_) (fun hc => ?_)
  · replace h := (if_pos hc).symm.trans h
    refine zi_iloadn (q := 10) dJ9_max_7cf53_9 rfl rfl ?_
    cases h
    exact zi_ret _ dJ9_max_7cf53_10
  · replace h := (if_neg hc).symm.trans h
    refine zi_iloadn (q := 6) dJ9_max_7cf53_5 rfl rfl ?_
    refine zi_goto (q := 10) dJ9_max_7cf53_6 (by decide) ?_
    cases h
    exact zi_ret _ dJ9_max_7cf53_10
set_option maxRecDepth 20000 in
theorem rj_X2_sensedAt_76 {E : Nat × (Nat → Int32)} (x1 : Int32) (x2 : Int32) (x3 : Int32) (x4 : Int32) (m : zM) (rv : Option Value) (m' : zM) (x : ((Int32 × Int32) ⊕ (Int32))) (h : j_X2_sensedAt_76 x1 x2 x3 x4 m = some x) (KI : ∀ s1 : (Int32 × Int32), x = .inl s1 → Rn E zX2_sensedAt 5 [some (.ref 19), some (.int x1), some (.int x2), some (.int s1.1), some (.int s1.2), none, none] [] zSH m rv zSH m') : Rn E zX2_sensedAt 76 [some (.ref 19), some (.int x1), some (.int x2), some (.int x3), some (.int x4), none, none] [] zSH m rv zSH m' := by
  unfold j_X2_sensedAt_76 at h
  refine zi_iinc (q := 79) (v := x4 + 1) (L' := [some (.ref 19), some (.int x1), some (.int x2), some (.int x3), some (.int (x4 + 1)), none, none]) dX2_sensedAt_76 rfl (by rw [ki_1]) (by decide) rfl rfl rfl ?_
  refine zi_goto (q := 5) dX2_sensedAt_79 (by decide) ?_
  exact KI (x3, (x4 + 1)) (Option.some.inj h).symm
set_option maxRecDepth 20000 in
theorem rb_X2_sensedAt_5 {E : Nat × (Nat → Int32)} (x1 : Int32) (x2 : Int32) (m : zM) (s : (Int32 × Int32)) (rv : Option Value) (m' : zM) (x : ((Int32 × Int32) ⊕ (Int32))) (h : b_X2_sensedAt_5 x1 x2 m s = some x) (KI : ∀ s1 : (Int32 × Int32), x = .inl s1 → Rn E zX2_sensedAt 5 [some (.ref 19), some (.int x1), some (.int x2), some (.int s1.1), some (.int s1.2), none, none] [] zSH m rv zSH m') (KO : ∀ r1 : (Int32), x = .inr r1 → Rn E zX2_sensedAt 82 [none, none, none, some (.int r1), none, none, none] [] zSH m rv zSH m') : Rn E zX2_sensedAt 5 [some (.ref 19), some (.int x1), some (.int x2), some (.int s.1), some (.int s.2), none, none] [] zSH m rv zSH m' := by
  unfold b_X2_sensedAt_5 at h
  refine zi_iload (q := 7) dX2_sensedAt_5 rfl rfl ?_
  refine zi_iconst (q := 8) dX2_sensedAt_7 ki_5 rfl ?_
  refine zi_icmpge (q := 82) (q2 := 11) dX2_sensedAt_8 (by decide) rfl (fun hc => ?_) (fun hc => ?_)
  · replace h := (if_pos hc).symm.trans h
    refine Rn.weakm [false, false, false, true, false, false, false] ?_
    exact KO s.1 (Option.some.inj h).symm
  · replace h := (if_neg hc).symm.trans h
    refine zi_aloadn (q := 12) dX2_sensedAt_11 rfl rfl ?_
    refine zi_getA (q := 15) dX2_sensedAt_12 fl_2_9 so_19 rfl rfl ?_
    refine zi_iload (q := 17) dX2_sensedAt_15 rfl rfl ?_
    obtain ⟨hz1, h⟩ := zg_some h
    refine zi_bald2 (q := 18) dX2_sensedAt_17 so_20 (zin_vp hz1) rfl rfl ?_
    refine zi_ifeq (q := 76) (q2 := 21) dX2_sensedAt_18 (by decide) rfl (fun hc => ?_) (fun hc => ?_)
    · replace h := (if_pos hc).symm.trans h
      exact rj_X2_sensedAt_76 x1 x2 s.1 s.2 _ _ _ _ h KI
    · replace h := (if_neg hc).symm.trans h
      refine zi_iconst (q := 22) dX2_sensedAt_21 ki_2 rfl ?_
      refine zi_iloadn (q := 23) dX2_sensedAt_22 rfl rfl ?_
      refine zi_imul (q := 24) dX2_sensedAt_23 rfl ?_
      refine zi_aloadn (q := 25) dX2_sensedAt_24 rfl rfl ?_
      refine zi_getA (q := 28) dX2_sensedAt_25 fl_2_15 so_19 rfl rfl ?_
      refine zi_iload (q := 30) dX2_sensedAt_28 rfl rfl ?_
      obtain ⟨hz2, h⟩ := zg_some h
      refine zi_iald2 (q := 31) dX2_sensedAt_30 so_21 (zin_vp hz2) rfl rfl ?_
      refine zi_isub (q := 32) dX2_sensedAt_31 rfl ?_
      refine zi_istore (q := 34) (L' := [some (.ref 19), some (.int x1), some (.int x2), some (.int s.1), some (.int s.2), some (.int ((2 * x1) - (m.1 21 s.2.toNatClampNeg))), none]) dX2_sensedAt_32 (by decide) rfl rfl rfl ?_
      refine zi_iconst (q := 35) dX2_sensedAt_34 ki_2 rfl ?_
      refine zi_iloadn (q := 36) dX2_sensedAt_35 rfl rfl ?_
      refine zi_imul (q := 37) dX2_sensedAt_36 rfl ?_
      refine zi_aloadn (q := 38) dX2_sensedAt_37 rfl rfl ?_
      refine zi_getA (q := 41) dX2_sensedAt_38 fl_2_19 so_19 rfl rfl ?_
      refine zi_iload (q := 43) dX2_sensedAt_41 rfl rfl ?_
      obtain ⟨hz3, h⟩ := zg_some h
      refine zi_iald2 (q := 44) dX2_sensedAt_43 so_22 (zin_vp hz3) rfl rfl ?_
      refine zi_isub (q := 45) dX2_sensedAt_44 rfl ?_
      refine zi_istore (q := 47) (L' := [some (.ref 19), some (.int x1), some (.int x2), some (.int s.1), some (.int s.2), some (.int ((2 * x1) - (m.1 21 s.2.toNatClampNeg))), some (.int ((2 * x2) - (m.1 22 s.2.toNatClampNeg)))]) dX2_sensedAt_45 (by decide) rfl rfl rfl ?_
      refine zi_iloadn (q := 48) dX2_sensedAt_47 rfl rfl ?_
      refine zi_iconst (q := 49) dX2_sensedAt_48 ki_0 rfl ?_
      refine zi_aloadn (q := 50) dX2_sensedAt_49 rfl rfl ?_
      refine zi_getA (q := 53) dX2_sensedAt_50 fl_2_22 so_19 rfl rfl ?_
      refine zi_iload (q := 55) dX2_sensedAt_53 rfl rfl ?_
      obtain ⟨hz4, h⟩ := zg_some h
      refine zi_iald2 (q := 56) dX2_sensedAt_55 so_23 (zin_vp hz4) rfl rfl ?_
      refine zi_bipush (q := 58) dX2_sensedAt_56 kb_12 rfl ?_
      refine zi_iload (q := 60) dX2_sensedAt_58 rfl rfl ?_
      refine zi_iload (q := 62) dX2_sensedAt_60 rfl rfl ?_
      refine zi_imul (q := 63) dX2_sensedAt_62 rfl ?_
      refine zi_iload (q := 65) dX2_sensedAt_63 rfl rfl ?_
      refine zi_iload (q := 67) dX2_sensedAt_65 rfl rfl ?_
      refine zi_imul (q := 68) dX2_sensedAt_67 rfl ?_
      refine zi_iadd (q := 69) dX2_sensedAt_68 rfl ?_
      refine zi_imul (q := 70) dX2_sensedAt_69 rfl ?_
      refine zi_isub (q := 71) dX2_sensedAt_70 rfl ?_
      obtain ⟨r5, hr5, h⟩ := Option.bind_eq_some_iff.mp h
      refine zc_S2 (q := 74) (st := [.int s.1]) (S1 := [.int r5, .int s.1]) (r_J9_max_7cf53 0 ((m.1 23 s.2.toNatClampNeg) - (12 * ((((2 * x1) - (m.1 21 s.2.toNatClampNeg)) * ((2 * x1) - (m.1 21 s.2.toNatClampNeg))) + (((2 * x2) - (m.1 22 s.2.toNatClampNeg)) * ((2 * x2) - (m.1 22 s.2.toNatClampNeg)))))) _ r5 hr5) dX2_sensedAt_71 cb_J9_max_7cf53 k2_239 k3_0 ⟨by decide, by decide⟩ rfl (Nat.le_of_ble_eq_true rfl) (Or.inl rfl) rfl rfl ?_
      refine zi_iadd (q := 75) dX2_sensedAt_74 rfl ?_
      refine zi_istoren (q := 76) (L' := [some (.ref 19), some (.int x1), some (.int x2), some (.int (s.1 + r5)), some (.int s.2), some (.int ((2 * x1) - (m.1 21 s.2.toNatClampNeg))), some (.int ((2 * x2) - (m.1 22 s.2.toNatClampNeg)))]) dX2_sensedAt_75 (by decide) rfl rfl rfl ?_
      refine Rn.weakm [true, true, true, true, true, false, false] ?_
      exact rj_X2_sensedAt_76 x1 x2 (s.1 + r5) s.2 _ _ _ _ h KI
set_option maxRecDepth 20000 in
theorem r_X2_sensedAt {E : Nat × (Nat → Int32)} (x1 : Int32) (x2 : Int32) (m : zM) (x : Int32) (h : f_X2_sensedAt x1 x2 m = some x) : zMet E zX2_sensedAt [.ref 19, .int x1, .int x2] zSH m (some (.int x)) zSH m := by
  refine zMet.of (L0 := [some (.ref 19), some (.int x1), some (.int x2), none, none, none, none]) rfl rfl (Nat.le_of_ble_eq_true rfl) rfl ?_
  unfold f_X2_sensedAt at h
  refine zi_iconst (q := 1) dX2_sensedAt_0 ki_0 rfl ?_
  refine zi_istoren (q := 2) (L' := [some (.ref 19), some (.int x1), some (.int x2), some (.int 0), none, none, none]) dX2_sensedAt_1 (by decide) rfl rfl rfl ?_
  refine zi_iconst (q := 3) dX2_sensedAt_2 ki_0 rfl ?_
  refine zi_istore (q := 5) (L' := [some (.ref 19), some (.int x1), some (.int x2), some (.int 0), some (.int 0), none, none]) dX2_sensedAt_3 (by decide) rfl rfl rfl ?_
  obtain ⟨r6, hr6, h⟩ := Option.bind_eq_some_iff.mp h
  refine zloop_rn (P := fun w : (Int32 × Int32) => Rn E zX2_sensedAt 5 [some (.ref 19), some (.int x1), some (.int x2), some (.int w.1), some (.int w.2), none, none] [] zSH m (some (.int x)) zSH m) (X := fun w : (Int32) => Rn E zX2_sensedAt 82 [none, none, none, some (.int w), none, none, none] [] zSH m (some (.int x)) zSH m) (fun w w0 hb KI KX => rb_X2_sensedAt_5 x1 x2 m w _ _ w0 hb KI KX) zFU _ r6 hr6 ?_
  show Rn E zX2_sensedAt 82 [none, none, none, some (.int r6), none, none, none] [] zSH m (some (.int x)) zSH m
  refine zi_iloadn (q := 83) dX2_sensedAt_82 rfl rfl ?_
  cases h
  exact zi_ret _ dX2_sensedAt_83
set_option maxRecDepth 20000 in
theorem rb_X9_feel_2 {E : Nat × (Nat → Int32)}   (s : (Int32 × zM)) (rv : Option Value) (m' : zM) (x : ((Int32 × zM) ⊕ (zM))) (h : b_X9_feel_2  s = some x) (KI : ∀ s1 : (Int32 × zM), x = .inl s1 → Rn E zX9_feel 2 [some (.ref 31), some (.ref 19), some (.int s1.1)] [] zSH s1.2 rv zSH m') (KO : ∀ r1 : (zM), x = .inr r1 → Rn E zX9_feel 47 [none, none, none] [] zSH r1 rv zSH m') : Rn E zX9_feel 2 [some (.ref 31), some (.ref 19), some (.int s.1)] [] zSH s.2 rv zSH m' := by
  unfold b_X9_feel_2 at h
  refine zi_iloadn (q := 3) dX9_feel_2 rfl rfl ?_
  refine zi_aloadn (q := 4) dX9_feel_3 rfl rfl ?_
  refine zi_getA (q := 7) dX9_feel_4 fl_9_31 so_31 rfl rfl ?_
  refine zi_getI (q := 10) dX9_feel_7 fl_9_41 (by decide) so_14 rfl ?_
  refine zi_icmpge (q := 47) (q2 := 13) dX9_feel_10 (by decide) rfl (fun hc => ?_) (fun hc => ?_)
  · replace h := (if_pos hc).symm.trans h
    refine Rn.weakm [false, false, false] ?_
    exact KO s.2 (Option.some.inj h).symm
  · replace h := (if_neg hc).symm.trans h
    refine zi_aloadn (q := 14) dX9_feel_13 rfl rfl ?_
    refine zi_getA (q := 17) dX9_feel_14 fl_9_18 so_31 rfl rfl ?_
    refine zi_iloadn (q := 18) dX9_feel_17 rfl rfl ?_
    refine zi_aloadn (q := 19) dX9_feel_18 rfl rfl ?_
    refine zi_aloadn (q := 20) dX9_feel_19 rfl rfl ?_
    refine zi_getA (q := 23) dX9_feel_20 fl_9_31 so_31 rfl rfl ?_
    refine zi_getA (q := 26) dX9_feel_23 fl_9_47 so_14 rfl rfl ?_
    refine zi_iloadn (q := 27) dX9_feel_26 rfl rfl ?_
    obtain ⟨hz1, h⟩ := zg_some h
    refine zi_iald2 (q := 28) dX9_feel_27 so_15 (zin_vp hz1) rfl rfl ?_
    refine zi_aloadn (q := 29) dX9_feel_28 rfl rfl ?_
    refine zi_getA (q := 32) dX9_feel_29 fl_9_31 so_31 rfl rfl ?_
    refine zi_getA (q := 35) dX9_feel_32 fl_9_50 so_14 rfl rfl ?_
    refine zi_iloadn (q := 36) dX9_feel_35 rfl rfl ?_
    obtain ⟨hz2, h⟩ := zg_some h
    refine zi_iald2 (q := 37) dX9_feel_36 so_16 (zin_vp hz2) rfl rfl ?_
    obtain ⟨r3, hr3, h⟩ := Option.bind_eq_some_iff.mp h
    refine zc_V2 (q := 40) (st := [.int s.1, .ref 34]) (S1 := [.int r3, .int s.1, .ref 34]) (r_X2_sensedAt (s.2.1 15 s.1.toNatClampNeg) (s.2.1 16 s.1.toNatClampNeg) _ r3 hr3) dX9_feel_37 cb_X2_sensedAt k2_235 k2_236 k2_237 ⟨by decide, by decide⟩ so_19 rfl rfl rfl (Nat.le_of_ble_eq_true rfl) (Or.inl rfl) rfl rfl ?_
    obtain ⟨hz4, h⟩ := zg_some h
    refine zi_iast2 (q := 41) dX9_feel_40 so_34 (zin_vp hz4) rfl rfl ?_
    refine zi_iinc (q := 44) (v := s.1 + 1) (L' := [some (.ref 31), some (.ref 19), some (.int (s.1 + 1))]) dX9_feel_41 rfl (by rw [ki_1]) (by decide) rfl rfl rfl ?_
    refine zi_goto (q := 2) dX9_feel_44 (by decide) ?_
    exact KI ((s.1 + 1), (zi s.2 34 s.1.toNatClampNeg r3)) (Option.some.inj h).symm
set_option maxRecDepth 20000 in
theorem r_X9_feel {E : Nat × (Nat → Int32)}  (m : zM) (x : zM) (h : f_X9_feel  m = some x) : zMet E zX9_feel [.ref 31, .ref 19] zSH m none zSH x := by
  refine zMet.of (L0 := [some (.ref 31), some (.ref 19), none]) rfl trivial (Nat.le_of_ble_eq_true rfl) rfl ?_
  unfold f_X9_feel at h
  refine zi_iconst (q := 1) dX9_feel_0 ki_0 rfl ?_
  refine zi_istoren (q := 2) (L' := [some (.ref 31), some (.ref 19), some (.int 0)]) dX9_feel_1 (by decide) rfl rfl rfl ?_
  obtain ⟨r5, hr5, h⟩ := Option.bind_eq_some_iff.mp h
  refine zloop_rn (P := fun w : (Int32 × zM) => Rn E zX9_feel 2 [some (.ref 31), some (.ref 19), some (.int w.1)] [] zSH w.2 none zSH x) (X := fun w : (zM) => Rn E zX9_feel 47 [none, none, none] [] zSH w none zSH x) (fun w w0 hb KI KX => rb_X9_feel_2  w _ _ w0 hb KI KX) zFU _ r5 hr5 ?_
  show Rn E zX9_feel 47 [none, none, none] [] zSH r5 none zSH x
  cases h
  exact zi_ret _ dX9_feel_47
set_option maxRecDepth 20000 in
theorem rj_X2_onCount_21 {E : Nat × (Nat → Int32)} (x1 : Int32) (x2 : Int32) (m : zM) (rv : Option Value) (m' : zM) (x : ((Int32 × Int32) ⊕ (Int32))) (h : j_X2_onCount_21 x1 x2 m = some x) (KI : ∀ s1 : (Int32 × Int32), x = .inl s1 → Rn E zX2_onCount 4 [some (.ref 19), some (.int s1.1), some (.int s1.2)] [] zSH m rv zSH m') : Rn E zX2_onCount 21 [some (.ref 19), some (.int x1), some (.int x2)] [] zSH m rv zSH m' := by
  unfold j_X2_onCount_21 at h
  refine zi_iinc (q := 24) (v := x2 + 1) (L' := [some (.ref 19), some (.int x1), some (.int (x2 + 1))]) dX2_onCount_21 rfl (by rw [ki_1]) (by decide) rfl rfl rfl ?_
  refine zi_goto (q := 4) dX2_onCount_24 (by decide) ?_
  exact KI (x1, (x2 + 1)) (Option.some.inj h).symm
set_option maxRecDepth 20000 in
theorem rb_X2_onCount_4 {E : Nat × (Nat → Int32)}  (m : zM) (s : (Int32 × Int32)) (rv : Option Value) (m' : zM) (x : ((Int32 × Int32) ⊕ (Int32))) (h : b_X2_onCount_4 m s = some x) (KI : ∀ s1 : (Int32 × Int32), x = .inl s1 → Rn E zX2_onCount 4 [some (.ref 19), some (.int s1.1), some (.int s1.2)] [] zSH m rv zSH m') (KO : ∀ r1 : (Int32), x = .inr r1 → Rn E zX2_onCount 27 [none, some (.int r1), none] [] zSH m rv zSH m') : Rn E zX2_onCount 4 [some (.ref 19), some (.int s.1), some (.int s.2)] [] zSH m rv zSH m' := by
  unfold b_X2_onCount_4 at h
  refine zi_iloadn (q := 5) dX2_onCount_4 rfl rfl ?_
  refine zi_iconst (q := 6) dX2_onCount_5 ki_5 rfl ?_
  refine zi_icmpge (q := 27) (q2 := 9) dX2_onCount_6 (by decide) rfl (fun hc => ?_) (fun hc => ?_)
  · replace h := (if_pos hc).symm.trans h
    refine Rn.weakm [false, true, false] ?_
    exact KO s.1 (Option.some.inj h).symm
  · replace h := (if_neg hc).symm.trans h
    refine zi_aloadn (q := 10) dX2_onCount_9 rfl rfl ?_
    refine zi_getA (q := 13) dX2_onCount_10 fl_2_9 so_19 rfl rfl ?_
    refine zi_iloadn (q := 14) dX2_onCount_13 rfl rfl ?_
    obtain ⟨hz1, h⟩ := zg_some h
    refine zi_bald2 (q := 15) dX2_onCount_14 so_20 (zin_vp hz1) rfl rfl ?_
    refine zi_ifeq (q := 21) (q2 := 18) dX2_onCount_15 (by decide) rfl (fun hc => ?_) (fun hc => ?_)
    · replace h := (if_pos hc).symm.trans h
      exact rj_X2_onCount_21 s.1 s.2 _ _ _ _ h KI
    · replace h := (if_neg hc).symm.trans h
      refine zi_iinc (q := 21) (v := s.1 + 1) (L' := [some (.ref 19), some (.int (s.1 + 1)), some (.int s.2)]) dX2_onCount_18 rfl (by rw [ki_1]) (by decide) rfl rfl rfl ?_
      exact rj_X2_onCount_21 (s.1 + 1) s.2 _ _ _ _ h KI
set_option maxRecDepth 20000 in
theorem r_X2_onCount {E : Nat × (Nat → Int32)}  (m : zM) (x : Int32) (h : f_X2_onCount  m = some x) : zMet E zX2_onCount [.ref 19] zSH m (some (.int x)) zSH m := by
  refine zMet.of (L0 := [some (.ref 19), none, none]) rfl rfl (Nat.le_of_ble_eq_true rfl) rfl ?_
  unfold f_X2_onCount at h
  refine zi_iconst (q := 1) dX2_onCount_0 ki_0 rfl ?_
  refine zi_istoren (q := 2) (L' := [some (.ref 19), some (.int 0), none]) dX2_onCount_1 (by decide) rfl rfl rfl ?_
  refine zi_iconst (q := 3) dX2_onCount_2 ki_0 rfl ?_
  refine zi_istoren (q := 4) (L' := [some (.ref 19), some (.int 0), some (.int 0)]) dX2_onCount_3 (by decide) rfl rfl rfl ?_
  obtain ⟨r2, hr2, h⟩ := Option.bind_eq_some_iff.mp h
  refine zloop_rn (P := fun w : (Int32 × Int32) => Rn E zX2_onCount 4 [some (.ref 19), some (.int w.1), some (.int w.2)] [] zSH m (some (.int x)) zSH m) (X := fun w : (Int32) => Rn E zX2_onCount 27 [none, some (.int w), none] [] zSH m (some (.int x)) zSH m) (fun w w0 hb KI KX => rb_X2_onCount_4 m w _ _ w0 hb KI KX) zFU _ r2 hr2 ?_
  show Rn E zX2_onCount 27 [none, some (.int r2), none] [] zSH m (some (.int x)) zSH m
  refine zi_iloadn (q := 28) dX2_onCount_27 rfl rfl ?_
  cases h
  exact zi_ret _ dX2_onCount_28
set_option maxRecDepth 20000 in
theorem r_X11_fingers {E : Nat × (Nat → Int32)}  (m : zM) (x : (Int32 × zM)) (h : f_X11_fingers  m = some x) : zMet E zX11_fingers [.ref 0] zSH m (some (.int x.1)) zSH x.2 := by
  refine zMet.of (L0 := [some (.ref 0)]) rfl rfl (Nat.le_of_ble_eq_true rfl) rfl ?_
  unfold f_X11_fingers at h
  refine zi_aloadn (q := 1) dX11_fingers_0 rfl rfl ?_
  refine zi_getA (q := 4) dX11_fingers_1 fl_11_28 so_0 rfl rfl ?_
  refine zi_getI (q := 7) dX11_fingers_4 fl_11_44 (by decide) so_13 rfl ?_
  refine zi_ifne (q := 14) (q2 := 10) dX11_fingers_7 (by decide) rfl (fun hc => ?_) (fun hc => ?_)
  · replace h := (if_neg hc).symm.trans h
    refine zi_aloadn (q := 15) dX11_fingers_14 rfl rfl ?_
    refine zi_getA (q := 18) dX11_fingers_15 fl_11_10 so_0 rfl rfl ?_
    refine zi_aloadn (q := 19) dX11_fingers_18 rfl rfl ?_
    refine zi_getA (q := 22) dX11_fingers_19 fl_11_28 so_0 rfl rfl ?_
    refine zi_getA (q := 25) dX11_fingers_22 fl_11_48 so_13 rfl rfl ?_
    refine zi_aloadn (q := 26) dX11_fingers_25 rfl rfl ?_
    refine zi_getA (q := 29) dX11_fingers_26 fl_11_28 so_0 rfl rfl ?_
    refine zi_getA (q := 32) dX11_fingers_29 fl_11_52 so_13 rfl rfl ?_
    obtain ⟨r1, hr1, h⟩ := Option.bind_eq_some_iff.mp h
    refine zc_V2 (q := 35) (st := []) (S1 := [.int (bi r1.1)]) (r_X5_read  _ r1 hr1) dX11_fingers_32 cb_X5_read k2_189 k2_190 k2_191 ⟨by decide, by decide⟩ so_1 rfl rfl rfl (Nat.le_of_ble_eq_true rfl) (Or.inl rfl) rfl rfl ?_
    refine zi_ifne (q := 42) (q2 := 38) dX11_fingers_35 (by decide) rfl (fun hc => ?_) (fun hc => ?_)
    · replace h := (if_neg hc).symm.trans h
      refine zi_aloadn (q := 43) dX11_fingers_42 rfl rfl ?_
      refine zi_getA (q := 46) dX11_fingers_43 fl_11_28 so_0 rfl rfl ?_
      refine zi_getA (q := 49) dX11_fingers_46 fl_11_52 so_13 rfl rfl ?_
      refine zi_aloadn (q := 50) dX11_fingers_49 rfl rfl ?_
      refine zi_getA (q := 53) dX11_fingers_50 fl_11_10 so_0 rfl rfl ?_
      refine zi_getA (q := 56) dX11_fingers_53 fl_11_63 so_1 rfl rfl ?_
      obtain ⟨m2, hm2, h⟩ := Option.bind_eq_some_iff.mp h
      refine zc_V2 (q := 59) (st := []) (S1 := []) (r_X2_copyFrom_v1  _ m2 hm2) dX11_fingers_56 cb_X2_copyFrom k2_230 k2_194 k2_195 ⟨by decide, by decide⟩ so_19 rfl rfl rfl (Nat.le_of_ble_eq_true rfl) (Or.inl rfl) rfl rfl ?_
      refine zi_aloadn (q := 60) dX11_fingers_59 rfl rfl ?_
      refine zi_getA (q := 63) dX11_fingers_60 fl_11_28 so_0 rfl rfl ?_
      refine zi_getA (q := 66) dX11_fingers_63 fl_11_72 so_13 rfl rfl ?_
      refine zi_aloadn (q := 67) dX11_fingers_66 rfl rfl ?_
      refine zi_getA (q := 70) dX11_fingers_67 fl_11_28 so_0 rfl rfl ?_
      refine zi_getA (q := 73) dX11_fingers_70 fl_11_52 so_13 rfl rfl ?_
      obtain ⟨m3, hm3, h⟩ := Option.bind_eq_some_iff.mp h
      refine zc_V2 (q := 76) (st := []) (S1 := []) (r_X9_feel  _ m3 hm3) dX11_fingers_73 cb_X9_feel k2_231 k2_232 k2_233 ⟨by decide, by decide⟩ so_31 rfl rfl rfl (Nat.le_of_ble_eq_true rfl) (Or.inl rfl) rfl rfl ?_
      refine zi_aloadn (q := 77) dX11_fingers_76 rfl rfl ?_
      refine zi_getA (q := 80) dX11_fingers_77 fl_11_10 so_0 rfl rfl ?_
      refine zi_iconst (q := 81) dX11_fingers_80 ki_0 rfl ?_
      refine zi_putI (q := 84) dX11_fingers_81 pl_11_36 so_1 rfl ?_
      refine zi_aloadn (q := 85) dX11_fingers_84 rfl rfl ?_
      refine zi_dup (q := 86) dX11_fingers_85 rfl rfl ?_
      refine zi_getI (q := 89) dX11_fingers_86 fl_11_81 (by decide) so_0 rfl ?_
      refine zi_iconst (q := 90) dX11_fingers_89 ki_1 rfl ?_
      refine zi_iadd (q := 91) dX11_fingers_90 rfl ?_
      refine zi_putI (q := 94) dX11_fingers_91 pl_11_81 so_0 rfl ?_
      refine zi_aloadn (q := 95) dX11_fingers_94 rfl rfl ?_
      refine zi_getA (q := 98) dX11_fingers_95 fl_11_28 so_0 rfl rfl ?_
      refine zi_getA (q := 101) dX11_fingers_98 fl_11_52 so_13 rfl rfl ?_
      obtain ⟨r4, hr4, h⟩ := Option.bind_eq_some_iff.mp h
      refine zc_V2 (q := 104) (st := []) (S1 := [.int r4]) (r_X2_onCount  _ r4 hr4) dX11_fingers_101 cb_X2_onCount k3_2 k3_3 k3_4 ⟨by decide, by decide⟩ so_19 rfl rfl rfl (Nat.le_of_ble_eq_true rfl) (Or.inl rfl) rfl rfl ?_
      cases h
      exact zi_ret _ dX11_fingers_104
    · replace h := (if_pos hc).symm.trans h
      refine zi_sipush (q := 41) dX11_fingers_38 kc_m10003 rfl ?_
      cases h
      exact zi_ret _ dX11_fingers_41
  · replace h := (if_pos hc).symm.trans h
    refine zi_sipush (q := 13) dX11_fingers_10 kc_m10003 rfl ?_
    cases h
    exact zi_ret _ dX11_fingers_13
set_option maxRecDepth 20000 in
theorem rj_X12_onMany_24 {E : Nat × (Nat → Int32)} (x2 : Int32) (s0 : Int32) (s1 : Int32) (m : zM) (rv : Option Value) (m' : zM) (x : ((Int32 × Int32) ⊕ (Int32))) (h : j_X12_onMany_24 x2 s0 s1 m = some x) (KI : ∀ s1 : (Int32 × Int32), x = .inl s1 → Rn E zX12_onMany 4 [some (.ref 68), some (.int s1.1), some (.int s1.2)] [] zSH m rv zSH m') : Rn E zX12_onMany 24 [some (.ref 68), none, some (.int x2)] [.int s0, .int s1] zSH m rv zSH m' := by
  unfold j_X12_onMany_24 at h
  refine zi_iadd (q := 25) dX12_onMany_24 rfl ?_
  refine zi_istoren (q := 26) (L' := [some (.ref 68), some (.int (s1 + s0)), some (.int x2)]) dX12_onMany_25 (by decide) rfl rfl rfl ?_
  refine zi_iinc (q := 29) (v := x2 + 1) (L' := [some (.ref 68), some (.int (s1 + s0)), some (.int (x2 + 1))]) dX12_onMany_26 rfl (by rw [ki_1]) (by decide) rfl rfl rfl ?_
  refine zi_goto (q := 4) dX12_onMany_29 (by decide) ?_
  exact KI ((s1 + s0), (x2 + 1)) (Option.some.inj h).symm
set_option maxRecDepth 20000 in
theorem rb_X12_onMany_4 {E : Nat × (Nat → Int32)}  (m : zM) (s : (Int32 × Int32)) (rv : Option Value) (m' : zM) (x : ((Int32 × Int32) ⊕ (Int32))) (h : b_X12_onMany_4 m s = some x) (KI : ∀ s1 : (Int32 × Int32), x = .inl s1 → Rn E zX12_onMany 4 [some (.ref 68), some (.int s1.1), some (.int s1.2)] [] zSH m rv zSH m') (KO : ∀ r1 : (Int32), x = .inr r1 → Rn E zX12_onMany 32 [none, some (.int r1), none] [] zSH m rv zSH m') : Rn E zX12_onMany 4 [some (.ref 68), some (.int s.1), some (.int s.2)] [] zSH m rv zSH m' := by
  unfold b_X12_onMany_4 at h
  refine zi_iloadn (q := 5) dX12_onMany_4 rfl rfl ?_
  refine zi_iconst (q := 6) dX12_onMany_5 ki_5 rfl ?_
  refine zi_icmpge (q := 32) (q2 := 9) dX12_onMany_6 (by decide) rfl (fun hc => ?_) (fun hc => ?_)
  · replace h := (if_pos hc).symm.trans h
    refine Rn.weakm [false, true, false] ?_
    exact KO s.1 (Option.some.inj h).symm
  · replace h := (if_neg hc).symm.trans h
    refine zi_iloadn (q := 10) dX12_onMany_9 rfl rfl ?_
    refine zi_aloadn (q := 11) dX12_onMany_10 rfl rfl ?_
    refine zi_getA (q := 14) dX12_onMany_11 fl_12_28 so_68 rfl rfl ?_
    refine zi_iloadn (q := 15) dX12_onMany_14 rfl rfl ?_
    obtain ⟨hz1, h⟩ := zg_some h
    refine zi_bald2 (q := 16) dX12_onMany_15 so_75 (zin_vp hz1) rfl rfl ?_
    refine zi_ifeq (q := 23) (q2 := 19) dX12_onMany_16 (by decide) rfl (fun hc => ?_) (fun hc => ?_)
    · replace h := (if_pos hc).symm.trans h
      refine zi_iconst (q := 24) dX12_onMany_23 ki_0 rfl ?_
      refine Rn.weakm [true, false, true] ?_
      exact rj_X12_onMany_24 s.2 0 s.1 _ _ _ _ h KI
    · replace h := (if_neg hc).symm.trans h
      refine zi_iconst (q := 20) dX12_onMany_19 ki_1 rfl ?_
      refine zi_goto (q := 24) dX12_onMany_20 (by decide) ?_
      refine Rn.weakm [true, false, true] ?_
      exact rj_X12_onMany_24 s.2 1 s.1 _ _ _ _ h KI
set_option maxRecDepth 20000 in
theorem r_X12_onMany {E : Nat × (Nat → Int32)}  (m : zM) (x : Int32) (h : f_X12_onMany  m = some x) : zMet E zX12_onMany [.ref 68] zSH m (some (.int x)) zSH m := by
  refine zMet.of (L0 := [some (.ref 68), none, none]) rfl rfl (Nat.le_of_ble_eq_true rfl) rfl ?_
  unfold f_X12_onMany at h
  refine zi_iconst (q := 1) dX12_onMany_0 ki_0 rfl ?_
  refine zi_istoren (q := 2) (L' := [some (.ref 68), some (.int 0), none]) dX12_onMany_1 (by decide) rfl rfl rfl ?_
  refine zi_iconst (q := 3) dX12_onMany_2 ki_0 rfl ?_
  refine zi_istoren (q := 4) (L' := [some (.ref 68), some (.int 0), some (.int 0)]) dX12_onMany_3 (by decide) rfl rfl rfl ?_
  obtain ⟨r2, hr2, h⟩ := Option.bind_eq_some_iff.mp h
  refine zloop_rn (P := fun w : (Int32 × Int32) => Rn E zX12_onMany 4 [some (.ref 68), some (.int w.1), some (.int w.2)] [] zSH m (some (.int x)) zSH m) (X := fun w : (Int32) => Rn E zX12_onMany 32 [none, some (.int w), none] [] zSH m (some (.int x)) zSH m) (fun w w0 hb KI KX => rb_X12_onMany_4 m w _ _ w0 hb KI KX) zFU _ r2 hr2 ?_
  show Rn E zX12_onMany 32 [none, some (.int r2), none] [] zSH m (some (.int x)) zSH m
  refine zi_iloadn (q := 33) dX12_onMany_32 rfl rfl ?_
  cases h
  exact zi_ret _ dX12_onMany_33
set_option maxRecDepth 20000 in
theorem rj_X12_fingers_84 {E : Nat × (Nat → Int32)} (m : zM)  (x : (Int32 × zM)) (h : j_X12_fingers_84  m = some x) : Rn E zX12_fingers 84 [some (.ref 68), none] [] zSH m (some (.int x.1)) zSH x.2 := by
  unfold j_X12_fingers_84 at h
  refine zi_aloadn (q := 85) dX12_fingers_84 rfl rfl ?_
  refine zi_dup (q := 86) dX12_fingers_85 rfl rfl ?_
  refine zi_getI (q := 89) dX12_fingers_86 fl_12_185 (by decide) so_68 rfl ?_
  refine zi_iconst (q := 90) dX12_fingers_89 ki_1 rfl ?_
  refine zi_iadd (q := 91) dX12_fingers_90 rfl ?_
  refine zi_putI (q := 94) dX12_fingers_91 pl_12_185 so_68 rfl ?_
  refine zi_aloadn (q := 95) dX12_fingers_94 rfl rfl ?_
  refine zi_iconst (q := 96) dX12_fingers_95 ki_0 rfl ?_
  refine zi_putI (q := 99) dX12_fingers_96 pl_12_127 so_68 rfl ?_
  refine zi_aloadn (q := 100) dX12_fingers_99 rfl rfl ?_
  obtain ⟨r4, hr4, h⟩ := Option.bind_eq_some_iff.mp h
  refine zc_V2 (q := 103) (st := []) (S1 := [.int r4]) (r_X12_onMany  _ r4 hr4) dX12_fingers_100 cb_X12_onMany k5_126 k5_128 ks_X12_onMany ⟨by decide, by decide⟩ so_68 rfl rfl rfl (Nat.le_of_ble_eq_true rfl) (Or.inl rfl) rfl rfl ?_
  cases h
  exact zi_ret _ dX12_fingers_103
set_option maxRecDepth 20000 in
theorem rj_X12_fingers_53 {E : Nat × (Nat → Int32)} (s0 : Int32) (m : zM)  (x : (Int32 × zM)) (h : j_X12_fingers_53 s0 m = some x) : Rn E zX12_fingers 53 [some (.ref 68), none] [.int s0] zSH m (some (.int x.1)) zSH x.2 := by
  unfold j_X12_fingers_53 at h
  refine zi_istoren (q := 54) (L' := [some (.ref 68), some (.int s0)]) dX12_fingers_53 (by decide) rfl rfl rfl ?_
  refine zi_iloadn (q := 55) dX12_fingers_54 rfl rfl ?_
  refine zi_ifne (q := 62) (q2 := 58) dX12_fingers_55 (by decide) rfl (fun hc => ?_) (fun hc => ?_)
  · replace h := (if_neg hc).symm.trans h
    refine zi_aloadn (q := 63) dX12_fingers_62 rfl rfl ?_
    refine zi_iconst (q := 64) dX12_fingers_63 ki_1 rfl ?_
    obtain ⟨r3, hr3, h⟩ := Option.bind_eq_some_iff.mp h
    refine zc_V2 (q := 67) (st := []) (S1 := [.int r3.1]) (r_X12_goAlong 1 _ r3 hr3) dX12_fingers_64 cb_X12_goAlong k5_86 k5_88 ks_X12_goAlong ⟨by decide, by decide⟩ so_68 rfl rfl rfl (Nat.le_of_ble_eq_true rfl) (Or.inl rfl) rfl rfl ?_
    refine zi_pop (q := 68) dX12_fingers_67 rfl rfl ?_
    refine zi_aloadn (q := 69) dX12_fingers_68 rfl rfl ?_
    refine zi_getI (q := 72) dX12_fingers_69 fl_12_130 (by decide) so_68 rfl ?_
    refine zi_iconst (q := 73) dX12_fingers_72 ki_5 rfl ?_
    refine zi_icmpne (q := 84) (q2 := 76) dX12_fingers_73 (by decide) rfl (fun hc => ?_) (fun hc => ?_)
    · replace h := (if_neg hc).symm.trans h
      refine Rn.weakm [true, false] ?_
      exact rj_X12_fingers_84  _ _ h
    · replace h := (if_pos hc).symm.trans h
      refine zi_aloadn (q := 77) dX12_fingers_76 rfl rfl ?_
      refine zi_aloadn (q := 78) dX12_fingers_77 rfl rfl ?_
      refine zi_getI (q := 81) dX12_fingers_78 fl_12_133 (by decide) so_68 rfl ?_
      obtain ⟨m5, hm5, h⟩ := Option.bind_eq_some_iff.mp h
      refine zc_V2 (q := 84) (st := []) (S1 := []) (r_X12_putOn (r3.2.1 68 48) _ m5 hm5) dX12_fingers_81 cb_X12_putOn k5_118 k5_120 ks_X12_putOn ⟨by decide, by decide⟩ so_68 rfl rfl rfl (Nat.le_of_ble_eq_true rfl) (Or.inl rfl) rfl rfl ?_
      refine Rn.weakm [true, false] ?_
      exact rj_X12_fingers_84  _ _ h
  · replace h := (if_pos hc).symm.trans h
    refine zi_sipush (q := 61) dX12_fingers_58 kc_m10003 rfl ?_
    cases h
    exact zi_ret _ dX12_fingers_61
set_option maxRecDepth 20000 in
theorem rj_X12_fingers_52 {E : Nat × (Nat → Int32)} (m : zM)  (x : (Int32 × zM)) (h : j_X12_fingers_52  m = some x) : Rn E zX12_fingers 52 [some (.ref 68), none] [] zSH m (some (.int x.1)) zSH x.2 := by
  unfold j_X12_fingers_52 at h
  refine zi_iconst (q := 53) dX12_fingers_52 ki_0 rfl ?_
  exact rj_X12_fingers_53 0 _ _ h
set_option maxRecDepth 20000 in
theorem rj_X12_fingers_48 {E : Nat × (Nat → Int32)} (m : zM)  (x : (Int32 × zM)) (h : j_X12_fingers_48  m = some x) : Rn E zX12_fingers 48 [some (.ref 68), none] [] zSH m (some (.int x.1)) zSH x.2 := by
  unfold j_X12_fingers_48 at h
  refine zi_iconst (q := 49) dX12_fingers_48 ki_1 rfl ?_
  refine zi_goto (q := 53) dX12_fingers_49 (by decide) ?_
  exact rj_X12_fingers_53 1 _ _ h
set_option maxRecDepth 20000 in
theorem r_X12_fingers {E : Nat × (Nat → Int32)}  (m : zM) (x : (Int32 × zM)) (h : f_X12_fingers  m = some x) : zMet E zX12_fingers [.ref 68] zSH m (some (.int x.1)) zSH x.2 := by
  refine zMet.of (L0 := [some (.ref 68), none]) rfl rfl (Nat.le_of_ble_eq_true rfl) rfl ?_
  unfold f_X12_fingers at h
  refine zi_aloadn (q := 1) dX12_fingers_0 rfl rfl ?_
  obtain ⟨r1, hr1, h⟩ := Option.bind_eq_some_iff.mp h
  refine zc_V2 (q := 4) (st := []) (S1 := [.int (bi r1)]) (r_X12_isGlass  _ r1 hr1) dX12_fingers_1 cb_X12_isGlass k5_82 k5_84 ks_X12_isGlass ⟨by decide, by decide⟩ so_68 rfl rfl rfl (Nat.le_of_ble_eq_true rfl) (Or.inl rfl) rfl rfl ?_
  refine zi_ifne (q := 11) (q2 := 7) dX12_fingers_4 (by decide) rfl (fun hc => ?_) (fun hc => ?_)
  · replace h := (if_neg hc).symm.trans h
    refine zi_aloadn (q := 12) dX12_fingers_11 rfl rfl ?_
    refine zi_iconst (q := 13) dX12_fingers_12 ki_0 rfl ?_
    obtain ⟨r2, hr2, h⟩ := Option.bind_eq_some_iff.mp h
    refine zc_V2 (q := 16) (st := []) (S1 := [.int r2.1]) (r_X12_goAlong 0 _ r2 hr2) dX12_fingers_13 cb_X12_goAlong k5_86 k5_88 ks_X12_goAlong ⟨by decide, by decide⟩ so_68 rfl rfl rfl (Nat.le_of_ble_eq_true rfl) (Or.inl rfl) rfl rfl ?_
    refine zi_aloadn (q := 17) dX12_fingers_16 rfl rfl ?_
    refine zi_getI (q := 20) dX12_fingers_17 fl_12_127 (by decide) so_68 rfl ?_
    refine zi_icmpne (q := 52) (q2 := 23) dX12_fingers_20 (by decide) rfl (fun hc => ?_) (fun hc => ?_)
    · replace h := (if_neg hc).symm.trans h
      exact rj_X12_fingers_52  _ _ h
    · replace h := (if_pos hc).symm.trans h
      refine zi_aloadn (q := 24) dX12_fingers_23 rfl rfl ?_
      refine zi_getI (q := 27) dX12_fingers_24 fl_12_130 (by decide) so_68 rfl ?_
      refine zi_iconst (q := 28) dX12_fingers_27 ki_2 rfl ?_
      refine zi_icmpeq (q := 48) (q2 := 31) dX12_fingers_28 (by decide) rfl (fun hc => ?_) (fun hc => ?_)
      · replace h := (if_pos hc).symm.trans h
        exact rj_X12_fingers_48  _ _ h
      · replace h := (if_neg hc).symm.trans h
        refine zi_aloadn (q := 32) dX12_fingers_31 rfl rfl ?_
        refine zi_getI (q := 35) dX12_fingers_32 fl_12_130 (by decide) so_68 rfl ?_
        refine zi_iconst (q := 36) dX12_fingers_35 ki_5 rfl ?_
        refine zi_icmpne (q := 52) (q2 := 39) dX12_fingers_36 (by decide) rfl (fun hc => ?_) (fun hc => ?_)
        · replace h := (if_neg hc).symm.trans h
          exact rj_X12_fingers_52  _ _ h
        · replace h := (if_pos hc).symm.trans h
          refine zi_aloadn (q := 40) dX12_fingers_39 rfl rfl ?_
          refine zi_getI (q := 43) dX12_fingers_40 fl_12_133 (by decide) so_68 rfl ?_
          refine zi_bipush (q := 45) dX12_fingers_43 kb_10 rfl ?_
          refine zi_icmplt (q := 52) (q2 := 48) dX12_fingers_45 (by decide) rfl (fun hc => ?_) (fun hc => ?_)
          · replace h := (if_pos hc).symm.trans h
            exact rj_X12_fingers_52  _ _ h
          · replace h := (if_neg hc).symm.trans h
            exact rj_X12_fingers_48  _ _ h
  · replace h := (if_pos hc).symm.trans h
    refine zi_sipush (q := 10) dX12_fingers_7 kc_m10003 rfl ?_
    cases h
    exact zi_ret _ dX12_fingers_10
set_option maxRecDepth 20000 in
theorem r_J9_min_7cf53 {E : Nat × (Nat → Int32)} (x0 : Int32) (x1 : Int32) (m : zM) (x : Int32) (h : f_J9_min_7cf53 x0 x1 m = some x) : zMet E zJ9_min_7cf53 [.int x0, .int x1] zSH m (some (.int x)) zSH m := by
  refine zMet.of (L0 := [some (.int x0), some (.int x1)]) (by decide +kernel) rfl (Nat.le_of_ble_eq_true rfl) rfl ?_
  unfold f_J9_min_7cf53 at h
  refine zi_iloadn (q := 1) dJ9_min_7cf53_0 rfl rfl ?_
  refine zi_iloadn (q := 2) dJ9_min_7cf53_1 rfl rfl ?_
  refine zi_icmpgt (q := 9) (q2 := 5) dJ9_min_7cf53_2 (by decide) rfl (fun hc => ?_) (fun hc => ?_)
  · replace h := (if_pos hc).symm.trans h
    refine zi_iloadn (q := 10) dJ9_min_7cf53_9 rfl rfl ?_
    cases h
    exact zi_ret _ dJ9_min_7cf53_10
  · replace h := (if_neg hc).symm.trans h
    refine zi_iloadn (q := 6) dJ9_min_7cf53_5 rfl rfl ?_
    refine zi_goto (q := 10) dJ9_min_7cf53_6 (by decide) ?_
    cases h
    exact zi_ret _ dJ9_min_7cf53_10
set_option maxRecDepth 20000 in
theorem rj_X1_listAround_101 {E : Nat × (Nat → Int32)} (x1 : Int32) (x2 : Int32) (x3 : Int32) (x4 : Int32) (x5 : Int32) (x6 : Int32) (m : zM) (rv : Option Value) (m' : zM) (x : ((Int32 × Int32 × zM) ⊕ (Int32 × zM))) (h : j_X1_listAround_101 x1 x2 x3 x4 x5 x6 m = some x) (KI : ∀ s1 : (Int32 × Int32 × zM), x = .inl s1 → Rn E zX1_listAround 47 [some (.ref 14), some (.int x1), some (.int x2), some (.int x3), some (.int s1.1), some (.int x5), some (.int s1.2.1)] [] zSH s1.2.2 rv zSH m') : Rn E zX1_listAround 101 [some (.ref 14), some (.int x1), some (.int x2), some (.int x3), some (.int x4), some (.int x5), some (.int x6)] [] zSH m rv zSH m' := by
  unfold j_X1_listAround_101 at h
  refine zi_iinc (q := 104) (v := x6 + 1) (L' := [some (.ref 14), some (.int x1), some (.int x2), some (.int x3), some (.int x4), some (.int x5), some (.int (x6 + 1))]) dX1_listAround_101 rfl (by rw [ki_1]) (by decide) rfl rfl rfl ?_
  refine zi_goto (q := 47) dX1_listAround_104 (by decide) ?_
  exact KI (x4, (x6 + 1), m) (Option.some.inj h).symm
set_option maxRecDepth 20000 in
theorem rj_X1_listAround_76 {E : Nat × (Nat → Int32)} (x1 : Int32) (x2 : Int32) (x3 : Int32) (x4 : Int32) (x5 : Int32) (x6 : Int32) (m : zM) (rv : Option Value) (m' : zM) (x : ((Int32 × Int32 × zM) ⊕ (Int32 × zM))) (h : j_X1_listAround_76 x1 x2 x3 x4 x5 x6 m = some x) (KI : ∀ s1 : (Int32 × Int32 × zM), x = .inl s1 → Rn E zX1_listAround 47 [some (.ref 14), some (.int x1), some (.int x2), some (.int x3), some (.int s1.1), some (.int x5), some (.int s1.2.1)] [] zSH s1.2.2 rv zSH m') : Rn E zX1_listAround 76 [some (.ref 14), some (.int x1), some (.int x2), some (.int x3), some (.int x4), some (.int x5), some (.int x6)] [] zSH m rv zSH m' := by
  unfold j_X1_listAround_76 at h
  refine zi_aloadn (q := 77) dX1_listAround_76 rfl rfl ?_
  refine zi_getA (q := 80) dX1_listAround_77 fl_1_21 so_14 rfl rfl ?_
  refine zi_bipush (q := 82) dX1_listAround_80 kb_8 rfl ?_
  refine zi_iloadn (q := 83) dX1_listAround_82 rfl rfl ?_
  refine zi_imul (q := 84) dX1_listAround_83 rfl ?_
  refine zi_iload (q := 86) dX1_listAround_84 rfl rfl ?_
  refine zi_iadd (q := 87) dX1_listAround_86 rfl ?_
  refine zi_aloadn (q := 88) dX1_listAround_87 rfl rfl ?_
  refine zi_getI (q := 91) dX1_listAround_88 fl_1_24 (by decide) so_14 rfl ?_
  refine zi_iload (q := 93) dX1_listAround_91 rfl rfl ?_
  refine zi_imul (q := 94) dX1_listAround_93 rfl ?_
  refine zi_iload (q := 96) dX1_listAround_94 rfl rfl ?_
  refine zi_iadd (q := 97) dX1_listAround_96 rfl ?_
  obtain ⟨hz5, h⟩ := zg_some h
  refine zi_iast2 (q := 98) dX1_listAround_97 so_18 (zin_vp hz5) rfl rfl ?_
  refine zi_iinc (q := 101) (v := x4 + 1) (L' := [some (.ref 14), some (.int x1), some (.int x2), some (.int x3), some (.int (x4 + 1)), some (.int x5), some (.int x6)]) dX1_listAround_98 rfl (by rw [ki_1]) (by decide) rfl rfl rfl ?_
  exact rj_X1_listAround_101 x1 x2 x3 (x4 + 1) x5 x6 _ _ _ _ h KI
set_option maxRecDepth 20000 in
theorem rb_X1_listAround_47 {E : Nat × (Nat → Int32)} (x1 : Int32) (x2 : Int32) (x3 : Int32) (x5 : Int32)  (s : (Int32 × Int32 × zM)) (rv : Option Value) (m' : zM) (x : ((Int32 × Int32 × zM) ⊕ (Int32 × zM))) (h : b_X1_listAround_47 x1 x2 x3 x5 s = some x) (KI : ∀ s1 : (Int32 × Int32 × zM), x = .inl s1 → Rn E zX1_listAround 47 [some (.ref 14), some (.int x1), some (.int x2), some (.int x3), some (.int s1.1), some (.int x5), some (.int s1.2.1)] [] zSH s1.2.2 rv zSH m') (KO : ∀ r1 : (Int32 × zM), x = .inr r1 → Rn E zX1_listAround 107 [some (.ref 14), some (.int x1), some (.int x2), some (.int x3), some (.int r1.1), some (.int x5), none] [] zSH r1.2 rv zSH m') : Rn E zX1_listAround 47 [some (.ref 14), some (.int x1), some (.int x2), some (.int x3), some (.int s.1), some (.int x5), some (.int s.2.1)] [] zSH s.2.2 rv zSH m' := by
  unfold b_X1_listAround_47 at h
  refine zi_iload (q := 49) dX1_listAround_47 rfl rfl ?_
  refine zi_aloadn (q := 50) dX1_listAround_49 rfl rfl ?_
  refine zi_getI (q := 53) dX1_listAround_50 fl_1_24 (by decide) so_14 rfl ?_
  refine zi_iconst (q := 54) dX1_listAround_53 ki_1 rfl ?_
  refine zi_isub (q := 55) dX1_listAround_54 rfl ?_
  refine zi_iloadn (q := 56) dX1_listAround_55 rfl rfl ?_
  refine zi_iconst (q := 57) dX1_listAround_56 ki_1 rfl ?_
  refine zi_iadd (q := 58) dX1_listAround_57 rfl ?_
  obtain ⟨r4, hr4, h⟩ := Option.bind_eq_some_iff.mp h
  refine zc_S2 (q := 61) (st := [.int s.2.1]) (S1 := [.int r4, .int s.2.1]) (r_J9_min_7cf53 ((s.2.2.1 14 0) - 1) (x1 + 1) _ r4 hr4) dX1_listAround_58 cb_J9_min_7cf53 k3_23 k3_24 ⟨by decide, by decide⟩ rfl (Nat.le_of_ble_eq_true rfl) (Or.inl rfl) rfl rfl ?_
  refine zi_icmpgt (q := 107) (q2 := 64) dX1_listAround_61 (by decide) rfl (fun hc => ?_) (fun hc => ?_)
  · replace h := (if_pos hc).symm.trans h
    refine Rn.weakm [true, true, true, true, true, true, false] ?_
    exact KO (s.1, s.2.2) (Option.some.inj h).symm
  · replace h := (if_neg hc).symm.trans h
    refine zi_iload (q := 66) dX1_listAround_64 rfl rfl ?_
    refine zi_iloadn (q := 67) dX1_listAround_66 rfl rfl ?_
    refine zi_icmpne (q := 76) (q2 := 70) dX1_listAround_67 (by decide) rfl (fun hc => ?_) (fun hc => ?_)
    · replace h := (if_neg hc).symm.trans h
      exact rj_X1_listAround_76 x1 x2 x3 s.1 x5 s.2.1 _ _ _ _ h KI
    · replace h := (if_pos hc).symm.trans h
      refine zi_iload (q := 72) dX1_listAround_70 rfl rfl ?_
      refine zi_iloadn (q := 73) dX1_listAround_72 rfl rfl ?_
      refine zi_icmpeq (q := 101) (q2 := 76) dX1_listAround_73 (by decide) rfl (fun hc => ?_) (fun hc => ?_)
      · replace h := (if_pos hc).symm.trans h
        exact rj_X1_listAround_101 x1 x2 x3 s.1 x5 s.2.1 _ _ _ _ h KI
      · replace h := (if_neg hc).symm.trans h
        exact rj_X1_listAround_76 x1 x2 x3 s.1 x5 s.2.1 _ _ _ _ h KI
set_option maxRecDepth 20000 in
theorem rb_X1_listAround_21 {E : Nat × (Nat → Int32)} (x1 : Int32) (x2 : Int32) (x3 : Int32)  (s : (Int32 × Int32 × zM)) (rv : Option Value) (m' : zM) (x : ((Int32 × Int32 × zM) ⊕ (Int32 × zM))) (h : b_X1_listAround_21 x1 x2 x3 s = some x) (KI : ∀ s1 : (Int32 × Int32 × zM), x = .inl s1 → Rn E zX1_listAround 21 [some (.ref 14), some (.int x1), some (.int x2), some (.int x3), some (.int s1.1), some (.int s1.2.1), none] [] zSH s1.2.2 rv zSH m') (KO : ∀ r1 : (Int32 × zM), x = .inr r1 → Rn E zX1_listAround 113 [some (.ref 14), none, none, some (.int x3), some (.int r1.1), none, none] [] zSH r1.2 rv zSH m') : Rn E zX1_listAround 21 [some (.ref 14), some (.int x1), some (.int x2), some (.int x3), some (.int s.1), some (.int s.2.1), none] [] zSH s.2.2 rv zSH m' := by
  unfold b_X1_listAround_21 at h
  refine zi_iload (q := 23) dX1_listAround_21 rfl rfl ?_
  refine zi_aloadn (q := 24) dX1_listAround_23 rfl rfl ?_
  refine zi_getI (q := 27) dX1_listAround_24 fl_1_28 (by decide) so_14 rfl ?_
  refine zi_iconst (q := 28) dX1_listAround_27 ki_1 rfl ?_
  refine zi_isub (q := 29) dX1_listAround_28 rfl ?_
  refine zi_iloadn (q := 30) dX1_listAround_29 rfl rfl ?_
  refine zi_iconst (q := 31) dX1_listAround_30 ki_1 rfl ?_
  refine zi_iadd (q := 32) dX1_listAround_31 rfl ?_
  obtain ⟨r2, hr2, h⟩ := Option.bind_eq_some_iff.mp h
  refine zc_S2 (q := 35) (st := [.int s.2.1]) (S1 := [.int r2, .int s.2.1]) (r_J9_min_7cf53 ((s.2.2.1 14 1) - 1) (x2 + 1) _ r2 hr2) dX1_listAround_32 cb_J9_min_7cf53 k3_23 k3_24 ⟨by decide, by decide⟩ rfl (Nat.le_of_ble_eq_true rfl) (Or.inl rfl) rfl rfl ?_
  refine zi_icmpgt (q := 113) (q2 := 38) dX1_listAround_35 (by decide) rfl (fun hc => ?_) (fun hc => ?_)
  · replace h := (if_pos hc).symm.trans h
    refine Rn.weakm [true, false, false, true, true, false, false] ?_
    exact KO (s.1, s.2.2) (Option.some.inj h).symm
  · replace h := (if_neg hc).symm.trans h
    refine zi_iconst (q := 39) dX1_listAround_38 ki_0 rfl ?_
    refine zi_iloadn (q := 40) dX1_listAround_39 rfl rfl ?_
    refine zi_iconst (q := 41) dX1_listAround_40 ki_1 rfl ?_
    refine zi_isub (q := 42) dX1_listAround_41 rfl ?_
    obtain ⟨r3, hr3, h⟩ := Option.bind_eq_some_iff.mp h
    refine zc_S2 (q := 45) (st := []) (S1 := [.int r3]) (r_J9_max_7cf53 0 (x1 - 1) _ r3 hr3) dX1_listAround_42 cb_J9_max_7cf53 k3_22 k3_0 ⟨by decide, by decide⟩ rfl (Nat.le_of_ble_eq_true rfl) (Or.inl rfl) rfl rfl ?_
    refine zi_istore (q := 47) (L' := [some (.ref 14), some (.int x1), some (.int x2), some (.int x3), some (.int s.1), some (.int s.2.1), some (.int r3)]) dX1_listAround_45 (by decide) rfl rfl rfl ?_
    obtain ⟨r6, hr6, h⟩ := Option.bind_eq_some_iff.mp h
    refine zloop_rn (P := fun w : (Int32 × Int32 × zM) => Rn E zX1_listAround 47 [some (.ref 14), some (.int x1), some (.int x2), some (.int x3), some (.int w.1), some (.int s.2.1), some (.int w.2.1)] [] zSH w.2.2 rv zSH m') (X := fun w : (Int32 × zM) => Rn E zX1_listAround 107 [some (.ref 14), some (.int x1), some (.int x2), some (.int x3), some (.int w.1), some (.int s.2.1), none] [] zSH w.2 rv zSH m') (fun w w0 hb KI KX => rb_X1_listAround_47 x1 x2 x3 s.2.1 w _ _ w0 hb KI KX) zFU _ r6 hr6 ?_
    show Rn E zX1_listAround 107 [some (.ref 14), some (.int x1), some (.int x2), some (.int x3), some (.int r6.1), some (.int s.2.1), none] [] zSH r6.2 rv zSH m'
    refine zi_iinc (q := 110) (v := s.2.1 + 1) (L' := [some (.ref 14), some (.int x1), some (.int x2), some (.int x3), some (.int r6.1), some (.int (s.2.1 + 1)), none]) dX1_listAround_107 rfl (by rw [ki_1]) (by decide) rfl rfl rfl ?_
    refine zi_goto (q := 21) dX1_listAround_110 (by decide) ?_
    exact KI (r6.1, (s.2.1 + 1), r6.2) (Option.some.inj h).symm
set_option maxRecDepth 20000 in
theorem r_X1_listAround {E : Nat × (Nat → Int32)} (x1 : Int32) (x2 : Int32) (m : zM) (x : zM) (h : f_X1_listAround x1 x2 m = some x) : zMet E zX1_listAround [.ref 14, .int x1, .int x2] zSH m none zSH x := by
  refine zMet.of (L0 := [some (.ref 14), some (.int x1), some (.int x2), none, none, none, none]) rfl trivial (Nat.le_of_ble_eq_true rfl) rfl ?_
  unfold f_X1_listAround at h
  refine zi_aloadn (q := 1) dX1_listAround_0 rfl rfl ?_
  refine zi_getI (q := 4) dX1_listAround_1 fl_1_24 (by decide) so_14 rfl ?_
  refine zi_iloadn (q := 5) dX1_listAround_4 rfl rfl ?_
  refine zi_imul (q := 6) dX1_listAround_5 rfl ?_
  refine zi_iloadn (q := 7) dX1_listAround_6 rfl rfl ?_
  refine zi_iadd (q := 8) dX1_listAround_7 rfl ?_
  refine zi_istoren (q := 9) (L' := [some (.ref 14), some (.int x1), some (.int x2), some (.int (((m.1 14 0) * x2) + x1)), none, none, none]) dX1_listAround_8 (by decide) rfl rfl rfl ?_
  refine zi_iconst (q := 10) dX1_listAround_9 ki_0 rfl ?_
  refine zi_istore (q := 12) (L' := [some (.ref 14), some (.int x1), some (.int x2), some (.int (((m.1 14 0) * x2) + x1)), some (.int 0), none, none]) dX1_listAround_10 (by decide) rfl rfl rfl ?_
  refine zi_iconst (q := 13) dX1_listAround_12 ki_0 rfl ?_
  refine zi_iloadn (q := 14) dX1_listAround_13 rfl rfl ?_
  refine zi_iconst (q := 15) dX1_listAround_14 ki_1 rfl ?_
  refine zi_isub (q := 16) dX1_listAround_15 rfl ?_
  obtain ⟨r1, hr1, h⟩ := Option.bind_eq_some_iff.mp h
  refine zc_S2 (q := 19) (st := []) (S1 := [.int r1]) (r_J9_max_7cf53 0 (x2 - 1) _ r1 hr1) dX1_listAround_16 cb_J9_max_7cf53 k3_22 k3_0 ⟨by decide, by decide⟩ rfl (Nat.le_of_ble_eq_true rfl) (Or.inl rfl) rfl rfl ?_
  refine zi_istore (q := 21) (L' := [some (.ref 14), some (.int x1), some (.int x2), some (.int (((m.1 14 0) * x2) + x1)), some (.int 0), some (.int r1), none]) dX1_listAround_19 (by decide) rfl rfl rfl ?_
  obtain ⟨r7, hr7, h⟩ := Option.bind_eq_some_iff.mp h
  refine zloop_rn (P := fun w : (Int32 × Int32 × zM) => Rn E zX1_listAround 21 [some (.ref 14), some (.int x1), some (.int x2), some (.int (((m.1 14 0) * x2) + x1)), some (.int w.1), some (.int w.2.1), none] [] zSH w.2.2 none zSH x) (X := fun w : (Int32 × zM) => Rn E zX1_listAround 113 [some (.ref 14), none, none, some (.int (((m.1 14 0) * x2) + x1)), some (.int w.1), none, none] [] zSH w.2 none zSH x) (fun w w0 hb KI KX => rb_X1_listAround_21 x1 x2 (((m.1 14 0) * x2) + x1) w _ _ w0 hb KI KX) zFU _ r7 hr7 ?_
  show Rn E zX1_listAround 113 [some (.ref 14), none, none, some (.int (((m.1 14 0) * x2) + x1)), some (.int r7.1), none, none] [] zSH r7.2 none zSH x
  refine zi_aloadn (q := 114) dX1_listAround_113 rfl rfl ?_
  refine zi_getA (q := 117) dX1_listAround_114 fl_1_18 so_14 rfl rfl ?_
  refine zi_iloadn (q := 118) dX1_listAround_117 rfl rfl ?_
  refine zi_iload (q := 120) dX1_listAround_118 rfl rfl ?_
  obtain ⟨hz8, h⟩ := zg_some h
  refine zi_iast2 (q := 121) dX1_listAround_120 so_17 (zin_vp hz8) rfl rfl ?_
  cases h
  exact zi_ret _ dX1_listAround_121
set_option maxRecDepth 20000 in
theorem rb_X1_lay_36 {E : Nat × (Nat → Int32)} (x3 : Int32)  (s : (Int32 × zM)) (rv : Option Value) (m' : zM) (x : ((Int32 × zM) ⊕ (zM))) (h : b_X1_lay_36 x3 s = some x) (KI : ∀ s1 : (Int32 × zM), x = .inl s1 → Rn E zX1_lay 36 [some (.ref 14), none, none, some (.int x3), some (.int s1.1)] [] zSH s1.2 rv zSH m') (KO : ∀ r1 : (zM), x = .inr r1 → Rn E zX1_lay 89 [some (.ref 14), none, none, some (.int x3), none] [] zSH r1 rv zSH m') : Rn E zX1_lay 36 [some (.ref 14), none, none, some (.int x3), some (.int s.1)] [] zSH s.2 rv zSH m' := by
  unfold b_X1_lay_36 at h
  refine zi_iload (q := 38) dX1_lay_36 rfl rfl ?_
  refine zi_aloadn (q := 39) dX1_lay_38 rfl rfl ?_
  refine zi_getI (q := 42) dX1_lay_39 fl_1_24 (by decide) so_14 rfl ?_
  refine zi_icmpge (q := 89) (q2 := 45) dX1_lay_42 (by decide) rfl (fun hc => ?_) (fun hc => ?_)
  · replace h := (if_pos hc).symm.trans h
    refine Rn.weakm [true, false, false, true, false] ?_
    exact KO s.2 (Option.some.inj h).symm
  · replace h := (if_neg hc).symm.trans h
    refine zi_aloadn (q := 46) dX1_lay_45 rfl rfl ?_
    refine zi_getA (q := 49) dX1_lay_46 fl_1_9 so_14 rfl rfl ?_
    refine zi_aloadn (q := 50) dX1_lay_49 rfl rfl ?_
    refine zi_getI (q := 53) dX1_lay_50 fl_1_24 (by decide) so_14 rfl ?_
    refine zi_iloadn (q := 54) dX1_lay_53 rfl rfl ?_
    refine zi_imul (q := 55) dX1_lay_54 rfl ?_
    refine zi_iload (q := 57) dX1_lay_55 rfl rfl ?_
    refine zi_iadd (q := 58) dX1_lay_57 rfl ?_
    refine zi_iload (q := 60) dX1_lay_58 rfl rfl ?_
    obtain ⟨hz1, h⟩ := zg_some h
    refine zi_iast2 (q := 61) dX1_lay_60 so_15 (zin_vp hz1) rfl rfl ?_
    refine zi_aloadn (q := 62) dX1_lay_61 rfl rfl ?_
    refine zi_getA (q := 65) dX1_lay_62 fl_1_15 so_14 rfl rfl ?_
    refine zi_aloadn (q := 66) dX1_lay_65 rfl rfl ?_
    refine zi_getI (q := 69) dX1_lay_66 fl_1_24 (by decide) so_14 rfl ?_
    refine zi_iloadn (q := 70) dX1_lay_69 rfl rfl ?_
    refine zi_imul (q := 71) dX1_lay_70 rfl ?_
    refine zi_iload (q := 73) dX1_lay_71 rfl rfl ?_
    refine zi_iadd (q := 74) dX1_lay_73 rfl ?_
    refine zi_iloadn (q := 75) dX1_lay_74 rfl rfl ?_
    obtain ⟨hz2, h⟩ := zg_some h
    refine zi_iast2 (q := 76) dX1_lay_75 so_16 (zin_vp hz2) rfl rfl ?_
    refine zi_aloadn (q := 77) dX1_lay_76 rfl rfl ?_
    refine zi_iload (q := 79) dX1_lay_77 rfl rfl ?_
    refine zi_iloadn (q := 80) dX1_lay_79 rfl rfl ?_
    obtain ⟨m3, hm3, h⟩ := Option.bind_eq_some_iff.mp h
    refine zc_V2 (q := 83) (st := []) (S1 := []) (r_X1_listAround s.1 x3 _ m3 hm3) dX1_lay_80 cb_X1_listAround k3_18 k3_20 ks_X1_listAround ⟨by decide, by decide⟩ so_14 rfl rfl rfl (Nat.le_of_ble_eq_true rfl) (Or.inl rfl) rfl rfl ?_
    refine zi_iinc (q := 86) (v := s.1 + 1) (L' := [some (.ref 14), none, none, some (.int x3), some (.int (s.1 + 1))]) dX1_lay_83 rfl (by rw [ki_1]) (by decide) rfl rfl rfl ?_
    refine zi_goto (q := 36) dX1_lay_86 (by decide) ?_
    exact KI ((s.1 + 1), m3) (Option.some.inj h).symm
set_option maxRecDepth 20000 in
theorem rb_X1_lay_25 {E : Nat × (Nat → Int32)}   (s : (Int32 × zM)) (rv : Option Value) (m' : zM) (x : ((Int32 × zM) ⊕ (zM))) (h : b_X1_lay_25  s = some x) (KI : ∀ s1 : (Int32 × zM), x = .inl s1 → Rn E zX1_lay 25 [some (.ref 14), none, none, some (.int s1.1), none] [] zSH s1.2 rv zSH m') (KO : ∀ r1 : (zM), x = .inr r1 → Rn E zX1_lay 95 [none, none, none, none, none] [] zSH r1 rv zSH m') : Rn E zX1_lay 25 [some (.ref 14), none, none, some (.int s.1), none] [] zSH s.2 rv zSH m' := by
  unfold b_X1_lay_25 at h
  refine zi_iloadn (q := 26) dX1_lay_25 rfl rfl ?_
  refine zi_aloadn (q := 27) dX1_lay_26 rfl rfl ?_
  refine zi_getI (q := 30) dX1_lay_27 fl_1_28 (by decide) so_14 rfl ?_
  refine zi_icmpge (q := 95) (q2 := 33) dX1_lay_30 (by decide) rfl (fun hc => ?_) (fun hc => ?_)
  · replace h := (if_pos hc).symm.trans h
    refine Rn.weakm [false, false, false, false, false] ?_
    exact KO s.2 (Option.some.inj h).symm
  · replace h := (if_neg hc).symm.trans h
    refine zi_iconst (q := 34) dX1_lay_33 ki_0 rfl ?_
    refine zi_istore (q := 36) (L' := [some (.ref 14), none, none, some (.int s.1), some (.int 0)]) dX1_lay_34 (by decide) rfl rfl rfl ?_
    obtain ⟨r4, hr4, h⟩ := Option.bind_eq_some_iff.mp h
    refine zloop_rn (P := fun w : (Int32 × zM) => Rn E zX1_lay 36 [some (.ref 14), none, none, some (.int s.1), some (.int w.1)] [] zSH w.2 rv zSH m') (X := fun w : (zM) => Rn E zX1_lay 89 [some (.ref 14), none, none, some (.int s.1), none] [] zSH w rv zSH m') (fun w w0 hb KI KX => rb_X1_lay_36 s.1 w _ _ w0 hb KI KX) zFU _ r4 hr4 ?_
    show Rn E zX1_lay 89 [some (.ref 14), none, none, some (.int s.1), none] [] zSH r4 rv zSH m'
    refine zi_iinc (q := 92) (v := s.1 + 1) (L' := [some (.ref 14), none, none, some (.int (s.1 + 1)), none]) dX1_lay_89 rfl (by rw [ki_1]) (by decide) rfl rfl rfl ?_
    refine zi_goto (q := 25) dX1_lay_92 (by decide) ?_
    exact KI ((s.1 + 1), r4) (Option.some.inj h).symm
set_option maxRecDepth 20000 in
theorem r_X1_lay {E : Nat × (Nat → Int32)} (x1 : Int32) (x2 : Int32) (m : zM) (x : zM) (h : f_X1_lay x1 x2 m = some x) : zMet E zX1_lay [.ref 14, .int x1, .int x2] zSH m none zSH x := by
  refine zMet.of (L0 := [some (.ref 14), some (.int x1), some (.int x2), none, none]) rfl trivial (Nat.le_of_ble_eq_true rfl) rfl ?_
  unfold f_X1_lay at h
  refine zi_aloadn (q := 1) dX1_lay_0 rfl rfl ?_
  refine zi_iloadn (q := 2) dX1_lay_1 rfl rfl ?_
  refine zi_putI (q := 5) dX1_lay_2 pl_1_24 so_14 rfl ?_
  refine zi_aloadn (q := 6) dX1_lay_5 rfl rfl ?_
  refine zi_iloadn (q := 7) dX1_lay_6 rfl rfl ?_
  refine zi_putI (q := 10) dX1_lay_7 pl_1_28 so_14 rfl ?_
  refine zi_aloadn (q := 11) dX1_lay_10 rfl rfl ?_
  refine zi_aloadn (q := 12) dX1_lay_11 rfl rfl ?_
  refine zi_getI (q := 15) dX1_lay_12 fl_1_24 (by decide) so_14 rfl ?_
  refine zi_aloadn (q := 16) dX1_lay_15 rfl rfl ?_
  refine zi_getI (q := 19) dX1_lay_16 fl_1_28 (by decide) so_14 rfl ?_
  refine zi_imul (q := 20) dX1_lay_19 rfl ?_
  refine zi_putI (q := 23) dX1_lay_20 pl_1_31 so_14 rfl ?_
  refine zi_iconst (q := 24) dX1_lay_23 ki_0 rfl ?_
  refine zi_istoren (q := 25) (L' := [some (.ref 14), some (.int x1), some (.int x2), some (.int 0), none]) dX1_lay_24 (by decide) rfl rfl rfl ?_
  obtain ⟨r5, hr5, h⟩ := Option.bind_eq_some_iff.mp h
  refine Rn.weakm [true, false, false, true, false] ?_
  refine zloop_rn (P := fun w : (Int32 × zM) => Rn E zX1_lay 25 [some (.ref 14), none, none, some (.int w.1), none] [] zSH w.2 none zSH x) (X := fun w : (zM) => Rn E zX1_lay 95 [none, none, none, none, none] [] zSH w none zSH x) (fun w w0 hb KI KX => rb_X1_lay_25  w _ _ w0 hb KI KX) zFU _ r5 hr5 ?_
  show Rn E zX1_lay 95 [none, none, none, none, none] [] zSH r5 none zSH x
  cases h
  exact zi_ret _ dX1_lay_95
set_option maxRecDepth 20000 in
theorem rb_X2_liftAll_2 {E : Nat × (Nat → Int32)}   (s : (Int32 × zM)) (rv : Option Value) (m' : zM) (x : ((Int32 × zM) ⊕ (zM))) (h : b_X2_liftAll_2  s = some x) (KI : ∀ s1 : (Int32 × zM), x = .inl s1 → Rn E zX2_liftAll 2 [some (.ref 19), some (.int s1.1)] [] zSH s1.2 rv zSH m') (KO : ∀ r1 : (zM), x = .inr r1 → Rn E zX2_liftAll 20 [none, none] [] zSH r1 rv zSH m') : Rn E zX2_liftAll 2 [some (.ref 19), some (.int s.1)] [] zSH s.2 rv zSH m' := by
  unfold b_X2_liftAll_2 at h
  refine zi_iloadn (q := 3) dX2_liftAll_2 rfl rfl ?_
  refine zi_iconst (q := 4) dX2_liftAll_3 ki_5 rfl ?_
  refine zi_icmpge (q := 20) (q2 := 7) dX2_liftAll_4 (by decide) rfl (fun hc => ?_) (fun hc => ?_)
  · replace h := (if_pos hc).symm.trans h
    refine Rn.weakm [false, false] ?_
    exact KO s.2 (Option.some.inj h).symm
  · replace h := (if_neg hc).symm.trans h
    refine zi_aloadn (q := 8) dX2_liftAll_7 rfl rfl ?_
    refine zi_getA (q := 11) dX2_liftAll_8 fl_2_9 so_19 rfl rfl ?_
    refine zi_iloadn (q := 12) dX2_liftAll_11 rfl rfl ?_
    refine zi_iconst (q := 13) dX2_liftAll_12 ki_0 rfl ?_
    obtain ⟨hz1, h⟩ := zg_some h
    refine zi_bast2 (q := 14) dX2_liftAll_13 so_20 (zin_vp hz1) rfl rfl rfl ?_
    refine zi_iinc (q := 17) (v := s.1 + 1) (L' := [some (.ref 19), some (.int (s.1 + 1))]) dX2_liftAll_14 rfl (by rw [ki_1]) (by decide) rfl rfl rfl ?_
    refine zi_goto (q := 2) dX2_liftAll_17 (by decide) ?_
    exact KI ((s.1 + 1), (zi s.2 20 s.1.toNatClampNeg 0)) (Option.some.inj h).symm
set_option maxRecDepth 20000 in
theorem r_X2_liftAll {E : Nat × (Nat → Int32)}  (m : zM) (x : zM) (h : f_X2_liftAll  m = some x) : zMet E zX2_liftAll [.ref 19] zSH m none zSH x := by
  refine zMet.of (L0 := [some (.ref 19), none]) rfl trivial (Nat.le_of_ble_eq_true rfl) rfl ?_
  unfold f_X2_liftAll at h
  refine zi_iconst (q := 1) dX2_liftAll_0 ki_0 rfl ?_
  refine zi_istoren (q := 2) (L' := [some (.ref 19), some (.int 0)]) dX2_liftAll_1 (by decide) rfl rfl rfl ?_
  obtain ⟨r2, hr2, h⟩ := Option.bind_eq_some_iff.mp h
  refine zloop_rn (P := fun w : (Int32 × zM) => Rn E zX2_liftAll 2 [some (.ref 19), some (.int w.1)] [] zSH w.2 none zSH x) (X := fun w : (zM) => Rn E zX2_liftAll 20 [none, none] [] zSH w none zSH x) (fun w w0 hb KI KX => rb_X2_liftAll_2  w _ _ w0 hb KI KX) zFU _ r2 hr2 ?_
  show Rn E zX2_liftAll 20 [none, none] [] zSH r2 none zSH x
  cases h
  exact zi_ret _ dX2_liftAll_20
set_option maxRecDepth 20000 in
theorem rb_J7_fill_53178_5 {E : Nat × (Nat → Int32)} (x1 : Int32) (x3 : Int32)  (s : (Int32 × zM)) (rv : Option Value) (m' : zM) (x : ((Int32 × zM) ⊕ (zM))) (h : b_J7_fill_53178_5 x1 x3 s = some x) (KI : ∀ s1 : (Int32 × zM), x = .inl s1 → Rn E zJ7_fill_53178 5 [some (.ref 25), some (.int x1), some (.int s1.1), some (.int x3)] [] zSH s1.2 rv zSH m') (KO : ∀ r1 : (zM), x = .inr r1 → Rn E zJ7_fill_53178 20 [none, none, none, none] [] zSH r1 rv zSH m') : Rn E zJ7_fill_53178 5 [some (.ref 25), some (.int x1), some (.int s.1), some (.int x3)] [] zSH s.2 rv zSH m' := by
  unfold b_J7_fill_53178_5 at h
  refine zi_iloadn (q := 6) dJ7_fill_53178_5 rfl rfl ?_
  refine zi_iloadn (q := 7) dJ7_fill_53178_6 rfl rfl ?_
  refine zi_icmpge (q := 20) (q2 := 10) dJ7_fill_53178_7 (by decide) rfl (fun hc => ?_) (fun hc => ?_)
  · replace h := (if_pos hc).symm.trans h
    refine Rn.weakm [false, false, false, false] ?_
    exact KO s.2 (Option.some.inj h).symm
  · replace h := (if_neg hc).symm.trans h
    refine zi_aloadn (q := 11) dJ7_fill_53178_10 rfl rfl ?_
    refine zi_iloadn (q := 12) dJ7_fill_53178_11 rfl rfl ?_
    refine zi_iloadn (q := 13) dJ7_fill_53178_12 rfl rfl ?_
    obtain ⟨hz1, h⟩ := zg_some h
    refine zi_iast2 (q := 14) dJ7_fill_53178_13 so_25 (zin_vp hz1) rfl rfl ?_
    refine zi_iinc (q := 17) (v := s.1 + 1) (L' := [some (.ref 25), some (.int x1), some (.int (s.1 + 1)), some (.int x3)]) dJ7_fill_53178_14 rfl (by rw [ki_1]) (by decide) rfl rfl rfl ?_
    refine zi_goto (q := 5) dJ7_fill_53178_17 (by decide) ?_
    exact KI ((s.1 + 1), (zi s.2 25 s.1.toNatClampNeg x1)) (Option.some.inj h).symm
set_option maxRecDepth 20000 in
theorem r_J7_fill_53178 {E : Nat × (Nat → Int32)} (x1 : Int32) (m : zM) (x : zM) (h : f_J7_fill_53178 x1 m = some x) : zMet E zJ7_fill_53178 [.ref 25, .int x1] zSH m none zSH x := by
  refine zMet.of (L0 := [some (.ref 25), some (.int x1), none, none]) rfl trivial (Nat.le_of_ble_eq_true rfl) rfl ?_
  unfold f_J7_fill_53178 at h
  refine zi_iconst (q := 1) dJ7_fill_53178_0 ki_0 rfl ?_
  refine zi_istoren (q := 2) (L' := [some (.ref 25), some (.int x1), some (.int 0), none]) dJ7_fill_53178_1 (by decide) rfl rfl rfl ?_
  refine zi_aloadn (q := 3) dJ7_fill_53178_2 rfl rfl ?_
  refine zi_alen (q := 4) dJ7_fill_53178_3 so_25 al_3 rfl ?_
  refine zi_istoren (q := 5) (L' := [some (.ref 25), some (.int x1), some (.int 0), some (.int 3)]) dJ7_fill_53178_4 (by decide) rfl rfl rfl ?_
  obtain ⟨r2, hr2, h⟩ := Option.bind_eq_some_iff.mp h
  refine zloop_rn (P := fun w : (Int32 × zM) => Rn E zJ7_fill_53178 5 [some (.ref 25), some (.int x1), some (.int w.1), some (.int 3)] [] zSH w.2 none zSH x) (X := fun w : (zM) => Rn E zJ7_fill_53178 20 [none, none, none, none] [] zSH w none zSH x) (fun w w0 hb KI KX => rb_J7_fill_53178_5 x1 3 w _ _ w0 hb KI KX) zFU _ r2 hr2 ?_
  show Rn E zJ7_fill_53178 20 [none, none, none, none] [] zSH r2 none zSH x
  cases h
  exact zi_ret _ dJ7_fill_53178_20
set_option maxRecDepth 20000 in
theorem r_X0_renew {E : Nat × (Nat → Int32)}  (m : zM) (x : zM) (h : f_X0_renew  m = some x) : zMet E zX0_renew [.ref 24] zSH m none zSH x := by
  refine zMet.of (L0 := [some (.ref 24)]) rfl trivial (Nat.le_of_ble_eq_true rfl) rfl ?_
  unfold f_X0_renew at h
  refine zi_aloadn (q := 1) dX0_renew_0 rfl rfl ?_
  refine zi_getA (q := 4) dX0_renew_1 fl_0_9 so_24 rfl rfl ?_
  refine zi_iconst (q := 5) dX0_renew_4 ki_0 rfl ?_
  obtain ⟨m1, hm1, h⟩ := Option.bind_eq_some_iff.mp h
  refine zc_S2 (q := 8) (st := []) (S1 := []) (r_J7_fill_53178 0 _ m1 hm1) dX0_renew_5 cb_J7_fill_53178 k3_34 k3_35 ⟨by decide, by decide⟩ rfl (Nat.le_of_ble_eq_true rfl) (Or.inl rfl) rfl rfl ?_
  refine zi_aloadn (q := 9) dX0_renew_8 rfl rfl ?_
  refine zi_iconst (q := 10) dX0_renew_9 ki_0 rfl ?_
  refine zi_putI (q := 13) dX0_renew_10 pl_0_21 so_24 rfl ?_
  refine zi_aloadn (q := 14) dX0_renew_13 rfl rfl ?_
  refine zi_iconst (q := 15) dX0_renew_14 ki_1 rfl ?_
  refine zi_putI (q := 18) dX0_renew_15 pl_0_25 so_24 rfl ?_
  cases h
  exact zi_ret _ dX0_renew_18
set_option maxRecDepth 20000 in
theorem rb_J7_fill_53178_v1_5 {E : Nat × (Nat → Int32)} (x1 : Int32) (x3 : Int32)  (s : (Int32 × zM)) (rv : Option Value) (m' : zM) (x : ((Int32 × zM) ⊕ (zM))) (h : b_J7_fill_53178_v1_5 x1 x3 s = some x) (KI : ∀ s1 : (Int32 × zM), x = .inl s1 → Rn E zJ7_fill_53178 5 [some (.ref 32), some (.int x1), some (.int s1.1), some (.int x3)] [] zSH s1.2 rv zSH m') (KO : ∀ r1 : (zM), x = .inr r1 → Rn E zJ7_fill_53178 20 [none, none, none, none] [] zSH r1 rv zSH m') : Rn E zJ7_fill_53178 5 [some (.ref 32), some (.int x1), some (.int s.1), some (.int x3)] [] zSH s.2 rv zSH m' := by
  unfold b_J7_fill_53178_v1_5 at h
  refine zi_iloadn (q := 6) dJ7_fill_53178_5 rfl rfl ?_
  refine zi_iloadn (q := 7) dJ7_fill_53178_6 rfl rfl ?_
  refine zi_icmpge (q := 20) (q2 := 10) dJ7_fill_53178_7 (by decide) rfl (fun hc => ?_) (fun hc => ?_)
  · replace h := (if_pos hc).symm.trans h
    refine Rn.weakm [false, false, false, false] ?_
    exact KO s.2 (Option.some.inj h).symm
  · replace h := (if_neg hc).symm.trans h
    refine zi_aloadn (q := 11) dJ7_fill_53178_10 rfl rfl ?_
    refine zi_iloadn (q := 12) dJ7_fill_53178_11 rfl rfl ?_
    refine zi_iloadn (q := 13) dJ7_fill_53178_12 rfl rfl ?_
    obtain ⟨hz1, h⟩ := zg_some h
    refine zi_iast2 (q := 14) dJ7_fill_53178_13 so_32 (zin_vp hz1) rfl rfl ?_
    refine zi_iinc (q := 17) (v := s.1 + 1) (L' := [some (.ref 32), some (.int x1), some (.int (s.1 + 1)), some (.int x3)]) dJ7_fill_53178_14 rfl (by rw [ki_1]) (by decide) rfl rfl rfl ?_
    refine zi_goto (q := 5) dJ7_fill_53178_17 (by decide) ?_
    exact KI ((s.1 + 1), (zi s.2 32 s.1.toNatClampNeg x1)) (Option.some.inj h).symm
set_option maxRecDepth 20000 in
theorem r_J7_fill_53178_v1 {E : Nat × (Nat → Int32)} (x1 : Int32) (m : zM) (x : zM) (h : f_J7_fill_53178_v1 x1 m = some x) : zMet E zJ7_fill_53178 [.ref 32, .int x1] zSH m none zSH x := by
  refine zMet.of (L0 := [some (.ref 32), some (.int x1), none, none]) rfl trivial (Nat.le_of_ble_eq_true rfl) rfl ?_
  unfold f_J7_fill_53178_v1 at h
  refine zi_iconst (q := 1) dJ7_fill_53178_0 ki_0 rfl ?_
  refine zi_istoren (q := 2) (L' := [some (.ref 32), some (.int x1), some (.int 0), none]) dJ7_fill_53178_1 (by decide) rfl rfl rfl ?_
  refine zi_aloadn (q := 3) dJ7_fill_53178_2 rfl rfl ?_
  refine zi_alen (q := 4) dJ7_fill_53178_3 so_32 al_64 rfl ?_
  refine zi_istoren (q := 5) (L' := [some (.ref 32), some (.int x1), some (.int 0), some (.int 64)]) dJ7_fill_53178_4 (by decide) rfl rfl rfl ?_
  obtain ⟨r2, hr2, h⟩ := Option.bind_eq_some_iff.mp h
  refine zloop_rn (P := fun w : (Int32 × zM) => Rn E zJ7_fill_53178 5 [some (.ref 32), some (.int x1), some (.int w.1), some (.int 64)] [] zSH w.2 none zSH x) (X := fun w : (zM) => Rn E zJ7_fill_53178 20 [none, none, none, none] [] zSH w none zSH x) (fun w w0 hb KI KX => rb_J7_fill_53178_v1_5 x1 64 w _ _ w0 hb KI KX) zFU _ r2 hr2 ?_
  show Rn E zJ7_fill_53178 20 [none, none, none, none] [] zSH r2 none zSH x
  cases h
  exact zi_ret _ dJ7_fill_53178_20
set_option maxRecDepth 20000 in
theorem rb_J7_fill_53178_v2_5 {E : Nat × (Nat → Int32)} (x1 : Int32) (x3 : Int32)  (s : (Int32 × zM)) (rv : Option Value) (m' : zM) (x : ((Int32 × zM) ⊕ (zM))) (h : b_J7_fill_53178_v2_5 x1 x3 s = some x) (KI : ∀ s1 : (Int32 × zM), x = .inl s1 → Rn E zJ7_fill_53178 5 [some (.ref 33), some (.int x1), some (.int s1.1), some (.int x3)] [] zSH s1.2 rv zSH m') (KO : ∀ r1 : (zM), x = .inr r1 → Rn E zJ7_fill_53178 20 [none, none, none, none] [] zSH r1 rv zSH m') : Rn E zJ7_fill_53178 5 [some (.ref 33), some (.int x1), some (.int s.1), some (.int x3)] [] zSH s.2 rv zSH m' := by
  unfold b_J7_fill_53178_v2_5 at h
  refine zi_iloadn (q := 6) dJ7_fill_53178_5 rfl rfl ?_
  refine zi_iloadn (q := 7) dJ7_fill_53178_6 rfl rfl ?_
  refine zi_icmpge (q := 20) (q2 := 10) dJ7_fill_53178_7 (by decide) rfl (fun hc => ?_) (fun hc => ?_)
  · replace h := (if_pos hc).symm.trans h
    refine Rn.weakm [false, false, false, false] ?_
    exact KO s.2 (Option.some.inj h).symm
  · replace h := (if_neg hc).symm.trans h
    refine zi_aloadn (q := 11) dJ7_fill_53178_10 rfl rfl ?_
    refine zi_iloadn (q := 12) dJ7_fill_53178_11 rfl rfl ?_
    refine zi_iloadn (q := 13) dJ7_fill_53178_12 rfl rfl ?_
    obtain ⟨hz1, h⟩ := zg_some h
    refine zi_iast2 (q := 14) dJ7_fill_53178_13 so_33 (zin_vp hz1) rfl rfl ?_
    refine zi_iinc (q := 17) (v := s.1 + 1) (L' := [some (.ref 33), some (.int x1), some (.int (s.1 + 1)), some (.int x3)]) dJ7_fill_53178_14 rfl (by rw [ki_1]) (by decide) rfl rfl rfl ?_
    refine zi_goto (q := 5) dJ7_fill_53178_17 (by decide) ?_
    exact KI ((s.1 + 1), (zi s.2 33 s.1.toNatClampNeg x1)) (Option.some.inj h).symm
set_option maxRecDepth 20000 in
theorem r_J7_fill_53178_v2 {E : Nat × (Nat → Int32)} (x1 : Int32) (m : zM) (x : zM) (h : f_J7_fill_53178_v2 x1 m = some x) : zMet E zJ7_fill_53178 [.ref 33, .int x1] zSH m none zSH x := by
  refine zMet.of (L0 := [some (.ref 33), some (.int x1), none, none]) rfl trivial (Nat.le_of_ble_eq_true rfl) rfl ?_
  unfold f_J7_fill_53178_v2 at h
  refine zi_iconst (q := 1) dJ7_fill_53178_0 ki_0 rfl ?_
  refine zi_istoren (q := 2) (L' := [some (.ref 33), some (.int x1), some (.int 0), none]) dJ7_fill_53178_1 (by decide) rfl rfl rfl ?_
  refine zi_aloadn (q := 3) dJ7_fill_53178_2 rfl rfl ?_
  refine zi_alen (q := 4) dJ7_fill_53178_3 so_33 al_64 rfl ?_
  refine zi_istoren (q := 5) (L' := [some (.ref 33), some (.int x1), some (.int 0), some (.int 64)]) dJ7_fill_53178_4 (by decide) rfl rfl rfl ?_
  obtain ⟨r2, hr2, h⟩ := Option.bind_eq_some_iff.mp h
  refine zloop_rn (P := fun w : (Int32 × zM) => Rn E zJ7_fill_53178 5 [some (.ref 33), some (.int x1), some (.int w.1), some (.int 64)] [] zSH w.2 none zSH x) (X := fun w : (zM) => Rn E zJ7_fill_53178 20 [none, none, none, none] [] zSH w none zSH x) (fun w w0 hb KI KX => rb_J7_fill_53178_v2_5 x1 64 w _ _ w0 hb KI KX) zFU _ r2 hr2 ?_
  show Rn E zJ7_fill_53178 20 [none, none, none, none] [] zSH r2 none zSH x
  cases h
  exact zi_ret _ dJ7_fill_53178_20
set_option maxRecDepth 20000 in
theorem rb_J7_fill_53178_v3_5 {E : Nat × (Nat → Int32)} (x1 : Int32) (x3 : Int32)  (s : (Int32 × zM)) (rv : Option Value) (m' : zM) (x : ((Int32 × zM) ⊕ (zM))) (h : b_J7_fill_53178_v3_5 x1 x3 s = some x) (KI : ∀ s1 : (Int32 × zM), x = .inl s1 → Rn E zJ7_fill_53178 5 [some (.ref 34), some (.int x1), some (.int s1.1), some (.int x3)] [] zSH s1.2 rv zSH m') (KO : ∀ r1 : (zM), x = .inr r1 → Rn E zJ7_fill_53178 20 [none, none, none, none] [] zSH r1 rv zSH m') : Rn E zJ7_fill_53178 5 [some (.ref 34), some (.int x1), some (.int s.1), some (.int x3)] [] zSH s.2 rv zSH m' := by
  unfold b_J7_fill_53178_v3_5 at h
  refine zi_iloadn (q := 6) dJ7_fill_53178_5 rfl rfl ?_
  refine zi_iloadn (q := 7) dJ7_fill_53178_6 rfl rfl ?_
  refine zi_icmpge (q := 20) (q2 := 10) dJ7_fill_53178_7 (by decide) rfl (fun hc => ?_) (fun hc => ?_)
  · replace h := (if_pos hc).symm.trans h
    refine Rn.weakm [false, false, false, false] ?_
    exact KO s.2 (Option.some.inj h).symm
  · replace h := (if_neg hc).symm.trans h
    refine zi_aloadn (q := 11) dJ7_fill_53178_10 rfl rfl ?_
    refine zi_iloadn (q := 12) dJ7_fill_53178_11 rfl rfl ?_
    refine zi_iloadn (q := 13) dJ7_fill_53178_12 rfl rfl ?_
    obtain ⟨hz1, h⟩ := zg_some h
    refine zi_iast2 (q := 14) dJ7_fill_53178_13 so_34 (zin_vp hz1) rfl rfl ?_
    refine zi_iinc (q := 17) (v := s.1 + 1) (L' := [some (.ref 34), some (.int x1), some (.int (s.1 + 1)), some (.int x3)]) dJ7_fill_53178_14 rfl (by rw [ki_1]) (by decide) rfl rfl rfl ?_
    refine zi_goto (q := 5) dJ7_fill_53178_17 (by decide) ?_
    exact KI ((s.1 + 1), (zi s.2 34 s.1.toNatClampNeg x1)) (Option.some.inj h).symm
set_option maxRecDepth 20000 in
theorem r_J7_fill_53178_v3 {E : Nat × (Nat → Int32)} (x1 : Int32) (m : zM) (x : zM) (h : f_J7_fill_53178_v3 x1 m = some x) : zMet E zJ7_fill_53178 [.ref 34, .int x1] zSH m none zSH x := by
  refine zMet.of (L0 := [some (.ref 34), some (.int x1), none, none]) rfl trivial (Nat.le_of_ble_eq_true rfl) rfl ?_
  unfold f_J7_fill_53178_v3 at h
  refine zi_iconst (q := 1) dJ7_fill_53178_0 ki_0 rfl ?_
  refine zi_istoren (q := 2) (L' := [some (.ref 34), some (.int x1), some (.int 0), none]) dJ7_fill_53178_1 (by decide) rfl rfl rfl ?_
  refine zi_aloadn (q := 3) dJ7_fill_53178_2 rfl rfl ?_
  refine zi_alen (q := 4) dJ7_fill_53178_3 so_34 al_64 rfl ?_
  refine zi_istoren (q := 5) (L' := [some (.ref 34), some (.int x1), some (.int 0), some (.int 64)]) dJ7_fill_53178_4 (by decide) rfl rfl rfl ?_
  obtain ⟨r2, hr2, h⟩ := Option.bind_eq_some_iff.mp h
  refine zloop_rn (P := fun w : (Int32 × zM) => Rn E zJ7_fill_53178 5 [some (.ref 34), some (.int x1), some (.int w.1), some (.int 64)] [] zSH w.2 none zSH x) (X := fun w : (zM) => Rn E zJ7_fill_53178 20 [none, none, none, none] [] zSH w none zSH x) (fun w w0 hb KI KX => rb_J7_fill_53178_v3_5 x1 64 w _ _ w0 hb KI KX) zFU _ r2 hr2 ?_
  show Rn E zJ7_fill_53178 20 [none, none, none, none] [] zSH r2 none zSH x
  cases h
  exact zi_ret _ dJ7_fill_53178_20
set_option maxRecDepth 20000 in
theorem rb_J7_fill_53178_v4_5 {E : Nat × (Nat → Int32)} (x1 : Int32) (x3 : Int32)  (s : (Int32 × zM)) (rv : Option Value) (m' : zM) (x : ((Int32 × zM) ⊕ (zM))) (h : b_J7_fill_53178_v4_5 x1 x3 s = some x) (KI : ∀ s1 : (Int32 × zM), x = .inl s1 → Rn E zJ7_fill_53178 5 [some (.ref 35), some (.int x1), some (.int s1.1), some (.int x3)] [] zSH s1.2 rv zSH m') (KO : ∀ r1 : (zM), x = .inr r1 → Rn E zJ7_fill_53178 20 [none, none, none, none] [] zSH r1 rv zSH m') : Rn E zJ7_fill_53178 5 [some (.ref 35), some (.int x1), some (.int s.1), some (.int x3)] [] zSH s.2 rv zSH m' := by
  unfold b_J7_fill_53178_v4_5 at h
  refine zi_iloadn (q := 6) dJ7_fill_53178_5 rfl rfl ?_
  refine zi_iloadn (q := 7) dJ7_fill_53178_6 rfl rfl ?_
  refine zi_icmpge (q := 20) (q2 := 10) dJ7_fill_53178_7 (by decide) rfl (fun hc => ?_) (fun hc => ?_)
  · replace h := (if_pos hc).symm.trans h
    refine Rn.weakm [false, false, false, false] ?_
    exact KO s.2 (Option.some.inj h).symm
  · replace h := (if_neg hc).symm.trans h
    refine zi_aloadn (q := 11) dJ7_fill_53178_10 rfl rfl ?_
    refine zi_iloadn (q := 12) dJ7_fill_53178_11 rfl rfl ?_
    refine zi_iloadn (q := 13) dJ7_fill_53178_12 rfl rfl ?_
    obtain ⟨hz1, h⟩ := zg_some h
    refine zi_iast2 (q := 14) dJ7_fill_53178_13 so_35 (zin_vp hz1) rfl rfl ?_
    refine zi_iinc (q := 17) (v := s.1 + 1) (L' := [some (.ref 35), some (.int x1), some (.int (s.1 + 1)), some (.int x3)]) dJ7_fill_53178_14 rfl (by rw [ki_1]) (by decide) rfl rfl rfl ?_
    refine zi_goto (q := 5) dJ7_fill_53178_17 (by decide) ?_
    exact KI ((s.1 + 1), (zi s.2 35 s.1.toNatClampNeg x1)) (Option.some.inj h).symm
set_option maxRecDepth 20000 in
theorem r_J7_fill_53178_v4 {E : Nat × (Nat → Int32)} (x1 : Int32) (m : zM) (x : zM) (h : f_J7_fill_53178_v4 x1 m = some x) : zMet E zJ7_fill_53178 [.ref 35, .int x1] zSH m none zSH x := by
  refine zMet.of (L0 := [some (.ref 35), some (.int x1), none, none]) rfl trivial (Nat.le_of_ble_eq_true rfl) rfl ?_
  unfold f_J7_fill_53178_v4 at h
  refine zi_iconst (q := 1) dJ7_fill_53178_0 ki_0 rfl ?_
  refine zi_istoren (q := 2) (L' := [some (.ref 35), some (.int x1), some (.int 0), none]) dJ7_fill_53178_1 (by decide) rfl rfl rfl ?_
  refine zi_aloadn (q := 3) dJ7_fill_53178_2 rfl rfl ?_
  refine zi_alen (q := 4) dJ7_fill_53178_3 so_35 al_64 rfl ?_
  refine zi_istoren (q := 5) (L' := [some (.ref 35), some (.int x1), some (.int 0), some (.int 64)]) dJ7_fill_53178_4 (by decide) rfl rfl rfl ?_
  obtain ⟨r2, hr2, h⟩ := Option.bind_eq_some_iff.mp h
  refine zloop_rn (P := fun w : (Int32 × zM) => Rn E zJ7_fill_53178 5 [some (.ref 35), some (.int x1), some (.int w.1), some (.int 64)] [] zSH w.2 none zSH x) (X := fun w : (zM) => Rn E zJ7_fill_53178 20 [none, none, none, none] [] zSH w none zSH x) (fun w w0 hb KI KX => rb_J7_fill_53178_v4_5 x1 64 w _ _ w0 hb KI KX) zFU _ r2 hr2 ?_
  show Rn E zJ7_fill_53178 20 [none, none, none, none] [] zSH r2 none zSH x
  cases h
  exact zi_ret _ dJ7_fill_53178_20
set_option maxRecDepth 20000 in
theorem rb_J7_fill_53178_v5_5 {E : Nat × (Nat → Int32)} (x1 : Int32) (x3 : Int32)  (s : (Int32 × zM)) (rv : Option Value) (m' : zM) (x : ((Int32 × zM) ⊕ (zM))) (h : b_J7_fill_53178_v5_5 x1 x3 s = some x) (KI : ∀ s1 : (Int32 × zM), x = .inl s1 → Rn E zJ7_fill_53178 5 [some (.ref 36), some (.int x1), some (.int s1.1), some (.int x3)] [] zSH s1.2 rv zSH m') (KO : ∀ r1 : (zM), x = .inr r1 → Rn E zJ7_fill_53178 20 [none, none, none, none] [] zSH r1 rv zSH m') : Rn E zJ7_fill_53178 5 [some (.ref 36), some (.int x1), some (.int s.1), some (.int x3)] [] zSH s.2 rv zSH m' := by
  unfold b_J7_fill_53178_v5_5 at h
  refine zi_iloadn (q := 6) dJ7_fill_53178_5 rfl rfl ?_
  refine zi_iloadn (q := 7) dJ7_fill_53178_6 rfl rfl ?_
  refine zi_icmpge (q := 20) (q2 := 10) dJ7_fill_53178_7 (by decide) rfl (fun hc => ?_) (fun hc => ?_)
  · replace h := (if_pos hc).symm.trans h
    refine Rn.weakm [false, false, false, false] ?_
    exact KO s.2 (Option.some.inj h).symm
  · replace h := (if_neg hc).symm.trans h
    refine zi_aloadn (q := 11) dJ7_fill_53178_10 rfl rfl ?_
    refine zi_iloadn (q := 12) dJ7_fill_53178_11 rfl rfl ?_
    refine zi_iloadn (q := 13) dJ7_fill_53178_12 rfl rfl ?_
    obtain ⟨hz1, h⟩ := zg_some h
    refine zi_iast2 (q := 14) dJ7_fill_53178_13 so_36 (zin_vp hz1) rfl rfl ?_
    refine zi_iinc (q := 17) (v := s.1 + 1) (L' := [some (.ref 36), some (.int x1), some (.int (s.1 + 1)), some (.int x3)]) dJ7_fill_53178_14 rfl (by rw [ki_1]) (by decide) rfl rfl rfl ?_
    refine zi_goto (q := 5) dJ7_fill_53178_17 (by decide) ?_
    exact KI ((s.1 + 1), (zi s.2 36 s.1.toNatClampNeg x1)) (Option.some.inj h).symm
set_option maxRecDepth 20000 in
theorem r_J7_fill_53178_v5 {E : Nat × (Nat → Int32)} (x1 : Int32) (m : zM) (x : zM) (h : f_J7_fill_53178_v5 x1 m = some x) : zMet E zJ7_fill_53178 [.ref 36, .int x1] zSH m none zSH x := by
  refine zMet.of (L0 := [some (.ref 36), some (.int x1), none, none]) rfl trivial (Nat.le_of_ble_eq_true rfl) rfl ?_
  unfold f_J7_fill_53178_v5 at h
  refine zi_iconst (q := 1) dJ7_fill_53178_0 ki_0 rfl ?_
  refine zi_istoren (q := 2) (L' := [some (.ref 36), some (.int x1), some (.int 0), none]) dJ7_fill_53178_1 (by decide) rfl rfl rfl ?_
  refine zi_aloadn (q := 3) dJ7_fill_53178_2 rfl rfl ?_
  refine zi_alen (q := 4) dJ7_fill_53178_3 so_36 al_64 rfl ?_
  refine zi_istoren (q := 5) (L' := [some (.ref 36), some (.int x1), some (.int 0), some (.int 64)]) dJ7_fill_53178_4 (by decide) rfl rfl rfl ?_
  obtain ⟨r2, hr2, h⟩ := Option.bind_eq_some_iff.mp h
  refine zloop_rn (P := fun w : (Int32 × zM) => Rn E zJ7_fill_53178 5 [some (.ref 36), some (.int x1), some (.int w.1), some (.int 64)] [] zSH w.2 none zSH x) (X := fun w : (zM) => Rn E zJ7_fill_53178 20 [none, none, none, none] [] zSH w none zSH x) (fun w w0 hb KI KX => rb_J7_fill_53178_v5_5 x1 64 w _ _ w0 hb KI KX) zFU _ r2 hr2 ?_
  show Rn E zJ7_fill_53178 20 [none, none, none, none] [] zSH r2 none zSH x
  cases h
  exact zi_ret _ dJ7_fill_53178_20
set_option maxRecDepth 20000 in
theorem r_X9_renew {E : Nat × (Nat → Int32)}  (m : zM) (x : zM) (h : f_X9_renew  m = some x) : zMet E zX9_renew [.ref 31] zSH m none zSH x := by
  refine zMet.of (L0 := [some (.ref 31)]) rfl trivial (Nat.le_of_ble_eq_true rfl) rfl ?_
  unfold f_X9_renew at h
  refine zi_aloadn (q := 1) dX9_renew_0 rfl rfl ?_
  refine zi_getA (q := 4) dX9_renew_1 fl_9_9 so_31 rfl rfl ?_
  refine zi_bipush (q := 6) dX9_renew_4 kb_100 rfl ?_
  obtain ⟨m1, hm1, h⟩ := Option.bind_eq_some_iff.mp h
  refine zc_S2 (q := 9) (st := []) (S1 := []) (r_J7_fill_53178_v1 100 _ m1 hm1) dX9_renew_6 cb_J7_fill_53178 k3_46 k3_35 ⟨by decide, by decide⟩ rfl (Nat.le_of_ble_eq_true rfl) (Or.inl rfl) rfl rfl ?_
  refine zi_aloadn (q := 10) dX9_renew_9 rfl rfl ?_
  refine zi_getA (q := 13) dX9_renew_10 fl_9_15 so_31 rfl rfl ?_
  refine zi_bipush (q := 15) dX9_renew_13 kb_100 rfl ?_
  obtain ⟨m2, hm2, h⟩ := Option.bind_eq_some_iff.mp h
  refine zc_S2 (q := 18) (st := []) (S1 := []) (r_J7_fill_53178_v2 100 _ m2 hm2) dX9_renew_15 cb_J7_fill_53178 k3_46 k3_35 ⟨by decide, by decide⟩ rfl (Nat.le_of_ble_eq_true rfl) (Or.inl rfl) rfl rfl ?_
  refine zi_aloadn (q := 19) dX9_renew_18 rfl rfl ?_
  refine zi_getA (q := 22) dX9_renew_19 fl_9_18 so_31 rfl rfl ?_
  refine zi_iconst (q := 23) dX9_renew_22 ki_0 rfl ?_
  obtain ⟨m3, hm3, h⟩ := Option.bind_eq_some_iff.mp h
  refine zc_S2 (q := 26) (st := []) (S1 := []) (r_J7_fill_53178_v3 0 _ m3 hm3) dX9_renew_23 cb_J7_fill_53178 k3_46 k3_35 ⟨by decide, by decide⟩ rfl (Nat.le_of_ble_eq_true rfl) (Or.inl rfl) rfl rfl ?_
  refine zi_aloadn (q := 27) dX9_renew_26 rfl rfl ?_
  refine zi_getA (q := 30) dX9_renew_27 fl_9_21 so_31 rfl rfl ?_
  refine zi_iconst (q := 31) dX9_renew_30 ki_0 rfl ?_
  obtain ⟨m4, hm4, h⟩ := Option.bind_eq_some_iff.mp h
  refine zc_S2 (q := 34) (st := []) (S1 := []) (r_J7_fill_53178_v4 0 _ m4 hm4) dX9_renew_31 cb_J7_fill_53178 k3_46 k3_35 ⟨by decide, by decide⟩ rfl (Nat.le_of_ble_eq_true rfl) (Or.inl rfl) rfl rfl ?_
  refine zi_aloadn (q := 35) dX9_renew_34 rfl rfl ?_
  refine zi_getA (q := 38) dX9_renew_35 fl_9_24 so_31 rfl rfl ?_
  refine zi_iconst (q := 39) dX9_renew_38 ki_0 rfl ?_
  obtain ⟨m5, hm5, h⟩ := Option.bind_eq_some_iff.mp h
  refine zc_S2 (q := 42) (st := []) (S1 := []) (r_J7_fill_53178_v5 0 _ m5 hm5) dX9_renew_39 cb_J7_fill_53178 k3_46 k3_35 ⟨by decide, by decide⟩ rfl (Nat.le_of_ble_eq_true rfl) (Or.inl rfl) rfl rfl ?_
  cases h
  exact zi_ret _ dX9_renew_42
set_option maxRecDepth 20000 in
theorem rb_J7_fill_53178_v6_5 {E : Nat × (Nat → Int32)} (x1 : Int32) (x3 : Int32)  (s : (Int32 × zM)) (rv : Option Value) (m' : zM) (x : ((Int32 × zM) ⊕ (zM))) (h : b_J7_fill_53178_v6_5 x1 x3 s = some x) (KI : ∀ s1 : (Int32 × zM), x = .inl s1 → Rn E zJ7_fill_53178 5 [some (.ref 52), some (.int x1), some (.int s1.1), some (.int x3)] [] zSH s1.2 rv zSH m') (KO : ∀ r1 : (zM), x = .inr r1 → Rn E zJ7_fill_53178 20 [none, none, none, none] [] zSH r1 rv zSH m') : Rn E zJ7_fill_53178 5 [some (.ref 52), some (.int x1), some (.int s.1), some (.int x3)] [] zSH s.2 rv zSH m' := by
  unfold b_J7_fill_53178_v6_5 at h
  refine zi_iloadn (q := 6) dJ7_fill_53178_5 rfl rfl ?_
  refine zi_iloadn (q := 7) dJ7_fill_53178_6 rfl rfl ?_
  refine zi_icmpge (q := 20) (q2 := 10) dJ7_fill_53178_7 (by decide) rfl (fun hc => ?_) (fun hc => ?_)
  · replace h := (if_pos hc).symm.trans h
    refine Rn.weakm [false, false, false, false] ?_
    exact KO s.2 (Option.some.inj h).symm
  · replace h := (if_neg hc).symm.trans h
    refine zi_aloadn (q := 11) dJ7_fill_53178_10 rfl rfl ?_
    refine zi_iloadn (q := 12) dJ7_fill_53178_11 rfl rfl ?_
    refine zi_iloadn (q := 13) dJ7_fill_53178_12 rfl rfl ?_
    obtain ⟨hz1, h⟩ := zg_some h
    refine zi_iast2 (q := 14) dJ7_fill_53178_13 so_52 (zin_vp hz1) rfl rfl ?_
    refine zi_iinc (q := 17) (v := s.1 + 1) (L' := [some (.ref 52), some (.int x1), some (.int (s.1 + 1)), some (.int x3)]) dJ7_fill_53178_14 rfl (by rw [ki_1]) (by decide) rfl rfl rfl ?_
    refine zi_goto (q := 5) dJ7_fill_53178_17 (by decide) ?_
    exact KI ((s.1 + 1), (zi s.2 52 s.1.toNatClampNeg x1)) (Option.some.inj h).symm
set_option maxRecDepth 20000 in
theorem r_J7_fill_53178_v6 {E : Nat × (Nat → Int32)} (x1 : Int32) (m : zM) (x : zM) (h : f_J7_fill_53178_v6 x1 m = some x) : zMet E zJ7_fill_53178 [.ref 52, .int x1] zSH m none zSH x := by
  refine zMet.of (L0 := [some (.ref 52), some (.int x1), none, none]) rfl trivial (Nat.le_of_ble_eq_true rfl) rfl ?_
  unfold f_J7_fill_53178_v6 at h
  refine zi_iconst (q := 1) dJ7_fill_53178_0 ki_0 rfl ?_
  refine zi_istoren (q := 2) (L' := [some (.ref 52), some (.int x1), some (.int 0), none]) dJ7_fill_53178_1 (by decide) rfl rfl rfl ?_
  refine zi_aloadn (q := 3) dJ7_fill_53178_2 rfl rfl ?_
  refine zi_alen (q := 4) dJ7_fill_53178_3 so_52 al_64 rfl ?_
  refine zi_istoren (q := 5) (L' := [some (.ref 52), some (.int x1), some (.int 0), some (.int 64)]) dJ7_fill_53178_4 (by decide) rfl rfl rfl ?_
  obtain ⟨r2, hr2, h⟩ := Option.bind_eq_some_iff.mp h
  refine zloop_rn (P := fun w : (Int32 × zM) => Rn E zJ7_fill_53178 5 [some (.ref 52), some (.int x1), some (.int w.1), some (.int 64)] [] zSH w.2 none zSH x) (X := fun w : (zM) => Rn E zJ7_fill_53178 20 [none, none, none, none] [] zSH w none zSH x) (fun w w0 hb KI KX => rb_J7_fill_53178_v6_5 x1 64 w _ _ w0 hb KI KX) zFU _ r2 hr2 ?_
  show Rn E zJ7_fill_53178 20 [none, none, none, none] [] zSH r2 none zSH x
  cases h
  exact zi_ret _ dJ7_fill_53178_20
set_option maxRecDepth 20000 in
theorem r_X8_clear {E : Nat × (Nat → Int32)}  (m : zM) (x : zM) (h : f_X8_clear  m = some x) : zMet E zX8_clear [.ref 44] zSH m none zSH x := by
  refine zMet.of (L0 := [some (.ref 44)]) rfl trivial (Nat.le_of_ble_eq_true rfl) rfl ?_
  unfold f_X8_clear at h
  refine zi_aloadn (q := 1) dX8_clear_0 rfl rfl ?_
  refine zi_iconst (q := 2) dX8_clear_1 ki_0 rfl ?_
  refine zi_putI (q := 5) dX8_clear_2 pl_8_48 so_44 rfl ?_
  refine zi_aloadn (q := 6) dX8_clear_5 rfl rfl ?_
  refine zi_getA (q := 9) dX8_clear_6 fl_8_16 so_44 rfl rfl ?_
  refine zi_iconst (q := 10) dX8_clear_9 ki_m1 rfl ?_
  obtain ⟨m1, hm1, h⟩ := Option.bind_eq_some_iff.mp h
  refine zc_S2 (q := 13) (st := []) (S1 := []) (r_J7_fill_53178_v6 (-1) _ m1 hm1) dX8_clear_10 cb_J7_fill_53178 k3_51 k3_35 ⟨by decide, by decide⟩ rfl (Nat.le_of_ble_eq_true rfl) (Or.inl rfl) rfl rfl ?_
  cases h
  exact zi_ret _ dX8_clear_13
set_option maxRecDepth 20000 in
theorem r_X7_renew {E : Nat × (Nat → Int32)} (x1 : Int32) (x2 : Int32) (m : zM) (x : zM) (h : f_X7_renew x1 x2 m = some x) : zMet E zX7_renew [.ref 13, .int x1, .int x2] zSH m none zSH x := by
  refine zMet.of (L0 := [some (.ref 13), some (.int x1), some (.int x2)]) rfl trivial (Nat.le_of_ble_eq_true rfl) rfl ?_
  unfold f_X7_renew at h
  refine zi_aloadn (q := 1) dX7_renew_0 rfl rfl ?_
  refine zi_iconst (q := 2) dX7_renew_1 ki_1 rfl ?_
  refine zi_putZ (q := 5) dX7_renew_2 pl_7_75 so_13 rfl rfl ?_
  refine zi_aloadn (q := 6) dX7_renew_5 rfl rfl ?_
  refine zi_getA (q := 9) dX7_renew_6 fl_7_12 so_13 rfl rfl ?_
  refine zi_iloadn (q := 10) dX7_renew_9 rfl rfl ?_
  refine zi_iloadn (q := 11) dX7_renew_10 rfl rfl ?_
  obtain ⟨m1, hm1, h⟩ := Option.bind_eq_some_iff.mp h
  refine zc_V2 (q := 14) (st := []) (S1 := []) (r_X1_lay x1 x2 _ m1 hm1) dX7_renew_11 cb_X1_lay k3_14 k3_15 k3_16 ⟨by decide, by decide⟩ so_14 rfl rfl rfl (Nat.le_of_ble_eq_true rfl) (Or.inl rfl) rfl rfl ?_
  refine zi_aloadn (q := 15) dX7_renew_14 rfl rfl ?_
  refine zi_getA (q := 18) dX7_renew_15 fl_7_21 so_13 rfl rfl ?_
  obtain ⟨m2, hm2, h⟩ := Option.bind_eq_some_iff.mp h
  refine zc_V2 (q := 21) (st := []) (S1 := []) (r_X2_liftAll  _ m2 hm2) dX7_renew_18 cb_X2_liftAll k3_26 k3_27 k3_28 ⟨by decide, by decide⟩ so_19 rfl rfl rfl (Nat.le_of_ble_eq_true rfl) (Or.inl rfl) rfl rfl ?_
  refine zi_aloadn (q := 22) dX7_renew_21 rfl rfl ?_
  refine zi_getA (q := 25) dX7_renew_22 fl_7_28 so_13 rfl rfl ?_
  obtain ⟨m3, hm3, h⟩ := Option.bind_eq_some_iff.mp h
  refine zc_V2 (q := 28) (st := []) (S1 := []) (r_X0_renew  _ m3 hm3) dX7_renew_25 cb_X0_renew k3_30 k3_31 k3_32 ⟨by decide, by decide⟩ so_24 rfl rfl rfl (Nat.le_of_ble_eq_true rfl) (Or.inl rfl) rfl rfl ?_
  refine zi_gets3 (q := 31) dX7_renew_28 rfl rfl ?_
  refine zi_iconst (q := 32) dX7_renew_31 ki_0 rfl ?_
  refine zi_aloadn (q := 33) dX7_renew_32 rfl rfl ?_
  refine zi_getA (q := 36) dX7_renew_33 fl_7_32 so_13 rfl rfl ?_
  refine zi_iconst (q := 37) dX7_renew_36 ki_0 rfl ?_
  refine zi_bipush (q := 39) dX7_renew_37 kb_9 rfl ?_
  refine zi_copy (q := 42) dX7_renew_39 k3_39 k3_41 k3_40 k1_16 so_26 (by decide) (by decide) (by decide) (by decide) (by decide) (by decide) (by decide) rfl ?_
  show Rn E zX7_renew 42 [some (.ref 13), some (.int x1), some (.int x2)] [] zSH (zcp m3 (zxs 1003) 26 0 0 9) none zSH x
  refine zi_aloadn (q := 43) dX7_renew_42 rfl rfl ?_
  refine zi_getA (q := 46) dX7_renew_43 fl_7_48 so_13 rfl rfl ?_
  obtain ⟨m4, hm4, h⟩ := Option.bind_eq_some_iff.mp h
  refine zc_V2 (q := 49) (st := []) (S1 := []) (r_X9_renew  _ m4 hm4) dX7_renew_46 cb_X9_renew k3_42 k3_43 k3_44 ⟨by decide, by decide⟩ so_31 rfl rfl rfl (Nat.le_of_ble_eq_true rfl) (Or.inl rfl) rfl rfl ?_
  refine zi_aloadn (q := 50) dX7_renew_49 rfl rfl ?_
  refine zi_getA (q := 53) dX7_renew_50 fl_7_62 so_13 rfl rfl ?_
  obtain ⟨m5, hm5, h⟩ := Option.bind_eq_some_iff.mp h
  refine zc_V2 (q := 56) (st := []) (S1 := []) (r_X8_clear  _ m5 hm5) dX7_renew_53 cb_X8_clear k3_47 k3_48 k3_49 ⟨by decide, by decide⟩ so_44 rfl rfl rfl (Nat.le_of_ble_eq_true rfl) (Or.inl rfl) rfl rfl ?_
  refine zi_aloadn (q := 57) dX7_renew_56 rfl rfl ?_
  refine zi_getA (q := 60) dX7_renew_57 fl_7_71 so_13 rfl rfl ?_
  refine zi_iconst (q := 61) dX7_renew_60 ki_0 rfl ?_
  refine zi_putI (q := 64) dX7_renew_61 pl_7_102 so_60 rfl ?_
  refine zi_aloadn (q := 65) dX7_renew_64 rfl rfl ?_
  refine zi_iconst (q := 66) dX7_renew_65 ki_0 rfl ?_
  refine zi_putI (q := 69) dX7_renew_66 pl_7_106 so_13 rfl ?_
  refine zi_aloadn (q := 70) dX7_renew_69 rfl rfl ?_
  refine zi_iconst (q := 71) dX7_renew_70 ki_0 rfl ?_
  refine zi_putZ (q := 74) dX7_renew_71 pl_7_109 so_13 rfl rfl ?_
  refine zi_aloadn (q := 75) dX7_renew_74 rfl rfl ?_
  refine zi_iconst (q := 76) dX7_renew_75 ki_0 rfl ?_
  refine zi_putI (q := 79) dX7_renew_76 pl_7_112 so_13 rfl ?_
  cases h
  exact zi_ret _ dX7_renew_79
