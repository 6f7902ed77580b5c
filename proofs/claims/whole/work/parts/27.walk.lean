set_option maxRecDepth 20000 in
theorem rj_X12_laySpots_38 {E : Nat × (Nat → Int32)} (x1 : Int32) (m : zM) (rv : Option Value) (m' : zM) (x : ((Int32 × zM) ⊕ (zM))) (h : j_X12_laySpots_38 x1 m = some x) (KI : ∀ s1 : (Int32 × zM), x = .inl s1 → Rn E zX12_laySpots 7 [some (.ref 68), some (.int s1.1)] [] zSH s1.2 rv zSH m') : Rn E zX12_laySpots 38 [some (.ref 68), some (.int x1)] [] zSH m rv zSH m' := by
  unfold j_X12_laySpots_38 at h
  refine zi_iinc (q := 41) (v := x1 + 1) (L' := [some (.ref 68), some (.int (x1 + 1))]) dX12_laySpots_38 rfl (by rw [ki_1]) (by decide) rfl rfl rfl ?_
  refine zi_goto (q := 7) dX12_laySpots_41 (by decide) ?_
  exact KI ((x1 + 1), m) (Option.some.inj h).symm
set_option maxRecDepth 20000 in
theorem rb_X12_laySpots_7 {E : Nat × (Nat → Int32)}   (s : (Int32 × zM)) (rv : Option Value) (m' : zM) (x : ((Int32 × zM) ⊕ (zM))) (h : b_X12_laySpots_7  s = some x) (KI : ∀ s1 : (Int32 × zM), x = .inl s1 → Rn E zX12_laySpots 7 [some (.ref 68), some (.int s1.1)] [] zSH s1.2 rv zSH m') (KO : ∀ r1 : (zM), x = .inr r1 → Rn E zX12_laySpots 44 [none, none] [] zSH r1 rv zSH m') : Rn E zX12_laySpots 7 [some (.ref 68), some (.int s.1)] [] zSH s.2 rv zSH m' := by
  unfold b_X12_laySpots_7 at h
  refine zi_iloadn (q := 8) dX12_laySpots_7 rfl rfl ?_
  refine zi_aloadn (q := 9) dX12_laySpots_8 rfl rfl ?_
  obtain ⟨r1, hr1, h⟩ := Option.bind_eq_some_iff.mp h
  refine zc_V2 (q := 12) (st := [.int s.1]) (S1 := [.int r1, .int s.1]) (r_X12_cells  _ r1 hr1) dX12_laySpots_9 cb_X12_cells k5_138 k5_140 ks_X12_cells ⟨by decide, by decide⟩ so_68 rfl rfl rfl (Nat.le_of_ble_eq_true rfl) (Or.inl rfl) rfl rfl ?_
  refine zi_icmpge (q := 44) (q2 := 15) dX12_laySpots_12 (by decide) rfl (fun hc => ?_) (fun hc => ?_)
  · replace h := (if_pos hc).symm.trans h
    refine Rn.weakm [false, false] ?_
    exact KO s.2 (Option.some.inj h).symm
  · replace h := (if_neg hc).symm.trans h
    refine zi_aloadn (q := 16) dX12_laySpots_15 rfl rfl ?_
    refine zi_iloadn (q := 17) dX12_laySpots_16 rfl rfl ?_
    obtain ⟨r2, hr2, h⟩ := Option.bind_eq_some_iff.mp h
    refine zc_V2 (q := 20) (st := []) (S1 := [.int (bi r2)]) (r_X12_isHigh s.1 _ r2 hr2) dX12_laySpots_17 cb_X12_isHigh k6_21 k6_23 ks_X12_isHigh ⟨by decide, by decide⟩ so_68 rfl rfl rfl (Nat.le_of_ble_eq_true rfl) (Or.inl rfl) rfl rfl ?_
    refine zi_ifeq (q := 38) (q2 := 23) dX12_laySpots_20 (by decide) rfl (fun hc => ?_) (fun hc => ?_)
    · replace h := (if_pos hc).symm.trans h
      exact rj_X12_laySpots_38 s.1 _ _ _ _ h KI
    · replace h := (if_neg hc).symm.trans h
      refine zi_aloadn (q := 24) dX12_laySpots_23 rfl rfl ?_
      refine zi_iloadn (q := 25) dX12_laySpots_24 rfl rfl ?_
      obtain ⟨r3, hr3, h⟩ := Option.bind_eq_some_iff.mp h
      refine zc_V2 (q := 28) (st := []) (S1 := [.int r3]) (r_X12_aheadOf s.1 _ r3 hr3) dX12_laySpots_25 cb_X12_aheadOf k6_25 k6_27 ks_X12_aheadOf ⟨by decide, by decide⟩ so_68 rfl rfl rfl (Nat.le_of_ble_eq_true rfl) (Or.inl rfl) rfl rfl ?_
      refine zi_bipush (q := 30) dX12_laySpots_28 kb_6 rfl ?_
      refine zi_icmpge (q := 38) (q2 := 33) dX12_laySpots_30 (by decide) rfl (fun hc => ?_) (fun hc => ?_)
      · replace h := (if_pos hc).symm.trans h
        exact rj_X12_laySpots_38 s.1 _ _ _ _ h KI
      · replace h := (if_neg hc).symm.trans h
        refine zi_aloadn (q := 34) dX12_laySpots_33 rfl rfl ?_
        refine zi_iloadn (q := 35) dX12_laySpots_34 rfl rfl ?_
        obtain ⟨m4, hm4, h⟩ := Option.bind_eq_some_iff.mp h
        refine zc_V2 (q := 38) (st := []) (S1 := []) (r_X12_laySpot s.1 _ m4 hm4) dX12_laySpots_35 cb_X12_laySpot k6_33 k6_35 ks_X12_laySpot ⟨by decide, by decide⟩ so_68 rfl rfl rfl (Nat.le_of_ble_eq_true rfl) (Or.inl rfl) rfl rfl ?_
        exact rj_X12_laySpots_38 s.1 _ _ _ _ h KI
set_option maxRecDepth 20000 in
theorem r_X12_laySpots {E : Nat × (Nat → Int32)}  (m : zM) (x : zM) (h : f_X12_laySpots  m = some x) : zMet E zX12_laySpots [.ref 68] zSH m none zSH x := by
  refine zMet.of (L0 := [some (.ref 68), none]) rfl trivial (Nat.le_of_ble_eq_true rfl) rfl ?_
  unfold f_X12_laySpots at h
  refine zi_aloadn (q := 1) dX12_laySpots_0 rfl rfl ?_
  refine zi_iconst (q := 2) dX12_laySpots_1 ki_0 rfl ?_
  refine zi_putI (q := 5) dX12_laySpots_2 pl_12_209 so_68 rfl ?_
  refine zi_iconst (q := 6) dX12_laySpots_5 ki_0 rfl ?_
  refine zi_istoren (q := 7) (L' := [some (.ref 68), some (.int 0)]) dX12_laySpots_6 (by decide) rfl rfl rfl ?_
  obtain ⟨r5, hr5, h⟩ := Option.bind_eq_some_iff.mp h
  refine zloop_rn (P := fun w : (Int32 × zM) => Rn E zX12_laySpots 7 [some (.ref 68), some (.int w.1)] [] zSH w.2 none zSH x) (X := fun w : (zM) => Rn E zX12_laySpots 44 [none, none] [] zSH w none zSH x) (fun w w0 hb KI KX => rb_X12_laySpots_7  w _ _ w0 hb KI KX) zFU _ r5 hr5 ?_
  show Rn E zX12_laySpots 44 [none, none] [] zSH r5 none zSH x
  cases h
  exact zi_ret _ dX12_laySpots_44
set_option maxRecDepth 20000 in
theorem r_X12_abs {E : Nat × (Nat → Int32)} (x0 : Int32) (m : zM) (x : Int32) (h : f_X12_abs x0 m = some x) : zMet E zX12_abs [.int x0] zSH m (some (.int x)) zSH m := by
  refine zMet.of (L0 := [some (.int x0)]) rfl rfl (Nat.le_of_ble_eq_true rfl) rfl ?_
  unfold f_X12_abs at h
  refine zi_iloadn (q := 1) dX12_abs_0 rfl rfl ?_
  refine zi_ifge (q := 9) (q2 := 4) dX12_abs_1 (by decide) rfl (fun hc => ?_) (fun hc => ?_)
  · replace h := (if_pos hc).symm.trans h
    refine zi_iloadn (q := 10) dX12_abs_9 rfl rfl ?_
    cases h
    exact zi_ret _ dX12_abs_10
  · replace h := (if_neg hc).symm.trans h
    refine zi_iloadn (q := 5) dX12_abs_4 rfl rfl ?_
    refine zi_ineg (q := 6) dX12_abs_5 rfl ?_
    refine zi_goto (q := 10) dX12_abs_6 (by decide) ?_
    cases h
    exact zi_ret _ dX12_abs_10
set_option maxRecDepth 20000 in
theorem r_X12_isNear {E : Nat × (Nat → Int32)} (x1 : Int32) (x2 : Int32) (m : zM) (x : Bool) (h : f_X12_isNear x1 x2 m = some x) : zMet E zX12_isNear [.ref 68, .int x1, .int x2] zSH m (some (.int (bi x))) zSH m := by
  refine zMet.of (L0 := [some (.ref 68), some (.int x1), some (.int x2)]) rfl (zfit_bi _) (Nat.le_of_ble_eq_true rfl) rfl ?_
  unfold f_X12_isNear at h
  refine zi_aloadn (q := 1) dX12_isNear_0 rfl rfl ?_
  refine zi_getA (q := 4) dX12_isNear_1 fl_12_68 so_68 rfl rfl ?_
  refine zi_iloadn (q := 5) dX12_isNear_4 rfl rfl ?_
  obtain ⟨hz1, h⟩ := zg_some h
  refine zi_iald2 (q := 6) dX12_isNear_5 so_88 (zin_vp hz1) rfl rfl ?_
  refine zi_aloadn (q := 7) dX12_isNear_6 rfl rfl ?_
  refine zi_getA (q := 10) dX12_isNear_7 fl_12_56 so_68 rfl rfl ?_
  refine zi_iloadn (q := 11) dX12_isNear_10 rfl rfl ?_
  obtain ⟨hz2, h⟩ := zg_some h
  refine zi_iald2 (q := 12) dX12_isNear_11 so_84 (zin_vp hz2) rfl rfl ?_
  refine zi_isub (q := 13) dX12_isNear_12 rfl ?_
  obtain ⟨r3, hr3, h⟩ := Option.bind_eq_some_iff.mp h
  refine zc_S2 (q := 16) (st := []) (S1 := [.int r3]) (r_X12_abs ((m.1 88 x1.toNatClampNeg) - (m.1 84 x2.toNatClampNeg)) _ r3 hr3) dX12_isNear_13 cb_X12_abs k6_53 k6_54 ⟨by decide, by decide⟩ rfl (Nat.le_of_ble_eq_true rfl) (Or.inl rfl) rfl rfl ?_
  refine zi_aloadn (q := 17) dX12_isNear_16 rfl rfl ?_
  refine zi_getA (q := 20) dX12_isNear_17 fl_12_44 so_68 rfl rfl ?_
  refine zi_iconst (q := 21) dX12_isNear_20 ki_4 rfl ?_
  refine zi_iald2 (q := 22) dX12_isNear_21 so_80 vi_4_9 ix_4 rfl ?_
  refine zi_icmpgt (q := 54) (q2 := 25) dX12_isNear_22 (by decide) rfl (fun hc => ?_) (fun hc => ?_)
  · replace h := (if_pos hc).symm.trans h
    refine zi_iconst (q := 55) dX12_isNear_54 ki_0 rfl ?_
    cases h
    exact zi_ret _ dX12_isNear_55
  · replace h := (if_neg hc).symm.trans h
    refine zi_aloadn (q := 26) dX12_isNear_25 rfl rfl ?_
    refine zi_getA (q := 29) dX12_isNear_26 fl_12_71 so_68 rfl rfl ?_
    refine zi_iloadn (q := 30) dX12_isNear_29 rfl rfl ?_
    obtain ⟨hz4, h⟩ := zg_some h
    refine zi_iald2 (q := 31) dX12_isNear_30 so_89 (zin_vp hz4) rfl rfl ?_
    refine zi_aloadn (q := 32) dX12_isNear_31 rfl rfl ?_
    refine zi_getA (q := 35) dX12_isNear_32 fl_12_59 so_68 rfl rfl ?_
    refine zi_iloadn (q := 36) dX12_isNear_35 rfl rfl ?_
    obtain ⟨hz5, h⟩ := zg_some h
    refine zi_iald2 (q := 37) dX12_isNear_36 so_85 (zin_vp hz5) rfl rfl ?_
    refine zi_isub (q := 38) dX12_isNear_37 rfl ?_
    obtain ⟨r6, hr6, h⟩ := Option.bind_eq_some_iff.mp h
    refine zc_S2 (q := 41) (st := []) (S1 := [.int r6]) (r_X12_abs ((m.1 89 x1.toNatClampNeg) - (m.1 85 x2.toNatClampNeg)) _ r6 hr6) dX12_isNear_38 cb_X12_abs k6_53 k6_54 ⟨by decide, by decide⟩ rfl (Nat.le_of_ble_eq_true rfl) (Or.inl rfl) rfl rfl ?_
    refine zi_aloadn (q := 42) dX12_isNear_41 rfl rfl ?_
    refine zi_getA (q := 45) dX12_isNear_42 fl_12_44 so_68 rfl rfl ?_
    refine zi_iconst (q := 46) dX12_isNear_45 ki_4 rfl ?_
    refine zi_iald2 (q := 47) dX12_isNear_46 so_80 vi_4_9 ix_4 rfl ?_
    refine zi_icmpgt (q := 54) (q2 := 50) dX12_isNear_47 (by decide) rfl (fun hc => ?_) (fun hc => ?_)
    · replace h := (if_pos hc).symm.trans h
      refine zi_iconst (q := 55) dX12_isNear_54 ki_0 rfl ?_
      cases h
      exact zi_ret _ dX12_isNear_55
    · replace h := (if_neg hc).symm.trans h
      refine zi_iconst (q := 51) dX12_isNear_50 ki_1 rfl ?_
      refine zi_goto (q := 55) dX12_isNear_51 (by decide) ?_
      cases h
      exact zi_ret _ dX12_isNear_55
set_option maxRecDepth 20000 in
theorem r_X12_pairCost {E : Nat × (Nat → Int32)} (x1 : Int32) (x2 : Int32) (m : zM) (x : Int32) (h : f_X12_pairCost x1 x2 m = some x) : zMet E zX12_pairCost [.ref 68, .int x1, .int x2] zSH m (some (.int x)) zSH m := by
  refine zMet.of (L0 := [some (.ref 68), some (.int x1), some (.int x2), none, none]) rfl rfl (Nat.le_of_ble_eq_true rfl) rfl ?_
  unfold f_X12_pairCost at h
  refine zi_aloadn (q := 1) dX12_pairCost_0 rfl rfl ?_
  refine zi_getA (q := 4) dX12_pairCost_1 fl_12_68 so_68 rfl rfl ?_
  refine zi_iloadn (q := 5) dX12_pairCost_4 rfl rfl ?_
  obtain ⟨hz1, h⟩ := zg_some h
  refine zi_iald2 (q := 6) dX12_pairCost_5 so_88 (zin_vp hz1) rfl rfl ?_
  refine zi_aloadn (q := 7) dX12_pairCost_6 rfl rfl ?_
  refine zi_getA (q := 10) dX12_pairCost_7 fl_12_56 so_68 rfl rfl ?_
  refine zi_iloadn (q := 11) dX12_pairCost_10 rfl rfl ?_
  obtain ⟨hz2, h⟩ := zg_some h
  refine zi_iald2 (q := 12) dX12_pairCost_11 so_84 (zin_vp hz2) rfl rfl ?_
  refine zi_isub (q := 13) dX12_pairCost_12 rfl ?_
  refine zi_istoren (q := 14) (L' := [some (.ref 68), some (.int x1), some (.int x2), some (.int ((m.1 88 x1.toNatClampNeg) - (m.1 84 x2.toNatClampNeg))), none]) dX12_pairCost_13 (by decide) rfl rfl rfl ?_
  refine zi_aloadn (q := 15) dX12_pairCost_14 rfl rfl ?_
  refine zi_getA (q := 18) dX12_pairCost_15 fl_12_71 so_68 rfl rfl ?_
  refine zi_iloadn (q := 19) dX12_pairCost_18 rfl rfl ?_
  obtain ⟨hz3, h⟩ := zg_some h
  refine zi_iald2 (q := 20) dX12_pairCost_19 so_89 (zin_vp hz3) rfl rfl ?_
  refine zi_aloadn (q := 21) dX12_pairCost_20 rfl rfl ?_
  refine zi_getA (q := 24) dX12_pairCost_21 fl_12_59 so_68 rfl rfl ?_
  refine zi_iloadn (q := 25) dX12_pairCost_24 rfl rfl ?_
  obtain ⟨hz4, h⟩ := zg_some h
  refine zi_iald2 (q := 26) dX12_pairCost_25 so_85 (zin_vp hz4) rfl rfl ?_
  refine zi_isub (q := 27) dX12_pairCost_26 rfl ?_
  refine zi_istore (q := 29) (L' := [some (.ref 68), some (.int x1), some (.int x2), some (.int ((m.1 88 x1.toNatClampNeg) - (m.1 84 x2.toNatClampNeg))), some (.int ((m.1 89 x1.toNatClampNeg) - (m.1 85 x2.toNatClampNeg)))]) dX12_pairCost_27 (by decide) rfl rfl rfl ?_
  refine zi_iloadn (q := 30) dX12_pairCost_29 rfl rfl ?_
  refine zi_iloadn (q := 31) dX12_pairCost_30 rfl rfl ?_
  refine zi_imul (q := 32) dX12_pairCost_31 rfl ?_
  refine zi_iload (q := 34) dX12_pairCost_32 rfl rfl ?_
  refine zi_iload (q := 36) dX12_pairCost_34 rfl rfl ?_
  refine zi_imul (q := 37) dX12_pairCost_36 rfl ?_
  refine zi_iadd (q := 38) dX12_pairCost_37 rfl ?_
  cases h
  exact zi_ret _ dX12_pairCost_38
set_option maxRecDepth 20000 in
theorem rj_X12_isBetter_30 {E : Nat × (Nat → Int32)} (m : zM)  (x : Bool) (h : j_X12_isBetter_30  m = some x) : Rn E zX12_isBetter 30 [none, none, none, none] [] zSH m (some (.int (bi x))) zSH m := by
  unfold j_X12_isBetter_30 at h
  refine zi_iconst (q := 31) dX12_isBetter_30 ki_1 rfl ?_
  refine zi_goto (q := 35) dX12_isBetter_31 (by decide) ?_
  cases h
  exact zi_ret _ dX12_isBetter_35
set_option maxRecDepth 20000 in
theorem r_X12_isBetter {E : Nat × (Nat → Int32)} (x1 : Int32) (x2 : Int32) (x3 : Int32) (m : zM) (x : Bool) (h : f_X12_isBetter x1 x2 x3 m = some x) : zMet E zX12_isBetter [.ref 68, .int x1, .int x2, .int x3] zSH m (some (.int (bi x))) zSH m := by
  refine zMet.of (L0 := [some (.ref 68), some (.int x1), some (.int x2), some (.int x3)]) rfl (zfit_bi _) (Nat.le_of_ble_eq_true rfl) rfl ?_
  unfold f_X12_isBetter at h
  refine zi_iloadn (q := 1) dX12_isBetter_0 rfl rfl ?_
  refine zi_aloadn (q := 2) dX12_isBetter_1 rfl rfl ?_
  refine zi_getA (q := 5) dX12_isBetter_2 fl_12_107 so_68 rfl rfl ?_
  refine zi_iloadn (q := 6) dX12_isBetter_5 rfl rfl ?_
  obtain ⟨hz1, h⟩ := zg_some h
  refine zi_iald2 (q := 7) dX12_isBetter_6 so_101 (zin_vp hz1) rfl rfl ?_
  refine zi_icmpgt (q := 30) (q2 := 10) dX12_isBetter_7 (by decide) rfl (fun hc => ?_) (fun hc => ?_)
  · replace h := (if_pos hc).symm.trans h
    refine Rn.weakm [false, false, false, false] ?_
    exact rj_X12_isBetter_30  _ _ h
  · replace h := (if_neg hc).symm.trans h
    refine zi_iloadn (q := 11) dX12_isBetter_10 rfl rfl ?_
    refine zi_aloadn (q := 12) dX12_isBetter_11 rfl rfl ?_
    refine zi_getA (q := 15) dX12_isBetter_12 fl_12_107 so_68 rfl rfl ?_
    refine zi_iloadn (q := 16) dX12_isBetter_15 rfl rfl ?_
    obtain ⟨hz2, h⟩ := zg_some h
    refine zi_iald2 (q := 17) dX12_isBetter_16 so_101 (zin_vp hz2) rfl rfl ?_
    refine zi_icmpne (q := 34) (q2 := 20) dX12_isBetter_17 (by decide) rfl (fun hc => ?_) (fun hc => ?_)
    · replace h := (if_neg hc).symm.trans h
      refine zi_iconst (q := 35) dX12_isBetter_34 ki_0 rfl ?_
      cases h
      exact zi_ret _ dX12_isBetter_35
    · replace h := (if_pos hc).symm.trans h
      refine zi_iloadn (q := 21) dX12_isBetter_20 rfl rfl ?_
      refine zi_aloadn (q := 22) dX12_isBetter_21 rfl rfl ?_
      refine zi_getA (q := 25) dX12_isBetter_22 fl_12_110 so_68 rfl rfl ?_
      refine zi_iloadn (q := 26) dX12_isBetter_25 rfl rfl ?_
      obtain ⟨hz3, h⟩ := zg_some h
      refine zi_iald2 (q := 27) dX12_isBetter_26 so_102 (zin_vp hz3) rfl rfl ?_
      refine zi_icmpge (q := 34) (q2 := 30) dX12_isBetter_27 (by decide) rfl (fun hc => ?_) (fun hc => ?_)
      · replace h := (if_pos hc).symm.trans h
        refine zi_iconst (q := 35) dX12_isBetter_34 ki_0 rfl ?_
        cases h
        exact zi_ret _ dX12_isBetter_35
      · replace h := (if_neg hc).symm.trans h
        refine Rn.weakm [false, false, false, false] ?_
        exact rj_X12_isBetter_30  _ _ h
set_option maxRecDepth 20000 in
theorem rj_X12_layPairsOf_142 {E : Nat × (Nat → Int32)} (x1 : Int32) (x2 : Int32) (x3 : Int32) (x4 : Int32) (m : zM) (rv : Option Value) (m' : zM) (x : ((Int32 × zM) ⊕ (zM))) (h : j_X12_layPairsOf_142 x1 x2 x3 x4 m = some x) (KI : ∀ s1 : (Int32 × zM), x = .inl s1 → Rn E zX12_layPairsOf 40 [some (.ref 68), some (.int x1), some (.int x2), some (.int x3), some (.int s1.1), none, none] [] zSH s1.2 rv zSH m') : Rn E zX12_layPairsOf 142 [some (.ref 68), some (.int x1), some (.int x2), some (.int x3), some (.int x4), none, none] [] zSH m rv zSH m' := by
  unfold j_X12_layPairsOf_142 at h
  refine zi_iinc (q := 145) (v := x4 + 1) (L' := [some (.ref 68), some (.int x1), some (.int x2), some (.int x3), some (.int (x4 + 1)), none, none]) dX12_layPairsOf_142 rfl (by rw [ki_1]) (by decide) rfl rfl rfl ?_
  refine zi_goto (q := 40) dX12_layPairsOf_145 (by decide) ?_
  exact KI ((x4 + 1), m) (Option.some.inj h).symm
set_option maxRecDepth 20000 in
theorem rb_X12_layPairsOf_40 {E : Nat × (Nat → Int32)} (x1 : Int32) (x2 : Int32) (x3 : Int32)  (s : (Int32 × zM)) (rv : Option Value) (m' : zM) (x : ((Int32 × zM) ⊕ (zM))) (h : b_X12_layPairsOf_40 x1 x2 x3 s = some x) (KI : ∀ s1 : (Int32 × zM), x = .inl s1 → Rn E zX12_layPairsOf 40 [some (.ref 68), some (.int x1), some (.int x2), some (.int x3), some (.int s1.1), none, none] [] zSH s1.2 rv zSH m') (KO : ∀ r1 : (zM), x = .inr r1 → Rn E zX12_layPairsOf 148 [none, none, none, none, none, none, none] [] zSH r1 rv zSH m') : Rn E zX12_layPairsOf 40 [some (.ref 68), some (.int x1), some (.int x2), some (.int x3), some (.int s.1), none, none] [] zSH s.2 rv zSH m' := by
  unfold b_X12_layPairsOf_40 at h
  refine zi_iload (q := 42) dX12_layPairsOf_40 rfl rfl ?_
  refine zi_aloadn (q := 43) dX12_layPairsOf_42 rfl rfl ?_
  refine zi_getI (q := 46) dX12_layPairsOf_43 fl_12_209 (by decide) so_68 rfl ?_
  refine zi_icmpge (q := 148) (q2 := 49) dX12_layPairsOf_46 (by decide) rfl (fun hc => ?_) (fun hc => ?_)
  · replace h := (if_pos hc).symm.trans h
    refine Rn.weakm [false, false, false, false, false, false, false] ?_
    exact KO s.2 (Option.some.inj h).symm
  · replace h := (if_neg hc).symm.trans h
    refine zi_iloadn (q := 50) dX12_layPairsOf_49 rfl rfl ?_
    refine zi_iload (q := 52) dX12_layPairsOf_50 rfl rfl ?_
    refine zi_ishr2 (q := 53) dX12_layPairsOf_52 rfl ?_
    refine zi_iconst (q := 54) dX12_layPairsOf_53 ki_1 rfl ?_
    refine zi_iand (q := 55) dX12_layPairsOf_54 rfl ?_
    refine zi_ifne (q := 142) (q2 := 58) dX12_layPairsOf_55 (by decide) rfl (fun hc => ?_) (fun hc => ?_)
    · replace h := (if_neg hc).symm.trans h
      exact rj_X12_layPairsOf_142 x1 x2 x3 s.1 _ _ _ _ h KI
    · replace h := (if_pos hc).symm.trans h
      refine zi_aloadn (q := 59) dX12_layPairsOf_58 rfl rfl ?_
      refine zi_iloadn (q := 60) dX12_layPairsOf_59 rfl rfl ?_
      refine zi_iload (q := 62) dX12_layPairsOf_60 rfl rfl ?_
      obtain ⟨r5, hr5, h⟩ := Option.bind_eq_some_iff.mp h
      refine zc_V2 (q := 65) (st := []) (S1 := [.int (bi r5)]) (r_X12_isNear x1 s.1 _ r5 hr5) dX12_layPairsOf_62 cb_X12_isNear k6_49 k6_51 ks_X12_isNear ⟨by decide, by decide⟩ so_68 rfl rfl rfl (Nat.le_of_ble_eq_true rfl) (Or.inl rfl) rfl rfl ?_
      refine zi_ifeq (q := 142) (q2 := 68) dX12_layPairsOf_65 (by decide) rfl (fun hc => ?_) (fun hc => ?_)
      · replace h := (if_pos hc).symm.trans h
        exact rj_X12_layPairsOf_142 x1 x2 x3 s.1 _ _ _ _ h KI
      · replace h := (if_neg hc).symm.trans h
        refine zi_bipush (q := 70) dX12_layPairsOf_68 kb_64 rfl ?_
        refine zi_iloadn (q := 71) dX12_layPairsOf_70 rfl rfl ?_
        refine zi_iconst (q := 72) dX12_layPairsOf_71 ki_1 rfl ?_
        refine zi_iadd (q := 73) dX12_layPairsOf_72 rfl ?_
        refine zi_imul (q := 74) dX12_layPairsOf_73 rfl ?_
        refine zi_iloadn (q := 75) dX12_layPairsOf_74 rfl rfl ?_
        refine zi_iconst (q := 76) dX12_layPairsOf_75 ki_1 rfl ?_
        refine zi_iload (q := 78) dX12_layPairsOf_76 rfl rfl ?_
        refine zi_ishl2 (q := 79) dX12_layPairsOf_78 rfl ?_
        refine zi_ior (q := 80) dX12_layPairsOf_79 rfl ?_
        refine zi_iadd (q := 81) dX12_layPairsOf_80 rfl ?_
        refine zi_istore (q := 83) (L' := [some (.ref 68), some (.int x1), some (.int x2), some (.int x3), some (.int s.1), some (.int ((64 * (x1 + 1)) + (x2 ||| (zshl 1 s.1)))), none]) dX12_layPairsOf_81 (by decide) rfl rfl rfl ?_
        refine zi_aloadn (q := 84) dX12_layPairsOf_83 rfl rfl ?_
        refine zi_getA (q := 87) dX12_layPairsOf_84 fl_12_110 so_68 rfl rfl ?_
        refine zi_iload (q := 89) dX12_layPairsOf_87 rfl rfl ?_
        obtain ⟨hz6, h⟩ := zg_some h
        refine zi_iald2 (q := 90) dX12_layPairsOf_89 so_102 (zin_vp hz6) rfl rfl ?_
        refine zi_aloadn (q := 91) dX12_layPairsOf_90 rfl rfl ?_
        refine zi_iloadn (q := 92) dX12_layPairsOf_91 rfl rfl ?_
        refine zi_iload (q := 94) dX12_layPairsOf_92 rfl rfl ?_
        obtain ⟨r7, hr7, h⟩ := Option.bind_eq_some_iff.mp h
        refine zc_V2 (q := 97) (st := [.int (s.2.1 102 ((64 * (x1 + 1)) + (x2 ||| (zshl 1 s.1))).toNatClampNeg)]) (S1 := [.int r7, .int (s.2.1 102 ((64 * (x1 + 1)) + (x2 ||| (zshl 1 s.1))).toNatClampNeg)]) (r_X12_pairCost x1 s.1 _ r7 hr7) dX12_layPairsOf_94 cb_X12_pairCost k6_56 k6_58 ks_X12_pairCost ⟨by decide, by decide⟩ so_68 rfl rfl rfl (Nat.le_of_ble_eq_true rfl) (Or.inl rfl) rfl rfl ?_
        refine zi_iadd (q := 98) dX12_layPairsOf_97 rfl ?_
        refine zi_istore (q := 100) (L' := [some (.ref 68), some (.int x1), some (.int x2), some (.int x3), some (.int s.1), some (.int ((64 * (x1 + 1)) + (x2 ||| (zshl 1 s.1)))), some (.int ((s.2.1 102 ((64 * (x1 + 1)) + (x2 ||| (zshl 1 s.1))).toNatClampNeg) + r7))]) dX12_layPairsOf_98 (by decide) rfl rfl rfl ?_
        refine zi_aloadn (q := 101) dX12_layPairsOf_100 rfl rfl ?_
        refine zi_aloadn (q := 102) dX12_layPairsOf_101 rfl rfl ?_
        refine zi_getA (q := 105) dX12_layPairsOf_102 fl_12_107 so_68 rfl rfl ?_
        refine zi_iload (q := 107) dX12_layPairsOf_105 rfl rfl ?_
        obtain ⟨hz8, h⟩ := zg_some h
        refine zi_iald2 (q := 108) dX12_layPairsOf_107 so_101 (zin_vp hz8) rfl rfl ?_
        refine zi_iconst (q := 109) dX12_layPairsOf_108 ki_1 rfl ?_
        refine zi_iadd (q := 110) dX12_layPairsOf_109 rfl ?_
        refine zi_iload (q := 112) dX12_layPairsOf_110 rfl rfl ?_
        refine zi_iloadn (q := 113) dX12_layPairsOf_112 rfl rfl ?_
        obtain ⟨r9, hr9, h⟩ := Option.bind_eq_some_iff.mp h
        refine zc_V2 (q := 116) (st := []) (S1 := [.int (bi r9)]) (r_X12_isBetter ((s.2.1 101 ((64 * (x1 + 1)) + (x2 ||| (zshl 1 s.1))).toNatClampNeg) + 1) ((s.2.1 102 ((64 * (x1 + 1)) + (x2 ||| (zshl 1 s.1))).toNatClampNeg) + r7) x3 _ r9 hr9) dX12_layPairsOf_113 cb_X12_isBetter k6_60 k6_62 ks_X12_isBetter ⟨by decide, by decide⟩ so_68 rfl rfl rfl (Nat.le_of_ble_eq_true rfl) (Or.inl rfl) rfl rfl ?_
        refine zi_ifeq (q := 142) (q2 := 119) dX12_layPairsOf_116 (by decide) rfl (fun hc => ?_) (fun hc => ?_)
        · replace h := (if_pos hc).symm.trans h
          refine Rn.weakm [true, true, true, true, true, false, false] ?_
          exact rj_X12_layPairsOf_142 x1 x2 x3 s.1 _ _ _ _ h KI
        · replace h := (if_neg hc).symm.trans h
          refine zi_aloadn (q := 120) dX12_layPairsOf_119 rfl rfl ?_
          refine zi_getA (q := 123) dX12_layPairsOf_120 fl_12_107 so_68 rfl rfl ?_
          refine zi_iloadn (q := 124) dX12_layPairsOf_123 rfl rfl ?_
          refine zi_aloadn (q := 125) dX12_layPairsOf_124 rfl rfl ?_
          refine zi_getA (q := 128) dX12_layPairsOf_125 fl_12_107 so_68 rfl rfl ?_
          refine zi_iload (q := 130) dX12_layPairsOf_128 rfl rfl ?_
          obtain ⟨hz10, h⟩ := zg_some h
          refine zi_iald2 (q := 131) dX12_layPairsOf_130 so_101 (zin_vp hz10) rfl rfl ?_
          refine zi_iconst (q := 132) dX12_layPairsOf_131 ki_1 rfl ?_
          refine zi_iadd (q := 133) dX12_layPairsOf_132 rfl ?_
          obtain ⟨hz11, h⟩ := zg_some h
          refine zi_iast2 (q := 134) dX12_layPairsOf_133 so_101 (zin_vp hz11) rfl rfl ?_
          refine zi_aloadn (q := 135) dX12_layPairsOf_134 rfl rfl ?_
          refine zi_getA (q := 138) dX12_layPairsOf_135 fl_12_110 so_68 rfl rfl ?_
          refine zi_iloadn (q := 139) dX12_layPairsOf_138 rfl rfl ?_
          refine zi_iload (q := 141) dX12_layPairsOf_139 rfl rfl ?_
          obtain ⟨hz12, h⟩ := zg_some h
          refine zi_iast2 (q := 142) dX12_layPairsOf_141 so_102 (zin_vp hz12) rfl rfl ?_
          refine Rn.weakm [true, true, true, true, true, false, false] ?_
          exact rj_X12_layPairsOf_142 x1 x2 x3 s.1 _ _ _ _ h KI
set_option maxRecDepth 20000 in
theorem r_X12_layPairsOf {E : Nat × (Nat → Int32)} (x1 : Int32) (x2 : Int32) (m : zM) (x : zM) (h : f_X12_layPairsOf x1 x2 m = some x) : zMet E zX12_layPairsOf [.ref 68, .int x1, .int x2] zSH m none zSH x := by
  refine zMet.of (L0 := [some (.ref 68), some (.int x1), some (.int x2), none, none, none, none]) rfl trivial (Nat.le_of_ble_eq_true rfl) rfl ?_
  unfold f_X12_layPairsOf at h
  refine zi_bipush (q := 2) dX12_layPairsOf_0 kb_64 rfl ?_
  refine zi_iloadn (q := 3) dX12_layPairsOf_2 rfl rfl ?_
  refine zi_imul (q := 4) dX12_layPairsOf_3 rfl ?_
  refine zi_iloadn (q := 5) dX12_layPairsOf_4 rfl rfl ?_
  refine zi_iadd (q := 6) dX12_layPairsOf_5 rfl ?_
  refine zi_istoren (q := 7) (L' := [some (.ref 68), some (.int x1), some (.int x2), some (.int ((64 * x1) + x2)), none, none, none]) dX12_layPairsOf_6 (by decide) rfl rfl rfl ?_
  refine zi_aloadn (q := 8) dX12_layPairsOf_7 rfl rfl ?_
  refine zi_getA (q := 11) dX12_layPairsOf_8 fl_12_107 so_68 rfl rfl ?_
  refine zi_iloadn (q := 12) dX12_layPairsOf_11 rfl rfl ?_
  refine zi_aloadn (q := 13) dX12_layPairsOf_12 rfl rfl ?_
  refine zi_getA (q := 16) dX12_layPairsOf_13 fl_12_107 so_68 rfl rfl ?_
  refine zi_iloadn (q := 17) dX12_layPairsOf_16 rfl rfl ?_
  refine zi_bipush (q := 19) dX12_layPairsOf_17 kb_64 rfl ?_
  refine zi_iadd (q := 20) dX12_layPairsOf_19 rfl ?_
  obtain ⟨hz1, h⟩ := zg_some h
  refine zi_iald2 (q := 21) dX12_layPairsOf_20 so_101 (zin_vp hz1) rfl rfl ?_
  obtain ⟨hz2, h⟩ := zg_some h
  refine zi_iast2 (q := 22) dX12_layPairsOf_21 so_101 (zin_vp hz2) rfl rfl ?_
  refine zi_aloadn (q := 23) dX12_layPairsOf_22 rfl rfl ?_
  refine zi_getA (q := 26) dX12_layPairsOf_23 fl_12_110 so_68 rfl rfl ?_
  refine zi_iloadn (q := 27) dX12_layPairsOf_26 rfl rfl ?_
  refine zi_aloadn (q := 28) dX12_layPairsOf_27 rfl rfl ?_
  refine zi_getA (q := 31) dX12_layPairsOf_28 fl_12_110 so_68 rfl rfl ?_
  refine zi_iloadn (q := 32) dX12_layPairsOf_31 rfl rfl ?_
  refine zi_bipush (q := 34) dX12_layPairsOf_32 kb_64 rfl ?_
  refine zi_iadd (q := 35) dX12_layPairsOf_34 rfl ?_
  obtain ⟨hz3, h⟩ := zg_some h
  refine zi_iald2 (q := 36) dX12_layPairsOf_35 so_102 (zin_vp hz3) rfl rfl ?_
  obtain ⟨hz4, h⟩ := zg_some h
  refine zi_iast2 (q := 37) dX12_layPairsOf_36 so_102 (zin_vp hz4) rfl rfl ?_
  refine zi_iconst (q := 38) dX12_layPairsOf_37 ki_0 rfl ?_
  refine zi_istore (q := 40) (L' := [some (.ref 68), some (.int x1), some (.int x2), some (.int ((64 * x1) + x2)), some (.int 0), none, none]) dX12_layPairsOf_38 (by decide) rfl rfl rfl ?_
  obtain ⟨r13, hr13, h⟩ := Option.bind_eq_some_iff.mp h
  refine zloop_rn (P := fun w : (Int32 × zM) => Rn E zX12_layPairsOf 40 [some (.ref 68), some (.int x1), some (.int x2), some (.int ((64 * x1) + x2)), some (.int w.1), none, none] [] zSH w.2 none zSH x) (X := fun w : (zM) => Rn E zX12_layPairsOf 148 [none, none, none, none, none, none, none] [] zSH w none zSH x) (fun w w0 hb KI KX => rb_X12_layPairsOf_40 x1 x2 ((64 * x1) + x2) w _ _ w0 hb KI KX) zFU _ r13 hr13 ?_
  show Rn E zX12_layPairsOf 148 [none, none, none, none, none, none, none] [] zSH r13 none zSH x
  cases h
  exact zi_ret _ dX12_layPairsOf_148
set_option maxRecDepth 20000 in
theorem r_X12_isBestPair {E : Nat × (Nat → Int32)} (x1 : Int32) (x2 : Int32) (x3 : Int32) (m : zM) (x : Bool) (h : f_X12_isBestPair x1 x2 x3 m = some x) : zMet E zX12_isBestPair [.ref 68, .int x1, .int x2, .int x3] zSH m (some (.int (bi x))) zSH m := by
  refine zMet.of (L0 := [some (.ref 68), some (.int x1), some (.int x2), some (.int x3), none, none]) rfl (zfit_bi _) (Nat.le_of_ble_eq_true rfl) rfl ?_
  unfold f_X12_isBestPair at h
  refine zi_iloadn (q := 1) dX12_isBestPair_0 rfl rfl ?_
  refine zi_iloadn (q := 2) dX12_isBestPair_1 rfl rfl ?_
  refine zi_ishr2 (q := 3) dX12_isBestPair_2 rfl ?_
  refine zi_iconst (q := 4) dX12_isBestPair_3 ki_1 rfl ?_
  refine zi_iand (q := 5) dX12_isBestPair_4 rfl ?_
  refine zi_iconst (q := 6) dX12_isBestPair_5 ki_1 rfl ?_
  refine zi_icmpeq (q := 18) (q2 := 9) dX12_isBestPair_6 (by decide) rfl (fun hc => ?_) (fun hc => ?_)
  · replace h := (if_pos hc).symm.trans h
    refine zi_iconst (q := 19) dX12_isBestPair_18 ki_0 rfl ?_
    cases h
    exact zi_ret _ dX12_isBestPair_19
  · replace h := (if_neg hc).symm.trans h
    refine zi_aloadn (q := 10) dX12_isBestPair_9 rfl rfl ?_
    refine zi_iloadn (q := 11) dX12_isBestPair_10 rfl rfl ?_
    refine zi_iloadn (q := 12) dX12_isBestPair_11 rfl rfl ?_
    obtain ⟨r1, hr1, h⟩ := Option.bind_eq_some_iff.mp h
    refine zc_V2 (q := 15) (st := []) (S1 := [.int (bi r1)]) (r_X12_isNear x1 x2 _ r1 hr1) dX12_isBestPair_12 cb_X12_isNear k6_49 k6_51 ks_X12_isNear ⟨by decide, by decide⟩ so_68 rfl rfl rfl (Nat.le_of_ble_eq_true rfl) (Or.inl rfl) rfl rfl ?_
    refine zi_ifne (q := 20) (q2 := 18) dX12_isBestPair_15 (by decide) rfl (fun hc => ?_) (fun hc => ?_)
    · replace h := (if_neg hc).symm.trans h
      refine zi_bipush (q := 22) dX12_isBestPair_20 kb_64 rfl ?_
      refine zi_iloadn (q := 23) dX12_isBestPair_22 rfl rfl ?_
      refine zi_imul (q := 24) dX12_isBestPair_23 rfl ?_
      refine zi_iloadn (q := 25) dX12_isBestPair_24 rfl rfl ?_
      refine zi_iadd (q := 26) dX12_isBestPair_25 rfl ?_
      refine zi_istore (q := 28) (L' := [some (.ref 68), some (.int x1), some (.int x2), some (.int x3), some (.int ((64 * x1) + x3)), none]) dX12_isBestPair_26 (by decide) rfl rfl rfl ?_
      refine zi_bipush (q := 30) dX12_isBestPair_28 kb_64 rfl ?_
      refine zi_iloadn (q := 31) dX12_isBestPair_30 rfl rfl ?_
      refine zi_iconst (q := 32) dX12_isBestPair_31 ki_1 rfl ?_
      refine zi_iadd (q := 33) dX12_isBestPair_32 rfl ?_
      refine zi_imul (q := 34) dX12_isBestPair_33 rfl ?_
      refine zi_iloadn (q := 35) dX12_isBestPair_34 rfl rfl ?_
      refine zi_iconst (q := 36) dX12_isBestPair_35 ki_1 rfl ?_
      refine zi_iloadn (q := 37) dX12_isBestPair_36 rfl rfl ?_
      refine zi_ishl2 (q := 38) dX12_isBestPair_37 rfl ?_
      refine zi_ior (q := 39) dX12_isBestPair_38 rfl ?_
      refine zi_iadd (q := 40) dX12_isBestPair_39 rfl ?_
      refine zi_istore (q := 42) (L' := [some (.ref 68), some (.int x1), some (.int x2), some (.int x3), some (.int ((64 * x1) + x3)), some (.int ((64 * (x1 + 1)) + (x3 ||| (zshl 1 x2))))]) dX12_isBestPair_40 (by decide) rfl rfl rfl ?_
      refine zi_aloadn (q := 43) dX12_isBestPair_42 rfl rfl ?_
      refine zi_getA (q := 46) dX12_isBestPair_43 fl_12_107 so_68 rfl rfl ?_
      refine zi_iload (q := 48) dX12_isBestPair_46 rfl rfl ?_
      obtain ⟨hz2, h⟩ := zg_some h
      refine zi_iald2 (q := 49) dX12_isBestPair_48 so_101 (zin_vp hz2) rfl rfl ?_
      refine zi_iconst (q := 50) dX12_isBestPair_49 ki_1 rfl ?_
      refine zi_iadd (q := 51) dX12_isBestPair_50 rfl ?_
      refine zi_aloadn (q := 52) dX12_isBestPair_51 rfl rfl ?_
      refine zi_getA (q := 55) dX12_isBestPair_52 fl_12_107 so_68 rfl rfl ?_
      refine zi_iload (q := 57) dX12_isBestPair_55 rfl rfl ?_
      obtain ⟨hz3, h⟩ := zg_some h
      refine zi_iald2 (q := 58) dX12_isBestPair_57 so_101 (zin_vp hz3) rfl rfl ?_
      refine zi_icmpne (q := 89) (q2 := 61) dX12_isBestPair_58 (by decide) rfl (fun hc => ?_) (fun hc => ?_)
      · replace h := (if_neg hc).symm.trans h
        refine zi_iconst (q := 90) dX12_isBestPair_89 ki_0 rfl ?_
        cases h
        exact zi_ret _ dX12_isBestPair_90
      · replace h := (if_pos hc).symm.trans h
        refine zi_aloadn (q := 62) dX12_isBestPair_61 rfl rfl ?_
        refine zi_getA (q := 65) dX12_isBestPair_62 fl_12_110 so_68 rfl rfl ?_
        refine zi_iload (q := 67) dX12_isBestPair_65 rfl rfl ?_
        obtain ⟨hz4, h⟩ := zg_some h
        refine zi_iald2 (q := 68) dX12_isBestPair_67 so_102 (zin_vp hz4) rfl rfl ?_
        refine zi_aloadn (q := 69) dX12_isBestPair_68 rfl rfl ?_
        refine zi_iloadn (q := 70) dX12_isBestPair_69 rfl rfl ?_
        refine zi_iloadn (q := 71) dX12_isBestPair_70 rfl rfl ?_
        obtain ⟨r5, hr5, h⟩ := Option.bind_eq_some_iff.mp h
        refine zc_V2 (q := 74) (st := [.int (m.1 102 ((64 * (x1 + 1)) + (x3 ||| (zshl 1 x2))).toNatClampNeg)]) (S1 := [.int r5, .int (m.1 102 ((64 * (x1 + 1)) + (x3 ||| (zshl 1 x2))).toNatClampNeg)]) (r_X12_pairCost x1 x2 _ r5 hr5) dX12_isBestPair_71 cb_X12_pairCost k6_56 k6_58 ks_X12_pairCost ⟨by decide, by decide⟩ so_68 rfl rfl rfl (Nat.le_of_ble_eq_true rfl) (Or.inl rfl) rfl rfl ?_
        refine zi_iadd (q := 75) dX12_isBestPair_74 rfl ?_
        refine zi_aloadn (q := 76) dX12_isBestPair_75 rfl rfl ?_
        refine zi_getA (q := 79) dX12_isBestPair_76 fl_12_110 so_68 rfl rfl ?_
        refine zi_iload (q := 81) dX12_isBestPair_79 rfl rfl ?_
        obtain ⟨hz6, h⟩ := zg_some h
        refine zi_iald2 (q := 82) dX12_isBestPair_81 so_102 (zin_vp hz6) rfl rfl ?_
        refine zi_icmpne (q := 89) (q2 := 85) dX12_isBestPair_82 (by decide) rfl (fun hc => ?_) (fun hc => ?_)
        · replace h := (if_neg hc).symm.trans h
          refine zi_iconst (q := 90) dX12_isBestPair_89 ki_0 rfl ?_
          cases h
          exact zi_ret _ dX12_isBestPair_90
        · replace h := (if_pos hc).symm.trans h
          refine zi_iconst (q := 86) dX12_isBestPair_85 ki_1 rfl ?_
          refine zi_goto (q := 90) dX12_isBestPair_86 (by decide) ?_
          cases h
          exact zi_ret _ dX12_isBestPair_90
    · replace h := (if_pos hc).symm.trans h
      refine zi_iconst (q := 19) dX12_isBestPair_18 ki_0 rfl ?_
      cases h
      exact zi_ret _ dX12_isBestPair_19
set_option maxRecDepth 20000 in
theorem rb_X12_layPairs_2 {E : Nat × (Nat → Int32)}   (s : (Int32 × zM)) (rv : Option Value) (m' : zM) (x : ((Int32 × zM) ⊕ (zM))) (h : b_X12_layPairs_2  s = some x) (KI : ∀ s1 : (Int32 × zM), x = .inl s1 → Rn E zX12_layPairs 2 [some (.ref 68), some (.int s1.1), none, none] [] zSH s1.2 rv zSH m') (KO : ∀ r1 : (zM), x = .inr r1 → Rn E zX12_layPairs 44 [some (.ref 68), none, none, none] [] zSH r1 rv zSH m') : Rn E zX12_layPairs 2 [some (.ref 68), some (.int s.1), none, none] [] zSH s.2 rv zSH m' := by
  unfold b_X12_layPairs_2 at h
  refine zi_iloadn (q := 3) dX12_layPairs_2 rfl rfl ?_
  refine zi_bipush (q := 5) dX12_layPairs_3 kb_64 rfl ?_
  refine zi_icmpge (q := 44) (q2 := 8) dX12_layPairs_5 (by decide) rfl (fun hc => ?_) (fun hc => ?_)
  · replace h := (if_pos hc).symm.trans h
    refine Rn.weakm [true, false, false, false] ?_
    exact KO s.2 (Option.some.inj h).symm
  · replace h := (if_neg hc).symm.trans h
    refine zi_aloadn (q := 9) dX12_layPairs_8 rfl rfl ?_
    refine zi_getA (q := 12) dX12_layPairs_9 fl_12_107 so_68 rfl rfl ?_
    refine zi_bipush (q := 14) dX12_layPairs_12 kb_64 rfl ?_
    refine zi_aloadn (q := 15) dX12_layPairs_14 rfl rfl ?_
    refine zi_getI (q := 18) dX12_layPairs_15 fl_12_212 (by decide) so_68 rfl ?_
    refine zi_imul (q := 19) dX12_layPairs_18 rfl ?_
    refine zi_iloadn (q := 20) dX12_layPairs_19 rfl rfl ?_
    refine zi_iadd (q := 21) dX12_layPairs_20 rfl ?_
    refine zi_iconst (q := 22) dX12_layPairs_21 ki_0 rfl ?_
    obtain ⟨hz1, h⟩ := zg_some h
    refine zi_iast2 (q := 23) dX12_layPairs_22 so_101 (zin_vp hz1) rfl rfl ?_
    refine zi_aloadn (q := 24) dX12_layPairs_23 rfl rfl ?_
    refine zi_getA (q := 27) dX12_layPairs_24 fl_12_110 so_68 rfl rfl ?_
    refine zi_bipush (q := 29) dX12_layPairs_27 kb_64 rfl ?_
    refine zi_aloadn (q := 30) dX12_layPairs_29 rfl rfl ?_
    refine zi_getI (q := 33) dX12_layPairs_30 fl_12_212 (by decide) so_68 rfl ?_
    refine zi_imul (q := 34) dX12_layPairs_33 rfl ?_
    refine zi_iloadn (q := 35) dX12_layPairs_34 rfl rfl ?_
    refine zi_iadd (q := 36) dX12_layPairs_35 rfl ?_
    refine zi_iconst (q := 37) dX12_layPairs_36 ki_0 rfl ?_
    obtain ⟨hz2, h⟩ := zg_some h
    refine zi_iast2 (q := 38) dX12_layPairs_37 so_102 (zin_vp hz2) rfl rfl ?_
    refine zi_iinc (q := 41) (v := s.1 + 1) (L' := [some (.ref 68), some (.int (s.1 + 1)), none, none]) dX12_layPairs_38 rfl (by rw [ki_1]) (by decide) rfl rfl rfl ?_
    refine zi_goto (q := 2) dX12_layPairs_41 (by decide) ?_
    exact KI ((s.1 + 1), (zi (zi s.2 101 (((64 * (s.2.1 68 27)) + s.1).toNatClampNeg) 0) 102 (((64 * (s.2.1 68 27)) + s.1).toNatClampNeg) 0)) (Option.some.inj h).symm
set_option maxRecDepth 20000 in
theorem rb_X12_layPairs_57 {E : Nat × (Nat → Int32)} (x1 : Int32)  (s : (Int32 × zM)) (rv : Option Value) (m' : zM) (x : ((Int32 × zM) ⊕ (zM))) (h : b_X12_layPairs_57 x1 s = some x) (KI : ∀ s1 : (Int32 × zM), x = .inl s1 → Rn E zX12_layPairs 57 [some (.ref 68), some (.int x1), some (.int s1.1), none] [] zSH s1.2 rv zSH m') (KO : ∀ r1 : (zM), x = .inr r1 → Rn E zX12_layPairs 75 [some (.ref 68), some (.int x1), none, none] [] zSH r1 rv zSH m') : Rn E zX12_layPairs 57 [some (.ref 68), some (.int x1), some (.int s.1), none] [] zSH s.2 rv zSH m' := by
  unfold b_X12_layPairs_57 at h
  refine zi_iloadn (q := 58) dX12_layPairs_57 rfl rfl ?_
  refine zi_bipush (q := 60) dX12_layPairs_58 kb_64 rfl ?_
  refine zi_icmpge (q := 75) (q2 := 63) dX12_layPairs_60 (by decide) rfl (fun hc => ?_) (fun hc => ?_)
  · replace h := (if_pos hc).symm.trans h
    refine Rn.weakm [true, true, false, false] ?_
    exact KO s.2 (Option.some.inj h).symm
  · replace h := (if_neg hc).symm.trans h
    refine zi_aloadn (q := 64) dX12_layPairs_63 rfl rfl ?_
    refine zi_iloadn (q := 65) dX12_layPairs_64 rfl rfl ?_
    refine zi_iloadn (q := 66) dX12_layPairs_65 rfl rfl ?_
    obtain ⟨m4, hm4, h⟩ := Option.bind_eq_some_iff.mp h
    refine zc_V2 (q := 69) (st := []) (S1 := []) (r_X12_layPairsOf x1 s.1 _ m4 hm4) dX12_layPairs_66 cb_X12_layPairsOf k6_45 k6_47 ks_X12_layPairsOf ⟨by decide, by decide⟩ so_68 rfl rfl rfl (Nat.le_of_ble_eq_true rfl) (Or.inl rfl) rfl rfl ?_
    refine zi_iinc (q := 72) (v := s.1 + 1) (L' := [some (.ref 68), some (.int x1), some (.int (s.1 + 1)), none]) dX12_layPairs_69 rfl (by rw [ki_1]) (by decide) rfl rfl rfl ?_
    refine zi_goto (q := 57) dX12_layPairs_72 (by decide) ?_
    exact KI ((s.1 + 1), m4) (Option.some.inj h).symm
set_option maxRecDepth 20000 in
theorem rb_X12_layPairs_51 {E : Nat × (Nat → Int32)}   (s : (Int32 × zM)) (rv : Option Value) (m' : zM) (x : ((Int32 × zM) ⊕ (zM))) (h : b_X12_layPairs_51  s = some x) (KI : ∀ s1 : (Int32 × zM), x = .inl s1 → Rn E zX12_layPairs 51 [some (.ref 68), some (.int s1.1), none, none] [] zSH s1.2 rv zSH m') (KO : ∀ r1 : (zM), x = .inr r1 → Rn E zX12_layPairs 81 [some (.ref 68), none, none, none] [] zSH r1 rv zSH m') : Rn E zX12_layPairs 51 [some (.ref 68), some (.int s.1), none, none] [] zSH s.2 rv zSH m' := by
  unfold b_X12_layPairs_51 at h
  refine zi_iloadn (q := 52) dX12_layPairs_51 rfl rfl ?_
  refine zi_iflt (q := 81) (q2 := 55) dX12_layPairs_52 (by decide) rfl (fun hc => ?_) (fun hc => ?_)
  · replace h := (if_pos hc).symm.trans h
    refine Rn.weakm [true, false, false, false] ?_
    exact KO s.2 (Option.some.inj h).symm
  · replace h := (if_neg hc).symm.trans h
    refine zi_iconst (q := 56) dX12_layPairs_55 ki_0 rfl ?_
    refine zi_istoren (q := 57) (L' := [some (.ref 68), some (.int s.1), some (.int 0), none]) dX12_layPairs_56 (by decide) rfl rfl rfl ?_
    obtain ⟨r5, hr5, h⟩ := Option.bind_eq_some_iff.mp h
    refine zloop_rn (P := fun w : (Int32 × zM) => Rn E zX12_layPairs 57 [some (.ref 68), some (.int s.1), some (.int w.1), none] [] zSH w.2 rv zSH m') (X := fun w : (zM) => Rn E zX12_layPairs 75 [some (.ref 68), some (.int s.1), none, none] [] zSH w rv zSH m') (fun w w0 hb KI KX => rb_X12_layPairs_57 s.1 w _ _ w0 hb KI KX) zFU _ r5 hr5 ?_
    show Rn E zX12_layPairs 75 [some (.ref 68), some (.int s.1), none, none] [] zSH r5 rv zSH m'
    refine zi_iinc (q := 78) (v := s.1 + (-1)) (L' := [some (.ref 68), some (.int (s.1 + (-1))), none, none]) dX12_layPairs_75 rfl (by rw [ki_m1]) (by decide) rfl rfl rfl ?_
    refine zi_goto (q := 51) dX12_layPairs_78 (by decide) ?_
    exact KI ((s.1 + (-1)), r5) (Option.some.inj h).symm
set_option maxRecDepth 20000 in
theorem rb_X12_layPairs_95 {E : Nat × (Nat → Int32)} (x1 : Int32) (x2 : Int32) (m : zM) (s : (Int32)) (rv : Option Value) (m' : zM) (x : ((Int32) ⊕ (Int32))) (h : b_X12_layPairs_95 x1 x2 m s = some x) (KI : ∀ s1 : (Int32), x = .inl s1 → Rn E zX12_layPairs 95 [some (.ref 68), some (.int x1), some (.int x2), some (.int s1)] [] zSH m rv zSH m') (KO : ∀ r1 : (Int32), x = .inr r1 → Rn E zX12_layPairs 119 [some (.ref 68), some (.int x1), some (.int x2), some (.int r1)] [] zSH m rv zSH m') : Rn E zX12_layPairs 95 [some (.ref 68), some (.int x1), some (.int x2), some (.int s)] [] zSH m rv zSH m' := by
  unfold b_X12_layPairs_95 at h
  refine zi_iloadn (q := 96) dX12_layPairs_95 rfl rfl ?_
  refine zi_aloadn (q := 97) dX12_layPairs_96 rfl rfl ?_
  refine zi_getI (q := 100) dX12_layPairs_97 fl_12_209 (by decide) so_68 rfl ?_
  refine zi_icmpge (q := 119) (q2 := 103) dX12_layPairs_100 (by decide) rfl (fun hc => ?_) (fun hc => ?_)
  · replace h := (if_pos hc).symm.trans h
    exact KO s (Option.some.inj h).symm
  · replace h := (if_neg hc).symm.trans h
    refine zi_aloadn (q := 104) dX12_layPairs_103 rfl rfl ?_
    refine zi_iloadn (q := 105) dX12_layPairs_104 rfl rfl ?_
    refine zi_iloadn (q := 106) dX12_layPairs_105 rfl rfl ?_
    refine zi_iloadn (q := 107) dX12_layPairs_106 rfl rfl ?_
    obtain ⟨r7, hr7, h⟩ := Option.bind_eq_some_iff.mp h
    refine zc_V2 (q := 110) (st := []) (S1 := [.int (bi r7)]) (r_X12_isBestPair x2 s x1 _ r7 hr7) dX12_layPairs_107 cb_X12_isBestPair k6_64 k6_66 ks_X12_isBestPair ⟨by decide, by decide⟩ so_68 rfl rfl rfl (Nat.le_of_ble_eq_true rfl) (Or.inl rfl) rfl rfl ?_
    refine zi_ifne (q := 119) (q2 := 113) dX12_layPairs_110 (by decide) rfl (fun hc => ?_) (fun hc => ?_)
    · replace h := (if_neg hc).symm.trans h
      exact KO s (Option.some.inj h).symm
    · replace h := (if_pos hc).symm.trans h
      refine zi_iinc (q := 116) (v := s + 1) (L' := [some (.ref 68), some (.int x1), some (.int x2), some (.int (s + 1))]) dX12_layPairs_113 rfl (by rw [ki_1]) (by decide) rfl rfl rfl ?_
      refine zi_goto (q := 95) dX12_layPairs_116 (by decide) ?_
      exact KI (s + 1) (Option.some.inj h).symm
set_option maxRecDepth 20000 in
theorem rj_X12_layPairs_154 {E : Nat × (Nat → Int32)} (x2 : Int32) (s0 : Int32) (s1 : Int32) (m : zM) (rv : Option Value) (m' : zM) (x : ((Int32 × Int32 × zM) ⊕ (zM))) (h : j_X12_layPairs_154 x2 s0 s1 m = some x) (KI : ∀ s1 : (Int32 × Int32 × zM), x = .inl s1 → Rn E zX12_layPairs 85 [some (.ref 68), some (.int s1.1), some (.int s1.2.1), none] [] zSH s1.2.2 rv zSH m') : Rn E zX12_layPairs 154 [some (.ref 68), none, some (.int x2), none] [.int s0, .int s1] zSH m rv zSH m' := by
  unfold j_X12_layPairs_154 at h
  refine zi_ior (q := 155) dX12_layPairs_154 rfl ?_
  refine zi_istoren (q := 156) (L' := [some (.ref 68), some (.int (s1 ||| s0)), some (.int x2), none]) dX12_layPairs_155 (by decide) rfl rfl rfl ?_
  refine zi_iinc (q := 159) (v := x2 + 1) (L' := [some (.ref 68), some (.int (s1 ||| s0)), some (.int (x2 + 1)), none]) dX12_layPairs_156 rfl (by rw [ki_1]) (by decide) rfl rfl rfl ?_
  refine zi_goto (q := 85) dX12_layPairs_159 (by decide) ?_
  exact KI ((s1 ||| s0), (x2 + 1), m) (Option.some.inj h).symm
set_option maxRecDepth 20000 in
theorem rj_X12_layPairs_137 {E : Nat × (Nat → Int32)} (x1 : Int32) (x2 : Int32) (x3 : Int32) (s0 : Int32) (s1 : Int32) (m : zM) (rv : Option Value) (m' : zM) (x : ((Int32 × Int32 × zM) ⊕ (zM))) (h : j_X12_layPairs_137 x1 x2 x3 s0 s1 m = some x) (KI : ∀ s1 : (Int32 × Int32 × zM), x = .inl s1 → Rn E zX12_layPairs 85 [some (.ref 68), some (.int s1.1), some (.int s1.2.1), none] [] zSH s1.2.2 rv zSH m') : Rn E zX12_layPairs 137 [some (.ref 68), some (.int x1), some (.int x2), some (.int x3)] [.int s0, .int s1, .ref 103] zSH m rv zSH m' := by
  unfold j_X12_layPairs_137 at h
  obtain ⟨hz9, h⟩ := zg_some h
  refine zi_iast2 (q := 138) dX12_layPairs_137 so_103 (zin_vp hz9) rfl rfl ?_
  refine zi_iloadn (q := 139) dX12_layPairs_138 rfl rfl ?_
  refine zi_iloadn (q := 140) dX12_layPairs_139 rfl rfl ?_
  refine zi_aloadn (q := 141) dX12_layPairs_140 rfl rfl ?_
  refine zi_getI (q := 144) dX12_layPairs_141 fl_12_209 (by decide) so_68 rfl ?_
  refine zi_icmpge (q := 153) (q2 := 147) dX12_layPairs_144 (by decide) rfl (fun hc => ?_) (fun hc => ?_)
  · replace h := (if_pos hc).symm.trans h
    refine zi_iconst (q := 154) dX12_layPairs_153 ki_0 rfl ?_
    refine Rn.weakm [true, false, true, false] ?_
    exact rj_X12_layPairs_154 x2 0 x1 _ _ _ _ h KI
  · replace h := (if_neg hc).symm.trans h
    refine zi_iconst (q := 148) dX12_layPairs_147 ki_1 rfl ?_
    refine zi_iloadn (q := 149) dX12_layPairs_148 rfl rfl ?_
    refine zi_ishl2 (q := 150) dX12_layPairs_149 rfl ?_
    refine zi_goto (q := 154) dX12_layPairs_150 (by decide) ?_
    refine Rn.weakm [true, false, true, false] ?_
    exact rj_X12_layPairs_154 x2 (zshl 1 x3) x1 _ _ _ _ h KI
set_option maxRecDepth 20000 in
theorem rj_X12_layPairs_119 {E : Nat × (Nat → Int32)} (x1 : Int32) (x2 : Int32) (x3 : Int32) (m : zM) (rv : Option Value) (m' : zM) (x : ((Int32 × Int32 × zM) ⊕ (zM))) (h : j_X12_layPairs_119 x1 x2 x3 m = some x) (KI : ∀ s1 : (Int32 × Int32 × zM), x = .inl s1 → Rn E zX12_layPairs 85 [some (.ref 68), some (.int s1.1), some (.int s1.2.1), none] [] zSH s1.2.2 rv zSH m') : Rn E zX12_layPairs 119 [some (.ref 68), some (.int x1), some (.int x2), some (.int x3)] [] zSH m rv zSH m' := by
  unfold j_X12_layPairs_119 at h
  refine zi_aloadn (q := 120) dX12_layPairs_119 rfl rfl ?_
  refine zi_getA (q := 123) dX12_layPairs_120 fl_12_113 so_68 rfl rfl ?_
  refine zi_iloadn (q := 124) dX12_layPairs_123 rfl rfl ?_
  refine zi_iloadn (q := 125) dX12_layPairs_124 rfl rfl ?_
  refine zi_aloadn (q := 126) dX12_layPairs_125 rfl rfl ?_
  refine zi_getI (q := 129) dX12_layPairs_126 fl_12_209 (by decide) so_68 rfl ?_
  refine zi_icmpge (q := 136) (q2 := 132) dX12_layPairs_129 (by decide) rfl (fun hc => ?_) (fun hc => ?_)
  · replace h := (if_pos hc).symm.trans h
    refine zi_iconst (q := 137) dX12_layPairs_136 ki_m1 rfl ?_
    exact rj_X12_layPairs_137 x1 x2 x3 (-1) x2 _ _ _ _ h KI
  · replace h := (if_neg hc).symm.trans h
    refine zi_iloadn (q := 133) dX12_layPairs_132 rfl rfl ?_
    refine zi_goto (q := 137) dX12_layPairs_133 (by decide) ?_
    exact rj_X12_layPairs_137 x1 x2 x3 x3 x2 _ _ _ _ h KI
set_option maxRecDepth 20000 in
theorem rb_X12_layPairs_85 {E : Nat × (Nat → Int32)}   (s : (Int32 × Int32 × zM)) (rv : Option Value) (m' : zM) (x : ((Int32 × Int32 × zM) ⊕ (zM))) (h : b_X12_layPairs_85  s = some x) (KI : ∀ s1 : (Int32 × Int32 × zM), x = .inl s1 → Rn E zX12_layPairs 85 [some (.ref 68), some (.int s1.1), some (.int s1.2.1), none] [] zSH s1.2.2 rv zSH m') (KO : ∀ r1 : (zM), x = .inr r1 → Rn E zX12_layPairs 162 [none, none, none, none] [] zSH r1 rv zSH m') : Rn E zX12_layPairs 85 [some (.ref 68), some (.int s.1), some (.int s.2.1), none] [] zSH s.2.2 rv zSH m' := by
  unfold b_X12_layPairs_85 at h
  refine zi_iloadn (q := 86) dX12_layPairs_85 rfl rfl ?_
  refine zi_aloadn (q := 87) dX12_layPairs_86 rfl rfl ?_
  refine zi_getI (q := 90) dX12_layPairs_87 fl_12_212 (by decide) so_68 rfl ?_
  refine zi_icmpge (q := 162) (q2 := 93) dX12_layPairs_90 (by decide) rfl (fun hc => ?_) (fun hc => ?_)
  · replace h := (if_pos hc).symm.trans h
    refine Rn.weakm [false, false, false, false] ?_
    exact KO s.2.2 (Option.some.inj h).symm
  · replace h := (if_neg hc).symm.trans h
    refine zi_iconst (q := 94) dX12_layPairs_93 ki_0 rfl ?_
    refine zi_istoren (q := 95) (L' := [some (.ref 68), some (.int s.1), some (.int s.2.1), some (.int 0)]) dX12_layPairs_94 (by decide) rfl rfl rfl ?_
    obtain ⟨r8, hr8, h⟩ := Option.bind_eq_some_iff.mp h
    refine zloop_rn (P := fun w : (Int32) => Rn E zX12_layPairs 95 [some (.ref 68), some (.int s.1), some (.int s.2.1), some (.int w)] [] zSH s.2.2 rv zSH m') (X := fun w : (Int32) => Rn E zX12_layPairs 119 [some (.ref 68), some (.int s.1), some (.int s.2.1), some (.int w)] [] zSH s.2.2 rv zSH m') (fun w w0 hb KI KX => rb_X12_layPairs_95 s.1 s.2.1 s.2.2 w _ _ w0 hb KI KX) zFU _ r8 hr8 ?_
    show Rn E zX12_layPairs 119 [some (.ref 68), some (.int s.1), some (.int s.2.1), some (.int r8)] [] zSH s.2.2 rv zSH m'
    exact rj_X12_layPairs_119 s.1 s.2.1 r8 _ _ _ _ h KI
set_option maxRecDepth 20000 in
theorem r_X12_layPairs {E : Nat × (Nat → Int32)}  (m : zM) (x : zM) (h : f_X12_layPairs  m = some x) : zMet E zX12_layPairs [.ref 68] zSH m none zSH x := by
  refine zMet.of (L0 := [some (.ref 68), none, none, none]) rfl trivial (Nat.le_of_ble_eq_true rfl) rfl ?_
  unfold f_X12_layPairs at h
  refine zi_iconst (q := 1) dX12_layPairs_0 ki_0 rfl ?_
  refine zi_istoren (q := 2) (L' := [some (.ref 68), some (.int 0), none, none]) dX12_layPairs_1 (by decide) rfl rfl rfl ?_
  obtain ⟨r3, hr3, h⟩ := Option.bind_eq_some_iff.mp h
  refine zloop_rn (P := fun w : (Int32 × zM) => Rn E zX12_layPairs 2 [some (.ref 68), some (.int w.1), none, none] [] zSH w.2 none zSH x) (X := fun w : (zM) => Rn E zX12_layPairs 44 [some (.ref 68), none, none, none] [] zSH w none zSH x) (fun w w0 hb KI KX => rb_X12_layPairs_2  w _ _ w0 hb KI KX) zFU _ r3 hr3 ?_
  show Rn E zX12_layPairs 44 [some (.ref 68), none, none, none] [] zSH r3 none zSH x
  refine zi_aloadn (q := 45) dX12_layPairs_44 rfl rfl ?_
  refine zi_getI (q := 48) dX12_layPairs_45 fl_12_212 (by decide) so_68 rfl ?_
  refine zi_iconst (q := 49) dX12_layPairs_48 ki_1 rfl ?_
  refine zi_isub (q := 50) dX12_layPairs_49 rfl ?_
  refine zi_istoren (q := 51) (L' := [some (.ref 68), some (.int ((r3.1 68 27) - 1)), none, none]) dX12_layPairs_50 (by decide) rfl rfl rfl ?_
  obtain ⟨r6, hr6, h⟩ := Option.bind_eq_some_iff.mp h
  refine zloop_rn (P := fun w : (Int32 × zM) => Rn E zX12_layPairs 51 [some (.ref 68), some (.int w.1), none, none] [] zSH w.2 none zSH x) (X := fun w : (zM) => Rn E zX12_layPairs 81 [some (.ref 68), none, none, none] [] zSH w none zSH x) (fun w w0 hb KI KX => rb_X12_layPairs_51  w _ _ w0 hb KI KX) zFU _ r6 hr6 ?_
  show Rn E zX12_layPairs 81 [some (.ref 68), none, none, none] [] zSH r6 none zSH x
  refine zi_iconst (q := 82) dX12_layPairs_81 ki_0 rfl ?_
  refine zi_istoren (q := 83) (L' := [some (.ref 68), some (.int 0), none, none]) dX12_layPairs_82 (by decide) rfl rfl rfl ?_
  refine zi_iconst (q := 84) dX12_layPairs_83 ki_0 rfl ?_
  refine zi_istoren (q := 85) (L' := [some (.ref 68), some (.int 0), some (.int 0), none]) dX12_layPairs_84 (by decide) rfl rfl rfl ?_
  obtain ⟨r10, hr10, h⟩ := Option.bind_eq_some_iff.mp h
  refine zloop_rn (P := fun w : (Int32 × Int32 × zM) => Rn E zX12_layPairs 85 [some (.ref 68), some (.int w.1), some (.int w.2.1), none] [] zSH w.2.2 none zSH x) (X := fun w : (zM) => Rn E zX12_layPairs 162 [none, none, none, none] [] zSH w none zSH x) (fun w w0 hb KI KX => rb_X12_layPairs_85  w _ _ w0 hb KI KX) zFU _ r10 hr10 ?_
  show Rn E zX12_layPairs 162 [none, none, none, none] [] zSH r10 none zSH x
  cases h
  exact zi_ret _ dX12_layPairs_162
set_option maxRecDepth 20000 in
theorem rb_X12_happens_30 {E : Nat × (Nat → Int32)} (x1 : Int32) (x2 : Int32)  (s : (Int32 × zM)) (rv : Option Value) (m' : zM) (x : ((Int32 × zM) ⊕ (zM))) (h : b_X12_happens_30 x1 x2 s = some x) (KI : ∀ s1 : (Int32 × zM), x = .inl s1 → Rn E zX12_happens 30 [some (.ref 68), some (.int x1), some (.int x2), some (.int s1.1)] [] zSH s1.2 rv zSH m') (KO : ∀ r1 : (zM), x = .inr r1 → Rn E zX12_happens 82 [some (.ref 68), some (.int x1), some (.int x2), none] [] zSH r1 rv zSH m') : Rn E zX12_happens 30 [some (.ref 68), some (.int x1), some (.int x2), some (.int s.1)] [] zSH s.2 rv zSH m' := by
  unfold b_X12_happens_30 at h
  refine zi_iloadn (q := 31) dX12_happens_30 rfl rfl ?_
  refine zi_ifle (q := 82) (q2 := 34) dX12_happens_31 (by decide) rfl (fun hc => ?_) (fun hc => ?_)
  · replace h := (if_pos hc).symm.trans h
    refine Rn.weakm [true, true, true, false] ?_
    exact KO s.2 (Option.some.inj h).symm
  · replace h := (if_neg hc).symm.trans h
    refine zi_aloadn (q := 35) dX12_happens_34 rfl rfl ?_
    refine zi_getA (q := 38) dX12_happens_35 fl_12_92 so_68 rfl rfl ?_
    refine zi_iloadn (q := 39) dX12_happens_38 rfl rfl ?_
    refine zi_aloadn (q := 40) dX12_happens_39 rfl rfl ?_
    refine zi_getA (q := 43) dX12_happens_40 fl_12_92 so_68 rfl rfl ?_
    refine zi_iloadn (q := 44) dX12_happens_43 rfl rfl ?_
    refine zi_iconst (q := 45) dX12_happens_44 ki_1 rfl ?_
    refine zi_isub (q := 46) dX12_happens_45 rfl ?_
    obtain ⟨hz1, h⟩ := zg_some h
    refine zi_iald2 (q := 47) dX12_happens_46 so_96 (zin_vp hz1) rfl rfl ?_
    obtain ⟨hz2, h⟩ := zg_some h
    refine zi_iast2 (q := 48) dX12_happens_47 so_96 (zin_vp hz2) rfl rfl ?_
    refine zi_aloadn (q := 49) dX12_happens_48 rfl rfl ?_
    refine zi_getA (q := 52) dX12_happens_49 fl_12_95 so_68 rfl rfl ?_
    refine zi_iloadn (q := 53) dX12_happens_52 rfl rfl ?_
    refine zi_aloadn (q := 54) dX12_happens_53 rfl rfl ?_
    refine zi_getA (q := 57) dX12_happens_54 fl_12_95 so_68 rfl rfl ?_
    refine zi_iloadn (q := 58) dX12_happens_57 rfl rfl ?_
    refine zi_iconst (q := 59) dX12_happens_58 ki_1 rfl ?_
    refine zi_isub (q := 60) dX12_happens_59 rfl ?_
    obtain ⟨hz3, h⟩ := zg_some h
    refine zi_iald2 (q := 61) dX12_happens_60 so_97 (zin_vp hz3) rfl rfl ?_
    obtain ⟨hz4, h⟩ := zg_some h
    refine zi_iast2 (q := 62) dX12_happens_61 so_97 (zin_vp hz4) rfl rfl ?_
    refine zi_aloadn (q := 63) dX12_happens_62 rfl rfl ?_
    refine zi_getA (q := 66) dX12_happens_63 fl_12_98 so_68 rfl rfl ?_
    refine zi_iloadn (q := 67) dX12_happens_66 rfl rfl ?_
    refine zi_aloadn (q := 68) dX12_happens_67 rfl rfl ?_
    refine zi_getA (q := 71) dX12_happens_68 fl_12_98 so_68 rfl rfl ?_
    refine zi_iloadn (q := 72) dX12_happens_71 rfl rfl ?_
    refine zi_iconst (q := 73) dX12_happens_72 ki_1 rfl ?_
    refine zi_isub (q := 74) dX12_happens_73 rfl ?_
    obtain ⟨hz5, h⟩ := zg_some h
    refine zi_iald2 (q := 75) dX12_happens_74 so_98 (zin_vp hz5) rfl rfl ?_
    obtain ⟨hz6, h⟩ := zg_some h
    refine zi_iast2 (q := 76) dX12_happens_75 so_98 (zin_vp hz6) rfl rfl ?_
    refine zi_iinc (q := 79) (v := s.1 + (-1)) (L' := [some (.ref 68), some (.int x1), some (.int x2), some (.int (s.1 + (-1)))]) dX12_happens_76 rfl (by rw [ki_m1]) (by decide) rfl rfl rfl ?_
    refine zi_goto (q := 30) dX12_happens_79 (by decide) ?_
    exact KI ((s.1 + (-1)), (zi (zi (zi s.2 96 s.1.toNatClampNeg (s.2.1 96 (s.1 - 1).toNatClampNeg)) 97 s.1.toNatClampNeg (s.2.1 97 (s.1 - 1).toNatClampNeg)) 98 s.1.toNatClampNeg (s.2.1 98 (s.1 - 1).toNatClampNeg))) (Option.some.inj h).symm
set_option maxRecDepth 20000 in
theorem rj_X12_happens_19 {E : Nat × (Nat → Int32)} (x1 : Int32) (x2 : Int32) (s0 : Int32) (s1 : Int32) (m : zM)  (x : zM) (h : j_X12_happens_19 x1 x2 s0 s1 m = some x) : Rn E zX12_happens 19 [some (.ref 68), some (.int x1), some (.int x2), none] [.int s0, .int s1, .ref 68] zSH m none zSH x := by
  unfold j_X12_happens_19 at h
  refine zi_iadd (q := 20) dX12_happens_19 rfl ?_
  refine zi_putI (q := 23) dX12_happens_20 pl_12_316 so_68 rfl ?_
  refine zi_aloadn (q := 24) dX12_happens_23 rfl rfl ?_
  refine zi_getI (q := 27) dX12_happens_24 fl_12_316 (by decide) so_68 rfl ?_
  refine zi_iconst (q := 28) dX12_happens_27 ki_1 rfl ?_
  refine zi_isub (q := 29) dX12_happens_28 rfl ?_
  refine zi_istoren (q := 30) (L' := [some (.ref 68), some (.int x1), some (.int x2), some (.int ((s1 + s0) - 1))]) dX12_happens_29 (by decide) rfl rfl rfl ?_
  obtain ⟨r7, hr7, h⟩ := Option.bind_eq_some_iff.mp h
  refine zloop_rn (P := fun w : (Int32 × zM) => Rn E zX12_happens 30 [some (.ref 68), some (.int x1), some (.int x2), some (.int w.1)] [] zSH w.2 none zSH x) (X := fun w : (zM) => Rn E zX12_happens 82 [some (.ref 68), some (.int x1), some (.int x2), none] [] zSH w none zSH x) (fun w w0 hb KI KX => rb_X12_happens_30 x1 x2 w _ _ w0 hb KI KX) zFU _ r7 hr7 ?_
  show Rn E zX12_happens 82 [some (.ref 68), some (.int x1), some (.int x2), none] [] zSH r7 none zSH x
  refine zi_aloadn (q := 83) dX12_happens_82 rfl rfl ?_
  refine zi_getA (q := 86) dX12_happens_83 fl_12_92 so_68 rfl rfl ?_
  refine zi_iconst (q := 87) dX12_happens_86 ki_0 rfl ?_
  refine zi_iloadn (q := 88) dX12_happens_87 rfl rfl ?_
  refine zi_iast2 (q := 89) dX12_happens_88 so_96 vi_0_12 ix_0 rfl ?_
  refine zi_aloadn (q := 90) dX12_happens_89 rfl rfl ?_
  refine zi_getA (q := 93) dX12_happens_90 fl_12_95 so_68 rfl rfl ?_
  refine zi_iconst (q := 94) dX12_happens_93 ki_0 rfl ?_
  refine zi_iloadn (q := 95) dX12_happens_94 rfl rfl ?_
  refine zi_iast2 (q := 96) dX12_happens_95 so_97 vi_0_12 ix_0 rfl ?_
  refine zi_aloadn (q := 97) dX12_happens_96 rfl rfl ?_
  refine zi_getA (q := 100) dX12_happens_97 fl_12_98 so_68 rfl rfl ?_
  refine zi_iconst (q := 101) dX12_happens_100 ki_0 rfl ?_
  refine zi_aloadn (q := 102) dX12_happens_101 rfl rfl ?_
  refine zi_getI (q := 105) dX12_happens_102 fl_12_200 (by decide) so_68 rfl ?_
  refine zi_iast2 (q := 106) dX12_happens_105 so_98 vi_0_12 ix_0 rfl ?_
  refine zi_aloadn (q := 107) dX12_happens_106 rfl rfl ?_
  refine zi_getA (q := 110) dX12_happens_107 fl_12_101 so_68 rfl rfl ?_
  refine zi_iloadn (q := 111) dX12_happens_110 rfl rfl ?_
  refine zi_dup2 (q := 112) dX12_happens_111 rfl rfl rfl ?_
  obtain ⟨hz8, h⟩ := zg_some h
  refine zi_iald2 (q := 113) dX12_happens_112 so_99 (zin_vp hz8) rfl rfl ?_
  refine zi_iconst (q := 114) dX12_happens_113 ki_1 rfl ?_
  refine zi_iadd (q := 115) dX12_happens_114 rfl ?_
  obtain ⟨hz9, h⟩ := zg_some h
  refine zi_iast2 (q := 116) dX12_happens_115 so_99 (zin_vp hz9) rfl rfl ?_
  cases h
  exact zi_ret _ dX12_happens_116
set_option maxRecDepth 20000 in
theorem r_X12_happens {E : Nat × (Nat → Int32)} (x1 : Int32) (x2 : Int32) (m : zM) (x : zM) (h : f_X12_happens x1 x2 m = some x) : zMet E zX12_happens [.ref 68, .int x1, .int x2] zSH m none zSH x := by
  refine zMet.of (L0 := [some (.ref 68), some (.int x1), some (.int x2), none]) rfl trivial (Nat.le_of_ble_eq_true rfl) rfl ?_
  unfold f_X12_happens at h
  refine zi_aloadn (q := 1) dX12_happens_0 rfl rfl ?_
  refine zi_dup (q := 2) dX12_happens_1 rfl rfl ?_
  refine zi_getI (q := 5) dX12_happens_2 fl_12_316 (by decide) so_68 rfl ?_
  refine zi_aloadn (q := 6) dX12_happens_5 rfl rfl ?_
  refine zi_getI (q := 9) dX12_happens_6 fl_12_316 (by decide) so_68 rfl ?_
  refine zi_bipush (q := 11) dX12_happens_9 kb_12 rfl ?_
  refine zi_icmpge (q := 18) (q2 := 14) dX12_happens_11 (by decide) rfl (fun hc => ?_) (fun hc => ?_)
  · replace h := (if_pos hc).symm.trans h
    refine zi_iconst (q := 19) dX12_happens_18 ki_0 rfl ?_
    exact rj_X12_happens_19 x1 x2 0 (m.1 68 37) _ _ h
  · replace h := (if_neg hc).symm.trans h
    refine zi_iconst (q := 15) dX12_happens_14 ki_1 rfl ?_
    refine zi_goto (q := 19) dX12_happens_15 (by decide) ?_
    exact rj_X12_happens_19 x1 x2 1 (m.1 68 37) _ _ h
set_option maxRecDepth 20000 in
theorem rj_X12_isLost_79 {E : Nat × (Nat → Int32)} (x1 : Int32) (s0 : Int32) (m : zM)  (x : (Bool × zM)) (h : j_X12_isLost_79 x1 s0 m = some x) : Rn E zX12_isLost 79 [some (.ref 68), some (.int x1)] [.int s0, .ref 68] zSH m (some (.int (bi x.1))) zSH x.2 := by
  unfold j_X12_isLost_79 at h
  refine zi_aloadn (q := 80) dX12_isLost_79 rfl rfl ?_
  refine zi_getA (q := 83) dX12_isLost_80 fl_12_65 so_68 rfl rfl ?_
  refine zi_iloadn (q := 84) dX12_isLost_83 rfl rfl ?_
  obtain ⟨hz7, h⟩ := zg_some h
  refine zi_iald2 (q := 85) dX12_isLost_84 so_87 (zin_vp hz7) rfl rfl ?_
  obtain ⟨m8, hm8, h⟩ := Option.bind_eq_some_iff.mp h
  refine zc_V2 (q := 88) (st := []) (S1 := []) (r_X12_happens s0 (m.1 87 x1.toNatClampNeg) _ m8 hm8) dX12_isLost_85 cb_X12_happens k6_80 k6_82 ks_X12_happens ⟨by decide, by decide⟩ so_68 rfl rfl rfl (Nat.le_of_ble_eq_true rfl) (Or.inl rfl) rfl rfl ?_
  refine zi_iconst (q := 89) dX12_isLost_88 ki_1 rfl ?_
  cases h
  exact zi_ret _ dX12_isLost_89
set_option maxRecDepth 20000 in
theorem rj_X12_isLost_78 {E : Nat × (Nat → Int32)} (x1 : Int32) (m : zM)  (x : (Bool × zM)) (h : j_X12_isLost_78 x1 m = some x) : Rn E zX12_isLost 78 [some (.ref 68), some (.int x1)] [.ref 68] zSH m (some (.int (bi x.1))) zSH x.2 := by
  unfold j_X12_isLost_78 at h
  refine zi_iconst (q := 79) dX12_isLost_78 ki_2 rfl ?_
  exact rj_X12_isLost_79 x1 2 _ _ h
set_option maxRecDepth 20000 in
theorem r_X12_isLost {E : Nat × (Nat → Int32)} (x1 : Int32) (m : zM) (x : (Bool × zM)) (h : f_X12_isLost x1 m = some x) : zMet E zX12_isLost [.ref 68, .int x1] zSH m (some (.int (bi x.1))) zSH x.2 := by
  refine zMet.of (L0 := [some (.ref 68), some (.int x1)]) rfl (zfit_bi _) (Nat.le_of_ble_eq_true rfl) rfl ?_
  unfold f_X12_isLost at h
  refine zi_aloadn (q := 1) dX12_isLost_0 rfl rfl ?_
  refine zi_getA (q := 4) dX12_isLost_1 fl_12_83 so_68 rfl rfl ?_
  refine zi_iloadn (q := 5) dX12_isLost_4 rfl rfl ?_
  refine zi_dup2 (q := 6) dX12_isLost_5 rfl rfl rfl ?_
  obtain ⟨hz1, h⟩ := zg_some h
  refine zi_iald2 (q := 7) dX12_isLost_6 so_93 (zin_vp hz1) rfl rfl ?_
  refine zi_iconst (q := 8) dX12_isLost_7 ki_1 rfl ?_
  refine zi_iadd (q := 9) dX12_isLost_8 rfl ?_
  obtain ⟨hz2, h⟩ := zg_some h
  refine zi_iast2 (q := 10) dX12_isLost_9 so_93 (zin_vp hz2) rfl rfl ?_
  refine zi_aloadn (q := 11) dX12_isLost_10 rfl rfl ?_
  refine zi_getA (q := 14) dX12_isLost_11 fl_12_83 so_68 rfl rfl ?_
  refine zi_iloadn (q := 15) dX12_isLost_14 rfl rfl ?_
  obtain ⟨hz3, h⟩ := zg_some h
  refine zi_iald2 (q := 16) dX12_isLost_15 so_93 (zin_vp hz3) rfl rfl ?_
  refine zi_aloadn (q := 17) dX12_isLost_16 rfl rfl ?_
  refine zi_getA (q := 20) dX12_isLost_17 fl_12_44 so_68 rfl rfl ?_
  refine zi_iconst (q := 21) dX12_isLost_20 ki_5 rfl ?_
  refine zi_iald2 (q := 22) dX12_isLost_21 so_80 vi_5_9 ix_5 rfl ?_
  refine zi_icmpgt (q := 27) (q2 := 25) dX12_isLost_22 (by decide) rfl (fun hc => ?_) (fun hc => ?_)
  · replace h := (if_pos hc).symm.trans h
    refine zi_aloadn (q := 28) dX12_isLost_27 rfl rfl ?_
    refine zi_getA (q := 31) dX12_isLost_28 fl_12_89 so_68 rfl rfl ?_
    refine zi_iloadn (q := 32) dX12_isLost_31 rfl rfl ?_
    obtain ⟨hz4, h⟩ := zg_some h
    refine zi_bald2 (q := 33) dX12_isLost_32 so_95 (zin_vp hz4) rfl rfl ?_
    refine zi_ifne (q := 88) (q2 := 36) dX12_isLost_33 (by decide) rfl (fun hc => ?_) (fun hc => ?_)
    · replace h := (if_neg hc).symm.trans h
      refine zi_iconst (q := 89) dX12_isLost_88 ki_1 rfl ?_
      cases h
      exact zi_ret _ dX12_isLost_89
    · replace h := (if_pos hc).symm.trans h
      refine zi_aloadn (q := 37) dX12_isLost_36 rfl rfl ?_
      refine zi_getA (q := 40) dX12_isLost_37 fl_12_80 so_68 rfl rfl ?_
      refine zi_iloadn (q := 41) dX12_isLost_40 rfl rfl ?_
      obtain ⟨hz5, h⟩ := zg_some h
      refine zi_iald2 (q := 42) dX12_isLost_41 so_92 (zin_vp hz5) rfl rfl ?_
      refine zi_iconst (q := 43) dX12_isLost_42 ki_1 rfl ?_
      refine zi_icmple (q := 88) (q2 := 46) dX12_isLost_43 (by decide) rfl (fun hc => ?_) (fun hc => ?_)
      · replace h := (if_pos hc).symm.trans h
        refine zi_iconst (q := 89) dX12_isLost_88 ki_1 rfl ?_
        cases h
        exact zi_ret _ dX12_isLost_89
      · replace h := (if_neg hc).symm.trans h
        refine zi_aloadn (q := 47) dX12_isLost_46 rfl rfl ?_
        refine zi_aloadn (q := 48) dX12_isLost_47 rfl rfl ?_
        refine zi_getA (q := 51) dX12_isLost_48 fl_12_80 so_68 rfl rfl ?_
        refine zi_iloadn (q := 52) dX12_isLost_51 rfl rfl ?_
        obtain ⟨hz6, h⟩ := zg_some h
        refine zi_iald2 (q := 53) dX12_isLost_52 so_92 (zin_vp hz6) rfl rfl ?_
        refine zi_aloadn (q := 54) dX12_isLost_53 rfl rfl ?_
        refine zi_getA (q := 57) dX12_isLost_54 fl_12_44 so_68 rfl rfl ?_
        refine zi_bipush (q := 59) dX12_isLost_57 kb_6 rfl ?_
        refine zi_iald2 (q := 60) dX12_isLost_59 so_80 vi_6_9 ix_6 rfl ?_
        refine zi_icmpgt (q := 78) (q2 := 63) dX12_isLost_60 (by decide) rfl (fun hc => ?_) (fun hc => ?_)
        · replace h := (if_pos hc).symm.trans h
          exact rj_X12_isLost_78 x1 _ _ h
        · replace h := (if_neg hc).symm.trans h
          refine zi_aloadn (q := 64) dX12_isLost_63 rfl rfl ?_
          refine zi_getA (q := 67) dX12_isLost_64 fl_12_86 so_68 rfl rfl ?_
          refine zi_iloadn (q := 68) dX12_isLost_67 rfl rfl ?_
          obtain ⟨hz9, h⟩ := zg_some h
          refine zi_iald2 (q := 69) dX12_isLost_68 so_94 (zin_vp hz9) rfl rfl ?_
          refine zi_bipush (q := 71) dX12_isLost_69 kb_16 rfl ?_
          refine zi_icmpgt (q := 78) (q2 := 74) dX12_isLost_71 (by decide) rfl (fun hc => ?_) (fun hc => ?_)
          · replace h := (if_pos hc).symm.trans h
            exact rj_X12_isLost_78 x1 _ _ h
          · replace h := (if_neg hc).symm.trans h
            refine zi_iconst (q := 75) dX12_isLost_74 ki_4 rfl ?_
            refine zi_goto (q := 79) dX12_isLost_75 (by decide) ?_
            exact rj_X12_isLost_79 x1 4 _ _ h
  · replace h := (if_neg hc).symm.trans h
    refine zi_iconst (q := 26) dX12_isLost_25 ki_0 rfl ?_
    cases h
    exact zi_ret _ dX12_isLost_26
set_option maxRecDepth 20000 in
theorem r_X12_keepAs {E : Nat × (Nat → Int32)} (x1 : Int32) (x2 : Int32) (m : zM) (x : zM) (h : f_X12_keepAs x1 x2 m = some x) : zMet E zX12_keepAs [.ref 68, .int x1, .int x2] zSH m none zSH x := by
  refine zMet.of (L0 := [some (.ref 68), some (.int x1), some (.int x2)]) rfl trivial (Nat.le_of_ble_eq_true rfl) rfl ?_
  unfold f_X12_keepAs at h
  refine zi_aloadn (q := 1) dX12_keepAs_0 rfl rfl ?_
  refine zi_getA (q := 4) dX12_keepAs_1 fl_12_65 so_68 rfl rfl ?_
  refine zi_iloadn (q := 5) dX12_keepAs_4 rfl rfl ?_
  refine zi_aloadn (q := 6) dX12_keepAs_5 rfl rfl ?_
  refine zi_getA (q := 9) dX12_keepAs_6 fl_12_65 so_68 rfl rfl ?_
  refine zi_iloadn (q := 10) dX12_keepAs_9 rfl rfl ?_
  obtain ⟨hz1, h⟩ := zg_some h
  refine zi_iald2 (q := 11) dX12_keepAs_10 so_87 (zin_vp hz1) rfl rfl ?_
  obtain ⟨hz2, h⟩ := zg_some h
  refine zi_iast2 (q := 12) dX12_keepAs_11 so_87 (zin_vp hz2) rfl rfl ?_
  refine zi_aloadn (q := 13) dX12_keepAs_12 rfl rfl ?_
  refine zi_getA (q := 16) dX12_keepAs_13 fl_12_68 so_68 rfl rfl ?_
  refine zi_iloadn (q := 17) dX12_keepAs_16 rfl rfl ?_
  refine zi_aloadn (q := 18) dX12_keepAs_17 rfl rfl ?_
  refine zi_getA (q := 21) dX12_keepAs_18 fl_12_68 so_68 rfl rfl ?_
  refine zi_iloadn (q := 22) dX12_keepAs_21 rfl rfl ?_
  obtain ⟨hz3, h⟩ := zg_some h
  refine zi_iald2 (q := 23) dX12_keepAs_22 so_88 (zin_vp hz3) rfl rfl ?_
  obtain ⟨hz4, h⟩ := zg_some h
  refine zi_iast2 (q := 24) dX12_keepAs_23 so_88 (zin_vp hz4) rfl rfl ?_
  refine zi_aloadn (q := 25) dX12_keepAs_24 rfl rfl ?_
  refine zi_getA (q := 28) dX12_keepAs_25 fl_12_71 so_68 rfl rfl ?_
  refine zi_iloadn (q := 29) dX12_keepAs_28 rfl rfl ?_
  refine zi_aloadn (q := 30) dX12_keepAs_29 rfl rfl ?_
  refine zi_getA (q := 33) dX12_keepAs_30 fl_12_71 so_68 rfl rfl ?_
  refine zi_iloadn (q := 34) dX12_keepAs_33 rfl rfl ?_
  obtain ⟨hz5, h⟩ := zg_some h
  refine zi_iald2 (q := 35) dX12_keepAs_34 so_89 (zin_vp hz5) rfl rfl ?_
  obtain ⟨hz6, h⟩ := zg_some h
  refine zi_iast2 (q := 36) dX12_keepAs_35 so_89 (zin_vp hz6) rfl rfl ?_
  refine zi_aloadn (q := 37) dX12_keepAs_36 rfl rfl ?_
  refine zi_getA (q := 40) dX12_keepAs_37 fl_12_74 so_68 rfl rfl ?_
  refine zi_iloadn (q := 41) dX12_keepAs_40 rfl rfl ?_
  refine zi_aloadn (q := 42) dX12_keepAs_41 rfl rfl ?_
  refine zi_getA (q := 45) dX12_keepAs_42 fl_12_74 so_68 rfl rfl ?_
  refine zi_iloadn (q := 46) dX12_keepAs_45 rfl rfl ?_
  obtain ⟨hz7, h⟩ := zg_some h
  refine zi_iald2 (q := 47) dX12_keepAs_46 so_90 (zin_vp hz7) rfl rfl ?_
  obtain ⟨hz8, h⟩ := zg_some h
  refine zi_iast2 (q := 48) dX12_keepAs_47 so_90 (zin_vp hz8) rfl rfl ?_
  refine zi_aloadn (q := 49) dX12_keepAs_48 rfl rfl ?_
  refine zi_getA (q := 52) dX12_keepAs_49 fl_12_77 so_68 rfl rfl ?_
  refine zi_iloadn (q := 53) dX12_keepAs_52 rfl rfl ?_
  refine zi_aloadn (q := 54) dX12_keepAs_53 rfl rfl ?_
  refine zi_getA (q := 57) dX12_keepAs_54 fl_12_77 so_68 rfl rfl ?_
  refine zi_iloadn (q := 58) dX12_keepAs_57 rfl rfl ?_
  obtain ⟨hz9, h⟩ := zg_some h
  refine zi_iald2 (q := 59) dX12_keepAs_58 so_91 (zin_vp hz9) rfl rfl ?_
  obtain ⟨hz10, h⟩ := zg_some h
  refine zi_iast2 (q := 60) dX12_keepAs_59 so_91 (zin_vp hz10) rfl rfl ?_
  refine zi_aloadn (q := 61) dX12_keepAs_60 rfl rfl ?_
  refine zi_getA (q := 64) dX12_keepAs_61 fl_12_80 so_68 rfl rfl ?_
  refine zi_iloadn (q := 65) dX12_keepAs_64 rfl rfl ?_
  refine zi_aloadn (q := 66) dX12_keepAs_65 rfl rfl ?_
  refine zi_getA (q := 69) dX12_keepAs_66 fl_12_80 so_68 rfl rfl ?_
  refine zi_iloadn (q := 70) dX12_keepAs_69 rfl rfl ?_
  obtain ⟨hz11, h⟩ := zg_some h
  refine zi_iald2 (q := 71) dX12_keepAs_70 so_92 (zin_vp hz11) rfl rfl ?_
  obtain ⟨hz12, h⟩ := zg_some h
  refine zi_iast2 (q := 72) dX12_keepAs_71 so_92 (zin_vp hz12) rfl rfl ?_
  refine zi_aloadn (q := 73) dX12_keepAs_72 rfl rfl ?_
  refine zi_getA (q := 76) dX12_keepAs_73 fl_12_83 so_68 rfl rfl ?_
  refine zi_iloadn (q := 77) dX12_keepAs_76 rfl rfl ?_
  refine zi_aloadn (q := 78) dX12_keepAs_77 rfl rfl ?_
  refine zi_getA (q := 81) dX12_keepAs_78 fl_12_83 so_68 rfl rfl ?_
  refine zi_iloadn (q := 82) dX12_keepAs_81 rfl rfl ?_
  obtain ⟨hz13, h⟩ := zg_some h
  refine zi_iald2 (q := 83) dX12_keepAs_82 so_93 (zin_vp hz13) rfl rfl ?_
  obtain ⟨hz14, h⟩ := zg_some h
  refine zi_iast2 (q := 84) dX12_keepAs_83 so_93 (zin_vp hz14) rfl rfl ?_
  refine zi_aloadn (q := 85) dX12_keepAs_84 rfl rfl ?_
  refine zi_getA (q := 88) dX12_keepAs_85 fl_12_86 so_68 rfl rfl ?_
  refine zi_iloadn (q := 89) dX12_keepAs_88 rfl rfl ?_
  refine zi_aloadn (q := 90) dX12_keepAs_89 rfl rfl ?_
  refine zi_getA (q := 93) dX12_keepAs_90 fl_12_86 so_68 rfl rfl ?_
  refine zi_iloadn (q := 94) dX12_keepAs_93 rfl rfl ?_
  obtain ⟨hz15, h⟩ := zg_some h
  refine zi_iald2 (q := 95) dX12_keepAs_94 so_94 (zin_vp hz15) rfl rfl ?_
  obtain ⟨hz16, h⟩ := zg_some h
  refine zi_iast2 (q := 96) dX12_keepAs_95 so_94 (zin_vp hz16) rfl rfl ?_
  refine zi_aloadn (q := 97) dX12_keepAs_96 rfl rfl ?_
  refine zi_getA (q := 100) dX12_keepAs_97 fl_12_89 so_68 rfl rfl ?_
  refine zi_iloadn (q := 101) dX12_keepAs_100 rfl rfl ?_
  refine zi_aloadn (q := 102) dX12_keepAs_101 rfl rfl ?_
  refine zi_getA (q := 105) dX12_keepAs_102 fl_12_89 so_68 rfl rfl ?_
  refine zi_iloadn (q := 106) dX12_keepAs_105 rfl rfl ?_
  obtain ⟨hz17, h⟩ := zg_some h
  refine zi_bald2 (q := 107) dX12_keepAs_106 so_95 (zin_vp hz17) rfl rfl ?_
  obtain ⟨hz18, h⟩ := zg_some h
  obtain ⟨hz19, h⟩ := zg_some h
  refine zi_bast2 (q := 108) dX12_keepAs_107 so_95 (zin_vp hz18) rfl hz19 rfl ?_
  cases h
  exact zi_ret _ dX12_keepAs_108
set_option maxRecDepth 20000 in
theorem r_X12_lay {E : Nat × (Nat → Int32)} (x1 : Int32) (x2 : Int32) (m : zM) (x : zM) (h : f_X12_lay x1 x2 m = some x) : zMet E zX12_lay [.ref 68, .int x1, .int x2] zSH m none zSH x := by
  refine zMet.of (L0 := [some (.ref 68), some (.int x1), some (.int x2)]) rfl trivial (Nat.le_of_ble_eq_true rfl) rfl ?_
  unfold f_X12_lay at h
  refine zi_aloadn (q := 1) dX12_lay_0 rfl rfl ?_
  refine zi_getA (q := 4) dX12_lay_1 fl_12_68 so_68 rfl rfl ?_
  refine zi_iloadn (q := 5) dX12_lay_4 rfl rfl ?_
  refine zi_aloadn (q := 6) dX12_lay_5 rfl rfl ?_
  refine zi_getA (q := 9) dX12_lay_6 fl_12_56 so_68 rfl rfl ?_
  refine zi_iloadn (q := 10) dX12_lay_9 rfl rfl ?_
  obtain ⟨hz1, h⟩ := zg_some h
  refine zi_iald2 (q := 11) dX12_lay_10 so_84 (zin_vp hz1) rfl rfl ?_
  obtain ⟨hz2, h⟩ := zg_some h
  refine zi_iast2 (q := 12) dX12_lay_11 so_88 (zin_vp hz2) rfl rfl ?_
  refine zi_aloadn (q := 13) dX12_lay_12 rfl rfl ?_
  refine zi_getA (q := 16) dX12_lay_13 fl_12_71 so_68 rfl rfl ?_
  refine zi_iloadn (q := 17) dX12_lay_16 rfl rfl ?_
  refine zi_aloadn (q := 18) dX12_lay_17 rfl rfl ?_
  refine zi_getA (q := 21) dX12_lay_18 fl_12_59 so_68 rfl rfl ?_
  refine zi_iloadn (q := 22) dX12_lay_21 rfl rfl ?_
  obtain ⟨hz3, h⟩ := zg_some h
  refine zi_iald2 (q := 23) dX12_lay_22 so_85 (zin_vp hz3) rfl rfl ?_
  obtain ⟨hz4, h⟩ := zg_some h
  refine zi_iast2 (q := 24) dX12_lay_23 so_89 (zin_vp hz4) rfl rfl ?_
  refine zi_aloadn (q := 25) dX12_lay_24 rfl rfl ?_
  refine zi_getA (q := 28) dX12_lay_25 fl_12_74 so_68 rfl rfl ?_
  refine zi_iloadn (q := 29) dX12_lay_28 rfl rfl ?_
  refine zi_aloadn (q := 30) dX12_lay_29 rfl rfl ?_
  refine zi_getA (q := 33) dX12_lay_30 fl_12_50 so_68 rfl rfl ?_
  refine zi_iloadn (q := 34) dX12_lay_33 rfl rfl ?_
  obtain ⟨hz5, h⟩ := zg_some h
  refine zi_iald2 (q := 35) dX12_lay_34 so_82 (zin_vp hz5) rfl rfl ?_
  obtain ⟨hz6, h⟩ := zg_some h
  refine zi_iast2 (q := 36) dX12_lay_35 so_90 (zin_vp hz6) rfl rfl ?_
  refine zi_aloadn (q := 37) dX12_lay_36 rfl rfl ?_
  refine zi_getA (q := 40) dX12_lay_37 fl_12_77 so_68 rfl rfl ?_
  refine zi_iloadn (q := 41) dX12_lay_40 rfl rfl ?_
  refine zi_aloadn (q := 42) dX12_lay_41 rfl rfl ?_
  refine zi_getA (q := 45) dX12_lay_42 fl_12_53 so_68 rfl rfl ?_
  refine zi_iloadn (q := 46) dX12_lay_45 rfl rfl ?_
  obtain ⟨hz7, h⟩ := zg_some h
  refine zi_iald2 (q := 47) dX12_lay_46 so_83 (zin_vp hz7) rfl rfl ?_
  obtain ⟨hz8, h⟩ := zg_some h
  refine zi_iast2 (q := 48) dX12_lay_47 so_91 (zin_vp hz8) rfl rfl ?_
  cases h
  exact zi_ret _ dX12_lay_48
set_option maxRecDepth 20000 in
theorem rj_X12_follow_129 {E : Nat × (Nat → Int32)} (x1 : Int32) (m : zM)  (x : zM) (h : j_X12_follow_129 x1 m = some x) : Rn E zX12_follow 129 [some (.ref 68), some (.int x1), none] [] zSH m none zSH x := by
  unfold j_X12_follow_129 at h
  refine zi_aloadn (q := 130) dX12_follow_129 rfl rfl ?_
  refine zi_getA (q := 133) dX12_follow_130 fl_12_80 so_68 rfl rfl ?_
  refine zi_iloadn (q := 134) dX12_follow_133 rfl rfl ?_
  obtain ⟨hz16, h⟩ := zg_some h
  refine zi_iald2 (q := 135) dX12_follow_134 so_92 (zin_vp hz16) rfl rfl ?_
  refine zi_iconst (q := 136) dX12_follow_135 ki_2 rfl ?_
  refine zi_icmpne (q := 159) (q2 := 139) dX12_follow_136 (by decide) rfl (fun hc => ?_) (fun hc => ?_)
  · replace h := (if_neg hc).symm.trans h
    cases h
    exact zi_ret _ dX12_follow_159
  · replace h := (if_pos hc).symm.trans h
    refine zi_aloadn (q := 140) dX12_follow_139 rfl rfl ?_
    refine zi_getA (q := 143) dX12_follow_140 fl_12_89 so_68 rfl rfl ?_
    refine zi_iloadn (q := 144) dX12_follow_143 rfl rfl ?_
    obtain ⟨hz17, h⟩ := zg_some h
    refine zi_bald2 (q := 145) dX12_follow_144 so_95 (zin_vp hz17) rfl rfl ?_
    refine zi_ifne (q := 159) (q2 := 148) dX12_follow_145 (by decide) rfl (fun hc => ?_) (fun hc => ?_)
    · replace h := (if_neg hc).symm.trans h
      cases h
      exact zi_ret _ dX12_follow_159
    · replace h := (if_pos hc).symm.trans h
      refine zi_aloadn (q := 149) dX12_follow_148 rfl rfl ?_
      refine zi_iconst (q := 150) dX12_follow_149 ki_1 rfl ?_
      refine zi_aloadn (q := 151) dX12_follow_150 rfl rfl ?_
      refine zi_getA (q := 154) dX12_follow_151 fl_12_65 so_68 rfl rfl ?_
      refine zi_iloadn (q := 155) dX12_follow_154 rfl rfl ?_
      obtain ⟨hz18, h⟩ := zg_some h
      refine zi_iald2 (q := 156) dX12_follow_155 so_87 (zin_vp hz18) rfl rfl ?_
      obtain ⟨m19, hm19, h⟩ := Option.bind_eq_some_iff.mp h
      refine zc_V2 (q := 159) (st := []) (S1 := []) (r_X12_happens 1 (m.1 87 x1.toNatClampNeg) _ m19 hm19) dX12_follow_156 cb_X12_happens k6_80 k6_82 ks_X12_happens ⟨by decide, by decide⟩ so_68 rfl rfl rfl (Nat.le_of_ble_eq_true rfl) (Or.inl rfl) rfl rfl ?_
      cases h
      exact zi_ret _ dX12_follow_159
set_option maxRecDepth 20000 in
theorem r_X12_follow {E : Nat × (Nat → Int32)} (x1 : Int32) (x2 : Int32) (m : zM) (x : zM) (h : f_X12_follow x1 x2 m = some x) : zMet E zX12_follow [.ref 68, .int x1, .int x2] zSH m none zSH x := by
  refine zMet.of (L0 := [some (.ref 68), some (.int x1), some (.int x2)]) rfl trivial (Nat.le_of_ble_eq_true rfl) rfl ?_
  unfold f_X12_follow at h
  refine zi_aloadn (q := 1) dX12_follow_0 rfl rfl ?_
  refine zi_getA (q := 4) dX12_follow_1 fl_12_86 so_68 rfl rfl ?_
  refine zi_iloadn (q := 5) dX12_follow_4 rfl rfl ?_
  refine zi_dup2 (q := 6) dX12_follow_5 rfl rfl rfl ?_
  obtain ⟨hz1, h⟩ := zg_some h
  refine zi_iald2 (q := 7) dX12_follow_6 so_94 (zin_vp hz1) rfl rfl ?_
  refine zi_aloadn (q := 8) dX12_follow_7 rfl rfl ?_
  refine zi_getA (q := 11) dX12_follow_8 fl_12_68 so_68 rfl rfl ?_
  refine zi_iloadn (q := 12) dX12_follow_11 rfl rfl ?_
  obtain ⟨hz2, h⟩ := zg_some h
  refine zi_iald2 (q := 13) dX12_follow_12 so_88 (zin_vp hz2) rfl rfl ?_
  refine zi_aloadn (q := 14) dX12_follow_13 rfl rfl ?_
  refine zi_getA (q := 17) dX12_follow_14 fl_12_56 so_68 rfl rfl ?_
  refine zi_iloadn (q := 18) dX12_follow_17 rfl rfl ?_
  obtain ⟨hz3, h⟩ := zg_some h
  refine zi_iald2 (q := 19) dX12_follow_18 so_84 (zin_vp hz3) rfl rfl ?_
  refine zi_isub (q := 20) dX12_follow_19 rfl ?_
  obtain ⟨r4, hr4, h⟩ := Option.bind_eq_some_iff.mp h
  refine zc_S2 (q := 23) (st := [.int (m.1 94 x1.toNatClampNeg), .int x1, .ref 94]) (S1 := [.int r4, .int (m.1 94 x1.toNatClampNeg), .int x1, .ref 94]) (r_X12_abs ((m.1 88 x1.toNatClampNeg) - (m.1 84 x2.toNatClampNeg)) _ r4 hr4) dX12_follow_20 cb_X12_abs k6_53 k6_54 ⟨by decide, by decide⟩ rfl (Nat.le_of_ble_eq_true rfl) (Or.inl rfl) rfl rfl ?_
  refine zi_aloadn (q := 24) dX12_follow_23 rfl rfl ?_
  refine zi_getA (q := 27) dX12_follow_24 fl_12_71 so_68 rfl rfl ?_
  refine zi_iloadn (q := 28) dX12_follow_27 rfl rfl ?_
  obtain ⟨hz5, h⟩ := zg_some h
  refine zi_iald2 (q := 29) dX12_follow_28 so_89 (zin_vp hz5) rfl rfl ?_
  refine zi_aloadn (q := 30) dX12_follow_29 rfl rfl ?_
  refine zi_getA (q := 33) dX12_follow_30 fl_12_59 so_68 rfl rfl ?_
  refine zi_iloadn (q := 34) dX12_follow_33 rfl rfl ?_
  obtain ⟨hz6, h⟩ := zg_some h
  refine zi_iald2 (q := 35) dX12_follow_34 so_85 (zin_vp hz6) rfl rfl ?_
  refine zi_isub (q := 36) dX12_follow_35 rfl ?_
  obtain ⟨r7, hr7, h⟩ := Option.bind_eq_some_iff.mp h
  refine zc_S2 (q := 39) (st := [.int r4, .int (m.1 94 x1.toNatClampNeg), .int x1, .ref 94]) (S1 := [.int r7, .int r4, .int (m.1 94 x1.toNatClampNeg), .int x1, .ref 94]) (r_X12_abs ((m.1 89 x1.toNatClampNeg) - (m.1 85 x2.toNatClampNeg)) _ r7 hr7) dX12_follow_36 cb_X12_abs k6_53 k6_54 ⟨by decide, by decide⟩ rfl (Nat.le_of_ble_eq_true rfl) (Or.inl rfl) rfl rfl ?_
  refine zi_iadd (q := 40) dX12_follow_39 rfl ?_
  refine zi_iadd (q := 41) dX12_follow_40 rfl ?_
  obtain ⟨hz8, h⟩ := zg_some h
  refine zi_iast2 (q := 42) dX12_follow_41 so_94 (zin_vp hz8) rfl rfl ?_
  refine zi_aloadn (q := 43) dX12_follow_42 rfl rfl ?_
  refine zi_iloadn (q := 44) dX12_follow_43 rfl rfl ?_
  refine zi_iloadn (q := 45) dX12_follow_44 rfl rfl ?_
  obtain ⟨m9, hm9, h⟩ := Option.bind_eq_some_iff.mp h
  refine zc_V2 (q := 48) (st := []) (S1 := []) (r_X12_lay x1 x2 _ m9 hm9) dX12_follow_45 cb_X12_lay k6_76 k6_78 ks_X12_lay ⟨by decide, by decide⟩ so_68 rfl rfl rfl (Nat.le_of_ble_eq_true rfl) (Or.inl rfl) rfl rfl ?_
  refine zi_aloadn (q := 49) dX12_follow_48 rfl rfl ?_
  refine zi_getA (q := 52) dX12_follow_49 fl_12_80 so_68 rfl rfl ?_
  refine zi_iloadn (q := 53) dX12_follow_52 rfl rfl ?_
  refine zi_dup2 (q := 54) dX12_follow_53 rfl rfl rfl ?_
  obtain ⟨hz10, h⟩ := zg_some h
  refine zi_iald2 (q := 55) dX12_follow_54 so_92 (zin_vp hz10) rfl rfl ?_
  refine zi_iconst (q := 56) dX12_follow_55 ki_1 rfl ?_
  refine zi_iadd (q := 57) dX12_follow_56 rfl ?_
  obtain ⟨hz11, h⟩ := zg_some h
  refine zi_iast2 (q := 58) dX12_follow_57 so_92 (zin_vp hz11) rfl rfl ?_
  refine zi_aloadn (q := 59) dX12_follow_58 rfl rfl ?_
  refine zi_getA (q := 62) dX12_follow_59 fl_12_83 so_68 rfl rfl ?_
  refine zi_iloadn (q := 63) dX12_follow_62 rfl rfl ?_
  refine zi_iconst (q := 64) dX12_follow_63 ki_0 rfl ?_
  obtain ⟨hz12, h⟩ := zg_some h
  refine zi_iast2 (q := 65) dX12_follow_64 so_93 (zin_vp hz12) rfl rfl ?_
  refine zi_aloadn (q := 66) dX12_follow_65 rfl rfl ?_
  refine zi_getA (q := 69) dX12_follow_66 fl_12_62 so_68 rfl rfl ?_
  refine zi_iloadn (q := 70) dX12_follow_69 rfl rfl ?_
  refine zi_aloadn (q := 71) dX12_follow_70 rfl rfl ?_
  refine zi_getA (q := 74) dX12_follow_71 fl_12_65 so_68 rfl rfl ?_
  refine zi_iloadn (q := 75) dX12_follow_74 rfl rfl ?_
  obtain ⟨hz13, h⟩ := zg_some h
  refine zi_iald2 (q := 76) dX12_follow_75 so_87 (zin_vp hz13) rfl rfl ?_
  obtain ⟨hz14, h⟩ := zg_some h
  refine zi_iast2 (q := 77) dX12_follow_76 so_86 (zin_vp hz14) rfl rfl ?_
  refine zi_aloadn (q := 78) dX12_follow_77 rfl rfl ?_
  refine zi_getA (q := 81) dX12_follow_78 fl_12_74 so_68 rfl rfl ?_
  refine zi_iloadn (q := 82) dX12_follow_81 rfl rfl ?_
  obtain ⟨hz15, h⟩ := zg_some h
  refine zi_iald2 (q := 83) dX12_follow_82 so_90 (zin_vp hz15) rfl rfl ?_
  refine zi_aloadn (q := 84) dX12_follow_83 rfl rfl ?_
  refine zi_getA (q := 87) dX12_follow_84 fl_12_44 so_68 rfl rfl ?_
  refine zi_iconst (q := 88) dX12_follow_87 ki_3 rfl ?_
  refine zi_iald2 (q := 89) dX12_follow_88 so_80 vi_3_9 ix_3 rfl ?_
  refine zi_icmplt (q := 129) (q2 := 92) dX12_follow_89 (by decide) rfl (fun hc => ?_) (fun hc => ?_)
  · replace h := (if_pos hc).symm.trans h
    refine Rn.weakm [true, true, false] ?_
    exact rj_X12_follow_129 x1 _ _ h
  · replace h := (if_neg hc).symm.trans h
    refine zi_aloadn (q := 93) dX12_follow_92 rfl rfl ?_
    refine zi_getA (q := 96) dX12_follow_93 fl_12_89 so_68 rfl rfl ?_
    refine zi_iloadn (q := 97) dX12_follow_96 rfl rfl ?_
    obtain ⟨hz20, h⟩ := zg_some h
    refine zi_bald2 (q := 98) dX12_follow_97 so_95 (zin_vp hz20) rfl rfl ?_
    refine zi_ifne (q := 129) (q2 := 101) dX12_follow_98 (by decide) rfl (fun hc => ?_) (fun hc => ?_)
    · replace h := (if_neg hc).symm.trans h
      refine Rn.weakm [true, true, false] ?_
      exact rj_X12_follow_129 x1 _ _ h
    · replace h := (if_pos hc).symm.trans h
      refine zi_aloadn (q := 102) dX12_follow_101 rfl rfl ?_
      refine zi_getA (q := 105) dX12_follow_102 fl_12_89 so_68 rfl rfl ?_
      refine zi_iloadn (q := 106) dX12_follow_105 rfl rfl ?_
      refine zi_iconst (q := 107) dX12_follow_106 ki_1 rfl ?_
      obtain ⟨hz21, h⟩ := zg_some h
      refine zi_bast2 (q := 108) dX12_follow_107 so_95 (zin_vp hz21) rfl rfl rfl ?_
      refine zi_aloadn (q := 109) dX12_follow_108 rfl rfl ?_
      refine zi_getA (q := 112) dX12_follow_109 fl_12_80 so_68 rfl rfl ?_
      refine zi_iloadn (q := 113) dX12_follow_112 rfl rfl ?_
      obtain ⟨hz22, h⟩ := zg_some h
      refine zi_iald2 (q := 114) dX12_follow_113 so_92 (zin_vp hz22) rfl rfl ?_
      refine zi_iconst (q := 115) dX12_follow_114 ki_2 rfl ?_
      refine zi_icmple (q := 129) (q2 := 118) dX12_follow_115 (by decide) rfl (fun hc => ?_) (fun hc => ?_)
      · replace h := (if_pos hc).symm.trans h
        refine Rn.weakm [true, true, false] ?_
        exact rj_X12_follow_129 x1 _ _ h
      · replace h := (if_neg hc).symm.trans h
        refine zi_aloadn (q := 119) dX12_follow_118 rfl rfl ?_
        refine zi_iconst (q := 120) dX12_follow_119 ki_3 rfl ?_
        refine zi_aloadn (q := 121) dX12_follow_120 rfl rfl ?_
        refine zi_getA (q := 124) dX12_follow_121 fl_12_65 so_68 rfl rfl ?_
        refine zi_iloadn (q := 125) dX12_follow_124 rfl rfl ?_
        obtain ⟨hz23, h⟩ := zg_some h
        refine zi_iald2 (q := 126) dX12_follow_125 so_87 (zin_vp hz23) rfl rfl ?_
        obtain ⟨m24, hm24, h⟩ := Option.bind_eq_some_iff.mp h
        refine zc_V2 (q := 129) (st := []) (S1 := []) (r_X12_happens 3 (m9.1 87 x1.toNatClampNeg) _ m24 hm24) dX12_follow_126 cb_X12_happens k6_80 k6_82 ks_X12_happens ⟨by decide, by decide⟩ so_68 rfl rfl rfl (Nat.le_of_ble_eq_true rfl) (Or.inl rfl) rfl rfl ?_
        refine Rn.weakm [true, true, false] ?_
        exact rj_X12_follow_129 x1 _ _ h
set_option maxRecDepth 20000 in
theorem rj_X12_followAll_57 {E : Nat × (Nat → Int32)} (x1 : Int32) (x2 : Int32) (m : zM) (rv : Option Value) (m' : zM) (x : ((Int32 × Int32 × zM) ⊕ (Int32 × zM))) (h : j_X12_followAll_57 x1 x2 m = some x) (KI : ∀ s1 : (Int32 × Int32 × zM), x = .inl s1 → Rn E zX12_followAll 4 [some (.ref 68), some (.int s1.1), some (.int s1.2.1), none] [] zSH s1.2.2 rv zSH m') : Rn E zX12_followAll 57 [some (.ref 68), some (.int x1), some (.int x2), none] [] zSH m rv zSH m' := by
  unfold j_X12_followAll_57 at h
  refine zi_iinc (q := 60) (v := x2 + 1) (L' := [some (.ref 68), some (.int x1), some (.int (x2 + 1)), none]) dX12_followAll_57 rfl (by rw [ki_1]) (by decide) rfl rfl rfl ?_
  refine zi_goto (q := 4) dX12_followAll_60 (by decide) ?_
  exact KI (x1, (x2 + 1), m) (Option.some.inj h).symm
set_option maxRecDepth 20000 in
theorem rj_X12_followAll_44 {E : Nat × (Nat → Int32)} (x1 : Int32) (x2 : Int32) (x3 : Int32) (m : zM) (rv : Option Value) (m' : zM) (x : ((Int32 × Int32 × zM) ⊕ (Int32 × zM))) (h : j_X12_followAll_44 x1 x2 x3 m = some x) (KI : ∀ s1 : (Int32 × Int32 × zM), x = .inl s1 → Rn E zX12_followAll 4 [some (.ref 68), some (.int s1.1), some (.int s1.2.1), none] [] zSH s1.2.2 rv zSH m') : Rn E zX12_followAll 44 [some (.ref 68), some (.int x1), some (.int x2), some (.int x3)] [] zSH m rv zSH m' := by
  unfold j_X12_followAll_44 at h
  refine zi_iloadn (q := 45) dX12_followAll_44 rfl rfl ?_
  refine zi_ifne (q := 57) (q2 := 48) dX12_followAll_45 (by decide) rfl (fun hc => ?_) (fun hc => ?_)
  · replace h := (if_neg hc).symm.trans h
    refine Rn.weakm [true, true, true, false] ?_
    exact rj_X12_followAll_57 x1 x2 _ _ _ _ h KI
  · replace h := (if_pos hc).symm.trans h
    refine zi_aloadn (q := 49) dX12_followAll_48 rfl rfl ?_
    refine zi_iloadn (q := 50) dX12_followAll_49 rfl rfl ?_
    refine zi_iloadn (q := 51) dX12_followAll_50 rfl rfl ?_
    obtain ⟨m3, hm3, h⟩ := Option.bind_eq_some_iff.mp h
    refine zc_V2 (q := 54) (st := []) (S1 := []) (r_X12_keepAs x2 x1 _ m3 hm3) dX12_followAll_51 cb_X12_keepAs k6_88 k6_90 ks_X12_keepAs ⟨by decide, by decide⟩ so_68 rfl rfl rfl (Nat.le_of_ble_eq_true rfl) (Or.inl rfl) rfl rfl ?_
    refine zi_iinc (q := 57) (v := x1 + 1) (L' := [some (.ref 68), some (.int (x1 + 1)), some (.int x2), some (.int x3)]) dX12_followAll_54 rfl (by rw [ki_1]) (by decide) rfl rfl rfl ?_
    refine Rn.weakm [true, true, true, false] ?_
    exact rj_X12_followAll_57 (x1 + 1) x2 _ _ _ _ h KI
set_option maxRecDepth 20000 in
theorem rb_X12_followAll_4 {E : Nat × (Nat → Int32)}   (s : (Int32 × Int32 × zM)) (rv : Option Value) (m' : zM) (x : ((Int32 × Int32 × zM) ⊕ (Int32 × zM))) (h : b_X12_followAll_4  s = some x) (KI : ∀ s1 : (Int32 × Int32 × zM), x = .inl s1 → Rn E zX12_followAll 4 [some (.ref 68), some (.int s1.1), some (.int s1.2.1), none] [] zSH s1.2.2 rv zSH m') (KO : ∀ r1 : (Int32 × zM), x = .inr r1 → Rn E zX12_followAll 63 [some (.ref 68), some (.int r1.1), none, none] [] zSH r1.2 rv zSH m') : Rn E zX12_followAll 4 [some (.ref 68), some (.int s.1), some (.int s.2.1), none] [] zSH s.2.2 rv zSH m' := by
  unfold b_X12_followAll_4 at h
  refine zi_iloadn (q := 5) dX12_followAll_4 rfl rfl ?_
  refine zi_aloadn (q := 6) dX12_followAll_5 rfl rfl ?_
  refine zi_getI (q := 9) dX12_followAll_6 fl_12_212 (by decide) so_68 rfl ?_
  refine zi_icmpge (q := 63) (q2 := 12) dX12_followAll_9 (by decide) rfl (fun hc => ?_) (fun hc => ?_)
  · replace h := (if_pos hc).symm.trans h
    refine Rn.weakm [true, true, false, false] ?_
    exact KO (s.1, s.2.2) (Option.some.inj h).symm
  · replace h := (if_neg hc).symm.trans h
    refine zi_iconst (q := 13) dX12_followAll_12 ki_0 rfl ?_
    refine zi_istoren (q := 14) (L' := [some (.ref 68), some (.int s.1), some (.int s.2.1), some (.int 0)]) dX12_followAll_13 (by decide) rfl rfl rfl ?_
    refine zi_aloadn (q := 15) dX12_followAll_14 rfl rfl ?_
    refine zi_getA (q := 18) dX12_followAll_15 fl_12_113 so_68 rfl rfl ?_
    refine zi_iloadn (q := 19) dX12_followAll_18 rfl rfl ?_
    obtain ⟨hz1, h⟩ := zg_some h
    refine zi_iald2 (q := 20) dX12_followAll_19 so_103 (zin_vp hz1) rfl rfl ?_
    refine zi_iconst (q := 21) dX12_followAll_20 ki_m1 rfl ?_
    refine zi_icmpeq (q := 38) (q2 := 24) dX12_followAll_21 (by decide) rfl (fun hc => ?_) (fun hc => ?_)
    · replace h := (if_pos hc).symm.trans h
      refine zi_aloadn (q := 39) dX12_followAll_38 rfl rfl ?_
      refine zi_iloadn (q := 40) dX12_followAll_39 rfl rfl ?_
      obtain ⟨r2, hr2, h⟩ := Option.bind_eq_some_iff.mp h
      refine zc_V2 (q := 43) (st := []) (S1 := [.int (bi r2.1)]) (r_X12_isLost s.2.1 _ r2 hr2) dX12_followAll_40 cb_X12_isLost k6_84 k6_86 ks_X12_isLost ⟨by decide, by decide⟩ so_68 rfl rfl rfl (Nat.le_of_ble_eq_true rfl) (Or.inl rfl) rfl rfl ?_
      refine zi_istoren (q := 44) (L' := [some (.ref 68), some (.int s.1), some (.int s.2.1), some (.int (bi r2.1))]) dX12_followAll_43 (by decide) rfl rfl rfl ?_
      exact rj_X12_followAll_44 s.1 s.2.1 (bi r2.1) _ _ _ _ h KI
    · replace h := (if_neg hc).symm.trans h
      refine zi_aloadn (q := 25) dX12_followAll_24 rfl rfl ?_
      refine zi_iloadn (q := 26) dX12_followAll_25 rfl rfl ?_
      refine zi_aloadn (q := 27) dX12_followAll_26 rfl rfl ?_
      refine zi_getA (q := 30) dX12_followAll_27 fl_12_113 so_68 rfl rfl ?_
      refine zi_iloadn (q := 31) dX12_followAll_30 rfl rfl ?_
      obtain ⟨hz4, h⟩ := zg_some h
      refine zi_iald2 (q := 32) dX12_followAll_31 so_103 (zin_vp hz4) rfl rfl ?_
      obtain ⟨m5, hm5, h⟩ := Option.bind_eq_some_iff.mp h
      refine zc_V2 (q := 35) (st := []) (S1 := []) (r_X12_follow s.2.1 (s.2.2.1 103 s.2.1.toNatClampNeg) _ m5 hm5) dX12_followAll_32 cb_X12_follow k6_72 k6_74 ks_X12_follow ⟨by decide, by decide⟩ so_68 rfl rfl rfl (Nat.le_of_ble_eq_true rfl) (Or.inl rfl) rfl rfl ?_
      refine zi_goto (q := 44) dX12_followAll_35 (by decide) ?_
      exact rj_X12_followAll_44 s.1 s.2.1 0 _ _ _ _ h KI
set_option maxRecDepth 20000 in
theorem r_X12_followAll {E : Nat × (Nat → Int32)}  (m : zM) (x : zM) (h : f_X12_followAll  m = some x) : zMet E zX12_followAll [.ref 68] zSH m none zSH x := by
  refine zMet.of (L0 := [some (.ref 68), none, none, none]) rfl trivial (Nat.le_of_ble_eq_true rfl) rfl ?_
  unfold f_X12_followAll at h
  refine zi_iconst (q := 1) dX12_followAll_0 ki_0 rfl ?_
  refine zi_istoren (q := 2) (L' := [some (.ref 68), some (.int 0), none, none]) dX12_followAll_1 (by decide) rfl rfl rfl ?_
  refine zi_iconst (q := 3) dX12_followAll_2 ki_0 rfl ?_
  refine zi_istoren (q := 4) (L' := [some (.ref 68), some (.int 0), some (.int 0), none]) dX12_followAll_3 (by decide) rfl rfl rfl ?_
  obtain ⟨r6, hr6, h⟩ := Option.bind_eq_some_iff.mp h
  refine zloop_rn (P := fun w : (Int32 × Int32 × zM) => Rn E zX12_followAll 4 [some (.ref 68), some (.int w.1), some (.int w.2.1), none] [] zSH w.2.2 none zSH x) (X := fun w : (Int32 × zM) => Rn E zX12_followAll 63 [some (.ref 68), some (.int w.1), none, none] [] zSH w.2 none zSH x) (fun w w0 hb KI KX => rb_X12_followAll_4  w _ _ w0 hb KI KX) zFU _ r6 hr6 ?_
  show Rn E zX12_followAll 63 [some (.ref 68), some (.int r6.1), none, none] [] zSH r6.2 none zSH x
  refine zi_aloadn (q := 64) dX12_followAll_63 rfl rfl ?_
  refine zi_iloadn (q := 65) dX12_followAll_64 rfl rfl ?_
  refine zi_putI (q := 68) dX12_followAll_65 pl_12_212 so_68 rfl ?_
  cases h
  exact zi_ret _ dX12_followAll_68
set_option maxRecDepth 20000 in
theorem rj_X12_beginAll_140 {E : Nat × (Nat → Int32)} (x1 : Int32) (m : zM) (rv : Option Value) (m' : zM) (x : ((Int32 × zM) ⊕ (zM))) (h : j_X12_beginAll_140 x1 m = some x) (KI : ∀ s1 : (Int32 × zM), x = .inl s1 → Rn E zX12_beginAll 2 [some (.ref 68), some (.int s1.1)] [] zSH s1.2 rv zSH m') : Rn E zX12_beginAll 140 [some (.ref 68), some (.int x1)] [] zSH m rv zSH m' := by
  unfold j_X12_beginAll_140 at h
  refine zi_iinc (q := 143) (v := x1 + 1) (L' := [some (.ref 68), some (.int (x1 + 1))]) dX12_beginAll_140 rfl (by rw [ki_1]) (by decide) rfl rfl rfl ?_
  refine zi_goto (q := 2) dX12_beginAll_143 (by decide) ?_
  exact KI ((x1 + 1), m) (Option.some.inj h).symm
set_option maxRecDepth 20000 in
theorem rj_X12_beginAll_119 {E : Nat × (Nat → Int32)} (x1 : Int32) (s0 : Int32) (s1 : Int32) (m : zM) (rv : Option Value) (m' : zM) (x : ((Int32 × zM) ⊕ (zM))) (h : j_X12_beginAll_119 x1 s0 s1 m = some x) (KI : ∀ s1 : (Int32 × zM), x = .inl s1 → Rn E zX12_beginAll 2 [some (.ref 68), some (.int s1.1)] [] zSH s1.2 rv zSH m') : Rn E zX12_beginAll 119 [some (.ref 68), some (.int x1)] [.int s0, .int s1, .ref 95] zSH m rv zSH m' := by
  unfold j_X12_beginAll_119 at h
  obtain ⟨hz8, h⟩ := zg_some h
  obtain ⟨hz9, h⟩ := zg_some h
  refine zi_bast2 (q := 120) dX12_beginAll_119 so_95 (zin_vp hz8) rfl hz9 rfl ?_
  refine zi_aloadn (q := 121) dX12_beginAll_120 rfl rfl ?_
  refine zi_getA (q := 124) dX12_beginAll_121 fl_12_62 so_68 rfl rfl ?_
  refine zi_iloadn (q := 125) dX12_beginAll_124 rfl rfl ?_
  refine zi_aloadn (q := 126) dX12_beginAll_125 rfl rfl ?_
  refine zi_getI (q := 129) dX12_beginAll_126 fl_12_334 (by decide) so_68 rfl ?_
  obtain ⟨hz10, h⟩ := zg_some h
  refine zi_iast2 (q := 130) dX12_beginAll_129 so_86 (zin_vp hz10) rfl rfl ?_
  refine zi_aloadn (q := 131) dX12_beginAll_130 rfl rfl ?_
  refine zi_dup (q := 132) dX12_beginAll_131 rfl rfl ?_
  refine zi_getI (q := 135) dX12_beginAll_132 fl_12_212 (by decide) so_68 rfl ?_
  refine zi_iconst (q := 136) dX12_beginAll_135 ki_1 rfl ?_
  refine zi_iadd (q := 137) dX12_beginAll_136 rfl ?_
  refine zi_putI (q := 140) dX12_beginAll_137 pl_12_212 so_68 rfl ?_
  exact rj_X12_beginAll_140 x1 _ _ _ _ h KI
set_option maxRecDepth 20000 in
theorem rb_X12_beginAll_2 {E : Nat × (Nat → Int32)}   (s : (Int32 × zM)) (rv : Option Value) (m' : zM) (x : ((Int32 × zM) ⊕ (zM))) (h : b_X12_beginAll_2  s = some x) (KI : ∀ s1 : (Int32 × zM), x = .inl s1 → Rn E zX12_beginAll 2 [some (.ref 68), some (.int s1.1)] [] zSH s1.2 rv zSH m') (KO : ∀ r1 : (zM), x = .inr r1 → Rn E zX12_beginAll 146 [none, none] [] zSH r1 rv zSH m') : Rn E zX12_beginAll 2 [some (.ref 68), some (.int s.1)] [] zSH s.2 rv zSH m' := by
  unfold b_X12_beginAll_2 at h
  refine zi_iloadn (q := 3) dX12_beginAll_2 rfl rfl ?_
  refine zi_aloadn (q := 4) dX12_beginAll_3 rfl rfl ?_
  refine zi_getI (q := 7) dX12_beginAll_4 fl_12_209 (by decide) so_68 rfl ?_
  refine zi_icmpge (q := 146) (q2 := 10) dX12_beginAll_7 (by decide) rfl (fun hc => ?_) (fun hc => ?_)
  · replace h := (if_pos hc).symm.trans h
    refine Rn.weakm [false, false] ?_
    exact KO s.2 (Option.some.inj h).symm
  · replace h := (if_neg hc).symm.trans h
    refine zi_aloadn (q := 11) dX12_beginAll_10 rfl rfl ?_
    refine zi_getA (q := 14) dX12_beginAll_11 fl_12_62 so_68 rfl rfl ?_
    refine zi_iloadn (q := 15) dX12_beginAll_14 rfl rfl ?_
    obtain ⟨hz1, h⟩ := zg_some h
    refine zi_iald2 (q := 16) dX12_beginAll_15 so_86 (zin_vp hz1) rfl rfl ?_
    refine zi_iconst (q := 17) dX12_beginAll_16 ki_m1 rfl ?_
    refine zi_icmpne (q := 140) (q2 := 20) dX12_beginAll_17 (by decide) rfl (fun hc => ?_) (fun hc => ?_)
    · replace h := (if_neg hc).symm.trans h
      exact rj_X12_beginAll_140 s.1 _ _ _ _ h KI
    · replace h := (if_pos hc).symm.trans h
      refine zi_aloadn (q := 21) dX12_beginAll_20 rfl rfl ?_
      refine zi_getI (q := 24) dX12_beginAll_21 fl_12_212 (by decide) so_68 rfl ?_
      refine zi_bipush (q := 26) dX12_beginAll_24 kb_6 rfl ?_
      refine zi_icmpge (q := 140) (q2 := 29) dX12_beginAll_26 (by decide) rfl (fun hc => ?_) (fun hc => ?_)
      · replace h := (if_pos hc).symm.trans h
        exact rj_X12_beginAll_140 s.1 _ _ _ _ h KI
      · replace h := (if_neg hc).symm.trans h
        refine zi_aloadn (q := 30) dX12_beginAll_29 rfl rfl ?_
        refine zi_dup (q := 31) dX12_beginAll_30 rfl rfl ?_
        refine zi_getI (q := 34) dX12_beginAll_31 fl_12_334 (by decide) so_68 rfl ?_
        refine zi_iconst (q := 35) dX12_beginAll_34 ki_1 rfl ?_
        refine zi_iadd (q := 36) dX12_beginAll_35 rfl ?_
        refine zi_putI (q := 39) dX12_beginAll_36 pl_12_334 so_68 rfl ?_
        refine zi_aloadn (q := 40) dX12_beginAll_39 rfl rfl ?_
        refine zi_getA (q := 43) dX12_beginAll_40 fl_12_65 so_68 rfl rfl ?_
        refine zi_aloadn (q := 44) dX12_beginAll_43 rfl rfl ?_
        refine zi_getI (q := 47) dX12_beginAll_44 fl_12_212 (by decide) so_68 rfl ?_
        refine zi_aloadn (q := 48) dX12_beginAll_47 rfl rfl ?_
        refine zi_getI (q := 51) dX12_beginAll_48 fl_12_334 (by decide) so_68 rfl ?_
        obtain ⟨hz2, h⟩ := zg_some h
        refine zi_iast2 (q := 52) dX12_beginAll_51 so_87 (zin_vp hz2) rfl rfl ?_
        refine zi_aloadn (q := 53) dX12_beginAll_52 rfl rfl ?_
        refine zi_aloadn (q := 54) dX12_beginAll_53 rfl rfl ?_
        refine zi_getI (q := 57) dX12_beginAll_54 fl_12_212 (by decide) so_68 rfl ?_
        refine zi_iloadn (q := 58) dX12_beginAll_57 rfl rfl ?_
        obtain ⟨m3, hm3, h⟩ := Option.bind_eq_some_iff.mp h
        refine zc_V2 (q := 61) (st := []) (S1 := []) (r_X12_lay (s.2.1 68 27) s.1 _ m3 hm3) dX12_beginAll_58 cb_X12_lay k6_76 k6_78 ks_X12_lay ⟨by decide, by decide⟩ so_68 rfl rfl rfl (Nat.le_of_ble_eq_true rfl) (Or.inl rfl) rfl rfl ?_
        refine zi_aloadn (q := 62) dX12_beginAll_61 rfl rfl ?_
        refine zi_getA (q := 65) dX12_beginAll_62 fl_12_80 so_68 rfl rfl ?_
        refine zi_aloadn (q := 66) dX12_beginAll_65 rfl rfl ?_
        refine zi_getI (q := 69) dX12_beginAll_66 fl_12_212 (by decide) so_68 rfl ?_
        refine zi_iconst (q := 70) dX12_beginAll_69 ki_1 rfl ?_
        obtain ⟨hz4, h⟩ := zg_some h
        refine zi_iast2 (q := 71) dX12_beginAll_70 so_92 (zin_vp hz4) rfl rfl ?_
        refine zi_aloadn (q := 72) dX12_beginAll_71 rfl rfl ?_
        refine zi_getA (q := 75) dX12_beginAll_72 fl_12_83 so_68 rfl rfl ?_
        refine zi_aloadn (q := 76) dX12_beginAll_75 rfl rfl ?_
        refine zi_getI (q := 79) dX12_beginAll_76 fl_12_212 (by decide) so_68 rfl ?_
        refine zi_iconst (q := 80) dX12_beginAll_79 ki_0 rfl ?_
        obtain ⟨hz5, h⟩ := zg_some h
        refine zi_iast2 (q := 81) dX12_beginAll_80 so_93 (zin_vp hz5) rfl rfl ?_
        refine zi_aloadn (q := 82) dX12_beginAll_81 rfl rfl ?_
        refine zi_getA (q := 85) dX12_beginAll_82 fl_12_86 so_68 rfl rfl ?_
        refine zi_aloadn (q := 86) dX12_beginAll_85 rfl rfl ?_
        refine zi_getI (q := 89) dX12_beginAll_86 fl_12_212 (by decide) so_68 rfl ?_
        refine zi_iconst (q := 90) dX12_beginAll_89 ki_0 rfl ?_
        obtain ⟨hz6, h⟩ := zg_some h
        refine zi_iast2 (q := 91) dX12_beginAll_90 so_94 (zin_vp hz6) rfl rfl ?_
        refine zi_aloadn (q := 92) dX12_beginAll_91 rfl rfl ?_
        refine zi_getA (q := 95) dX12_beginAll_92 fl_12_89 so_68 rfl rfl ?_
        refine zi_aloadn (q := 96) dX12_beginAll_95 rfl rfl ?_
        refine zi_getI (q := 99) dX12_beginAll_96 fl_12_212 (by decide) so_68 rfl ?_
        refine zi_aloadn (q := 100) dX12_beginAll_99 rfl rfl ?_
        refine zi_getA (q := 103) dX12_beginAll_100 fl_12_50 so_68 rfl rfl ?_
        refine zi_iloadn (q := 104) dX12_beginAll_103 rfl rfl ?_
        obtain ⟨hz7, h⟩ := zg_some h
        refine zi_iald2 (q := 105) dX12_beginAll_104 so_82 (zin_vp hz7) rfl rfl ?_
        refine zi_aloadn (q := 106) dX12_beginAll_105 rfl rfl ?_
        refine zi_getA (q := 109) dX12_beginAll_106 fl_12_44 so_68 rfl rfl ?_
        refine zi_iconst (q := 110) dX12_beginAll_109 ki_3 rfl ?_
        refine zi_iald2 (q := 111) dX12_beginAll_110 so_80 vi_3_9 ix_3 rfl ?_
        refine zi_icmplt (q := 118) (q2 := 114) dX12_beginAll_111 (by decide) rfl (fun hc => ?_) (fun hc => ?_)
        · replace h := (if_pos hc).symm.trans h
          refine zi_iconst (q := 119) dX12_beginAll_118 ki_0 rfl ?_
          exact rj_X12_beginAll_119 s.1 0 (m3.1 68 27) _ _ _ _ h KI
        · replace h := (if_neg hc).symm.trans h
          refine zi_iconst (q := 115) dX12_beginAll_114 ki_1 rfl ?_
          refine zi_goto (q := 119) dX12_beginAll_115 (by decide) ?_
          exact rj_X12_beginAll_119 s.1 1 (m3.1 68 27) _ _ _ _ h KI
set_option maxRecDepth 20000 in
theorem r_X12_beginAll {E : Nat × (Nat → Int32)}  (m : zM) (x : zM) (h : f_X12_beginAll  m = some x) : zMet E zX12_beginAll [.ref 68] zSH m none zSH x := by
  refine zMet.of (L0 := [some (.ref 68), none]) rfl trivial (Nat.le_of_ble_eq_true rfl) rfl ?_
  unfold f_X12_beginAll at h
  refine zi_iconst (q := 1) dX12_beginAll_0 ki_0 rfl ?_
  refine zi_istoren (q := 2) (L' := [some (.ref 68), some (.int 0)]) dX12_beginAll_1 (by decide) rfl rfl rfl ?_
  obtain ⟨r11, hr11, h⟩ := Option.bind_eq_some_iff.mp h
  refine zloop_rn (P := fun w : (Int32 × zM) => Rn E zX12_beginAll 2 [some (.ref 68), some (.int w.1)] [] zSH w.2 none zSH x) (X := fun w : (zM) => Rn E zX12_beginAll 146 [none, none] [] zSH w none zSH x) (fun w w0 hb KI KX => rb_X12_beginAll_2  w _ _ w0 hb KI KX) zFU _ r11 hr11 ?_
  show Rn E zX12_beginAll 146 [none, none] [] zSH r11 none zSH x
  cases h
  exact zi_ret _ dX12_beginAll_146
