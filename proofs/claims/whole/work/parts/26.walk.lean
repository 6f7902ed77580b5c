set_option maxRecDepth 20000 in
theorem rj_X12_higher_80 {E : Nat × (Nat → Int32)} (x1 : Int32) (x3 : Int32) (s0 : Int32) (m : zM) (rv : Option Value) (m' : zM) (x : ((Int32 × Int32) ⊕ (Int32))) (h : j_X12_higher_80 x1 x3 s0 m = some x) (KI : ∀ s1 : (Int32 × Int32), x = .inl s1 → Rn E zX12_higher 4 [some (.ref 68), some (.int x1), some (.int s1.1), some (.int s1.2), none, none] [] zSH m rv zSH m') : Rn E zX12_higher 80 [some (.ref 68), some (.int x1), none, some (.int x3), none, none] [.int s0] zSH m rv zSH m' := by
  unfold j_X12_higher_80 at h
  refine zi_istoren (q := 81) (L' := [some (.ref 68), some (.int x1), some (.int s0), some (.int x3), none, none]) dX12_higher_80 (by decide) rfl rfl rfl ?_
  refine zi_iinc (q := 84) (v := x3 + 1) (L' := [some (.ref 68), some (.int x1), some (.int s0), some (.int (x3 + 1)), none, none]) dX12_higher_81 rfl (by rw [ki_1]) (by decide) rfl rfl rfl ?_
  refine zi_goto (q := 4) dX12_higher_84 (by decide) ?_
  exact KI (s0, (x3 + 1)) (Option.some.inj h).symm
set_option maxRecDepth 20000 in
theorem rj_X12_higher_67 {E : Nat × (Nat → Int32)} (x1 : Int32) (x2 : Int32) (x3 : Int32) (x4 : Int32) (s0 : Int32) (m : zM) (rv : Option Value) (m' : zM) (x : ((Int32 × Int32) ⊕ (Int32))) (h : j_X12_higher_67 x1 x2 x3 x4 s0 m = some x) (KI : ∀ s1 : (Int32 × Int32), x = .inl s1 → Rn E zX12_higher 4 [some (.ref 68), some (.int x1), some (.int s1.1), some (.int s1.2), none, none] [] zSH m rv zSH m') : Rn E zX12_higher 67 [some (.ref 68), some (.int x1), some (.int x2), some (.int x3), some (.int x4), none] [.int s0] zSH m rv zSH m' := by
  unfold j_X12_higher_67 at h
  refine zi_istore (q := 69) (L' := [some (.ref 68), some (.int x1), some (.int x2), some (.int x3), some (.int x4), some (.int s0)]) dX12_higher_67 (by decide) rfl rfl rfl ?_
  refine zi_iload (q := 71) dX12_higher_69 rfl rfl ?_
  refine zi_ifeq (q := 79) (q2 := 74) dX12_higher_71 (by decide) rfl (fun hc => ?_) (fun hc => ?_)
  · replace h := (if_pos hc).symm.trans h
    refine zi_iloadn (q := 80) dX12_higher_79 rfl rfl ?_
    refine Rn.weakm [true, true, false, true, false, false] ?_
    exact rj_X12_higher_80 x1 x3 x2 _ _ _ _ h KI
  · replace h := (if_neg hc).symm.trans h
    refine zi_iload (q := 76) dX12_higher_74 rfl rfl ?_
    refine zi_goto (q := 80) dX12_higher_76 (by decide) ?_
    refine Rn.weakm [true, true, false, true, false, false] ?_
    exact rj_X12_higher_80 x1 x3 x4 _ _ _ _ h KI
set_option maxRecDepth 20000 in
theorem rj_X12_higher_66 {E : Nat × (Nat → Int32)} (x1 : Int32) (x2 : Int32) (x3 : Int32) (x4 : Int32) (m : zM) (rv : Option Value) (m' : zM) (x : ((Int32 × Int32) ⊕ (Int32))) (h : j_X12_higher_66 x1 x2 x3 x4 m = some x) (KI : ∀ s1 : (Int32 × Int32), x = .inl s1 → Rn E zX12_higher 4 [some (.ref 68), some (.int x1), some (.int s1.1), some (.int s1.2), none, none] [] zSH m rv zSH m') : Rn E zX12_higher 66 [some (.ref 68), some (.int x1), some (.int x2), some (.int x3), some (.int x4), none] [] zSH m rv zSH m' := by
  unfold j_X12_higher_66 at h
  refine zi_iconst (q := 67) dX12_higher_66 ki_0 rfl ?_
  exact rj_X12_higher_67 x1 x2 x3 x4 0 _ _ _ _ h KI
set_option maxRecDepth 20000 in
theorem rj_X12_higher_62 {E : Nat × (Nat → Int32)} (x1 : Int32) (x2 : Int32) (x3 : Int32) (x4 : Int32) (m : zM) (rv : Option Value) (m' : zM) (x : ((Int32 × Int32) ⊕ (Int32))) (h : j_X12_higher_62 x1 x2 x3 x4 m = some x) (KI : ∀ s1 : (Int32 × Int32), x = .inl s1 → Rn E zX12_higher 4 [some (.ref 68), some (.int x1), some (.int s1.1), some (.int s1.2), none, none] [] zSH m rv zSH m') : Rn E zX12_higher 62 [some (.ref 68), some (.int x1), some (.int x2), some (.int x3), some (.int x4), none] [] zSH m rv zSH m' := by
  unfold j_X12_higher_62 at h
  refine zi_iconst (q := 63) dX12_higher_62 ki_1 rfl ?_
  refine zi_goto (q := 67) dX12_higher_63 (by decide) ?_
  exact rj_X12_higher_67 x1 x2 x3 x4 1 _ _ _ _ h KI
set_option maxRecDepth 20000 in
theorem rb_X12_higher_4 {E : Nat × (Nat → Int32)} (x1 : Int32) (m : zM) (s : (Int32 × Int32)) (rv : Option Value) (m' : zM) (x : ((Int32 × Int32) ⊕ (Int32))) (h : b_X12_higher_4 x1 m s = some x) (KI : ∀ s1 : (Int32 × Int32), x = .inl s1 → Rn E zX12_higher 4 [some (.ref 68), some (.int x1), some (.int s1.1), some (.int s1.2), none, none] [] zSH m rv zSH m') (KO : ∀ r1 : (Int32), x = .inr r1 → Rn E zX12_higher 87 [none, none, some (.int r1), none, none, none] [] zSH m rv zSH m') : Rn E zX12_higher 4 [some (.ref 68), some (.int x1), some (.int s.1), some (.int s.2), none, none] [] zSH m rv zSH m' := by
  unfold b_X12_higher_4 at h
  refine zi_iloadn (q := 5) dX12_higher_4 rfl rfl ?_
  refine zi_bipush (q := 7) dX12_higher_5 kb_8 rfl ?_
  refine zi_icmpge (q := 87) (q2 := 10) dX12_higher_7 (by decide) rfl (fun hc => ?_) (fun hc => ?_)
  · replace h := (if_pos hc).symm.trans h
    refine Rn.weakm [false, false, true, false, false, false] ?_
    exact KO s.1 (Option.some.inj h).symm
  · replace h := (if_neg hc).symm.trans h
    refine zi_aloadn (q := 11) dX12_higher_10 rfl rfl ?_
    refine zi_iloadn (q := 12) dX12_higher_11 rfl rfl ?_
    refine zi_iloadn (q := 13) dX12_higher_12 rfl rfl ?_
    obtain ⟨r1, hr1, h⟩ := Option.bind_eq_some_iff.mp h
    refine zc_V2 (q := 16) (st := []) (S1 := [.int r1]) (r_X12_beside x1 s.2 _ r1 hr1) dX12_higher_13 cb_X12_beside k5_222 k5_224 ks_X12_beside ⟨by decide, by decide⟩ so_68 rfl rfl rfl (Nat.le_of_ble_eq_true rfl) (Or.inl rfl) rfl rfl ?_
    refine zi_istore (q := 18) (L' := [some (.ref 68), some (.int x1), some (.int s.1), some (.int s.2), some (.int r1), none]) dX12_higher_16 (by decide) rfl rfl rfl ?_
    refine zi_iload (q := 20) dX12_higher_18 rfl rfl ?_
    refine zi_iconst (q := 21) dX12_higher_20 ki_m1 rfl ?_
    refine zi_icmpeq (q := 66) (q2 := 24) dX12_higher_21 (by decide) rfl (fun hc => ?_) (fun hc => ?_)
    · replace h := (if_pos hc).symm.trans h
      exact rj_X12_higher_66 x1 s.1 s.2 r1 _ _ _ _ h KI
    · replace h := (if_neg hc).symm.trans h
      refine zi_aloadn (q := 25) dX12_higher_24 rfl rfl ?_
      refine zi_getA (q := 28) dX12_higher_25 fl_12_22 so_68 rfl rfl ?_
      refine zi_iload (q := 30) dX12_higher_28 rfl rfl ?_
      obtain ⟨hz2, h⟩ := zg_some h
      refine zi_iald2 (q := 31) dX12_higher_30 so_73 (zin_vp hz2) rfl rfl ?_
      refine zi_aloadn (q := 32) dX12_higher_31 rfl rfl ?_
      refine zi_getA (q := 35) dX12_higher_32 fl_12_22 so_68 rfl rfl ?_
      refine zi_iloadn (q := 36) dX12_higher_35 rfl rfl ?_
      obtain ⟨hz3, h⟩ := zg_some h
      refine zi_iald2 (q := 37) dX12_higher_36 so_73 (zin_vp hz3) rfl rfl ?_
      refine zi_icmpgt (q := 62) (q2 := 40) dX12_higher_37 (by decide) rfl (fun hc => ?_) (fun hc => ?_)
      · replace h := (if_pos hc).symm.trans h
        exact rj_X12_higher_62 x1 s.1 s.2 r1 _ _ _ _ h KI
      · replace h := (if_neg hc).symm.trans h
        refine zi_aloadn (q := 41) dX12_higher_40 rfl rfl ?_
        refine zi_getA (q := 44) dX12_higher_41 fl_12_22 so_68 rfl rfl ?_
        refine zi_iload (q := 46) dX12_higher_44 rfl rfl ?_
        obtain ⟨hz4, h⟩ := zg_some h
        refine zi_iald2 (q := 47) dX12_higher_46 so_73 (zin_vp hz4) rfl rfl ?_
        refine zi_aloadn (q := 48) dX12_higher_47 rfl rfl ?_
        refine zi_getA (q := 51) dX12_higher_48 fl_12_22 so_68 rfl rfl ?_
        refine zi_iloadn (q := 52) dX12_higher_51 rfl rfl ?_
        obtain ⟨hz5, h⟩ := zg_some h
        refine zi_iald2 (q := 53) dX12_higher_52 so_73 (zin_vp hz5) rfl rfl ?_
        refine zi_icmpne (q := 66) (q2 := 56) dX12_higher_53 (by decide) rfl (fun hc => ?_) (fun hc => ?_)
        · replace h := (if_neg hc).symm.trans h
          exact rj_X12_higher_66 x1 s.1 s.2 r1 _ _ _ _ h KI
        · replace h := (if_pos hc).symm.trans h
          refine zi_iload (q := 58) dX12_higher_56 rfl rfl ?_
          refine zi_iloadn (q := 59) dX12_higher_58 rfl rfl ?_
          refine zi_icmpge (q := 66) (q2 := 62) dX12_higher_59 (by decide) rfl (fun hc => ?_) (fun hc => ?_)
          · replace h := (if_pos hc).symm.trans h
            exact rj_X12_higher_66 x1 s.1 s.2 r1 _ _ _ _ h KI
          · replace h := (if_neg hc).symm.trans h
            exact rj_X12_higher_62 x1 s.1 s.2 r1 _ _ _ _ h KI
set_option maxRecDepth 20000 in
theorem r_X12_higher {E : Nat × (Nat → Int32)} (x1 : Int32) (m : zM) (x : Int32) (h : f_X12_higher x1 m = some x) : zMet E zX12_higher [.ref 68, .int x1] zSH m (some (.int x)) zSH m := by
  refine zMet.of (L0 := [some (.ref 68), some (.int x1), none, none, none, none]) rfl rfl (Nat.le_of_ble_eq_true rfl) rfl ?_
  unfold f_X12_higher at h
  refine zi_iloadn (q := 1) dX12_higher_0 rfl rfl ?_
  refine zi_istoren (q := 2) (L' := [some (.ref 68), some (.int x1), some (.int x1), none, none, none]) dX12_higher_1 (by decide) rfl rfl rfl ?_
  refine zi_iconst (q := 3) dX12_higher_2 ki_0 rfl ?_
  refine zi_istoren (q := 4) (L' := [some (.ref 68), some (.int x1), some (.int x1), some (.int 0), none, none]) dX12_higher_3 (by decide) rfl rfl rfl ?_
  obtain ⟨r6, hr6, h⟩ := Option.bind_eq_some_iff.mp h
  refine zloop_rn (P := fun w : (Int32 × Int32) => Rn E zX12_higher 4 [some (.ref 68), some (.int x1), some (.int w.1), some (.int w.2), none, none] [] zSH m (some (.int x)) zSH m) (X := fun w : (Int32) => Rn E zX12_higher 87 [none, none, some (.int w), none, none, none] [] zSH m (some (.int x)) zSH m) (fun w w0 hb KI KX => rb_X12_higher_4 x1 m w _ _ w0 hb KI KX) zFU _ r6 hr6 ?_
  show Rn E zX12_higher 87 [none, none, some (.int r6), none, none, none] [] zSH m (some (.int x)) zSH m
  refine zi_iloadn (q := 88) dX12_higher_87 rfl rfl ?_
  cases h
  exact zi_ret _ dX12_higher_88
set_option maxRecDepth 20000 in
theorem rb_X12_layTops_12 {E : Nat × (Nat → Int32)} (x1 : Int32) (m : zM) (s : (Int32)) (rv : Option Value) (m' : zM) (x : ((Int32) ⊕ (Int32))) (h : b_X12_layTops_12 x1 m s = some x) (KI : ∀ s1 : (Int32), x = .inl s1 → Rn E zX12_layTops 12 [some (.ref 68), some (.int x1), some (.int s1)] [] zSH m rv zSH m') (KO : ∀ r1 : (Int32), x = .inr r1 → Rn E zX12_layTops 30 [some (.ref 68), some (.int x1), some (.int r1)] [] zSH m rv zSH m') : Rn E zX12_layTops 12 [some (.ref 68), some (.int x1), some (.int s)] [] zSH m rv zSH m' := by
  unfold b_X12_layTops_12 at h
  refine zi_aloadn (q := 13) dX12_layTops_12 rfl rfl ?_
  refine zi_iloadn (q := 14) dX12_layTops_13 rfl rfl ?_
  obtain ⟨r2, hr2, h⟩ := Option.bind_eq_some_iff.mp h
  refine zc_V2 (q := 17) (st := []) (S1 := [.int r2]) (r_X12_higher s _ r2 hr2) dX12_layTops_14 cb_X12_higher k5_234 k5_236 ks_X12_higher ⟨by decide, by decide⟩ so_68 rfl rfl rfl (Nat.le_of_ble_eq_true rfl) (Or.inl rfl) rfl rfl ?_
  refine zi_iloadn (q := 18) dX12_layTops_17 rfl rfl ?_
  refine zi_icmpeq (q := 30) (q2 := 21) dX12_layTops_18 (by decide) rfl (fun hc => ?_) (fun hc => ?_)
  · replace h := (if_pos hc).symm.trans h
    exact KO s (Option.some.inj h).symm
  · replace h := (if_neg hc).symm.trans h
    refine zi_aloadn (q := 22) dX12_layTops_21 rfl rfl ?_
    refine zi_iloadn (q := 23) dX12_layTops_22 rfl rfl ?_
    obtain ⟨r3, hr3, h⟩ := Option.bind_eq_some_iff.mp h
    refine zc_V2 (q := 26) (st := []) (S1 := [.int r3]) (r_X12_higher s _ r3 hr3) dX12_layTops_23 cb_X12_higher k5_234 k5_236 ks_X12_higher ⟨by decide, by decide⟩ so_68 rfl rfl rfl (Nat.le_of_ble_eq_true rfl) (Or.inl rfl) rfl rfl ?_
    refine zi_istoren (q := 27) (L' := [some (.ref 68), some (.int x1), some (.int r3)]) dX12_layTops_26 (by decide) rfl rfl rfl ?_
    refine zi_goto (q := 12) dX12_layTops_27 (by decide) ?_
    exact KI r3 (Option.some.inj h).symm
set_option maxRecDepth 20000 in
theorem rj_X12_layTops_48 {E : Nat × (Nat → Int32)} (x1 : Int32) (s0 : Int32) (s1 : Int32) (m : zM) (rv : Option Value) (m' : zM) (x : ((Int32 × zM) ⊕ (zM))) (h : j_X12_layTops_48 x1 s0 s1 m = some x) (KI : ∀ s1 : (Int32 × zM), x = .inl s1 → Rn E zX12_layTops 2 [some (.ref 68), some (.int s1.1), none] [] zSH s1.2 rv zSH m') : Rn E zX12_layTops 48 [some (.ref 68), some (.int x1), none] [.int s0, .int s1, .ref 100] zSH m rv zSH m' := by
  unfold j_X12_layTops_48 at h
  obtain ⟨hz6, h⟩ := zg_some h
  refine zi_iast2 (q := 49) dX12_layTops_48 so_100 (zin_vp hz6) rfl rfl ?_
  refine zi_iinc (q := 52) (v := x1 + 1) (L' := [some (.ref 68), some (.int (x1 + 1)), none]) dX12_layTops_49 rfl (by rw [ki_1]) (by decide) rfl rfl rfl ?_
  refine zi_goto (q := 2) dX12_layTops_52 (by decide) ?_
  exact KI ((x1 + 1), (zi m 100 s1.toNatClampNeg s0)) (Option.some.inj h).symm
set_option maxRecDepth 20000 in
theorem rb_X12_layTops_2 {E : Nat × (Nat → Int32)}   (s : (Int32 × zM)) (rv : Option Value) (m' : zM) (x : ((Int32 × zM) ⊕ (zM))) (h : b_X12_layTops_2  s = some x) (KI : ∀ s1 : (Int32 × zM), x = .inl s1 → Rn E zX12_layTops 2 [some (.ref 68), some (.int s1.1), none] [] zSH s1.2 rv zSH m') (KO : ∀ r1 : (zM), x = .inr r1 → Rn E zX12_layTops 55 [none, none, none] [] zSH r1 rv zSH m') : Rn E zX12_layTops 2 [some (.ref 68), some (.int s.1), none] [] zSH s.2 rv zSH m' := by
  unfold b_X12_layTops_2 at h
  refine zi_iloadn (q := 3) dX12_layTops_2 rfl rfl ?_
  refine zi_aloadn (q := 4) dX12_layTops_3 rfl rfl ?_
  obtain ⟨r1, hr1, h⟩ := Option.bind_eq_some_iff.mp h
  refine zc_V2 (q := 7) (st := [.int s.1]) (S1 := [.int r1, .int s.1]) (r_X12_cells  _ r1 hr1) dX12_layTops_4 cb_X12_cells k5_138 k5_140 ks_X12_cells ⟨by decide, by decide⟩ so_68 rfl rfl rfl (Nat.le_of_ble_eq_true rfl) (Or.inl rfl) rfl rfl ?_
  refine zi_icmpge (q := 55) (q2 := 10) dX12_layTops_7 (by decide) rfl (fun hc => ?_) (fun hc => ?_)
  · replace h := (if_pos hc).symm.trans h
    refine Rn.weakm [false, false, false] ?_
    exact KO s.2 (Option.some.inj h).symm
  · replace h := (if_neg hc).symm.trans h
    refine zi_iloadn (q := 11) dX12_layTops_10 rfl rfl ?_
    refine zi_istoren (q := 12) (L' := [some (.ref 68), some (.int s.1), some (.int s.1)]) dX12_layTops_11 (by decide) rfl rfl rfl ?_
    obtain ⟨r4, hr4, h⟩ := Option.bind_eq_some_iff.mp h
    refine zloop_rn (P := fun w : (Int32) => Rn E zX12_layTops 12 [some (.ref 68), some (.int s.1), some (.int w)] [] zSH s.2 rv zSH m') (X := fun w : (Int32) => Rn E zX12_layTops 30 [some (.ref 68), some (.int s.1), some (.int w)] [] zSH s.2 rv zSH m') (fun w w0 hb KI KX => rb_X12_layTops_12 s.1 s.2 w _ _ w0 hb KI KX) zFU _ r4 hr4 ?_
    show Rn E zX12_layTops 30 [some (.ref 68), some (.int s.1), some (.int r4)] [] zSH s.2 rv zSH m'
    refine zi_aloadn (q := 31) dX12_layTops_30 rfl rfl ?_
    refine zi_getA (q := 34) dX12_layTops_31 fl_12_104 so_68 rfl rfl ?_
    refine zi_iloadn (q := 35) dX12_layTops_34 rfl rfl ?_
    refine zi_aloadn (q := 36) dX12_layTops_35 rfl rfl ?_
    refine zi_iloadn (q := 37) dX12_layTops_36 rfl rfl ?_
    obtain ⟨r5, hr5, h⟩ := Option.bind_eq_some_iff.mp h
    refine zc_V2 (q := 40) (st := [.int s.1, .ref 100]) (S1 := [.int (bi r5), .int s.1, .ref 100]) (r_X12_isTouched s.1 _ r5 hr5) dX12_layTops_37 cb_X12_isTouched k5_218 k5_220 ks_X12_isTouched ⟨by decide, by decide⟩ so_68 rfl rfl rfl (Nat.le_of_ble_eq_true rfl) (Or.inl rfl) rfl rfl ?_
    refine zi_ifeq (q := 47) (q2 := 43) dX12_layTops_40 (by decide) rfl (fun hc => ?_) (fun hc => ?_)
    · replace h := (if_pos hc).symm.trans h
      refine zi_iconst (q := 48) dX12_layTops_47 ki_m1 rfl ?_
      refine Rn.weakm [true, true, false] ?_
      exact rj_X12_layTops_48 s.1 (-1) s.1 _ _ _ _ h KI
    · replace h := (if_neg hc).symm.trans h
      refine zi_iloadn (q := 44) dX12_layTops_43 rfl rfl ?_
      refine zi_goto (q := 48) dX12_layTops_44 (by decide) ?_
      refine Rn.weakm [true, true, false] ?_
      exact rj_X12_layTops_48 s.1 r4 s.1 _ _ _ _ h KI
set_option maxRecDepth 20000 in
theorem r_X12_layTops {E : Nat × (Nat → Int32)}  (m : zM) (x : zM) (h : f_X12_layTops  m = some x) : zMet E zX12_layTops [.ref 68] zSH m none zSH x := by
  refine zMet.of (L0 := [some (.ref 68), none, none]) rfl trivial (Nat.le_of_ble_eq_true rfl) rfl ?_
  unfold f_X12_layTops at h
  refine zi_iconst (q := 1) dX12_layTops_0 ki_0 rfl ?_
  refine zi_istoren (q := 2) (L' := [some (.ref 68), some (.int 0), none]) dX12_layTops_1 (by decide) rfl rfl rfl ?_
  obtain ⟨r7, hr7, h⟩ := Option.bind_eq_some_iff.mp h
  refine zloop_rn (P := fun w : (Int32 × zM) => Rn E zX12_layTops 2 [some (.ref 68), some (.int w.1), none] [] zSH w.2 none zSH x) (X := fun w : (zM) => Rn E zX12_layTops 55 [none, none, none] [] zSH w none zSH x) (fun w w0 hb KI KX => rb_X12_layTops_2  w _ _ w0 hb KI KX) zFU _ r7 hr7 ?_
  show Rn E zX12_layTops 55 [none, none, none] [] zSH r7 none zSH x
  cases h
  exact zi_ret _ dX12_layTops_55
set_option maxRecDepth 20000 in
theorem r_X12_isTop {E : Nat × (Nat → Int32)} (x1 : Int32) (m : zM) (x : Bool) (h : f_X12_isTop x1 m = some x) : zMet E zX12_isTop [.ref 68, .int x1] zSH m (some (.int (bi x))) zSH m := by
  refine zMet.of (L0 := [some (.ref 68), some (.int x1)]) rfl (zfit_bi _) (Nat.le_of_ble_eq_true rfl) rfl ?_
  unfold f_X12_isTop at h
  refine zi_aloadn (q := 1) dX12_isTop_0 rfl rfl ?_
  refine zi_getA (q := 4) dX12_isTop_1 fl_12_104 so_68 rfl rfl ?_
  refine zi_iloadn (q := 5) dX12_isTop_4 rfl rfl ?_
  obtain ⟨hz1, h⟩ := zg_some h
  refine zi_iald2 (q := 6) dX12_isTop_5 so_100 (zin_vp hz1) rfl rfl ?_
  refine zi_iloadn (q := 7) dX12_isTop_6 rfl rfl ?_
  refine zi_icmpne (q := 14) (q2 := 10) dX12_isTop_7 (by decide) rfl (fun hc => ?_) (fun hc => ?_)
  · replace h := (if_neg hc).symm.trans h
    refine zi_iconst (q := 15) dX12_isTop_14 ki_0 rfl ?_
    cases h
    exact zi_ret _ dX12_isTop_15
  · replace h := (if_pos hc).symm.trans h
    refine zi_iconst (q := 11) dX12_isTop_10 ki_1 rfl ?_
    refine zi_goto (q := 15) dX12_isTop_11 (by decide) ?_
    cases h
    exact zi_ret _ dX12_isTop_15
set_option maxRecDepth 20000 in
theorem r_X12_lesser {E : Nat × (Nat → Int32)} (x0 : Int32) (x1 : Int32) (m : zM) (x : Int32) (h : f_X12_lesser x0 x1 m = some x) : zMet E zX12_lesser [.int x0, .int x1] zSH m (some (.int x)) zSH m := by
  refine zMet.of (L0 := [some (.int x0), some (.int x1)]) rfl rfl (Nat.le_of_ble_eq_true rfl) rfl ?_
  unfold f_X12_lesser at h
  refine zi_iloadn (q := 1) dX12_lesser_0 rfl rfl ?_
  refine zi_iloadn (q := 2) dX12_lesser_1 rfl rfl ?_
  refine zi_icmpge (q := 9) (q2 := 5) dX12_lesser_2 (by decide) rfl (fun hc => ?_) (fun hc => ?_)
  · replace h := (if_pos hc).symm.trans h
    refine zi_iloadn (q := 10) dX12_lesser_9 rfl rfl ?_
    cases h
    exact zi_ret _ dX12_lesser_10
  · replace h := (if_neg hc).symm.trans h
    refine zi_iloadn (q := 6) dX12_lesser_5 rfl rfl ?_
    refine zi_goto (q := 10) dX12_lesser_6 (by decide) ?_
    cases h
    exact zi_ret _ dX12_lesser_10
set_option maxRecDepth 20000 in
theorem r_X12_isJoined {E : Nat × (Nat → Int32)} (x1 : Int32) (x2 : Int32) (x3 : Int32) (m : zM) (x : Bool) (h : f_X12_isJoined x1 x2 x3 m = some x) : zMet E zX12_isJoined [.ref 68, .int x1, .int x2, .int x3] zSH m (some (.int (bi x))) zSH m := by
  refine zMet.of (L0 := [some (.ref 68), some (.int x1), some (.int x2), some (.int x3)]) rfl (zfit_bi _) (Nat.le_of_ble_eq_true rfl) rfl ?_
  unfold f_X12_isJoined at h
  refine zi_iloadn (q := 1) dX12_isJoined_0 rfl rfl ?_
  refine zi_ldcw (q := 4) dX12_isJoined_1 k5_213 rfl ?_
  refine zi_icmple (q := 40) (q2 := 7) dX12_isJoined_4 (by decide) rfl (fun hc => ?_) (fun hc => ?_)
  · replace h := (if_pos hc).symm.trans h
    refine zi_iconst (q := 41) dX12_isJoined_40 ki_0 rfl ?_
    cases h
    exact zi_ret _ dX12_isJoined_41
  · replace h := (if_neg hc).symm.trans h
    refine zi_bipush (q := 9) dX12_isJoined_7 kb_100 rfl ?_
    refine zi_iloadn (q := 10) dX12_isJoined_9 rfl rfl ?_
    refine zi_imul (q := 11) dX12_isJoined_10 rfl ?_
    refine zi_aloadn (q := 12) dX12_isJoined_11 rfl rfl ?_
    refine zi_getA (q := 15) dX12_isJoined_12 fl_12_44 so_68 rfl rfl ?_
    refine zi_iconst (q := 16) dX12_isJoined_15 ki_2 rfl ?_
    refine zi_iald2 (q := 17) dX12_isJoined_16 so_80 vi_2_9 ix_2 rfl ?_
    refine zi_aloadn (q := 18) dX12_isJoined_17 rfl rfl ?_
    refine zi_getA (q := 21) dX12_isJoined_18 fl_12_22 so_68 rfl rfl ?_
    refine zi_iloadn (q := 22) dX12_isJoined_21 rfl rfl ?_
    obtain ⟨hz1, h⟩ := zg_some h
    refine zi_iald2 (q := 23) dX12_isJoined_22 so_73 (zin_vp hz1) rfl rfl ?_
    refine zi_aloadn (q := 24) dX12_isJoined_23 rfl rfl ?_
    refine zi_getA (q := 27) dX12_isJoined_24 fl_12_22 so_68 rfl rfl ?_
    refine zi_iloadn (q := 28) dX12_isJoined_27 rfl rfl ?_
    obtain ⟨hz2, h⟩ := zg_some h
    refine zi_iald2 (q := 29) dX12_isJoined_28 so_73 (zin_vp hz2) rfl rfl ?_
    obtain ⟨r3, hr3, h⟩ := Option.bind_eq_some_iff.mp h
    refine zc_S2 (q := 32) (st := [.int (m.1 80 2), .int (100 * x3)]) (S1 := [.int r3, .int (m.1 80 2), .int (100 * x3)]) (r_X12_lesser (m.1 73 x1.toNatClampNeg) (m.1 73 x2.toNatClampNeg) _ r3 hr3) dX12_isJoined_29 cb_X12_lesser k6_10 k6_11 ⟨by decide, by decide⟩ rfl (Nat.le_of_ble_eq_true rfl) (Or.inl rfl) rfl rfl ?_
    refine zi_imul (q := 33) dX12_isJoined_32 rfl ?_
    refine zi_icmplt (q := 40) (q2 := 36) dX12_isJoined_33 (by decide) rfl (fun hc => ?_) (fun hc => ?_)
    · replace h := (if_pos hc).symm.trans h
      refine zi_iconst (q := 41) dX12_isJoined_40 ki_0 rfl ?_
      cases h
      exact zi_ret _ dX12_isJoined_41
    · replace h := (if_neg hc).symm.trans h
      refine zi_iconst (q := 37) dX12_isJoined_36 ki_1 rfl ?_
      refine zi_goto (q := 41) dX12_isJoined_37 (by decide) ?_
      cases h
      exact zi_ret _ dX12_isJoined_41
set_option maxRecDepth 20000 in
theorem rj_X12_passOf_101 {E : Nat × (Nat → Int32)} (x1 : Int32) (x2 : Int32) (x4 : Int32) (x5 : Int32) (s0 : Int32) (m : zM) (rv : Option Value) (m' : zM) (x : ((Int32 × Int32) ⊕ (Int32))) (h : j_X12_passOf_101 x1 x2 x4 x5 s0 m = some x) (KI : ∀ s1 : (Int32 × Int32), x = .inl s1 → Rn E zX12_passOf 19 [some (.ref 68), some (.int x1), some (.int x2), some (.int s1.1), some (.int x4), some (.int s1.2), none, none] [] zSH m rv zSH m') : Rn E zX12_passOf 101 [some (.ref 68), some (.int x1), some (.int x2), none, some (.int x4), some (.int x5), none, none] [.int s0] zSH m rv zSH m' := by
  unfold j_X12_passOf_101 at h
  refine zi_istoren (q := 102) (L' := [some (.ref 68), some (.int x1), some (.int x2), some (.int s0), some (.int x4), some (.int x5), none, none]) dX12_passOf_101 (by decide) rfl rfl rfl ?_
  refine zi_iinc (q := 105) (v := x5 + 1) (L' := [some (.ref 68), some (.int x1), some (.int x2), some (.int s0), some (.int x4), some (.int (x5 + 1)), none, none]) dX12_passOf_102 rfl (by rw [ki_1]) (by decide) rfl rfl rfl ?_
  refine zi_goto (q := 19) dX12_passOf_105 (by decide) ?_
  exact KI (s0, (x5 + 1)) (Option.some.inj h).symm
set_option maxRecDepth 20000 in
theorem rj_X12_passOf_87 {E : Nat × (Nat → Int32)} (x1 : Int32) (x2 : Int32) (x3 : Int32) (x4 : Int32) (x5 : Int32) (s0 : Int32) (m : zM) (rv : Option Value) (m' : zM) (x : ((Int32 × Int32) ⊕ (Int32))) (h : j_X12_passOf_87 x1 x2 x3 x4 x5 s0 m = some x) (KI : ∀ s1 : (Int32 × Int32), x = .inl s1 → Rn E zX12_passOf 19 [some (.ref 68), some (.int x1), some (.int x2), some (.int s1.1), some (.int x4), some (.int s1.2), none, none] [] zSH m rv zSH m') : Rn E zX12_passOf 87 [some (.ref 68), some (.int x1), some (.int x2), some (.int x3), some (.int x4), some (.int x5), none, none] [.int s0] zSH m rv zSH m' := by
  unfold j_X12_passOf_87 at h
  refine zi_istore (q := 89) (L' := [some (.ref 68), some (.int x1), some (.int x2), some (.int x3), some (.int x4), some (.int x5), none, some (.int s0)]) dX12_passOf_87 (by decide) rfl rfl rfl ?_
  refine zi_iload (q := 91) dX12_passOf_89 rfl rfl ?_
  refine zi_iloadn (q := 92) dX12_passOf_91 rfl rfl ?_
  refine zi_icmple (q := 100) (q2 := 95) dX12_passOf_92 (by decide) rfl (fun hc => ?_) (fun hc => ?_)
  · replace h := (if_pos hc).symm.trans h
    refine zi_iloadn (q := 101) dX12_passOf_100 rfl rfl ?_
    refine Rn.weakm [true, true, true, false, true, true, false, false] ?_
    exact rj_X12_passOf_101 x1 x2 x4 x5 x3 _ _ _ _ h KI
  · replace h := (if_neg hc).symm.trans h
    refine zi_iload (q := 97) dX12_passOf_95 rfl rfl ?_
    refine zi_goto (q := 101) dX12_passOf_97 (by decide) ?_
    refine Rn.weakm [true, true, true, false, true, true, false, false] ?_
    exact rj_X12_passOf_101 x1 x2 x4 x5 s0 _ _ _ _ h KI
set_option maxRecDepth 20000 in
theorem rj_X12_passOf_84 {E : Nat × (Nat → Int32)} (x1 : Int32) (x2 : Int32) (x3 : Int32) (x4 : Int32) (x5 : Int32) (m : zM) (rv : Option Value) (m' : zM) (x : ((Int32 × Int32) ⊕ (Int32))) (h : j_X12_passOf_84 x1 x2 x3 x4 x5 m = some x) (KI : ∀ s1 : (Int32 × Int32), x = .inl s1 → Rn E zX12_passOf 19 [some (.ref 68), some (.int x1), some (.int x2), some (.int s1.1), some (.int x4), some (.int s1.2), none, none] [] zSH m rv zSH m') : Rn E zX12_passOf 84 [some (.ref 68), some (.int x1), some (.int x2), some (.int x3), some (.int x4), some (.int x5), none, none] [] zSH m rv zSH m' := by
  unfold j_X12_passOf_84 at h
  refine zi_ldcw (q := 87) dX12_passOf_84 k5_213 rfl ?_
  exact rj_X12_passOf_87 x1 x2 x3 x4 x5 (-268435456) _ _ _ _ h KI
set_option maxRecDepth 20000 in
theorem rb_X12_passOf_19 {E : Nat × (Nat → Int32)} (x1 : Int32) (x2 : Int32) (x4 : Int32) (m : zM) (s : (Int32 × Int32)) (rv : Option Value) (m' : zM) (x : ((Int32 × Int32) ⊕ (Int32))) (h : b_X12_passOf_19 x1 x2 x4 m s = some x) (KI : ∀ s1 : (Int32 × Int32), x = .inl s1 → Rn E zX12_passOf 19 [some (.ref 68), some (.int x1), some (.int x2), some (.int s1.1), some (.int x4), some (.int s1.2), none, none] [] zSH m rv zSH m') (KO : ∀ r1 : (Int32), x = .inr r1 → Rn E zX12_passOf 108 [some (.ref 68), some (.int x1), some (.int x2), some (.int r1), some (.int x4), none, none, none] [] zSH m rv zSH m') : Rn E zX12_passOf 19 [some (.ref 68), some (.int x1), some (.int x2), some (.int s.1), some (.int x4), some (.int s.2), none, none] [] zSH m rv zSH m' := by
  unfold b_X12_passOf_19 at h
  refine zi_iload (q := 21) dX12_passOf_19 rfl rfl ?_
  refine zi_bipush (q := 23) dX12_passOf_21 kb_8 rfl ?_
  refine zi_icmpge (q := 108) (q2 := 26) dX12_passOf_23 (by decide) rfl (fun hc => ?_) (fun hc => ?_)
  · replace h := (if_pos hc).symm.trans h
    refine Rn.weakm [true, true, true, true, true, false, false, false] ?_
    exact KO s.1 (Option.some.inj h).symm
  · replace h := (if_neg hc).symm.trans h
    refine zi_aloadn (q := 27) dX12_passOf_26 rfl rfl ?_
    refine zi_getA (q := 30) dX12_passOf_27 fl_12_104 so_68 rfl rfl ?_
    refine zi_iload (q := 32) dX12_passOf_30 rfl rfl ?_
    obtain ⟨hz2, h⟩ := zg_some h
    refine zi_iald2 (q := 33) dX12_passOf_32 so_100 (zin_vp hz2) rfl rfl ?_
    refine zi_iloadn (q := 34) dX12_passOf_33 rfl rfl ?_
    refine zi_icmpne (q := 108) (q2 := 37) dX12_passOf_34 (by decide) rfl (fun hc => ?_) (fun hc => ?_)
    · replace h := (if_neg hc).symm.trans h
      refine Rn.weakm [true, true, true, true, true, false, false, false] ?_
      exact KO s.1 (Option.some.inj h).symm
    · replace h := (if_pos hc).symm.trans h
      refine zi_aloadn (q := 38) dX12_passOf_37 rfl rfl ?_
      refine zi_iload (q := 40) dX12_passOf_38 rfl rfl ?_
      refine zi_iload (q := 42) dX12_passOf_40 rfl rfl ?_
      obtain ⟨r3, hr3, h⟩ := Option.bind_eq_some_iff.mp h
      refine zc_V2 (q := 45) (st := []) (S1 := [.int r3]) (r_X12_beside x4 s.2 _ r3 hr3) dX12_passOf_42 cb_X12_beside k5_222 k5_224 ks_X12_beside ⟨by decide, by decide⟩ so_68 rfl rfl rfl (Nat.le_of_ble_eq_true rfl) (Or.inl rfl) rfl rfl ?_
      refine zi_istore (q := 47) (L' := [some (.ref 68), some (.int x1), some (.int x2), some (.int s.1), some (.int x4), some (.int s.2), some (.int r3), none]) dX12_passOf_45 (by decide) rfl rfl rfl ?_
      refine zi_iload (q := 49) dX12_passOf_47 rfl rfl ?_
      refine zi_iconst (q := 50) dX12_passOf_49 ki_m1 rfl ?_
      refine zi_icmpeq (q := 84) (q2 := 53) dX12_passOf_50 (by decide) rfl (fun hc => ?_) (fun hc => ?_)
      · replace h := (if_pos hc).symm.trans h
        refine Rn.weakm [true, true, true, true, true, true, false, false] ?_
        exact rj_X12_passOf_84 x1 x2 s.1 x4 s.2 _ _ _ _ h KI
      · replace h := (if_neg hc).symm.trans h
        refine zi_aloadn (q := 54) dX12_passOf_53 rfl rfl ?_
        refine zi_getA (q := 57) dX12_passOf_54 fl_12_104 so_68 rfl rfl ?_
        refine zi_iload (q := 59) dX12_passOf_57 rfl rfl ?_
        obtain ⟨hz4, h⟩ := zg_some h
        refine zi_iald2 (q := 60) dX12_passOf_59 so_100 (zin_vp hz4) rfl rfl ?_
        refine zi_iloadn (q := 61) dX12_passOf_60 rfl rfl ?_
        refine zi_icmpne (q := 84) (q2 := 64) dX12_passOf_61 (by decide) rfl (fun hc => ?_) (fun hc => ?_)
        · replace h := (if_neg hc).symm.trans h
          refine Rn.weakm [true, true, true, true, true, true, false, false] ?_
          exact rj_X12_passOf_84 x1 x2 s.1 x4 s.2 _ _ _ _ h KI
        · replace h := (if_pos hc).symm.trans h
          refine zi_aloadn (q := 65) dX12_passOf_64 rfl rfl ?_
          refine zi_getA (q := 68) dX12_passOf_65 fl_12_22 so_68 rfl rfl ?_
          refine zi_iload (q := 70) dX12_passOf_68 rfl rfl ?_
          obtain ⟨hz5, h⟩ := zg_some h
          refine zi_iald2 (q := 71) dX12_passOf_70 so_73 (zin_vp hz5) rfl rfl ?_
          refine zi_aloadn (q := 72) dX12_passOf_71 rfl rfl ?_
          refine zi_getA (q := 75) dX12_passOf_72 fl_12_22 so_68 rfl rfl ?_
          refine zi_iload (q := 77) dX12_passOf_75 rfl rfl ?_
          obtain ⟨hz6, h⟩ := zg_some h
          refine zi_iald2 (q := 78) dX12_passOf_77 so_73 (zin_vp hz6) rfl rfl ?_
          obtain ⟨r7, hr7, h⟩ := Option.bind_eq_some_iff.mp h
          refine zc_S2 (q := 81) (st := []) (S1 := [.int r7]) (r_X12_lesser (m.1 73 x4.toNatClampNeg) (m.1 73 r3.toNatClampNeg) _ r7 hr7) dX12_passOf_78 cb_X12_lesser k6_10 k6_11 ⟨by decide, by decide⟩ rfl (Nat.le_of_ble_eq_true rfl) (Or.inl rfl) rfl rfl ?_
          refine zi_goto (q := 87) dX12_passOf_81 (by decide) ?_
          refine Rn.weakm [true, true, true, true, true, true, false, false] ?_
          exact rj_X12_passOf_87 x1 x2 s.1 x4 s.2 r7 _ _ _ _ h KI
set_option maxRecDepth 20000 in
theorem rj_X12_passOf_108 {E : Nat × (Nat → Int32)} (x1 : Int32) (x2 : Int32) (x3 : Int32) (x4 : Int32) (m : zM) (rv : Option Value) (m' : zM) (x : ((Int32 × Int32) ⊕ (Int32))) (h : j_X12_passOf_108 x1 x2 x3 x4 m = some x) (KI : ∀ s1 : (Int32 × Int32), x = .inl s1 → Rn E zX12_passOf 7 [some (.ref 68), some (.int x1), some (.int x2), some (.int s1.1), some (.int s1.2), none, none, none] [] zSH m rv zSH m') : Rn E zX12_passOf 108 [some (.ref 68), some (.int x1), some (.int x2), some (.int x3), some (.int x4), none, none, none] [] zSH m rv zSH m' := by
  unfold j_X12_passOf_108 at h
  refine zi_iinc (q := 111) (v := x4 + 1) (L' := [some (.ref 68), some (.int x1), some (.int x2), some (.int x3), some (.int (x4 + 1)), none, none, none]) dX12_passOf_108 rfl (by rw [ki_1]) (by decide) rfl rfl rfl ?_
  refine zi_goto (q := 7) dX12_passOf_111 (by decide) ?_
  exact KI (x3, (x4 + 1)) (Option.some.inj h).symm
set_option maxRecDepth 20000 in
theorem rb_X12_passOf_7 {E : Nat × (Nat → Int32)} (x1 : Int32) (x2 : Int32) (m : zM) (s : (Int32 × Int32)) (rv : Option Value) (m' : zM) (x : ((Int32 × Int32) ⊕ (Int32))) (h : b_X12_passOf_7 x1 x2 m s = some x) (KI : ∀ s1 : (Int32 × Int32), x = .inl s1 → Rn E zX12_passOf 7 [some (.ref 68), some (.int x1), some (.int x2), some (.int s1.1), some (.int s1.2), none, none, none] [] zSH m rv zSH m') (KO : ∀ r1 : (Int32), x = .inr r1 → Rn E zX12_passOf 114 [none, none, none, some (.int r1), none, none, none, none] [] zSH m rv zSH m') : Rn E zX12_passOf 7 [some (.ref 68), some (.int x1), some (.int x2), some (.int s.1), some (.int s.2), none, none, none] [] zSH m rv zSH m' := by
  unfold b_X12_passOf_7 at h
  refine zi_iload (q := 9) dX12_passOf_7 rfl rfl ?_
  refine zi_aloadn (q := 10) dX12_passOf_9 rfl rfl ?_
  obtain ⟨r1, hr1, h⟩ := Option.bind_eq_some_iff.mp h
  refine zc_V2 (q := 13) (st := [.int s.2]) (S1 := [.int r1, .int s.2]) (r_X12_cells  _ r1 hr1) dX12_passOf_10 cb_X12_cells k5_138 k5_140 ks_X12_cells ⟨by decide, by decide⟩ so_68 rfl rfl rfl (Nat.le_of_ble_eq_true rfl) (Or.inl rfl) rfl rfl ?_
  refine zi_icmpge (q := 114) (q2 := 16) dX12_passOf_13 (by decide) rfl (fun hc => ?_) (fun hc => ?_)
  · replace h := (if_pos hc).symm.trans h
    refine Rn.weakm [false, false, false, true, false, false, false, false] ?_
    exact KO s.1 (Option.some.inj h).symm
  · replace h := (if_neg hc).symm.trans h
    refine zi_iconst (q := 17) dX12_passOf_16 ki_0 rfl ?_
    refine zi_istore (q := 19) (L' := [some (.ref 68), some (.int x1), some (.int x2), some (.int s.1), some (.int s.2), some (.int 0), none, none]) dX12_passOf_17 (by decide) rfl rfl rfl ?_
    obtain ⟨r8, hr8, h⟩ := Option.bind_eq_some_iff.mp h
    refine zloop_rn (P := fun w : (Int32 × Int32) => Rn E zX12_passOf 19 [some (.ref 68), some (.int x1), some (.int x2), some (.int w.1), some (.int s.2), some (.int w.2), none, none] [] zSH m rv zSH m') (X := fun w : (Int32) => Rn E zX12_passOf 108 [some (.ref 68), some (.int x1), some (.int x2), some (.int w), some (.int s.2), none, none, none] [] zSH m rv zSH m') (fun w w0 hb KI KX => rb_X12_passOf_19 x1 x2 s.2 m w _ _ w0 hb KI KX) zFU _ r8 hr8 ?_
    show Rn E zX12_passOf 108 [some (.ref 68), some (.int x1), some (.int x2), some (.int r8), some (.int s.2), none, none, none] [] zSH m rv zSH m'
    exact rj_X12_passOf_108 x1 x2 r8 s.2 _ _ _ _ h KI
set_option maxRecDepth 20000 in
theorem r_X12_passOf {E : Nat × (Nat → Int32)} (x1 : Int32) (x2 : Int32) (m : zM) (x : Int32) (h : f_X12_passOf x1 x2 m = some x) : zMet E zX12_passOf [.ref 68, .int x1, .int x2] zSH m (some (.int x)) zSH m := by
  refine zMet.of (L0 := [some (.ref 68), some (.int x1), some (.int x2), none, none, none, none, none]) rfl rfl (Nat.le_of_ble_eq_true rfl) rfl ?_
  unfold f_X12_passOf at h
  refine zi_ldcw (q := 3) dX12_passOf_0 k5_213 rfl ?_
  refine zi_istoren (q := 4) (L' := [some (.ref 68), some (.int x1), some (.int x2), some (.int (-268435456)), none, none, none, none]) dX12_passOf_3 (by decide) rfl rfl rfl ?_
  refine zi_iconst (q := 5) dX12_passOf_4 ki_0 rfl ?_
  refine zi_istore (q := 7) (L' := [some (.ref 68), some (.int x1), some (.int x2), some (.int (-268435456)), some (.int 0), none, none, none]) dX12_passOf_5 (by decide) rfl rfl rfl ?_
  obtain ⟨r9, hr9, h⟩ := Option.bind_eq_some_iff.mp h
  refine zloop_rn (P := fun w : (Int32 × Int32) => Rn E zX12_passOf 7 [some (.ref 68), some (.int x1), some (.int x2), some (.int w.1), some (.int w.2), none, none, none] [] zSH m (some (.int x)) zSH m) (X := fun w : (Int32) => Rn E zX12_passOf 114 [none, none, none, some (.int w), none, none, none, none] [] zSH m (some (.int x)) zSH m) (fun w w0 hb KI KX => rb_X12_passOf_7 x1 x2 m w _ _ w0 hb KI KX) zFU _ r9 hr9 ?_
  show Rn E zX12_passOf 114 [none, none, none, some (.int r9), none, none, none, none] [] zSH m (some (.int x)) zSH m
  refine zi_iloadn (q := 115) dX12_passOf_114 rfl rfl ?_
  cases h
  exact zi_ret _ dX12_passOf_115
set_option maxRecDepth 20000 in
theorem rj_X12_joinOnce_97 {E : Nat × (Nat → Int32)} (x1 : Int32) (x2 : Int32) (x3 : Int32) (x4 : Int32) (x5 : Int32) (m : zM) (rv : Option Value) (m' : zM) (x : ((Int32 × Int32 × Int32 × Int32) ⊕ (Int32 × Int32 × Int32))) (h : j_X12_joinOnce_97 x1 x2 x3 x4 x5 m = some x) (KI : ∀ s1 : (Int32 × Int32 × Int32 × Int32), x = .inl s1 → Rn E zX12_joinOnce 26 [some (.ref 68), some (.int s1.1), some (.int s1.2.1), some (.int s1.2.2.1), some (.int x4), some (.int s1.2.2.2), none] [] zSH m rv zSH m') : Rn E zX12_joinOnce 97 [some (.ref 68), some (.int x1), some (.int x2), some (.int x3), some (.int x4), some (.int x5), none] [] zSH m rv zSH m' := by
  unfold j_X12_joinOnce_97 at h
  refine zi_iinc (q := 100) (v := x5 + 1) (L' := [some (.ref 68), some (.int x1), some (.int x2), some (.int x3), some (.int x4), some (.int (x5 + 1)), none]) dX12_joinOnce_97 rfl (by rw [ki_1]) (by decide) rfl rfl rfl ?_
  refine zi_goto (q := 26) dX12_joinOnce_100 (by decide) ?_
  exact KI (x1, x2, x3, (x5 + 1)) (Option.some.inj h).symm
set_option maxRecDepth 20000 in
theorem rj_X12_joinOnce_67 {E : Nat × (Nat → Int32)} (x1 : Int32) (x2 : Int32) (x3 : Int32) (x4 : Int32) (x5 : Int32) (s0 : Int32) (m : zM) (rv : Option Value) (m' : zM) (x : ((Int32 × Int32 × Int32 × Int32) ⊕ (Int32 × Int32 × Int32))) (h : j_X12_joinOnce_67 x1 x2 x3 x4 x5 s0 m = some x) (KI : ∀ s1 : (Int32 × Int32 × Int32 × Int32), x = .inl s1 → Rn E zX12_joinOnce 26 [some (.ref 68), some (.int s1.1), some (.int s1.2.1), some (.int s1.2.2.1), some (.int x4), some (.int s1.2.2.2), none] [] zSH m rv zSH m') : Rn E zX12_joinOnce 67 [some (.ref 68), some (.int x1), some (.int x2), some (.int x3), some (.int x4), some (.int x5), none] [.int s0] zSH m rv zSH m' := by
  unfold j_X12_joinOnce_67 at h
  refine zi_istore (q := 69) (L' := [some (.ref 68), some (.int x1), some (.int x2), some (.int x3), some (.int x4), some (.int x5), some (.int s0)]) dX12_joinOnce_67 (by decide) rfl rfl rfl ?_
  refine zi_aloadn (q := 70) dX12_joinOnce_69 rfl rfl ?_
  refine zi_iload (q := 72) dX12_joinOnce_70 rfl rfl ?_
  refine zi_iload (q := 74) dX12_joinOnce_72 rfl rfl ?_
  refine zi_iload (q := 76) dX12_joinOnce_74 rfl rfl ?_
  obtain ⟨r5, hr5, h⟩ := Option.bind_eq_some_iff.mp h
  refine zc_V2 (q := 79) (st := []) (S1 := [.int (bi r5)]) (r_X12_isJoined x4 x5 s0 _ r5 hr5) dX12_joinOnce_76 cb_X12_isJoined k6_13 k6_15 ks_X12_isJoined ⟨by decide, by decide⟩ so_68 rfl rfl rfl (Nat.le_of_ble_eq_true rfl) (Or.inl rfl) rfl rfl ?_
  refine zi_ifeq (q := 97) (q2 := 82) dX12_joinOnce_79 (by decide) rfl (fun hc => ?_) (fun hc => ?_)
  · replace h := (if_pos hc).symm.trans h
    refine Rn.weakm [true, true, true, true, true, true, false] ?_
    exact rj_X12_joinOnce_97 x1 x2 x3 x4 x5 _ _ _ _ h KI
  · replace h := (if_neg hc).symm.trans h
    refine zi_iload (q := 84) dX12_joinOnce_82 rfl rfl ?_
    refine zi_iloadn (q := 85) dX12_joinOnce_84 rfl rfl ?_
    refine zi_icmple (q := 97) (q2 := 88) dX12_joinOnce_85 (by decide) rfl (fun hc => ?_) (fun hc => ?_)
    · replace h := (if_pos hc).symm.trans h
      refine Rn.weakm [true, true, true, true, true, true, false] ?_
      exact rj_X12_joinOnce_97 x1 x2 x3 x4 x5 _ _ _ _ h KI
    · replace h := (if_neg hc).symm.trans h
      refine zi_iload (q := 90) dX12_joinOnce_88 rfl rfl ?_
      refine zi_istoren (q := 91) (L' := [some (.ref 68), some (.int x4), some (.int x2), some (.int x3), some (.int x4), some (.int x5), some (.int s0)]) dX12_joinOnce_90 (by decide) rfl rfl rfl ?_
      refine zi_iload (q := 93) dX12_joinOnce_91 rfl rfl ?_
      refine zi_istoren (q := 94) (L' := [some (.ref 68), some (.int x4), some (.int x5), some (.int x3), some (.int x4), some (.int x5), some (.int s0)]) dX12_joinOnce_93 (by decide) rfl rfl rfl ?_
      refine zi_iload (q := 96) dX12_joinOnce_94 rfl rfl ?_
      refine zi_istoren (q := 97) (L' := [some (.ref 68), some (.int x4), some (.int x5), some (.int s0), some (.int x4), some (.int x5), some (.int s0)]) dX12_joinOnce_96 (by decide) rfl rfl rfl ?_
      refine Rn.weakm [true, true, true, true, true, true, false] ?_
      exact rj_X12_joinOnce_97 x4 x5 s0 x4 x5 _ _ _ _ h KI
set_option maxRecDepth 20000 in
theorem rb_X12_joinOnce_26 {E : Nat × (Nat → Int32)} (x4 : Int32) (m : zM) (s : (Int32 × Int32 × Int32 × Int32)) (rv : Option Value) (m' : zM) (x : ((Int32 × Int32 × Int32 × Int32) ⊕ (Int32 × Int32 × Int32))) (h : b_X12_joinOnce_26 x4 m s = some x) (KI : ∀ s1 : (Int32 × Int32 × Int32 × Int32), x = .inl s1 → Rn E zX12_joinOnce 26 [some (.ref 68), some (.int s1.1), some (.int s1.2.1), some (.int s1.2.2.1), some (.int x4), some (.int s1.2.2.2), none] [] zSH m rv zSH m') (KO : ∀ r1 : (Int32 × Int32 × Int32), x = .inr r1 → Rn E zX12_joinOnce 103 [some (.ref 68), some (.int r1.1), some (.int r1.2.1), some (.int r1.2.2), some (.int x4), none, none] [] zSH m rv zSH m') : Rn E zX12_joinOnce 26 [some (.ref 68), some (.int s.1), some (.int s.2.1), some (.int s.2.2.1), some (.int x4), some (.int s.2.2.2), none] [] zSH m rv zSH m' := by
  unfold b_X12_joinOnce_26 at h
  refine zi_iload (q := 28) dX12_joinOnce_26 rfl rfl ?_
  refine zi_aloadn (q := 29) dX12_joinOnce_28 rfl rfl ?_
  obtain ⟨r2, hr2, h⟩ := Option.bind_eq_some_iff.mp h
  refine zc_V2 (q := 32) (st := [.int s.2.2.2]) (S1 := [.int r2, .int s.2.2.2]) (r_X12_cells  _ r2 hr2) dX12_joinOnce_29 cb_X12_cells k5_138 k5_140 ks_X12_cells ⟨by decide, by decide⟩ so_68 rfl rfl rfl (Nat.le_of_ble_eq_true rfl) (Or.inl rfl) rfl rfl ?_
  refine zi_icmpge (q := 103) (q2 := 35) dX12_joinOnce_32 (by decide) rfl (fun hc => ?_) (fun hc => ?_)
  · replace h := (if_pos hc).symm.trans h
    refine Rn.weakm [true, true, true, true, true, false, false] ?_
    exact KO (s.1, s.2.1, s.2.2.1) (Option.some.inj h).symm
  · replace h := (if_neg hc).symm.trans h
    refine zi_aloadn (q := 36) dX12_joinOnce_35 rfl rfl ?_
    refine zi_iload (q := 38) dX12_joinOnce_36 rfl rfl ?_
    obtain ⟨r3, hr3, h⟩ := Option.bind_eq_some_iff.mp h
    refine zc_V2 (q := 41) (st := []) (S1 := [.int (bi r3)]) (r_X12_isTop x4 _ r3 hr3) dX12_joinOnce_38 cb_X12_isTop k6_2 k6_4 ks_X12_isTop ⟨by decide, by decide⟩ so_68 rfl rfl rfl (Nat.le_of_ble_eq_true rfl) (Or.inl rfl) rfl rfl ?_
    refine zi_ifeq (q := 103) (q2 := 44) dX12_joinOnce_41 (by decide) rfl (fun hc => ?_) (fun hc => ?_)
    · replace h := (if_pos hc).symm.trans h
      refine Rn.weakm [true, true, true, true, true, false, false] ?_
      exact KO (s.1, s.2.1, s.2.2.1) (Option.some.inj h).symm
    · replace h := (if_neg hc).symm.trans h
      refine zi_aloadn (q := 45) dX12_joinOnce_44 rfl rfl ?_
      refine zi_iload (q := 47) dX12_joinOnce_45 rfl rfl ?_
      obtain ⟨r4, hr4, h⟩ := Option.bind_eq_some_iff.mp h
      refine zc_V2 (q := 50) (st := []) (S1 := [.int (bi r4)]) (r_X12_isTop s.2.2.2 _ r4 hr4) dX12_joinOnce_47 cb_X12_isTop k6_2 k6_4 ks_X12_isTop ⟨by decide, by decide⟩ so_68 rfl rfl rfl (Nat.le_of_ble_eq_true rfl) (Or.inl rfl) rfl rfl ?_
      refine zi_ifeq (q := 64) (q2 := 53) dX12_joinOnce_50 (by decide) rfl (fun hc => ?_) (fun hc => ?_)
      · replace h := (if_pos hc).symm.trans h
        refine zi_ldcw (q := 67) dX12_joinOnce_64 k5_213 rfl ?_
        exact rj_X12_joinOnce_67 s.1 s.2.1 s.2.2.1 x4 s.2.2.2 (-268435456) _ _ _ _ h KI
      · replace h := (if_neg hc).symm.trans h
        refine zi_aloadn (q := 54) dX12_joinOnce_53 rfl rfl ?_
        refine zi_iload (q := 56) dX12_joinOnce_54 rfl rfl ?_
        refine zi_iload (q := 58) dX12_joinOnce_56 rfl rfl ?_
        obtain ⟨r6, hr6, h⟩ := Option.bind_eq_some_iff.mp h
        refine zc_V2 (q := 61) (st := []) (S1 := [.int r6]) (r_X12_passOf x4 s.2.2.2 _ r6 hr6) dX12_joinOnce_58 cb_X12_passOf k6_6 k6_8 ks_X12_passOf ⟨by decide, by decide⟩ so_68 rfl rfl rfl (Nat.le_of_ble_eq_true rfl) (Or.inl rfl) rfl rfl ?_
        refine zi_goto (q := 67) dX12_joinOnce_61 (by decide) ?_
        exact rj_X12_joinOnce_67 s.1 s.2.1 s.2.2.1 x4 s.2.2.2 r6 _ _ _ _ h KI
set_option maxRecDepth 20000 in
theorem rj_X12_joinOnce_103 {E : Nat × (Nat → Int32)} (x1 : Int32) (x2 : Int32) (x3 : Int32) (x4 : Int32) (m : zM) (rv : Option Value) (m' : zM) (x : ((Int32 × Int32 × Int32 × Int32) ⊕ (Int32 × Int32))) (h : j_X12_joinOnce_103 x1 x2 x3 x4 m = some x) (KI : ∀ s1 : (Int32 × Int32 × Int32 × Int32), x = .inl s1 → Rn E zX12_joinOnce 11 [some (.ref 68), some (.int s1.1), some (.int s1.2.1), some (.int s1.2.2.1), some (.int s1.2.2.2), none, none] [] zSH m rv zSH m') : Rn E zX12_joinOnce 103 [some (.ref 68), some (.int x1), some (.int x2), some (.int x3), some (.int x4), none, none] [] zSH m rv zSH m' := by
  unfold j_X12_joinOnce_103 at h
  refine zi_iinc (q := 106) (v := x4 + 1) (L' := [some (.ref 68), some (.int x1), some (.int x2), some (.int x3), some (.int (x4 + 1)), none, none]) dX12_joinOnce_103 rfl (by rw [ki_1]) (by decide) rfl rfl rfl ?_
  refine zi_goto (q := 11) dX12_joinOnce_106 (by decide) ?_
  exact KI (x1, x2, x3, (x4 + 1)) (Option.some.inj h).symm
set_option maxRecDepth 20000 in
theorem rb_X12_joinOnce_11 {E : Nat × (Nat → Int32)}  (m : zM) (s : (Int32 × Int32 × Int32 × Int32)) (rv : Option Value) (m' : zM) (x : ((Int32 × Int32 × Int32 × Int32) ⊕ (Int32 × Int32))) (h : b_X12_joinOnce_11 m s = some x) (KI : ∀ s1 : (Int32 × Int32 × Int32 × Int32), x = .inl s1 → Rn E zX12_joinOnce 11 [some (.ref 68), some (.int s1.1), some (.int s1.2.1), some (.int s1.2.2.1), some (.int s1.2.2.2), none, none] [] zSH m rv zSH m') (KO : ∀ r1 : (Int32 × Int32), x = .inr r1 → Rn E zX12_joinOnce 109 [some (.ref 68), some (.int r1.1), some (.int r1.2), none, none, none, none] [] zSH m rv zSH m') : Rn E zX12_joinOnce 11 [some (.ref 68), some (.int s.1), some (.int s.2.1), some (.int s.2.2.1), some (.int s.2.2.2), none, none] [] zSH m rv zSH m' := by
  unfold b_X12_joinOnce_11 at h
  refine zi_iload (q := 13) dX12_joinOnce_11 rfl rfl ?_
  refine zi_aloadn (q := 14) dX12_joinOnce_13 rfl rfl ?_
  obtain ⟨r1, hr1, h⟩ := Option.bind_eq_some_iff.mp h
  refine zc_V2 (q := 17) (st := [.int s.2.2.2]) (S1 := [.int r1, .int s.2.2.2]) (r_X12_cells  _ r1 hr1) dX12_joinOnce_14 cb_X12_cells k5_138 k5_140 ks_X12_cells ⟨by decide, by decide⟩ so_68 rfl rfl rfl (Nat.le_of_ble_eq_true rfl) (Or.inl rfl) rfl rfl ?_
  refine zi_icmpge (q := 109) (q2 := 20) dX12_joinOnce_17 (by decide) rfl (fun hc => ?_) (fun hc => ?_)
  · replace h := (if_pos hc).symm.trans h
    refine Rn.weakm [true, true, true, false, false, false, false] ?_
    exact KO (s.1, s.2.1) (Option.some.inj h).symm
  · replace h := (if_neg hc).symm.trans h
    refine zi_iload (q := 22) dX12_joinOnce_20 rfl rfl ?_
    refine zi_iconst (q := 23) dX12_joinOnce_22 ki_1 rfl ?_
    refine zi_iadd (q := 24) dX12_joinOnce_23 rfl ?_
    refine zi_istore (q := 26) (L' := [some (.ref 68), some (.int s.1), some (.int s.2.1), some (.int s.2.2.1), some (.int s.2.2.2), some (.int (s.2.2.2 + 1)), none]) dX12_joinOnce_24 (by decide) rfl rfl rfl ?_
    obtain ⟨r7, hr7, h⟩ := Option.bind_eq_some_iff.mp h
    refine zloop_rn (P := fun w : (Int32 × Int32 × Int32 × Int32) => Rn E zX12_joinOnce 26 [some (.ref 68), some (.int w.1), some (.int w.2.1), some (.int w.2.2.1), some (.int s.2.2.2), some (.int w.2.2.2), none] [] zSH m rv zSH m') (X := fun w : (Int32 × Int32 × Int32) => Rn E zX12_joinOnce 103 [some (.ref 68), some (.int w.1), some (.int w.2.1), some (.int w.2.2), some (.int s.2.2.2), none, none] [] zSH m rv zSH m') (fun w w0 hb KI KX => rb_X12_joinOnce_26 s.2.2.2 m w _ _ w0 hb KI KX) zFU _ r7 hr7 ?_
    show Rn E zX12_joinOnce 103 [some (.ref 68), some (.int r7.1), some (.int r7.2.1), some (.int r7.2.2), some (.int s.2.2.2), none, none] [] zSH m rv zSH m'
    exact rj_X12_joinOnce_103 r7.1 r7.2.1 r7.2.2 s.2.2.2 _ _ _ _ h KI
set_option maxRecDepth 20000 in
theorem rj_X12_joinOnce_190 {E : Nat × (Nat → Int32)} (x1 : Int32) (x2 : Int32) (x4 : Int32) (x5 : Int32) (s0 : Int32) (s1 : Int32) (m : zM) (rv : Option Value) (m' : zM) (x : ((Int32 × zM) ⊕ (zM))) (h : j_X12_joinOnce_190 x1 x2 x4 x5 s0 s1 m = some x) (KI : ∀ s1 : (Int32 × zM), x = .inl s1 → Rn E zX12_joinOnce 141 [some (.ref 68), some (.int x1), some (.int x2), none, some (.int x4), some (.int s1.1), none] [] zSH s1.2 rv zSH m') : Rn E zX12_joinOnce 190 [some (.ref 68), some (.int x1), some (.int x2), none, some (.int x4), some (.int x5), none] [.int s0, .int s1, .ref 100] zSH m rv zSH m' := by
  unfold j_X12_joinOnce_190 at h
  obtain ⟨hz13, h⟩ := zg_some h
  refine zi_iast2 (q := 191) dX12_joinOnce_190 so_100 (zin_vp hz13) rfl rfl ?_
  refine zi_iinc (q := 194) (v := x5 + 1) (L' := [some (.ref 68), some (.int x1), some (.int x2), none, some (.int x4), some (.int (x5 + 1)), none]) dX12_joinOnce_191 rfl (by rw [ki_1]) (by decide) rfl rfl rfl ?_
  refine zi_goto (q := 141) dX12_joinOnce_194 (by decide) ?_
  exact KI ((x5 + 1), (zi m 100 s1.toNatClampNeg s0)) (Option.some.inj h).symm
set_option maxRecDepth 20000 in
theorem rj_X12_joinOnce_178 {E : Nat × (Nat → Int32)} (x1 : Int32) (x2 : Int32) (x4 : Int32) (x5 : Int32) (s0 : Int32) (m : zM) (rv : Option Value) (m' : zM) (x : ((Int32 × zM) ⊕ (zM))) (h : j_X12_joinOnce_178 x1 x2 x4 x5 s0 m = some x) (KI : ∀ s1 : (Int32 × zM), x = .inl s1 → Rn E zX12_joinOnce 141 [some (.ref 68), some (.int x1), some (.int x2), none, some (.int x4), some (.int s1.1), none] [] zSH s1.2 rv zSH m') : Rn E zX12_joinOnce 178 [some (.ref 68), some (.int x1), some (.int x2), none, some (.int x4), some (.int x5), none] [.int s0, .ref 100] zSH m rv zSH m' := by
  unfold j_X12_joinOnce_178 at h
  refine zi_iload (q := 180) dX12_joinOnce_178 rfl rfl ?_
  refine zi_goto (q := 190) dX12_joinOnce_180 (by decide) ?_
  exact rj_X12_joinOnce_190 x1 x2 x4 x5 x4 s0 _ _ _ _ h KI
set_option maxRecDepth 20000 in
theorem rb_X12_joinOnce_141 {E : Nat × (Nat → Int32)} (x1 : Int32) (x2 : Int32) (x4 : Int32)  (s : (Int32 × zM)) (rv : Option Value) (m' : zM) (x : ((Int32 × zM) ⊕ (zM))) (h : b_X12_joinOnce_141 x1 x2 x4 s = some x) (KI : ∀ s1 : (Int32 × zM), x = .inl s1 → Rn E zX12_joinOnce 141 [some (.ref 68), some (.int x1), some (.int x2), none, some (.int x4), some (.int s1.1), none] [] zSH s1.2 rv zSH m') (KO : ∀ r1 : (zM), x = .inr r1 → Rn E zX12_joinOnce 197 [none, none, none, none, none, none, none] [] zSH r1 rv zSH m') : Rn E zX12_joinOnce 141 [some (.ref 68), some (.int x1), some (.int x2), none, some (.int x4), some (.int s.1), none] [] zSH s.2 rv zSH m' := by
  unfold b_X12_joinOnce_141 at h
  refine zi_iload (q := 143) dX12_joinOnce_141 rfl rfl ?_
  refine zi_aloadn (q := 144) dX12_joinOnce_143 rfl rfl ?_
  obtain ⟨r11, hr11, h⟩ := Option.bind_eq_some_iff.mp h
  refine zc_V2 (q := 147) (st := [.int s.1]) (S1 := [.int r11, .int s.1]) (r_X12_cells  _ r11 hr11) dX12_joinOnce_144 cb_X12_cells k5_138 k5_140 ks_X12_cells ⟨by decide, by decide⟩ so_68 rfl rfl rfl (Nat.le_of_ble_eq_true rfl) (Or.inl rfl) rfl rfl ?_
  refine zi_icmpge (q := 197) (q2 := 150) dX12_joinOnce_147 (by decide) rfl (fun hc => ?_) (fun hc => ?_)
  · replace h := (if_pos hc).symm.trans h
    refine Rn.weakm [false, false, false, false, false, false, false] ?_
    exact KO s.2 (Option.some.inj h).symm
  · replace h := (if_neg hc).symm.trans h
    refine zi_aloadn (q := 151) dX12_joinOnce_150 rfl rfl ?_
    refine zi_getA (q := 154) dX12_joinOnce_151 fl_12_104 so_68 rfl rfl ?_
    refine zi_iload (q := 156) dX12_joinOnce_154 rfl rfl ?_
    refine zi_aloadn (q := 157) dX12_joinOnce_156 rfl rfl ?_
    refine zi_getA (q := 160) dX12_joinOnce_157 fl_12_104 so_68 rfl rfl ?_
    refine zi_iload (q := 162) dX12_joinOnce_160 rfl rfl ?_
    obtain ⟨hz12, h⟩ := zg_some h
    refine zi_iald2 (q := 163) dX12_joinOnce_162 so_100 (zin_vp hz12) rfl rfl ?_
    refine zi_iloadn (q := 164) dX12_joinOnce_163 rfl rfl ?_
    refine zi_icmpeq (q := 178) (q2 := 167) dX12_joinOnce_164 (by decide) rfl (fun hc => ?_) (fun hc => ?_)
    · replace h := (if_pos hc).symm.trans h
      exact rj_X12_joinOnce_178 x1 x2 x4 s.1 s.1 _ _ _ _ h KI
    · replace h := (if_neg hc).symm.trans h
      refine zi_aloadn (q := 168) dX12_joinOnce_167 rfl rfl ?_
      refine zi_getA (q := 171) dX12_joinOnce_168 fl_12_104 so_68 rfl rfl ?_
      refine zi_iload (q := 173) dX12_joinOnce_171 rfl rfl ?_
      obtain ⟨hz14, h⟩ := zg_some h
      refine zi_iald2 (q := 174) dX12_joinOnce_173 so_100 (zin_vp hz14) rfl rfl ?_
      refine zi_iloadn (q := 175) dX12_joinOnce_174 rfl rfl ?_
      refine zi_icmpne (q := 183) (q2 := 178) dX12_joinOnce_175 (by decide) rfl (fun hc => ?_) (fun hc => ?_)
      · replace h := (if_neg hc).symm.trans h
        refine zi_aloadn (q := 184) dX12_joinOnce_183 rfl rfl ?_
        refine zi_getA (q := 187) dX12_joinOnce_184 fl_12_104 so_68 rfl rfl ?_
        refine zi_iload (q := 189) dX12_joinOnce_187 rfl rfl ?_
        obtain ⟨hz15, h⟩ := zg_some h
        refine zi_iald2 (q := 190) dX12_joinOnce_189 so_100 (zin_vp hz15) rfl rfl ?_
        exact rj_X12_joinOnce_190 x1 x2 x4 s.1 (s.2.1 100 s.1.toNatClampNeg) s.1 _ _ _ _ h KI
      · replace h := (if_pos hc).symm.trans h
        exact rj_X12_joinOnce_178 x1 x2 x4 s.1 s.1 _ _ _ _ h KI
set_option maxRecDepth 20000 in
theorem rj_X12_joinOnce_136 {E : Nat × (Nat → Int32)} (x1 : Int32) (x2 : Int32) (s0 : Int32) (m : zM)  (x : (Bool × zM)) (h : j_X12_joinOnce_136 x1 x2 s0 m = some x) : Rn E zX12_joinOnce 136 [some (.ref 68), some (.int x1), some (.int x2), none, none, none, none] [.int s0] zSH m (some (.int (bi x.1))) zSH x.2 := by
  unfold j_X12_joinOnce_136 at h
  refine zi_istore (q := 138) (L' := [some (.ref 68), some (.int x1), some (.int x2), none, some (.int s0), none, none]) dX12_joinOnce_136 (by decide) rfl rfl rfl ?_
  refine zi_iconst (q := 139) dX12_joinOnce_138 ki_0 rfl ?_
  refine zi_istore (q := 141) (L' := [some (.ref 68), some (.int x1), some (.int x2), none, some (.int s0), some (.int 0), none]) dX12_joinOnce_139 (by decide) rfl rfl rfl ?_
  obtain ⟨r16, hr16, h⟩ := Option.bind_eq_some_iff.mp h
  refine zloop_rn (P := fun w : (Int32 × zM) => Rn E zX12_joinOnce 141 [some (.ref 68), some (.int x1), some (.int x2), none, some (.int s0), some (.int w.1), none] [] zSH w.2 (some (.int (bi x.1))) zSH x.2) (X := fun w : (zM) => Rn E zX12_joinOnce 197 [none, none, none, none, none, none, none] [] zSH w (some (.int (bi x.1))) zSH x.2) (fun w w0 hb KI KX => rb_X12_joinOnce_141 x1 x2 s0 w _ _ w0 hb KI KX) zFU _ r16 hr16 ?_
  show Rn E zX12_joinOnce 197 [none, none, none, none, none, none, none] [] zSH r16 (some (.int (bi x.1))) zSH x.2
  refine zi_iconst (q := 198) dX12_joinOnce_197 ki_1 rfl ?_
  cases h
  exact zi_ret _ dX12_joinOnce_198
set_option maxRecDepth 20000 in
theorem r_X12_joinOnce {E : Nat × (Nat → Int32)}  (m : zM) (x : (Bool × zM)) (h : f_X12_joinOnce  m = some x) : zMet E zX12_joinOnce [.ref 68] zSH m (some (.int (bi x.1))) zSH x.2 := by
  refine zMet.of (L0 := [some (.ref 68), none, none, none, none, none, none]) rfl (zfit_bi _) (Nat.le_of_ble_eq_true rfl) rfl ?_
  unfold f_X12_joinOnce at h
  refine zi_iconst (q := 1) dX12_joinOnce_0 ki_m1 rfl ?_
  refine zi_istoren (q := 2) (L' := [some (.ref 68), some (.int (-1)), none, none, none, none, none]) dX12_joinOnce_1 (by decide) rfl rfl rfl ?_
  refine zi_iconst (q := 3) dX12_joinOnce_2 ki_m1 rfl ?_
  refine zi_istoren (q := 4) (L' := [some (.ref 68), some (.int (-1)), some (.int (-1)), none, none, none, none]) dX12_joinOnce_3 (by decide) rfl rfl rfl ?_
  refine zi_ldcw (q := 7) dX12_joinOnce_4 k5_213 rfl ?_
  refine zi_istoren (q := 8) (L' := [some (.ref 68), some (.int (-1)), some (.int (-1)), some (.int (-268435456)), none, none, none]) dX12_joinOnce_7 (by decide) rfl rfl rfl ?_
  refine zi_iconst (q := 9) dX12_joinOnce_8 ki_0 rfl ?_
  refine zi_istore (q := 11) (L' := [some (.ref 68), some (.int (-1)), some (.int (-1)), some (.int (-268435456)), some (.int 0), none, none]) dX12_joinOnce_9 (by decide) rfl rfl rfl ?_
  obtain ⟨r8, hr8, h⟩ := Option.bind_eq_some_iff.mp h
  refine zloop_rn (P := fun w : (Int32 × Int32 × Int32 × Int32) => Rn E zX12_joinOnce 11 [some (.ref 68), some (.int w.1), some (.int w.2.1), some (.int w.2.2.1), some (.int w.2.2.2), none, none] [] zSH m (some (.int (bi x.1))) zSH x.2) (X := fun w : (Int32 × Int32) => Rn E zX12_joinOnce 109 [some (.ref 68), some (.int w.1), some (.int w.2), none, none, none, none] [] zSH m (some (.int (bi x.1))) zSH x.2) (fun w w0 hb KI KX => rb_X12_joinOnce_11 m w _ _ w0 hb KI KX) zFU _ r8 hr8 ?_
  show Rn E zX12_joinOnce 109 [some (.ref 68), some (.int r8.1), some (.int r8.2), none, none, none, none] [] zSH m (some (.int (bi x.1))) zSH x.2
  refine zi_iloadn (q := 110) dX12_joinOnce_109 rfl rfl ?_
  refine zi_iconst (q := 111) dX12_joinOnce_110 ki_m1 rfl ?_
  refine zi_icmpne (q := 116) (q2 := 114) dX12_joinOnce_111 (by decide) rfl (fun hc => ?_) (fun hc => ?_)
  · replace h := (if_neg hc).symm.trans h
    refine zi_aloadn (q := 117) dX12_joinOnce_116 rfl rfl ?_
    refine zi_getA (q := 120) dX12_joinOnce_117 fl_12_22 so_68 rfl rfl ?_
    refine zi_iloadn (q := 121) dX12_joinOnce_120 rfl rfl ?_
    obtain ⟨hz9, h⟩ := zg_some h
    refine zi_iald2 (q := 122) dX12_joinOnce_121 so_73 (zin_vp hz9) rfl rfl ?_
    refine zi_aloadn (q := 123) dX12_joinOnce_122 rfl rfl ?_
    refine zi_getA (q := 126) dX12_joinOnce_123 fl_12_22 so_68 rfl rfl ?_
    refine zi_iloadn (q := 127) dX12_joinOnce_126 rfl rfl ?_
    obtain ⟨hz10, h⟩ := zg_some h
    refine zi_iald2 (q := 128) dX12_joinOnce_127 so_73 (zin_vp hz10) rfl rfl ?_
    refine zi_icmple (q := 135) (q2 := 131) dX12_joinOnce_128 (by decide) rfl (fun hc => ?_) (fun hc => ?_)
    · replace h := (if_pos hc).symm.trans h
      refine zi_iloadn (q := 136) dX12_joinOnce_135 rfl rfl ?_
      exact rj_X12_joinOnce_136 r8.1 r8.2 r8.1 _ _ h
    · replace h := (if_neg hc).symm.trans h
      refine zi_iloadn (q := 132) dX12_joinOnce_131 rfl rfl ?_
      refine zi_goto (q := 136) dX12_joinOnce_132 (by decide) ?_
      exact rj_X12_joinOnce_136 r8.1 r8.2 r8.2 _ _ h
  · replace h := (if_pos hc).symm.trans h
    refine zi_iconst (q := 115) dX12_joinOnce_114 ki_0 rfl ?_
    cases h
    exact zi_ret _ dX12_joinOnce_115
set_option maxRecDepth 20000 in
theorem rb_X12_layHills_6 {E : Nat × (Nat → Int32)}   (s : (Int32 × zM)) (rv : Option Value) (m' : zM) (x : ((Int32 × zM) ⊕ (zM))) (h : b_X12_layHills_6  s = some x) (KI : ∀ s1 : (Int32 × zM), x = .inl s1 → Rn E zX12_layHills 6 [some (.ref 68), some (.int s1.1)] [] zSH s1.2 rv zSH m') (KO : ∀ r1 : (zM), x = .inr r1 → Rn E zX12_layHills 18 [none, none] [] zSH r1 rv zSH m') : Rn E zX12_layHills 6 [some (.ref 68), some (.int s.1)] [] zSH s.2 rv zSH m' := by
  unfold b_X12_layHills_6 at h
  refine zi_iloadn (q := 7) dX12_layHills_6 rfl rfl ?_
  refine zi_ifeq (q := 18) (q2 := 10) dX12_layHills_7 (by decide) rfl (fun hc => ?_) (fun hc => ?_)
  · replace h := (if_pos hc).symm.trans h
    refine Rn.weakm [false, false] ?_
    exact KO s.2 (Option.some.inj h).symm
  · replace h := (if_neg hc).symm.trans h
    refine zi_aloadn (q := 11) dX12_layHills_10 rfl rfl ?_
    obtain ⟨r2, hr2, h⟩ := Option.bind_eq_some_iff.mp h
    refine zc_V2 (q := 14) (st := []) (S1 := [.int (bi r2.1)]) (r_X12_joinOnce  _ r2 hr2) dX12_layHills_11 cb_X12_joinOnce k5_238 k6_0 ks_X12_joinOnce ⟨by decide, by decide⟩ so_68 rfl rfl rfl (Nat.le_of_ble_eq_true rfl) (Or.inl rfl) rfl rfl ?_
    refine zi_istoren (q := 15) (L' := [some (.ref 68), some (.int (bi r2.1))]) dX12_layHills_14 (by decide) rfl rfl rfl ?_
    refine zi_goto (q := 6) dX12_layHills_15 (by decide) ?_
    exact KI ((bi r2.1), r2.2) (Option.some.inj h).symm
set_option maxRecDepth 20000 in
theorem r_X12_layHills {E : Nat × (Nat → Int32)}  (m : zM) (x : zM) (h : f_X12_layHills  m = some x) : zMet E zX12_layHills [.ref 68] zSH m none zSH x := by
  refine zMet.of (L0 := [some (.ref 68), none]) rfl trivial (Nat.le_of_ble_eq_true rfl) rfl ?_
  unfold f_X12_layHills at h
  refine zi_aloadn (q := 1) dX12_layHills_0 rfl rfl ?_
  obtain ⟨m1, hm1, h⟩ := Option.bind_eq_some_iff.mp h
  refine zc_V2 (q := 4) (st := []) (S1 := []) (r_X12_layTops  _ m1 hm1) dX12_layHills_1 cb_X12_layTops k5_230 k5_232 ks_X12_layTops ⟨by decide, by decide⟩ so_68 rfl rfl rfl (Nat.le_of_ble_eq_true rfl) (Or.inl rfl) rfl rfl ?_
  refine zi_iconst (q := 5) dX12_layHills_4 ki_1 rfl ?_
  refine zi_istoren (q := 6) (L' := [some (.ref 68), some (.int 1)]) dX12_layHills_5 (by decide) rfl rfl rfl ?_
  obtain ⟨r3, hr3, h⟩ := Option.bind_eq_some_iff.mp h
  refine zloop_rn (P := fun w : (Int32 × zM) => Rn E zX12_layHills 6 [some (.ref 68), some (.int w.1)] [] zSH w.2 none zSH x) (X := fun w : (zM) => Rn E zX12_layHills 18 [none, none] [] zSH w none zSH x) (fun w w0 hb KI KX => rb_X12_layHills_6  w _ _ w0 hb KI KX) zFU _ r3 hr3 ?_
  show Rn E zX12_layHills 18 [none, none] [] zSH r3 none zSH x
  cases h
  exact zi_ret _ dX12_layHills_18
set_option maxRecDepth 20000 in
theorem r_X12_isHigh {E : Nat × (Nat → Int32)} (x1 : Int32) (m : zM) (x : Bool) (h : f_X12_isHigh x1 m = some x) : zMet E zX12_isHigh [.ref 68, .int x1] zSH m (some (.int (bi x))) zSH m := by
  refine zMet.of (L0 := [some (.ref 68), some (.int x1)]) rfl (zfit_bi _) (Nat.le_of_ble_eq_true rfl) rfl ?_
  unfold f_X12_isHigh at h
  refine zi_aloadn (q := 1) dX12_isHigh_0 rfl rfl ?_
  refine zi_iloadn (q := 2) dX12_isHigh_1 rfl rfl ?_
  obtain ⟨r1, hr1, h⟩ := Option.bind_eq_some_iff.mp h
  refine zc_V2 (q := 5) (st := []) (S1 := [.int (bi r1)]) (r_X12_isTop x1 _ r1 hr1) dX12_isHigh_2 cb_X12_isTop k6_2 k6_4 ks_X12_isTop ⟨by decide, by decide⟩ so_68 rfl rfl rfl (Nat.le_of_ble_eq_true rfl) (Or.inl rfl) rfl rfl ?_
  refine zi_ifeq (q := 27) (q2 := 8) dX12_isHigh_5 (by decide) rfl (fun hc => ?_) (fun hc => ?_)
  · replace h := (if_pos hc).symm.trans h
    refine zi_iconst (q := 28) dX12_isHigh_27 ki_0 rfl ?_
    cases h
    exact zi_ret _ dX12_isHigh_28
  · replace h := (if_neg hc).symm.trans h
    refine zi_aloadn (q := 9) dX12_isHigh_8 rfl rfl ?_
    refine zi_getA (q := 12) dX12_isHigh_9 fl_12_22 so_68 rfl rfl ?_
    refine zi_iloadn (q := 13) dX12_isHigh_12 rfl rfl ?_
    obtain ⟨hz2, h⟩ := zg_some h
    refine zi_iald2 (q := 14) dX12_isHigh_13 so_73 (zin_vp hz2) rfl rfl ?_
    refine zi_aloadn (q := 15) dX12_isHigh_14 rfl rfl ?_
    refine zi_getA (q := 18) dX12_isHigh_15 fl_12_44 so_68 rfl rfl ?_
    refine zi_iconst (q := 19) dX12_isHigh_18 ki_0 rfl ?_
    refine zi_iald2 (q := 20) dX12_isHigh_19 so_80 vi_0_9 ix_0 rfl ?_
    refine zi_icmplt (q := 27) (q2 := 23) dX12_isHigh_20 (by decide) rfl (fun hc => ?_) (fun hc => ?_)
    · replace h := (if_pos hc).symm.trans h
      refine zi_iconst (q := 28) dX12_isHigh_27 ki_0 rfl ?_
      cases h
      exact zi_ret _ dX12_isHigh_28
    · replace h := (if_neg hc).symm.trans h
      refine zi_iconst (q := 24) dX12_isHigh_23 ki_1 rfl ?_
      refine zi_goto (q := 28) dX12_isHigh_24 (by decide) ?_
      cases h
      exact zi_ret _ dX12_isHigh_28
set_option maxRecDepth 20000 in
theorem rj_X12_massOf_33 {E : Nat × (Nat → Int32)} (x1 : Int32) (x3 : Int32) (s0 : Int32) (s1 : Int32) (m : zM) (rv : Option Value) (m' : zM) (x : ((Int32 × Int32) ⊕ (Int32))) (h : j_X12_massOf_33 x1 x3 s0 s1 m = some x) (KI : ∀ s1 : (Int32 × Int32), x = .inl s1 → Rn E zX12_massOf 4 [some (.ref 68), some (.int x1), some (.int s1.1), some (.int s1.2)] [] zSH m rv zSH m') : Rn E zX12_massOf 33 [some (.ref 68), some (.int x1), none, some (.int x3)] [.int s0, .int s1] zSH m rv zSH m' := by
  unfold j_X12_massOf_33 at h
  refine zi_iadd (q := 34) dX12_massOf_33 rfl ?_
  refine zi_istoren (q := 35) (L' := [some (.ref 68), some (.int x1), some (.int (s1 + s0)), some (.int x3)]) dX12_massOf_34 (by decide) rfl rfl rfl ?_
  refine zi_iinc (q := 38) (v := x3 + 1) (L' := [some (.ref 68), some (.int x1), some (.int (s1 + s0)), some (.int (x3 + 1))]) dX12_massOf_35 rfl (by rw [ki_1]) (by decide) rfl rfl rfl ?_
  refine zi_goto (q := 4) dX12_massOf_38 (by decide) ?_
  exact KI ((s1 + s0), (x3 + 1)) (Option.some.inj h).symm
set_option maxRecDepth 20000 in
theorem rb_X12_massOf_4 {E : Nat × (Nat → Int32)} (x1 : Int32) (m : zM) (s : (Int32 × Int32)) (rv : Option Value) (m' : zM) (x : ((Int32 × Int32) ⊕ (Int32))) (h : b_X12_massOf_4 x1 m s = some x) (KI : ∀ s1 : (Int32 × Int32), x = .inl s1 → Rn E zX12_massOf 4 [some (.ref 68), some (.int x1), some (.int s1.1), some (.int s1.2)] [] zSH m rv zSH m') (KO : ∀ r1 : (Int32), x = .inr r1 → Rn E zX12_massOf 41 [none, none, some (.int r1), none] [] zSH m rv zSH m') : Rn E zX12_massOf 4 [some (.ref 68), some (.int x1), some (.int s.1), some (.int s.2)] [] zSH m rv zSH m' := by
  unfold b_X12_massOf_4 at h
  refine zi_iloadn (q := 5) dX12_massOf_4 rfl rfl ?_
  refine zi_aloadn (q := 6) dX12_massOf_5 rfl rfl ?_
  obtain ⟨r1, hr1, h⟩ := Option.bind_eq_some_iff.mp h
  refine zc_V2 (q := 9) (st := [.int s.2]) (S1 := [.int r1, .int s.2]) (r_X12_cells  _ r1 hr1) dX12_massOf_6 cb_X12_cells k5_138 k5_140 ks_X12_cells ⟨by decide, by decide⟩ so_68 rfl rfl rfl (Nat.le_of_ble_eq_true rfl) (Or.inl rfl) rfl rfl ?_
  refine zi_icmpge (q := 41) (q2 := 12) dX12_massOf_9 (by decide) rfl (fun hc => ?_) (fun hc => ?_)
  · replace h := (if_pos hc).symm.trans h
    refine Rn.weakm [false, false, true, false] ?_
    exact KO s.1 (Option.some.inj h).symm
  · replace h := (if_neg hc).symm.trans h
    refine zi_iloadn (q := 13) dX12_massOf_12 rfl rfl ?_
    refine zi_aloadn (q := 14) dX12_massOf_13 rfl rfl ?_
    refine zi_getA (q := 17) dX12_massOf_14 fl_12_104 so_68 rfl rfl ?_
    refine zi_iloadn (q := 18) dX12_massOf_17 rfl rfl ?_
    obtain ⟨hz2, h⟩ := zg_some h
    refine zi_iald2 (q := 19) dX12_massOf_18 so_100 (zin_vp hz2) rfl rfl ?_
    refine zi_iloadn (q := 20) dX12_massOf_19 rfl rfl ?_
    refine zi_icmpne (q := 32) (q2 := 23) dX12_massOf_20 (by decide) rfl (fun hc => ?_) (fun hc => ?_)
    · replace h := (if_neg hc).symm.trans h
      refine zi_iconst (q := 33) dX12_massOf_32 ki_0 rfl ?_
      refine Rn.weakm [true, true, false, true] ?_
      exact rj_X12_massOf_33 x1 s.2 0 s.1 _ _ _ _ h KI
    · replace h := (if_pos hc).symm.trans h
      refine zi_aloadn (q := 24) dX12_massOf_23 rfl rfl ?_
      refine zi_getA (q := 27) dX12_massOf_24 fl_12_22 so_68 rfl rfl ?_
      refine zi_iloadn (q := 28) dX12_massOf_27 rfl rfl ?_
      obtain ⟨hz3, h⟩ := zg_some h
      refine zi_iald2 (q := 29) dX12_massOf_28 so_73 (zin_vp hz3) rfl rfl ?_
      refine zi_goto (q := 33) dX12_massOf_29 (by decide) ?_
      refine Rn.weakm [true, true, false, true] ?_
      exact rj_X12_massOf_33 x1 s.2 (m.1 73 s.2.toNatClampNeg) s.1 _ _ _ _ h KI
set_option maxRecDepth 20000 in
theorem r_X12_massOf {E : Nat × (Nat → Int32)} (x1 : Int32) (m : zM) (x : Int32) (h : f_X12_massOf x1 m = some x) : zMet E zX12_massOf [.ref 68, .int x1] zSH m (some (.int x)) zSH m := by
  refine zMet.of (L0 := [some (.ref 68), some (.int x1), none, none]) rfl rfl (Nat.le_of_ble_eq_true rfl) rfl ?_
  unfold f_X12_massOf at h
  refine zi_iconst (q := 1) dX12_massOf_0 ki_0 rfl ?_
  refine zi_istoren (q := 2) (L' := [some (.ref 68), some (.int x1), some (.int 0), none]) dX12_massOf_1 (by decide) rfl rfl rfl ?_
  refine zi_iconst (q := 3) dX12_massOf_2 ki_0 rfl ?_
  refine zi_istoren (q := 4) (L' := [some (.ref 68), some (.int x1), some (.int 0), some (.int 0)]) dX12_massOf_3 (by decide) rfl rfl rfl ?_
  obtain ⟨r4, hr4, h⟩ := Option.bind_eq_some_iff.mp h
  refine zloop_rn (P := fun w : (Int32 × Int32) => Rn E zX12_massOf 4 [some (.ref 68), some (.int x1), some (.int w.1), some (.int w.2)] [] zSH m (some (.int x)) zSH m) (X := fun w : (Int32) => Rn E zX12_massOf 41 [none, none, some (.int w), none] [] zSH m (some (.int x)) zSH m) (fun w w0 hb KI KX => rb_X12_massOf_4 x1 m w _ _ w0 hb KI KX) zFU _ r4 hr4 ?_
  show Rn E zX12_massOf 41 [none, none, some (.int r4), none] [] zSH m (some (.int x)) zSH m
  refine zi_iloadn (q := 42) dX12_massOf_41 rfl rfl ?_
  cases h
  exact zi_ret _ dX12_massOf_42
set_option maxRecDepth 20000 in
theorem rj_X12_aheadOf_73 {E : Nat × (Nat → Int32)} (x1 : Int32) (x3 : Int32) (x4 : Int32) (s0 : Int32) (s1 : Int32) (m : zM) (rv : Option Value) (m' : zM) (x : ((Int32 × Int32) ⊕ (Int32))) (h : j_X12_aheadOf_73 x1 x3 x4 s0 s1 m = some x) (KI : ∀ s1 : (Int32 × Int32), x = .inl s1 → Rn E zX12_aheadOf 11 [some (.ref 68), some (.int x1), some (.int s1.1), some (.int x3), some (.int s1.2), none] [] zSH m rv zSH m') : Rn E zX12_aheadOf 73 [some (.ref 68), some (.int x1), none, some (.int x3), some (.int x4), none] [.int s0, .int s1] zSH m rv zSH m' := by
  unfold j_X12_aheadOf_73 at h
  refine zi_iadd (q := 74) dX12_aheadOf_73 rfl ?_
  refine zi_istoren (q := 75) (L' := [some (.ref 68), some (.int x1), some (.int (s1 + s0)), some (.int x3), some (.int x4), none]) dX12_aheadOf_74 (by decide) rfl rfl rfl ?_
  refine zi_iinc (q := 78) (v := x4 + 1) (L' := [some (.ref 68), some (.int x1), some (.int (s1 + s0)), some (.int x3), some (.int (x4 + 1)), none]) dX12_aheadOf_75 rfl (by rw [ki_1]) (by decide) rfl rfl rfl ?_
  refine zi_goto (q := 11) dX12_aheadOf_78 (by decide) ?_
  exact KI ((s1 + s0), (x4 + 1)) (Option.some.inj h).symm
set_option maxRecDepth 20000 in
theorem rj_X12_aheadOf_68 {E : Nat × (Nat → Int32)} (x1 : Int32) (x3 : Int32) (x4 : Int32) (s0 : Int32) (m : zM) (rv : Option Value) (m' : zM) (x : ((Int32 × Int32) ⊕ (Int32))) (h : j_X12_aheadOf_68 x1 x3 x4 s0 m = some x) (KI : ∀ s1 : (Int32 × Int32), x = .inl s1 → Rn E zX12_aheadOf 11 [some (.ref 68), some (.int x1), some (.int s1.1), some (.int x3), some (.int s1.2), none] [] zSH m rv zSH m') : Rn E zX12_aheadOf 68 [some (.ref 68), some (.int x1), none, some (.int x3), some (.int x4), none] [.int s0] zSH m rv zSH m' := by
  unfold j_X12_aheadOf_68 at h
  refine zi_iconst (q := 69) dX12_aheadOf_68 ki_1 rfl ?_
  refine zi_goto (q := 73) dX12_aheadOf_69 (by decide) ?_
  exact rj_X12_aheadOf_73 x1 x3 x4 1 s0 _ _ _ _ h KI
set_option maxRecDepth 20000 in
theorem rj_X12_aheadOf_72 {E : Nat × (Nat → Int32)} (x1 : Int32) (x3 : Int32) (x4 : Int32) (s0 : Int32) (m : zM) (rv : Option Value) (m' : zM) (x : ((Int32 × Int32) ⊕ (Int32))) (h : j_X12_aheadOf_72 x1 x3 x4 s0 m = some x) (KI : ∀ s1 : (Int32 × Int32), x = .inl s1 → Rn E zX12_aheadOf 11 [some (.ref 68), some (.int x1), some (.int s1.1), some (.int x3), some (.int s1.2), none] [] zSH m rv zSH m') : Rn E zX12_aheadOf 72 [some (.ref 68), some (.int x1), none, some (.int x3), some (.int x4), none] [.int s0] zSH m rv zSH m' := by
  unfold j_X12_aheadOf_72 at h
  refine zi_iconst (q := 73) dX12_aheadOf_72 ki_0 rfl ?_
  exact rj_X12_aheadOf_73 x1 x3 x4 0 s0 _ _ _ _ h KI
set_option maxRecDepth 20000 in
theorem rj_X12_aheadOf_47 {E : Nat × (Nat → Int32)} (x1 : Int32) (x2 : Int32) (x3 : Int32) (x4 : Int32) (s0 : Int32) (m : zM) (rv : Option Value) (m' : zM) (x : ((Int32 × Int32) ⊕ (Int32))) (h : j_X12_aheadOf_47 x1 x2 x3 x4 s0 m = some x) (KI : ∀ s1 : (Int32 × Int32), x = .inl s1 → Rn E zX12_aheadOf 11 [some (.ref 68), some (.int x1), some (.int s1.1), some (.int x3), some (.int s1.2), none] [] zSH m rv zSH m') : Rn E zX12_aheadOf 47 [some (.ref 68), some (.int x1), some (.int x2), some (.int x3), some (.int x4), none] [.int s0] zSH m rv zSH m' := by
  unfold j_X12_aheadOf_47 at h
  refine zi_istore (q := 49) (L' := [some (.ref 68), some (.int x1), some (.int x2), some (.int x3), some (.int x4), some (.int s0)]) dX12_aheadOf_47 (by decide) rfl rfl rfl ?_
  refine zi_iloadn (q := 50) dX12_aheadOf_49 rfl rfl ?_
  refine zi_iload (q := 52) dX12_aheadOf_50 rfl rfl ?_
  refine zi_iloadn (q := 53) dX12_aheadOf_52 rfl rfl ?_
  refine zi_icmpgt (q := 68) (q2 := 56) dX12_aheadOf_53 (by decide) rfl (fun hc => ?_) (fun hc => ?_)
  · replace h := (if_pos hc).symm.trans h
    refine Rn.weakm [true, true, false, true, true, false] ?_
    exact rj_X12_aheadOf_68 x1 x3 x4 x2 _ _ _ _ h KI
  · replace h := (if_neg hc).symm.trans h
    refine zi_iload (q := 58) dX12_aheadOf_56 rfl rfl ?_
    refine zi_iloadn (q := 59) dX12_aheadOf_58 rfl rfl ?_
    refine zi_icmpne (q := 72) (q2 := 62) dX12_aheadOf_59 (by decide) rfl (fun hc => ?_) (fun hc => ?_)
    · replace h := (if_neg hc).symm.trans h
      refine Rn.weakm [true, true, false, true, true, false] ?_
      exact rj_X12_aheadOf_72 x1 x3 x4 x2 _ _ _ _ h KI
    · replace h := (if_pos hc).symm.trans h
      refine zi_iload (q := 64) dX12_aheadOf_62 rfl rfl ?_
      refine zi_iloadn (q := 65) dX12_aheadOf_64 rfl rfl ?_
      refine zi_icmpge (q := 72) (q2 := 68) dX12_aheadOf_65 (by decide) rfl (fun hc => ?_) (fun hc => ?_)
      · replace h := (if_pos hc).symm.trans h
        refine Rn.weakm [true, true, false, true, true, false] ?_
        exact rj_X12_aheadOf_72 x1 x3 x4 x2 _ _ _ _ h KI
      · replace h := (if_neg hc).symm.trans h
        refine Rn.weakm [true, true, false, true, true, false] ?_
        exact rj_X12_aheadOf_68 x1 x3 x4 x2 _ _ _ _ h KI
set_option maxRecDepth 20000 in
theorem rj_X12_aheadOf_44 {E : Nat × (Nat → Int32)} (x1 : Int32) (x2 : Int32) (x3 : Int32) (x4 : Int32) (m : zM) (rv : Option Value) (m' : zM) (x : ((Int32 × Int32) ⊕ (Int32))) (h : j_X12_aheadOf_44 x1 x2 x3 x4 m = some x) (KI : ∀ s1 : (Int32 × Int32), x = .inl s1 → Rn E zX12_aheadOf 11 [some (.ref 68), some (.int x1), some (.int s1.1), some (.int x3), some (.int s1.2), none] [] zSH m rv zSH m') : Rn E zX12_aheadOf 44 [some (.ref 68), some (.int x1), some (.int x2), some (.int x3), some (.int x4), none] [] zSH m rv zSH m' := by
  unfold j_X12_aheadOf_44 at h
  refine zi_ldcw (q := 47) dX12_aheadOf_44 k5_213 rfl ?_
  exact rj_X12_aheadOf_47 x1 x2 x3 x4 (-268435456) _ _ _ _ h KI
set_option maxRecDepth 20000 in
theorem rb_X12_aheadOf_11 {E : Nat × (Nat → Int32)} (x1 : Int32) (x3 : Int32) (m : zM) (s : (Int32 × Int32)) (rv : Option Value) (m' : zM) (x : ((Int32 × Int32) ⊕ (Int32))) (h : b_X12_aheadOf_11 x1 x3 m s = some x) (KI : ∀ s1 : (Int32 × Int32), x = .inl s1 → Rn E zX12_aheadOf 11 [some (.ref 68), some (.int x1), some (.int s1.1), some (.int x3), some (.int s1.2), none] [] zSH m rv zSH m') (KO : ∀ r1 : (Int32), x = .inr r1 → Rn E zX12_aheadOf 81 [none, none, some (.int r1), none, none, none] [] zSH m rv zSH m') : Rn E zX12_aheadOf 11 [some (.ref 68), some (.int x1), some (.int s.1), some (.int x3), some (.int s.2), none] [] zSH m rv zSH m' := by
  unfold b_X12_aheadOf_11 at h
  refine zi_iload (q := 13) dX12_aheadOf_11 rfl rfl ?_
  refine zi_aloadn (q := 14) dX12_aheadOf_13 rfl rfl ?_
  obtain ⟨r2, hr2, h⟩ := Option.bind_eq_some_iff.mp h
  refine zc_V2 (q := 17) (st := [.int s.2]) (S1 := [.int r2, .int s.2]) (r_X12_cells  _ r2 hr2) dX12_aheadOf_14 cb_X12_cells k5_138 k5_140 ks_X12_cells ⟨by decide, by decide⟩ so_68 rfl rfl rfl (Nat.le_of_ble_eq_true rfl) (Or.inl rfl) rfl rfl ?_
  refine zi_icmpge (q := 81) (q2 := 20) dX12_aheadOf_17 (by decide) rfl (fun hc => ?_) (fun hc => ?_)
  · replace h := (if_pos hc).symm.trans h
    refine Rn.weakm [false, false, true, false, false, false] ?_
    exact KO s.1 (Option.some.inj h).symm
  · replace h := (if_neg hc).symm.trans h
    refine zi_iload (q := 22) dX12_aheadOf_20 rfl rfl ?_
    refine zi_iloadn (q := 23) dX12_aheadOf_22 rfl rfl ?_
    refine zi_icmpeq (q := 44) (q2 := 26) dX12_aheadOf_23 (by decide) rfl (fun hc => ?_) (fun hc => ?_)
    · replace h := (if_pos hc).symm.trans h
      exact rj_X12_aheadOf_44 x1 s.1 x3 s.2 _ _ _ _ h KI
    · replace h := (if_neg hc).symm.trans h
      refine zi_aloadn (q := 27) dX12_aheadOf_26 rfl rfl ?_
      refine zi_iload (q := 29) dX12_aheadOf_27 rfl rfl ?_
      obtain ⟨r3, hr3, h⟩ := Option.bind_eq_some_iff.mp h
      refine zc_V2 (q := 32) (st := []) (S1 := [.int (bi r3)]) (r_X12_isHigh s.2 _ r3 hr3) dX12_aheadOf_29 cb_X12_isHigh k6_21 k6_23 ks_X12_isHigh ⟨by decide, by decide⟩ so_68 rfl rfl rfl (Nat.le_of_ble_eq_true rfl) (Or.inl rfl) rfl rfl ?_
      refine zi_ifeq (q := 44) (q2 := 35) dX12_aheadOf_32 (by decide) rfl (fun hc => ?_) (fun hc => ?_)
      · replace h := (if_pos hc).symm.trans h
        exact rj_X12_aheadOf_44 x1 s.1 x3 s.2 _ _ _ _ h KI
      · replace h := (if_neg hc).symm.trans h
        refine zi_aloadn (q := 36) dX12_aheadOf_35 rfl rfl ?_
        refine zi_iload (q := 38) dX12_aheadOf_36 rfl rfl ?_
        obtain ⟨r4, hr4, h⟩ := Option.bind_eq_some_iff.mp h
        refine zc_V2 (q := 41) (st := []) (S1 := [.int r4]) (r_X12_massOf s.2 _ r4 hr4) dX12_aheadOf_38 cb_X12_massOf k6_29 k6_31 ks_X12_massOf ⟨by decide, by decide⟩ so_68 rfl rfl rfl (Nat.le_of_ble_eq_true rfl) (Or.inl rfl) rfl rfl ?_
        refine zi_goto (q := 47) dX12_aheadOf_41 (by decide) ?_
        exact rj_X12_aheadOf_47 x1 s.1 x3 s.2 r4 _ _ _ _ h KI
set_option maxRecDepth 20000 in
theorem r_X12_aheadOf {E : Nat × (Nat → Int32)} (x1 : Int32) (m : zM) (x : Int32) (h : f_X12_aheadOf x1 m = some x) : zMet E zX12_aheadOf [.ref 68, .int x1] zSH m (some (.int x)) zSH m := by
  refine zMet.of (L0 := [some (.ref 68), some (.int x1), none, none, none, none]) rfl rfl (Nat.le_of_ble_eq_true rfl) rfl ?_
  unfold f_X12_aheadOf at h
  refine zi_iconst (q := 1) dX12_aheadOf_0 ki_0 rfl ?_
  refine zi_istoren (q := 2) (L' := [some (.ref 68), some (.int x1), some (.int 0), none, none, none]) dX12_aheadOf_1 (by decide) rfl rfl rfl ?_
  refine zi_aloadn (q := 3) dX12_aheadOf_2 rfl rfl ?_
  refine zi_iloadn (q := 4) dX12_aheadOf_3 rfl rfl ?_
  obtain ⟨r1, hr1, h⟩ := Option.bind_eq_some_iff.mp h
  refine zc_V2 (q := 7) (st := []) (S1 := [.int r1]) (r_X12_massOf x1 _ r1 hr1) dX12_aheadOf_4 cb_X12_massOf k6_29 k6_31 ks_X12_massOf ⟨by decide, by decide⟩ so_68 rfl rfl rfl (Nat.le_of_ble_eq_true rfl) (Or.inl rfl) rfl rfl ?_
  refine zi_istoren (q := 8) (L' := [some (.ref 68), some (.int x1), some (.int 0), some (.int r1), none, none]) dX12_aheadOf_7 (by decide) rfl rfl rfl ?_
  refine zi_iconst (q := 9) dX12_aheadOf_8 ki_0 rfl ?_
  refine zi_istore (q := 11) (L' := [some (.ref 68), some (.int x1), some (.int 0), some (.int r1), some (.int 0), none]) dX12_aheadOf_9 (by decide) rfl rfl rfl ?_
  obtain ⟨r5, hr5, h⟩ := Option.bind_eq_some_iff.mp h
  refine zloop_rn (P := fun w : (Int32 × Int32) => Rn E zX12_aheadOf 11 [some (.ref 68), some (.int x1), some (.int w.1), some (.int r1), some (.int w.2), none] [] zSH m (some (.int x)) zSH m) (X := fun w : (Int32) => Rn E zX12_aheadOf 81 [none, none, some (.int w), none, none, none] [] zSH m (some (.int x)) zSH m) (fun w w0 hb KI KX => rb_X12_aheadOf_11 x1 r1 m w _ _ w0 hb KI KX) zFU _ r5 hr5 ?_
  show Rn E zX12_aheadOf 81 [none, none, some (.int r5), none, none, none] [] zSH m (some (.int x)) zSH m
  refine zi_iloadn (q := 82) dX12_aheadOf_81 rfl rfl ?_
  cases h
  exact zi_ret _ dX12_aheadOf_82
set_option maxRecDepth 20000 in
theorem rj_X12_sizeOf_28 {E : Nat × (Nat → Int32)} (x1 : Int32) (x3 : Int32) (s0 : Int32) (s1 : Int32) (m : zM) (rv : Option Value) (m' : zM) (x : ((Int32 × Int32) ⊕ (Int32))) (h : j_X12_sizeOf_28 x1 x3 s0 s1 m = some x) (KI : ∀ s1 : (Int32 × Int32), x = .inl s1 → Rn E zX12_sizeOf 4 [some (.ref 68), some (.int x1), some (.int s1.1), some (.int s1.2)] [] zSH m rv zSH m') : Rn E zX12_sizeOf 28 [some (.ref 68), some (.int x1), none, some (.int x3)] [.int s0, .int s1] zSH m rv zSH m' := by
  unfold j_X12_sizeOf_28 at h
  refine zi_iadd (q := 29) dX12_sizeOf_28 rfl ?_
  refine zi_istoren (q := 30) (L' := [some (.ref 68), some (.int x1), some (.int (s1 + s0)), some (.int x3)]) dX12_sizeOf_29 (by decide) rfl rfl rfl ?_
  refine zi_iinc (q := 33) (v := x3 + 1) (L' := [some (.ref 68), some (.int x1), some (.int (s1 + s0)), some (.int (x3 + 1))]) dX12_sizeOf_30 rfl (by rw [ki_1]) (by decide) rfl rfl rfl ?_
  refine zi_goto (q := 4) dX12_sizeOf_33 (by decide) ?_
  exact KI ((s1 + s0), (x3 + 1)) (Option.some.inj h).symm
set_option maxRecDepth 20000 in
theorem rb_X12_sizeOf_4 {E : Nat × (Nat → Int32)} (x1 : Int32) (m : zM) (s : (Int32 × Int32)) (rv : Option Value) (m' : zM) (x : ((Int32 × Int32) ⊕ (Int32))) (h : b_X12_sizeOf_4 x1 m s = some x) (KI : ∀ s1 : (Int32 × Int32), x = .inl s1 → Rn E zX12_sizeOf 4 [some (.ref 68), some (.int x1), some (.int s1.1), some (.int s1.2)] [] zSH m rv zSH m') (KO : ∀ r1 : (Int32), x = .inr r1 → Rn E zX12_sizeOf 36 [none, none, some (.int r1), none] [] zSH m rv zSH m') : Rn E zX12_sizeOf 4 [some (.ref 68), some (.int x1), some (.int s.1), some (.int s.2)] [] zSH m rv zSH m' := by
  unfold b_X12_sizeOf_4 at h
  refine zi_iloadn (q := 5) dX12_sizeOf_4 rfl rfl ?_
  refine zi_aloadn (q := 6) dX12_sizeOf_5 rfl rfl ?_
  obtain ⟨r1, hr1, h⟩ := Option.bind_eq_some_iff.mp h
  refine zc_V2 (q := 9) (st := [.int s.2]) (S1 := [.int r1, .int s.2]) (r_X12_cells  _ r1 hr1) dX12_sizeOf_6 cb_X12_cells k5_138 k5_140 ks_X12_cells ⟨by decide, by decide⟩ so_68 rfl rfl rfl (Nat.le_of_ble_eq_true rfl) (Or.inl rfl) rfl rfl ?_
  refine zi_icmpge (q := 36) (q2 := 12) dX12_sizeOf_9 (by decide) rfl (fun hc => ?_) (fun hc => ?_)
  · replace h := (if_pos hc).symm.trans h
    refine Rn.weakm [false, false, true, false] ?_
    exact KO s.1 (Option.some.inj h).symm
  · replace h := (if_neg hc).symm.trans h
    refine zi_iloadn (q := 13) dX12_sizeOf_12 rfl rfl ?_
    refine zi_aloadn (q := 14) dX12_sizeOf_13 rfl rfl ?_
    refine zi_getA (q := 17) dX12_sizeOf_14 fl_12_104 so_68 rfl rfl ?_
    refine zi_iloadn (q := 18) dX12_sizeOf_17 rfl rfl ?_
    obtain ⟨hz2, h⟩ := zg_some h
    refine zi_iald2 (q := 19) dX12_sizeOf_18 so_100 (zin_vp hz2) rfl rfl ?_
    refine zi_iloadn (q := 20) dX12_sizeOf_19 rfl rfl ?_
    refine zi_icmpne (q := 27) (q2 := 23) dX12_sizeOf_20 (by decide) rfl (fun hc => ?_) (fun hc => ?_)
    · replace h := (if_neg hc).symm.trans h
      refine zi_iconst (q := 28) dX12_sizeOf_27 ki_0 rfl ?_
      refine Rn.weakm [true, true, false, true] ?_
      exact rj_X12_sizeOf_28 x1 s.2 0 s.1 _ _ _ _ h KI
    · replace h := (if_pos hc).symm.trans h
      refine zi_iconst (q := 24) dX12_sizeOf_23 ki_1 rfl ?_
      refine zi_goto (q := 28) dX12_sizeOf_24 (by decide) ?_
      refine Rn.weakm [true, true, false, true] ?_
      exact rj_X12_sizeOf_28 x1 s.2 1 s.1 _ _ _ _ h KI
set_option maxRecDepth 20000 in
theorem r_X12_sizeOf {E : Nat × (Nat → Int32)} (x1 : Int32) (m : zM) (x : Int32) (h : f_X12_sizeOf x1 m = some x) : zMet E zX12_sizeOf [.ref 68, .int x1] zSH m (some (.int x)) zSH m := by
  refine zMet.of (L0 := [some (.ref 68), some (.int x1), none, none]) rfl rfl (Nat.le_of_ble_eq_true rfl) rfl ?_
  unfold f_X12_sizeOf at h
  refine zi_iconst (q := 1) dX12_sizeOf_0 ki_0 rfl ?_
  refine zi_istoren (q := 2) (L' := [some (.ref 68), some (.int x1), some (.int 0), none]) dX12_sizeOf_1 (by decide) rfl rfl rfl ?_
  refine zi_iconst (q := 3) dX12_sizeOf_2 ki_0 rfl ?_
  refine zi_istoren (q := 4) (L' := [some (.ref 68), some (.int x1), some (.int 0), some (.int 0)]) dX12_sizeOf_3 (by decide) rfl rfl rfl ?_
  obtain ⟨r3, hr3, h⟩ := Option.bind_eq_some_iff.mp h
  refine zloop_rn (P := fun w : (Int32 × Int32) => Rn E zX12_sizeOf 4 [some (.ref 68), some (.int x1), some (.int w.1), some (.int w.2)] [] zSH m (some (.int x)) zSH m) (X := fun w : (Int32) => Rn E zX12_sizeOf 36 [none, none, some (.int w), none] [] zSH m (some (.int x)) zSH m) (fun w w0 hb KI KX => rb_X12_sizeOf_4 x1 m w _ _ w0 hb KI KX) zFU _ r3 hr3 ?_
  show Rn E zX12_sizeOf 36 [none, none, some (.int r3), none] [] zSH m (some (.int x)) zSH m
  refine zi_iloadn (q := 37) dX12_sizeOf_36 rfl rfl ?_
  cases h
  exact zi_ret _ dX12_sizeOf_37
set_option maxRecDepth 20000 in
theorem rj_X12_laySpot_89 {E : Nat × (Nat → Int32)} (x1 : Int32) (x2 : Int32) (x3 : Int32) (x4 : Int32) (x5 : Int32) (m : zM) (rv : Option Value) (m' : zM) (x : ((Int32 × Int32 × Int32 × zM) ⊕ (Int32 × Int32 × zM))) (h : j_X12_laySpot_89 x1 x2 x3 x4 x5 m = some x) (KI : ∀ s1 : (Int32 × Int32 × Int32 × zM), x = .inl s1 → Rn E zX12_laySpot 14 [some (.ref 68), some (.int x1), some (.int x2), some (.int s1.1), some (.int s1.2.1), some (.int s1.2.2.1)] [] zSH s1.2.2.2 rv zSH m') : Rn E zX12_laySpot 89 [some (.ref 68), some (.int x1), some (.int x2), some (.int x3), some (.int x4), some (.int x5)] [] zSH m rv zSH m' := by
  unfold j_X12_laySpot_89 at h
  refine zi_iinc (q := 92) (v := x5 + 1) (L' := [some (.ref 68), some (.int x1), some (.int x2), some (.int x3), some (.int x4), some (.int (x5 + 1))]) dX12_laySpot_89 rfl (by rw [ki_1]) (by decide) rfl rfl rfl ?_
  refine zi_goto (q := 14) dX12_laySpot_92 (by decide) ?_
  exact KI (x3, x4, (x5 + 1), m) (Option.some.inj h).symm
set_option maxRecDepth 20000 in
theorem rb_X12_laySpot_14 {E : Nat × (Nat → Int32)} (x1 : Int32) (x2 : Int32)  (s : (Int32 × Int32 × Int32 × zM)) (rv : Option Value) (m' : zM) (x : ((Int32 × Int32 × Int32 × zM) ⊕ (Int32 × Int32 × zM))) (h : b_X12_laySpot_14 x1 x2 s = some x) (KI : ∀ s1 : (Int32 × Int32 × Int32 × zM), x = .inl s1 → Rn E zX12_laySpot 14 [some (.ref 68), some (.int x1), some (.int x2), some (.int s1.1), some (.int s1.2.1), some (.int s1.2.2.1)] [] zSH s1.2.2.2 rv zSH m') (KO : ∀ r1 : (Int32 × Int32 × zM), x = .inr r1 → Rn E zX12_laySpot 95 [some (.ref 68), some (.int x1), some (.int x2), some (.int r1.1), some (.int r1.2.1), none] [] zSH r1.2.2 rv zSH m') : Rn E zX12_laySpot 14 [some (.ref 68), some (.int x1), some (.int x2), some (.int s.1), some (.int s.2.1), some (.int s.2.2.1)] [] zSH s.2.2.2 rv zSH m' := by
  unfold b_X12_laySpot_14 at h
  refine zi_iload (q := 16) dX12_laySpot_14 rfl rfl ?_
  refine zi_aloadn (q := 17) dX12_laySpot_16 rfl rfl ?_
  obtain ⟨r2, hr2, h⟩ := Option.bind_eq_some_iff.mp h
  refine zc_V2 (q := 20) (st := [.int s.2.2.1]) (S1 := [.int r2, .int s.2.2.1]) (r_X12_cells  _ r2 hr2) dX12_laySpot_17 cb_X12_cells k5_138 k5_140 ks_X12_cells ⟨by decide, by decide⟩ so_68 rfl rfl rfl (Nat.le_of_ble_eq_true rfl) (Or.inl rfl) rfl rfl ?_
  refine zi_icmpge (q := 95) (q2 := 23) dX12_laySpot_20 (by decide) rfl (fun hc => ?_) (fun hc => ?_)
  · replace h := (if_pos hc).symm.trans h
    refine Rn.weakm [true, true, true, true, true, false] ?_
    exact KO (s.1, s.2.1, s.2.2.2) (Option.some.inj h).symm
  · replace h := (if_neg hc).symm.trans h
    refine zi_aloadn (q := 24) dX12_laySpot_23 rfl rfl ?_
    refine zi_getA (q := 27) dX12_laySpot_24 fl_12_104 so_68 rfl rfl ?_
    refine zi_iload (q := 29) dX12_laySpot_27 rfl rfl ?_
    obtain ⟨hz3, h⟩ := zg_some h
    refine zi_iald2 (q := 30) dX12_laySpot_29 so_100 (zin_vp hz3) rfl rfl ?_
    refine zi_iloadn (q := 31) dX12_laySpot_30 rfl rfl ?_
    refine zi_icmpne (q := 89) (q2 := 34) dX12_laySpot_31 (by decide) rfl (fun hc => ?_) (fun hc => ?_)
    · replace h := (if_neg hc).symm.trans h
      exact rj_X12_laySpot_89 x1 x2 s.1 s.2.1 s.2.2.1 _ _ _ _ h KI
    · replace h := (if_pos hc).symm.trans h
      refine zi_iloadn (q := 35) dX12_laySpot_34 rfl rfl ?_
      refine zi_bipush (q := 37) dX12_laySpot_35 kb_16 rfl ?_
      refine zi_iload (q := 39) dX12_laySpot_37 rfl rfl ?_
      refine zi_aloadn (q := 40) dX12_laySpot_39 rfl rfl ?_
      refine zi_getI (q := 43) dX12_laySpot_40 fl_12_116 (by decide) so_68 rfl ?_
      obtain ⟨hz4, h⟩ := zg_some h
      refine zi_irem2 (q := 44) dX12_laySpot_43 (znz_of hz4) rfl ?_
      refine zi_imul (q := 45) dX12_laySpot_44 rfl ?_
      refine zi_aloadn (q := 46) dX12_laySpot_45 rfl rfl ?_
      refine zi_getA (q := 49) dX12_laySpot_46 fl_12_22 so_68 rfl rfl ?_
      refine zi_iload (q := 51) dX12_laySpot_49 rfl rfl ?_
      obtain ⟨hz5, h⟩ := zg_some h
      refine zi_iald2 (q := 52) dX12_laySpot_51 so_73 (zin_vp hz5) rfl rfl ?_
      refine zi_imul (q := 53) dX12_laySpot_52 rfl ?_
      refine zi_iadd (q := 54) dX12_laySpot_53 rfl ?_
      refine zi_istoren (q := 55) (L' := [some (.ref 68), some (.int x1), some (.int x2), some (.int (s.1 + ((16 * (zrem s.2.2.1 (s.2.2.2.1 68 2))) * (s.2.2.2.1 73 s.2.2.1.toNatClampNeg)))), some (.int s.2.1), some (.int s.2.2.1)]) dX12_laySpot_54 (by decide) rfl rfl rfl ?_
      refine zi_iload (q := 57) dX12_laySpot_55 rfl rfl ?_
      refine zi_bipush (q := 59) dX12_laySpot_57 kb_16 rfl ?_
      refine zi_iload (q := 61) dX12_laySpot_59 rfl rfl ?_
      refine zi_aloadn (q := 62) dX12_laySpot_61 rfl rfl ?_
      refine zi_getI (q := 65) dX12_laySpot_62 fl_12_116 (by decide) so_68 rfl ?_
      obtain ⟨hz6, h⟩ := zg_some h
      refine zi_idiv (q := 66) dX12_laySpot_65 (znz_of hz6) rfl ?_
      refine zi_imul (q := 67) dX12_laySpot_66 rfl ?_
      refine zi_aloadn (q := 68) dX12_laySpot_67 rfl rfl ?_
      refine zi_getA (q := 71) dX12_laySpot_68 fl_12_22 so_68 rfl rfl ?_
      refine zi_iload (q := 73) dX12_laySpot_71 rfl rfl ?_
      obtain ⟨hz7, h⟩ := zg_some h
      refine zi_iald2 (q := 74) dX12_laySpot_73 so_73 (zin_vp hz7) rfl rfl ?_
      refine zi_imul (q := 75) dX12_laySpot_74 rfl ?_
      refine zi_iadd (q := 76) dX12_laySpot_75 rfl ?_
      refine zi_istore (q := 78) (L' := [some (.ref 68), some (.int x1), some (.int x2), some (.int (s.1 + ((16 * (zrem s.2.2.1 (s.2.2.2.1 68 2))) * (s.2.2.2.1 73 s.2.2.1.toNatClampNeg)))), some (.int (s.2.1 + ((16 * (s.2.2.1 / (s.2.2.2.1 68 2))) * (s.2.2.2.1 73 s.2.2.1.toNatClampNeg)))), some (.int s.2.2.1)]) dX12_laySpot_76 (by decide) rfl rfl rfl ?_
      refine zi_aloadn (q := 79) dX12_laySpot_78 rfl rfl ?_
      refine zi_getA (q := 82) dX12_laySpot_79 fl_12_25 so_68 rfl rfl ?_
      refine zi_iload (q := 84) dX12_laySpot_82 rfl rfl ?_
      refine zi_aloadn (q := 85) dX12_laySpot_84 rfl rfl ?_
      refine zi_getI (q := 88) dX12_laySpot_85 fl_12_209 (by decide) so_68 rfl ?_
      obtain ⟨hz8, h⟩ := zg_some h
      refine zi_iast2 (q := 89) dX12_laySpot_88 so_74 (zin_vp hz8) rfl rfl ?_
      exact rj_X12_laySpot_89 x1 x2 (s.1 + ((16 * (zrem s.2.2.1 (s.2.2.2.1 68 2))) * (s.2.2.2.1 73 s.2.2.1.toNatClampNeg))) (s.2.1 + ((16 * (s.2.2.1 / (s.2.2.2.1 68 2))) * (s.2.2.2.1 73 s.2.2.1.toNatClampNeg))) s.2.2.1 _ _ _ _ h KI
set_option maxRecDepth 20000 in
theorem r_X12_laySpot {E : Nat × (Nat → Int32)} (x1 : Int32) (m : zM) (x : zM) (h : f_X12_laySpot x1 m = some x) : zMet E zX12_laySpot [.ref 68, .int x1] zSH m none zSH x := by
  refine zMet.of (L0 := [some (.ref 68), some (.int x1), none, none, none, none]) rfl trivial (Nat.le_of_ble_eq_true rfl) rfl ?_
  unfold f_X12_laySpot at h
  refine zi_aloadn (q := 1) dX12_laySpot_0 rfl rfl ?_
  refine zi_iloadn (q := 2) dX12_laySpot_1 rfl rfl ?_
  obtain ⟨r1, hr1, h⟩ := Option.bind_eq_some_iff.mp h
  refine zc_V2 (q := 5) (st := []) (S1 := [.int r1]) (r_X12_massOf x1 _ r1 hr1) dX12_laySpot_2 cb_X12_massOf k6_29 k6_31 ks_X12_massOf ⟨by decide, by decide⟩ so_68 rfl rfl rfl (Nat.le_of_ble_eq_true rfl) (Or.inl rfl) rfl rfl ?_
  refine zi_istoren (q := 6) (L' := [some (.ref 68), some (.int x1), some (.int r1), none, none, none]) dX12_laySpot_5 (by decide) rfl rfl rfl ?_
  refine zi_iconst (q := 7) dX12_laySpot_6 ki_0 rfl ?_
  refine zi_istoren (q := 8) (L' := [some (.ref 68), some (.int x1), some (.int r1), some (.int 0), none, none]) dX12_laySpot_7 (by decide) rfl rfl rfl ?_
  refine zi_iconst (q := 9) dX12_laySpot_8 ki_0 rfl ?_
  refine zi_istore (q := 11) (L' := [some (.ref 68), some (.int x1), some (.int r1), some (.int 0), some (.int 0), none]) dX12_laySpot_9 (by decide) rfl rfl rfl ?_
  refine zi_iconst (q := 12) dX12_laySpot_11 ki_0 rfl ?_
  refine zi_istore (q := 14) (L' := [some (.ref 68), some (.int x1), some (.int r1), some (.int 0), some (.int 0), some (.int 0)]) dX12_laySpot_12 (by decide) rfl rfl rfl ?_
  obtain ⟨r9, hr9, h⟩ := Option.bind_eq_some_iff.mp h
  refine zloop_rn (P := fun w : (Int32 × Int32 × Int32 × zM) => Rn E zX12_laySpot 14 [some (.ref 68), some (.int x1), some (.int r1), some (.int w.1), some (.int w.2.1), some (.int w.2.2.1)] [] zSH w.2.2.2 none zSH x) (X := fun w : (Int32 × Int32 × zM) => Rn E zX12_laySpot 95 [some (.ref 68), some (.int x1), some (.int r1), some (.int w.1), some (.int w.2.1), none] [] zSH w.2.2 none zSH x) (fun w w0 hb KI KX => rb_X12_laySpot_14 x1 r1 w _ _ w0 hb KI KX) zFU _ r9 hr9 ?_
  show Rn E zX12_laySpot 95 [some (.ref 68), some (.int x1), some (.int r1), some (.int r9.1), some (.int r9.2.1), none] [] zSH r9.2.2 none zSH x
  refine zi_aloadn (q := 96) dX12_laySpot_95 rfl rfl ?_
  refine zi_getA (q := 99) dX12_laySpot_96 fl_12_47 so_68 rfl rfl ?_
  refine zi_aloadn (q := 100) dX12_laySpot_99 rfl rfl ?_
  refine zi_getI (q := 103) dX12_laySpot_100 fl_12_209 (by decide) so_68 rfl ?_
  refine zi_iloadn (q := 104) dX12_laySpot_103 rfl rfl ?_
  obtain ⟨hz10, h⟩ := zg_some h
  refine zi_iast2 (q := 105) dX12_laySpot_104 so_81 (zin_vp hz10) rfl rfl ?_
  refine zi_aloadn (q := 106) dX12_laySpot_105 rfl rfl ?_
  refine zi_getA (q := 109) dX12_laySpot_106 fl_12_50 so_68 rfl rfl ?_
  refine zi_aloadn (q := 110) dX12_laySpot_109 rfl rfl ?_
  refine zi_getI (q := 113) dX12_laySpot_110 fl_12_209 (by decide) so_68 rfl ?_
  refine zi_aloadn (q := 114) dX12_laySpot_113 rfl rfl ?_
  refine zi_iloadn (q := 115) dX12_laySpot_114 rfl rfl ?_
  obtain ⟨r11, hr11, h⟩ := Option.bind_eq_some_iff.mp h
  refine zc_V2 (q := 118) (st := [.int (r9.2.2.1 68 20), .ref 82]) (S1 := [.int r11, .int (r9.2.2.1 68 20), .ref 82]) (r_X12_sizeOf x1 _ r11 hr11) dX12_laySpot_115 cb_X12_sizeOf k6_37 k6_39 ks_X12_sizeOf ⟨by decide, by decide⟩ so_68 rfl rfl rfl (Nat.le_of_ble_eq_true rfl) (Or.inl rfl) rfl rfl ?_
  obtain ⟨hz12, h⟩ := zg_some h
  refine zi_iast2 (q := 119) dX12_laySpot_118 so_82 (zin_vp hz12) rfl rfl ?_
  refine zi_aloadn (q := 120) dX12_laySpot_119 rfl rfl ?_
  refine zi_getA (q := 123) dX12_laySpot_120 fl_12_53 so_68 rfl rfl ?_
  refine zi_aloadn (q := 124) dX12_laySpot_123 rfl rfl ?_
  refine zi_getI (q := 127) dX12_laySpot_124 fl_12_209 (by decide) so_68 rfl ?_
  refine zi_iloadn (q := 128) dX12_laySpot_127 rfl rfl ?_
  obtain ⟨hz13, h⟩ := zg_some h
  refine zi_iast2 (q := 129) dX12_laySpot_128 so_83 (zin_vp hz13) rfl rfl ?_
  refine zi_aloadn (q := 130) dX12_laySpot_129 rfl rfl ?_
  refine zi_getA (q := 133) dX12_laySpot_130 fl_12_56 so_68 rfl rfl ?_
  refine zi_aloadn (q := 134) dX12_laySpot_133 rfl rfl ?_
  refine zi_getI (q := 137) dX12_laySpot_134 fl_12_209 (by decide) so_68 rfl ?_
  refine zi_iloadn (q := 138) dX12_laySpot_137 rfl rfl ?_
  refine zi_iloadn (q := 139) dX12_laySpot_138 rfl rfl ?_
  obtain ⟨hz14, h⟩ := zg_some h
  refine zi_idiv (q := 140) dX12_laySpot_139 (znz_of hz14) rfl ?_
  obtain ⟨hz15, h⟩ := zg_some h
  refine zi_iast2 (q := 141) dX12_laySpot_140 so_84 (zin_vp hz15) rfl rfl ?_
  refine zi_aloadn (q := 142) dX12_laySpot_141 rfl rfl ?_
  refine zi_getA (q := 145) dX12_laySpot_142 fl_12_59 so_68 rfl rfl ?_
  refine zi_aloadn (q := 146) dX12_laySpot_145 rfl rfl ?_
  refine zi_getI (q := 149) dX12_laySpot_146 fl_12_209 (by decide) so_68 rfl ?_
  refine zi_iload (q := 151) dX12_laySpot_149 rfl rfl ?_
  refine zi_iloadn (q := 152) dX12_laySpot_151 rfl rfl ?_
  obtain ⟨hz16, h⟩ := zg_some h
  refine zi_idiv (q := 153) dX12_laySpot_152 (znz_of hz16) rfl ?_
  obtain ⟨hz17, h⟩ := zg_some h
  refine zi_iast2 (q := 154) dX12_laySpot_153 so_85 (zin_vp hz17) rfl rfl ?_
  refine zi_aloadn (q := 155) dX12_laySpot_154 rfl rfl ?_
  refine zi_getA (q := 158) dX12_laySpot_155 fl_12_62 so_68 rfl rfl ?_
  refine zi_aloadn (q := 159) dX12_laySpot_158 rfl rfl ?_
  refine zi_getI (q := 162) dX12_laySpot_159 fl_12_209 (by decide) so_68 rfl ?_
  refine zi_iconst (q := 163) dX12_laySpot_162 ki_m1 rfl ?_
  obtain ⟨hz18, h⟩ := zg_some h
  refine zi_iast2 (q := 164) dX12_laySpot_163 so_86 (zin_vp hz18) rfl rfl ?_
  refine zi_aloadn (q := 165) dX12_laySpot_164 rfl rfl ?_
  refine zi_dup (q := 166) dX12_laySpot_165 rfl rfl ?_
  refine zi_getI (q := 169) dX12_laySpot_166 fl_12_209 (by decide) so_68 rfl ?_
  refine zi_iconst (q := 170) dX12_laySpot_169 ki_1 rfl ?_
  refine zi_iadd (q := 171) dX12_laySpot_170 rfl ?_
  refine zi_putI (q := 174) dX12_laySpot_171 pl_12_209 so_68 rfl ?_
  cases h
  exact zi_ret _ dX12_laySpot_174
