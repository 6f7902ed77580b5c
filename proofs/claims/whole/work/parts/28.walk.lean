set_option maxRecDepth 20000 in
theorem rj_X12_isNearSpot_58 {E : Nat × (Nat → Int32)} (x1 : Int32) (x3 : Int32) (s0 : Int32) (m : zM) (rv : Option Value) (m' : zM) (x : ((Int32 × Int32) ⊕ (Int32))) (h : j_X12_isNearSpot_58 x1 x3 s0 m = some x) (KI : ∀ s1 : (Int32 × Int32), x = .inl s1 → Rn E zX12_isNearSpot 18 [some (.ref 68), some (.int x1), some (.int s1.1), some (.int s1.2), none] [] zSH m rv zSH m') : Rn E zX12_isNearSpot 58 [some (.ref 68), some (.int x1), none, some (.int x3), none] [.int s0] zSH m rv zSH m' := by
  unfold j_X12_isNearSpot_58 at h
  refine zi_istoren (q := 59) (L' := [some (.ref 68), some (.int x1), some (.int s0), some (.int x3), none]) dX12_isNearSpot_58 (by decide) rfl rfl rfl ?_
  refine zi_iinc (q := 62) (v := x3 + 1) (L' := [some (.ref 68), some (.int x1), some (.int s0), some (.int (x3 + 1)), none]) dX12_isNearSpot_59 rfl (by rw [ki_1]) (by decide) rfl rfl rfl ?_
  refine zi_goto (q := 18) dX12_isNearSpot_62 (by decide) ?_
  exact KI (s0, (x3 + 1)) (Option.some.inj h).symm
set_option maxRecDepth 20000 in
theorem rj_X12_isNearSpot_53 {E : Nat × (Nat → Int32)} (x1 : Int32) (x3 : Int32) (m : zM) (rv : Option Value) (m' : zM) (x : ((Int32 × Int32) ⊕ (Int32))) (h : j_X12_isNearSpot_53 x1 x3 m = some x) (KI : ∀ s1 : (Int32 × Int32), x = .inl s1 → Rn E zX12_isNearSpot 18 [some (.ref 68), some (.int x1), some (.int s1.1), some (.int s1.2), none] [] zSH m rv zSH m') : Rn E zX12_isNearSpot 53 [some (.ref 68), some (.int x1), none, some (.int x3), none] [] zSH m rv zSH m' := by
  unfold j_X12_isNearSpot_53 at h
  refine zi_iconst (q := 54) dX12_isNearSpot_53 ki_1 rfl ?_
  refine zi_goto (q := 58) dX12_isNearSpot_54 (by decide) ?_
  exact rj_X12_isNearSpot_58 x1 x3 1 _ _ _ _ h KI
set_option maxRecDepth 20000 in
theorem rj_X12_isNearSpot_57 {E : Nat × (Nat → Int32)} (x1 : Int32) (x3 : Int32) (m : zM) (rv : Option Value) (m' : zM) (x : ((Int32 × Int32) ⊕ (Int32))) (h : j_X12_isNearSpot_57 x1 x3 m = some x) (KI : ∀ s1 : (Int32 × Int32), x = .inl s1 → Rn E zX12_isNearSpot 18 [some (.ref 68), some (.int x1), some (.int s1.1), some (.int s1.2), none] [] zSH m rv zSH m') : Rn E zX12_isNearSpot 57 [some (.ref 68), some (.int x1), none, some (.int x3), none] [] zSH m rv zSH m' := by
  unfold j_X12_isNearSpot_57 at h
  refine zi_iconst (q := 58) dX12_isNearSpot_57 ki_0 rfl ?_
  exact rj_X12_isNearSpot_58 x1 x3 0 _ _ _ _ h KI
set_option maxRecDepth 20000 in
theorem rb_X12_isNearSpot_18 {E : Nat × (Nat → Int32)} (x1 : Int32) (m : zM) (s : (Int32 × Int32)) (rv : Option Value) (m' : zM) (x : ((Int32 × Int32) ⊕ (Int32))) (h : b_X12_isNearSpot_18 x1 m s = some x) (KI : ∀ s1 : (Int32 × Int32), x = .inl s1 → Rn E zX12_isNearSpot 18 [some (.ref 68), some (.int x1), some (.int s1.1), some (.int s1.2), none] [] zSH m rv zSH m') (KO : ∀ r1 : (Int32), x = .inr r1 → Rn E zX12_isNearSpot 65 [none, none, some (.int r1), none, none] [] zSH m rv zSH m') : Rn E zX12_isNearSpot 18 [some (.ref 68), some (.int x1), some (.int s.1), some (.int s.2), none] [] zSH m rv zSH m' := by
  unfold b_X12_isNearSpot_18 at h
  refine zi_iloadn (q := 19) dX12_isNearSpot_18 rfl rfl ?_
  refine zi_bipush (q := 21) dX12_isNearSpot_19 kb_8 rfl ?_
  refine zi_icmpge (q := 65) (q2 := 24) dX12_isNearSpot_21 (by decide) rfl (fun hc => ?_) (fun hc => ?_)
  · replace h := (if_pos hc).symm.trans h
    refine Rn.weakm [false, false, true, false, false] ?_
    exact KO s.1 (Option.some.inj h).symm
  · replace h := (if_neg hc).symm.trans h
    refine zi_aloadn (q := 25) dX12_isNearSpot_24 rfl rfl ?_
    refine zi_iloadn (q := 26) dX12_isNearSpot_25 rfl rfl ?_
    refine zi_iloadn (q := 27) dX12_isNearSpot_26 rfl rfl ?_
    obtain ⟨r2, hr2, h⟩ := Option.bind_eq_some_iff.mp h
    refine zc_V2 (q := 30) (st := []) (S1 := [.int r2]) (r_X12_beside x1 s.2 _ r2 hr2) dX12_isNearSpot_27 cb_X12_beside k5_222 k5_224 ks_X12_beside ⟨by decide, by decide⟩ so_68 rfl rfl rfl (Nat.le_of_ble_eq_true rfl) (Or.inl rfl) rfl rfl ?_
    refine zi_istore (q := 32) (L' := [some (.ref 68), some (.int x1), some (.int s.1), some (.int s.2), some (.int r2)]) dX12_isNearSpot_30 (by decide) rfl rfl rfl ?_
    refine zi_iloadn (q := 33) dX12_isNearSpot_32 rfl rfl ?_
    refine zi_ifne (q := 53) (q2 := 36) dX12_isNearSpot_33 (by decide) rfl (fun hc => ?_) (fun hc => ?_)
    · replace h := (if_neg hc).symm.trans h
      refine Rn.weakm [true, true, false, true, false] ?_
      exact rj_X12_isNearSpot_53 x1 s.2 _ _ _ _ h KI
    · replace h := (if_pos hc).symm.trans h
      refine zi_iload (q := 38) dX12_isNearSpot_36 rfl rfl ?_
      refine zi_iconst (q := 39) dX12_isNearSpot_38 ki_m1 rfl ?_
      refine zi_icmpeq (q := 57) (q2 := 42) dX12_isNearSpot_39 (by decide) rfl (fun hc => ?_) (fun hc => ?_)
      · replace h := (if_pos hc).symm.trans h
        refine Rn.weakm [true, true, false, true, false] ?_
        exact rj_X12_isNearSpot_57 x1 s.2 _ _ _ _ h KI
      · replace h := (if_neg hc).symm.trans h
        refine zi_aloadn (q := 43) dX12_isNearSpot_42 rfl rfl ?_
        refine zi_getA (q := 46) dX12_isNearSpot_43 fl_12_25 so_68 rfl rfl ?_
        refine zi_iload (q := 48) dX12_isNearSpot_46 rfl rfl ?_
        obtain ⟨hz3, h⟩ := zg_some h
        refine zi_iald2 (q := 49) dX12_isNearSpot_48 so_74 (zin_vp hz3) rfl rfl ?_
        refine zi_iconst (q := 50) dX12_isNearSpot_49 ki_m1 rfl ?_
        refine zi_icmpeq (q := 57) (q2 := 53) dX12_isNearSpot_50 (by decide) rfl (fun hc => ?_) (fun hc => ?_)
        · replace h := (if_pos hc).symm.trans h
          refine Rn.weakm [true, true, false, true, false] ?_
          exact rj_X12_isNearSpot_57 x1 s.2 _ _ _ _ h KI
        · replace h := (if_neg hc).symm.trans h
          refine Rn.weakm [true, true, false, true, false] ?_
          exact rj_X12_isNearSpot_53 x1 s.2 _ _ _ _ h KI
set_option maxRecDepth 20000 in
theorem rj_X12_isNearSpot_15 {E : Nat × (Nat → Int32)} (x1 : Int32) (s0 : Int32) (m : zM)  (x : Bool) (h : j_X12_isNearSpot_15 x1 s0 m = some x) : Rn E zX12_isNearSpot 15 [some (.ref 68), some (.int x1), none, none, none] [.int s0] zSH m (some (.int (bi x))) zSH m := by
  unfold j_X12_isNearSpot_15 at h
  refine zi_istoren (q := 16) (L' := [some (.ref 68), some (.int x1), some (.int s0), none, none]) dX12_isNearSpot_15 (by decide) rfl rfl rfl ?_
  refine zi_iconst (q := 17) dX12_isNearSpot_16 ki_0 rfl ?_
  refine zi_istoren (q := 18) (L' := [some (.ref 68), some (.int x1), some (.int s0), some (.int 0), none]) dX12_isNearSpot_17 (by decide) rfl rfl rfl ?_
  obtain ⟨r4, hr4, h⟩ := Option.bind_eq_some_iff.mp h
  refine zloop_rn (P := fun w : (Int32 × Int32) => Rn E zX12_isNearSpot 18 [some (.ref 68), some (.int x1), some (.int w.1), some (.int w.2), none] [] zSH m (some (.int (bi x))) zSH m) (X := fun w : (Int32) => Rn E zX12_isNearSpot 65 [none, none, some (.int w), none, none] [] zSH m (some (.int (bi x))) zSH m) (fun w w0 hb KI KX => rb_X12_isNearSpot_18 x1 m w _ _ w0 hb KI KX) zFU _ r4 hr4 ?_
  show Rn E zX12_isNearSpot 65 [none, none, some (.int r4), none, none] [] zSH m (some (.int (bi x))) zSH m
  refine zi_iloadn (q := 66) dX12_isNearSpot_65 rfl rfl ?_
  obtain ⟨hz5, h⟩ := zg_some h
  cases h
  rw [show (some (Value.int (bi (decide (r4 = 1))))) = some (.int r4) from by rw [zb_dec hz5]]
  exact zi_ret _ dX12_isNearSpot_66
set_option maxRecDepth 20000 in
theorem r_X12_isNearSpot {E : Nat × (Nat → Int32)} (x1 : Int32) (m : zM) (x : Bool) (h : f_X12_isNearSpot x1 m = some x) : zMet E zX12_isNearSpot [.ref 68, .int x1] zSH m (some (.int (bi x))) zSH m := by
  refine zMet.of (L0 := [some (.ref 68), some (.int x1), none, none, none]) rfl (zfit_bi _) (Nat.le_of_ble_eq_true rfl) rfl ?_
  unfold f_X12_isNearSpot at h
  refine zi_aloadn (q := 1) dX12_isNearSpot_0 rfl rfl ?_
  refine zi_getA (q := 4) dX12_isNearSpot_1 fl_12_25 so_68 rfl rfl ?_
  refine zi_iloadn (q := 5) dX12_isNearSpot_4 rfl rfl ?_
  obtain ⟨hz1, h⟩ := zg_some h
  refine zi_iald2 (q := 6) dX12_isNearSpot_5 so_74 (zin_vp hz1) rfl rfl ?_
  refine zi_iconst (q := 7) dX12_isNearSpot_6 ki_m1 rfl ?_
  refine zi_icmpeq (q := 14) (q2 := 10) dX12_isNearSpot_7 (by decide) rfl (fun hc => ?_) (fun hc => ?_)
  · replace h := (if_pos hc).symm.trans h
    refine zi_iconst (q := 15) dX12_isNearSpot_14 ki_0 rfl ?_
    exact rj_X12_isNearSpot_15 x1 0 _ _ h
  · replace h := (if_neg hc).symm.trans h
    refine zi_iconst (q := 11) dX12_isNearSpot_10 ki_1 rfl ?_
    refine zi_goto (q := 15) dX12_isNearSpot_11 (by decide) ?_
    exact rj_X12_isNearSpot_15 x1 1 _ _ h
set_option maxRecDepth 20000 in
theorem rj_X12_drift_86 {E : Nat × (Nat → Int32)} (x1 : Int32) (m : zM) (rv : Option Value) (m' : zM) (x : ((Int32 × zM) ⊕ (zM))) (h : j_X12_drift_86 x1 m = some x) (KI : ∀ s1 : (Int32 × zM), x = .inl s1 → Rn E zX12_drift 2 [some (.ref 68), some (.int s1.1), none] [] zSH s1.2 rv zSH m') : Rn E zX12_drift 86 [some (.ref 68), some (.int x1), none] [] zSH m rv zSH m' := by
  unfold j_X12_drift_86 at h
  refine zi_iinc (q := 89) (v := x1 + 1) (L' := [some (.ref 68), some (.int (x1 + 1)), none]) dX12_drift_86 rfl (by rw [ki_1]) (by decide) rfl rfl rfl ?_
  refine zi_goto (q := 2) dX12_drift_89 (by decide) ?_
  exact KI ((x1 + 1), m) (Option.some.inj h).symm
set_option maxRecDepth 20000 in
theorem rj_X12_drift_84 {E : Nat × (Nat → Int32)} (x1 : Int32) (s0 : Int32) (s1 : Int32) (s2 : Int32) (m : zM) (rv : Option Value) (m' : zM) (x : ((Int32 × zM) ⊕ (zM))) (h : j_X12_drift_84 x1 s0 s1 s2 m = some x) (KI : ∀ s1 : (Int32 × zM), x = .inl s1 → Rn E zX12_drift 2 [some (.ref 68), some (.int s1.1), none] [] zSH s1.2 rv zSH m') : Rn E zX12_drift 84 [some (.ref 68), some (.int x1), none] [.int s0, .int s1, .int s2, .ref 71] zSH m rv zSH m' := by
  unfold j_X12_drift_84 at h
  refine zi_iadd (q := 85) dX12_drift_84 rfl ?_
  obtain ⟨hz6, h⟩ := zg_some h
  refine zi_iast2 (q := 86) dX12_drift_85 so_71 (zin_vp hz6) rfl rfl ?_
  exact rj_X12_drift_86 x1 _ _ _ _ h KI
set_option maxRecDepth 20000 in
theorem rb_X12_drift_2 {E : Nat × (Nat → Int32)}   (s : (Int32 × zM)) (rv : Option Value) (m' : zM) (x : ((Int32 × zM) ⊕ (zM))) (h : b_X12_drift_2  s = some x) (KI : ∀ s1 : (Int32 × zM), x = .inl s1 → Rn E zX12_drift 2 [some (.ref 68), some (.int s1.1), none] [] zSH s1.2 rv zSH m') (KO : ∀ r1 : (zM), x = .inr r1 → Rn E zX12_drift 92 [none, none, none] [] zSH r1 rv zSH m') : Rn E zX12_drift 2 [some (.ref 68), some (.int s.1), none] [] zSH s.2 rv zSH m' := by
  unfold b_X12_drift_2 at h
  refine zi_iloadn (q := 3) dX12_drift_2 rfl rfl ?_
  refine zi_aloadn (q := 4) dX12_drift_3 rfl rfl ?_
  obtain ⟨r1, hr1, h⟩ := Option.bind_eq_some_iff.mp h
  refine zc_V2 (q := 7) (st := [.int s.1]) (S1 := [.int r1, .int s.1]) (r_X12_cells  _ r1 hr1) dX12_drift_4 cb_X12_cells k5_138 k5_140 ks_X12_cells ⟨by decide, by decide⟩ so_68 rfl rfl rfl (Nat.le_of_ble_eq_true rfl) (Or.inl rfl) rfl rfl ?_
  refine zi_icmpge (q := 92) (q2 := 10) dX12_drift_7 (by decide) rfl (fun hc => ?_) (fun hc => ?_)
  · replace h := (if_pos hc).symm.trans h
    refine Rn.weakm [false, false, false] ?_
    exact KO s.2 (Option.some.inj h).symm
  · replace h := (if_neg hc).symm.trans h
    refine zi_aloadn (q := 11) dX12_drift_10 rfl rfl ?_
    refine zi_iloadn (q := 12) dX12_drift_11 rfl rfl ?_
    obtain ⟨r2, hr2, h⟩ := Option.bind_eq_some_iff.mp h
    refine zc_V2 (q := 15) (st := []) (S1 := [.int (bi r2)]) (r_X12_isNearSpot s.1 _ r2 hr2) dX12_drift_12 cb_X12_isNearSpot k6_100 k6_102 ks_X12_isNearSpot ⟨by decide, by decide⟩ so_68 rfl rfl rfl (Nat.le_of_ble_eq_true rfl) (Or.inl rfl) rfl rfl ?_
    refine zi_ifne (q := 86) (q2 := 18) dX12_drift_15 (by decide) rfl (fun hc => ?_) (fun hc => ?_)
    · replace h := (if_neg hc).symm.trans h
      exact rj_X12_drift_86 s.1 _ _ _ _ h KI
    · replace h := (if_pos hc).symm.trans h
      refine zi_aloadn (q := 19) dX12_drift_18 rfl rfl ?_
      refine zi_getA (q := 22) dX12_drift_19 fl_12_19 so_68 rfl rfl ?_
      refine zi_iloadn (q := 23) dX12_drift_22 rfl rfl ?_
      obtain ⟨hz3, h⟩ := zg_some h
      refine zi_iald2 (q := 24) dX12_drift_23 so_72 (zin_vp hz3) rfl rfl ?_
      refine zi_aloadn (q := 25) dX12_drift_24 rfl rfl ?_
      refine zi_getA (q := 28) dX12_drift_25 fl_12_16 so_68 rfl rfl ?_
      refine zi_iloadn (q := 29) dX12_drift_28 rfl rfl ?_
      obtain ⟨hz4, h⟩ := zg_some h
      refine zi_iald2 (q := 30) dX12_drift_29 so_71 (zin_vp hz4) rfl rfl ?_
      refine zi_isub (q := 31) dX12_drift_30 rfl ?_
      refine zi_istoren (q := 32) (L' := [some (.ref 68), some (.int s.1), some (.int ((s.2.1 72 s.1.toNatClampNeg) - (s.2.1 71 s.1.toNatClampNeg)))]) dX12_drift_31 (by decide) rfl rfl rfl ?_
      refine zi_aloadn (q := 33) dX12_drift_32 rfl rfl ?_
      refine zi_getA (q := 36) dX12_drift_33 fl_12_16 so_68 rfl rfl ?_
      refine zi_iloadn (q := 37) dX12_drift_36 rfl rfl ?_
      refine zi_dup2 (q := 38) dX12_drift_37 rfl rfl rfl ?_
      obtain ⟨hz5, h⟩ := zg_some h
      refine zi_iald2 (q := 39) dX12_drift_38 so_71 (zin_vp hz5) rfl rfl ?_
      refine zi_iloadn (q := 40) dX12_drift_39 rfl rfl ?_
      refine zi_aloadn (q := 41) dX12_drift_40 rfl rfl ?_
      refine zi_getA (q := 44) dX12_drift_41 fl_12_44 so_68 rfl rfl ?_
      refine zi_bipush (q := 46) dX12_drift_44 kb_7 rfl ?_
      refine zi_iald2 (q := 47) dX12_drift_46 so_80 vi_7_9 ix_7 rfl ?_
      refine zi_icmple (q := 60) (q2 := 50) dX12_drift_47 (by decide) rfl (fun hc => ?_) (fun hc => ?_)
      · replace h := (if_pos hc).symm.trans h
        refine zi_iloadn (q := 61) dX12_drift_60 rfl rfl ?_
        refine zi_aloadn (q := 62) dX12_drift_61 rfl rfl ?_
        refine zi_getA (q := 65) dX12_drift_62 fl_12_44 so_68 rfl rfl ?_
        refine zi_bipush (q := 67) dX12_drift_65 kb_7 rfl ?_
        refine zi_iald2 (q := 68) dX12_drift_67 so_80 vi_7_9 ix_7 rfl ?_
        refine zi_ineg (q := 69) dX12_drift_68 rfl ?_
        refine zi_icmpge (q := 83) (q2 := 72) dX12_drift_69 (by decide) rfl (fun hc => ?_) (fun hc => ?_)
        · replace h := (if_pos hc).symm.trans h
          refine zi_iloadn (q := 84) dX12_drift_83 rfl rfl ?_
          refine Rn.weakm [true, true, false] ?_
          exact rj_X12_drift_84 s.1 ((s.2.1 72 s.1.toNatClampNeg) - (s.2.1 71 s.1.toNatClampNeg)) (s.2.1 71 s.1.toNatClampNeg) s.1 _ _ _ _ h KI
        · replace h := (if_neg hc).symm.trans h
          refine zi_aloadn (q := 73) dX12_drift_72 rfl rfl ?_
          refine zi_getA (q := 76) dX12_drift_73 fl_12_44 so_68 rfl rfl ?_
          refine zi_bipush (q := 78) dX12_drift_76 kb_7 rfl ?_
          refine zi_iald2 (q := 79) dX12_drift_78 so_80 vi_7_9 ix_7 rfl ?_
          refine zi_ineg (q := 80) dX12_drift_79 rfl ?_
          refine zi_goto (q := 84) dX12_drift_80 (by decide) ?_
          refine Rn.weakm [true, true, false] ?_
          exact rj_X12_drift_84 s.1 (-(s.2.1 80 7)) (s.2.1 71 s.1.toNatClampNeg) s.1 _ _ _ _ h KI
      · replace h := (if_neg hc).symm.trans h
        refine zi_aloadn (q := 51) dX12_drift_50 rfl rfl ?_
        refine zi_getA (q := 54) dX12_drift_51 fl_12_44 so_68 rfl rfl ?_
        refine zi_bipush (q := 56) dX12_drift_54 kb_7 rfl ?_
        refine zi_iald2 (q := 57) dX12_drift_56 so_80 vi_7_9 ix_7 rfl ?_
        refine zi_goto (q := 84) dX12_drift_57 (by decide) ?_
        refine Rn.weakm [true, true, false] ?_
        exact rj_X12_drift_84 s.1 (s.2.1 80 7) (s.2.1 71 s.1.toNatClampNeg) s.1 _ _ _ _ h KI
set_option maxRecDepth 20000 in
theorem r_X12_drift {E : Nat × (Nat → Int32)}  (m : zM) (x : zM) (h : f_X12_drift  m = some x) : zMet E zX12_drift [.ref 68] zSH m none zSH x := by
  refine zMet.of (L0 := [some (.ref 68), none, none]) rfl trivial (Nat.le_of_ble_eq_true rfl) rfl ?_
  unfold f_X12_drift at h
  refine zi_iconst (q := 1) dX12_drift_0 ki_0 rfl ?_
  refine zi_istoren (q := 2) (L' := [some (.ref 68), some (.int 0), none]) dX12_drift_1 (by decide) rfl rfl rfl ?_
  obtain ⟨r7, hr7, h⟩ := Option.bind_eq_some_iff.mp h
  refine zloop_rn (P := fun w : (Int32 × zM) => Rn E zX12_drift 2 [some (.ref 68), some (.int w.1), none] [] zSH w.2 none zSH x) (X := fun w : (zM) => Rn E zX12_drift 92 [none, none, none] [] zSH w none zSH x) (fun w w0 hb KI KX => rb_X12_drift_2  w _ _ w0 hb KI KX) zFU _ r7 hr7 ?_
  show Rn E zX12_drift 92 [none, none, none] [] zSH r7 none zSH x
  cases h
  exact zi_ret _ dX12_drift_92
set_option maxRecDepth 20000 in
theorem rj_X12_frame_57 {E : Nat × (Nat → Int32)} (s0 : Int32) (m : zM)  (x : zM) (h : j_X12_frame_57 s0 m = some x) : Rn E zX12_frame 57 [some (.ref 68)] [.int s0, .ref 68] zSH m none zSH x := by
  unfold j_X12_frame_57 at h
  obtain ⟨hz3, h⟩ := zg_some h
  refine zi_putZ (q := 60) dX12_frame_57 pl_12_206 so_68 hz3 rfl ?_
  refine zi_aloadn (q := 61) dX12_frame_60 rfl rfl ?_
  refine zi_getI (q := 64) dX12_frame_61 fl_12_206 (by decide) so_68 rfl ?_
  refine zi_ifeq (q := 90) (q2 := 67) dX12_frame_64 (by decide) rfl (fun hc => ?_) (fun hc => ?_)
  · replace h := (if_pos hc).symm.trans h
    refine zi_aloadn (q := 91) dX12_frame_90 rfl rfl ?_
    obtain ⟨m4, hm4, h⟩ := Option.bind_eq_some_iff.mp h
    refine zc_V2 (q := 94) (st := []) (S1 := []) (r_X12_layHills  _ m4 hm4) dX12_frame_91 cb_X12_layHills k5_226 k5_228 ks_X12_layHills ⟨by decide, by decide⟩ so_68 rfl rfl rfl (Nat.le_of_ble_eq_true rfl) (Or.inl rfl) rfl rfl ?_
    refine zi_aloadn (q := 95) dX12_frame_94 rfl rfl ?_
    obtain ⟨m5, hm5, h⟩ := Option.bind_eq_some_iff.mp h
    refine zc_V2 (q := 98) (st := []) (S1 := []) (r_X12_laySpots  _ m5 hm5) dX12_frame_95 cb_X12_laySpots k6_17 k6_19 ks_X12_laySpots ⟨by decide, by decide⟩ so_68 rfl rfl rfl (Nat.le_of_ble_eq_true rfl) (Or.inl rfl) rfl rfl ?_
    refine zi_aloadn (q := 99) dX12_frame_98 rfl rfl ?_
    obtain ⟨m6, hm6, h⟩ := Option.bind_eq_some_iff.mp h
    refine zc_V2 (q := 102) (st := []) (S1 := []) (r_X12_layPairs  _ m6 hm6) dX12_frame_99 cb_X12_layPairs k6_41 k6_43 ks_X12_layPairs ⟨by decide, by decide⟩ so_68 rfl rfl rfl (Nat.le_of_ble_eq_true rfl) (Or.inl rfl) rfl rfl ?_
    refine zi_aloadn (q := 103) dX12_frame_102 rfl rfl ?_
    obtain ⟨m7, hm7, h⟩ := Option.bind_eq_some_iff.mp h
    refine zc_V2 (q := 106) (st := []) (S1 := []) (r_X12_followAll  _ m7 hm7) dX12_frame_103 cb_X12_followAll k6_68 k6_70 ks_X12_followAll ⟨by decide, by decide⟩ so_68 rfl rfl rfl (Nat.le_of_ble_eq_true rfl) (Or.inl rfl) rfl rfl ?_
    refine zi_aloadn (q := 107) dX12_frame_106 rfl rfl ?_
    obtain ⟨m8, hm8, h⟩ := Option.bind_eq_some_iff.mp h
    refine zc_V2 (q := 110) (st := []) (S1 := []) (r_X12_beginAll  _ m8 hm8) dX12_frame_107 cb_X12_beginAll k6_92 k6_94 ks_X12_beginAll ⟨by decide, by decide⟩ so_68 rfl rfl rfl (Nat.le_of_ble_eq_true rfl) (Or.inl rfl) rfl rfl ?_
    refine zi_aloadn (q := 111) dX12_frame_110 rfl rfl ?_
    obtain ⟨m9, hm9, h⟩ := Option.bind_eq_some_iff.mp h
    refine zc_V2 (q := 114) (st := []) (S1 := []) (r_X12_drift  _ m9 hm9) dX12_frame_111 cb_X12_drift k6_96 k6_98 ks_X12_drift ⟨by decide, by decide⟩ so_68 rfl rfl rfl (Nat.le_of_ble_eq_true rfl) (Or.inl rfl) rfl rfl ?_
    cases h
    exact zi_ret _ dX12_frame_114
  · replace h := (if_neg hc).symm.trans h
    refine zi_aloadn (q := 68) dX12_frame_67 rfl rfl ?_
    refine zi_dup (q := 69) dX12_frame_68 rfl rfl ?_
    refine zi_getI (q := 72) dX12_frame_69 fl_12_349 (by decide) so_68 rfl ?_
    refine zi_iconst (q := 73) dX12_frame_72 ki_1 rfl ?_
    refine zi_iadd (q := 74) dX12_frame_73 rfl ?_
    refine zi_putI (q := 77) dX12_frame_74 pl_12_349 so_68 rfl ?_
    refine zi_aloadn (q := 78) dX12_frame_77 rfl rfl ?_
    refine zi_aloadn (q := 79) dX12_frame_78 rfl rfl ?_
    refine zi_getI (q := 82) dX12_frame_79 fl_12_194 (by decide) so_68 rfl ?_
    refine zi_iconst (q := 83) dX12_frame_82 ki_1 rfl ?_
    refine zi_iadd (q := 84) dX12_frame_83 rfl ?_
    refine zi_iconst (q := 85) dX12_frame_84 ki_3 rfl ?_
    refine zi_irem2 (q := 86) dX12_frame_85 nz_3 rfl ?_
    refine zi_putI (q := 89) dX12_frame_86 pl_12_194 so_68 rfl ?_
    cases h
    exact zi_ret _ dX12_frame_89
set_option maxRecDepth 20000 in
theorem r_X12_frame {E : Nat × (Nat → Int32)}  (m : zM) (x : zM) (h : f_X12_frame  m = some x) : zMet E zX12_frame [.ref 68] zSH m none zSH x := by
  refine zMet.of (L0 := [some (.ref 68)]) rfl trivial (Nat.le_of_ble_eq_true rfl) rfl ?_
  unfold f_X12_frame at h
  refine zi_aloadn (q := 1) dX12_frame_0 rfl rfl ?_
  refine zi_dup (q := 2) dX12_frame_1 rfl rfl ?_
  refine zi_getI (q := 5) dX12_frame_2 fl_12_200 (by decide) so_68 rfl ?_
  refine zi_iconst (q := 6) dX12_frame_5 ki_1 rfl ?_
  refine zi_iadd (q := 7) dX12_frame_6 rfl ?_
  refine zi_putI (q := 10) dX12_frame_7 pl_12_200 so_68 rfl ?_
  refine zi_aloadn (q := 11) dX12_frame_10 rfl rfl ?_
  refine zi_dup (q := 12) dX12_frame_11 rfl rfl ?_
  refine zi_getI (q := 15) dX12_frame_12 fl_12_340 (by decide) so_68 rfl ?_
  refine zi_iconst (q := 16) dX12_frame_15 ki_1 rfl ?_
  refine zi_iadd (q := 17) dX12_frame_16 rfl ?_
  refine zi_putI (q := 20) dX12_frame_17 pl_12_340 so_68 rfl ?_
  refine zi_aloadn (q := 21) dX12_frame_20 rfl rfl ?_
  obtain ⟨m1, hm1, h⟩ := Option.bind_eq_some_iff.mp h
  refine zc_V2 (q := 24) (st := []) (S1 := []) (r_X12_layRaw  _ m1 hm1) dX12_frame_21 cb_X12_layRaw k5_188 k5_190 ks_X12_layRaw ⟨by decide, by decide⟩ so_68 rfl rfl rfl (Nat.le_of_ble_eq_true rfl) (Or.inl rfl) rfl rfl ?_
  refine zi_aloadn (q := 25) dX12_frame_24 rfl rfl ?_
  refine zi_iconst (q := 26) dX12_frame_25 ki_0 rfl ?_
  refine zi_putI (q := 29) dX12_frame_26 pl_12_209 so_68 rfl ?_
  refine zi_aloadn (q := 30) dX12_frame_29 rfl rfl ?_
  refine zi_aloadn (q := 31) dX12_frame_30 rfl rfl ?_
  obtain ⟨r2, hr2, h⟩ := Option.bind_eq_some_iff.mp h
  refine zc_V2 (q := 34) (st := [.ref 68]) (S1 := [.int r2, .ref 68]) (r_X12_spanOf  _ r2 hr2) dX12_frame_31 cb_X12_spanOf k5_208 k5_210 ks_X12_spanOf ⟨by decide, by decide⟩ so_68 rfl rfl rfl (Nat.le_of_ble_eq_true rfl) (Or.inl rfl) rfl rfl ?_
  refine zi_putI (q := 37) dX12_frame_34 pl_12_203 so_68 rfl ?_
  refine zi_aloadn (q := 38) dX12_frame_37 rfl rfl ?_
  refine zi_aloadn (q := 39) dX12_frame_38 rfl rfl ?_
  refine zi_getI (q := 42) dX12_frame_39 fl_12_203 (by decide) so_68 rfl ?_
  refine zi_aloadn (q := 43) dX12_frame_42 rfl rfl ?_
  refine zi_getA (q := 46) dX12_frame_43 fl_12_44 so_68 rfl rfl ?_
  refine zi_bipush (q := 48) dX12_frame_46 kb_8 rfl ?_
  refine zi_iald2 (q := 49) dX12_frame_48 so_80 vi_8_9 ix_8 rfl ?_
  refine zi_icmple (q := 56) (q2 := 52) dX12_frame_49 (by decide) rfl (fun hc => ?_) (fun hc => ?_)
  · replace h := (if_pos hc).symm.trans h
    refine zi_iconst (q := 57) dX12_frame_56 ki_0 rfl ?_
    exact rj_X12_frame_57 0 _ _ h
  · replace h := (if_neg hc).symm.trans h
    refine zi_iconst (q := 53) dX12_frame_52 ki_1 rfl ?_
    refine zi_goto (q := 57) dX12_frame_53 (by decide) ?_
    exact rj_X12_frame_57 1 _ _ h
set_option maxRecDepth 20000 in
theorem rb_X12_frames_32 {E : Nat × (Nat → Int32)} (x1 : Int32) (x2 : Int32)  (s : (Int32 × zM)) (rv : Option Value) (m' : zM) (x : ((Int32 × zM) ⊕ (zM))) (h : b_X12_frames_32 x1 x2 s = some x) (KI : ∀ s1 : (Int32 × zM), x = .inl s1 → Rn E zX12_frames 32 [some (.ref 68), some (.int x1), some (.int x2), some (.int s1.1)] [] zSH s1.2 rv zSH m') (KO : ∀ r1 : (zM), x = .inr r1 → Rn E zX12_frames 47 [some (.ref 68), none, some (.int x2), none] [] zSH r1 rv zSH m') : Rn E zX12_frames 32 [some (.ref 68), some (.int x1), some (.int x2), some (.int s.1)] [] zSH s.2 rv zSH m' := by
  unfold b_X12_frames_32 at h
  refine zi_iloadn (q := 33) dX12_frames_32 rfl rfl ?_
  refine zi_iloadn (q := 34) dX12_frames_33 rfl rfl ?_
  refine zi_icmpge (q := 47) (q2 := 37) dX12_frames_34 (by decide) rfl (fun hc => ?_) (fun hc => ?_)
  · replace h := (if_pos hc).symm.trans h
    refine Rn.weakm [true, false, true, false] ?_
    exact KO s.2 (Option.some.inj h).symm
  · replace h := (if_neg hc).symm.trans h
    refine zi_aloadn (q := 38) dX12_frames_37 rfl rfl ?_
    obtain ⟨m4, hm4, h⟩ := Option.bind_eq_some_iff.mp h
    refine zc_V2 (q := 41) (st := []) (S1 := []) (r_X12_frame  _ m4 hm4) dX12_frames_38 cb_X12_frame k5_184 k5_186 ks_X12_frame ⟨by decide, by decide⟩ so_68 rfl rfl rfl (Nat.le_of_ble_eq_true rfl) (Or.inl rfl) rfl rfl ?_
    refine zi_iinc (q := 44) (v := s.1 + 1) (L' := [some (.ref 68), some (.int x1), some (.int x2), some (.int (s.1 + 1))]) dX12_frames_41 rfl (by rw [ki_1]) (by decide) rfl rfl rfl ?_
    refine zi_goto (q := 32) dX12_frames_44 (by decide) ?_
    exact KI ((s.1 + 1), m4) (Option.some.inj h).symm
set_option maxRecDepth 20000 in
theorem r_X12_frames {E : Nat × (Nat → Int32)} (x1 : Int32) (m : zM) (x : (Int32 × zM)) (h : f_X12_frames x1 m = some x) : zMet E zX12_frames [.ref 68, .int x1] zSH m (some (.int x.1)) zSH x.2 := by
  refine zMet.of (L0 := [some (.ref 68), some (.int x1), none, none]) rfl rfl (Nat.le_of_ble_eq_true rfl) rfl ?_
  unfold f_X12_frames at h
  refine zi_aloadn (q := 1) dX12_frames_0 rfl rfl ?_
  obtain ⟨r1, hr1, h⟩ := Option.bind_eq_some_iff.mp h
  refine zc_V2 (q := 4) (st := []) (S1 := [.int (bi r1)]) (r_X12_isGlass  _ r1 hr1) dX12_frames_1 cb_X12_isGlass k5_82 k5_84 ks_X12_isGlass ⟨by decide, by decide⟩ so_68 rfl rfl rfl (Nat.le_of_ble_eq_true rfl) (Or.inl rfl) rfl rfl ?_
  refine zi_ifne (q := 11) (q2 := 7) dX12_frames_4 (by decide) rfl (fun hc => ?_) (fun hc => ?_)
  · replace h := (if_neg hc).symm.trans h
    refine zi_iloadn (q := 12) dX12_frames_11 rfl rfl ?_
    refine zi_iconst (q := 13) dX12_frames_12 ki_1 rfl ?_
    refine zi_bipush (q := 15) dX12_frames_13 kb_20 rfl ?_
    obtain ⟨r2, hr2, h⟩ := Option.bind_eq_some_iff.mp h
    refine zc_S2 (q := 18) (st := []) (S1 := [.int (bi r2)]) (r_X12_within x1 1 20 _ r2 hr2) dX12_frames_15 cb_X12_within k5_71 k5_72 ⟨by decide, by decide⟩ rfl (Nat.le_of_ble_eq_true rfl) (Or.inl rfl) rfl rfl ?_
    refine zi_ifne (q := 25) (q2 := 21) dX12_frames_18 (by decide) rfl (fun hc => ?_) (fun hc => ?_)
    · replace h := (if_neg hc).symm.trans h
      refine zi_aloadn (q := 26) dX12_frames_25 rfl rfl ?_
      obtain ⟨r3, hr3, h⟩ := Option.bind_eq_some_iff.mp h
      refine zc_V2 (q := 29) (st := []) (S1 := [.int r3]) (r_X12_eventsAll  _ r3 hr3) dX12_frames_26 cb_X12_eventsAll k5_180 k5_182 ks_X12_eventsAll ⟨by decide, by decide⟩ so_68 rfl rfl rfl (Nat.le_of_ble_eq_true rfl) (Or.inl rfl) rfl rfl ?_
      refine zi_istoren (q := 30) (L' := [some (.ref 68), some (.int x1), some (.int r3), none]) dX12_frames_29 (by decide) rfl rfl rfl ?_
      refine zi_iconst (q := 31) dX12_frames_30 ki_0 rfl ?_
      refine zi_istoren (q := 32) (L' := [some (.ref 68), some (.int x1), some (.int r3), some (.int 0)]) dX12_frames_31 (by decide) rfl rfl rfl ?_
      obtain ⟨r5, hr5, h⟩ := Option.bind_eq_some_iff.mp h
      refine zloop_rn (P := fun w : (Int32 × zM) => Rn E zX12_frames 32 [some (.ref 68), some (.int x1), some (.int r3), some (.int w.1)] [] zSH w.2 (some (.int x.1)) zSH x.2) (X := fun w : (zM) => Rn E zX12_frames 47 [some (.ref 68), none, some (.int r3), none] [] zSH w (some (.int x.1)) zSH x.2) (fun w w0 hb KI KX => rb_X12_frames_32 x1 r3 w _ _ w0 hb KI KX) zFU _ r5 hr5 ?_
      show Rn E zX12_frames 47 [some (.ref 68), none, some (.int r3), none] [] zSH r5 (some (.int x.1)) zSH x.2
      refine zi_aloadn (q := 48) dX12_frames_47 rfl rfl ?_
      obtain ⟨r6, hr6, h⟩ := Option.bind_eq_some_iff.mp h
      refine zc_V2 (q := 51) (st := []) (S1 := [.int r6]) (r_X12_eventsAll  _ r6 hr6) dX12_frames_48 cb_X12_eventsAll k5_180 k5_182 ks_X12_eventsAll ⟨by decide, by decide⟩ so_68 rfl rfl rfl (Nat.le_of_ble_eq_true rfl) (Or.inl rfl) rfl rfl ?_
      refine zi_iloadn (q := 52) dX12_frames_51 rfl rfl ?_
      refine zi_isub (q := 53) dX12_frames_52 rfl ?_
      cases h
      exact zi_ret _ dX12_frames_53
    · replace h := (if_pos hc).symm.trans h
      refine zi_sipush (q := 24) dX12_frames_21 kc_m10002 rfl ?_
      cases h
      exact zi_ret _ dX12_frames_24
  · replace h := (if_pos hc).symm.trans h
    refine zi_sipush (q := 10) dX12_frames_7 kc_m10003 rfl ?_
    cases h
    exact zi_ret _ dX12_frames_10
set_option maxRecDepth 20000 in
theorem r_X2_fact {E : Nat × (Nat → Int32)} (x1 : Int32) (x2 : Int32) (m : zM) (x : Int32) (h : f_X2_fact x1 x2 m = some x) : zMet E zX2_fact [.ref 19, .int x1, .int x2] zSH m (some (.int x)) zSH m := by
  refine zMet.of (L0 := [some (.ref 19), some (.int x1), some (.int x2)]) rfl rfl (Nat.le_of_ble_eq_true rfl) rfl ?_
  unfold f_X2_fact at h
  refine zi_iloadn (q := 1) dX2_fact_0 rfl rfl ?_
  refine zi_ifne (q := 19) (q2 := 4) dX2_fact_1 (by decide) rfl (fun hc => ?_) (fun hc => ?_)
  · replace h := (if_neg hc).symm.trans h
    refine zi_aloadn (q := 20) dX2_fact_19 rfl rfl ?_
    refine zi_getA (q := 23) dX2_fact_20 fl_2_9 so_19 rfl rfl ?_
    refine zi_iloadn (q := 24) dX2_fact_23 rfl rfl ?_
    obtain ⟨hz1, h⟩ := zg_some h
    refine zi_bald2 (q := 25) dX2_fact_24 so_20 (zin_vp hz1) rfl rfl ?_
    refine zi_ifne (q := 30) (q2 := 28) dX2_fact_25 (by decide) rfl (fun hc => ?_) (fun hc => ?_)
    · replace h := (if_neg hc).symm.trans h
      refine zi_iloadn (q := 31) dX2_fact_30 rfl rfl ?_
      refine zi_iconst (q := 32) dX2_fact_31 ki_1 rfl ?_
      refine zi_icmpne (q := 44) (q2 := 35) dX2_fact_32 (by decide) rfl (fun hc => ?_) (fun hc => ?_)
      · replace h := (if_neg hc).symm.trans h
        refine zi_iloadn (q := 45) dX2_fact_44 rfl rfl ?_
        refine zi_iconst (q := 46) dX2_fact_45 ki_2 rfl ?_
        refine zi_icmpne (q := 58) (q2 := 49) dX2_fact_46 (by decide) rfl (fun hc => ?_) (fun hc => ?_)
        · replace h := (if_neg hc).symm.trans h
          refine zi_aloadn (q := 59) dX2_fact_58 rfl rfl ?_
          refine zi_getA (q := 62) dX2_fact_59 fl_2_22 so_19 rfl rfl ?_
          refine zi_iloadn (q := 63) dX2_fact_62 rfl rfl ?_
          obtain ⟨hz2, h⟩ := zg_some h
          refine zi_iald2 (q := 64) dX2_fact_63 so_23 (zin_vp hz2) rfl rfl ?_
          cases h
          exact zi_ret _ dX2_fact_64
        · replace h := (if_pos hc).symm.trans h
          refine zi_aloadn (q := 50) dX2_fact_49 rfl rfl ?_
          refine zi_getA (q := 53) dX2_fact_50 fl_2_19 so_19 rfl rfl ?_
          refine zi_iloadn (q := 54) dX2_fact_53 rfl rfl ?_
          obtain ⟨hz3, h⟩ := zg_some h
          refine zi_iald2 (q := 55) dX2_fact_54 so_22 (zin_vp hz3) rfl rfl ?_
          refine zi_goto (q := 64) dX2_fact_55 (by decide) ?_
          cases h
          exact zi_ret _ dX2_fact_64
      · replace h := (if_pos hc).symm.trans h
        refine zi_aloadn (q := 36) dX2_fact_35 rfl rfl ?_
        refine zi_getA (q := 39) dX2_fact_36 fl_2_15 so_19 rfl rfl ?_
        refine zi_iloadn (q := 40) dX2_fact_39 rfl rfl ?_
        obtain ⟨hz4, h⟩ := zg_some h
        refine zi_iald2 (q := 41) dX2_fact_40 so_21 (zin_vp hz4) rfl rfl ?_
        refine zi_goto (q := 64) dX2_fact_41 (by decide) ?_
        cases h
        exact zi_ret _ dX2_fact_64
    · replace h := (if_pos hc).symm.trans h
      refine zi_iconst (q := 29) dX2_fact_28 ki_m1 rfl ?_
      cases h
      exact zi_ret _ dX2_fact_29
  · replace h := (if_pos hc).symm.trans h
    refine zi_aloadn (q := 5) dX2_fact_4 rfl rfl ?_
    refine zi_getA (q := 8) dX2_fact_5 fl_2_9 so_19 rfl rfl ?_
    refine zi_iloadn (q := 9) dX2_fact_8 rfl rfl ?_
    obtain ⟨hz5, h⟩ := zg_some h
    refine zi_bald2 (q := 10) dX2_fact_9 so_20 (zin_vp hz5) rfl rfl ?_
    refine zi_ifeq (q := 17) (q2 := 13) dX2_fact_10 (by decide) rfl (fun hc => ?_) (fun hc => ?_)
    · replace h := (if_pos hc).symm.trans h
      refine zi_iconst (q := 18) dX2_fact_17 ki_0 rfl ?_
      cases h
      exact zi_ret _ dX2_fact_18
    · replace h := (if_neg hc).symm.trans h
      refine zi_iconst (q := 14) dX2_fact_13 ki_1 rfl ?_
      refine zi_goto (q := 18) dX2_fact_14 (by decide) ?_
      cases h
      exact zi_ret _ dX2_fact_18
set_option maxRecDepth 20000 in
theorem r_X11_finger {E : Nat × (Nat → Int32)} (x1 : Int32) (x2 : Int32) (m : zM) (x : Int32) (h : f_X11_finger x1 x2 m = some x) : zMet E zX11_finger [.ref 0, .int x1, .int x2] zSH m (some (.int x)) zSH m := by
  refine zMet.of (L0 := [some (.ref 0), some (.int x1), some (.int x2)]) rfl rfl (Nat.le_of_ble_eq_true rfl) rfl ?_
  unfold f_X11_finger at h
  refine zi_aloadn (q := 1) dX11_finger_0 rfl rfl ?_
  refine zi_getA (q := 4) dX11_finger_1 fl_11_28 so_0 rfl rfl ?_
  refine zi_getI (q := 7) dX11_finger_4 fl_11_44 (by decide) so_13 rfl ?_
  refine zi_ifne (q := 14) (q2 := 10) dX11_finger_7 (by decide) rfl (fun hc => ?_) (fun hc => ?_)
  · replace h := (if_neg hc).symm.trans h
    refine zi_iloadn (q := 15) dX11_finger_14 rfl rfl ?_
    refine zi_iconst (q := 16) dX11_finger_15 ki_0 rfl ?_
    refine zi_iconst (q := 17) dX11_finger_16 ki_4 rfl ?_
    obtain ⟨r1, hr1, h⟩ := Option.bind_eq_some_iff.mp h
    refine zc_S2 (q := 20) (st := []) (S1 := [.int (bi r1)]) (r_X11_within x1 0 4 _ r1 hr1) dX11_finger_17 cb_X11_within k2_174 k2_175 ⟨by decide, by decide⟩ rfl (Nat.le_of_ble_eq_true rfl) (Or.inl rfl) rfl rfl ?_
    refine zi_ifne (q := 27) (q2 := 23) dX11_finger_20 (by decide) rfl (fun hc => ?_) (fun hc => ?_)
    · replace h := (if_neg hc).symm.trans h
      refine zi_iloadn (q := 28) dX11_finger_27 rfl rfl ?_
      refine zi_iconst (q := 29) dX11_finger_28 ki_0 rfl ?_
      refine zi_iconst (q := 30) dX11_finger_29 ki_3 rfl ?_
      obtain ⟨r2, hr2, h⟩ := Option.bind_eq_some_iff.mp h
      refine zc_S2 (q := 33) (st := []) (S1 := [.int (bi r2)]) (r_X11_within x2 0 3 _ r2 hr2) dX11_finger_30 cb_X11_within k2_174 k2_175 ⟨by decide, by decide⟩ rfl (Nat.le_of_ble_eq_true rfl) (Or.inl rfl) rfl rfl ?_
      refine zi_ifne (q := 40) (q2 := 36) dX11_finger_33 (by decide) rfl (fun hc => ?_) (fun hc => ?_)
      · replace h := (if_neg hc).symm.trans h
        refine zi_aloadn (q := 41) dX11_finger_40 rfl rfl ?_
        refine zi_getA (q := 44) dX11_finger_41 fl_11_28 so_0 rfl rfl ?_
        refine zi_getA (q := 47) dX11_finger_44 fl_11_52 so_13 rfl rfl ?_
        refine zi_iloadn (q := 48) dX11_finger_47 rfl rfl ?_
        refine zi_iloadn (q := 49) dX11_finger_48 rfl rfl ?_
        obtain ⟨r3, hr3, h⟩ := Option.bind_eq_some_iff.mp h
        refine zc_V2 (q := 52) (st := []) (S1 := [.int r3]) (r_X2_fact x1 x2 _ r3 hr3) dX11_finger_49 cb_X2_fact k4_28 k4_29 k4_30 ⟨by decide, by decide⟩ so_19 rfl rfl rfl (Nat.le_of_ble_eq_true rfl) (Or.inl rfl) rfl rfl ?_
        cases h
        exact zi_ret _ dX11_finger_52
      · replace h := (if_pos hc).symm.trans h
        refine zi_sipush (q := 39) dX11_finger_36 kc_m10002 rfl ?_
        cases h
        exact zi_ret _ dX11_finger_39
    · replace h := (if_pos hc).symm.trans h
      refine zi_sipush (q := 26) dX11_finger_23 kc_m10001 rfl ?_
      cases h
      exact zi_ret _ dX11_finger_26
  · replace h := (if_pos hc).symm.trans h
    refine zi_sipush (q := 13) dX11_finger_10 kc_m10003 rfl ?_
    cases h
    exact zi_ret _ dX11_finger_13
set_option maxRecDepth 20000 in
theorem r_X12_fingerNow {E : Nat × (Nat → Int32)} (x1 : Int32) (x2 : Int32) (m : zM) (x : Int32) (h : f_X12_fingerNow x1 x2 m = some x) : zMet E zX12_fingerNow [.ref 68, .int x1, .int x2] zSH m (some (.int x)) zSH m := by
  refine zMet.of (L0 := [some (.ref 68), some (.int x1), some (.int x2)]) rfl rfl (Nat.le_of_ble_eq_true rfl) rfl ?_
  unfold f_X12_fingerNow at h
  refine zi_iloadn (q := 1) dX12_fingerNow_0 rfl rfl ?_
  by_cases he0 : x2 = 0
  · replace h := (if_pos he0).symm.trans h
    refine zi_tsIn (q := 28) (j := 0) dX12_fingerNow_1 (zts_in ti_0 he0) (by decide) rfl (by decide) ?_
    refine zi_aloadn (q := 29) dX12_fingerNow_28 rfl rfl ?_
    refine zi_getA (q := 32) dX12_fingerNow_29 fl_12_28 so_68 rfl rfl ?_
    refine zi_iloadn (q := 33) dX12_fingerNow_32 rfl rfl ?_
    obtain ⟨hz1, h⟩ := zg_some h
    refine zi_bald2 (q := 34) dX12_fingerNow_33 so_75 (zin_vp hz1) rfl rfl ?_
    refine zi_ifeq (q := 41) (q2 := 37) dX12_fingerNow_34 (by decide) rfl (fun hc => ?_) (fun hc => ?_)
    · replace h := (if_pos hc).symm.trans h
      refine zi_iconst (q := 42) dX12_fingerNow_41 ki_0 rfl ?_
      cases h
      exact zi_ret _ dX12_fingerNow_42
    · replace h := (if_neg hc).symm.trans h
      refine zi_iconst (q := 38) dX12_fingerNow_37 ki_1 rfl ?_
      refine zi_goto (q := 42) dX12_fingerNow_38 (by decide) ?_
      cases h
      exact zi_ret _ dX12_fingerNow_42
  · replace h := (if_neg he0).symm.trans h
    by_cases he1 : x2 = 1
    · replace h := (if_pos he1).symm.trans h
      refine zi_tsIn (q := 43) (j := 1) dX12_fingerNow_1 (zts_in ti_1 he1) (by decide) rfl (by decide) ?_
      refine zi_aloadn (q := 44) dX12_fingerNow_43 rfl rfl ?_
      refine zi_getA (q := 47) dX12_fingerNow_44 fl_12_28 so_68 rfl rfl ?_
      refine zi_iloadn (q := 48) dX12_fingerNow_47 rfl rfl ?_
      obtain ⟨hz2, h⟩ := zg_some h
      refine zi_bald2 (q := 49) dX12_fingerNow_48 so_75 (zin_vp hz2) rfl rfl ?_
      refine zi_ifeq (q := 61) (q2 := 52) dX12_fingerNow_49 (by decide) rfl (fun hc => ?_) (fun hc => ?_)
      · replace h := (if_pos hc).symm.trans h
        refine zi_iconst (q := 62) dX12_fingerNow_61 ki_m1 rfl ?_
        cases h
        exact zi_ret _ dX12_fingerNow_62
      · replace h := (if_neg hc).symm.trans h
        refine zi_aloadn (q := 53) dX12_fingerNow_52 rfl rfl ?_
        refine zi_getA (q := 56) dX12_fingerNow_53 fl_12_32 so_68 rfl rfl ?_
        refine zi_iloadn (q := 57) dX12_fingerNow_56 rfl rfl ?_
        obtain ⟨hz3, h⟩ := zg_some h
        refine zi_iald2 (q := 58) dX12_fingerNow_57 so_76 (zin_vp hz3) rfl rfl ?_
        refine zi_goto (q := 62) dX12_fingerNow_58 (by decide) ?_
        cases h
        exact zi_ret _ dX12_fingerNow_62
    · replace h := (if_neg he1).symm.trans h
      by_cases he2 : x2 = 2
      · replace h := (if_pos he2).symm.trans h
        refine zi_tsIn (q := 63) (j := 2) dX12_fingerNow_1 (zts_in ti_2 he2) (by decide) rfl (by decide) ?_
        refine zi_aloadn (q := 64) dX12_fingerNow_63 rfl rfl ?_
        refine zi_getA (q := 67) dX12_fingerNow_64 fl_12_28 so_68 rfl rfl ?_
        refine zi_iloadn (q := 68) dX12_fingerNow_67 rfl rfl ?_
        obtain ⟨hz4, h⟩ := zg_some h
        refine zi_bald2 (q := 69) dX12_fingerNow_68 so_75 (zin_vp hz4) rfl rfl ?_
        refine zi_ifeq (q := 81) (q2 := 72) dX12_fingerNow_69 (by decide) rfl (fun hc => ?_) (fun hc => ?_)
        · replace h := (if_pos hc).symm.trans h
          refine zi_iconst (q := 82) dX12_fingerNow_81 ki_m1 rfl ?_
          cases h
          exact zi_ret _ dX12_fingerNow_82
        · replace h := (if_neg hc).symm.trans h
          refine zi_aloadn (q := 73) dX12_fingerNow_72 rfl rfl ?_
          refine zi_getA (q := 76) dX12_fingerNow_73 fl_12_35 so_68 rfl rfl ?_
          refine zi_iloadn (q := 77) dX12_fingerNow_76 rfl rfl ?_
          obtain ⟨hz5, h⟩ := zg_some h
          refine zi_iald2 (q := 78) dX12_fingerNow_77 so_77 (zin_vp hz5) rfl rfl ?_
          refine zi_goto (q := 82) dX12_fingerNow_78 (by decide) ?_
          cases h
          exact zi_ret _ dX12_fingerNow_82
      · replace h := (if_neg he2).symm.trans h
        refine zi_tsOut (q := 83) dX12_fingerNow_1 (zts_out3 he0 he1 he2) (by decide) ?_
        refine zi_aloadn (q := 84) dX12_fingerNow_83 rfl rfl ?_
        refine zi_getA (q := 87) dX12_fingerNow_84 fl_12_28 so_68 rfl rfl ?_
        refine zi_iloadn (q := 88) dX12_fingerNow_87 rfl rfl ?_
        obtain ⟨hz6, h⟩ := zg_some h
        refine zi_bald2 (q := 89) dX12_fingerNow_88 so_75 (zin_vp hz6) rfl rfl ?_
        refine zi_ifeq (q := 101) (q2 := 92) dX12_fingerNow_89 (by decide) rfl (fun hc => ?_) (fun hc => ?_)
        · replace h := (if_pos hc).symm.trans h
          refine zi_iconst (q := 102) dX12_fingerNow_101 ki_m1 rfl ?_
          cases h
          exact zi_ret _ dX12_fingerNow_102
        · replace h := (if_neg hc).symm.trans h
          refine zi_aloadn (q := 93) dX12_fingerNow_92 rfl rfl ?_
          refine zi_getA (q := 96) dX12_fingerNow_93 fl_12_38 so_68 rfl rfl ?_
          refine zi_iloadn (q := 97) dX12_fingerNow_96 rfl rfl ?_
          obtain ⟨hz7, h⟩ := zg_some h
          refine zi_iald2 (q := 98) dX12_fingerNow_97 so_78 (zin_vp hz7) rfl rfl ?_
          refine zi_goto (q := 102) dX12_fingerNow_98 (by decide) ?_
          cases h
          exact zi_ret _ dX12_fingerNow_102
set_option maxRecDepth 20000 in
theorem r_X12_finger {E : Nat × (Nat → Int32)} (x1 : Int32) (x2 : Int32) (m : zM) (x : Int32) (h : f_X12_finger x1 x2 m = some x) : zMet E zX12_finger [.ref 68, .int x1, .int x2] zSH m (some (.int x)) zSH m := by
  refine zMet.of (L0 := [some (.ref 68), some (.int x1), some (.int x2)]) rfl rfl (Nat.le_of_ble_eq_true rfl) rfl ?_
  unfold f_X12_finger at h
  refine zi_aloadn (q := 1) dX12_finger_0 rfl rfl ?_
  obtain ⟨r1, hr1, h⟩ := Option.bind_eq_some_iff.mp h
  refine zc_V2 (q := 4) (st := []) (S1 := [.int (bi r1)]) (r_X12_isGlass  _ r1 hr1) dX12_finger_1 cb_X12_isGlass k5_82 k5_84 ks_X12_isGlass ⟨by decide, by decide⟩ so_68 rfl rfl rfl (Nat.le_of_ble_eq_true rfl) (Or.inl rfl) rfl rfl ?_
  refine zi_ifne (q := 11) (q2 := 7) dX12_finger_4 (by decide) rfl (fun hc => ?_) (fun hc => ?_)
  · replace h := (if_neg hc).symm.trans h
    refine zi_iloadn (q := 12) dX12_finger_11 rfl rfl ?_
    refine zi_iconst (q := 13) dX12_finger_12 ki_0 rfl ?_
    refine zi_iconst (q := 14) dX12_finger_13 ki_4 rfl ?_
    obtain ⟨r2, hr2, h⟩ := Option.bind_eq_some_iff.mp h
    refine zc_S2 (q := 17) (st := []) (S1 := [.int (bi r2)]) (r_X12_within x1 0 4 _ r2 hr2) dX12_finger_14 cb_X12_within k5_71 k5_72 ⟨by decide, by decide⟩ rfl (Nat.le_of_ble_eq_true rfl) (Or.inl rfl) rfl rfl ?_
    refine zi_ifne (q := 24) (q2 := 20) dX12_finger_17 (by decide) rfl (fun hc => ?_) (fun hc => ?_)
    · replace h := (if_neg hc).symm.trans h
      refine zi_iloadn (q := 25) dX12_finger_24 rfl rfl ?_
      refine zi_iconst (q := 26) dX12_finger_25 ki_0 rfl ?_
      refine zi_iconst (q := 27) dX12_finger_26 ki_3 rfl ?_
      obtain ⟨r3, hr3, h⟩ := Option.bind_eq_some_iff.mp h
      refine zc_S2 (q := 30) (st := []) (S1 := [.int (bi r3)]) (r_X12_within x2 0 3 _ r3 hr3) dX12_finger_27 cb_X12_within k5_71 k5_72 ⟨by decide, by decide⟩ rfl (Nat.le_of_ble_eq_true rfl) (Or.inl rfl) rfl rfl ?_
      refine zi_ifeq (q := 42) (q2 := 33) dX12_finger_30 (by decide) rfl (fun hc => ?_) (fun hc => ?_)
      · replace h := (if_pos hc).symm.trans h
        refine zi_sipush (q := 45) dX12_finger_42 kc_m10002 rfl ?_
        cases h
        exact zi_ret _ dX12_finger_45
      · replace h := (if_neg hc).symm.trans h
        refine zi_aloadn (q := 34) dX12_finger_33 rfl rfl ?_
        refine zi_iloadn (q := 35) dX12_finger_34 rfl rfl ?_
        refine zi_iloadn (q := 36) dX12_finger_35 rfl rfl ?_
        obtain ⟨r4, hr4, h⟩ := Option.bind_eq_some_iff.mp h
        refine zc_V2 (q := 39) (st := []) (S1 := [.int r4]) (r_X12_fingerNow x1 x2 _ r4 hr4) dX12_finger_36 cb_X12_fingerNow k6_108 k6_110 ks_X12_fingerNow ⟨by decide, by decide⟩ so_68 rfl rfl rfl (Nat.le_of_ble_eq_true rfl) (Or.inl rfl) rfl rfl ?_
        refine zi_goto (q := 45) dX12_finger_39 (by decide) ?_
        cases h
        exact zi_ret _ dX12_finger_45
    · replace h := (if_pos hc).symm.trans h
      refine zi_sipush (q := 23) dX12_finger_20 kc_m10001 rfl ?_
      cases h
      exact zi_ret _ dX12_finger_23
  · replace h := (if_pos hc).symm.trans h
    refine zi_sipush (q := 10) dX12_finger_7 kc_m10003 rfl ?_
    cases h
    exact zi_ret _ dX12_finger_10
set_option maxRecDepth 20000 in
theorem r_X7_cellFact {E : Nat × (Nat → Int32)} (x1 : Int32) (x2 : Int32) (m : zM) (x : Int32) (h : f_X7_cellFact x1 x2 m = some x) : zMet E zX7_cellFact [.ref 13, .int x1, .int x2] zSH m (some (.int x)) zSH m := by
  refine zMet.of (L0 := [some (.ref 13), some (.int x1), some (.int x2)]) rfl rfl (Nat.le_of_ble_eq_true rfl) rfl ?_
  unfold f_X7_cellFact at h
  refine zi_iloadn (q := 1) dX7_cellFact_0 rfl rfl ?_
  by_cases he0 : x2 = 0
  · replace h := (if_pos he0).symm.trans h
    refine zi_tsIn (q := 36) (j := 0) dX7_cellFact_1 (zts_in ti_0 he0) (by decide) rfl (by decide) ?_
    refine zi_aloadn (q := 37) dX7_cellFact_36 rfl rfl ?_
    refine zi_getA (q := 40) dX7_cellFact_37 fl_7_48 so_13 rfl rfl ?_
    refine zi_getA (q := 43) dX7_cellFact_40 fl_7_174 so_31 rfl rfl ?_
    refine zi_iloadn (q := 44) dX7_cellFact_43 rfl rfl ?_
    obtain ⟨hz1, h⟩ := zg_some h
    refine zi_iald2 (q := 45) dX7_cellFact_44 so_32 (zin_vp hz1) rfl rfl ?_
    cases h
    exact zi_ret _ dX7_cellFact_45
  · replace h := (if_neg he0).symm.trans h
    by_cases he1 : x2 = 1
    · replace h := (if_pos he1).symm.trans h
      refine zi_tsIn (q := 46) (j := 1) dX7_cellFact_1 (zts_in ti_1 he1) (by decide) rfl (by decide) ?_
      refine zi_aloadn (q := 47) dX7_cellFact_46 rfl rfl ?_
      refine zi_getA (q := 50) dX7_cellFact_47 fl_7_48 so_13 rfl rfl ?_
      refine zi_getA (q := 53) dX7_cellFact_50 fl_7_177 so_31 rfl rfl ?_
      refine zi_iloadn (q := 54) dX7_cellFact_53 rfl rfl ?_
      obtain ⟨hz2, h⟩ := zg_some h
      refine zi_iald2 (q := 55) dX7_cellFact_54 so_33 (zin_vp hz2) rfl rfl ?_
      cases h
      exact zi_ret _ dX7_cellFact_55
    · replace h := (if_neg he1).symm.trans h
      by_cases he2 : x2 = 2
      · replace h := (if_pos he2).symm.trans h
        refine zi_tsIn (q := 56) (j := 2) dX7_cellFact_1 (zts_in ti_2 he2) (by decide) rfl (by decide) ?_
        refine zi_aloadn (q := 57) dX7_cellFact_56 rfl rfl ?_
        refine zi_getA (q := 60) dX7_cellFact_57 fl_7_48 so_13 rfl rfl ?_
        refine zi_getA (q := 63) dX7_cellFact_60 fl_7_180 so_31 rfl rfl ?_
        refine zi_iloadn (q := 64) dX7_cellFact_63 rfl rfl ?_
        obtain ⟨hz3, h⟩ := zg_some h
        refine zi_iald2 (q := 65) dX7_cellFact_64 so_35 (zin_vp hz3) rfl rfl ?_
        cases h
        exact zi_ret _ dX7_cellFact_65
      · replace h := (if_neg he2).symm.trans h
        by_cases he3 : x2 = 3
        · replace h := (if_pos he3).symm.trans h
          refine zi_tsIn (q := 66) (j := 3) dX7_cellFact_1 (zts_in ti_3 he3) (by decide) rfl (by decide) ?_
          refine zi_aloadn (q := 67) dX7_cellFact_66 rfl rfl ?_
          refine zi_getA (q := 70) dX7_cellFact_67 fl_7_48 so_13 rfl rfl ?_
          refine zi_getA (q := 73) dX7_cellFact_70 fl_7_144 so_31 rfl rfl ?_
          refine zi_iloadn (q := 74) dX7_cellFact_73 rfl rfl ?_
          obtain ⟨hz4, h⟩ := zg_some h
          refine zi_iald2 (q := 75) dX7_cellFact_74 so_36 (zin_vp hz4) rfl rfl ?_
          cases h
          exact zi_ret _ dX7_cellFact_75
        · replace h := (if_neg he3).symm.trans h
          by_cases he4 : x2 = 4
          · replace h := (if_pos he4).symm.trans h
            refine zi_tsIn (q := 76) (j := 4) dX7_cellFact_1 (zts_in ti_4 he4) (by decide) rfl (by decide) ?_
            refine zi_aloadn (q := 77) dX7_cellFact_76 rfl rfl ?_
            refine zi_getA (q := 80) dX7_cellFact_77 fl_7_62 so_13 rfl rfl ?_
            refine zi_getA (q := 83) dX7_cellFact_80 fl_7_183 so_44 rfl rfl ?_
            refine zi_iloadn (q := 84) dX7_cellFact_83 rfl rfl ?_
            obtain ⟨hz5, h⟩ := zg_some h
            refine zi_iald2 (q := 85) dX7_cellFact_84 so_52 (zin_vp hz5) rfl rfl ?_
            cases h
            exact zi_ret _ dX7_cellFact_85
          · replace h := (if_neg he4).symm.trans h
            refine zi_tsOut (q := 86) dX7_cellFact_1 (zts_out5 he0 he1 he2 he3 he4) (by decide) ?_
            refine zi_aloadn (q := 87) dX7_cellFact_86 rfl rfl ?_
            refine zi_getA (q := 90) dX7_cellFact_87 fl_7_48 so_13 rfl rfl ?_
            refine zi_getA (q := 93) dX7_cellFact_90 fl_7_186 so_31 rfl rfl ?_
            refine zi_iloadn (q := 94) dX7_cellFact_93 rfl rfl ?_
            obtain ⟨hz6, h⟩ := zg_some h
            refine zi_iald2 (q := 95) dX7_cellFact_94 so_34 (zin_vp hz6) rfl rfl ?_
            cases h
            exact zi_ret _ dX7_cellFact_95
set_option maxRecDepth 20000 in
theorem r_X11_cell {E : Nat × (Nat → Int32)} (x1 : Int32) (x2 : Int32) (m : zM) (x : Int32) (h : f_X11_cell x1 x2 m = some x) : zMet E zX11_cell [.ref 0, .int x1, .int x2] zSH m (some (.int x)) zSH m := by
  refine zMet.of (L0 := [some (.ref 0), some (.int x1), some (.int x2)]) rfl rfl (Nat.le_of_ble_eq_true rfl) rfl ?_
  unfold f_X11_cell at h
  refine zi_aloadn (q := 1) dX11_cell_0 rfl rfl ?_
  refine zi_getA (q := 4) dX11_cell_1 fl_11_28 so_0 rfl rfl ?_
  refine zi_iloadn (q := 5) dX11_cell_4 rfl rfl ?_
  obtain ⟨r1, hr1, h⟩ := Option.bind_eq_some_iff.mp h
  refine zc_V2 (q := 8) (st := []) (S1 := [.int (bi r1)]) (r_X7_hasCell x1 _ r1 hr1) dX11_cell_5 cb_X7_hasCell k3_56 k3_57 k3_58 ⟨by decide, by decide⟩ so_13 rfl rfl rfl (Nat.le_of_ble_eq_true rfl) (Or.inl rfl) rfl rfl ?_
  refine zi_ifne (q := 15) (q2 := 11) dX11_cell_8 (by decide) rfl (fun hc => ?_) (fun hc => ?_)
  · replace h := (if_neg hc).symm.trans h
    refine zi_iloadn (q := 16) dX11_cell_15 rfl rfl ?_
    refine zi_iconst (q := 17) dX11_cell_16 ki_0 rfl ?_
    refine zi_iconst (q := 18) dX11_cell_17 ki_5 rfl ?_
    obtain ⟨r2, hr2, h⟩ := Option.bind_eq_some_iff.mp h
    refine zc_S2 (q := 21) (st := []) (S1 := [.int (bi r2)]) (r_X11_within x2 0 5 _ r2 hr2) dX11_cell_18 cb_X11_within k2_174 k2_175 ⟨by decide, by decide⟩ rfl (Nat.le_of_ble_eq_true rfl) (Or.inl rfl) rfl rfl ?_
    refine zi_ifne (q := 28) (q2 := 24) dX11_cell_21 (by decide) rfl (fun hc => ?_) (fun hc => ?_)
    · replace h := (if_neg hc).symm.trans h
      refine zi_aloadn (q := 29) dX11_cell_28 rfl rfl ?_
      refine zi_getA (q := 32) dX11_cell_29 fl_11_28 so_0 rfl rfl ?_
      refine zi_iloadn (q := 33) dX11_cell_32 rfl rfl ?_
      refine zi_iloadn (q := 34) dX11_cell_33 rfl rfl ?_
      obtain ⟨r3, hr3, h⟩ := Option.bind_eq_some_iff.mp h
      refine zc_V2 (q := 37) (st := []) (S1 := [.int r3]) (r_X7_cellFact x1 x2 _ r3 hr3) dX11_cell_34 cb_X7_cellFact k4_36 k4_37 k4_38 ⟨by decide, by decide⟩ so_13 rfl rfl rfl (Nat.le_of_ble_eq_true rfl) (Or.inl rfl) rfl rfl ?_
      cases h
      exact zi_ret _ dX11_cell_37
    · replace h := (if_pos hc).symm.trans h
      refine zi_sipush (q := 27) dX11_cell_24 kc_m10002 rfl ?_
      cases h
      exact zi_ret _ dX11_cell_27
  · replace h := (if_pos hc).symm.trans h
    refine zi_sipush (q := 14) dX11_cell_11 kc_m10001 rfl ?_
    cases h
    exact zi_ret _ dX11_cell_14
set_option maxRecDepth 20000 in
theorem r_X12_cellNow {E : Nat × (Nat → Int32)} (x1 : Int32) (x2 : Int32) (m : zM) (x : Int32) (h : f_X12_cellNow x1 x2 m = some x) : zMet E zX12_cellNow [.ref 68, .int x1, .int x2] zSH m (some (.int x)) zSH m := by
  refine zMet.of (L0 := [some (.ref 68), some (.int x1), some (.int x2)]) rfl rfl (Nat.le_of_ble_eq_true rfl) rfl ?_
  unfold f_X12_cellNow at h
  refine zi_iloadn (q := 1) dX12_cellNow_0 rfl rfl ?_
  by_cases he0 : x2 = 0
  · replace h := (if_pos he0).symm.trans h
    refine zi_tsIn (q := 36) (j := 0) dX12_cellNow_1 (zts_in ti_0 he0) (by decide) rfl (by decide) ?_
    refine zi_aloadn (q := 37) dX12_cellNow_36 rfl rfl ?_
    refine zi_getA (q := 40) dX12_cellNow_37 fl_12_13 so_68 rfl rfl ?_
    refine zi_iloadn (q := 41) dX12_cellNow_40 rfl rfl ?_
    obtain ⟨hz1, h⟩ := zg_some h
    refine zi_iald2 (q := 42) dX12_cellNow_41 so_70 (zin_vp hz1) rfl rfl ?_
    cases h
    exact zi_ret _ dX12_cellNow_42
  · replace h := (if_neg he0).symm.trans h
    by_cases he1 : x2 = 1
    · replace h := (if_pos he1).symm.trans h
      refine zi_tsIn (q := 43) (j := 1) dX12_cellNow_1 (zts_in ti_1 he1) (by decide) rfl (by decide) ?_
      refine zi_aloadn (q := 44) dX12_cellNow_43 rfl rfl ?_
      refine zi_getA (q := 47) dX12_cellNow_44 fl_12_16 so_68 rfl rfl ?_
      refine zi_iloadn (q := 48) dX12_cellNow_47 rfl rfl ?_
      obtain ⟨hz2, h⟩ := zg_some h
      refine zi_iald2 (q := 49) dX12_cellNow_48 so_71 (zin_vp hz2) rfl rfl ?_
      cases h
      exact zi_ret _ dX12_cellNow_49
    · replace h := (if_neg he1).symm.trans h
      by_cases he2 : x2 = 2
      · replace h := (if_pos he2).symm.trans h
        refine zi_tsIn (q := 50) (j := 2) dX12_cellNow_1 (zts_in ti_2 he2) (by decide) rfl (by decide) ?_
        refine zi_aloadn (q := 51) dX12_cellNow_50 rfl rfl ?_
        refine zi_getA (q := 54) dX12_cellNow_51 fl_12_19 so_68 rfl rfl ?_
        refine zi_iloadn (q := 55) dX12_cellNow_54 rfl rfl ?_
        obtain ⟨hz3, h⟩ := zg_some h
        refine zi_iald2 (q := 56) dX12_cellNow_55 so_72 (zin_vp hz3) rfl rfl ?_
        cases h
        exact zi_ret _ dX12_cellNow_56
      · replace h := (if_neg he2).symm.trans h
        by_cases he3 : x2 = 3
        · replace h := (if_pos he3).symm.trans h
          refine zi_tsIn (q := 57) (j := 3) dX12_cellNow_1 (zts_in ti_3 he3) (by decide) rfl (by decide) ?_
          refine zi_aloadn (q := 58) dX12_cellNow_57 rfl rfl ?_
          refine zi_getA (q := 61) dX12_cellNow_58 fl_12_22 so_68 rfl rfl ?_
          refine zi_iloadn (q := 62) dX12_cellNow_61 rfl rfl ?_
          obtain ⟨hz4, h⟩ := zg_some h
          refine zi_iald2 (q := 63) dX12_cellNow_62 so_73 (zin_vp hz4) rfl rfl ?_
          cases h
          exact zi_ret _ dX12_cellNow_63
        · replace h := (if_neg he3).symm.trans h
          by_cases he4 : x2 = 4
          · replace h := (if_pos he4).symm.trans h
            refine zi_tsIn (q := 64) (j := 4) dX12_cellNow_1 (zts_in ti_4 he4) (by decide) rfl (by decide) ?_
            refine zi_aloadn (q := 65) dX12_cellNow_64 rfl rfl ?_
            refine zi_getA (q := 68) dX12_cellNow_65 fl_12_25 so_68 rfl rfl ?_
            refine zi_iloadn (q := 69) dX12_cellNow_68 rfl rfl ?_
            obtain ⟨hz5, h⟩ := zg_some h
            refine zi_iald2 (q := 70) dX12_cellNow_69 so_74 (zin_vp hz5) rfl rfl ?_
            cases h
            exact zi_ret _ dX12_cellNow_70
          · replace h := (if_neg he4).symm.trans h
            refine zi_tsOut (q := 71) dX12_cellNow_1 (zts_out5 he0 he1 he2 he3 he4) (by decide) ?_
            refine zi_aloadn (q := 72) dX12_cellNow_71 rfl rfl ?_
            refine zi_iloadn (q := 73) dX12_cellNow_72 rfl rfl ?_
            obtain ⟨r6, hr6, h⟩ := Option.bind_eq_some_iff.mp h
            refine zc_V2 (q := 76) (st := []) (S1 := [.int r6]) (r_X12_feltAll x1 _ r6 hr6) dX12_cellNow_73 cb_X12_feltAll k5_192 k5_194 ks_X12_feltAll ⟨by decide, by decide⟩ so_68 rfl rfl rfl (Nat.le_of_ble_eq_true rfl) (Or.inl rfl) rfl rfl ?_
            cases h
            exact zi_ret _ dX12_cellNow_76
set_option maxRecDepth 20000 in
theorem r_X12_cell {E : Nat × (Nat → Int32)} (x1 : Int32) (x2 : Int32) (m : zM) (x : Int32) (h : f_X12_cell x1 x2 m = some x) : zMet E zX12_cell [.ref 68, .int x1, .int x2] zSH m (some (.int x)) zSH m := by
  refine zMet.of (L0 := [some (.ref 68), some (.int x1), some (.int x2)]) rfl rfl (Nat.le_of_ble_eq_true rfl) rfl ?_
  unfold f_X12_cell at h
  refine zi_aloadn (q := 1) dX12_cell_0 rfl rfl ?_
  refine zi_iloadn (q := 2) dX12_cell_1 rfl rfl ?_
  obtain ⟨r1, hr1, h⟩ := Option.bind_eq_some_iff.mp h
  refine zc_V2 (q := 5) (st := []) (S1 := [.int (bi r1)]) (r_X12_isCell x1 _ r1 hr1) dX12_cell_2 cb_X12_isCell k5_146 k5_148 ks_X12_isCell ⟨by decide, by decide⟩ so_68 rfl rfl rfl (Nat.le_of_ble_eq_true rfl) (Or.inl rfl) rfl rfl ?_
  refine zi_ifne (q := 14) (q2 := 8) dX12_cell_5 (by decide) rfl (fun hc => ?_) (fun hc => ?_)
  · replace h := (if_neg hc).symm.trans h
    refine zi_iloadn (q := 15) dX12_cell_14 rfl rfl ?_
    refine zi_iconst (q := 16) dX12_cell_15 ki_0 rfl ?_
    refine zi_iconst (q := 17) dX12_cell_16 ki_5 rfl ?_
    obtain ⟨r2, hr2, h⟩ := Option.bind_eq_some_iff.mp h
    refine zc_S2 (q := 20) (st := []) (S1 := [.int (bi r2)]) (r_X12_within x2 0 5 _ r2 hr2) dX12_cell_17 cb_X12_within k5_71 k5_72 ⟨by decide, by decide⟩ rfl (Nat.le_of_ble_eq_true rfl) (Or.inl rfl) rfl rfl ?_
    refine zi_ifeq (q := 32) (q2 := 23) dX12_cell_20 (by decide) rfl (fun hc => ?_) (fun hc => ?_)
    · replace h := (if_pos hc).symm.trans h
      refine zi_sipush (q := 35) dX12_cell_32 kc_m10002 rfl ?_
      cases h
      exact zi_ret _ dX12_cell_35
    · replace h := (if_neg hc).symm.trans h
      refine zi_aloadn (q := 24) dX12_cell_23 rfl rfl ?_
      refine zi_iloadn (q := 25) dX12_cell_24 rfl rfl ?_
      refine zi_iloadn (q := 26) dX12_cell_25 rfl rfl ?_
      obtain ⟨r3, hr3, h⟩ := Option.bind_eq_some_iff.mp h
      refine zc_V2 (q := 29) (st := []) (S1 := [.int r3]) (r_X12_cellNow x1 x2 _ r3 hr3) dX12_cell_26 cb_X12_cellNow k6_116 k6_118 ks_X12_cellNow ⟨by decide, by decide⟩ so_68 rfl rfl rfl (Nat.le_of_ble_eq_true rfl) (Or.inl rfl) rfl rfl ?_
      refine zi_goto (q := 35) dX12_cell_29 (by decide) ?_
      cases h
      exact zi_ret _ dX12_cell_35
  · replace h := (if_pos hc).symm.trans h
    refine zi_sipush (q := 11) dX12_cell_8 kc_m10001 rfl ?_
    refine zi_goto (q := 35) dX12_cell_11 (by decide) ?_
    cases h
    exact zi_ret _ dX12_cell_35
set_option maxRecDepth 20000 in
theorem r_X7_fact {E : Nat × (Nat → Int32)} (x1 : Int32) (m : zM) (x : Int32) (h : f_X7_fact x1 m = some x) : zMet E zX7_fact [.ref 13, .int x1] zSH m (some (.int x)) zSH m := by
  refine zMet.of (L0 := [some (.ref 13), some (.int x1)]) rfl rfl (Nat.le_of_ble_eq_true rfl) rfl ?_
  unfold f_X7_fact at h
  refine zi_iloadn (q := 1) dX7_fact_0 rfl rfl ?_
  by_cases he0 : x1 = 0
  · replace h := (if_pos he0).symm.trans h
    refine zi_tsIn (q := 48) (j := 0) dX7_fact_1 (zts_in ti_0 he0) (by decide) rfl (by decide) ?_
    refine zi_aloadn (q := 49) dX7_fact_48 rfl rfl ?_
    refine zi_getA (q := 52) dX7_fact_49 fl_7_12 so_13 rfl rfl ?_
    refine zi_getI (q := 55) dX7_fact_52 fl_7_189 (by decide) so_14 rfl ?_
    cases h
    exact zi_ret _ dX7_fact_55
  · replace h := (if_neg he0).symm.trans h
    by_cases he1 : x1 = 1
    · replace h := (if_pos he1).symm.trans h
      refine zi_tsIn (q := 56) (j := 1) dX7_fact_1 (zts_in ti_1 he1) (by decide) rfl (by decide) ?_
      refine zi_aloadn (q := 57) dX7_fact_56 rfl rfl ?_
      refine zi_getA (q := 60) dX7_fact_57 fl_7_12 so_13 rfl rfl ?_
      refine zi_getI (q := 63) dX7_fact_60 fl_7_192 (by decide) so_14 rfl ?_
      cases h
      exact zi_ret _ dX7_fact_63
    · replace h := (if_neg he1).symm.trans h
      by_cases he2 : x1 = 2
      · replace h := (if_pos he2).symm.trans h
        refine zi_tsIn (q := 64) (j := 2) dX7_fact_1 (zts_in ti_2 he2) (by decide) rfl (by decide) ?_
        refine zi_aloadn (q := 65) dX7_fact_64 rfl rfl ?_
        refine zi_getA (q := 68) dX7_fact_65 fl_7_28 so_13 rfl rfl ?_
        refine zi_getI (q := 71) dX7_fact_68 fl_7_195 (by decide) so_24 rfl ?_
        cases h
        exact zi_ret _ dX7_fact_71
      · replace h := (if_neg he2).symm.trans h
        by_cases he3 : x1 = 3
        · replace h := (if_pos he3).symm.trans h
          refine zi_tsIn (q := 72) (j := 3) dX7_fact_1 (zts_in ti_3 he3) (by decide) rfl (by decide) ?_
          refine zi_aloadn (q := 73) dX7_fact_72 rfl rfl ?_
          refine zi_getI (q := 76) dX7_fact_73 fl_7_106 (by decide) so_13 rfl ?_
          cases h
          exact zi_ret _ dX7_fact_76
        · replace h := (if_neg he3).symm.trans h
          by_cases he4 : x1 = 4
          · replace h := (if_pos he4).symm.trans h
            refine zi_tsIn (q := 77) (j := 4) dX7_fact_1 (zts_in ti_4 he4) (by decide) rfl (by decide) ?_
            refine zi_aloadn (q := 78) dX7_fact_77 rfl rfl ?_
            refine zi_getI (q := 81) dX7_fact_78 fl_7_109 (by decide) so_13 rfl ?_
            refine zi_ifeq (q := 88) (q2 := 84) dX7_fact_81 (by decide) rfl (fun hc => ?_) (fun hc => ?_)
            · replace h := (if_pos hc).symm.trans h
              refine zi_iconst (q := 89) dX7_fact_88 ki_0 rfl ?_
              cases h
              exact zi_ret _ dX7_fact_89
            · replace h := (if_neg hc).symm.trans h
              refine zi_iconst (q := 85) dX7_fact_84 ki_1 rfl ?_
              refine zi_goto (q := 89) dX7_fact_85 (by decide) ?_
              cases h
              exact zi_ret _ dX7_fact_89
          · replace h := (if_neg he4).symm.trans h
            by_cases he5 : x1 = 5
            · replace h := (if_pos he5).symm.trans h
              refine zi_tsIn (q := 90) (j := 5) dX7_fact_1 (zts_in ti_5 he5) (by decide) rfl (by decide) ?_
              refine zi_aloadn (q := 91) dX7_fact_90 rfl rfl ?_
              refine zi_getA (q := 94) dX7_fact_91 fl_7_62 so_13 rfl rfl ?_
              refine zi_getI (q := 97) dX7_fact_94 fl_7_122 (by decide) so_44 rfl ?_
              cases h
              exact zi_ret _ dX7_fact_97
            · replace h := (if_neg he5).symm.trans h
              by_cases he6 : x1 = 6
              · replace h := (if_pos he6).symm.trans h
                refine zi_tsIn (q := 98) (j := 6) dX7_fact_1 (zts_in ti_6 he6) (by decide) rfl (by decide) ?_
                refine zi_aloadn (q := 99) dX7_fact_98 rfl rfl ?_
                refine zi_getA (q := 102) dX7_fact_99 fl_7_71 so_13 rfl rfl ?_
                refine zi_getI (q := 105) dX7_fact_102 fl_7_102 (by decide) so_60 rfl ?_
                cases h
                exact zi_ret _ dX7_fact_105
              · replace h := (if_neg he6).symm.trans h
                by_cases he7 : x1 = 7
                · replace h := (if_pos he7).symm.trans h
                  refine zi_tsIn (q := 106) (j := 7) dX7_fact_1 (zts_in ti_7 he7) (by decide) rfl (by decide) ?_
                  refine zi_aloadn (q := 107) dX7_fact_106 rfl rfl ?_
                  refine zi_getA (q := 110) dX7_fact_107 fl_7_28 so_13 rfl rfl ?_
                  refine zi_getI (q := 113) dX7_fact_110 fl_7_198 (by decide) so_24 rfl ?_
                  cases h
                  exact zi_ret _ dX7_fact_113
                · replace h := (if_neg he7).symm.trans h
                  refine zi_tsOut (q := 114) dX7_fact_1 (zts_out8 he0 he1 he2 he3 he4 he5 he6 he7) (by decide) ?_
                  refine zi_aloadn (q := 115) dX7_fact_114 rfl rfl ?_
                  refine zi_getI (q := 118) dX7_fact_115 fl_7_112 (by decide) so_13 rfl ?_
                  cases h
                  exact zi_ret _ dX7_fact_118
set_option maxRecDepth 20000 in
theorem r_X11_about {E : Nat × (Nat → Int32)} (x1 : Int32) (m : zM) (x : Int32) (h : f_X11_about x1 m = some x) : zMet E zX11_about [.ref 0, .int x1] zSH m (some (.int x)) zSH m := by
  refine zMet.of (L0 := [some (.ref 0), some (.int x1)]) rfl rfl (Nat.le_of_ble_eq_true rfl) rfl ?_
  unfold f_X11_about at h
  refine zi_aloadn (q := 1) dX11_about_0 rfl rfl ?_
  refine zi_getA (q := 4) dX11_about_1 fl_11_28 so_0 rfl rfl ?_
  refine zi_getI (q := 7) dX11_about_4 fl_11_44 (by decide) so_13 rfl ?_
  refine zi_ifne (q := 14) (q2 := 10) dX11_about_7 (by decide) rfl (fun hc => ?_) (fun hc => ?_)
  · replace h := (if_neg hc).symm.trans h
    refine zi_iloadn (q := 15) dX11_about_14 rfl rfl ?_
    refine zi_iconst (q := 16) dX11_about_15 ki_0 rfl ?_
    refine zi_bipush (q := 18) dX11_about_16 kb_8 rfl ?_
    obtain ⟨r1, hr1, h⟩ := Option.bind_eq_some_iff.mp h
    refine zc_S2 (q := 21) (st := []) (S1 := [.int (bi r1)]) (r_X11_within x1 0 8 _ r1 hr1) dX11_about_18 cb_X11_within k2_174 k2_175 ⟨by decide, by decide⟩ rfl (Nat.le_of_ble_eq_true rfl) (Or.inl rfl) rfl rfl ?_
    refine zi_ifne (q := 28) (q2 := 24) dX11_about_21 (by decide) rfl (fun hc => ?_) (fun hc => ?_)
    · replace h := (if_neg hc).symm.trans h
      refine zi_aloadn (q := 29) dX11_about_28 rfl rfl ?_
      refine zi_getA (q := 32) dX11_about_29 fl_11_28 so_0 rfl rfl ?_
      refine zi_iloadn (q := 33) dX11_about_32 rfl rfl ?_
      obtain ⟨r2, hr2, h⟩ := Option.bind_eq_some_iff.mp h
      refine zc_V2 (q := 36) (st := []) (S1 := [.int r2]) (r_X7_fact x1 _ r2 hr2) dX11_about_33 cb_X7_fact k4_44 k4_45 k4_46 ⟨by decide, by decide⟩ so_13 rfl rfl rfl (Nat.le_of_ble_eq_true rfl) (Or.inl rfl) rfl rfl ?_
      cases h
      exact zi_ret _ dX11_about_36
    · replace h := (if_pos hc).symm.trans h
      refine zi_sipush (q := 27) dX11_about_24 kc_m10002 rfl ?_
      cases h
      exact zi_ret _ dX11_about_27
  · replace h := (if_pos hc).symm.trans h
    refine zi_sipush (q := 13) dX11_about_10 kc_m10003 rfl ?_
    cases h
    exact zi_ret _ dX11_about_13
set_option maxRecDepth 20000 in
theorem r_X12_aboutNow {E : Nat × (Nat → Int32)} (x1 : Int32) (m : zM) (x : Int32) (h : f_X12_aboutNow x1 m = some x) : zMet E zX12_aboutNow [.ref 68, .int x1] zSH m (some (.int x)) zSH m := by
  refine zMet.of (L0 := [some (.ref 68), some (.int x1)]) rfl rfl (Nat.le_of_ble_eq_true rfl) rfl ?_
  unfold f_X12_aboutNow at h
  refine zi_iloadn (q := 1) dX12_aboutNow_0 rfl rfl ?_
  by_cases he0 : x1 = 0
  · replace h := (if_pos he0).symm.trans h
    refine zi_tsIn (q := 48) (j := 0) dX12_aboutNow_1 (zts_in ti_0 he0) (by decide) rfl (by decide) ?_
    refine zi_aloadn (q := 49) dX12_aboutNow_48 rfl rfl ?_
    refine zi_getI (q := 52) dX12_aboutNow_49 fl_12_116 (by decide) so_68 rfl ?_
    cases h
    exact zi_ret _ dX12_aboutNow_52
  · replace h := (if_neg he0).symm.trans h
    by_cases he1 : x1 = 1
    · replace h := (if_pos he1).symm.trans h
      refine zi_tsIn (q := 53) (j := 1) dX12_aboutNow_1 (zts_in ti_1 he1) (by decide) rfl (by decide) ?_
      refine zi_aloadn (q := 54) dX12_aboutNow_53 rfl rfl ?_
      refine zi_getI (q := 57) dX12_aboutNow_54 fl_12_120 (by decide) so_68 rfl ?_
      cases h
      exact zi_ret _ dX12_aboutNow_57
    · replace h := (if_neg he1).symm.trans h
      by_cases he2 : x1 = 2
      · replace h := (if_pos he2).symm.trans h
        refine zi_tsIn (q := 58) (j := 2) dX12_aboutNow_1 (zts_in ti_2 he2) (by decide) rfl (by decide) ?_
        refine zi_aloadn (q := 59) dX12_aboutNow_58 rfl rfl ?_
        refine zi_getI (q := 62) dX12_aboutNow_59 fl_12_194 (by decide) so_68 rfl ?_
        cases h
        exact zi_ret _ dX12_aboutNow_62
      · replace h := (if_neg he2).symm.trans h
        by_cases he3 : x1 = 3
        · replace h := (if_pos he3).symm.trans h
          refine zi_tsIn (q := 63) (j := 3) dX12_aboutNow_1 (zts_in ti_3 he3) (by decide) rfl (by decide) ?_
          refine zi_aloadn (q := 64) dX12_aboutNow_63 rfl rfl ?_
          refine zi_getI (q := 67) dX12_aboutNow_64 fl_12_203 (by decide) so_68 rfl ?_
          cases h
          exact zi_ret _ dX12_aboutNow_67
        · replace h := (if_neg he3).symm.trans h
          by_cases he4 : x1 = 4
          · replace h := (if_pos he4).symm.trans h
            refine zi_tsIn (q := 68) (j := 4) dX12_aboutNow_1 (zts_in ti_4 he4) (by decide) rfl (by decide) ?_
            refine zi_aloadn (q := 69) dX12_aboutNow_68 rfl rfl ?_
            refine zi_getI (q := 72) dX12_aboutNow_69 fl_12_206 (by decide) so_68 rfl ?_
            refine zi_ifeq (q := 79) (q2 := 75) dX12_aboutNow_72 (by decide) rfl (fun hc => ?_) (fun hc => ?_)
            · replace h := (if_pos hc).symm.trans h
              refine zi_iconst (q := 80) dX12_aboutNow_79 ki_0 rfl ?_
              cases h
              exact zi_ret _ dX12_aboutNow_80
            · replace h := (if_neg hc).symm.trans h
              refine zi_iconst (q := 76) dX12_aboutNow_75 ki_1 rfl ?_
              refine zi_goto (q := 80) dX12_aboutNow_76 (by decide) ?_
              cases h
              exact zi_ret _ dX12_aboutNow_80
          · replace h := (if_neg he4).symm.trans h
            by_cases he5 : x1 = 5
            · replace h := (if_pos he5).symm.trans h
              refine zi_tsIn (q := 81) (j := 5) dX12_aboutNow_1 (zts_in ti_5 he5) (by decide) rfl (by decide) ?_
              refine zi_aloadn (q := 82) dX12_aboutNow_81 rfl rfl ?_
              refine zi_getI (q := 85) dX12_aboutNow_82 fl_12_209 (by decide) so_68 rfl ?_
              cases h
              exact zi_ret _ dX12_aboutNow_85
            · replace h := (if_neg he5).symm.trans h
              by_cases he6 : x1 = 6
              · replace h := (if_pos he6).symm.trans h
                refine zi_tsIn (q := 86) (j := 6) dX12_aboutNow_1 (zts_in ti_6 he6) (by decide) rfl (by decide) ?_
                refine zi_aloadn (q := 87) dX12_aboutNow_86 rfl rfl ?_
                refine zi_getI (q := 90) dX12_aboutNow_87 fl_12_212 (by decide) so_68 rfl ?_
                cases h
                exact zi_ret _ dX12_aboutNow_90
              · replace h := (if_neg he6).symm.trans h
                by_cases he7 : x1 = 7
                · replace h := (if_pos he7).symm.trans h
                  refine zi_tsIn (q := 91) (j := 7) dX12_aboutNow_1 (zts_in ti_7 he7) (by decide) rfl (by decide) ?_
                  refine zi_aloadn (q := 92) dX12_aboutNow_91 rfl rfl ?_
                  refine zi_getI (q := 95) dX12_aboutNow_92 fl_12_197 (by decide) so_68 rfl ?_
                  cases h
                  exact zi_ret _ dX12_aboutNow_95
                · replace h := (if_neg he7).symm.trans h
                  refine zi_tsOut (q := 96) dX12_aboutNow_1 (zts_out8 he0 he1 he2 he3 he4 he5 he6 he7) (by decide) ?_
                  refine zi_aloadn (q := 97) dX12_aboutNow_96 rfl rfl ?_
                  refine zi_getI (q := 100) dX12_aboutNow_97 fl_12_200 (by decide) so_68 rfl ?_
                  cases h
                  exact zi_ret _ dX12_aboutNow_100
set_option maxRecDepth 20000 in
theorem r_X12_about {E : Nat × (Nat → Int32)} (x1 : Int32) (m : zM) (x : Int32) (h : f_X12_about x1 m = some x) : zMet E zX12_about [.ref 68, .int x1] zSH m (some (.int x)) zSH m := by
  refine zMet.of (L0 := [some (.ref 68), some (.int x1)]) rfl rfl (Nat.le_of_ble_eq_true rfl) rfl ?_
  unfold f_X12_about at h
  refine zi_aloadn (q := 1) dX12_about_0 rfl rfl ?_
  obtain ⟨r1, hr1, h⟩ := Option.bind_eq_some_iff.mp h
  refine zc_V2 (q := 4) (st := []) (S1 := [.int (bi r1)]) (r_X12_isGlass  _ r1 hr1) dX12_about_1 cb_X12_isGlass k5_82 k5_84 ks_X12_isGlass ⟨by decide, by decide⟩ so_68 rfl rfl rfl (Nat.le_of_ble_eq_true rfl) (Or.inl rfl) rfl rfl ?_
  refine zi_ifne (q := 11) (q2 := 7) dX12_about_4 (by decide) rfl (fun hc => ?_) (fun hc => ?_)
  · replace h := (if_neg hc).symm.trans h
    refine zi_iloadn (q := 12) dX12_about_11 rfl rfl ?_
    refine zi_iconst (q := 13) dX12_about_12 ki_0 rfl ?_
    refine zi_bipush (q := 15) dX12_about_13 kb_8 rfl ?_
    obtain ⟨r2, hr2, h⟩ := Option.bind_eq_some_iff.mp h
    refine zc_S2 (q := 18) (st := []) (S1 := [.int (bi r2)]) (r_X12_within x1 0 8 _ r2 hr2) dX12_about_15 cb_X12_within k5_71 k5_72 ⟨by decide, by decide⟩ rfl (Nat.le_of_ble_eq_true rfl) (Or.inl rfl) rfl rfl ?_
    refine zi_ifeq (q := 29) (q2 := 21) dX12_about_18 (by decide) rfl (fun hc => ?_) (fun hc => ?_)
    · replace h := (if_pos hc).symm.trans h
      refine zi_sipush (q := 32) dX12_about_29 kc_m10002 rfl ?_
      cases h
      exact zi_ret _ dX12_about_32
    · replace h := (if_neg hc).symm.trans h
      refine zi_aloadn (q := 22) dX12_about_21 rfl rfl ?_
      refine zi_iloadn (q := 23) dX12_about_22 rfl rfl ?_
      obtain ⟨r3, hr3, h⟩ := Option.bind_eq_some_iff.mp h
      refine zc_V2 (q := 26) (st := []) (S1 := [.int r3]) (r_X12_aboutNow x1 _ r3 hr3) dX12_about_23 cb_X12_aboutNow k6_124 k6_126 ks_X12_aboutNow ⟨by decide, by decide⟩ so_68 rfl rfl rfl (Nat.le_of_ble_eq_true rfl) (Or.inl rfl) rfl rfl ?_
      refine zi_goto (q := 32) dX12_about_26 (by decide) ?_
      cases h
      exact zi_ret _ dX12_about_32
  · replace h := (if_pos hc).symm.trans h
    refine zi_sipush (q := 10) dX12_about_7 kc_m10003 rfl ?_
    cases h
    exact zi_ret _ dX12_about_10
set_option maxRecDepth 20000 in
theorem r_X7_hasSpot {E : Nat × (Nat → Int32)} (x1 : Int32) (m : zM) (x : Bool) (h : f_X7_hasSpot x1 m = some x) : zMet E zX7_hasSpot [.ref 13, .int x1] zSH m (some (.int (bi x))) zSH m := by
  refine zMet.of (L0 := [some (.ref 13), some (.int x1)]) rfl (zfit_bi _) (Nat.le_of_ble_eq_true rfl) rfl ?_
  unfold f_X7_hasSpot at h
  refine zi_aloadn (q := 1) dX7_hasSpot_0 rfl rfl ?_
  refine zi_getI (q := 4) dX7_hasSpot_1 fl_7_75 (by decide) so_13 rfl ?_
  refine zi_ifeq (q := 28) (q2 := 7) dX7_hasSpot_4 (by decide) rfl (fun hc => ?_) (fun hc => ?_)
  · replace h := (if_pos hc).symm.trans h
    refine zi_iconst (q := 29) dX7_hasSpot_28 ki_0 rfl ?_
    cases h
    exact zi_ret _ dX7_hasSpot_29
  · replace h := (if_neg hc).symm.trans h
    refine zi_iloadn (q := 8) dX7_hasSpot_7 rfl rfl ?_
    refine zi_iconst (q := 9) dX7_hasSpot_8 ki_0 rfl ?_
    refine zi_aloadn (q := 10) dX7_hasSpot_9 rfl rfl ?_
    refine zi_getA (q := 13) dX7_hasSpot_10 fl_7_62 so_13 rfl rfl ?_
    refine zi_getI (q := 16) dX7_hasSpot_13 fl_7_122 (by decide) so_44 rfl ?_
    refine zi_iconst (q := 17) dX7_hasSpot_16 ki_1 rfl ?_
    refine zi_isub (q := 18) dX7_hasSpot_17 rfl ?_
    obtain ⟨r1, hr1, h⟩ := Option.bind_eq_some_iff.mp h
    refine zc_SN2 (q := 21) (st := []) (S1 := [.int (bi r1)]) (r_X11_within x1 0 ((m.1 44 4) - 1) _ r1 hr1) dX7_hasSpot_18 cb_X11_within zn_7_118 k2_175 ⟨by decide, by decide⟩ rfl (Nat.le_of_ble_eq_true rfl) (Or.inl rfl) rfl rfl ?_
    refine zi_ifeq (q := 28) (q2 := 24) dX7_hasSpot_21 (by decide) rfl (fun hc => ?_) (fun hc => ?_)
    · replace h := (if_pos hc).symm.trans h
      refine zi_iconst (q := 29) dX7_hasSpot_28 ki_0 rfl ?_
      cases h
      exact zi_ret _ dX7_hasSpot_29
    · replace h := (if_neg hc).symm.trans h
      refine zi_iconst (q := 25) dX7_hasSpot_24 ki_1 rfl ?_
      refine zi_goto (q := 29) dX7_hasSpot_25 (by decide) ?_
      cases h
      exact zi_ret _ dX7_hasSpot_29
set_option maxRecDepth 20000 in
theorem r_X11_spot {E : Nat × (Nat → Int32)} (x1 : Int32) (x2 : Int32) (m : zM) (x : Int32) (h : f_X11_spot x1 x2 m = some x) : zMet E zX11_spot [.ref 0, .int x1, .int x2] zSH m (some (.int x)) zSH m := by
  refine zMet.of (L0 := [some (.ref 0), some (.int x1), some (.int x2)]) rfl rfl (Nat.le_of_ble_eq_true rfl) rfl ?_
  unfold f_X11_spot at h
  refine zi_aloadn (q := 1) dX11_spot_0 rfl rfl ?_
  refine zi_getA (q := 4) dX11_spot_1 fl_11_28 so_0 rfl rfl ?_
  refine zi_iloadn (q := 5) dX11_spot_4 rfl rfl ?_
  obtain ⟨r1, hr1, h⟩ := Option.bind_eq_some_iff.mp h
  refine zc_V2 (q := 8) (st := []) (S1 := [.int (bi r1)]) (r_X7_hasSpot x1 _ r1 hr1) dX11_spot_5 cb_X7_hasSpot k4_52 k4_53 k4_54 ⟨by decide, by decide⟩ so_13 rfl rfl rfl (Nat.le_of_ble_eq_true rfl) (Or.inl rfl) rfl rfl ?_
  refine zi_ifne (q := 15) (q2 := 11) dX11_spot_8 (by decide) rfl (fun hc => ?_) (fun hc => ?_)
  · replace h := (if_neg hc).symm.trans h
    refine zi_iloadn (q := 16) dX11_spot_15 rfl rfl ?_
    refine zi_iconst (q := 17) dX11_spot_16 ki_0 rfl ?_
    refine zi_iconst (q := 18) dX11_spot_17 ki_5 rfl ?_
    obtain ⟨r2, hr2, h⟩ := Option.bind_eq_some_iff.mp h
    refine zc_S2 (q := 21) (st := []) (S1 := [.int (bi r2)]) (r_X11_within x2 0 5 _ r2 hr2) dX11_spot_18 cb_X11_within k2_174 k2_175 ⟨by decide, by decide⟩ rfl (Nat.le_of_ble_eq_true rfl) (Or.inl rfl) rfl rfl ?_
    refine zi_ifne (q := 28) (q2 := 24) dX11_spot_21 (by decide) rfl (fun hc => ?_) (fun hc => ?_)
    · replace h := (if_neg hc).symm.trans h
      refine zi_aloadn (q := 29) dX11_spot_28 rfl rfl ?_
      refine zi_getA (q := 32) dX11_spot_29 fl_11_28 so_0 rfl rfl ?_
      refine zi_getA (q := 35) dX11_spot_32 fl_11_154 so_13 rfl rfl ?_
      refine zi_getA (q := 38) dX11_spot_35 fl_11_158 so_44 rfl rfl ?_
      refine zi_iloadn (q := 39) dX11_spot_38 rfl rfl ?_
      obtain ⟨hz3, h⟩ := zg_some h
      refine zi_aald2 (q := 40) dX11_spot_39 so_45 (zin_vp hz3) rfl rfl ?_
      refine zi_iloadn (q := 41) dX11_spot_40 rfl rfl ?_
      obtain ⟨hz4, h⟩ := zg_some h
      refine zi_iald2 (q := 42) dX11_spot_41 (sr_45 _) (zin_vp hz4) rfl rfl ?_
      cases h
      exact zi_ret _ dX11_spot_42
    · replace h := (if_pos hc).symm.trans h
      refine zi_sipush (q := 27) dX11_spot_24 kc_m10002 rfl ?_
      cases h
      exact zi_ret _ dX11_spot_27
  · replace h := (if_pos hc).symm.trans h
    refine zi_sipush (q := 14) dX11_spot_11 kc_m10001 rfl ?_
    cases h
    exact zi_ret _ dX11_spot_14
set_option maxRecDepth 20000 in
theorem r_X12_spotNow {E : Nat × (Nat → Int32)} (x1 : Int32) (x2 : Int32) (m : zM) (x : Int32) (h : f_X12_spotNow x1 x2 m = some x) : zMet E zX12_spotNow [.ref 68, .int x1, .int x2] zSH m (some (.int x)) zSH m := by
  refine zMet.of (L0 := [some (.ref 68), some (.int x1), some (.int x2)]) rfl rfl (Nat.le_of_ble_eq_true rfl) rfl ?_
  unfold f_X12_spotNow at h
  refine zi_iloadn (q := 1) dX12_spotNow_0 rfl rfl ?_
  by_cases he0 : x2 = 0
  · replace h := (if_pos he0).symm.trans h
    refine zi_tsIn (q := 36) (j := 0) dX12_spotNow_1 (zts_in ti_0 he0) (by decide) rfl (by decide) ?_
    refine zi_aloadn (q := 37) dX12_spotNow_36 rfl rfl ?_
    refine zi_getA (q := 40) dX12_spotNow_37 fl_12_47 so_68 rfl rfl ?_
    refine zi_iloadn (q := 41) dX12_spotNow_40 rfl rfl ?_
    obtain ⟨hz1, h⟩ := zg_some h
    refine zi_iald2 (q := 42) dX12_spotNow_41 so_81 (zin_vp hz1) rfl rfl ?_
    cases h
    exact zi_ret _ dX12_spotNow_42
  · replace h := (if_neg he0).symm.trans h
    by_cases he1 : x2 = 1
    · replace h := (if_pos he1).symm.trans h
      refine zi_tsIn (q := 43) (j := 1) dX12_spotNow_1 (zts_in ti_1 he1) (by decide) rfl (by decide) ?_
      refine zi_aloadn (q := 44) dX12_spotNow_43 rfl rfl ?_
      refine zi_getA (q := 47) dX12_spotNow_44 fl_12_50 so_68 rfl rfl ?_
      refine zi_iloadn (q := 48) dX12_spotNow_47 rfl rfl ?_
      obtain ⟨hz2, h⟩ := zg_some h
      refine zi_iald2 (q := 49) dX12_spotNow_48 so_82 (zin_vp hz2) rfl rfl ?_
      cases h
      exact zi_ret _ dX12_spotNow_49
    · replace h := (if_neg he1).symm.trans h
      by_cases he2 : x2 = 2
      · replace h := (if_pos he2).symm.trans h
        refine zi_tsIn (q := 50) (j := 2) dX12_spotNow_1 (zts_in ti_2 he2) (by decide) rfl (by decide) ?_
        refine zi_aloadn (q := 51) dX12_spotNow_50 rfl rfl ?_
        refine zi_getA (q := 54) dX12_spotNow_51 fl_12_53 so_68 rfl rfl ?_
        refine zi_iloadn (q := 55) dX12_spotNow_54 rfl rfl ?_
        obtain ⟨hz3, h⟩ := zg_some h
        refine zi_iald2 (q := 56) dX12_spotNow_55 so_83 (zin_vp hz3) rfl rfl ?_
        cases h
        exact zi_ret _ dX12_spotNow_56
      · replace h := (if_neg he2).symm.trans h
        by_cases he3 : x2 = 3
        · replace h := (if_pos he3).symm.trans h
          refine zi_tsIn (q := 57) (j := 3) dX12_spotNow_1 (zts_in ti_3 he3) (by decide) rfl (by decide) ?_
          refine zi_aloadn (q := 58) dX12_spotNow_57 rfl rfl ?_
          refine zi_getA (q := 61) dX12_spotNow_58 fl_12_56 so_68 rfl rfl ?_
          refine zi_iloadn (q := 62) dX12_spotNow_61 rfl rfl ?_
          obtain ⟨hz4, h⟩ := zg_some h
          refine zi_iald2 (q := 63) dX12_spotNow_62 so_84 (zin_vp hz4) rfl rfl ?_
          cases h
          exact zi_ret _ dX12_spotNow_63
        · replace h := (if_neg he3).symm.trans h
          by_cases he4 : x2 = 4
          · replace h := (if_pos he4).symm.trans h
            refine zi_tsIn (q := 64) (j := 4) dX12_spotNow_1 (zts_in ti_4 he4) (by decide) rfl (by decide) ?_
            refine zi_aloadn (q := 65) dX12_spotNow_64 rfl rfl ?_
            refine zi_getA (q := 68) dX12_spotNow_65 fl_12_59 so_68 rfl rfl ?_
            refine zi_iloadn (q := 69) dX12_spotNow_68 rfl rfl ?_
            obtain ⟨hz5, h⟩ := zg_some h
            refine zi_iald2 (q := 70) dX12_spotNow_69 so_85 (zin_vp hz5) rfl rfl ?_
            cases h
            exact zi_ret _ dX12_spotNow_70
          · replace h := (if_neg he4).symm.trans h
            refine zi_tsOut (q := 71) dX12_spotNow_1 (zts_out5 he0 he1 he2 he3 he4) (by decide) ?_
            refine zi_aloadn (q := 72) dX12_spotNow_71 rfl rfl ?_
            refine zi_getA (q := 75) dX12_spotNow_72 fl_12_62 so_68 rfl rfl ?_
            refine zi_iloadn (q := 76) dX12_spotNow_75 rfl rfl ?_
            obtain ⟨hz6, h⟩ := zg_some h
            refine zi_iald2 (q := 77) dX12_spotNow_76 so_86 (zin_vp hz6) rfl rfl ?_
            cases h
            exact zi_ret _ dX12_spotNow_77
set_option maxRecDepth 20000 in
theorem r_X12_spot {E : Nat × (Nat → Int32)} (x1 : Int32) (x2 : Int32) (m : zM) (x : Int32) (h : f_X12_spot x1 x2 m = some x) : zMet E zX12_spot [.ref 68, .int x1, .int x2] zSH m (some (.int x)) zSH m := by
  refine zMet.of (L0 := [some (.ref 68), some (.int x1), some (.int x2)]) rfl rfl (Nat.le_of_ble_eq_true rfl) rfl ?_
  unfold f_X12_spot at h
  refine zi_aloadn (q := 1) dX12_spot_0 rfl rfl ?_
  obtain ⟨r1, hr1, h⟩ := Option.bind_eq_some_iff.mp h
  refine zc_V2 (q := 4) (st := []) (S1 := [.int (bi r1)]) (r_X12_isGlass  _ r1 hr1) dX12_spot_1 cb_X12_isGlass k5_82 k5_84 ks_X12_isGlass ⟨by decide, by decide⟩ so_68 rfl rfl rfl (Nat.le_of_ble_eq_true rfl) (Or.inl rfl) rfl rfl ?_
  refine zi_ifeq (q := 21) (q2 := 7) dX12_spot_4 (by decide) rfl (fun hc => ?_) (fun hc => ?_)
  · replace h := (if_pos hc).symm.trans h
    refine zi_sipush (q := 24) dX12_spot_21 kc_m10001 rfl ?_
    cases h
    exact zi_ret _ dX12_spot_24
  · replace h := (if_neg hc).symm.trans h
    refine zi_iloadn (q := 8) dX12_spot_7 rfl rfl ?_
    refine zi_iconst (q := 9) dX12_spot_8 ki_0 rfl ?_
    refine zi_aloadn (q := 10) dX12_spot_9 rfl rfl ?_
    refine zi_getI (q := 13) dX12_spot_10 fl_12_209 (by decide) so_68 rfl ?_
    refine zi_iconst (q := 14) dX12_spot_13 ki_1 rfl ?_
    refine zi_isub (q := 15) dX12_spot_14 rfl ?_
    obtain ⟨r2, hr2, h⟩ := Option.bind_eq_some_iff.mp h
    refine zc_S2 (q := 18) (st := []) (S1 := [.int (bi r2)]) (r_X12_within x1 0 ((m.1 68 20) - 1) _ r2 hr2) dX12_spot_15 cb_X12_within k5_71 k5_72 ⟨by decide, by decide⟩ rfl (Nat.le_of_ble_eq_true rfl) (Or.inl rfl) rfl rfl ?_
    refine zi_ifne (q := 25) (q2 := 21) dX12_spot_18 (by decide) rfl (fun hc => ?_) (fun hc => ?_)
    · replace h := (if_neg hc).symm.trans h
      refine zi_iloadn (q := 26) dX12_spot_25 rfl rfl ?_
      refine zi_iconst (q := 27) dX12_spot_26 ki_0 rfl ?_
      refine zi_iconst (q := 28) dX12_spot_27 ki_5 rfl ?_
      obtain ⟨r3, hr3, h⟩ := Option.bind_eq_some_iff.mp h
      refine zc_S2 (q := 31) (st := []) (S1 := [.int (bi r3)]) (r_X12_within x2 0 5 _ r3 hr3) dX12_spot_28 cb_X12_within k5_71 k5_72 ⟨by decide, by decide⟩ rfl (Nat.le_of_ble_eq_true rfl) (Or.inl rfl) rfl rfl ?_
      refine zi_ifeq (q := 43) (q2 := 34) dX12_spot_31 (by decide) rfl (fun hc => ?_) (fun hc => ?_)
      · replace h := (if_pos hc).symm.trans h
        refine zi_sipush (q := 46) dX12_spot_43 kc_m10002 rfl ?_
        cases h
        exact zi_ret _ dX12_spot_46
      · replace h := (if_neg hc).symm.trans h
        refine zi_aloadn (q := 35) dX12_spot_34 rfl rfl ?_
        refine zi_iloadn (q := 36) dX12_spot_35 rfl rfl ?_
        refine zi_iloadn (q := 37) dX12_spot_36 rfl rfl ?_
        obtain ⟨r4, hr4, h⟩ := Option.bind_eq_some_iff.mp h
        refine zc_V2 (q := 40) (st := []) (S1 := [.int r4]) (r_X12_spotNow x1 x2 _ r4 hr4) dX12_spot_37 cb_X12_spotNow k6_132 k6_134 ks_X12_spotNow ⟨by decide, by decide⟩ so_68 rfl rfl rfl (Nat.le_of_ble_eq_true rfl) (Or.inl rfl) rfl rfl ?_
        refine zi_goto (q := 46) dX12_spot_40 (by decide) ?_
        cases h
        exact zi_ret _ dX12_spot_46
    · replace h := (if_pos hc).symm.trans h
      refine zi_sipush (q := 24) dX12_spot_21 kc_m10001 rfl ?_
      cases h
      exact zi_ret _ dX12_spot_24
set_option maxRecDepth 20000 in
theorem r_X7_hasTrack {E : Nat × (Nat → Int32)} (x1 : Int32) (m : zM) (x : Bool) (h : f_X7_hasTrack x1 m = some x) : zMet E zX7_hasTrack [.ref 13, .int x1] zSH m (some (.int (bi x))) zSH m := by
  refine zMet.of (L0 := [some (.ref 13), some (.int x1)]) rfl (zfit_bi _) (Nat.le_of_ble_eq_true rfl) rfl ?_
  unfold f_X7_hasTrack at h
  refine zi_aloadn (q := 1) dX7_hasTrack_0 rfl rfl ?_
  refine zi_getI (q := 4) dX7_hasTrack_1 fl_7_75 (by decide) so_13 rfl ?_
  refine zi_ifeq (q := 28) (q2 := 7) dX7_hasTrack_4 (by decide) rfl (fun hc => ?_) (fun hc => ?_)
  · replace h := (if_pos hc).symm.trans h
    refine zi_iconst (q := 29) dX7_hasTrack_28 ki_0 rfl ?_
    cases h
    exact zi_ret _ dX7_hasTrack_29
  · replace h := (if_neg hc).symm.trans h
    refine zi_iloadn (q := 8) dX7_hasTrack_7 rfl rfl ?_
    refine zi_iconst (q := 9) dX7_hasTrack_8 ki_0 rfl ?_
    refine zi_aloadn (q := 10) dX7_hasTrack_9 rfl rfl ?_
    refine zi_getA (q := 13) dX7_hasTrack_10 fl_7_71 so_13 rfl rfl ?_
    refine zi_getI (q := 16) dX7_hasTrack_13 fl_7_102 (by decide) so_60 rfl ?_
    refine zi_iconst (q := 17) dX7_hasTrack_16 ki_1 rfl ?_
    refine zi_isub (q := 18) dX7_hasTrack_17 rfl ?_
    obtain ⟨r1, hr1, h⟩ := Option.bind_eq_some_iff.mp h
    refine zc_SN2 (q := 21) (st := []) (S1 := [.int (bi r1)]) (r_X11_within x1 0 ((m.1 60 1) - 1) _ r1 hr1) dX7_hasTrack_18 cb_X11_within zn_7_118 k2_175 ⟨by decide, by decide⟩ rfl (Nat.le_of_ble_eq_true rfl) (Or.inl rfl) rfl rfl ?_
    refine zi_ifeq (q := 28) (q2 := 24) dX7_hasTrack_21 (by decide) rfl (fun hc => ?_) (fun hc => ?_)
    · replace h := (if_pos hc).symm.trans h
      refine zi_iconst (q := 29) dX7_hasTrack_28 ki_0 rfl ?_
      cases h
      exact zi_ret _ dX7_hasTrack_29
    · replace h := (if_neg hc).symm.trans h
      refine zi_iconst (q := 25) dX7_hasTrack_24 ki_1 rfl ?_
      refine zi_goto (q := 29) dX7_hasTrack_25 (by decide) ?_
      cases h
      exact zi_ret _ dX7_hasTrack_29
set_option maxRecDepth 20000 in
theorem r_X11_track {E : Nat × (Nat → Int32)} (x1 : Int32) (x2 : Int32) (m : zM) (x : Int32) (h : f_X11_track x1 x2 m = some x) : zMet E zX11_track [.ref 0, .int x1, .int x2] zSH m (some (.int x)) zSH m := by
  refine zMet.of (L0 := [some (.ref 0), some (.int x1), some (.int x2)]) rfl rfl (Nat.le_of_ble_eq_true rfl) rfl ?_
  unfold f_X11_track at h
  refine zi_aloadn (q := 1) dX11_track_0 rfl rfl ?_
  refine zi_getA (q := 4) dX11_track_1 fl_11_28 so_0 rfl rfl ?_
  refine zi_iloadn (q := 5) dX11_track_4 rfl rfl ?_
  obtain ⟨r1, hr1, h⟩ := Option.bind_eq_some_iff.mp h
  refine zc_V2 (q := 8) (st := []) (S1 := [.int (bi r1)]) (r_X7_hasTrack x1 _ r1 hr1) dX11_track_5 cb_X7_hasTrack k4_60 k4_61 k4_62 ⟨by decide, by decide⟩ so_13 rfl rfl rfl (Nat.le_of_ble_eq_true rfl) (Or.inl rfl) rfl rfl ?_
  refine zi_ifne (q := 15) (q2 := 11) dX11_track_8 (by decide) rfl (fun hc => ?_) (fun hc => ?_)
  · replace h := (if_neg hc).symm.trans h
    refine zi_iloadn (q := 16) dX11_track_15 rfl rfl ?_
    refine zi_iconst (q := 17) dX11_track_16 ki_0 rfl ?_
    refine zi_bipush (q := 19) dX11_track_17 kb_8 rfl ?_
    obtain ⟨r2, hr2, h⟩ := Option.bind_eq_some_iff.mp h
    refine zc_S2 (q := 22) (st := []) (S1 := [.int (bi r2)]) (r_X11_within x2 0 8 _ r2 hr2) dX11_track_19 cb_X11_within k2_174 k2_175 ⟨by decide, by decide⟩ rfl (Nat.le_of_ble_eq_true rfl) (Or.inl rfl) rfl rfl ?_
    refine zi_ifne (q := 29) (q2 := 25) dX11_track_22 (by decide) rfl (fun hc => ?_) (fun hc => ?_)
    · replace h := (if_neg hc).symm.trans h
      refine zi_aloadn (q := 30) dX11_track_29 rfl rfl ?_
      refine zi_getA (q := 33) dX11_track_30 fl_11_28 so_0 rfl rfl ?_
      refine zi_getA (q := 36) dX11_track_33 fl_11_167 so_13 rfl rfl ?_
      refine zi_getA (q := 39) dX11_track_36 fl_11_171 so_60 rfl rfl ?_
      refine zi_iloadn (q := 40) dX11_track_39 rfl rfl ?_
      obtain ⟨hz3, h⟩ := zg_some h
      refine zi_aald2 (q := 41) dX11_track_40 so_61 (zin_vp hz3) rfl rfl ?_
      refine zi_iloadn (q := 42) dX11_track_41 rfl rfl ?_
      obtain ⟨hz4, h⟩ := zg_some h
      refine zi_iald2 (q := 43) dX11_track_42 (sr_61 _) (zin_vp hz4) rfl rfl ?_
      cases h
      exact zi_ret _ dX11_track_43
    · replace h := (if_pos hc).symm.trans h
      refine zi_sipush (q := 28) dX11_track_25 kc_m10002 rfl ?_
      cases h
      exact zi_ret _ dX11_track_28
  · replace h := (if_pos hc).symm.trans h
    refine zi_sipush (q := 14) dX11_track_11 kc_m10001 rfl ?_
    cases h
    exact zi_ret _ dX11_track_14
set_option maxRecDepth 20000 in
theorem r_X12_isTrack {E : Nat × (Nat → Int32)} (x1 : Int32) (m : zM) (x : Bool) (h : f_X12_isTrack x1 m = some x) : zMet E zX12_isTrack [.ref 68, .int x1] zSH m (some (.int (bi x))) zSH m := by
  refine zMet.of (L0 := [some (.ref 68), some (.int x1)]) rfl (zfit_bi _) (Nat.le_of_ble_eq_true rfl) rfl ?_
  unfold f_X12_isTrack at h
  refine zi_aloadn (q := 1) dX12_isTrack_0 rfl rfl ?_
  obtain ⟨r1, hr1, h⟩ := Option.bind_eq_some_iff.mp h
  refine zc_V2 (q := 4) (st := []) (S1 := [.int (bi r1)]) (r_X12_isGlass  _ r1 hr1) dX12_isTrack_1 cb_X12_isGlass k5_82 k5_84 ks_X12_isGlass ⟨by decide, by decide⟩ so_68 rfl rfl rfl (Nat.le_of_ble_eq_true rfl) (Or.inl rfl) rfl rfl ?_
  refine zi_ifeq (q := 25) (q2 := 7) dX12_isTrack_4 (by decide) rfl (fun hc => ?_) (fun hc => ?_)
  · replace h := (if_pos hc).symm.trans h
    refine zi_iconst (q := 26) dX12_isTrack_25 ki_0 rfl ?_
    cases h
    exact zi_ret _ dX12_isTrack_26
  · replace h := (if_neg hc).symm.trans h
    refine zi_iloadn (q := 8) dX12_isTrack_7 rfl rfl ?_
    refine zi_iconst (q := 9) dX12_isTrack_8 ki_0 rfl ?_
    refine zi_aloadn (q := 10) dX12_isTrack_9 rfl rfl ?_
    refine zi_getI (q := 13) dX12_isTrack_10 fl_12_212 (by decide) so_68 rfl ?_
    refine zi_iconst (q := 14) dX12_isTrack_13 ki_1 rfl ?_
    refine zi_isub (q := 15) dX12_isTrack_14 rfl ?_
    obtain ⟨r2, hr2, h⟩ := Option.bind_eq_some_iff.mp h
    refine zc_S2 (q := 18) (st := []) (S1 := [.int (bi r2)]) (r_X12_within x1 0 ((m.1 68 27) - 1) _ r2 hr2) dX12_isTrack_15 cb_X12_within k5_71 k5_72 ⟨by decide, by decide⟩ rfl (Nat.le_of_ble_eq_true rfl) (Or.inl rfl) rfl rfl ?_
    refine zi_ifeq (q := 25) (q2 := 21) dX12_isTrack_18 (by decide) rfl (fun hc => ?_) (fun hc => ?_)
    · replace h := (if_pos hc).symm.trans h
      refine zi_iconst (q := 26) dX12_isTrack_25 ki_0 rfl ?_
      cases h
      exact zi_ret _ dX12_isTrack_26
    · replace h := (if_neg hc).symm.trans h
      refine zi_iconst (q := 22) dX12_isTrack_21 ki_1 rfl ?_
      refine zi_goto (q := 26) dX12_isTrack_22 (by decide) ?_
      cases h
      exact zi_ret _ dX12_isTrack_26
set_option maxRecDepth 20000 in
theorem r_X12_trackNow {E : Nat × (Nat → Int32)} (x1 : Int32) (x2 : Int32) (m : zM) (x : Int32) (h : f_X12_trackNow x1 x2 m = some x) : zMet E zX12_trackNow [.ref 68, .int x1, .int x2] zSH m (some (.int x)) zSH m := by
  refine zMet.of (L0 := [some (.ref 68), some (.int x1), some (.int x2)]) rfl rfl (Nat.le_of_ble_eq_true rfl) rfl ?_
  unfold f_X12_trackNow at h
  refine zi_iloadn (q := 1) dX12_trackNow_0 rfl rfl ?_
  by_cases he0 : x2 = 0
  · replace h := (if_pos he0).symm.trans h
    refine zi_tsIn (q := 48) (j := 0) dX12_trackNow_1 (zts_in ti_0 he0) (by decide) rfl (by decide) ?_
    refine zi_aloadn (q := 49) dX12_trackNow_48 rfl rfl ?_
    refine zi_getA (q := 52) dX12_trackNow_49 fl_12_65 so_68 rfl rfl ?_
    refine zi_iloadn (q := 53) dX12_trackNow_52 rfl rfl ?_
    obtain ⟨hz1, h⟩ := zg_some h
    refine zi_iald2 (q := 54) dX12_trackNow_53 so_87 (zin_vp hz1) rfl rfl ?_
    cases h
    exact zi_ret _ dX12_trackNow_54
  · replace h := (if_neg he0).symm.trans h
    by_cases he1 : x2 = 1
    · replace h := (if_pos he1).symm.trans h
      refine zi_tsIn (q := 55) (j := 1) dX12_trackNow_1 (zts_in ti_1 he1) (by decide) rfl (by decide) ?_
      refine zi_aloadn (q := 56) dX12_trackNow_55 rfl rfl ?_
      refine zi_getA (q := 59) dX12_trackNow_56 fl_12_68 so_68 rfl rfl ?_
      refine zi_iloadn (q := 60) dX12_trackNow_59 rfl rfl ?_
      obtain ⟨hz2, h⟩ := zg_some h
      refine zi_iald2 (q := 61) dX12_trackNow_60 so_88 (zin_vp hz2) rfl rfl ?_
      cases h
      exact zi_ret _ dX12_trackNow_61
    · replace h := (if_neg he1).symm.trans h
      by_cases he2 : x2 = 2
      · replace h := (if_pos he2).symm.trans h
        refine zi_tsIn (q := 62) (j := 2) dX12_trackNow_1 (zts_in ti_2 he2) (by decide) rfl (by decide) ?_
        refine zi_aloadn (q := 63) dX12_trackNow_62 rfl rfl ?_
        refine zi_getA (q := 66) dX12_trackNow_63 fl_12_71 so_68 rfl rfl ?_
        refine zi_iloadn (q := 67) dX12_trackNow_66 rfl rfl ?_
        obtain ⟨hz3, h⟩ := zg_some h
        refine zi_iald2 (q := 68) dX12_trackNow_67 so_89 (zin_vp hz3) rfl rfl ?_
        cases h
        exact zi_ret _ dX12_trackNow_68
      · replace h := (if_neg he2).symm.trans h
        by_cases he3 : x2 = 3
        · replace h := (if_pos he3).symm.trans h
          refine zi_tsIn (q := 69) (j := 3) dX12_trackNow_1 (zts_in ti_3 he3) (by decide) rfl (by decide) ?_
          refine zi_aloadn (q := 70) dX12_trackNow_69 rfl rfl ?_
          refine zi_getA (q := 73) dX12_trackNow_70 fl_12_74 so_68 rfl rfl ?_
          refine zi_iloadn (q := 74) dX12_trackNow_73 rfl rfl ?_
          obtain ⟨hz4, h⟩ := zg_some h
          refine zi_iald2 (q := 75) dX12_trackNow_74 so_90 (zin_vp hz4) rfl rfl ?_
          cases h
          exact zi_ret _ dX12_trackNow_75
        · replace h := (if_neg he3).symm.trans h
          by_cases he4 : x2 = 4
          · replace h := (if_pos he4).symm.trans h
            refine zi_tsIn (q := 76) (j := 4) dX12_trackNow_1 (zts_in ti_4 he4) (by decide) rfl (by decide) ?_
            refine zi_aloadn (q := 77) dX12_trackNow_76 rfl rfl ?_
            refine zi_getA (q := 80) dX12_trackNow_77 fl_12_77 so_68 rfl rfl ?_
            refine zi_iloadn (q := 81) dX12_trackNow_80 rfl rfl ?_
            obtain ⟨hz5, h⟩ := zg_some h
            refine zi_iald2 (q := 82) dX12_trackNow_81 so_91 (zin_vp hz5) rfl rfl ?_
            cases h
            exact zi_ret _ dX12_trackNow_82
          · replace h := (if_neg he4).symm.trans h
            by_cases he5 : x2 = 5
            · replace h := (if_pos he5).symm.trans h
              refine zi_tsIn (q := 83) (j := 5) dX12_trackNow_1 (zts_in ti_5 he5) (by decide) rfl (by decide) ?_
              refine zi_aloadn (q := 84) dX12_trackNow_83 rfl rfl ?_
              refine zi_getA (q := 87) dX12_trackNow_84 fl_12_80 so_68 rfl rfl ?_
              refine zi_iloadn (q := 88) dX12_trackNow_87 rfl rfl ?_
              obtain ⟨hz6, h⟩ := zg_some h
              refine zi_iald2 (q := 89) dX12_trackNow_88 so_92 (zin_vp hz6) rfl rfl ?_
              cases h
              exact zi_ret _ dX12_trackNow_89
            · replace h := (if_neg he5).symm.trans h
              by_cases he6 : x2 = 6
              · replace h := (if_pos he6).symm.trans h
                refine zi_tsIn (q := 90) (j := 6) dX12_trackNow_1 (zts_in ti_6 he6) (by decide) rfl (by decide) ?_
                refine zi_aloadn (q := 91) dX12_trackNow_90 rfl rfl ?_
                refine zi_getA (q := 94) dX12_trackNow_91 fl_12_83 so_68 rfl rfl ?_
                refine zi_iloadn (q := 95) dX12_trackNow_94 rfl rfl ?_
                obtain ⟨hz7, h⟩ := zg_some h
                refine zi_iald2 (q := 96) dX12_trackNow_95 so_93 (zin_vp hz7) rfl rfl ?_
                cases h
                exact zi_ret _ dX12_trackNow_96
              · replace h := (if_neg he6).symm.trans h
                by_cases he7 : x2 = 7
                · replace h := (if_pos he7).symm.trans h
                  refine zi_tsIn (q := 97) (j := 7) dX12_trackNow_1 (zts_in ti_7 he7) (by decide) rfl (by decide) ?_
                  refine zi_aloadn (q := 98) dX12_trackNow_97 rfl rfl ?_
                  refine zi_getA (q := 101) dX12_trackNow_98 fl_12_86 so_68 rfl rfl ?_
                  refine zi_iloadn (q := 102) dX12_trackNow_101 rfl rfl ?_
                  obtain ⟨hz8, h⟩ := zg_some h
                  refine zi_iald2 (q := 103) dX12_trackNow_102 so_94 (zin_vp hz8) rfl rfl ?_
                  cases h
                  exact zi_ret _ dX12_trackNow_103
                · replace h := (if_neg he7).symm.trans h
                  refine zi_tsOut (q := 104) dX12_trackNow_1 (zts_out8 he0 he1 he2 he3 he4 he5 he6 he7) (by decide) ?_
                  refine zi_aloadn (q := 105) dX12_trackNow_104 rfl rfl ?_
                  refine zi_getA (q := 108) dX12_trackNow_105 fl_12_89 so_68 rfl rfl ?_
                  refine zi_iloadn (q := 109) dX12_trackNow_108 rfl rfl ?_
                  obtain ⟨hz9, h⟩ := zg_some h
                  refine zi_bald2 (q := 110) dX12_trackNow_109 so_95 (zin_vp hz9) rfl rfl ?_
                  refine zi_ifeq (q := 117) (q2 := 113) dX12_trackNow_110 (by decide) rfl (fun hc => ?_) (fun hc => ?_)
                  · replace h := (if_pos hc).symm.trans h
                    refine zi_iconst (q := 118) dX12_trackNow_117 ki_0 rfl ?_
                    cases h
                    exact zi_ret _ dX12_trackNow_118
                  · replace h := (if_neg hc).symm.trans h
                    refine zi_iconst (q := 114) dX12_trackNow_113 ki_1 rfl ?_
                    refine zi_goto (q := 118) dX12_trackNow_114 (by decide) ?_
                    cases h
                    exact zi_ret _ dX12_trackNow_118
