set_option maxRecDepth 20000 in
theorem rb_X12_digest_20 {E : Nat × (Nat → Int32)}   (s : (Int32 × zM)) (rv : Option Value) (m' : zM) (x : ((Int32 × zM) ⊕ (zM))) (h : b_X12_digest_20  s = some x) (KI : ∀ s1 : (Int32 × zM), x = .inl s1 → Rn E zX12_digest 20 [some (.ref 68), some (.int s1.1)] [] zSH s1.2 rv zSH m') (KO : ∀ r1 : (zM), x = .inr r1 → Rn E zX12_digest 51 [some (.ref 68), none] [] zSH r1 rv zSH m') : Rn E zX12_digest 20 [some (.ref 68), some (.int s.1)] [] zSH s.2 rv zSH m' := by
  unfold b_X12_digest_20 at h
  refine zi_iloadn (q := 21) dX12_digest_20 rfl rfl ?_
  refine zi_iconst (q := 22) dX12_digest_21 ki_3 rfl ?_
  refine zi_aloadn (q := 23) dX12_digest_22 rfl rfl ?_
  refine zi_getI (q := 26) dX12_digest_23 fl_12_316 (by decide) so_68 rfl ?_
  refine zi_imul (q := 27) dX12_digest_26 rfl ?_
  refine zi_icmpge (q := 51) (q2 := 30) dX12_digest_27 (by decide) rfl (fun hc => ?_) (fun hc => ?_)
  · replace h := (if_pos hc).symm.trans h
    refine Rn.weakm [true, false] ?_
    exact KO s.2 (Option.some.inj h).symm
  · replace h := (if_neg hc).symm.trans h
    refine zi_aloadn (q := 31) dX12_digest_30 rfl rfl ?_
    refine zi_aloadn (q := 32) dX12_digest_31 rfl rfl ?_
    refine zi_iloadn (q := 33) dX12_digest_32 rfl rfl ?_
    refine zi_iconst (q := 34) dX12_digest_33 ki_3 rfl ?_
    refine zi_idiv (q := 35) dX12_digest_34 nz_3 rfl ?_
    refine zi_iloadn (q := 36) dX12_digest_35 rfl rfl ?_
    refine zi_iconst (q := 37) dX12_digest_36 ki_3 rfl ?_
    refine zi_irem2 (q := 38) dX12_digest_37 nz_3 rfl ?_
    obtain ⟨r2, hr2, h⟩ := Option.bind_eq_some_iff.mp h
    refine zc_V2 (q := 41) (st := [.ref 68]) (S1 := [.int r2, .ref 68]) (r_X12_eventNow (s.1 / 3) (zrem s.1 3) _ r2 hr2) dX12_digest_38 cb_X12_eventNow k6_156 k6_158 ks_X12_eventNow ⟨by decide, by decide⟩ so_68 rfl rfl rfl (Nat.le_of_ble_eq_true rfl) (Or.inl rfl) rfl rfl ?_
    refine zi_i2l (q := 42) dX12_digest_41 rfl ?_
    obtain ⟨m3, hm3, h⟩ := Option.bind_eq_some_iff.mp h
    refine zc_V2 (q := 45) (st := []) (S1 := []) (r_X12_mix r2.toInt64 _ m3 hm3) dX12_digest_42 cb_X12_mix k6_181 k6_183 ks_X12_mix ⟨by decide, by decide⟩ so_68 rfl rfl rfl (Nat.le_of_ble_eq_true rfl) (Or.inl rfl) rfl rfl ?_
    refine zi_iinc (q := 48) (v := s.1 + 1) (L' := [some (.ref 68), some (.int (s.1 + 1))]) dX12_digest_45 rfl (by rw [ki_1]) (by decide) rfl rfl rfl ?_
    refine zi_goto (q := 20) dX12_digest_48 (by decide) ?_
    exact KI ((s.1 + 1), m3) (Option.some.inj h).symm
set_option maxRecDepth 20000 in
theorem rb_X12_digest_53 {E : Nat × (Nat → Int32)}   (s : (Int32 × zM)) (rv : Option Value) (m' : zM) (x : ((Int32 × zM) ⊕ (zM))) (h : b_X12_digest_53  s = some x) (KI : ∀ s1 : (Int32 × zM), x = .inl s1 → Rn E zX12_digest 53 [some (.ref 68), some (.int s1.1)] [] zSH s1.2 rv zSH m') (KO : ∀ r1 : (zM), x = .inr r1 → Rn E zX12_digest 78 [some (.ref 68), none] [] zSH r1 rv zSH m') : Rn E zX12_digest 53 [some (.ref 68), some (.int s.1)] [] zSH s.2 rv zSH m' := by
  unfold b_X12_digest_53 at h
  refine zi_iloadn (q := 54) dX12_digest_53 rfl rfl ?_
  refine zi_aloadn (q := 55) dX12_digest_54 rfl rfl ?_
  refine zi_getI (q := 58) dX12_digest_55 fl_12_127 (by decide) so_68 rfl ?_
  refine zi_icmpge (q := 78) (q2 := 61) dX12_digest_58 (by decide) rfl (fun hc => ?_) (fun hc => ?_)
  · replace h := (if_pos hc).symm.trans h
    refine Rn.weakm [true, false] ?_
    exact KO s.2 (Option.some.inj h).symm
  · replace h := (if_neg hc).symm.trans h
    refine zi_aloadn (q := 62) dX12_digest_61 rfl rfl ?_
    refine zi_aloadn (q := 63) dX12_digest_62 rfl rfl ?_
    refine zi_getA (q := 66) dX12_digest_63 fl_12_7 so_68 rfl rfl ?_
    refine zi_iloadn (q := 67) dX12_digest_66 rfl rfl ?_
    obtain ⟨hz5, h⟩ := zg_some h
    refine zi_iald2 (q := 68) dX12_digest_67 so_69 (zin_vp hz5) rfl rfl ?_
    refine zi_i2l (q := 69) dX12_digest_68 rfl ?_
    obtain ⟨m6, hm6, h⟩ := Option.bind_eq_some_iff.mp h
    refine zc_V2 (q := 72) (st := []) (S1 := []) (r_X12_mix ((s.2.1 69 s.1.toNatClampNeg).toInt64) _ m6 hm6) dX12_digest_69 cb_X12_mix k6_181 k6_183 ks_X12_mix ⟨by decide, by decide⟩ so_68 rfl rfl rfl (Nat.le_of_ble_eq_true rfl) (Or.inl rfl) rfl rfl ?_
    refine zi_iinc (q := 75) (v := s.1 + 1) (L' := [some (.ref 68), some (.int (s.1 + 1))]) dX12_digest_72 rfl (by rw [ki_1]) (by decide) rfl rfl rfl ?_
    refine zi_goto (q := 53) dX12_digest_75 (by decide) ?_
    exact KI ((s.1 + 1), m6) (Option.some.inj h).symm
set_option maxRecDepth 20000 in
theorem rb_X12_digest_80 {E : Nat × (Nat → Int32)}   (s : (Int32 × zM)) (rv : Option Value) (m' : zM) (x : ((Int32 × zM) ⊕ (zM))) (h : b_X12_digest_80  s = some x) (KI : ∀ s1 : (Int32 × zM), x = .inl s1 → Rn E zX12_digest 80 [some (.ref 68), some (.int s1.1)] [] zSH s1.2 rv zSH m') (KO : ∀ r1 : (zM), x = .inr r1 → Rn E zX12_digest 102 [some (.ref 68), none] [] zSH r1 rv zSH m') : Rn E zX12_digest 80 [some (.ref 68), some (.int s.1)] [] zSH s.2 rv zSH m' := by
  unfold b_X12_digest_80 at h
  refine zi_iloadn (q := 81) dX12_digest_80 rfl rfl ?_
  refine zi_bipush (q := 83) dX12_digest_81 kb_6 rfl ?_
  refine zi_icmpge (q := 102) (q2 := 86) dX12_digest_83 (by decide) rfl (fun hc => ?_) (fun hc => ?_)
  · replace h := (if_pos hc).symm.trans h
    refine Rn.weakm [true, false] ?_
    exact KO s.2 (Option.some.inj h).symm
  · replace h := (if_neg hc).symm.trans h
    refine zi_aloadn (q := 87) dX12_digest_86 rfl rfl ?_
    refine zi_aloadn (q := 88) dX12_digest_87 rfl rfl ?_
    refine zi_iloadn (q := 89) dX12_digest_88 rfl rfl ?_
    obtain ⟨r8, hr8, h⟩ := Option.bind_eq_some_iff.mp h
    refine zc_V2 (q := 92) (st := [.ref 68]) (S1 := [.int r8, .ref 68]) (r_X12_howMany s.1 _ r8 hr8) dX12_digest_89 cb_X12_howMany k6_164 k6_166 ks_X12_howMany ⟨by decide, by decide⟩ so_68 rfl rfl rfl (Nat.le_of_ble_eq_true rfl) (Or.inl rfl) rfl rfl ?_
    refine zi_i2l (q := 93) dX12_digest_92 rfl ?_
    obtain ⟨m9, hm9, h⟩ := Option.bind_eq_some_iff.mp h
    refine zc_V2 (q := 96) (st := []) (S1 := []) (r_X12_mix r8.toInt64 _ m9 hm9) dX12_digest_93 cb_X12_mix k6_181 k6_183 ks_X12_mix ⟨by decide, by decide⟩ so_68 rfl rfl rfl (Nat.le_of_ble_eq_true rfl) (Or.inl rfl) rfl rfl ?_
    refine zi_iinc (q := 99) (v := s.1 + 1) (L' := [some (.ref 68), some (.int (s.1 + 1))]) dX12_digest_96 rfl (by rw [ki_1]) (by decide) rfl rfl rfl ?_
    refine zi_goto (q := 80) dX12_digest_99 (by decide) ?_
    exact KI ((s.1 + 1), m9) (Option.some.inj h).symm
set_option maxRecDepth 20000 in
theorem rb_X12_digest_104 {E : Nat × (Nat → Int32)}   (s : (Int32 × zM)) (rv : Option Value) (m' : zM) (x : ((Int32 × zM) ⊕ (zM))) (h : b_X12_digest_104  s = some x) (KI : ∀ s1 : (Int32 × zM), x = .inl s1 → Rn E zX12_digest 104 [some (.ref 68), some (.int s1.1)] [] zSH s1.2 rv zSH m') (KO : ∀ r1 : (zM), x = .inr r1 → Rn E zX12_digest 126 [some (.ref 68), none] [] zSH r1 rv zSH m') : Rn E zX12_digest 104 [some (.ref 68), some (.int s.1)] [] zSH s.2 rv zSH m' := by
  unfold b_X12_digest_104 at h
  refine zi_iloadn (q := 105) dX12_digest_104 rfl rfl ?_
  refine zi_iconst (q := 106) dX12_digest_105 ki_5 rfl ?_
  refine zi_icmpge (q := 126) (q2 := 109) dX12_digest_106 (by decide) rfl (fun hc => ?_) (fun hc => ?_)
  · replace h := (if_pos hc).symm.trans h
    refine Rn.weakm [true, false] ?_
    exact KO s.2 (Option.some.inj h).symm
  · replace h := (if_neg hc).symm.trans h
    refine zi_aloadn (q := 110) dX12_digest_109 rfl rfl ?_
    refine zi_aloadn (q := 111) dX12_digest_110 rfl rfl ?_
    refine zi_getA (q := 114) dX12_digest_111 fl_12_101 so_68 rfl rfl ?_
    refine zi_iloadn (q := 115) dX12_digest_114 rfl rfl ?_
    obtain ⟨hz11, h⟩ := zg_some h
    refine zi_iald2 (q := 116) dX12_digest_115 so_99 (zin_vp hz11) rfl rfl ?_
    refine zi_i2l (q := 117) dX12_digest_116 rfl ?_
    obtain ⟨m12, hm12, h⟩ := Option.bind_eq_some_iff.mp h
    refine zc_V2 (q := 120) (st := []) (S1 := []) (r_X12_mix ((s.2.1 99 s.1.toNatClampNeg).toInt64) _ m12 hm12) dX12_digest_117 cb_X12_mix k6_181 k6_183 ks_X12_mix ⟨by decide, by decide⟩ so_68 rfl rfl rfl (Nat.le_of_ble_eq_true rfl) (Or.inl rfl) rfl rfl ?_
    refine zi_iinc (q := 123) (v := s.1 + 1) (L' := [some (.ref 68), some (.int (s.1 + 1))]) dX12_digest_120 rfl (by rw [ki_1]) (by decide) rfl rfl rfl ?_
    refine zi_goto (q := 104) dX12_digest_123 (by decide) ?_
    exact KI ((s.1 + 1), m12) (Option.some.inj h).symm
set_option maxRecDepth 20000 in
theorem rj_X12_digest_18 {E : Nat × (Nat → Int32)} (m : zM)  (x : (Int64 × zM)) (h : j_X12_digest_18  m = some x) : Rn E zX12_digest 18 [some (.ref 68), none] [] zSH m (some (.long x.1)) zSH x.2 := by
  unfold j_X12_digest_18 at h
  refine zi_iconst (q := 19) dX12_digest_18 ki_0 rfl ?_
  refine zi_istoren (q := 20) (L' := [some (.ref 68), some (.int 0)]) dX12_digest_19 (by decide) rfl rfl rfl ?_
  obtain ⟨r4, hr4, h⟩ := Option.bind_eq_some_iff.mp h
  refine zloop_rn (P := fun w : (Int32 × zM) => Rn E zX12_digest 20 [some (.ref 68), some (.int w.1)] [] zSH w.2 (some (.long x.1)) zSH x.2) (X := fun w : (zM) => Rn E zX12_digest 51 [some (.ref 68), none] [] zSH w (some (.long x.1)) zSH x.2) (fun w w0 hb KI KX => rb_X12_digest_20  w _ _ w0 hb KI KX) zFU _ r4 hr4 ?_
  show Rn E zX12_digest 51 [some (.ref 68), none] [] zSH r4 (some (.long x.1)) zSH x.2
  refine zi_iconst (q := 52) dX12_digest_51 ki_0 rfl ?_
  refine zi_istoren (q := 53) (L' := [some (.ref 68), some (.int 0)]) dX12_digest_52 (by decide) rfl rfl rfl ?_
  obtain ⟨r7, hr7, h⟩ := Option.bind_eq_some_iff.mp h
  refine zloop_rn (P := fun w : (Int32 × zM) => Rn E zX12_digest 53 [some (.ref 68), some (.int w.1)] [] zSH w.2 (some (.long x.1)) zSH x.2) (X := fun w : (zM) => Rn E zX12_digest 78 [some (.ref 68), none] [] zSH w (some (.long x.1)) zSH x.2) (fun w w0 hb KI KX => rb_X12_digest_53  w _ _ w0 hb KI KX) zFU _ r7 hr7 ?_
  show Rn E zX12_digest 78 [some (.ref 68), none] [] zSH r7 (some (.long x.1)) zSH x.2
  refine zi_iconst (q := 79) dX12_digest_78 ki_0 rfl ?_
  refine zi_istoren (q := 80) (L' := [some (.ref 68), some (.int 0)]) dX12_digest_79 (by decide) rfl rfl rfl ?_
  obtain ⟨r10, hr10, h⟩ := Option.bind_eq_some_iff.mp h
  refine zloop_rn (P := fun w : (Int32 × zM) => Rn E zX12_digest 80 [some (.ref 68), some (.int w.1)] [] zSH w.2 (some (.long x.1)) zSH x.2) (X := fun w : (zM) => Rn E zX12_digest 102 [some (.ref 68), none] [] zSH w (some (.long x.1)) zSH x.2) (fun w w0 hb KI KX => rb_X12_digest_80  w _ _ w0 hb KI KX) zFU _ r10 hr10 ?_
  show Rn E zX12_digest 102 [some (.ref 68), none] [] zSH r10 (some (.long x.1)) zSH x.2
  refine zi_iconst (q := 103) dX12_digest_102 ki_1 rfl ?_
  refine zi_istoren (q := 104) (L' := [some (.ref 68), some (.int 1)]) dX12_digest_103 (by decide) rfl rfl rfl ?_
  obtain ⟨r13, hr13, h⟩ := Option.bind_eq_some_iff.mp h
  refine zloop_rn (P := fun w : (Int32 × zM) => Rn E zX12_digest 104 [some (.ref 68), some (.int w.1)] [] zSH w.2 (some (.long x.1)) zSH x.2) (X := fun w : (zM) => Rn E zX12_digest 126 [some (.ref 68), none] [] zSH w (some (.long x.1)) zSH x.2) (fun w w0 hb KI KX => rb_X12_digest_104  w _ _ w0 hb KI KX) zFU _ r13 hr13 ?_
  show Rn E zX12_digest 126 [some (.ref 68), none] [] zSH r13 (some (.long x.1)) zSH x.2
  refine zi_aloadn (q := 127) dX12_digest_126 rfl rfl ?_
  refine zi_getJ (q := 130) dX12_digest_127 fl_12_402 so_68 rfl ?_
  cases h
  exact zi_ret _ dX12_digest_130
set_option maxRecDepth 20000 in
theorem r_X12_digest {E : Nat × (Nat → Int32)}  (m : zM) (x : (Int64 × zM)) (h : f_X12_digest  m = some x) : zMet E zX12_digest [.ref 68] zSH m (some (.long x.1)) zSH x.2 := by
  refine zMet.of (L0 := [some (.ref 68), none]) rfl trivial (Nat.le_of_ble_eq_true rfl) rfl ?_
  unfold f_X12_digest at h
  refine zi_aloadn (q := 1) dX12_digest_0 rfl rfl ?_
  refine zi_ldc2 (q := 4) dX12_digest_1 k6_176 rfl ?_
  refine zi_putJ (q := 7) dX12_digest_4 pl_12_402 so_68 rfl ?_
  refine zi_aloadn (q := 8) dX12_digest_7 rfl rfl ?_
  obtain ⟨r1, hr1, h⟩ := Option.bind_eq_some_iff.mp h
  refine zc_V2 (q := 11) (st := []) (S1 := [.int (bi r1)]) (r_X12_isGlass  _ r1 hr1) dX12_digest_8 cb_X12_isGlass k5_82 k5_84 ks_X12_isGlass ⟨by decide, by decide⟩ so_68 rfl rfl rfl (Nat.le_of_ble_eq_true rfl) (Or.inl rfl) rfl rfl ?_
  refine zi_ifeq (q := 18) (q2 := 14) dX12_digest_11 (by decide) rfl (fun hc => ?_) (fun hc => ?_)
  · replace h := (if_pos hc).symm.trans h
    exact rj_X12_digest_18  _ _ h
  · replace h := (if_neg hc).symm.trans h
    refine zi_aloadn (q := 15) dX12_digest_14 rfl rfl ?_
    obtain ⟨m14, hm14, h⟩ := Option.bind_eq_some_iff.mp h
    refine zc_V2 (q := 18) (st := []) (S1 := []) (r_X12_mixGlass  _ m14 hm14) dX12_digest_15 cb_X12_mixGlass k6_177 k6_179 ks_X12_mixGlass ⟨by decide, by decide⟩ so_68 rfl rfl rfl (Nat.le_of_ble_eq_true rfl) (Or.inl rfl) rfl rfl ?_
    exact rj_X12_digest_18  _ _ h
