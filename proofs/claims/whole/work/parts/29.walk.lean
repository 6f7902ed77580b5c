set_option maxRecDepth 20000 in
theorem r_X12_track {E : Nat × (Nat → Int32)} (x1 : Int32) (x2 : Int32) (m : zM) (x : Int32) (h : f_X12_track x1 x2 m = some x) : zMet E zX12_track [.ref 68, .int x1, .int x2] zSH m (some (.int x)) zSH m := by
  refine zMet.of (L0 := [some (.ref 68), some (.int x1), some (.int x2)]) rfl rfl (Nat.le_of_ble_eq_true rfl) rfl ?_
  unfold f_X12_track at h
  refine zi_aloadn (q := 1) dX12_track_0 rfl rfl ?_
  refine zi_iloadn (q := 2) dX12_track_1 rfl rfl ?_
  obtain ⟨r1, hr1, h⟩ := Option.bind_eq_some_iff.mp h
  refine zc_V2 (q := 5) (st := []) (S1 := [.int (bi r1)]) (r_X12_isTrack x1 _ r1 hr1) dX12_track_2 cb_X12_isTrack k6_140 k6_142 ks_X12_isTrack ⟨by decide, by decide⟩ so_68 rfl rfl rfl (Nat.le_of_ble_eq_true rfl) (Or.inl rfl) rfl rfl ?_
  refine zi_ifne (q := 14) (q2 := 8) dX12_track_5 (by decide) rfl (fun hc => ?_) (fun hc => ?_)
  · replace h := (if_neg hc).symm.trans h
    refine zi_iloadn (q := 15) dX12_track_14 rfl rfl ?_
    refine zi_iconst (q := 16) dX12_track_15 ki_0 rfl ?_
    refine zi_bipush (q := 18) dX12_track_16 kb_8 rfl ?_
    obtain ⟨r2, hr2, h⟩ := Option.bind_eq_some_iff.mp h
    refine zc_S2 (q := 21) (st := []) (S1 := [.int (bi r2)]) (r_X12_within x2 0 8 _ r2 hr2) dX12_track_18 cb_X12_within k5_71 k5_72 ⟨by decide, by decide⟩ rfl (Nat.le_of_ble_eq_true rfl) (Or.inl rfl) rfl rfl ?_
    refine zi_ifeq (q := 33) (q2 := 24) dX12_track_21 (by decide) rfl (fun hc => ?_) (fun hc => ?_)
    · replace h := (if_pos hc).symm.trans h
      refine zi_sipush (q := 36) dX12_track_33 kc_m10002 rfl ?_
      cases h
      exact zi_ret _ dX12_track_36
    · replace h := (if_neg hc).symm.trans h
      refine zi_aloadn (q := 25) dX12_track_24 rfl rfl ?_
      refine zi_iloadn (q := 26) dX12_track_25 rfl rfl ?_
      refine zi_iloadn (q := 27) dX12_track_26 rfl rfl ?_
      obtain ⟨r3, hr3, h⟩ := Option.bind_eq_some_iff.mp h
      refine zc_V2 (q := 30) (st := []) (S1 := [.int r3]) (r_X12_trackNow x1 x2 _ r3 hr3) dX12_track_27 cb_X12_trackNow k6_144 k6_146 ks_X12_trackNow ⟨by decide, by decide⟩ so_68 rfl rfl rfl (Nat.le_of_ble_eq_true rfl) (Or.inl rfl) rfl rfl ?_
      refine zi_goto (q := 36) dX12_track_30 (by decide) ?_
      cases h
      exact zi_ret _ dX12_track_36
  · replace h := (if_pos hc).symm.trans h
    refine zi_sipush (q := 11) dX12_track_8 kc_m10001 rfl ?_
    refine zi_goto (q := 36) dX12_track_11 (by decide) ?_
    cases h
    exact zi_ret _ dX12_track_36
set_option maxRecDepth 20000 in
theorem r_X11_as {E : Nat × (Nat → Int32)} (x1 : Int32) (x2 : Int32) (m : zM) (x : Int32) (h : f_X11_as x1 x2 m = some x) : zMet E zX11_as [.ref 0, .int x1, .int x2] zSH m (some (.int x)) zSH m := by
  refine zMet.of (L0 := [some (.ref 0), some (.int x1), some (.int x2), none]) rfl rfl (Nat.le_of_ble_eq_true rfl) rfl ?_
  unfold f_X11_as at h
  refine zi_aloadn (q := 1) dX11_as_0 rfl rfl ?_
  refine zi_getA (q := 4) dX11_as_1 fl_11_28 so_0 rfl rfl ?_
  refine zi_iloadn (q := 5) dX11_as_4 rfl rfl ?_
  obtain ⟨r1, hr1, h⟩ := Option.bind_eq_some_iff.mp h
  refine zc_V2 (q := 8) (st := []) (S1 := [.int (bi r1)]) (r_X7_hasTrack x1 _ r1 hr1) dX11_as_5 cb_X7_hasTrack k4_60 k4_61 k4_62 ⟨by decide, by decide⟩ so_13 rfl rfl rfl (Nat.le_of_ble_eq_true rfl) (Or.inl rfl) rfl rfl ?_
  refine zi_ifne (q := 15) (q2 := 11) dX11_as_8 (by decide) rfl (fun hc => ?_) (fun hc => ?_)
  · replace h := (if_neg hc).symm.trans h
    refine zi_iloadn (q := 16) dX11_as_15 rfl rfl ?_
    refine zi_iconst (q := 17) dX11_as_16 ki_0 rfl ?_
    refine zi_iconst (q := 18) dX11_as_17 ki_1 rfl ?_
    obtain ⟨r2, hr2, h⟩ := Option.bind_eq_some_iff.mp h
    refine zc_S2 (q := 21) (st := []) (S1 := [.int (bi r2)]) (r_X11_within x2 0 1 _ r2 hr2) dX11_as_18 cb_X11_within k2_174 k2_175 ⟨by decide, by decide⟩ rfl (Nat.le_of_ble_eq_true rfl) (Or.inl rfl) rfl rfl ?_
    refine zi_ifne (q := 28) (q2 := 24) dX11_as_21 (by decide) rfl (fun hc => ?_) (fun hc => ?_)
    · replace h := (if_neg hc).symm.trans h
      refine zi_aloadn (q := 29) dX11_as_28 rfl rfl ?_
      refine zi_getA (q := 32) dX11_as_29 fl_11_28 so_0 rfl rfl ?_
      refine zi_getA (q := 35) dX11_as_32 fl_11_167 so_13 rfl rfl ?_
      refine zi_getA (q := 38) dX11_as_35 fl_11_171 so_60 rfl rfl ?_
      refine zi_iloadn (q := 39) dX11_as_38 rfl rfl ?_
      obtain ⟨hz3, h⟩ := zg_some h
      refine zi_aald2 (q := 40) dX11_as_39 so_61 (zin_vp hz3) rfl rfl ?_
      refine zi_astoren (q := 41) (L' := [some (.ref 0), some (.int x1), some (.int x2), some (.ref (62 + (m.2.2 61 x1.toNatClampNeg) % 6))]) dX11_as_40 (by decide) rfl rfl rfl ?_
      refine zi_aloadn (q := 42) dX11_as_41 rfl rfl ?_
      refine zi_bipush (q := 44) dX11_as_42 kb_8 rfl ?_
      refine zi_iald2 (q := 45) dX11_as_44 (sr_61 _) vi_8_9 ix_8 rfl ?_
      refine zi_iloadn (q := 46) dX11_as_45 rfl rfl ?_
      refine zi_icmpne (q := 55) (q2 := 49) dX11_as_46 (by decide) rfl (fun hc => ?_) (fun hc => ?_)
      · replace h := (if_neg hc).symm.trans h
        refine zi_iconst (q := 56) dX11_as_55 ki_m1 rfl ?_
        cases h
        exact zi_ret _ dX11_as_56
      · replace h := (if_pos hc).symm.trans h
        refine zi_aloadn (q := 50) dX11_as_49 rfl rfl ?_
        refine zi_iconst (q := 51) dX11_as_50 ki_0 rfl ?_
        refine zi_iald2 (q := 52) dX11_as_51 (sr_61 _) vi_0_9 ix_0 rfl ?_
        refine zi_goto (q := 56) dX11_as_52 (by decide) ?_
        cases h
        exact zi_ret _ dX11_as_56
    · replace h := (if_pos hc).symm.trans h
      refine zi_sipush (q := 27) dX11_as_24 kc_m10002 rfl ?_
      cases h
      exact zi_ret _ dX11_as_27
  · replace h := (if_pos hc).symm.trans h
    refine zi_sipush (q := 14) dX11_as_11 kc_m10001 rfl ?_
    cases h
    exact zi_ret _ dX11_as_14
set_option maxRecDepth 20000 in
theorem rj_X12_as_41 {E : Nat × (Nat → Int32)} (x1 : Int32) (s0 : Int32) (s1 : Int32) (m : zM)  (x : Int32) (h : j_X12_as_41 x1 s0 s1 m = some x) : Rn E zX12_as 41 [some (.ref 68), some (.int x1), none] [.int s0, .int s1] zSH m (some (.int x)) zSH m := by
  unfold j_X12_as_41 at h
  refine zi_icmpne (q := 53) (q2 := 44) dX12_as_41 (by decide) rfl (fun hc => ?_) (fun hc => ?_)
  · replace h := (if_neg hc).symm.trans h
    refine zi_iconst (q := 54) dX12_as_53 ki_m1 rfl ?_
    cases h
    exact zi_ret _ dX12_as_54
  · replace h := (if_pos hc).symm.trans h
    refine zi_aloadn (q := 45) dX12_as_44 rfl rfl ?_
    refine zi_getA (q := 48) dX12_as_45 fl_12_65 so_68 rfl rfl ?_
    refine zi_iloadn (q := 49) dX12_as_48 rfl rfl ?_
    obtain ⟨hz4, h⟩ := zg_some h
    refine zi_iald2 (q := 50) dX12_as_49 so_87 (zin_vp hz4) rfl rfl ?_
    refine zi_goto (q := 54) dX12_as_50 (by decide) ?_
    cases h
    exact zi_ret _ dX12_as_54
set_option maxRecDepth 20000 in
theorem r_X12_as {E : Nat × (Nat → Int32)} (x1 : Int32) (x2 : Int32) (m : zM) (x : Int32) (h : f_X12_as x1 x2 m = some x) : zMet E zX12_as [.ref 68, .int x1, .int x2] zSH m (some (.int x)) zSH m := by
  refine zMet.of (L0 := [some (.ref 68), some (.int x1), some (.int x2)]) rfl rfl (Nat.le_of_ble_eq_true rfl) rfl ?_
  unfold f_X12_as at h
  refine zi_aloadn (q := 1) dX12_as_0 rfl rfl ?_
  refine zi_iloadn (q := 2) dX12_as_1 rfl rfl ?_
  obtain ⟨r1, hr1, h⟩ := Option.bind_eq_some_iff.mp h
  refine zc_V2 (q := 5) (st := []) (S1 := [.int (bi r1)]) (r_X12_isTrack x1 _ r1 hr1) dX12_as_2 cb_X12_isTrack k6_140 k6_142 ks_X12_isTrack ⟨by decide, by decide⟩ so_68 rfl rfl rfl (Nat.le_of_ble_eq_true rfl) (Or.inl rfl) rfl rfl ?_
  refine zi_ifne (q := 12) (q2 := 8) dX12_as_5 (by decide) rfl (fun hc => ?_) (fun hc => ?_)
  · replace h := (if_neg hc).symm.trans h
    refine zi_iloadn (q := 13) dX12_as_12 rfl rfl ?_
    refine zi_iconst (q := 14) dX12_as_13 ki_0 rfl ?_
    refine zi_iconst (q := 15) dX12_as_14 ki_1 rfl ?_
    obtain ⟨r2, hr2, h⟩ := Option.bind_eq_some_iff.mp h
    refine zc_S2 (q := 18) (st := []) (S1 := [.int (bi r2)]) (r_X12_within x2 0 1 _ r2 hr2) dX12_as_15 cb_X12_within k5_71 k5_72 ⟨by decide, by decide⟩ rfl (Nat.le_of_ble_eq_true rfl) (Or.inl rfl) rfl rfl ?_
    refine zi_ifne (q := 25) (q2 := 21) dX12_as_18 (by decide) rfl (fun hc => ?_) (fun hc => ?_)
    · replace h := (if_neg hc).symm.trans h
      refine zi_aloadn (q := 26) dX12_as_25 rfl rfl ?_
      refine zi_getA (q := 29) dX12_as_26 fl_12_89 so_68 rfl rfl ?_
      refine zi_iloadn (q := 30) dX12_as_29 rfl rfl ?_
      obtain ⟨hz3, h⟩ := zg_some h
      refine zi_bald2 (q := 31) dX12_as_30 so_95 (zin_vp hz3) rfl rfl ?_
      refine zi_iloadn (q := 32) dX12_as_31 rfl rfl ?_
      refine zi_iconst (q := 33) dX12_as_32 ki_1 rfl ?_
      refine zi_icmpne (q := 40) (q2 := 36) dX12_as_33 (by decide) rfl (fun hc => ?_) (fun hc => ?_)
      · replace h := (if_neg hc).symm.trans h
        refine zi_iconst (q := 41) dX12_as_40 ki_0 rfl ?_
        refine Rn.weakm [true, true, false] ?_
        exact rj_X12_as_41 x1 0 (m.1 95 x1.toNatClampNeg) _ _ h
      · replace h := (if_pos hc).symm.trans h
        refine zi_iconst (q := 37) dX12_as_36 ki_1 rfl ?_
        refine zi_goto (q := 41) dX12_as_37 (by decide) ?_
        refine Rn.weakm [true, true, false] ?_
        exact rj_X12_as_41 x1 1 (m.1 95 x1.toNatClampNeg) _ _ h
    · replace h := (if_pos hc).symm.trans h
      refine zi_sipush (q := 24) dX12_as_21 kc_m10002 rfl ?_
      cases h
      exact zi_ret _ dX12_as_24
  · replace h := (if_pos hc).symm.trans h
    refine zi_sipush (q := 11) dX12_as_8 kc_m10001 rfl ?_
    cases h
    exact zi_ret _ dX12_as_11
set_option maxRecDepth 20000 in
theorem r_X4_kept {E : Nat × (Nat → Int32)}  (m : zM) (x : Int32) (h : f_X4_kept  m = some x) : zMet E zX4_kept [.ref 8] zSH m (some (.int x)) zSH m := by
  refine zMet.of (L0 := [some (.ref 8)]) rfl rfl (Nat.le_of_ble_eq_true rfl) rfl ?_
  unfold f_X4_kept at h
  refine zi_aloadn (q := 1) dX4_kept_0 rfl rfl ?_
  refine zi_getI (q := 4) dX4_kept_1 fl_4_24 (by decide) so_8 rfl ?_
  refine zi_bipush (q := 6) dX4_kept_4 kb_12 rfl ?_
  obtain ⟨r1, hr1, h⟩ := Option.bind_eq_some_iff.mp h
  refine zc_S2 (q := 9) (st := []) (S1 := [.int r1]) (r_J9_min_7cf53 (m.1 8 4) 12 _ r1 hr1) dX4_kept_6 cb_J9_min_7cf53 k4_76 k3_24 ⟨by decide, by decide⟩ rfl (Nat.le_of_ble_eq_true rfl) (Or.inl rfl) rfl rfl ?_
  cases h
  exact zi_ret _ dX4_kept_9
set_option maxRecDepth 20000 in
theorem r_J9_floorMod_7cf53 {E : Nat × (Nat → Int32)} (x0 : Int32) (x1 : Int32) (m : zM) (x : Int32) (h : f_J9_floorMod_7cf53 x0 x1 m = some x) : zMet E zJ9_floorMod_7cf53 [.int x0, .int x1] zSH m (some (.int x)) zSH m := by
  refine zMet.of (L0 := [some (.int x0), some (.int x1), none]) (by decide +kernel) rfl (Nat.le_of_ble_eq_true rfl) rfl ?_
  unfold f_J9_floorMod_7cf53 at h
  refine zi_iloadn (q := 1) dJ9_floorMod_7cf53_0 rfl rfl ?_
  refine zi_iloadn (q := 2) dJ9_floorMod_7cf53_1 rfl rfl ?_
  obtain ⟨hz1, h⟩ := zg_some h
  refine zi_irem2 (q := 3) dJ9_floorMod_7cf53_2 (znz_of hz1) rfl ?_
  refine zi_istoren (q := 4) (L' := [some (.int x0), some (.int x1), some (.int (zrem x0 x1))]) dJ9_floorMod_7cf53_3 (by decide) rfl rfl rfl ?_
  refine zi_iloadn (q := 5) dJ9_floorMod_7cf53_4 rfl rfl ?_
  refine zi_iloadn (q := 6) dJ9_floorMod_7cf53_5 rfl rfl ?_
  refine zi_ixor (q := 7) dJ9_floorMod_7cf53_6 rfl ?_
  refine zi_ifge (q := 18) (q2 := 10) dJ9_floorMod_7cf53_7 (by decide) rfl (fun hc => ?_) (fun hc => ?_)
  · replace h := (if_pos hc).symm.trans h
    refine zi_iloadn (q := 19) dJ9_floorMod_7cf53_18 rfl rfl ?_
    cases h
    exact zi_ret _ dJ9_floorMod_7cf53_19
  · replace h := (if_neg hc).symm.trans h
    refine zi_iloadn (q := 11) dJ9_floorMod_7cf53_10 rfl rfl ?_
    refine zi_ifeq (q := 18) (q2 := 14) dJ9_floorMod_7cf53_11 (by decide) rfl (fun hc => ?_) (fun hc => ?_)
    · replace h := (if_pos hc).symm.trans h
      refine zi_iloadn (q := 19) dJ9_floorMod_7cf53_18 rfl rfl ?_
      cases h
      exact zi_ret _ dJ9_floorMod_7cf53_19
    · replace h := (if_neg hc).symm.trans h
      refine zi_iloadn (q := 15) dJ9_floorMod_7cf53_14 rfl rfl ?_
      refine zi_iloadn (q := 16) dJ9_floorMod_7cf53_15 rfl rfl ?_
      refine zi_iadd (q := 17) dJ9_floorMod_7cf53_16 rfl ?_
      cases h
      exact zi_ret _ dJ9_floorMod_7cf53_17
set_option maxRecDepth 20000 in
theorem r_X4_fact {E : Nat × (Nat → Int32)} (x1 : Int32) (x2 : Int32) (m : zM) (x : Int32) (h : f_X4_fact x1 x2 m = some x) : zMet E zX4_fact [.ref 8, .int x1, .int x2] zSH m (some (.int x)) zSH m := by
  refine zMet.of (L0 := [some (.ref 8), some (.int x1), some (.int x2), none]) rfl rfl (Nat.le_of_ble_eq_true rfl) rfl ?_
  unfold f_X4_fact at h
  refine zi_aloadn (q := 1) dX4_fact_0 rfl rfl ?_
  refine zi_getI (q := 4) dX4_fact_1 fl_4_24 (by decide) so_8 rfl ?_
  refine zi_iconst (q := 5) dX4_fact_4 ki_1 rfl ?_
  refine zi_isub (q := 6) dX4_fact_5 rfl ?_
  refine zi_iloadn (q := 7) dX4_fact_6 rfl rfl ?_
  refine zi_isub (q := 8) dX4_fact_7 rfl ?_
  refine zi_bipush (q := 10) dX4_fact_8 kb_12 rfl ?_
  obtain ⟨r1, hr1, h⟩ := Option.bind_eq_some_iff.mp h
  refine zc_S2 (q := 13) (st := []) (S1 := [.int r1]) (r_J9_floorMod_7cf53 (((m.1 8 4) - 1) - x1) 12 _ r1 hr1) dX4_fact_10 cb_J9_floorMod_7cf53 k4_81 k4_82 ⟨by decide, by decide⟩ rfl (Nat.le_of_ble_eq_true rfl) (Or.inl rfl) rfl rfl ?_
  refine zi_istoren (q := 14) (L' := [some (.ref 8), some (.int x1), some (.int x2), some (.int r1)]) dX4_fact_13 (by decide) rfl rfl rfl ?_
  refine zi_iloadn (q := 15) dX4_fact_14 rfl rfl ?_
  refine zi_ifne (q := 27) (q2 := 18) dX4_fact_15 (by decide) rfl (fun hc => ?_) (fun hc => ?_)
  · replace h := (if_neg hc).symm.trans h
    refine zi_iloadn (q := 28) dX4_fact_27 rfl rfl ?_
    refine zi_iconst (q := 29) dX4_fact_28 ki_1 rfl ?_
    refine zi_icmpne (q := 41) (q2 := 32) dX4_fact_29 (by decide) rfl (fun hc => ?_) (fun hc => ?_)
    · replace h := (if_neg hc).symm.trans h
      refine zi_aloadn (q := 42) dX4_fact_41 rfl rfl ?_
      refine zi_getA (q := 45) dX4_fact_42 fl_4_18 so_8 rfl rfl ?_
      refine zi_iloadn (q := 46) dX4_fact_45 rfl rfl ?_
      obtain ⟨hz2, h⟩ := zg_some h
      refine zi_iald2 (q := 47) dX4_fact_46 so_11 (zin_vp hz2) rfl rfl ?_
      cases h
      exact zi_ret _ dX4_fact_47
    · replace h := (if_pos hc).symm.trans h
      refine zi_aloadn (q := 33) dX4_fact_32 rfl rfl ?_
      refine zi_getA (q := 36) dX4_fact_33 fl_4_15 so_8 rfl rfl ?_
      refine zi_iloadn (q := 37) dX4_fact_36 rfl rfl ?_
      obtain ⟨hz3, h⟩ := zg_some h
      refine zi_iald2 (q := 38) dX4_fact_37 so_10 (zin_vp hz3) rfl rfl ?_
      refine zi_goto (q := 47) dX4_fact_38 (by decide) ?_
      cases h
      exact zi_ret _ dX4_fact_47
  · replace h := (if_pos hc).symm.trans h
    refine zi_aloadn (q := 19) dX4_fact_18 rfl rfl ?_
    refine zi_getA (q := 22) dX4_fact_19 fl_4_9 so_8 rfl rfl ?_
    refine zi_iloadn (q := 23) dX4_fact_22 rfl rfl ?_
    obtain ⟨hz4, h⟩ := zg_some h
    refine zi_iald2 (q := 24) dX4_fact_23 so_9 (zin_vp hz4) rfl rfl ?_
    refine zi_goto (q := 47) dX4_fact_24 (by decide) ?_
    cases h
    exact zi_ret _ dX4_fact_47
set_option maxRecDepth 20000 in
theorem r_X11_event {E : Nat × (Nat → Int32)} (x1 : Int32) (x2 : Int32) (m : zM) (x : Int32) (h : f_X11_event x1 x2 m = some x) : zMet E zX11_event [.ref 0, .int x1, .int x2] zSH m (some (.int x)) zSH m := by
  refine zMet.of (L0 := [some (.ref 0), some (.int x1), some (.int x2)]) rfl rfl (Nat.le_of_ble_eq_true rfl) rfl ?_
  unfold f_X11_event at h
  refine zi_iloadn (q := 1) dX11_event_0 rfl rfl ?_
  refine zi_iconst (q := 2) dX11_event_1 ki_0 rfl ?_
  refine zi_aloadn (q := 3) dX11_event_2 rfl rfl ?_
  refine zi_getA (q := 6) dX11_event_3 fl_11_19 so_0 rfl rfl ?_
  obtain ⟨r1, hr1, h⟩ := Option.bind_eq_some_iff.mp h
  refine zc_V2 (q := 9) (st := [.int 0, .int x1]) (S1 := [.int r1, .int 0, .int x1]) (r_X4_kept  _ r1 hr1) dX11_event_6 cb_X4_kept k4_72 k4_73 k4_74 ⟨by decide, by decide⟩ so_8 rfl rfl rfl (Nat.le_of_ble_eq_true rfl) (Or.inl rfl) rfl rfl ?_
  refine zi_iconst (q := 10) dX11_event_9 ki_1 rfl ?_
  refine zi_isub (q := 11) dX11_event_10 rfl ?_
  obtain ⟨r2, hr2, h⟩ := Option.bind_eq_some_iff.mp h
  refine zc_S2 (q := 14) (st := []) (S1 := [.int (bi r2)]) (r_X11_within x1 0 (r1 - 1) _ r2 hr2) dX11_event_11 cb_X11_within k2_174 k2_175 ⟨by decide, by decide⟩ rfl (Nat.le_of_ble_eq_true rfl) (Or.inl rfl) rfl rfl ?_
  refine zi_ifne (q := 21) (q2 := 17) dX11_event_14 (by decide) rfl (fun hc => ?_) (fun hc => ?_)
  · replace h := (if_neg hc).symm.trans h
    refine zi_iloadn (q := 22) dX11_event_21 rfl rfl ?_
    refine zi_iconst (q := 23) dX11_event_22 ki_0 rfl ?_
    refine zi_iconst (q := 24) dX11_event_23 ki_2 rfl ?_
    obtain ⟨r3, hr3, h⟩ := Option.bind_eq_some_iff.mp h
    refine zc_S2 (q := 27) (st := []) (S1 := [.int (bi r3)]) (r_X11_within x2 0 2 _ r3 hr3) dX11_event_24 cb_X11_within k2_174 k2_175 ⟨by decide, by decide⟩ rfl (Nat.le_of_ble_eq_true rfl) (Or.inl rfl) rfl rfl ?_
    refine zi_ifne (q := 34) (q2 := 30) dX11_event_27 (by decide) rfl (fun hc => ?_) (fun hc => ?_)
    · replace h := (if_neg hc).symm.trans h
      refine zi_aloadn (q := 35) dX11_event_34 rfl rfl ?_
      refine zi_getA (q := 38) dX11_event_35 fl_11_19 so_0 rfl rfl ?_
      refine zi_iloadn (q := 39) dX11_event_38 rfl rfl ?_
      refine zi_iloadn (q := 40) dX11_event_39 rfl rfl ?_
      obtain ⟨r4, hr4, h⟩ := Option.bind_eq_some_iff.mp h
      refine zc_V2 (q := 43) (st := []) (S1 := [.int r4]) (r_X4_fact x1 x2 _ r4 hr4) dX11_event_40 cb_X4_fact k4_77 k4_78 k4_79 ⟨by decide, by decide⟩ so_8 rfl rfl rfl (Nat.le_of_ble_eq_true rfl) (Or.inl rfl) rfl rfl ?_
      cases h
      exact zi_ret _ dX11_event_43
    · replace h := (if_pos hc).symm.trans h
      refine zi_sipush (q := 33) dX11_event_30 kc_m10002 rfl ?_
      cases h
      exact zi_ret _ dX11_event_33
  · replace h := (if_pos hc).symm.trans h
    refine zi_sipush (q := 20) dX11_event_17 kc_m10001 rfl ?_
    cases h
    exact zi_ret _ dX11_event_20
set_option maxRecDepth 20000 in
theorem r_X12_eventNow {E : Nat × (Nat → Int32)} (x1 : Int32) (x2 : Int32) (m : zM) (x : Int32) (h : f_X12_eventNow x1 x2 m = some x) : zMet E zX12_eventNow [.ref 68, .int x1, .int x2] zSH m (some (.int x)) zSH m := by
  refine zMet.of (L0 := [some (.ref 68), some (.int x1), some (.int x2)]) rfl rfl (Nat.le_of_ble_eq_true rfl) rfl ?_
  unfold f_X12_eventNow at h
  refine zi_iloadn (q := 1) dX12_eventNow_0 rfl rfl ?_
  refine zi_ifne (q := 13) (q2 := 4) dX12_eventNow_1 (by decide) rfl (fun hc => ?_) (fun hc => ?_)
  · replace h := (if_neg hc).symm.trans h
    refine zi_iloadn (q := 14) dX12_eventNow_13 rfl rfl ?_
    refine zi_iconst (q := 15) dX12_eventNow_14 ki_1 rfl ?_
    refine zi_icmpne (q := 27) (q2 := 18) dX12_eventNow_15 (by decide) rfl (fun hc => ?_) (fun hc => ?_)
    · replace h := (if_neg hc).symm.trans h
      refine zi_aloadn (q := 28) dX12_eventNow_27 rfl rfl ?_
      refine zi_getA (q := 31) dX12_eventNow_28 fl_12_98 so_68 rfl rfl ?_
      refine zi_iloadn (q := 32) dX12_eventNow_31 rfl rfl ?_
      obtain ⟨hz1, h⟩ := zg_some h
      refine zi_iald2 (q := 33) dX12_eventNow_32 so_98 (zin_vp hz1) rfl rfl ?_
      cases h
      exact zi_ret _ dX12_eventNow_33
    · replace h := (if_pos hc).symm.trans h
      refine zi_aloadn (q := 19) dX12_eventNow_18 rfl rfl ?_
      refine zi_getA (q := 22) dX12_eventNow_19 fl_12_95 so_68 rfl rfl ?_
      refine zi_iloadn (q := 23) dX12_eventNow_22 rfl rfl ?_
      obtain ⟨hz2, h⟩ := zg_some h
      refine zi_iald2 (q := 24) dX12_eventNow_23 so_97 (zin_vp hz2) rfl rfl ?_
      refine zi_goto (q := 33) dX12_eventNow_24 (by decide) ?_
      cases h
      exact zi_ret _ dX12_eventNow_33
  · replace h := (if_pos hc).symm.trans h
    refine zi_aloadn (q := 5) dX12_eventNow_4 rfl rfl ?_
    refine zi_getA (q := 8) dX12_eventNow_5 fl_12_92 so_68 rfl rfl ?_
    refine zi_iloadn (q := 9) dX12_eventNow_8 rfl rfl ?_
    obtain ⟨hz3, h⟩ := zg_some h
    refine zi_iald2 (q := 10) dX12_eventNow_9 so_96 (zin_vp hz3) rfl rfl ?_
    refine zi_goto (q := 33) dX12_eventNow_10 (by decide) ?_
    cases h
    exact zi_ret _ dX12_eventNow_33
set_option maxRecDepth 20000 in
theorem r_X12_event {E : Nat × (Nat → Int32)} (x1 : Int32) (x2 : Int32) (m : zM) (x : Int32) (h : f_X12_event x1 x2 m = some x) : zMet E zX12_event [.ref 68, .int x1, .int x2] zSH m (some (.int x)) zSH m := by
  refine zMet.of (L0 := [some (.ref 68), some (.int x1), some (.int x2)]) rfl rfl (Nat.le_of_ble_eq_true rfl) rfl ?_
  unfold f_X12_event at h
  refine zi_iloadn (q := 1) dX12_event_0 rfl rfl ?_
  refine zi_iconst (q := 2) dX12_event_1 ki_0 rfl ?_
  refine zi_aloadn (q := 3) dX12_event_2 rfl rfl ?_
  refine zi_getI (q := 6) dX12_event_3 fl_12_316 (by decide) so_68 rfl ?_
  refine zi_iconst (q := 7) dX12_event_6 ki_1 rfl ?_
  refine zi_isub (q := 8) dX12_event_7 rfl ?_
  obtain ⟨r1, hr1, h⟩ := Option.bind_eq_some_iff.mp h
  refine zc_S2 (q := 11) (st := []) (S1 := [.int (bi r1)]) (r_X12_within x1 0 ((m.1 68 37) - 1) _ r1 hr1) dX12_event_8 cb_X12_within k5_71 k5_72 ⟨by decide, by decide⟩ rfl (Nat.le_of_ble_eq_true rfl) (Or.inl rfl) rfl rfl ?_
  refine zi_ifne (q := 18) (q2 := 14) dX12_event_11 (by decide) rfl (fun hc => ?_) (fun hc => ?_)
  · replace h := (if_neg hc).symm.trans h
    refine zi_iloadn (q := 19) dX12_event_18 rfl rfl ?_
    refine zi_iconst (q := 20) dX12_event_19 ki_0 rfl ?_
    refine zi_iconst (q := 21) dX12_event_20 ki_2 rfl ?_
    obtain ⟨r2, hr2, h⟩ := Option.bind_eq_some_iff.mp h
    refine zc_S2 (q := 24) (st := []) (S1 := [.int (bi r2)]) (r_X12_within x2 0 2 _ r2 hr2) dX12_event_21 cb_X12_within k5_71 k5_72 ⟨by decide, by decide⟩ rfl (Nat.le_of_ble_eq_true rfl) (Or.inl rfl) rfl rfl ?_
    refine zi_ifeq (q := 36) (q2 := 27) dX12_event_24 (by decide) rfl (fun hc => ?_) (fun hc => ?_)
    · replace h := (if_pos hc).symm.trans h
      refine zi_sipush (q := 39) dX12_event_36 kc_m10002 rfl ?_
      cases h
      exact zi_ret _ dX12_event_39
    · replace h := (if_neg hc).symm.trans h
      refine zi_aloadn (q := 28) dX12_event_27 rfl rfl ?_
      refine zi_iloadn (q := 29) dX12_event_28 rfl rfl ?_
      refine zi_iloadn (q := 30) dX12_event_29 rfl rfl ?_
      obtain ⟨r3, hr3, h⟩ := Option.bind_eq_some_iff.mp h
      refine zc_V2 (q := 33) (st := []) (S1 := [.int r3]) (r_X12_eventNow x1 x2 _ r3 hr3) dX12_event_30 cb_X12_eventNow k6_156 k6_158 ks_X12_eventNow ⟨by decide, by decide⟩ so_68 rfl rfl rfl (Nat.le_of_ble_eq_true rfl) (Or.inl rfl) rfl rfl ?_
      refine zi_goto (q := 39) dX12_event_33 (by decide) ?_
      cases h
      exact zi_ret _ dX12_event_39
  · replace h := (if_pos hc).symm.trans h
    refine zi_sipush (q := 17) dX12_event_14 kc_m10001 rfl ?_
    cases h
    exact zi_ret _ dX12_event_17
set_option maxRecDepth 20000 in
theorem r_X11_count {E : Nat × (Nat → Int32)} (x1 : Int32) (m : zM) (x : Int32) (h : f_X11_count x1 m = some x) : zMet E zX11_count [.ref 0, .int x1] zSH m (some (.int x)) zSH m := by
  refine zMet.of (L0 := [some (.ref 0), some (.int x1)]) rfl rfl (Nat.le_of_ble_eq_true rfl) rfl ?_
  unfold f_X11_count at h
  refine zi_iloadn (q := 1) dX11_count_0 rfl rfl ?_
  by_cases he0 : x1 = 0
  · replace h := (if_pos he0).symm.trans h
    refine zi_tsIn (q := 40) (j := 0) dX11_count_1 (zts_in ti_0 he0) (by decide) rfl (by decide) ?_
    refine zi_aloadn (q := 41) dX11_count_40 rfl rfl ?_
    refine zi_getA (q := 44) dX11_count_41 fl_11_10 so_0 rfl rfl ?_
    refine zi_getI (q := 47) dX11_count_44 fl_11_36 (by decide) so_1 rfl ?_
    cases h
    exact zi_ret _ dX11_count_47
  · replace h := (if_neg he0).symm.trans h
    by_cases he1 : x1 = 1
    · replace h := (if_pos he1).symm.trans h
      refine zi_tsIn (q := 48) (j := 1) dX11_count_1 (zts_in ti_1 he1) (by decide) rfl (by decide) ?_
      refine zi_aloadn (q := 49) dX11_count_48 rfl rfl ?_
      refine zi_getA (q := 52) dX11_count_49 fl_11_28 so_0 rfl rfl ?_
      refine zi_getI (q := 55) dX11_count_52 fl_11_178 (by decide) so_13 rfl ?_
      cases h
      exact zi_ret _ dX11_count_55
    · replace h := (if_neg he1).symm.trans h
      by_cases he2 : x1 = 2
      · replace h := (if_pos he2).symm.trans h
        refine zi_tsIn (q := 56) (j := 2) dX11_count_1 (zts_in ti_2 he2) (by decide) rfl (by decide) ?_
        refine zi_aloadn (q := 57) dX11_count_56 rfl rfl ?_
        refine zi_getA (q := 60) dX11_count_57 fl_11_28 so_0 rfl rfl ?_
        refine zi_getI (q := 63) dX11_count_60 fl_11_181 (by decide) so_13 rfl ?_
        cases h
        exact zi_ret _ dX11_count_63
      · replace h := (if_neg he2).symm.trans h
        by_cases he3 : x1 = 3
        · replace h := (if_pos he3).symm.trans h
          refine zi_tsIn (q := 64) (j := 3) dX11_count_1 (zts_in ti_3 he3) (by decide) rfl (by decide) ?_
          refine zi_aloadn (q := 65) dX11_count_64 rfl rfl ?_
          refine zi_getA (q := 68) dX11_count_65 fl_11_28 so_0 rfl rfl ?_
          refine zi_getA (q := 71) dX11_count_68 fl_11_167 so_13 rfl rfl ?_
          refine zi_getI (q := 74) dX11_count_71 fl_11_184 (by decide) so_60 rfl ?_
          cases h
          exact zi_ret _ dX11_count_74
        · replace h := (if_neg he3).symm.trans h
          by_cases he4 : x1 = 4
          · replace h := (if_pos he4).symm.trans h
            refine zi_tsIn (q := 75) (j := 4) dX11_count_1 (zts_in ti_4 he4) (by decide) rfl (by decide) ?_
            refine zi_aloadn (q := 76) dX11_count_75 rfl rfl ?_
            refine zi_getI (q := 79) dX11_count_76 fl_11_81 (by decide) so_0 rfl ?_
            cases h
            exact zi_ret _ dX11_count_79
          · replace h := (if_neg he4).symm.trans h
            by_cases he5 : x1 = 5
            · replace h := (if_pos he5).symm.trans h
              refine zi_tsIn (q := 80) (j := 5) dX11_count_1 (zts_in ti_5 he5) (by decide) rfl (by decide) ?_
              refine zi_aloadn (q := 81) dX11_count_80 rfl rfl ?_
              refine zi_getI (q := 84) dX11_count_81 fl_11_92 (by decide) so_0 rfl ?_
              cases h
              exact zi_ret _ dX11_count_84
            · replace h := (if_neg he5).symm.trans h
              refine zi_tsOut (q := 85) dX11_count_1 (zts_out6 he0 he1 he2 he3 he4 he5) (by decide) ?_
              refine zi_sipush (q := 88) dX11_count_85 kc_m10002 rfl ?_
              cases h
              exact zi_ret _ dX11_count_88
set_option maxRecDepth 20000 in
theorem r_X12_howMany {E : Nat × (Nat → Int32)} (x1 : Int32) (m : zM) (x : Int32) (h : f_X12_howMany x1 m = some x) : zMet E zX12_howMany [.ref 68, .int x1] zSH m (some (.int x)) zSH m := by
  refine zMet.of (L0 := [some (.ref 68), some (.int x1)]) rfl rfl (Nat.le_of_ble_eq_true rfl) rfl ?_
  unfold f_X12_howMany at h
  refine zi_iloadn (q := 1) dX12_howMany_0 rfl rfl ?_
  by_cases he0 : x1 = 0
  · replace h := (if_pos he0).symm.trans h
    refine zi_tsIn (q := 40) (j := 0) dX12_howMany_1 (zts_in ti_0 he0) (by decide) rfl (by decide) ?_
    refine zi_aloadn (q := 41) dX12_howMany_40 rfl rfl ?_
    refine zi_getI (q := 44) dX12_howMany_41 fl_12_127 (by decide) so_68 rfl ?_
    cases h
    exact zi_ret _ dX12_howMany_44
  · replace h := (if_neg he0).symm.trans h
    by_cases he1 : x1 = 1
    · replace h := (if_pos he1).symm.trans h
      refine zi_tsIn (q := 45) (j := 1) dX12_howMany_1 (zts_in ti_1 he1) (by decide) rfl (by decide) ?_
      refine zi_aloadn (q := 46) dX12_howMany_45 rfl rfl ?_
      refine zi_getI (q := 49) dX12_howMany_46 fl_12_340 (by decide) so_68 rfl ?_
      cases h
      exact zi_ret _ dX12_howMany_49
    · replace h := (if_neg he1).symm.trans h
      by_cases he2 : x1 = 2
      · replace h := (if_pos he2).symm.trans h
        refine zi_tsIn (q := 50) (j := 2) dX12_howMany_1 (zts_in ti_2 he2) (by decide) rfl (by decide) ?_
        refine zi_aloadn (q := 51) dX12_howMany_50 rfl rfl ?_
        refine zi_getI (q := 54) dX12_howMany_51 fl_12_349 (by decide) so_68 rfl ?_
        cases h
        exact zi_ret _ dX12_howMany_54
      · replace h := (if_neg he2).symm.trans h
        by_cases he3 : x1 = 3
        · replace h := (if_pos he3).symm.trans h
          refine zi_tsIn (q := 55) (j := 3) dX12_howMany_1 (zts_in ti_3 he3) (by decide) rfl (by decide) ?_
          refine zi_aloadn (q := 56) dX12_howMany_55 rfl rfl ?_
          refine zi_getI (q := 59) dX12_howMany_56 fl_12_334 (by decide) so_68 rfl ?_
          cases h
          exact zi_ret _ dX12_howMany_59
        · replace h := (if_neg he3).symm.trans h
          by_cases he4 : x1 = 4
          · replace h := (if_pos he4).symm.trans h
            refine zi_tsIn (q := 60) (j := 4) dX12_howMany_1 (zts_in ti_4 he4) (by decide) rfl (by decide) ?_
            refine zi_aloadn (q := 61) dX12_howMany_60 rfl rfl ?_
            refine zi_getI (q := 64) dX12_howMany_61 fl_12_185 (by decide) so_68 rfl ?_
            cases h
            exact zi_ret _ dX12_howMany_64
          · replace h := (if_neg he4).symm.trans h
            by_cases he5 : x1 = 5
            · replace h := (if_pos he5).symm.trans h
              refine zi_tsIn (q := 65) (j := 5) dX12_howMany_1 (zts_in ti_5 he5) (by decide) rfl (by decide) ?_
              refine zi_aloadn (q := 66) dX12_howMany_65 rfl rfl ?_
              refine zi_getI (q := 69) dX12_howMany_66 fl_12_215 (by decide) so_68 rfl ?_
              cases h
              exact zi_ret _ dX12_howMany_69
            · replace h := (if_neg he5).symm.trans h
              refine zi_tsOut (q := 70) dX12_howMany_1 (zts_out6 he0 he1 he2 he3 he4 he5) (by decide) ?_
              refine zi_sipush (q := 73) dX12_howMany_70 kc_m10002 rfl ?_
              cases h
              exact zi_ret _ dX12_howMany_73
set_option maxRecDepth 20000 in
theorem r_X12_count {E : Nat × (Nat → Int32)} (x1 : Int32) (m : zM) (x : Int32) (h : f_X12_count x1 m = some x) : zMet E zX12_count [.ref 68, .int x1] zSH m (some (.int x)) zSH m := by
  refine zMet.of (L0 := [some (.ref 68), some (.int x1)]) rfl rfl (Nat.le_of_ble_eq_true rfl) rfl ?_
  unfold f_X12_count at h
  refine zi_aloadn (q := 1) dX12_count_0 rfl rfl ?_
  refine zi_iloadn (q := 2) dX12_count_1 rfl rfl ?_
  obtain ⟨r1, hr1, h⟩ := Option.bind_eq_some_iff.mp h
  refine zc_V2 (q := 5) (st := []) (S1 := [.int r1]) (r_X12_howMany x1 _ r1 hr1) dX12_count_2 cb_X12_howMany k6_164 k6_166 ks_X12_howMany ⟨by decide, by decide⟩ so_68 rfl rfl rfl (Nat.le_of_ble_eq_true rfl) (Or.inl rfl) rfl rfl ?_
  cases h
  exact zi_ret _ dX12_count_5
set_option maxRecDepth 20000 in
theorem r_X11_events {E : Nat × (Nat → Int32)} (x1 : Int32) (m : zM) (x : Int32) (h : f_X11_events x1 m = some x) : zMet E zX11_events [.ref 0, .int x1] zSH m (some (.int x)) zSH m := by
  refine zMet.of (L0 := [some (.ref 0), some (.int x1)]) rfl rfl (Nat.le_of_ble_eq_true rfl) rfl ?_
  unfold f_X11_events at h
  refine zi_iloadn (q := 1) dX11_events_0 rfl rfl ?_
  refine zi_iconst (q := 2) dX11_events_1 ki_1 rfl ?_
  refine zi_iconst (q := 3) dX11_events_2 ki_4 rfl ?_
  obtain ⟨r1, hr1, h⟩ := Option.bind_eq_some_iff.mp h
  refine zc_S2 (q := 6) (st := []) (S1 := [.int (bi r1)]) (r_X11_within x1 1 4 _ r1 hr1) dX11_events_3 cb_X11_within k2_174 k2_175 ⟨by decide, by decide⟩ rfl (Nat.le_of_ble_eq_true rfl) (Or.inl rfl) rfl rfl ?_
  refine zi_ifne (q := 13) (q2 := 9) dX11_events_6 (by decide) rfl (fun hc => ?_) (fun hc => ?_)
  · replace h := (if_neg hc).symm.trans h
    refine zi_aloadn (q := 14) dX11_events_13 rfl rfl ?_
    refine zi_getA (q := 17) dX11_events_14 fl_11_19 so_0 rfl rfl ?_
    refine zi_getA (q := 20) dX11_events_17 fl_11_187 so_8 rfl rfl ?_
    refine zi_iloadn (q := 21) dX11_events_20 rfl rfl ?_
    obtain ⟨hz2, h⟩ := zg_some h
    refine zi_iald2 (q := 22) dX11_events_21 so_12 (zin_vp hz2) rfl rfl ?_
    cases h
    exact zi_ret _ dX11_events_22
  · replace h := (if_pos hc).symm.trans h
    refine zi_sipush (q := 12) dX11_events_9 kc_m10002 rfl ?_
    cases h
    exact zi_ret _ dX11_events_12
set_option maxRecDepth 20000 in
theorem r_X12_events {E : Nat × (Nat → Int32)} (x1 : Int32) (m : zM) (x : Int32) (h : f_X12_events x1 m = some x) : zMet E zX12_events [.ref 68, .int x1] zSH m (some (.int x)) zSH m := by
  refine zMet.of (L0 := [some (.ref 68), some (.int x1)]) rfl rfl (Nat.le_of_ble_eq_true rfl) rfl ?_
  unfold f_X12_events at h
  refine zi_iloadn (q := 1) dX12_events_0 rfl rfl ?_
  refine zi_iconst (q := 2) dX12_events_1 ki_1 rfl ?_
  refine zi_iconst (q := 3) dX12_events_2 ki_4 rfl ?_
  obtain ⟨r1, hr1, h⟩ := Option.bind_eq_some_iff.mp h
  refine zc_S2 (q := 6) (st := []) (S1 := [.int (bi r1)]) (r_X12_within x1 1 4 _ r1 hr1) dX12_events_3 cb_X12_within k5_71 k5_72 ⟨by decide, by decide⟩ rfl (Nat.le_of_ble_eq_true rfl) (Or.inl rfl) rfl rfl ?_
  refine zi_ifeq (q := 18) (q2 := 9) dX12_events_6 (by decide) rfl (fun hc => ?_) (fun hc => ?_)
  · replace h := (if_pos hc).symm.trans h
    refine zi_sipush (q := 21) dX12_events_18 kc_m10002 rfl ?_
    cases h
    exact zi_ret _ dX12_events_21
  · replace h := (if_neg hc).symm.trans h
    refine zi_aloadn (q := 10) dX12_events_9 rfl rfl ?_
    refine zi_getA (q := 13) dX12_events_10 fl_12_101 so_68 rfl rfl ?_
    refine zi_iloadn (q := 14) dX12_events_13 rfl rfl ?_
    obtain ⟨hz2, h⟩ := zg_some h
    refine zi_iald2 (q := 15) dX12_events_14 so_99 (zin_vp hz2) rfl rfl ?_
    refine zi_goto (q := 21) dX12_events_15 (by decide) ?_
    cases h
    exact zi_ret _ dX12_events_21
set_option maxRecDepth 20000 in
theorem rb_X11_hashJournal_20 {E : Nat × (Nat → Int32)} (x5 : Int32) (m : zM) (s : (Int64 × Int32)) (rv : Option Value) (m' : zM) (x : ((Int64 × Int32) ⊕ (Int64))) (h : b_X11_hashJournal_20 x5 m s = some x) (KI : ∀ s1 : (Int64 × Int32), x = .inl s1 → Rn E zX11_hashJournal 20 [some (.ref 0), none, none, some (.long s1.1), none, some (.int x5), some (.int s1.2)] [] zSH m rv zSH m') (KO : ∀ r1 : (Int64), x = .inr r1 → Rn E zX11_hashJournal 48 [some (.ref 0), none, none, some (.long r1), none, some (.int x5), none] [] zSH m rv zSH m') : Rn E zX11_hashJournal 20 [some (.ref 0), none, none, some (.long s.1), none, some (.int x5), some (.int s.2)] [] zSH m rv zSH m' := by
  unfold b_X11_hashJournal_20 at h
  refine zi_iload (q := 22) dX11_hashJournal_20 rfl rfl ?_
  refine zi_iconst (q := 23) dX11_hashJournal_22 ki_3 rfl ?_
  refine zi_icmpge (q := 48) (q2 := 26) dX11_hashJournal_23 (by decide) rfl (fun hc => ?_) (fun hc => ?_)
  · replace h := (if_pos hc).symm.trans h
    refine Rn.weakm [true, false, false, true, false, true, false] ?_
    exact KO s.1 (Option.some.inj h).symm
  · replace h := (if_neg hc).symm.trans h
    refine zi_ldc2 (q := 29) dX11_hashJournal_26 k4_101 rfl ?_
    refine zi_lloadn (q := 30) dX11_hashJournal_29 rfl rfl ?_
    refine zi_lmul (q := 31) dX11_hashJournal_30 rfl ?_
    refine zi_aloadn (q := 32) dX11_hashJournal_31 rfl rfl ?_
    refine zi_iload (q := 34) dX11_hashJournal_32 rfl rfl ?_
    refine zi_iload (q := 36) dX11_hashJournal_34 rfl rfl ?_
    obtain ⟨r2, hr2, h⟩ := Option.bind_eq_some_iff.mp h
    refine zc_V2 (q := 39) (st := [.long ((31 : Int64) * s.1)]) (S1 := [.int r2, .long ((31 : Int64) * s.1)]) (r_X11_event x5 s.2 _ r2 hr2) dX11_hashJournal_36 cb_X11_event k4_123 k4_69 k4_70 ⟨by decide, by decide⟩ so_0 rfl rfl rfl (Nat.le_of_ble_eq_true rfl) (Or.inl rfl) rfl rfl ?_
    refine zi_i2l (q := 40) dX11_hashJournal_39 rfl ?_
    refine zi_ladd (q := 41) dX11_hashJournal_40 rfl ?_
    refine zi_lstoren (q := 42) (L' := [some (.ref 0), none, none, some (.long (((31 : Int64) * s.1) + r2.toInt64)), none, some (.int x5), some (.int s.2)]) dX11_hashJournal_41 (by decide) rfl rfl rfl ?_
    refine zi_iinc (q := 45) (v := s.2 + 1) (L' := [some (.ref 0), none, none, some (.long (((31 : Int64) * s.1) + r2.toInt64)), none, some (.int x5), some (.int (s.2 + 1))]) dX11_hashJournal_42 rfl (by rw [ki_1]) (by decide) rfl rfl rfl ?_
    refine zi_goto (q := 20) dX11_hashJournal_45 (by decide) ?_
    exact KI ((((31 : Int64) * s.1) + r2.toInt64), (s.2 + 1)) (Option.some.inj h).symm
set_option maxRecDepth 20000 in
theorem rb_X11_hashJournal_5 {E : Nat × (Nat → Int32)}  (m : zM) (s : (Int64 × Int32)) (rv : Option Value) (m' : zM) (x : ((Int64 × Int32) ⊕ (Int64))) (h : b_X11_hashJournal_5 m s = some x) (KI : ∀ s1 : (Int64 × Int32), x = .inl s1 → Rn E zX11_hashJournal 5 [some (.ref 0), none, none, some (.long s1.1), none, some (.int s1.2), none] [] zSH m rv zSH m') (KO : ∀ r1 : (Int64), x = .inr r1 → Rn E zX11_hashJournal 54 [none, none, none, some (.long r1), none, none, none] [] zSH m rv zSH m') : Rn E zX11_hashJournal 5 [some (.ref 0), none, none, some (.long s.1), none, some (.int s.2), none] [] zSH m rv zSH m' := by
  unfold b_X11_hashJournal_5 at h
  refine zi_iload (q := 7) dX11_hashJournal_5 rfl rfl ?_
  refine zi_aloadn (q := 8) dX11_hashJournal_7 rfl rfl ?_
  refine zi_getA (q := 11) dX11_hashJournal_8 fl_11_19 so_0 rfl rfl ?_
  obtain ⟨r1, hr1, h⟩ := Option.bind_eq_some_iff.mp h
  refine zc_V2 (q := 14) (st := [.int s.2]) (S1 := [.int r1, .int s.2]) (r_X4_kept  _ r1 hr1) dX11_hashJournal_11 cb_X4_kept k4_72 k4_73 k4_74 ⟨by decide, by decide⟩ so_8 rfl rfl rfl (Nat.le_of_ble_eq_true rfl) (Or.inl rfl) rfl rfl ?_
  refine zi_icmpge (q := 54) (q2 := 17) dX11_hashJournal_14 (by decide) rfl (fun hc => ?_) (fun hc => ?_)
  · replace h := (if_pos hc).symm.trans h
    refine Rn.weakm [false, false, false, true, false, false, false] ?_
    exact KO s.1 (Option.some.inj h).symm
  · replace h := (if_neg hc).symm.trans h
    refine zi_iconst (q := 18) dX11_hashJournal_17 ki_0 rfl ?_
    refine zi_istore (q := 20) (L' := [some (.ref 0), none, none, some (.long s.1), none, some (.int s.2), some (.int 0)]) dX11_hashJournal_18 (by decide) rfl rfl rfl ?_
    obtain ⟨r3, hr3, h⟩ := Option.bind_eq_some_iff.mp h
    refine zloop_rn (P := fun w : (Int64 × Int32) => Rn E zX11_hashJournal 20 [some (.ref 0), none, none, some (.long w.1), none, some (.int s.2), some (.int w.2)] [] zSH m rv zSH m') (X := fun w : (Int64) => Rn E zX11_hashJournal 48 [some (.ref 0), none, none, some (.long w), none, some (.int s.2), none] [] zSH m rv zSH m') (fun w w0 hb KI KX => rb_X11_hashJournal_20 s.2 m w _ _ w0 hb KI KX) zFU _ r3 hr3 ?_
    show Rn E zX11_hashJournal 48 [some (.ref 0), none, none, some (.long r3), none, some (.int s.2), none] [] zSH m rv zSH m'
    refine zi_iinc (q := 51) (v := s.2 + 1) (L' := [some (.ref 0), none, none, some (.long r3), none, some (.int (s.2 + 1)), none]) dX11_hashJournal_48 rfl (by rw [ki_1]) (by decide) rfl rfl rfl ?_
    refine zi_goto (q := 5) dX11_hashJournal_51 (by decide) ?_
    exact KI (r3, (s.2 + 1)) (Option.some.inj h).symm
set_option maxRecDepth 20000 in
theorem r_X11_hashJournal {E : Nat × (Nat → Int32)} (x1 : Int64) (m : zM) (x : Int64) (h : f_X11_hashJournal x1 m = some x) : zMet E zX11_hashJournal [.ref 0, .long x1] zSH m (some (.long x)) zSH m := by
  refine zMet.of (L0 := [some (.ref 0), some (.long x1), none, none, none, none, none]) rfl trivial (Nat.le_of_ble_eq_true rfl) rfl ?_
  unfold f_X11_hashJournal at h
  refine zi_lloadn (q := 1) dX11_hashJournal_0 rfl rfl ?_
  refine zi_lstoren (q := 2) (L' := [some (.ref 0), some (.long x1), none, some (.long x1), none, none, none]) dX11_hashJournal_1 (by decide) rfl rfl rfl ?_
  refine zi_iconst (q := 3) dX11_hashJournal_2 ki_0 rfl ?_
  refine zi_istore (q := 5) (L' := [some (.ref 0), some (.long x1), none, some (.long x1), none, some (.int 0), none]) dX11_hashJournal_3 (by decide) rfl rfl rfl ?_
  obtain ⟨r4, hr4, h⟩ := Option.bind_eq_some_iff.mp h
  refine Rn.weakm [true, false, false, true, false, true, false] ?_
  refine zloop_rn (P := fun w : (Int64 × Int32) => Rn E zX11_hashJournal 5 [some (.ref 0), none, none, some (.long w.1), none, some (.int w.2), none] [] zSH m (some (.long x)) zSH m) (X := fun w : (Int64) => Rn E zX11_hashJournal 54 [none, none, none, some (.long w), none, none, none] [] zSH m (some (.long x)) zSH m) (fun w w0 hb KI KX => rb_X11_hashJournal_5 m w _ _ w0 hb KI KX) zFU _ r4 hr4 ?_
  show Rn E zX11_hashJournal 54 [none, none, none, some (.long r4), none, none, none] [] zSH m (some (.long x)) zSH m
  refine zi_lloadn (q := 55) dX11_hashJournal_54 rfl rfl ?_
  cases h
  exact zi_ret _ dX11_hashJournal_55
set_option maxRecDepth 20000 in
theorem rb_X11_hashPanelAndFingers_5 {E : Nat × (Nat → Int32)}  (m : zM) (s : (Int64 × Int32)) (rv : Option Value) (m' : zM) (x : ((Int64 × Int32) ⊕ (Int64))) (h : b_X11_hashPanelAndFingers_5 m s = some x) (KI : ∀ s1 : (Int64 × Int32), x = .inl s1 → Rn E zX11_hashPanelAndFingers 5 [some (.ref 0), none, none, some (.long s1.1), none, some (.int s1.2), none] [] zSH m rv zSH m') (KO : ∀ r1 : (Int64), x = .inr r1 → Rn E zX11_hashPanelAndFingers 32 [some (.ref 0), none, none, some (.long r1), none, none, none] [] zSH m rv zSH m') : Rn E zX11_hashPanelAndFingers 5 [some (.ref 0), none, none, some (.long s.1), none, some (.int s.2), none] [] zSH m rv zSH m' := by
  unfold b_X11_hashPanelAndFingers_5 at h
  refine zi_iload (q := 7) dX11_hashPanelAndFingers_5 rfl rfl ?_
  refine zi_bipush (q := 9) dX11_hashPanelAndFingers_7 kb_9 rfl ?_
  refine zi_icmpge (q := 32) (q2 := 12) dX11_hashPanelAndFingers_9 (by decide) rfl (fun hc => ?_) (fun hc => ?_)
  · replace h := (if_pos hc).symm.trans h
    refine Rn.weakm [true, false, false, true, false, false, false] ?_
    exact KO s.1 (Option.some.inj h).symm
  · replace h := (if_neg hc).symm.trans h
    refine zi_ldc2 (q := 15) dX11_hashPanelAndFingers_12 k4_101 rfl ?_
    refine zi_lloadn (q := 16) dX11_hashPanelAndFingers_15 rfl rfl ?_
    refine zi_lmul (q := 17) dX11_hashPanelAndFingers_16 rfl ?_
    refine zi_aloadn (q := 18) dX11_hashPanelAndFingers_17 rfl rfl ?_
    refine zi_iload (q := 20) dX11_hashPanelAndFingers_18 rfl rfl ?_
    obtain ⟨r1, hr1, h⟩ := Option.bind_eq_some_iff.mp h
    refine zc_V2 (q := 23) (st := [.long ((31 : Int64) * s.1)]) (S1 := [.int r1, .long ((31 : Int64) * s.1)]) (r_X11_about s.2 _ r1 hr1) dX11_hashPanelAndFingers_20 cb_X11_about k4_102 k4_41 k4_42 ⟨by decide, by decide⟩ so_0 rfl rfl rfl (Nat.le_of_ble_eq_true rfl) (Or.inl rfl) rfl rfl ?_
    refine zi_i2l (q := 24) dX11_hashPanelAndFingers_23 rfl ?_
    refine zi_ladd (q := 25) dX11_hashPanelAndFingers_24 rfl ?_
    refine zi_lstoren (q := 26) (L' := [some (.ref 0), none, none, some (.long (((31 : Int64) * s.1) + r1.toInt64)), none, some (.int s.2), none]) dX11_hashPanelAndFingers_25 (by decide) rfl rfl rfl ?_
    refine zi_iinc (q := 29) (v := s.2 + 1) (L' := [some (.ref 0), none, none, some (.long (((31 : Int64) * s.1) + r1.toInt64)), none, some (.int (s.2 + 1)), none]) dX11_hashPanelAndFingers_26 rfl (by rw [ki_1]) (by decide) rfl rfl rfl ?_
    refine zi_goto (q := 5) dX11_hashPanelAndFingers_29 (by decide) ?_
    exact KI ((((31 : Int64) * s.1) + r1.toInt64), (s.2 + 1)) (Option.some.inj h).symm
set_option maxRecDepth 20000 in
theorem rb_X11_hashPanelAndFingers_44 {E : Nat × (Nat → Int32)} (x5 : Int32) (m : zM) (s : (Int64 × Int32)) (rv : Option Value) (m' : zM) (x : ((Int64 × Int32) ⊕ (Int64))) (h : b_X11_hashPanelAndFingers_44 x5 m s = some x) (KI : ∀ s1 : (Int64 × Int32), x = .inl s1 → Rn E zX11_hashPanelAndFingers 44 [some (.ref 0), none, none, some (.long s1.1), none, some (.int x5), some (.int s1.2)] [] zSH m rv zSH m') (KO : ∀ r1 : (Int64), x = .inr r1 → Rn E zX11_hashPanelAndFingers 72 [some (.ref 0), none, none, some (.long r1), none, some (.int x5), none] [] zSH m rv zSH m') : Rn E zX11_hashPanelAndFingers 44 [some (.ref 0), none, none, some (.long s.1), none, some (.int x5), some (.int s.2)] [] zSH m rv zSH m' := by
  unfold b_X11_hashPanelAndFingers_44 at h
  refine zi_iload (q := 46) dX11_hashPanelAndFingers_44 rfl rfl ?_
  refine zi_iconst (q := 47) dX11_hashPanelAndFingers_46 ki_4 rfl ?_
  refine zi_icmpge (q := 72) (q2 := 50) dX11_hashPanelAndFingers_47 (by decide) rfl (fun hc => ?_) (fun hc => ?_)
  · replace h := (if_pos hc).symm.trans h
    refine Rn.weakm [true, false, false, true, false, true, false] ?_
    exact KO s.1 (Option.some.inj h).symm
  · replace h := (if_neg hc).symm.trans h
    refine zi_ldc2 (q := 53) dX11_hashPanelAndFingers_50 k4_101 rfl ?_
    refine zi_lloadn (q := 54) dX11_hashPanelAndFingers_53 rfl rfl ?_
    refine zi_lmul (q := 55) dX11_hashPanelAndFingers_54 rfl ?_
    refine zi_aloadn (q := 56) dX11_hashPanelAndFingers_55 rfl rfl ?_
    refine zi_iload (q := 58) dX11_hashPanelAndFingers_56 rfl rfl ?_
    refine zi_iload (q := 60) dX11_hashPanelAndFingers_58 rfl rfl ?_
    obtain ⟨r3, hr3, h⟩ := Option.bind_eq_some_iff.mp h
    refine zc_V2 (q := 63) (st := [.long ((31 : Int64) * s.1)]) (S1 := [.int r3, .long ((31 : Int64) * s.1)]) (r_X11_finger x5 s.2 _ r3 hr3) dX11_hashPanelAndFingers_60 cb_X11_finger k4_103 k4_25 k4_26 ⟨by decide, by decide⟩ so_0 rfl rfl rfl (Nat.le_of_ble_eq_true rfl) (Or.inl rfl) rfl rfl ?_
    refine zi_i2l (q := 64) dX11_hashPanelAndFingers_63 rfl ?_
    refine zi_ladd (q := 65) dX11_hashPanelAndFingers_64 rfl ?_
    refine zi_lstoren (q := 66) (L' := [some (.ref 0), none, none, some (.long (((31 : Int64) * s.1) + r3.toInt64)), none, some (.int x5), some (.int s.2)]) dX11_hashPanelAndFingers_65 (by decide) rfl rfl rfl ?_
    refine zi_iinc (q := 69) (v := s.2 + 1) (L' := [some (.ref 0), none, none, some (.long (((31 : Int64) * s.1) + r3.toInt64)), none, some (.int x5), some (.int (s.2 + 1))]) dX11_hashPanelAndFingers_66 rfl (by rw [ki_1]) (by decide) rfl rfl rfl ?_
    refine zi_goto (q := 44) dX11_hashPanelAndFingers_69 (by decide) ?_
    exact KI ((((31 : Int64) * s.1) + r3.toInt64), (s.2 + 1)) (Option.some.inj h).symm
set_option maxRecDepth 20000 in
theorem rb_X11_hashPanelAndFingers_35 {E : Nat × (Nat → Int32)}  (m : zM) (s : (Int64 × Int32)) (rv : Option Value) (m' : zM) (x : ((Int64 × Int32) ⊕ (Int64))) (h : b_X11_hashPanelAndFingers_35 m s = some x) (KI : ∀ s1 : (Int64 × Int32), x = .inl s1 → Rn E zX11_hashPanelAndFingers 35 [some (.ref 0), none, none, some (.long s1.1), none, some (.int s1.2), none] [] zSH m rv zSH m') (KO : ∀ r1 : (Int64), x = .inr r1 → Rn E zX11_hashPanelAndFingers 78 [none, none, none, some (.long r1), none, none, none] [] zSH m rv zSH m') : Rn E zX11_hashPanelAndFingers 35 [some (.ref 0), none, none, some (.long s.1), none, some (.int s.2), none] [] zSH m rv zSH m' := by
  unfold b_X11_hashPanelAndFingers_35 at h
  refine zi_iload (q := 37) dX11_hashPanelAndFingers_35 rfl rfl ?_
  refine zi_iconst (q := 38) dX11_hashPanelAndFingers_37 ki_5 rfl ?_
  refine zi_icmpge (q := 78) (q2 := 41) dX11_hashPanelAndFingers_38 (by decide) rfl (fun hc => ?_) (fun hc => ?_)
  · replace h := (if_pos hc).symm.trans h
    refine Rn.weakm [false, false, false, true, false, false, false] ?_
    exact KO s.1 (Option.some.inj h).symm
  · replace h := (if_neg hc).symm.trans h
    refine zi_iconst (q := 42) dX11_hashPanelAndFingers_41 ki_0 rfl ?_
    refine zi_istore (q := 44) (L' := [some (.ref 0), none, none, some (.long s.1), none, some (.int s.2), some (.int 0)]) dX11_hashPanelAndFingers_42 (by decide) rfl rfl rfl ?_
    obtain ⟨r4, hr4, h⟩ := Option.bind_eq_some_iff.mp h
    refine zloop_rn (P := fun w : (Int64 × Int32) => Rn E zX11_hashPanelAndFingers 44 [some (.ref 0), none, none, some (.long w.1), none, some (.int s.2), some (.int w.2)] [] zSH m rv zSH m') (X := fun w : (Int64) => Rn E zX11_hashPanelAndFingers 72 [some (.ref 0), none, none, some (.long w), none, some (.int s.2), none] [] zSH m rv zSH m') (fun w w0 hb KI KX => rb_X11_hashPanelAndFingers_44 s.2 m w _ _ w0 hb KI KX) zFU _ r4 hr4 ?_
    show Rn E zX11_hashPanelAndFingers 72 [some (.ref 0), none, none, some (.long r4), none, some (.int s.2), none] [] zSH m rv zSH m'
    refine zi_iinc (q := 75) (v := s.2 + 1) (L' := [some (.ref 0), none, none, some (.long r4), none, some (.int (s.2 + 1)), none]) dX11_hashPanelAndFingers_72 rfl (by rw [ki_1]) (by decide) rfl rfl rfl ?_
    refine zi_goto (q := 35) dX11_hashPanelAndFingers_75 (by decide) ?_
    exact KI (r4, (s.2 + 1)) (Option.some.inj h).symm
set_option maxRecDepth 20000 in
theorem r_X11_hashPanelAndFingers {E : Nat × (Nat → Int32)} (x1 : Int64) (m : zM) (x : Int64) (h : f_X11_hashPanelAndFingers x1 m = some x) : zMet E zX11_hashPanelAndFingers [.ref 0, .long x1] zSH m (some (.long x)) zSH m := by
  refine zMet.of (L0 := [some (.ref 0), some (.long x1), none, none, none, none, none]) rfl trivial (Nat.le_of_ble_eq_true rfl) rfl ?_
  unfold f_X11_hashPanelAndFingers at h
  refine zi_lloadn (q := 1) dX11_hashPanelAndFingers_0 rfl rfl ?_
  refine zi_lstoren (q := 2) (L' := [some (.ref 0), some (.long x1), none, some (.long x1), none, none, none]) dX11_hashPanelAndFingers_1 (by decide) rfl rfl rfl ?_
  refine zi_iconst (q := 3) dX11_hashPanelAndFingers_2 ki_0 rfl ?_
  refine zi_istore (q := 5) (L' := [some (.ref 0), some (.long x1), none, some (.long x1), none, some (.int 0), none]) dX11_hashPanelAndFingers_3 (by decide) rfl rfl rfl ?_
  obtain ⟨r2, hr2, h⟩ := Option.bind_eq_some_iff.mp h
  refine Rn.weakm [true, false, false, true, false, true, false] ?_
  refine zloop_rn (P := fun w : (Int64 × Int32) => Rn E zX11_hashPanelAndFingers 5 [some (.ref 0), none, none, some (.long w.1), none, some (.int w.2), none] [] zSH m (some (.long x)) zSH m) (X := fun w : (Int64) => Rn E zX11_hashPanelAndFingers 32 [some (.ref 0), none, none, some (.long w), none, none, none] [] zSH m (some (.long x)) zSH m) (fun w w0 hb KI KX => rb_X11_hashPanelAndFingers_5 m w _ _ w0 hb KI KX) zFU _ r2 hr2 ?_
  show Rn E zX11_hashPanelAndFingers 32 [some (.ref 0), none, none, some (.long r2), none, none, none] [] zSH m (some (.long x)) zSH m
  refine zi_iconst (q := 33) dX11_hashPanelAndFingers_32 ki_0 rfl ?_
  refine zi_istore (q := 35) (L' := [some (.ref 0), none, none, some (.long r2), none, some (.int 0), none]) dX11_hashPanelAndFingers_33 (by decide) rfl rfl rfl ?_
  obtain ⟨r5, hr5, h⟩ := Option.bind_eq_some_iff.mp h
  refine zloop_rn (P := fun w : (Int64 × Int32) => Rn E zX11_hashPanelAndFingers 35 [some (.ref 0), none, none, some (.long w.1), none, some (.int w.2), none] [] zSH m (some (.long x)) zSH m) (X := fun w : (Int64) => Rn E zX11_hashPanelAndFingers 78 [none, none, none, some (.long w), none, none, none] [] zSH m (some (.long x)) zSH m) (fun w w0 hb KI KX => rb_X11_hashPanelAndFingers_35 m w _ _ w0 hb KI KX) zFU _ r5 hr5 ?_
  show Rn E zX11_hashPanelAndFingers 78 [none, none, none, some (.long r5), none, none, none] [] zSH m (some (.long x)) zSH m
  refine zi_lloadn (q := 79) dX11_hashPanelAndFingers_78 rfl rfl ?_
  cases h
  exact zi_ret _ dX11_hashPanelAndFingers_79
set_option maxRecDepth 20000 in
theorem rb_X11_hashCells_23 {E : Nat × (Nat → Int32)} (x5 : Int32) (m : zM) (s : (Int64 × Int32)) (rv : Option Value) (m' : zM) (x : ((Int64 × Int32) ⊕ (Int64))) (h : b_X11_hashCells_23 x5 m s = some x) (KI : ∀ s1 : (Int64 × Int32), x = .inl s1 → Rn E zX11_hashCells 23 [some (.ref 0), none, none, some (.long s1.1), none, some (.int x5), some (.int s1.2)] [] zSH m rv zSH m') (KO : ∀ r1 : (Int64), x = .inr r1 → Rn E zX11_hashCells 52 [some (.ref 0), none, none, some (.long r1), none, some (.int x5), none] [] zSH m rv zSH m') : Rn E zX11_hashCells 23 [some (.ref 0), none, none, some (.long s.1), none, some (.int x5), some (.int s.2)] [] zSH m rv zSH m' := by
  unfold b_X11_hashCells_23 at h
  refine zi_iload (q := 25) dX11_hashCells_23 rfl rfl ?_
  refine zi_bipush (q := 27) dX11_hashCells_25 kb_6 rfl ?_
  refine zi_icmpge (q := 52) (q2 := 30) dX11_hashCells_27 (by decide) rfl (fun hc => ?_) (fun hc => ?_)
  · replace h := (if_pos hc).symm.trans h
    refine Rn.weakm [true, false, false, true, false, true, false] ?_
    exact KO s.1 (Option.some.inj h).symm
  · replace h := (if_neg hc).symm.trans h
    refine zi_ldc2 (q := 33) dX11_hashCells_30 k4_101 rfl ?_
    refine zi_lloadn (q := 34) dX11_hashCells_33 rfl rfl ?_
    refine zi_lmul (q := 35) dX11_hashCells_34 rfl ?_
    refine zi_aloadn (q := 36) dX11_hashCells_35 rfl rfl ?_
    refine zi_iload (q := 38) dX11_hashCells_36 rfl rfl ?_
    refine zi_iload (q := 40) dX11_hashCells_38 rfl rfl ?_
    obtain ⟨r1, hr1, h⟩ := Option.bind_eq_some_iff.mp h
    refine zc_V2 (q := 43) (st := [.long ((31 : Int64) * s.1)]) (S1 := [.int r1, .long ((31 : Int64) * s.1)]) (r_X11_cell x5 s.2 _ r1 hr1) dX11_hashCells_40 cb_X11_cell k4_108 k4_33 k4_34 ⟨by decide, by decide⟩ so_0 rfl rfl rfl (Nat.le_of_ble_eq_true rfl) (Or.inl rfl) rfl rfl ?_
    refine zi_i2l (q := 44) dX11_hashCells_43 rfl ?_
    refine zi_ladd (q := 45) dX11_hashCells_44 rfl ?_
    refine zi_lstoren (q := 46) (L' := [some (.ref 0), none, none, some (.long (((31 : Int64) * s.1) + r1.toInt64)), none, some (.int x5), some (.int s.2)]) dX11_hashCells_45 (by decide) rfl rfl rfl ?_
    refine zi_iinc (q := 49) (v := s.2 + 1) (L' := [some (.ref 0), none, none, some (.long (((31 : Int64) * s.1) + r1.toInt64)), none, some (.int x5), some (.int (s.2 + 1))]) dX11_hashCells_46 rfl (by rw [ki_1]) (by decide) rfl rfl rfl ?_
    refine zi_goto (q := 23) dX11_hashCells_49 (by decide) ?_
    exact KI ((((31 : Int64) * s.1) + r1.toInt64), (s.2 + 1)) (Option.some.inj h).symm
set_option maxRecDepth 20000 in
theorem rb_X11_hashCells_5 {E : Nat × (Nat → Int32)}  (m : zM) (s : (Int64 × Int32)) (rv : Option Value) (m' : zM) (x : ((Int64 × Int32) ⊕ (Int64))) (h : b_X11_hashCells_5 m s = some x) (KI : ∀ s1 : (Int64 × Int32), x = .inl s1 → Rn E zX11_hashCells 5 [some (.ref 0), none, none, some (.long s1.1), none, some (.int s1.2), none] [] zSH m rv zSH m') (KO : ∀ r1 : (Int64), x = .inr r1 → Rn E zX11_hashCells 58 [none, none, none, some (.long r1), none, none, none] [] zSH m rv zSH m') : Rn E zX11_hashCells 5 [some (.ref 0), none, none, some (.long s.1), none, some (.int s.2), none] [] zSH m rv zSH m' := by
  unfold b_X11_hashCells_5 at h
  refine zi_iload (q := 7) dX11_hashCells_5 rfl rfl ?_
  refine zi_aloadn (q := 8) dX11_hashCells_7 rfl rfl ?_
  refine zi_getA (q := 11) dX11_hashCells_8 fl_11_28 so_0 rfl rfl ?_
  refine zi_getA (q := 14) dX11_hashCells_11 fl_11_48 so_13 rfl rfl ?_
  refine zi_getI (q := 17) dX11_hashCells_14 fl_11_95 (by decide) so_14 rfl ?_
  refine zi_icmpge (q := 58) (q2 := 20) dX11_hashCells_17 (by decide) rfl (fun hc => ?_) (fun hc => ?_)
  · replace h := (if_pos hc).symm.trans h
    refine Rn.weakm [false, false, false, true, false, false, false] ?_
    exact KO s.1 (Option.some.inj h).symm
  · replace h := (if_neg hc).symm.trans h
    refine zi_iconst (q := 21) dX11_hashCells_20 ki_0 rfl ?_
    refine zi_istore (q := 23) (L' := [some (.ref 0), none, none, some (.long s.1), none, some (.int s.2), some (.int 0)]) dX11_hashCells_21 (by decide) rfl rfl rfl ?_
    obtain ⟨r2, hr2, h⟩ := Option.bind_eq_some_iff.mp h
    refine zloop_rn (P := fun w : (Int64 × Int32) => Rn E zX11_hashCells 23 [some (.ref 0), none, none, some (.long w.1), none, some (.int s.2), some (.int w.2)] [] zSH m rv zSH m') (X := fun w : (Int64) => Rn E zX11_hashCells 52 [some (.ref 0), none, none, some (.long w), none, some (.int s.2), none] [] zSH m rv zSH m') (fun w w0 hb KI KX => rb_X11_hashCells_23 s.2 m w _ _ w0 hb KI KX) zFU _ r2 hr2 ?_
    show Rn E zX11_hashCells 52 [some (.ref 0), none, none, some (.long r2), none, some (.int s.2), none] [] zSH m rv zSH m'
    refine zi_iinc (q := 55) (v := s.2 + 1) (L' := [some (.ref 0), none, none, some (.long r2), none, some (.int (s.2 + 1)), none]) dX11_hashCells_52 rfl (by rw [ki_1]) (by decide) rfl rfl rfl ?_
    refine zi_goto (q := 5) dX11_hashCells_55 (by decide) ?_
    exact KI (r2, (s.2 + 1)) (Option.some.inj h).symm
set_option maxRecDepth 20000 in
theorem r_X11_hashCells {E : Nat × (Nat → Int32)} (x1 : Int64) (m : zM) (x : Int64) (h : f_X11_hashCells x1 m = some x) : zMet E zX11_hashCells [.ref 0, .long x1] zSH m (some (.long x)) zSH m := by
  refine zMet.of (L0 := [some (.ref 0), some (.long x1), none, none, none, none, none]) rfl trivial (Nat.le_of_ble_eq_true rfl) rfl ?_
  unfold f_X11_hashCells at h
  refine zi_lloadn (q := 1) dX11_hashCells_0 rfl rfl ?_
  refine zi_lstoren (q := 2) (L' := [some (.ref 0), some (.long x1), none, some (.long x1), none, none, none]) dX11_hashCells_1 (by decide) rfl rfl rfl ?_
  refine zi_iconst (q := 3) dX11_hashCells_2 ki_0 rfl ?_
  refine zi_istore (q := 5) (L' := [some (.ref 0), some (.long x1), none, some (.long x1), none, some (.int 0), none]) dX11_hashCells_3 (by decide) rfl rfl rfl ?_
  obtain ⟨r3, hr3, h⟩ := Option.bind_eq_some_iff.mp h
  refine Rn.weakm [true, false, false, true, false, true, false] ?_
  refine zloop_rn (P := fun w : (Int64 × Int32) => Rn E zX11_hashCells 5 [some (.ref 0), none, none, some (.long w.1), none, some (.int w.2), none] [] zSH m (some (.long x)) zSH m) (X := fun w : (Int64) => Rn E zX11_hashCells 58 [none, none, none, some (.long w), none, none, none] [] zSH m (some (.long x)) zSH m) (fun w w0 hb KI KX => rb_X11_hashCells_5 m w _ _ w0 hb KI KX) zFU _ r3 hr3 ?_
  show Rn E zX11_hashCells 58 [none, none, none, some (.long r3), none, none, none] [] zSH m (some (.long x)) zSH m
  refine zi_lloadn (q := 59) dX11_hashCells_58 rfl rfl ?_
  cases h
  exact zi_ret _ dX11_hashCells_59
set_option maxRecDepth 20000 in
theorem rb_X11_hashSpots_23 {E : Nat × (Nat → Int32)} (x5 : Int32) (m : zM) (s : (Int64 × Int32)) (rv : Option Value) (m' : zM) (x : ((Int64 × Int32) ⊕ (Int64))) (h : b_X11_hashSpots_23 x5 m s = some x) (KI : ∀ s1 : (Int64 × Int32), x = .inl s1 → Rn E zX11_hashSpots 23 [some (.ref 0), none, none, some (.long s1.1), none, some (.int x5), some (.int s1.2)] [] zSH m rv zSH m') (KO : ∀ r1 : (Int64), x = .inr r1 → Rn E zX11_hashSpots 52 [some (.ref 0), none, none, some (.long r1), none, some (.int x5), none] [] zSH m rv zSH m') : Rn E zX11_hashSpots 23 [some (.ref 0), none, none, some (.long s.1), none, some (.int x5), some (.int s.2)] [] zSH m rv zSH m' := by
  unfold b_X11_hashSpots_23 at h
  refine zi_iload (q := 25) dX11_hashSpots_23 rfl rfl ?_
  refine zi_bipush (q := 27) dX11_hashSpots_25 kb_6 rfl ?_
  refine zi_icmpge (q := 52) (q2 := 30) dX11_hashSpots_27 (by decide) rfl (fun hc => ?_) (fun hc => ?_)
  · replace h := (if_pos hc).symm.trans h
    refine Rn.weakm [true, false, false, true, false, true, false] ?_
    exact KO s.1 (Option.some.inj h).symm
  · replace h := (if_neg hc).symm.trans h
    refine zi_ldc2 (q := 33) dX11_hashSpots_30 k4_101 rfl ?_
    refine zi_lloadn (q := 34) dX11_hashSpots_33 rfl rfl ?_
    refine zi_lmul (q := 35) dX11_hashSpots_34 rfl ?_
    refine zi_aloadn (q := 36) dX11_hashSpots_35 rfl rfl ?_
    refine zi_iload (q := 38) dX11_hashSpots_36 rfl rfl ?_
    refine zi_iload (q := 40) dX11_hashSpots_38 rfl rfl ?_
    obtain ⟨r1, hr1, h⟩ := Option.bind_eq_some_iff.mp h
    refine zc_V2 (q := 43) (st := [.long ((31 : Int64) * s.1)]) (S1 := [.int r1, .long ((31 : Int64) * s.1)]) (r_X11_spot x5 s.2 _ r1 hr1) dX11_hashSpots_40 cb_X11_spot k4_113 k4_49 k4_50 ⟨by decide, by decide⟩ so_0 rfl rfl rfl (Nat.le_of_ble_eq_true rfl) (Or.inl rfl) rfl rfl ?_
    refine zi_i2l (q := 44) dX11_hashSpots_43 rfl ?_
    refine zi_ladd (q := 45) dX11_hashSpots_44 rfl ?_
    refine zi_lstoren (q := 46) (L' := [some (.ref 0), none, none, some (.long (((31 : Int64) * s.1) + r1.toInt64)), none, some (.int x5), some (.int s.2)]) dX11_hashSpots_45 (by decide) rfl rfl rfl ?_
    refine zi_iinc (q := 49) (v := s.2 + 1) (L' := [some (.ref 0), none, none, some (.long (((31 : Int64) * s.1) + r1.toInt64)), none, some (.int x5), some (.int (s.2 + 1))]) dX11_hashSpots_46 rfl (by rw [ki_1]) (by decide) rfl rfl rfl ?_
    refine zi_goto (q := 23) dX11_hashSpots_49 (by decide) ?_
    exact KI ((((31 : Int64) * s.1) + r1.toInt64), (s.2 + 1)) (Option.some.inj h).symm
set_option maxRecDepth 20000 in
theorem rb_X11_hashSpots_5 {E : Nat × (Nat → Int32)}  (m : zM) (s : (Int64 × Int32)) (rv : Option Value) (m' : zM) (x : ((Int64 × Int32) ⊕ (Int64))) (h : b_X11_hashSpots_5 m s = some x) (KI : ∀ s1 : (Int64 × Int32), x = .inl s1 → Rn E zX11_hashSpots 5 [some (.ref 0), none, none, some (.long s1.1), none, some (.int s1.2), none] [] zSH m rv zSH m') (KO : ∀ r1 : (Int64), x = .inr r1 → Rn E zX11_hashSpots 58 [none, none, none, some (.long r1), none, none, none] [] zSH m rv zSH m') : Rn E zX11_hashSpots 5 [some (.ref 0), none, none, some (.long s.1), none, some (.int s.2), none] [] zSH m rv zSH m' := by
  unfold b_X11_hashSpots_5 at h
  refine zi_iload (q := 7) dX11_hashSpots_5 rfl rfl ?_
  refine zi_aloadn (q := 8) dX11_hashSpots_7 rfl rfl ?_
  refine zi_getA (q := 11) dX11_hashSpots_8 fl_11_28 so_0 rfl rfl ?_
  refine zi_getA (q := 14) dX11_hashSpots_11 fl_11_154 so_13 rfl rfl ?_
  refine zi_getI (q := 17) dX11_hashSpots_14 fl_11_228 (by decide) so_44 rfl ?_
  refine zi_icmpge (q := 58) (q2 := 20) dX11_hashSpots_17 (by decide) rfl (fun hc => ?_) (fun hc => ?_)
  · replace h := (if_pos hc).symm.trans h
    refine Rn.weakm [false, false, false, true, false, false, false] ?_
    exact KO s.1 (Option.some.inj h).symm
  · replace h := (if_neg hc).symm.trans h
    refine zi_iconst (q := 21) dX11_hashSpots_20 ki_0 rfl ?_
    refine zi_istore (q := 23) (L' := [some (.ref 0), none, none, some (.long s.1), none, some (.int s.2), some (.int 0)]) dX11_hashSpots_21 (by decide) rfl rfl rfl ?_
    obtain ⟨r2, hr2, h⟩ := Option.bind_eq_some_iff.mp h
    refine zloop_rn (P := fun w : (Int64 × Int32) => Rn E zX11_hashSpots 23 [some (.ref 0), none, none, some (.long w.1), none, some (.int s.2), some (.int w.2)] [] zSH m rv zSH m') (X := fun w : (Int64) => Rn E zX11_hashSpots 52 [some (.ref 0), none, none, some (.long w), none, some (.int s.2), none] [] zSH m rv zSH m') (fun w w0 hb KI KX => rb_X11_hashSpots_23 s.2 m w _ _ w0 hb KI KX) zFU _ r2 hr2 ?_
    show Rn E zX11_hashSpots 52 [some (.ref 0), none, none, some (.long r2), none, some (.int s.2), none] [] zSH m rv zSH m'
    refine zi_iinc (q := 55) (v := s.2 + 1) (L' := [some (.ref 0), none, none, some (.long r2), none, some (.int (s.2 + 1)), none]) dX11_hashSpots_52 rfl (by rw [ki_1]) (by decide) rfl rfl rfl ?_
    refine zi_goto (q := 5) dX11_hashSpots_55 (by decide) ?_
    exact KI (r2, (s.2 + 1)) (Option.some.inj h).symm
set_option maxRecDepth 20000 in
theorem r_X11_hashSpots {E : Nat × (Nat → Int32)} (x1 : Int64) (m : zM) (x : Int64) (h : f_X11_hashSpots x1 m = some x) : zMet E zX11_hashSpots [.ref 0, .long x1] zSH m (some (.long x)) zSH m := by
  refine zMet.of (L0 := [some (.ref 0), some (.long x1), none, none, none, none, none]) rfl trivial (Nat.le_of_ble_eq_true rfl) rfl ?_
  unfold f_X11_hashSpots at h
  refine zi_lloadn (q := 1) dX11_hashSpots_0 rfl rfl ?_
  refine zi_lstoren (q := 2) (L' := [some (.ref 0), some (.long x1), none, some (.long x1), none, none, none]) dX11_hashSpots_1 (by decide) rfl rfl rfl ?_
  refine zi_iconst (q := 3) dX11_hashSpots_2 ki_0 rfl ?_
  refine zi_istore (q := 5) (L' := [some (.ref 0), some (.long x1), none, some (.long x1), none, some (.int 0), none]) dX11_hashSpots_3 (by decide) rfl rfl rfl ?_
  obtain ⟨r3, hr3, h⟩ := Option.bind_eq_some_iff.mp h
  refine Rn.weakm [true, false, false, true, false, true, false] ?_
  refine zloop_rn (P := fun w : (Int64 × Int32) => Rn E zX11_hashSpots 5 [some (.ref 0), none, none, some (.long w.1), none, some (.int w.2), none] [] zSH m (some (.long x)) zSH m) (X := fun w : (Int64) => Rn E zX11_hashSpots 58 [none, none, none, some (.long w), none, none, none] [] zSH m (some (.long x)) zSH m) (fun w w0 hb KI KX => rb_X11_hashSpots_5 m w _ _ w0 hb KI KX) zFU _ r3 hr3 ?_
  show Rn E zX11_hashSpots 58 [none, none, none, some (.long r3), none, none, none] [] zSH m (some (.long x)) zSH m
  refine zi_lloadn (q := 59) dX11_hashSpots_58 rfl rfl ?_
  cases h
  exact zi_ret _ dX11_hashSpots_59
set_option maxRecDepth 20000 in
theorem rb_X11_hashTracks_23 {E : Nat × (Nat → Int32)} (x5 : Int32) (m : zM) (s : (Int64 × Int32)) (rv : Option Value) (m' : zM) (x : ((Int64 × Int32) ⊕ (Int64))) (h : b_X11_hashTracks_23 x5 m s = some x) (KI : ∀ s1 : (Int64 × Int32), x = .inl s1 → Rn E zX11_hashTracks 23 [some (.ref 0), none, none, some (.long s1.1), none, some (.int x5), some (.int s1.2)] [] zSH m rv zSH m') (KO : ∀ r1 : (Int64), x = .inr r1 → Rn E zX11_hashTracks 52 [some (.ref 0), none, none, some (.long r1), none, some (.int x5), none] [] zSH m rv zSH m') : Rn E zX11_hashTracks 23 [some (.ref 0), none, none, some (.long s.1), none, some (.int x5), some (.int s.2)] [] zSH m rv zSH m' := by
  unfold b_X11_hashTracks_23 at h
  refine zi_iload (q := 25) dX11_hashTracks_23 rfl rfl ?_
  refine zi_bipush (q := 27) dX11_hashTracks_25 kb_9 rfl ?_
  refine zi_icmpge (q := 52) (q2 := 30) dX11_hashTracks_27 (by decide) rfl (fun hc => ?_) (fun hc => ?_)
  · replace h := (if_pos hc).symm.trans h
    refine Rn.weakm [true, false, false, true, false, true, false] ?_
    exact KO s.1 (Option.some.inj h).symm
  · replace h := (if_neg hc).symm.trans h
    refine zi_ldc2 (q := 33) dX11_hashTracks_30 k4_101 rfl ?_
    refine zi_lloadn (q := 34) dX11_hashTracks_33 rfl rfl ?_
    refine zi_lmul (q := 35) dX11_hashTracks_34 rfl ?_
    refine zi_aloadn (q := 36) dX11_hashTracks_35 rfl rfl ?_
    refine zi_iload (q := 38) dX11_hashTracks_36 rfl rfl ?_
    refine zi_iload (q := 40) dX11_hashTracks_38 rfl rfl ?_
    obtain ⟨r1, hr1, h⟩ := Option.bind_eq_some_iff.mp h
    refine zc_V2 (q := 43) (st := [.long ((31 : Int64) * s.1)]) (S1 := [.int r1, .long ((31 : Int64) * s.1)]) (r_X11_track x5 s.2 _ r1 hr1) dX11_hashTracks_40 cb_X11_track k4_118 k4_57 k4_58 ⟨by decide, by decide⟩ so_0 rfl rfl rfl (Nat.le_of_ble_eq_true rfl) (Or.inl rfl) rfl rfl ?_
    refine zi_i2l (q := 44) dX11_hashTracks_43 rfl ?_
    refine zi_ladd (q := 45) dX11_hashTracks_44 rfl ?_
    refine zi_lstoren (q := 46) (L' := [some (.ref 0), none, none, some (.long (((31 : Int64) * s.1) + r1.toInt64)), none, some (.int x5), some (.int s.2)]) dX11_hashTracks_45 (by decide) rfl rfl rfl ?_
    refine zi_iinc (q := 49) (v := s.2 + 1) (L' := [some (.ref 0), none, none, some (.long (((31 : Int64) * s.1) + r1.toInt64)), none, some (.int x5), some (.int (s.2 + 1))]) dX11_hashTracks_46 rfl (by rw [ki_1]) (by decide) rfl rfl rfl ?_
    refine zi_goto (q := 23) dX11_hashTracks_49 (by decide) ?_
    exact KI ((((31 : Int64) * s.1) + r1.toInt64), (s.2 + 1)) (Option.some.inj h).symm
set_option maxRecDepth 20000 in
theorem rb_X11_hashTracks_5 {E : Nat × (Nat → Int32)}  (m : zM) (s : (Int64 × Int32)) (rv : Option Value) (m' : zM) (x : ((Int64 × Int32) ⊕ (Int64))) (h : b_X11_hashTracks_5 m s = some x) (KI : ∀ s1 : (Int64 × Int32), x = .inl s1 → Rn E zX11_hashTracks 5 [some (.ref 0), none, none, some (.long s1.1), none, some (.int s1.2), none] [] zSH m rv zSH m') (KO : ∀ r1 : (Int64), x = .inr r1 → Rn E zX11_hashTracks 58 [none, none, none, some (.long r1), none, none, none] [] zSH m rv zSH m') : Rn E zX11_hashTracks 5 [some (.ref 0), none, none, some (.long s.1), none, some (.int s.2), none] [] zSH m rv zSH m' := by
  unfold b_X11_hashTracks_5 at h
  refine zi_iload (q := 7) dX11_hashTracks_5 rfl rfl ?_
  refine zi_aloadn (q := 8) dX11_hashTracks_7 rfl rfl ?_
  refine zi_getA (q := 11) dX11_hashTracks_8 fl_11_28 so_0 rfl rfl ?_
  refine zi_getA (q := 14) dX11_hashTracks_11 fl_11_167 so_13 rfl rfl ?_
  refine zi_getI (q := 17) dX11_hashTracks_14 fl_11_234 (by decide) so_60 rfl ?_
  refine zi_icmpge (q := 58) (q2 := 20) dX11_hashTracks_17 (by decide) rfl (fun hc => ?_) (fun hc => ?_)
  · replace h := (if_pos hc).symm.trans h
    refine Rn.weakm [false, false, false, true, false, false, false] ?_
    exact KO s.1 (Option.some.inj h).symm
  · replace h := (if_neg hc).symm.trans h
    refine zi_iconst (q := 21) dX11_hashTracks_20 ki_0 rfl ?_
    refine zi_istore (q := 23) (L' := [some (.ref 0), none, none, some (.long s.1), none, some (.int s.2), some (.int 0)]) dX11_hashTracks_21 (by decide) rfl rfl rfl ?_
    obtain ⟨r2, hr2, h⟩ := Option.bind_eq_some_iff.mp h
    refine zloop_rn (P := fun w : (Int64 × Int32) => Rn E zX11_hashTracks 23 [some (.ref 0), none, none, some (.long w.1), none, some (.int s.2), some (.int w.2)] [] zSH m rv zSH m') (X := fun w : (Int64) => Rn E zX11_hashTracks 52 [some (.ref 0), none, none, some (.long w), none, some (.int s.2), none] [] zSH m rv zSH m') (fun w w0 hb KI KX => rb_X11_hashTracks_23 s.2 m w _ _ w0 hb KI KX) zFU _ r2 hr2 ?_
    show Rn E zX11_hashTracks 52 [some (.ref 0), none, none, some (.long r2), none, some (.int s.2), none] [] zSH m rv zSH m'
    refine zi_iinc (q := 55) (v := s.2 + 1) (L' := [some (.ref 0), none, none, some (.long r2), none, some (.int (s.2 + 1)), none]) dX11_hashTracks_52 rfl (by rw [ki_1]) (by decide) rfl rfl rfl ?_
    refine zi_goto (q := 5) dX11_hashTracks_55 (by decide) ?_
    exact KI (r2, (s.2 + 1)) (Option.some.inj h).symm
set_option maxRecDepth 20000 in
theorem r_X11_hashTracks {E : Nat × (Nat → Int32)} (x1 : Int64) (m : zM) (x : Int64) (h : f_X11_hashTracks x1 m = some x) : zMet E zX11_hashTracks [.ref 0, .long x1] zSH m (some (.long x)) zSH m := by
  refine zMet.of (L0 := [some (.ref 0), some (.long x1), none, none, none, none, none]) rfl trivial (Nat.le_of_ble_eq_true rfl) rfl ?_
  unfold f_X11_hashTracks at h
  refine zi_lloadn (q := 1) dX11_hashTracks_0 rfl rfl ?_
  refine zi_lstoren (q := 2) (L' := [some (.ref 0), some (.long x1), none, some (.long x1), none, none, none]) dX11_hashTracks_1 (by decide) rfl rfl rfl ?_
  refine zi_iconst (q := 3) dX11_hashTracks_2 ki_0 rfl ?_
  refine zi_istore (q := 5) (L' := [some (.ref 0), some (.long x1), none, some (.long x1), none, some (.int 0), none]) dX11_hashTracks_3 (by decide) rfl rfl rfl ?_
  obtain ⟨r3, hr3, h⟩ := Option.bind_eq_some_iff.mp h
  refine Rn.weakm [true, false, false, true, false, true, false] ?_
  refine zloop_rn (P := fun w : (Int64 × Int32) => Rn E zX11_hashTracks 5 [some (.ref 0), none, none, some (.long w.1), none, some (.int w.2), none] [] zSH m (some (.long x)) zSH m) (X := fun w : (Int64) => Rn E zX11_hashTracks 58 [none, none, none, some (.long w), none, none, none] [] zSH m (some (.long x)) zSH m) (fun w w0 hb KI KX => rb_X11_hashTracks_5 m w _ _ w0 hb KI KX) zFU _ r3 hr3 ?_
  show Rn E zX11_hashTracks 58 [none, none, none, some (.long r3), none, none, none] [] zSH m (some (.long x)) zSH m
  refine zi_lloadn (q := 59) dX11_hashTracks_58 rfl rfl ?_
  cases h
  exact zi_ret _ dX11_hashTracks_59
set_option maxRecDepth 20000 in
theorem rb_X11_digest_46 {E : Nat × (Nat → Int32)}  (m : zM) (s : (Int64 × Int32)) (rv : Option Value) (m' : zM) (x : ((Int64 × Int32) ⊕ (Int64))) (h : b_X11_digest_46 m s = some x) (KI : ∀ s1 : (Int64 × Int32), x = .inl s1 → Rn E zX11_digest 46 [some (.ref 0), some (.long s1.1), none, some (.int s1.2)] [] zSH m rv zSH m') (KO : ∀ r1 : (Int64), x = .inr r1 → Rn E zX11_digest 80 [some (.ref 0), some (.long r1), none, none] [] zSH m rv zSH m') : Rn E zX11_digest 46 [some (.ref 0), some (.long s.1), none, some (.int s.2)] [] zSH m rv zSH m' := by
  unfold b_X11_digest_46 at h
  refine zi_iloadn (q := 47) dX11_digest_46 rfl rfl ?_
  refine zi_aloadn (q := 48) dX11_digest_47 rfl rfl ?_
  refine zi_getA (q := 51) dX11_digest_48 fl_11_10 so_0 rfl rfl ?_
  refine zi_getI (q := 54) dX11_digest_51 fl_11_36 (by decide) so_1 rfl ?_
  refine zi_icmpge (q := 80) (q2 := 57) dX11_digest_54 (by decide) rfl (fun hc => ?_) (fun hc => ?_)
  · replace h := (if_pos hc).symm.trans h
    refine Rn.weakm [true, true, false, false] ?_
    exact KO s.1 (Option.some.inj h).symm
  · replace h := (if_neg hc).symm.trans h
    refine zi_ldc2 (q := 60) dX11_digest_57 k4_101 rfl ?_
    refine zi_lloadn (q := 61) dX11_digest_60 rfl rfl ?_
    refine zi_lmul (q := 62) dX11_digest_61 rfl ?_
    refine zi_aloadn (q := 63) dX11_digest_62 rfl rfl ?_
    refine zi_getA (q := 66) dX11_digest_63 fl_11_10 so_0 rfl rfl ?_
    refine zi_getA (q := 69) dX11_digest_66 fl_11_210 so_1 rfl rfl ?_
    refine zi_iloadn (q := 70) dX11_digest_69 rfl rfl ?_
    obtain ⟨hz2, h⟩ := zg_some h
    refine zi_iald2 (q := 71) dX11_digest_70 so_2 (zin_vp hz2) rfl rfl ?_
    refine zi_i2l (q := 72) dX11_digest_71 rfl ?_
    refine zi_ladd (q := 73) dX11_digest_72 rfl ?_
    refine zi_lstoren (q := 74) (L' := [some (.ref 0), some (.long (((31 : Int64) * s.1) + ((m.1 2 s.2.toNatClampNeg).toInt64))), none, some (.int s.2)]) dX11_digest_73 (by decide) rfl rfl rfl ?_
    refine zi_iinc (q := 77) (v := s.2 + 1) (L' := [some (.ref 0), some (.long (((31 : Int64) * s.1) + ((m.1 2 s.2.toNatClampNeg).toInt64))), none, some (.int (s.2 + 1))]) dX11_digest_74 rfl (by rw [ki_1]) (by decide) rfl rfl rfl ?_
    refine zi_goto (q := 46) dX11_digest_77 (by decide) ?_
    exact KI ((((31 : Int64) * s.1) + ((m.1 2 s.2.toNatClampNeg).toInt64)), (s.2 + 1)) (Option.some.inj h).symm
set_option maxRecDepth 20000 in
theorem rb_X11_digest_82 {E : Nat × (Nat → Int32)}  (m : zM) (s : (Int64 × Int32)) (rv : Option Value) (m' : zM) (x : ((Int64 × Int32) ⊕ (Int64))) (h : b_X11_digest_82 m s = some x) (KI : ∀ s1 : (Int64 × Int32), x = .inl s1 → Rn E zX11_digest 82 [some (.ref 0), some (.long s1.1), none, some (.int s1.2)] [] zSH m rv zSH m') (KO : ∀ r1 : (Int64), x = .inr r1 → Rn E zX11_digest 107 [some (.ref 0), some (.long r1), none, none] [] zSH m rv zSH m') : Rn E zX11_digest 82 [some (.ref 0), some (.long s.1), none, some (.int s.2)] [] zSH m rv zSH m' := by
  unfold b_X11_digest_82 at h
  refine zi_iloadn (q := 83) dX11_digest_82 rfl rfl ?_
  refine zi_bipush (q := 85) dX11_digest_83 kb_6 rfl ?_
  refine zi_icmpge (q := 107) (q2 := 88) dX11_digest_85 (by decide) rfl (fun hc => ?_) (fun hc => ?_)
  · replace h := (if_pos hc).symm.trans h
    refine Rn.weakm [true, true, false, false] ?_
    exact KO s.1 (Option.some.inj h).symm
  · replace h := (if_neg hc).symm.trans h
    refine zi_ldc2 (q := 91) dX11_digest_88 k4_101 rfl ?_
    refine zi_lloadn (q := 92) dX11_digest_91 rfl rfl ?_
    refine zi_lmul (q := 93) dX11_digest_92 rfl ?_
    refine zi_aloadn (q := 94) dX11_digest_93 rfl rfl ?_
    refine zi_iloadn (q := 95) dX11_digest_94 rfl rfl ?_
    obtain ⟨r4, hr4, h⟩ := Option.bind_eq_some_iff.mp h
    refine zc_V2 (q := 98) (st := [.long ((31 : Int64) * s.1)]) (S1 := [.int r4, .long ((31 : Int64) * s.1)]) (r_X11_count s.2 _ r4 hr4) dX11_digest_95 cb_X11_count k4_124 k4_85 k4_86 ⟨by decide, by decide⟩ so_0 rfl rfl rfl (Nat.le_of_ble_eq_true rfl) (Or.inl rfl) rfl rfl ?_
    refine zi_i2l (q := 99) dX11_digest_98 rfl ?_
    refine zi_ladd (q := 100) dX11_digest_99 rfl ?_
    refine zi_lstoren (q := 101) (L' := [some (.ref 0), some (.long (((31 : Int64) * s.1) + r4.toInt64)), none, some (.int s.2)]) dX11_digest_100 (by decide) rfl rfl rfl ?_
    refine zi_iinc (q := 104) (v := s.2 + 1) (L' := [some (.ref 0), some (.long (((31 : Int64) * s.1) + r4.toInt64)), none, some (.int (s.2 + 1))]) dX11_digest_101 rfl (by rw [ki_1]) (by decide) rfl rfl rfl ?_
    refine zi_goto (q := 82) dX11_digest_104 (by decide) ?_
    exact KI ((((31 : Int64) * s.1) + r4.toInt64), (s.2 + 1)) (Option.some.inj h).symm
set_option maxRecDepth 20000 in
theorem rb_X11_digest_109 {E : Nat × (Nat → Int32)}  (m : zM) (s : (Int64 × Int32)) (rv : Option Value) (m' : zM) (x : ((Int64 × Int32) ⊕ (Int64))) (h : b_X11_digest_109 m s = some x) (KI : ∀ s1 : (Int64 × Int32), x = .inl s1 → Rn E zX11_digest 109 [some (.ref 0), some (.long s1.1), none, some (.int s1.2)] [] zSH m rv zSH m') (KO : ∀ r1 : (Int64), x = .inr r1 → Rn E zX11_digest 133 [none, some (.long r1), none, none] [] zSH m rv zSH m') : Rn E zX11_digest 109 [some (.ref 0), some (.long s.1), none, some (.int s.2)] [] zSH m rv zSH m' := by
  unfold b_X11_digest_109 at h
  refine zi_iloadn (q := 110) dX11_digest_109 rfl rfl ?_
  refine zi_iconst (q := 111) dX11_digest_110 ki_4 rfl ?_
  refine zi_icmpgt (q := 133) (q2 := 114) dX11_digest_111 (by decide) rfl (fun hc => ?_) (fun hc => ?_)
  · replace h := (if_pos hc).symm.trans h
    refine Rn.weakm [false, true, false, false] ?_
    exact KO s.1 (Option.some.inj h).symm
  · replace h := (if_neg hc).symm.trans h
    refine zi_ldc2 (q := 117) dX11_digest_114 k4_101 rfl ?_
    refine zi_lloadn (q := 118) dX11_digest_117 rfl rfl ?_
    refine zi_lmul (q := 119) dX11_digest_118 rfl ?_
    refine zi_aloadn (q := 120) dX11_digest_119 rfl rfl ?_
    refine zi_iloadn (q := 121) dX11_digest_120 rfl rfl ?_
    obtain ⟨r6, hr6, h⟩ := Option.bind_eq_some_iff.mp h
    refine zc_V2 (q := 124) (st := [.long ((31 : Int64) * s.1)]) (S1 := [.int r6, .long ((31 : Int64) * s.1)]) (r_X11_events s.2 _ r6 hr6) dX11_digest_121 cb_X11_events k4_125 k4_89 k4_90 ⟨by decide, by decide⟩ so_0 rfl rfl rfl (Nat.le_of_ble_eq_true rfl) (Or.inl rfl) rfl rfl ?_
    refine zi_i2l (q := 125) dX11_digest_124 rfl ?_
    refine zi_ladd (q := 126) dX11_digest_125 rfl ?_
    refine zi_lstoren (q := 127) (L' := [some (.ref 0), some (.long (((31 : Int64) * s.1) + r6.toInt64)), none, some (.int s.2)]) dX11_digest_126 (by decide) rfl rfl rfl ?_
    refine zi_iinc (q := 130) (v := s.2 + 1) (L' := [some (.ref 0), some (.long (((31 : Int64) * s.1) + r6.toInt64)), none, some (.int (s.2 + 1))]) dX11_digest_127 rfl (by rw [ki_1]) (by decide) rfl rfl rfl ?_
    refine zi_goto (q := 109) dX11_digest_130 (by decide) ?_
    exact KI ((((31 : Int64) * s.1) + r6.toInt64), (s.2 + 1)) (Option.some.inj h).symm
set_option maxRecDepth 20000 in
theorem rj_X11_digest_38 {E : Nat × (Nat → Int32)} (x1 : Int64) (m : zM)  (x : Int64) (h : j_X11_digest_38 x1 m = some x) : Rn E zX11_digest 38 [some (.ref 0), some (.long x1), none, none] [] zSH m (some (.long x)) zSH m := by
  unfold j_X11_digest_38 at h
  refine zi_aloadn (q := 39) dX11_digest_38 rfl rfl ?_
  refine zi_lloadn (q := 40) dX11_digest_39 rfl rfl ?_
  obtain ⟨r1, hr1, h⟩ := Option.bind_eq_some_iff.mp h
  refine zc_V2 (q := 43) (st := []) (S1 := [.long r1]) (r_X11_hashJournal x1 _ r1 hr1) dX11_digest_40 cb_X11_hashJournal k4_119 k4_121 ks_X11_hashJournal ⟨by decide, by decide⟩ so_0 rfl rfl rfl (Nat.le_of_ble_eq_true rfl) (Or.inl rfl) rfl rfl ?_
  refine zi_lstoren (q := 44) (L' := [some (.ref 0), some (.long r1), none, none]) dX11_digest_43 (by decide) rfl rfl rfl ?_
  refine zi_iconst (q := 45) dX11_digest_44 ki_0 rfl ?_
  refine zi_istoren (q := 46) (L' := [some (.ref 0), some (.long r1), none, some (.int 0)]) dX11_digest_45 (by decide) rfl rfl rfl ?_
  obtain ⟨r3, hr3, h⟩ := Option.bind_eq_some_iff.mp h
  refine zloop_rn (P := fun w : (Int64 × Int32) => Rn E zX11_digest 46 [some (.ref 0), some (.long w.1), none, some (.int w.2)] [] zSH m (some (.long x)) zSH m) (X := fun w : (Int64) => Rn E zX11_digest 80 [some (.ref 0), some (.long w), none, none] [] zSH m (some (.long x)) zSH m) (fun w w0 hb KI KX => rb_X11_digest_46 m w _ _ w0 hb KI KX) zFU _ r3 hr3 ?_
  show Rn E zX11_digest 80 [some (.ref 0), some (.long r3), none, none] [] zSH m (some (.long x)) zSH m
  refine zi_iconst (q := 81) dX11_digest_80 ki_0 rfl ?_
  refine zi_istoren (q := 82) (L' := [some (.ref 0), some (.long r3), none, some (.int 0)]) dX11_digest_81 (by decide) rfl rfl rfl ?_
  obtain ⟨r5, hr5, h⟩ := Option.bind_eq_some_iff.mp h
  refine zloop_rn (P := fun w : (Int64 × Int32) => Rn E zX11_digest 82 [some (.ref 0), some (.long w.1), none, some (.int w.2)] [] zSH m (some (.long x)) zSH m) (X := fun w : (Int64) => Rn E zX11_digest 107 [some (.ref 0), some (.long w), none, none] [] zSH m (some (.long x)) zSH m) (fun w w0 hb KI KX => rb_X11_digest_82 m w _ _ w0 hb KI KX) zFU _ r5 hr5 ?_
  show Rn E zX11_digest 107 [some (.ref 0), some (.long r5), none, none] [] zSH m (some (.long x)) zSH m
  refine zi_iconst (q := 108) dX11_digest_107 ki_1 rfl ?_
  refine zi_istoren (q := 109) (L' := [some (.ref 0), some (.long r5), none, some (.int 1)]) dX11_digest_108 (by decide) rfl rfl rfl ?_
  obtain ⟨r7, hr7, h⟩ := Option.bind_eq_some_iff.mp h
  refine zloop_rn (P := fun w : (Int64 × Int32) => Rn E zX11_digest 109 [some (.ref 0), some (.long w.1), none, some (.int w.2)] [] zSH m (some (.long x)) zSH m) (X := fun w : (Int64) => Rn E zX11_digest 133 [none, some (.long w), none, none] [] zSH m (some (.long x)) zSH m) (fun w w0 hb KI KX => rb_X11_digest_109 m w _ _ w0 hb KI KX) zFU _ r7 hr7 ?_
  show Rn E zX11_digest 133 [none, some (.long r7), none, none] [] zSH m (some (.long x)) zSH m
  refine zi_lloadn (q := 134) dX11_digest_133 rfl rfl ?_
  cases h
  exact zi_ret _ dX11_digest_134
set_option maxRecDepth 20000 in
theorem r_X11_digest {E : Nat × (Nat → Int32)}  (m : zM) (x : Int64) (h : f_X11_digest  m = some x) : zMet E zX11_digest [.ref 0] zSH m (some (.long x)) zSH m := by
  refine zMet.of (L0 := [some (.ref 0), none, none, none]) rfl trivial (Nat.le_of_ble_eq_true rfl) rfl ?_
  unfold f_X11_digest at h
  refine zi_ldc2 (q := 3) dX11_digest_0 k4_96 rfl ?_
  refine zi_lstoren (q := 4) (L' := [some (.ref 0), some (.long (1583 : Int64)), none, none]) dX11_digest_3 (by decide) rfl rfl rfl ?_
  refine zi_aloadn (q := 5) dX11_digest_4 rfl rfl ?_
  refine zi_getA (q := 8) dX11_digest_5 fl_11_28 so_0 rfl rfl ?_
  refine zi_getI (q := 11) dX11_digest_8 fl_11_44 (by decide) so_13 rfl ?_
  refine zi_ifeq (q := 38) (q2 := 14) dX11_digest_11 (by decide) rfl (fun hc => ?_) (fun hc => ?_)
  · replace h := (if_pos hc).symm.trans h
    exact rj_X11_digest_38 (1583 : Int64) _ _ h
  · replace h := (if_neg hc).symm.trans h
    refine zi_aloadn (q := 15) dX11_digest_14 rfl rfl ?_
    refine zi_lloadn (q := 16) dX11_digest_15 rfl rfl ?_
    obtain ⟨r8, hr8, h⟩ := Option.bind_eq_some_iff.mp h
    refine zc_V2 (q := 19) (st := []) (S1 := [.long r8]) (r_X11_hashPanelAndFingers (1583 : Int64) _ r8 hr8) dX11_digest_16 cb_X11_hashPanelAndFingers k4_97 k4_99 ks_X11_hashPanelAndFingers ⟨by decide, by decide⟩ so_0 rfl rfl rfl (Nat.le_of_ble_eq_true rfl) (Or.inl rfl) rfl rfl ?_
    refine zi_lstoren (q := 20) (L' := [some (.ref 0), some (.long r8), none, none]) dX11_digest_19 (by decide) rfl rfl rfl ?_
    refine zi_aloadn (q := 21) dX11_digest_20 rfl rfl ?_
    refine zi_lloadn (q := 22) dX11_digest_21 rfl rfl ?_
    obtain ⟨r9, hr9, h⟩ := Option.bind_eq_some_iff.mp h
    refine zc_V2 (q := 25) (st := []) (S1 := [.long r9]) (r_X11_hashCells r8 _ r9 hr9) dX11_digest_22 cb_X11_hashCells k4_104 k4_106 ks_X11_hashCells ⟨by decide, by decide⟩ so_0 rfl rfl rfl (Nat.le_of_ble_eq_true rfl) (Or.inl rfl) rfl rfl ?_
    refine zi_lstoren (q := 26) (L' := [some (.ref 0), some (.long r9), none, none]) dX11_digest_25 (by decide) rfl rfl rfl ?_
    refine zi_aloadn (q := 27) dX11_digest_26 rfl rfl ?_
    refine zi_lloadn (q := 28) dX11_digest_27 rfl rfl ?_
    obtain ⟨r10, hr10, h⟩ := Option.bind_eq_some_iff.mp h
    refine zc_V2 (q := 31) (st := []) (S1 := [.long r10]) (r_X11_hashSpots r9 _ r10 hr10) dX11_digest_28 cb_X11_hashSpots k4_109 k4_111 ks_X11_hashSpots ⟨by decide, by decide⟩ so_0 rfl rfl rfl (Nat.le_of_ble_eq_true rfl) (Or.inl rfl) rfl rfl ?_
    refine zi_lstoren (q := 32) (L' := [some (.ref 0), some (.long r10), none, none]) dX11_digest_31 (by decide) rfl rfl rfl ?_
    refine zi_aloadn (q := 33) dX11_digest_32 rfl rfl ?_
    refine zi_lloadn (q := 34) dX11_digest_33 rfl rfl ?_
    obtain ⟨r11, hr11, h⟩ := Option.bind_eq_some_iff.mp h
    refine zc_V2 (q := 37) (st := []) (S1 := [.long r11]) (r_X11_hashTracks r10 _ r11 hr11) dX11_digest_34 cb_X11_hashTracks k4_114 k4_116 ks_X11_hashTracks ⟨by decide, by decide⟩ so_0 rfl rfl rfl (Nat.le_of_ble_eq_true rfl) (Or.inl rfl) rfl rfl ?_
    refine zi_lstoren (q := 38) (L' := [some (.ref 0), some (.long r11), none, none]) dX11_digest_37 (by decide) rfl rfl rfl ?_
    exact rj_X11_digest_38 r11 _ _ h
set_option maxRecDepth 20000 in
theorem r_X12_mix {E : Nat × (Nat → Int32)} (x1 : Int64) (m : zM) (x : zM) (h : f_X12_mix x1 m = some x) : zMet E zX12_mix [.ref 68, .long x1] zSH m none zSH x := by
  refine zMet.of (L0 := [some (.ref 68), some (.long x1), none]) rfl trivial (Nat.le_of_ble_eq_true rfl) rfl ?_
  unfold f_X12_mix at h
  refine zi_aloadn (q := 1) dX12_mix_0 rfl rfl ?_
  refine zi_ldc2 (q := 4) dX12_mix_1 k6_185 rfl ?_
  refine zi_aloadn (q := 5) dX12_mix_4 rfl rfl ?_
  refine zi_getJ (q := 8) dX12_mix_5 fl_12_402 so_68 rfl ?_
  refine zi_lmul (q := 9) dX12_mix_8 rfl ?_
  refine zi_lloadn (q := 10) dX12_mix_9 rfl rfl ?_
  refine zi_ladd (q := 11) dX12_mix_10 rfl ?_
  refine zi_putJ (q := 14) dX12_mix_11 pl_12_402 so_68 rfl ?_
  cases h
  exact zi_ret _ dX12_mix_14
set_option maxRecDepth 20000 in
theorem rb_X12_mixGlass_2 {E : Nat × (Nat → Int32)}   (s : (Int32 × zM)) (rv : Option Value) (m' : zM) (x : ((Int32 × zM) ⊕ (zM))) (h : b_X12_mixGlass_2  s = some x) (KI : ∀ s1 : (Int32 × zM), x = .inl s1 → Rn E zX12_mixGlass 2 [some (.ref 68), some (.int s1.1)] [] zSH s1.2 rv zSH m') (KO : ∀ r1 : (zM), x = .inr r1 → Rn E zX12_mixGlass 24 [some (.ref 68), none] [] zSH r1 rv zSH m') : Rn E zX12_mixGlass 2 [some (.ref 68), some (.int s.1)] [] zSH s.2 rv zSH m' := by
  unfold b_X12_mixGlass_2 at h
  refine zi_iloadn (q := 3) dX12_mixGlass_2 rfl rfl ?_
  refine zi_bipush (q := 5) dX12_mixGlass_3 kb_9 rfl ?_
  refine zi_icmpge (q := 24) (q2 := 8) dX12_mixGlass_5 (by decide) rfl (fun hc => ?_) (fun hc => ?_)
  · replace h := (if_pos hc).symm.trans h
    refine Rn.weakm [true, false] ?_
    exact KO s.2 (Option.some.inj h).symm
  · replace h := (if_neg hc).symm.trans h
    refine zi_aloadn (q := 9) dX12_mixGlass_8 rfl rfl ?_
    refine zi_aloadn (q := 10) dX12_mixGlass_9 rfl rfl ?_
    refine zi_iloadn (q := 11) dX12_mixGlass_10 rfl rfl ?_
    obtain ⟨r1, hr1, h⟩ := Option.bind_eq_some_iff.mp h
    refine zc_V2 (q := 14) (st := [.ref 68]) (S1 := [.int r1, .ref 68]) (r_X12_aboutNow s.1 _ r1 hr1) dX12_mixGlass_11 cb_X12_aboutNow k6_124 k6_126 ks_X12_aboutNow ⟨by decide, by decide⟩ so_68 rfl rfl rfl (Nat.le_of_ble_eq_true rfl) (Or.inl rfl) rfl rfl ?_
    refine zi_i2l (q := 15) dX12_mixGlass_14 rfl ?_
    obtain ⟨m2, hm2, h⟩ := Option.bind_eq_some_iff.mp h
    refine zc_V2 (q := 18) (st := []) (S1 := []) (r_X12_mix r1.toInt64 _ m2 hm2) dX12_mixGlass_15 cb_X12_mix k6_181 k6_183 ks_X12_mix ⟨by decide, by decide⟩ so_68 rfl rfl rfl (Nat.le_of_ble_eq_true rfl) (Or.inl rfl) rfl rfl ?_
    refine zi_iinc (q := 21) (v := s.1 + 1) (L' := [some (.ref 68), some (.int (s.1 + 1))]) dX12_mixGlass_18 rfl (by rw [ki_1]) (by decide) rfl rfl rfl ?_
    refine zi_goto (q := 2) dX12_mixGlass_21 (by decide) ?_
    exact KI ((s.1 + 1), m2) (Option.some.inj h).symm
set_option maxRecDepth 20000 in
theorem rb_X12_mixGlass_26 {E : Nat × (Nat → Int32)}   (s : (Int32 × zM)) (rv : Option Value) (m' : zM) (x : ((Int32 × zM) ⊕ (zM))) (h : b_X12_mixGlass_26  s = some x) (KI : ∀ s1 : (Int32 × zM), x = .inl s1 → Rn E zX12_mixGlass 26 [some (.ref 68), some (.int s1.1)] [] zSH s1.2 rv zSH m') (KO : ∀ r1 : (zM), x = .inr r1 → Rn E zX12_mixGlass 53 [some (.ref 68), none] [] zSH r1 rv zSH m') : Rn E zX12_mixGlass 26 [some (.ref 68), some (.int s.1)] [] zSH s.2 rv zSH m' := by
  unfold b_X12_mixGlass_26 at h
  refine zi_iloadn (q := 27) dX12_mixGlass_26 rfl rfl ?_
  refine zi_bipush (q := 29) dX12_mixGlass_27 kb_20 rfl ?_
  refine zi_icmpge (q := 53) (q2 := 32) dX12_mixGlass_29 (by decide) rfl (fun hc => ?_) (fun hc => ?_)
  · replace h := (if_pos hc).symm.trans h
    refine Rn.weakm [true, false] ?_
    exact KO s.2 (Option.some.inj h).symm
  · replace h := (if_neg hc).symm.trans h
    refine zi_aloadn (q := 33) dX12_mixGlass_32 rfl rfl ?_
    refine zi_aloadn (q := 34) dX12_mixGlass_33 rfl rfl ?_
    refine zi_iloadn (q := 35) dX12_mixGlass_34 rfl rfl ?_
    refine zi_iconst (q := 36) dX12_mixGlass_35 ki_4 rfl ?_
    refine zi_idiv (q := 37) dX12_mixGlass_36 nz_4 rfl ?_
    refine zi_iloadn (q := 38) dX12_mixGlass_37 rfl rfl ?_
    refine zi_iconst (q := 39) dX12_mixGlass_38 ki_4 rfl ?_
    refine zi_irem2 (q := 40) dX12_mixGlass_39 nz_4 rfl ?_
    obtain ⟨r4, hr4, h⟩ := Option.bind_eq_some_iff.mp h
    refine zc_V2 (q := 43) (st := [.ref 68]) (S1 := [.int r4, .ref 68]) (r_X12_fingerNow (s.1 / 4) (zrem s.1 4) _ r4 hr4) dX12_mixGlass_40 cb_X12_fingerNow k6_108 k6_110 ks_X12_fingerNow ⟨by decide, by decide⟩ so_68 rfl rfl rfl (Nat.le_of_ble_eq_true rfl) (Or.inl rfl) rfl rfl ?_
    refine zi_i2l (q := 44) dX12_mixGlass_43 rfl ?_
    obtain ⟨m5, hm5, h⟩ := Option.bind_eq_some_iff.mp h
    refine zc_V2 (q := 47) (st := []) (S1 := []) (r_X12_mix r4.toInt64 _ m5 hm5) dX12_mixGlass_44 cb_X12_mix k6_181 k6_183 ks_X12_mix ⟨by decide, by decide⟩ so_68 rfl rfl rfl (Nat.le_of_ble_eq_true rfl) (Or.inl rfl) rfl rfl ?_
    refine zi_iinc (q := 50) (v := s.1 + 1) (L' := [some (.ref 68), some (.int (s.1 + 1))]) dX12_mixGlass_47 rfl (by rw [ki_1]) (by decide) rfl rfl rfl ?_
    refine zi_goto (q := 26) dX12_mixGlass_50 (by decide) ?_
    exact KI ((s.1 + 1), m5) (Option.some.inj h).symm
set_option maxRecDepth 20000 in
theorem rb_X12_mixGlass_55 {E : Nat × (Nat → Int32)}   (s : (Int32 × zM)) (rv : Option Value) (m' : zM) (x : ((Int32 × zM) ⊕ (zM))) (h : b_X12_mixGlass_55  s = some x) (KI : ∀ s1 : (Int32 × zM), x = .inl s1 → Rn E zX12_mixGlass 55 [some (.ref 68), some (.int s1.1)] [] zSH s1.2 rv zSH m') (KO : ∀ r1 : (zM), x = .inr r1 → Rn E zX12_mixGlass 89 [some (.ref 68), none] [] zSH r1 rv zSH m') : Rn E zX12_mixGlass 55 [some (.ref 68), some (.int s.1)] [] zSH s.2 rv zSH m' := by
  unfold b_X12_mixGlass_55 at h
  refine zi_iloadn (q := 56) dX12_mixGlass_55 rfl rfl ?_
  refine zi_bipush (q := 58) dX12_mixGlass_56 kb_6 rfl ?_
  refine zi_aloadn (q := 59) dX12_mixGlass_58 rfl rfl ?_
  obtain ⟨r7, hr7, h⟩ := Option.bind_eq_some_iff.mp h
  refine zc_V2 (q := 62) (st := [.int 6, .int s.1]) (S1 := [.int r7, .int 6, .int s.1]) (r_X12_cells  _ r7 hr7) dX12_mixGlass_59 cb_X12_cells k5_138 k5_140 ks_X12_cells ⟨by decide, by decide⟩ so_68 rfl rfl rfl (Nat.le_of_ble_eq_true rfl) (Or.inl rfl) rfl rfl ?_
  refine zi_imul (q := 63) dX12_mixGlass_62 rfl ?_
  refine zi_icmpge (q := 89) (q2 := 66) dX12_mixGlass_63 (by decide) rfl (fun hc => ?_) (fun hc => ?_)
  · replace h := (if_pos hc).symm.trans h
    refine Rn.weakm [true, false] ?_
    exact KO s.2 (Option.some.inj h).symm
  · replace h := (if_neg hc).symm.trans h
    refine zi_aloadn (q := 67) dX12_mixGlass_66 rfl rfl ?_
    refine zi_aloadn (q := 68) dX12_mixGlass_67 rfl rfl ?_
    refine zi_iloadn (q := 69) dX12_mixGlass_68 rfl rfl ?_
    refine zi_bipush (q := 71) dX12_mixGlass_69 kb_6 rfl ?_
    refine zi_idiv (q := 72) dX12_mixGlass_71 nz_6 rfl ?_
    refine zi_iloadn (q := 73) dX12_mixGlass_72 rfl rfl ?_
    refine zi_bipush (q := 75) dX12_mixGlass_73 kb_6 rfl ?_
    refine zi_irem2 (q := 76) dX12_mixGlass_75 nz_6 rfl ?_
    obtain ⟨r8, hr8, h⟩ := Option.bind_eq_some_iff.mp h
    refine zc_V2 (q := 79) (st := [.ref 68]) (S1 := [.int r8, .ref 68]) (r_X12_cellNow (s.1 / 6) (zrem s.1 6) _ r8 hr8) dX12_mixGlass_76 cb_X12_cellNow k6_116 k6_118 ks_X12_cellNow ⟨by decide, by decide⟩ so_68 rfl rfl rfl (Nat.le_of_ble_eq_true rfl) (Or.inl rfl) rfl rfl ?_
    refine zi_i2l (q := 80) dX12_mixGlass_79 rfl ?_
    obtain ⟨m9, hm9, h⟩ := Option.bind_eq_some_iff.mp h
    refine zc_V2 (q := 83) (st := []) (S1 := []) (r_X12_mix r8.toInt64 _ m9 hm9) dX12_mixGlass_80 cb_X12_mix k6_181 k6_183 ks_X12_mix ⟨by decide, by decide⟩ so_68 rfl rfl rfl (Nat.le_of_ble_eq_true rfl) (Or.inl rfl) rfl rfl ?_
    refine zi_iinc (q := 86) (v := s.1 + 1) (L' := [some (.ref 68), some (.int (s.1 + 1))]) dX12_mixGlass_83 rfl (by rw [ki_1]) (by decide) rfl rfl rfl ?_
    refine zi_goto (q := 55) dX12_mixGlass_86 (by decide) ?_
    exact KI ((s.1 + 1), m9) (Option.some.inj h).symm
set_option maxRecDepth 20000 in
theorem rb_X12_mixGlass_91 {E : Nat × (Nat → Int32)}   (s : (Int32 × zM)) (rv : Option Value) (m' : zM) (x : ((Int32 × zM) ⊕ (zM))) (h : b_X12_mixGlass_91  s = some x) (KI : ∀ s1 : (Int32 × zM), x = .inl s1 → Rn E zX12_mixGlass 91 [some (.ref 68), some (.int s1.1)] [] zSH s1.2 rv zSH m') (KO : ∀ r1 : (zM), x = .inr r1 → Rn E zX12_mixGlass 125 [some (.ref 68), none] [] zSH r1 rv zSH m') : Rn E zX12_mixGlass 91 [some (.ref 68), some (.int s.1)] [] zSH s.2 rv zSH m' := by
  unfold b_X12_mixGlass_91 at h
  refine zi_iloadn (q := 92) dX12_mixGlass_91 rfl rfl ?_
  refine zi_bipush (q := 94) dX12_mixGlass_92 kb_6 rfl ?_
  refine zi_aloadn (q := 95) dX12_mixGlass_94 rfl rfl ?_
  refine zi_getI (q := 98) dX12_mixGlass_95 fl_12_209 (by decide) so_68 rfl ?_
  refine zi_imul (q := 99) dX12_mixGlass_98 rfl ?_
  refine zi_icmpge (q := 125) (q2 := 102) dX12_mixGlass_99 (by decide) rfl (fun hc => ?_) (fun hc => ?_)
  · replace h := (if_pos hc).symm.trans h
    refine Rn.weakm [true, false] ?_
    exact KO s.2 (Option.some.inj h).symm
  · replace h := (if_neg hc).symm.trans h
    refine zi_aloadn (q := 103) dX12_mixGlass_102 rfl rfl ?_
    refine zi_aloadn (q := 104) dX12_mixGlass_103 rfl rfl ?_
    refine zi_iloadn (q := 105) dX12_mixGlass_104 rfl rfl ?_
    refine zi_bipush (q := 107) dX12_mixGlass_105 kb_6 rfl ?_
    refine zi_idiv (q := 108) dX12_mixGlass_107 nz_6 rfl ?_
    refine zi_iloadn (q := 109) dX12_mixGlass_108 rfl rfl ?_
    refine zi_bipush (q := 111) dX12_mixGlass_109 kb_6 rfl ?_
    refine zi_irem2 (q := 112) dX12_mixGlass_111 nz_6 rfl ?_
    obtain ⟨r11, hr11, h⟩ := Option.bind_eq_some_iff.mp h
    refine zc_V2 (q := 115) (st := [.ref 68]) (S1 := [.int r11, .ref 68]) (r_X12_spotNow (s.1 / 6) (zrem s.1 6) _ r11 hr11) dX12_mixGlass_112 cb_X12_spotNow k6_132 k6_134 ks_X12_spotNow ⟨by decide, by decide⟩ so_68 rfl rfl rfl (Nat.le_of_ble_eq_true rfl) (Or.inl rfl) rfl rfl ?_
    refine zi_i2l (q := 116) dX12_mixGlass_115 rfl ?_
    obtain ⟨m12, hm12, h⟩ := Option.bind_eq_some_iff.mp h
    refine zc_V2 (q := 119) (st := []) (S1 := []) (r_X12_mix r11.toInt64 _ m12 hm12) dX12_mixGlass_116 cb_X12_mix k6_181 k6_183 ks_X12_mix ⟨by decide, by decide⟩ so_68 rfl rfl rfl (Nat.le_of_ble_eq_true rfl) (Or.inl rfl) rfl rfl ?_
    refine zi_iinc (q := 122) (v := s.1 + 1) (L' := [some (.ref 68), some (.int (s.1 + 1))]) dX12_mixGlass_119 rfl (by rw [ki_1]) (by decide) rfl rfl rfl ?_
    refine zi_goto (q := 91) dX12_mixGlass_122 (by decide) ?_
    exact KI ((s.1 + 1), m12) (Option.some.inj h).symm
set_option maxRecDepth 20000 in
theorem rb_X12_mixGlass_127 {E : Nat × (Nat → Int32)}   (s : (Int32 × zM)) (rv : Option Value) (m' : zM) (x : ((Int32 × zM) ⊕ (zM))) (h : b_X12_mixGlass_127  s = some x) (KI : ∀ s1 : (Int32 × zM), x = .inl s1 → Rn E zX12_mixGlass 127 [some (.ref 68), some (.int s1.1)] [] zSH s1.2 rv zSH m') (KO : ∀ r1 : (zM), x = .inr r1 → Rn E zX12_mixGlass 161 [none, none] [] zSH r1 rv zSH m') : Rn E zX12_mixGlass 127 [some (.ref 68), some (.int s.1)] [] zSH s.2 rv zSH m' := by
  unfold b_X12_mixGlass_127 at h
  refine zi_iloadn (q := 128) dX12_mixGlass_127 rfl rfl ?_
  refine zi_bipush (q := 130) dX12_mixGlass_128 kb_9 rfl ?_
  refine zi_aloadn (q := 131) dX12_mixGlass_130 rfl rfl ?_
  refine zi_getI (q := 134) dX12_mixGlass_131 fl_12_212 (by decide) so_68 rfl ?_
  refine zi_imul (q := 135) dX12_mixGlass_134 rfl ?_
  refine zi_icmpge (q := 161) (q2 := 138) dX12_mixGlass_135 (by decide) rfl (fun hc => ?_) (fun hc => ?_)
  · replace h := (if_pos hc).symm.trans h
    refine Rn.weakm [false, false] ?_
    exact KO s.2 (Option.some.inj h).symm
  · replace h := (if_neg hc).symm.trans h
    refine zi_aloadn (q := 139) dX12_mixGlass_138 rfl rfl ?_
    refine zi_aloadn (q := 140) dX12_mixGlass_139 rfl rfl ?_
    refine zi_iloadn (q := 141) dX12_mixGlass_140 rfl rfl ?_
    refine zi_bipush (q := 143) dX12_mixGlass_141 kb_9 rfl ?_
    refine zi_idiv (q := 144) dX12_mixGlass_143 nz_9 rfl ?_
    refine zi_iloadn (q := 145) dX12_mixGlass_144 rfl rfl ?_
    refine zi_bipush (q := 147) dX12_mixGlass_145 kb_9 rfl ?_
    refine zi_irem2 (q := 148) dX12_mixGlass_147 nz_9 rfl ?_
    obtain ⟨r14, hr14, h⟩ := Option.bind_eq_some_iff.mp h
    refine zc_V2 (q := 151) (st := [.ref 68]) (S1 := [.int r14, .ref 68]) (r_X12_trackNow (s.1 / 9) (zrem s.1 9) _ r14 hr14) dX12_mixGlass_148 cb_X12_trackNow k6_144 k6_146 ks_X12_trackNow ⟨by decide, by decide⟩ so_68 rfl rfl rfl (Nat.le_of_ble_eq_true rfl) (Or.inl rfl) rfl rfl ?_
    refine zi_i2l (q := 152) dX12_mixGlass_151 rfl ?_
    obtain ⟨m15, hm15, h⟩ := Option.bind_eq_some_iff.mp h
    refine zc_V2 (q := 155) (st := []) (S1 := []) (r_X12_mix r14.toInt64 _ m15 hm15) dX12_mixGlass_152 cb_X12_mix k6_181 k6_183 ks_X12_mix ⟨by decide, by decide⟩ so_68 rfl rfl rfl (Nat.le_of_ble_eq_true rfl) (Or.inl rfl) rfl rfl ?_
    refine zi_iinc (q := 158) (v := s.1 + 1) (L' := [some (.ref 68), some (.int (s.1 + 1))]) dX12_mixGlass_155 rfl (by rw [ki_1]) (by decide) rfl rfl rfl ?_
    refine zi_goto (q := 127) dX12_mixGlass_158 (by decide) ?_
    exact KI ((s.1 + 1), m15) (Option.some.inj h).symm
set_option maxRecDepth 20000 in
theorem r_X12_mixGlass {E : Nat × (Nat → Int32)}  (m : zM) (x : zM) (h : f_X12_mixGlass  m = some x) : zMet E zX12_mixGlass [.ref 68] zSH m none zSH x := by
  refine zMet.of (L0 := [some (.ref 68), none]) rfl trivial (Nat.le_of_ble_eq_true rfl) rfl ?_
  unfold f_X12_mixGlass at h
  refine zi_iconst (q := 1) dX12_mixGlass_0 ki_0 rfl ?_
  refine zi_istoren (q := 2) (L' := [some (.ref 68), some (.int 0)]) dX12_mixGlass_1 (by decide) rfl rfl rfl ?_
  obtain ⟨r3, hr3, h⟩ := Option.bind_eq_some_iff.mp h
  refine zloop_rn (P := fun w : (Int32 × zM) => Rn E zX12_mixGlass 2 [some (.ref 68), some (.int w.1)] [] zSH w.2 none zSH x) (X := fun w : (zM) => Rn E zX12_mixGlass 24 [some (.ref 68), none] [] zSH w none zSH x) (fun w w0 hb KI KX => rb_X12_mixGlass_2  w _ _ w0 hb KI KX) zFU _ r3 hr3 ?_
  show Rn E zX12_mixGlass 24 [some (.ref 68), none] [] zSH r3 none zSH x
  refine zi_iconst (q := 25) dX12_mixGlass_24 ki_0 rfl ?_
  refine zi_istoren (q := 26) (L' := [some (.ref 68), some (.int 0)]) dX12_mixGlass_25 (by decide) rfl rfl rfl ?_
  obtain ⟨r6, hr6, h⟩ := Option.bind_eq_some_iff.mp h
  refine zloop_rn (P := fun w : (Int32 × zM) => Rn E zX12_mixGlass 26 [some (.ref 68), some (.int w.1)] [] zSH w.2 none zSH x) (X := fun w : (zM) => Rn E zX12_mixGlass 53 [some (.ref 68), none] [] zSH w none zSH x) (fun w w0 hb KI KX => rb_X12_mixGlass_26  w _ _ w0 hb KI KX) zFU _ r6 hr6 ?_
  show Rn E zX12_mixGlass 53 [some (.ref 68), none] [] zSH r6 none zSH x
  refine zi_iconst (q := 54) dX12_mixGlass_53 ki_0 rfl ?_
  refine zi_istoren (q := 55) (L' := [some (.ref 68), some (.int 0)]) dX12_mixGlass_54 (by decide) rfl rfl rfl ?_
  obtain ⟨r10, hr10, h⟩ := Option.bind_eq_some_iff.mp h
  refine zloop_rn (P := fun w : (Int32 × zM) => Rn E zX12_mixGlass 55 [some (.ref 68), some (.int w.1)] [] zSH w.2 none zSH x) (X := fun w : (zM) => Rn E zX12_mixGlass 89 [some (.ref 68), none] [] zSH w none zSH x) (fun w w0 hb KI KX => rb_X12_mixGlass_55  w _ _ w0 hb KI KX) zFU _ r10 hr10 ?_
  show Rn E zX12_mixGlass 89 [some (.ref 68), none] [] zSH r10 none zSH x
  refine zi_iconst (q := 90) dX12_mixGlass_89 ki_0 rfl ?_
  refine zi_istoren (q := 91) (L' := [some (.ref 68), some (.int 0)]) dX12_mixGlass_90 (by decide) rfl rfl rfl ?_
  obtain ⟨r13, hr13, h⟩ := Option.bind_eq_some_iff.mp h
  refine zloop_rn (P := fun w : (Int32 × zM) => Rn E zX12_mixGlass 91 [some (.ref 68), some (.int w.1)] [] zSH w.2 none zSH x) (X := fun w : (zM) => Rn E zX12_mixGlass 125 [some (.ref 68), none] [] zSH w none zSH x) (fun w w0 hb KI KX => rb_X12_mixGlass_91  w _ _ w0 hb KI KX) zFU _ r13 hr13 ?_
  show Rn E zX12_mixGlass 125 [some (.ref 68), none] [] zSH r13 none zSH x
  refine zi_iconst (q := 126) dX12_mixGlass_125 ki_0 rfl ?_
  refine zi_istoren (q := 127) (L' := [some (.ref 68), some (.int 0)]) dX12_mixGlass_126 (by decide) rfl rfl rfl ?_
  obtain ⟨r16, hr16, h⟩ := Option.bind_eq_some_iff.mp h
  refine zloop_rn (P := fun w : (Int32 × zM) => Rn E zX12_mixGlass 127 [some (.ref 68), some (.int w.1)] [] zSH w.2 none zSH x) (X := fun w : (zM) => Rn E zX12_mixGlass 161 [none, none] [] zSH w none zSH x) (fun w w0 hb KI KX => rb_X12_mixGlass_127  w _ _ w0 hb KI KX) zFU _ r16 hr16 ?_
  show Rn E zX12_mixGlass 161 [none, none] [] zSH r16 none zSH x
  cases h
  exact zi_ret _ dX12_mixGlass_161
