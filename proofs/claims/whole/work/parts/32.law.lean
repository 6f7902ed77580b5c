theorem kb_31 : (Int8.ofInt 31).toInt32 = 31 := by decide
def j_L_law_693 (E : Nat × (Nat → Int32)) (x3 : Int32) (m : zM) : Option ((Int32 × zM) ⊕ ((zM) ⊕ (Bool × zM))) :=
  some (.inl ((x3 + 3), m))
def b_L_law_18 (E : Nat × (Nat → Int32))   (s : (Int32 × zM)) : Option ((Int32 × zM) ⊕ ((zM) ⊕ (Bool × zM))) :=
  if ((Int32.ofNat E.1) - 3) < s.1 then (some (.inr (.inl s.2))) else (zg (zin s.1 E.1) (if ((E.2 s.1.toNatClampNeg) &&& 31) = 0 then (zg (zin (s.1 + 1) E.1) ((f_X11_letter (E.2 (s.1 + 1).toNatClampNeg) s.2).bind fun r3 => zg (zin (s.1 + 1) E.1) ((f_X12_letter (E.2 (s.1 + 1).toNatClampNeg) r3.2).bind fun r5 => if r3.1 = r5.1 then (j_L_law_693 E s.1 r5.2) else (some (.inr (.inr (false, r5.2))))))) else (if ((E.2 s.1.toNatClampNeg) &&& 31) = 1 then ((f_X11_blank s.2).bind fun r6 => (f_X12_blank r6.2).bind fun r7 => if r6.1 = r7.1 then (j_L_law_693 E s.1 r7.2) else (some (.inr (.inr (false, r7.2))))) else (if ((E.2 s.1.toNatClampNeg) &&& 31) = 2 then ((f_X11_fault s.2).bind fun r8 => (f_X12_fault r8.2).bind fun r9 => if r8.1 = r9.1 then (j_L_law_693 E s.1 r9.2) else (some (.inr (.inr (false, r9.2))))) else (if ((E.2 s.1.toNatClampNeg) &&& 31) = 3 then ((f_X11_fingers s.2).bind fun r10 => (f_X12_fingers r10.2).bind fun r11 => if r10.1 = r11.1 then (j_L_law_693 E s.1 r11.2) else (some (.inr (.inr (false, r11.2))))) else (if ((E.2 s.1.toNatClampNeg) &&& 31) = 4 then (zg (zin (s.1 + 1) E.1) (zg (zin (s.1 + 2) E.1) ((f_X11_glass (E.2 (s.1 + 1).toNatClampNeg) (E.2 (s.1 + 2).toNatClampNeg) s.2).bind fun r14 => zg (zin (s.1 + 1) E.1) (zg (zin (s.1 + 2) E.1) ((f_X12_glass (E.2 (s.1 + 1).toNatClampNeg) (E.2 (s.1 + 2).toNatClampNeg) r14.2).bind fun r17 => if r14.1 = r17.1 then (j_L_law_693 E s.1 r17.2) else (some (.inr (.inr (false, r17.2))))))))) else (if ((E.2 s.1.toNatClampNeg) &&& 31) = 5 then (zg (zin (s.1 + 1) E.1) (zg (zin (s.1 + 2) E.1) ((f_X11_air (E.2 (s.1 + 1).toNatClampNeg) (E.2 (s.1 + 2).toNatClampNeg) s.2).bind fun r20 => zg (zin (s.1 + 1) E.1) (zg (zin (s.1 + 2) E.1) ((f_X12_air (E.2 (s.1 + 1).toNatClampNeg) (E.2 (s.1 + 2).toNatClampNeg) r20.2).bind fun r23 => if r20.1 = r23.1 then (j_L_law_693 E s.1 r23.2) else (some (.inr (.inr (false, r23.2))))))))) else (if ((E.2 s.1.toNatClampNeg) &&& 31) = 6 then (zg (zin (s.1 + 1) E.1) ((f_X11_warm (E.2 (s.1 + 1).toNatClampNeg) s.2).bind fun r25 => zg (zin (s.1 + 1) E.1) ((f_X12_warm (E.2 (s.1 + 1).toNatClampNeg) r25.2).bind fun r27 => if r25.1 = r27.1 then (j_L_law_693 E s.1 r27.2) else (some (.inr (.inr (false, r27.2))))))) else (if ((E.2 s.1.toNatClampNeg) &&& 31) = 7 then (zg (zin (s.1 + 1) E.1) (zg (zin (s.1 + 2) E.1) ((f_X11_noise (E.2 (s.1 + 1).toNatClampNeg) (E.2 (s.1 + 2).toNatClampNeg) s.2).bind fun r30 => zg (zin (s.1 + 1) E.1) (zg (zin (s.1 + 2) E.1) ((f_X12_noise (E.2 (s.1 + 1).toNatClampNeg) (E.2 (s.1 + 2).toNatClampNeg) r30.2).bind fun r33 => if r30.1 = r33.1 then (j_L_law_693 E s.1 r33.2) else (some (.inr (.inr (false, r33.2))))))))) else (if ((E.2 s.1.toNatClampNeg) &&& 31) = 8 then (zg (zin (s.1 + 1) E.1) ((f_X11_seed (E.2 (s.1 + 1).toNatClampNeg) s.2).bind fun r35 => zg (zin (s.1 + 1) E.1) ((f_X12_seed (E.2 (s.1 + 1).toNatClampNeg) r35.2).bind fun r37 => if r35.1 = r37.1 then (j_L_law_693 E s.1 r37.2) else (some (.inr (.inr (false, r37.2))))))) else (if ((E.2 s.1.toNatClampNeg) &&& 31) = 9 then (zg (zin (s.1 + 1) E.1) (zg (zin (s.1 + 2) E.1) ((f_X11_bound (E.2 (s.1 + 1).toNatClampNeg) (E.2 (s.1 + 2).toNatClampNeg) s.2).bind fun r40 => zg (zin (s.1 + 1) E.1) (zg (zin (s.1 + 2) E.1) ((f_X12_bound (E.2 (s.1 + 1).toNatClampNeg) (E.2 (s.1 + 2).toNatClampNeg) r40.2).bind fun r43 => if r40.1 = r43.1 then (j_L_law_693 E s.1 r43.2) else (some (.inr (.inr (false, r43.2))))))))) else (if ((E.2 s.1.toNatClampNeg) &&& 31) = 10 then ((f_X11_settle s.2).bind fun r44 => (f_X12_settle r44.2).bind fun r45 => if r44.1 = r45.1 then (j_L_law_693 E s.1 r45.2) else (some (.inr (.inr (false, r45.2))))) else (if ((E.2 s.1.toNatClampNeg) &&& 31) = 11 then (zg (zin (s.1 + 1) E.1) ((f_X11_frames (E.2 (s.1 + 1).toNatClampNeg) s.2).bind fun r47 => zg (zin (s.1 + 1) E.1) ((f_X12_frames (E.2 (s.1 + 1).toNatClampNeg) r47.2).bind fun r49 => if r47.1 = r49.1 then (j_L_law_693 E s.1 r49.2) else (some (.inr (.inr (false, r49.2))))))) else (if ((E.2 s.1.toNatClampNeg) &&& 31) = 12 then (zg (zin (s.1 + 1) E.1) (zg (zin (s.1 + 2) E.1) ((f_X11_finger (E.2 (s.1 + 1).toNatClampNeg) (E.2 (s.1 + 2).toNatClampNeg) s.2).bind fun r52 => zg (zin (s.1 + 1) E.1) (zg (zin (s.1 + 2) E.1) ((f_X12_finger (E.2 (s.1 + 1).toNatClampNeg) (E.2 (s.1 + 2).toNatClampNeg) s.2).bind fun r55 => if r52 = r55 then (j_L_law_693 E s.1 s.2) else (some (.inr (.inr (false, s.2))))))))) else (if ((E.2 s.1.toNatClampNeg) &&& 31) = 13 then (zg (zin (s.1 + 1) E.1) (zg (zin (s.1 + 2) E.1) ((f_X11_cell (E.2 (s.1 + 1).toNatClampNeg) (E.2 (s.1 + 2).toNatClampNeg) s.2).bind fun r58 => zg (zin (s.1 + 1) E.1) (zg (zin (s.1 + 2) E.1) ((f_X12_cell (E.2 (s.1 + 1).toNatClampNeg) (E.2 (s.1 + 2).toNatClampNeg) s.2).bind fun r61 => if r58 = r61 then (j_L_law_693 E s.1 s.2) else (some (.inr (.inr (false, s.2))))))))) else (if ((E.2 s.1.toNatClampNeg) &&& 31) = 14 then (zg (zin (s.1 + 1) E.1) ((f_X11_about (E.2 (s.1 + 1).toNatClampNeg) s.2).bind fun r63 => zg (zin (s.1 + 1) E.1) ((f_X12_about (E.2 (s.1 + 1).toNatClampNeg) s.2).bind fun r65 => if r63 = r65 then (j_L_law_693 E s.1 s.2) else (some (.inr (.inr (false, s.2))))))) else (if ((E.2 s.1.toNatClampNeg) &&& 31) = 15 then (zg (zin (s.1 + 1) E.1) (zg (zin (s.1 + 2) E.1) ((f_X11_spot (E.2 (s.1 + 1).toNatClampNeg) (E.2 (s.1 + 2).toNatClampNeg) s.2).bind fun r68 => zg (zin (s.1 + 1) E.1) (zg (zin (s.1 + 2) E.1) ((f_X12_spot (E.2 (s.1 + 1).toNatClampNeg) (E.2 (s.1 + 2).toNatClampNeg) s.2).bind fun r71 => if r68 = r71 then (j_L_law_693 E s.1 s.2) else (some (.inr (.inr (false, s.2))))))))) else (if ((E.2 s.1.toNatClampNeg) &&& 31) = 16 then (zg (zin (s.1 + 1) E.1) (zg (zin (s.1 + 2) E.1) ((f_X11_track (E.2 (s.1 + 1).toNatClampNeg) (E.2 (s.1 + 2).toNatClampNeg) s.2).bind fun r74 => zg (zin (s.1 + 1) E.1) (zg (zin (s.1 + 2) E.1) ((f_X12_track (E.2 (s.1 + 1).toNatClampNeg) (E.2 (s.1 + 2).toNatClampNeg) s.2).bind fun r77 => if r74 = r77 then (j_L_law_693 E s.1 s.2) else (some (.inr (.inr (false, s.2))))))))) else (if ((E.2 s.1.toNatClampNeg) &&& 31) = 17 then (zg (zin (s.1 + 1) E.1) (zg (zin (s.1 + 2) E.1) ((f_X11_as (E.2 (s.1 + 1).toNatClampNeg) (E.2 (s.1 + 2).toNatClampNeg) s.2).bind fun r80 => zg (zin (s.1 + 1) E.1) (zg (zin (s.1 + 2) E.1) ((f_X12_as (E.2 (s.1 + 1).toNatClampNeg) (E.2 (s.1 + 2).toNatClampNeg) s.2).bind fun r83 => if r80 = r83 then (j_L_law_693 E s.1 s.2) else (some (.inr (.inr (false, s.2))))))))) else (if ((E.2 s.1.toNatClampNeg) &&& 31) = 18 then (zg (zin (s.1 + 1) E.1) (zg (zin (s.1 + 2) E.1) ((f_X11_event (E.2 (s.1 + 1).toNatClampNeg) (E.2 (s.1 + 2).toNatClampNeg) s.2).bind fun r86 => zg (zin (s.1 + 1) E.1) (zg (zin (s.1 + 2) E.1) ((f_X12_event (E.2 (s.1 + 1).toNatClampNeg) (E.2 (s.1 + 2).toNatClampNeg) s.2).bind fun r89 => if r86 = r89 then (j_L_law_693 E s.1 s.2) else (some (.inr (.inr (false, s.2))))))))) else (if ((E.2 s.1.toNatClampNeg) &&& 31) = 19 then (zg (zin (s.1 + 1) E.1) ((f_X11_count (E.2 (s.1 + 1).toNatClampNeg) s.2).bind fun r91 => zg (zin (s.1 + 1) E.1) ((f_X12_count (E.2 (s.1 + 1).toNatClampNeg) s.2).bind fun r93 => if r91 = r93 then (j_L_law_693 E s.1 s.2) else (some (.inr (.inr (false, s.2))))))) else (if ((E.2 s.1.toNatClampNeg) &&& 31) = 20 then (zg (zin (s.1 + 1) E.1) ((f_X11_events (E.2 (s.1 + 1).toNatClampNeg) s.2).bind fun r95 => zg (zin (s.1 + 1) E.1) ((f_X12_events (E.2 (s.1 + 1).toNatClampNeg) s.2).bind fun r97 => if r95 = r97 then (j_L_law_693 E s.1 s.2) else (some (.inr (.inr (false, s.2))))))) else (if ((E.2 s.1.toNatClampNeg) &&& 31) = 21 then ((f_X11_digest s.2).bind fun r98 => (f_X12_digest s.2).bind fun r99 => if (lg_cmp r98 r99.1) = 0 then (j_L_law_693 E s.1 r99.2) else (some (.inr (.inr (false, r99.2))))) else (j_L_law_693 E s.1 s.2))))))))))))))))))))))))
def f_L_law (E : Nat × (Nat → Int32)) (x3 : Int32) (m : zM) : Option (Bool × zM) :=
  (zloop (b_L_law_18 E ) zFU (x3, m)).bind fun r100 => Sum.elim (fun r100 => some (true, r100)) (fun v101 => some v101) r100
set_option maxRecDepth 20000 in
theorem rj_L_law_693 {E : Nat × (Nat → Int32)} (x3 : Int32) (m : zM) (rv : Option Value) (m' : zM) (x : ((Int32 × zM) ⊕ ((zM) ⊕ (Bool × zM)))) (h : j_L_law_693 E x3 m = some x) (KI : ∀ s1 : (Int32 × zM), x = .inl s1 → Rn E zL_law 18 [some (.ref 1000), some (.ref 0), some (.ref 68), some (.int s1.1)] [] zSH s1.2 rv zSH m') : Rn E zL_law 693 [some (.ref 1000), some (.ref 0), some (.ref 68), some (.int x3)] [] zSH m rv zSH m' := by
  unfold j_L_law_693 at h
  refine zi_iinc (q := 696) (v := x3 + 3) (L' := [some (.ref 1000), some (.ref 0), some (.ref 68), some (.int (x3 + 3))]) dL_law_693 rfl (by rw [ki_3]) (by decide) rfl rfl rfl ?_
  refine zi_goto (q := 18) dL_law_696 (by decide) ?_
  exact KI ((x3 + 3), m) (Option.some.inj h).symm
set_option maxRecDepth 20000 in
theorem rb_L_law_18 {E : Nat × (Nat → Int32)}   (s : (Int32 × zM)) (rv : Option Value) (m' : zM) (x : ((Int32 × zM) ⊕ ((zM) ⊕ (Bool × zM)))) (h : b_L_law_18 E  s = some x) (KI : ∀ s1 : (Int32 × zM), x = .inl s1 → Rn E zL_law 18 [some (.ref 1000), some (.ref 0), some (.ref 68), some (.int s1.1)] [] zSH s1.2 rv zSH m') (KO : ∀ r1 : (zM), x = .inr (.inl r1) → Rn E zL_law 699 [none, none, none, none] [] zSH r1 rv zSH m') (KR : ∀ v : (Bool × zM), x = .inr (.inr v) → rv = some (.int (bi v.1)) ∧ m' = v.2) : Rn E zL_law 18 [some (.ref 1000), some (.ref 0), some (.ref 68), some (.int s.1)] [] zSH s.2 rv zSH m' := by
  unfold b_L_law_18 at h
  refine zi_iloadn (q := 19) dL_law_18 rfl rfl ?_
  refine zi_aloadn (q := 20) dL_law_19 rfl rfl ?_
  refine zi_xlen (q := 21) dL_law_20 rfl ?_
  refine zi_iconst (q := 22) dL_law_21 ki_3 rfl ?_
  refine zi_isub (q := 23) dL_law_22 rfl ?_
  refine zi_icmpgt (q := 699) (q2 := 26) dL_law_23 (by decide) rfl (fun hc => ?_) (fun hc => ?_)
  · replace h := (if_pos hc).symm.trans h
    refine Rn.weakm [false, false, false, false] ?_
    exact KO s.2 (Option.some.inj h).symm
  · replace h := (if_neg hc).symm.trans h
    refine zi_aloadn (q := 27) dL_law_26 rfl rfl ?_
    refine zi_iloadn (q := 28) dL_law_27 rfl rfl ?_
    obtain ⟨hz1, h⟩ := zg_some h
    refine zi_xald (q := 29) dL_law_28 (zin_vp hz1) rfl ?_
    refine zi_bipush (q := 31) dL_law_29 kb_31 rfl ?_
    refine zi_iand (q := 32) dL_law_31 rfl ?_
    by_cases he0 : ((E.2 s.1.toNatClampNeg) &&& 31) = 0
    · replace h := (if_pos he0).symm.trans h
      refine zi_tsIn (q := 136) (j := 0) dL_law_32 (zts_in ti_0 he0) (by decide) rfl (by decide) ?_
      refine zi_aloadn (q := 137) dL_law_136 rfl rfl ?_
      refine zi_aloadn (q := 138) dL_law_137 rfl rfl ?_
      refine zi_iloadn (q := 139) dL_law_138 rfl rfl ?_
      refine zi_iconst (q := 140) dL_law_139 ki_1 rfl ?_
      refine zi_iadd (q := 141) dL_law_140 rfl ?_
      obtain ⟨hz2, h⟩ := zg_some h
      refine zi_xald (q := 142) dL_law_141 (zin_vp hz2) rfl ?_
      obtain ⟨r3, hr3, h⟩ := Option.bind_eq_some_iff.mp h
      refine zc_V2 (q := 145) (st := []) (S1 := [.int r3.1]) (r_X11_letter (E.2 (s.1 + 1).toNatClampNeg) _ r3 hr3) dL_law_142 cb_X11_letter k2_170 k2_171 k2_172 ⟨by decide, by decide⟩ so_0 rfl rfl rfl (Nat.le_of_ble_eq_true rfl) (Or.inl rfl) rfl rfl ?_
      refine zi_aloadn (q := 146) dL_law_145 rfl rfl ?_
      refine zi_aloadn (q := 147) dL_law_146 rfl rfl ?_
      refine zi_iloadn (q := 148) dL_law_147 rfl rfl ?_
      refine zi_iconst (q := 149) dL_law_148 ki_1 rfl ?_
      refine zi_iadd (q := 150) dL_law_149 rfl ?_
      obtain ⟨hz4, h⟩ := zg_some h
      refine zi_xald (q := 151) dL_law_150 (zin_vp hz4) rfl ?_
      obtain ⟨r5, hr5, h⟩ := Option.bind_eq_some_iff.mp h
      refine zc_V2 (q := 154) (st := [.int r3.1]) (S1 := [.int r5.1, .int r3.1]) (r_X12_letter (E.2 (s.1 + 1).toNatClampNeg) _ r5 hr5) dL_law_151 cb_X12_letter k5_67 k5_68 k5_69 ⟨by decide, by decide⟩ so_68 rfl rfl rfl (Nat.le_of_ble_eq_true rfl) (Or.inl rfl) rfl rfl ?_
      refine zi_icmpeq (q := 693) (q2 := 157) dL_law_154 (by decide) rfl (fun hc => ?_) (fun hc => ?_)
      · replace h := (if_pos hc).symm.trans h
        exact rj_L_law_693 s.1 _ _ _ _ h KI
      · replace h := (if_neg hc).symm.trans h
        refine zi_iconst (q := 158) dL_law_157 ki_0 rfl ?_
        obtain ⟨e1, e2⟩ := KR _ (Option.some.inj h).symm
        rw [e1, e2]
        exact zi_ret _ dL_law_158
    · replace h := (if_neg he0).symm.trans h
      by_cases he1 : ((E.2 s.1.toNatClampNeg) &&& 31) = 1
      · replace h := (if_pos he1).symm.trans h
        refine zi_tsIn (q := 159) (j := 1) dL_law_32 (zts_in ti_1 he1) (by decide) rfl (by decide) ?_
        refine zi_aloadn (q := 160) dL_law_159 rfl rfl ?_
        obtain ⟨r6, hr6, h⟩ := Option.bind_eq_some_iff.mp h
        refine zc_V2 (q := 163) (st := []) (S1 := [.int r6.1]) (r_X11_blank  _ r6 hr6) dL_law_160 cb_X11_blank k2_181 k2_182 k2_183 ⟨by decide, by decide⟩ so_0 rfl rfl rfl (Nat.le_of_ble_eq_true rfl) (Or.inl rfl) rfl rfl ?_
        refine zi_aloadn (q := 164) dL_law_163 rfl rfl ?_
        obtain ⟨r7, hr7, h⟩ := Option.bind_eq_some_iff.mp h
        refine zc_V2 (q := 167) (st := [.int r6.1]) (S1 := [.int r7.1, .int r6.1]) (r_X12_blank  _ r7 hr7) dL_law_164 cb_X12_blank k5_74 k5_75 k5_76 ⟨by decide, by decide⟩ so_68 rfl rfl rfl (Nat.le_of_ble_eq_true rfl) (Or.inl rfl) rfl rfl ?_
        refine zi_icmpeq (q := 693) (q2 := 170) dL_law_167 (by decide) rfl (fun hc => ?_) (fun hc => ?_)
        · replace h := (if_pos hc).symm.trans h
          exact rj_L_law_693 s.1 _ _ _ _ h KI
        · replace h := (if_neg hc).symm.trans h
          refine zi_iconst (q := 171) dL_law_170 ki_0 rfl ?_
          obtain ⟨e1, e2⟩ := KR _ (Option.some.inj h).symm
          rw [e1, e2]
          exact zi_ret _ dL_law_171
      · replace h := (if_neg he1).symm.trans h
        by_cases he2 : ((E.2 s.1.toNatClampNeg) &&& 31) = 2
        · replace h := (if_pos he2).symm.trans h
          refine zi_tsIn (q := 172) (j := 2) dL_law_32 (zts_in ti_2 he2) (by decide) rfl (by decide) ?_
          refine zi_aloadn (q := 173) dL_law_172 rfl rfl ?_
          obtain ⟨r8, hr8, h⟩ := Option.bind_eq_some_iff.mp h
          refine zc_V2 (q := 176) (st := []) (S1 := [.int r8.1]) (r_X11_fault  _ r8 hr8) dL_law_173 cb_X11_fault k2_185 k2_186 k2_187 ⟨by decide, by decide⟩ so_0 rfl rfl rfl (Nat.le_of_ble_eq_true rfl) (Or.inl rfl) rfl rfl ?_
          refine zi_aloadn (q := 177) dL_law_176 rfl rfl ?_
          obtain ⟨r9, hr9, h⟩ := Option.bind_eq_some_iff.mp h
          refine zc_V2 (q := 180) (st := [.int r8.1]) (S1 := [.int r9.1, .int r8.1]) (r_X12_fault  _ r9 hr9) dL_law_177 cb_X12_fault k5_78 k5_79 k5_80 ⟨by decide, by decide⟩ so_68 rfl rfl rfl (Nat.le_of_ble_eq_true rfl) (Or.inl rfl) rfl rfl ?_
          refine zi_icmpeq (q := 693) (q2 := 183) dL_law_180 (by decide) rfl (fun hc => ?_) (fun hc => ?_)
          · replace h := (if_pos hc).symm.trans h
            exact rj_L_law_693 s.1 _ _ _ _ h KI
          · replace h := (if_neg hc).symm.trans h
            refine zi_iconst (q := 184) dL_law_183 ki_0 rfl ?_
            obtain ⟨e1, e2⟩ := KR _ (Option.some.inj h).symm
            rw [e1, e2]
            exact zi_ret _ dL_law_184
        · replace h := (if_neg he2).symm.trans h
          by_cases he3 : ((E.2 s.1.toNatClampNeg) &&& 31) = 3
          · replace h := (if_pos he3).symm.trans h
            refine zi_tsIn (q := 185) (j := 3) dL_law_32 (zts_in ti_3 he3) (by decide) rfl (by decide) ?_
            refine zi_aloadn (q := 186) dL_law_185 rfl rfl ?_
            obtain ⟨r10, hr10, h⟩ := Option.bind_eq_some_iff.mp h
            refine zc_V2 (q := 189) (st := []) (S1 := [.int r10.1]) (r_X11_fingers  _ r10 hr10) dL_law_186 cb_X11_fingers k2_226 k2_227 k2_228 ⟨by decide, by decide⟩ so_0 rfl rfl rfl (Nat.le_of_ble_eq_true rfl) (Or.inl rfl) rfl rfl ?_
            refine zi_aloadn (q := 190) dL_law_189 rfl rfl ?_
            obtain ⟨r11, hr11, h⟩ := Option.bind_eq_some_iff.mp h
            refine zc_V2 (q := 193) (st := [.int r10.1]) (S1 := [.int r11.1, .int r10.1]) (r_X12_fingers  _ r11 hr11) dL_law_190 cb_X12_fingers k5_122 k5_123 k5_124 ⟨by decide, by decide⟩ so_68 rfl rfl rfl (Nat.le_of_ble_eq_true rfl) (Or.inl rfl) rfl rfl ?_
            refine zi_icmpeq (q := 693) (q2 := 196) dL_law_193 (by decide) rfl (fun hc => ?_) (fun hc => ?_)
            · replace h := (if_pos hc).symm.trans h
              exact rj_L_law_693 s.1 _ _ _ _ h KI
            · replace h := (if_neg hc).symm.trans h
              refine zi_iconst (q := 197) dL_law_196 ki_0 rfl ?_
              obtain ⟨e1, e2⟩ := KR _ (Option.some.inj h).symm
              rw [e1, e2]
              exact zi_ret _ dL_law_197
          · replace h := (if_neg he3).symm.trans h
            by_cases he4 : ((E.2 s.1.toNatClampNeg) &&& 31) = 4
            · replace h := (if_pos he4).symm.trans h
              refine zi_tsIn (q := 198) (j := 4) dL_law_32 (zts_in ti_4 he4) (by decide) rfl (by decide) ?_
              refine zi_aloadn (q := 199) dL_law_198 rfl rfl ?_
              refine zi_aloadn (q := 200) dL_law_199 rfl rfl ?_
              refine zi_iloadn (q := 201) dL_law_200 rfl rfl ?_
              refine zi_iconst (q := 202) dL_law_201 ki_1 rfl ?_
              refine zi_iadd (q := 203) dL_law_202 rfl ?_
              obtain ⟨hz12, h⟩ := zg_some h
              refine zi_xald (q := 204) dL_law_203 (zin_vp hz12) rfl ?_
              refine zi_aloadn (q := 205) dL_law_204 rfl rfl ?_
              refine zi_iloadn (q := 206) dL_law_205 rfl rfl ?_
              refine zi_iconst (q := 207) dL_law_206 ki_2 rfl ?_
              refine zi_iadd (q := 208) dL_law_207 rfl ?_
              obtain ⟨hz13, h⟩ := zg_some h
              refine zi_xald (q := 209) dL_law_208 (zin_vp hz13) rfl ?_
              obtain ⟨r14, hr14, h⟩ := Option.bind_eq_some_iff.mp h
              refine zc_V2 (q := 212) (st := []) (S1 := [.int r14.1]) (r_X11_glass (E.2 (s.1 + 1).toNatClampNeg) (E.2 (s.1 + 2).toNatClampNeg) _ r14 hr14) dL_law_209 cb_X11_glass k3_6 k3_7 k3_8 ⟨by decide, by decide⟩ so_0 rfl rfl rfl (Nat.le_of_ble_eq_true rfl) (Or.inl rfl) rfl rfl ?_
              refine zi_aloadn (q := 213) dL_law_212 rfl rfl ?_
              refine zi_aloadn (q := 214) dL_law_213 rfl rfl ?_
              refine zi_iloadn (q := 215) dL_law_214 rfl rfl ?_
              refine zi_iconst (q := 216) dL_law_215 ki_1 rfl ?_
              refine zi_iadd (q := 217) dL_law_216 rfl ?_
              obtain ⟨hz15, h⟩ := zg_some h
              refine zi_xald (q := 218) dL_law_217 (zin_vp hz15) rfl ?_
              refine zi_aloadn (q := 219) dL_law_218 rfl rfl ?_
              refine zi_iloadn (q := 220) dL_law_219 rfl rfl ?_
              refine zi_iconst (q := 221) dL_law_220 ki_2 rfl ?_
              refine zi_iadd (q := 222) dL_law_221 rfl ?_
              obtain ⟨hz16, h⟩ := zg_some h
              refine zi_xald (q := 223) dL_law_222 (zin_vp hz16) rfl ?_
              obtain ⟨r17, hr17, h⟩ := Option.bind_eq_some_iff.mp h
              refine zc_V2 (q := 226) (st := [.int r14.1]) (S1 := [.int r17.1, .int r14.1]) (r_X12_glass (E.2 (s.1 + 1).toNatClampNeg) (E.2 (s.1 + 2).toNatClampNeg) _ r17 hr17) dL_law_223 cb_X12_glass k5_130 k5_131 k5_132 ⟨by decide, by decide⟩ so_68 rfl rfl rfl (Nat.le_of_ble_eq_true rfl) (Or.inl rfl) rfl rfl ?_
              refine zi_icmpeq (q := 693) (q2 := 229) dL_law_226 (by decide) rfl (fun hc => ?_) (fun hc => ?_)
              · replace h := (if_pos hc).symm.trans h
                exact rj_L_law_693 s.1 _ _ _ _ h KI
              · replace h := (if_neg hc).symm.trans h
                refine zi_iconst (q := 230) dL_law_229 ki_0 rfl ?_
                obtain ⟨e1, e2⟩ := KR _ (Option.some.inj h).symm
                rw [e1, e2]
                exact zi_ret _ dL_law_230
            · replace h := (if_neg he4).symm.trans h
              by_cases he5 : ((E.2 s.1.toNatClampNeg) &&& 31) = 5
              · replace h := (if_pos he5).symm.trans h
                refine zi_tsIn (q := 231) (j := 5) dL_law_32 (zts_in ti_5 he5) (by decide) rfl (by decide) ?_
                refine zi_aloadn (q := 232) dL_law_231 rfl rfl ?_
                refine zi_aloadn (q := 233) dL_law_232 rfl rfl ?_
                refine zi_iloadn (q := 234) dL_law_233 rfl rfl ?_
                refine zi_iconst (q := 235) dL_law_234 ki_1 rfl ?_
                refine zi_iadd (q := 236) dL_law_235 rfl ?_
                obtain ⟨hz18, h⟩ := zg_some h
                refine zi_xald (q := 237) dL_law_236 (zin_vp hz18) rfl ?_
                refine zi_aloadn (q := 238) dL_law_237 rfl rfl ?_
                refine zi_iloadn (q := 239) dL_law_238 rfl rfl ?_
                refine zi_iconst (q := 240) dL_law_239 ki_2 rfl ?_
                refine zi_iadd (q := 241) dL_law_240 rfl ?_
                obtain ⟨hz19, h⟩ := zg_some h
                refine zi_xald (q := 242) dL_law_241 (zin_vp hz19) rfl ?_
                obtain ⟨r20, hr20, h⟩ := Option.bind_eq_some_iff.mp h
                refine zc_V2 (q := 245) (st := []) (S1 := [.int r20.1]) (r_X11_air (E.2 (s.1 + 1).toNatClampNeg) (E.2 (s.1 + 2).toNatClampNeg) _ r20 hr20) dL_law_242 cb_X11_air k3_52 k3_53 k3_54 ⟨by decide, by decide⟩ so_0 rfl rfl rfl (Nat.le_of_ble_eq_true rfl) (Or.inl rfl) rfl rfl ?_
                refine zi_aloadn (q := 246) dL_law_245 rfl rfl ?_
                refine zi_aloadn (q := 247) dL_law_246 rfl rfl ?_
                refine zi_iloadn (q := 248) dL_law_247 rfl rfl ?_
                refine zi_iconst (q := 249) dL_law_248 ki_1 rfl ?_
                refine zi_iadd (q := 250) dL_law_249 rfl ?_
                obtain ⟨hz21, h⟩ := zg_some h
                refine zi_xald (q := 251) dL_law_250 (zin_vp hz21) rfl ?_
                refine zi_aloadn (q := 252) dL_law_251 rfl rfl ?_
                refine zi_iloadn (q := 253) dL_law_252 rfl rfl ?_
                refine zi_iconst (q := 254) dL_law_253 ki_2 rfl ?_
                refine zi_iadd (q := 255) dL_law_254 rfl ?_
                obtain ⟨hz22, h⟩ := zg_some h
                refine zi_xald (q := 256) dL_law_255 (zin_vp hz22) rfl ?_
                obtain ⟨r23, hr23, h⟩ := Option.bind_eq_some_iff.mp h
                refine zc_V2 (q := 259) (st := [.int r20.1]) (S1 := [.int r23.1, .int r20.1]) (r_X12_air (E.2 (s.1 + 1).toNatClampNeg) (E.2 (s.1 + 2).toNatClampNeg) _ r23 hr23) dL_law_256 cb_X12_air k5_142 k5_143 k5_144 ⟨by decide, by decide⟩ so_68 rfl rfl rfl (Nat.le_of_ble_eq_true rfl) (Or.inl rfl) rfl rfl ?_
                refine zi_icmpeq (q := 693) (q2 := 262) dL_law_259 (by decide) rfl (fun hc => ?_) (fun hc => ?_)
                · replace h := (if_pos hc).symm.trans h
                  exact rj_L_law_693 s.1 _ _ _ _ h KI
                · replace h := (if_neg hc).symm.trans h
                  refine zi_iconst (q := 263) dL_law_262 ki_0 rfl ?_
                  obtain ⟨e1, e2⟩ := KR _ (Option.some.inj h).symm
                  rw [e1, e2]
                  exact zi_ret _ dL_law_263
              · replace h := (if_neg he5).symm.trans h
                by_cases he6 : ((E.2 s.1.toNatClampNeg) &&& 31) = 6
                · replace h := (if_pos he6).symm.trans h
                  refine zi_tsIn (q := 264) (j := 6) dL_law_32 (zts_in ti_6 he6) (by decide) rfl (by decide) ?_
                  refine zi_aloadn (q := 265) dL_law_264 rfl rfl ?_
                  refine zi_aloadn (q := 266) dL_law_265 rfl rfl ?_
                  refine zi_iloadn (q := 267) dL_law_266 rfl rfl ?_
                  refine zi_iconst (q := 268) dL_law_267 ki_1 rfl ?_
                  refine zi_iadd (q := 269) dL_law_268 rfl ?_
                  obtain ⟨hz24, h⟩ := zg_some h
                  refine zi_xald (q := 270) dL_law_269 (zin_vp hz24) rfl ?_
                  obtain ⟨r25, hr25, h⟩ := Option.bind_eq_some_iff.mp h
                  refine zc_V2 (q := 273) (st := []) (S1 := [.int r25.1]) (r_X11_warm (E.2 (s.1 + 1).toNatClampNeg) _ r25 hr25) dL_law_270 cb_X11_warm k3_61 k3_62 k3_63 ⟨by decide, by decide⟩ so_0 rfl rfl rfl (Nat.le_of_ble_eq_true rfl) (Or.inl rfl) rfl rfl ?_
                  refine zi_aloadn (q := 274) dL_law_273 rfl rfl ?_
                  refine zi_aloadn (q := 275) dL_law_274 rfl rfl ?_
                  refine zi_iloadn (q := 276) dL_law_275 rfl rfl ?_
                  refine zi_iconst (q := 277) dL_law_276 ki_1 rfl ?_
                  refine zi_iadd (q := 278) dL_law_277 rfl ?_
                  obtain ⟨hz26, h⟩ := zg_some h
                  refine zi_xald (q := 279) dL_law_278 (zin_vp hz26) rfl ?_
                  obtain ⟨r27, hr27, h⟩ := Option.bind_eq_some_iff.mp h
                  refine zc_V2 (q := 282) (st := [.int r25.1]) (S1 := [.int r27.1, .int r25.1]) (r_X12_warm (E.2 (s.1 + 1).toNatClampNeg) _ r27 hr27) dL_law_279 cb_X12_warm k5_150 k5_151 k5_152 ⟨by decide, by decide⟩ so_68 rfl rfl rfl (Nat.le_of_ble_eq_true rfl) (Or.inl rfl) rfl rfl ?_
                  refine zi_icmpeq (q := 693) (q2 := 285) dL_law_282 (by decide) rfl (fun hc => ?_) (fun hc => ?_)
                  · replace h := (if_pos hc).symm.trans h
                    exact rj_L_law_693 s.1 _ _ _ _ h KI
                  · replace h := (if_neg hc).symm.trans h
                    refine zi_iconst (q := 286) dL_law_285 ki_0 rfl ?_
                    obtain ⟨e1, e2⟩ := KR _ (Option.some.inj h).symm
                    rw [e1, e2]
                    exact zi_ret _ dL_law_286
                · replace h := (if_neg he6).symm.trans h
                  by_cases he7 : ((E.2 s.1.toNatClampNeg) &&& 31) = 7
                  · replace h := (if_pos he7).symm.trans h
                    refine zi_tsIn (q := 287) (j := 7) dL_law_32 (zts_in ti_7 he7) (by decide) rfl (by decide) ?_
                    refine zi_aloadn (q := 288) dL_law_287 rfl rfl ?_
                    refine zi_aloadn (q := 289) dL_law_288 rfl rfl ?_
                    refine zi_iloadn (q := 290) dL_law_289 rfl rfl ?_
                    refine zi_iconst (q := 291) dL_law_290 ki_1 rfl ?_
                    refine zi_iadd (q := 292) dL_law_291 rfl ?_
                    obtain ⟨hz28, h⟩ := zg_some h
                    refine zi_xald (q := 293) dL_law_292 (zin_vp hz28) rfl ?_
                    refine zi_aloadn (q := 294) dL_law_293 rfl rfl ?_
                    refine zi_iloadn (q := 295) dL_law_294 rfl rfl ?_
                    refine zi_iconst (q := 296) dL_law_295 ki_2 rfl ?_
                    refine zi_iadd (q := 297) dL_law_296 rfl ?_
                    obtain ⟨hz29, h⟩ := zg_some h
                    refine zi_xald (q := 298) dL_law_297 (zin_vp hz29) rfl ?_
                    obtain ⟨r30, hr30, h⟩ := Option.bind_eq_some_iff.mp h
                    refine zc_V2 (q := 301) (st := []) (S1 := [.int r30.1]) (r_X11_noise (E.2 (s.1 + 1).toNatClampNeg) (E.2 (s.1 + 2).toNatClampNeg) _ r30 hr30) dL_law_298 cb_X11_noise k3_71 k3_72 k3_73 ⟨by decide, by decide⟩ so_0 rfl rfl rfl (Nat.le_of_ble_eq_true rfl) (Or.inl rfl) rfl rfl ?_
                    refine zi_aloadn (q := 302) dL_law_301 rfl rfl ?_
                    refine zi_aloadn (q := 303) dL_law_302 rfl rfl ?_
                    refine zi_iloadn (q := 304) dL_law_303 rfl rfl ?_
                    refine zi_iconst (q := 305) dL_law_304 ki_1 rfl ?_
                    refine zi_iadd (q := 306) dL_law_305 rfl ?_
                    obtain ⟨hz31, h⟩ := zg_some h
                    refine zi_xald (q := 307) dL_law_306 (zin_vp hz31) rfl ?_
                    refine zi_aloadn (q := 308) dL_law_307 rfl rfl ?_
                    refine zi_iloadn (q := 309) dL_law_308 rfl rfl ?_
                    refine zi_iconst (q := 310) dL_law_309 ki_2 rfl ?_
                    refine zi_iadd (q := 311) dL_law_310 rfl ?_
                    obtain ⟨hz32, h⟩ := zg_some h
                    refine zi_xald (q := 312) dL_law_311 (zin_vp hz32) rfl ?_
                    obtain ⟨r33, hr33, h⟩ := Option.bind_eq_some_iff.mp h
                    refine zc_V2 (q := 315) (st := [.int r30.1]) (S1 := [.int r33.1, .int r30.1]) (r_X12_noise (E.2 (s.1 + 1).toNatClampNeg) (E.2 (s.1 + 2).toNatClampNeg) _ r33 hr33) dL_law_312 cb_X12_noise k5_157 k5_158 k5_159 ⟨by decide, by decide⟩ so_68 rfl rfl rfl (Nat.le_of_ble_eq_true rfl) (Or.inl rfl) rfl rfl ?_
                    refine zi_icmpeq (q := 693) (q2 := 318) dL_law_315 (by decide) rfl (fun hc => ?_) (fun hc => ?_)
                    · replace h := (if_pos hc).symm.trans h
                      exact rj_L_law_693 s.1 _ _ _ _ h KI
                    · replace h := (if_neg hc).symm.trans h
                      refine zi_iconst (q := 319) dL_law_318 ki_0 rfl ?_
                      obtain ⟨e1, e2⟩ := KR _ (Option.some.inj h).symm
                      rw [e1, e2]
                      exact zi_ret _ dL_law_319
                  · replace h := (if_neg he7).symm.trans h
                    by_cases he8 : ((E.2 s.1.toNatClampNeg) &&& 31) = 8
                    · replace h := (if_pos he8).symm.trans h
                      refine zi_tsIn (q := 320) (j := 8) dL_law_32 (zts_in ti_8 he8) (by decide) rfl (by decide) ?_
                      refine zi_aloadn (q := 321) dL_law_320 rfl rfl ?_
                      refine zi_aloadn (q := 322) dL_law_321 rfl rfl ?_
                      refine zi_iloadn (q := 323) dL_law_322 rfl rfl ?_
                      refine zi_iconst (q := 324) dL_law_323 ki_1 rfl ?_
                      refine zi_iadd (q := 325) dL_law_324 rfl ?_
                      obtain ⟨hz34, h⟩ := zg_some h
                      refine zi_xald (q := 326) dL_law_325 (zin_vp hz34) rfl ?_
                      obtain ⟨r35, hr35, h⟩ := Option.bind_eq_some_iff.mp h
                      refine zc_V2 (q := 329) (st := []) (S1 := [.int r35.1]) (r_X11_seed (E.2 (s.1 + 1).toNatClampNeg) _ r35 hr35) dL_law_326 cb_X11_seed k3_75 k3_76 k3_77 ⟨by decide, by decide⟩ so_0 rfl rfl rfl (Nat.le_of_ble_eq_true rfl) (Or.inl rfl) rfl rfl ?_
                      refine zi_aloadn (q := 330) dL_law_329 rfl rfl ?_
                      refine zi_aloadn (q := 331) dL_law_330 rfl rfl ?_
                      refine zi_iloadn (q := 332) dL_law_331 rfl rfl ?_
                      refine zi_iconst (q := 333) dL_law_332 ki_1 rfl ?_
                      refine zi_iadd (q := 334) dL_law_333 rfl ?_
                      obtain ⟨hz36, h⟩ := zg_some h
                      refine zi_xald (q := 335) dL_law_334 (zin_vp hz36) rfl ?_
                      obtain ⟨r37, hr37, h⟩ := Option.bind_eq_some_iff.mp h
                      refine zc_V2 (q := 338) (st := [.int r35.1]) (S1 := [.int r37.1, .int r35.1]) (r_X12_seed (E.2 (s.1 + 1).toNatClampNeg) _ r37 hr37) dL_law_335 cb_X12_seed k5_161 k5_162 k5_163 ⟨by decide, by decide⟩ so_68 rfl rfl rfl (Nat.le_of_ble_eq_true rfl) (Or.inl rfl) rfl rfl ?_
                      refine zi_icmpeq (q := 693) (q2 := 341) dL_law_338 (by decide) rfl (fun hc => ?_) (fun hc => ?_)
                      · replace h := (if_pos hc).symm.trans h
                        exact rj_L_law_693 s.1 _ _ _ _ h KI
                      · replace h := (if_neg hc).symm.trans h
                        refine zi_iconst (q := 342) dL_law_341 ki_0 rfl ?_
                        obtain ⟨e1, e2⟩ := KR _ (Option.some.inj h).symm
                        rw [e1, e2]
                        exact zi_ret _ dL_law_342
                    · replace h := (if_neg he8).symm.trans h
                      by_cases he9 : ((E.2 s.1.toNatClampNeg) &&& 31) = 9
                      · replace h := (if_pos he9).symm.trans h
                        refine zi_tsIn (q := 343) (j := 9) dL_law_32 (zts_in ti_9 he9) (by decide) rfl (by decide) ?_
                        refine zi_aloadn (q := 344) dL_law_343 rfl rfl ?_
                        refine zi_aloadn (q := 345) dL_law_344 rfl rfl ?_
                        refine zi_iloadn (q := 346) dL_law_345 rfl rfl ?_
                        refine zi_iconst (q := 347) dL_law_346 ki_1 rfl ?_
                        refine zi_iadd (q := 348) dL_law_347 rfl ?_
                        obtain ⟨hz38, h⟩ := zg_some h
                        refine zi_xald (q := 349) dL_law_348 (zin_vp hz38) rfl ?_
                        refine zi_aloadn (q := 350) dL_law_349 rfl rfl ?_
                        refine zi_iloadn (q := 351) dL_law_350 rfl rfl ?_
                        refine zi_iconst (q := 352) dL_law_351 ki_2 rfl ?_
                        refine zi_iadd (q := 353) dL_law_352 rfl ?_
                        obtain ⟨hz39, h⟩ := zg_some h
                        refine zi_xald (q := 354) dL_law_353 (zin_vp hz39) rfl ?_
                        obtain ⟨r40, hr40, h⟩ := Option.bind_eq_some_iff.mp h
                        refine zc_V2 (q := 357) (st := []) (S1 := [.int r40.1]) (r_X11_bound (E.2 (s.1 + 1).toNatClampNeg) (E.2 (s.1 + 2).toNatClampNeg) _ r40 hr40) dL_law_354 cb_X11_bound k3_79 k3_80 k3_81 ⟨by decide, by decide⟩ so_0 rfl rfl rfl (Nat.le_of_ble_eq_true rfl) (Or.inl rfl) rfl rfl ?_
                        refine zi_aloadn (q := 358) dL_law_357 rfl rfl ?_
                        refine zi_aloadn (q := 359) dL_law_358 rfl rfl ?_
                        refine zi_iloadn (q := 360) dL_law_359 rfl rfl ?_
                        refine zi_iconst (q := 361) dL_law_360 ki_1 rfl ?_
                        refine zi_iadd (q := 362) dL_law_361 rfl ?_
                        obtain ⟨hz41, h⟩ := zg_some h
                        refine zi_xald (q := 363) dL_law_362 (zin_vp hz41) rfl ?_
                        refine zi_aloadn (q := 364) dL_law_363 rfl rfl ?_
                        refine zi_iloadn (q := 365) dL_law_364 rfl rfl ?_
                        refine zi_iconst (q := 366) dL_law_365 ki_2 rfl ?_
                        refine zi_iadd (q := 367) dL_law_366 rfl ?_
                        obtain ⟨hz42, h⟩ := zg_some h
                        refine zi_xald (q := 368) dL_law_367 (zin_vp hz42) rfl ?_
                        obtain ⟨r43, hr43, h⟩ := Option.bind_eq_some_iff.mp h
                        refine zc_V2 (q := 371) (st := [.int r40.1]) (S1 := [.int r43.1, .int r40.1]) (r_X12_bound (E.2 (s.1 + 1).toNatClampNeg) (E.2 (s.1 + 2).toNatClampNeg) _ r43 hr43) dL_law_368 cb_X12_bound k5_165 k5_166 k5_167 ⟨by decide, by decide⟩ so_68 rfl rfl rfl (Nat.le_of_ble_eq_true rfl) (Or.inl rfl) rfl rfl ?_
                        refine zi_icmpeq (q := 693) (q2 := 374) dL_law_371 (by decide) rfl (fun hc => ?_) (fun hc => ?_)
                        · replace h := (if_pos hc).symm.trans h
                          exact rj_L_law_693 s.1 _ _ _ _ h KI
                        · replace h := (if_neg hc).symm.trans h
                          refine zi_iconst (q := 375) dL_law_374 ki_0 rfl ?_
                          obtain ⟨e1, e2⟩ := KR _ (Option.some.inj h).symm
                          rw [e1, e2]
                          exact zi_ret _ dL_law_375
                      · replace h := (if_neg he9).symm.trans h
                        by_cases he10 : ((E.2 s.1.toNatClampNeg) &&& 31) = 10
                        · replace h := (if_pos he10).symm.trans h
                          refine zi_tsIn (q := 376) (j := 10) dL_law_32 (zts_in ti_10 he10) (by decide) rfl (by decide) ?_
                          refine zi_aloadn (q := 377) dL_law_376 rfl rfl ?_
                          obtain ⟨r44, hr44, h⟩ := Option.bind_eq_some_iff.mp h
                          refine zc_V2 (q := 380) (st := []) (S1 := [.int r44.1]) (r_X11_settle  _ r44 hr44) dL_law_377 cb_X11_settle k3_87 k3_88 k3_89 ⟨by decide, by decide⟩ so_0 rfl rfl rfl (Nat.le_of_ble_eq_true rfl) (Or.inl rfl) rfl rfl ?_
                          refine zi_aloadn (q := 381) dL_law_380 rfl rfl ?_
                          obtain ⟨r45, hr45, h⟩ := Option.bind_eq_some_iff.mp h
                          refine zc_V2 (q := 384) (st := [.int r44.1]) (S1 := [.int r45.1, .int r44.1]) (r_X12_settle  _ r45 hr45) dL_law_381 cb_X12_settle k5_172 k5_173 k5_174 ⟨by decide, by decide⟩ so_68 rfl rfl rfl (Nat.le_of_ble_eq_true rfl) (Or.inl rfl) rfl rfl ?_
                          refine zi_icmpeq (q := 693) (q2 := 387) dL_law_384 (by decide) rfl (fun hc => ?_) (fun hc => ?_)
                          · replace h := (if_pos hc).symm.trans h
                            exact rj_L_law_693 s.1 _ _ _ _ h KI
                          · replace h := (if_neg hc).symm.trans h
                            refine zi_iconst (q := 388) dL_law_387 ki_0 rfl ?_
                            obtain ⟨e1, e2⟩ := KR _ (Option.some.inj h).symm
                            rw [e1, e2]
                            exact zi_ret _ dL_law_388
                        · replace h := (if_neg he10).symm.trans h
                          by_cases he11 : ((E.2 s.1.toNatClampNeg) &&& 31) = 11
                          · replace h := (if_pos he11).symm.trans h
                            refine zi_tsIn (q := 389) (j := 11) dL_law_32 (zts_in ti_11 he11) (by decide) rfl (by decide) ?_
                            refine zi_aloadn (q := 390) dL_law_389 rfl rfl ?_
                            refine zi_aloadn (q := 391) dL_law_390 rfl rfl ?_
                            refine zi_iloadn (q := 392) dL_law_391 rfl rfl ?_
                            refine zi_iconst (q := 393) dL_law_392 ki_1 rfl ?_
                            refine zi_iadd (q := 394) dL_law_393 rfl ?_
                            obtain ⟨hz46, h⟩ := zg_some h
                            refine zi_xald (q := 395) dL_law_394 (zin_vp hz46) rfl ?_
                            obtain ⟨r47, hr47, h⟩ := Option.bind_eq_some_iff.mp h
                            refine zc_V2 (q := 398) (st := []) (S1 := [.int r47.1]) (r_X11_frames (E.2 (s.1 + 1).toNatClampNeg) _ r47 hr47) dL_law_395 cb_X11_frames k3_95 k3_96 k3_97 ⟨by decide, by decide⟩ so_0 rfl rfl rfl (Nat.le_of_ble_eq_true rfl) (Or.inl rfl) rfl rfl ?_
                            refine zi_aloadn (q := 399) dL_law_398 rfl rfl ?_
                            refine zi_aloadn (q := 400) dL_law_399 rfl rfl ?_
                            refine zi_iloadn (q := 401) dL_law_400 rfl rfl ?_
                            refine zi_iconst (q := 402) dL_law_401 ki_1 rfl ?_
                            refine zi_iadd (q := 403) dL_law_402 rfl ?_
                            obtain ⟨hz48, h⟩ := zg_some h
                            refine zi_xald (q := 404) dL_law_403 (zin_vp hz48) rfl ?_
                            obtain ⟨r49, hr49, h⟩ := Option.bind_eq_some_iff.mp h
                            refine zc_V2 (q := 407) (st := [.int r47.1]) (S1 := [.int r49.1, .int r47.1]) (r_X12_frames (E.2 (s.1 + 1).toNatClampNeg) _ r49 hr49) dL_law_404 cb_X12_frames k5_176 k5_177 k5_178 ⟨by decide, by decide⟩ so_68 rfl rfl rfl (Nat.le_of_ble_eq_true rfl) (Or.inl rfl) rfl rfl ?_
                            refine zi_icmpeq (q := 693) (q2 := 410) dL_law_407 (by decide) rfl (fun hc => ?_) (fun hc => ?_)
                            · replace h := (if_pos hc).symm.trans h
                              exact rj_L_law_693 s.1 _ _ _ _ h KI
                            · replace h := (if_neg hc).symm.trans h
                              refine zi_iconst (q := 411) dL_law_410 ki_0 rfl ?_
                              obtain ⟨e1, e2⟩ := KR _ (Option.some.inj h).symm
                              rw [e1, e2]
                              exact zi_ret _ dL_law_411
                          · replace h := (if_neg he11).symm.trans h
                            by_cases he12 : ((E.2 s.1.toNatClampNeg) &&& 31) = 12
                            · replace h := (if_pos he12).symm.trans h
                              refine zi_tsIn (q := 412) (j := 12) dL_law_32 (zts_in ti_12 he12) (by decide) rfl (by decide) ?_
                              refine zi_aloadn (q := 413) dL_law_412 rfl rfl ?_
                              refine zi_aloadn (q := 414) dL_law_413 rfl rfl ?_
                              refine zi_iloadn (q := 415) dL_law_414 rfl rfl ?_
                              refine zi_iconst (q := 416) dL_law_415 ki_1 rfl ?_
                              refine zi_iadd (q := 417) dL_law_416 rfl ?_
                              obtain ⟨hz50, h⟩ := zg_some h
                              refine zi_xald (q := 418) dL_law_417 (zin_vp hz50) rfl ?_
                              refine zi_aloadn (q := 419) dL_law_418 rfl rfl ?_
                              refine zi_iloadn (q := 420) dL_law_419 rfl rfl ?_
                              refine zi_iconst (q := 421) dL_law_420 ki_2 rfl ?_
                              refine zi_iadd (q := 422) dL_law_421 rfl ?_
                              obtain ⟨hz51, h⟩ := zg_some h
                              refine zi_xald (q := 423) dL_law_422 (zin_vp hz51) rfl ?_
                              obtain ⟨r52, hr52, h⟩ := Option.bind_eq_some_iff.mp h
                              refine zc_V2 (q := 426) (st := []) (S1 := [.int r52]) (r_X11_finger (E.2 (s.1 + 1).toNatClampNeg) (E.2 (s.1 + 2).toNatClampNeg) _ r52 hr52) dL_law_423 cb_X11_finger k4_24 k4_25 k4_26 ⟨by decide, by decide⟩ so_0 rfl rfl rfl (Nat.le_of_ble_eq_true rfl) (Or.inl rfl) rfl rfl ?_
                              refine zi_aloadn (q := 427) dL_law_426 rfl rfl ?_
                              refine zi_aloadn (q := 428) dL_law_427 rfl rfl ?_
                              refine zi_iloadn (q := 429) dL_law_428 rfl rfl ?_
                              refine zi_iconst (q := 430) dL_law_429 ki_1 rfl ?_
                              refine zi_iadd (q := 431) dL_law_430 rfl ?_
                              obtain ⟨hz53, h⟩ := zg_some h
                              refine zi_xald (q := 432) dL_law_431 (zin_vp hz53) rfl ?_
                              refine zi_aloadn (q := 433) dL_law_432 rfl rfl ?_
                              refine zi_iloadn (q := 434) dL_law_433 rfl rfl ?_
                              refine zi_iconst (q := 435) dL_law_434 ki_2 rfl ?_
                              refine zi_iadd (q := 436) dL_law_435 rfl ?_
                              obtain ⟨hz54, h⟩ := zg_some h
                              refine zi_xald (q := 437) dL_law_436 (zin_vp hz54) rfl ?_
                              obtain ⟨r55, hr55, h⟩ := Option.bind_eq_some_iff.mp h
                              refine zc_V2 (q := 440) (st := [.int r52]) (S1 := [.int r55, .int r52]) (r_X12_finger (E.2 (s.1 + 1).toNatClampNeg) (E.2 (s.1 + 2).toNatClampNeg) _ r55 hr55) dL_law_437 cb_X12_finger k6_104 k6_105 k6_106 ⟨by decide, by decide⟩ so_68 rfl rfl rfl (Nat.le_of_ble_eq_true rfl) (Or.inl rfl) rfl rfl ?_
                              refine zi_icmpeq (q := 693) (q2 := 443) dL_law_440 (by decide) rfl (fun hc => ?_) (fun hc => ?_)
                              · replace h := (if_pos hc).symm.trans h
                                exact rj_L_law_693 s.1 _ _ _ _ h KI
                              · replace h := (if_neg hc).symm.trans h
                                refine zi_iconst (q := 444) dL_law_443 ki_0 rfl ?_
                                obtain ⟨e1, e2⟩ := KR _ (Option.some.inj h).symm
                                rw [e1, e2]
                                exact zi_ret _ dL_law_444
                            · replace h := (if_neg he12).symm.trans h
                              by_cases he13 : ((E.2 s.1.toNatClampNeg) &&& 31) = 13
                              · replace h := (if_pos he13).symm.trans h
                                refine zi_tsIn (q := 445) (j := 13) dL_law_32 (zts_in ti_13 he13) (by decide) rfl (by decide) ?_
                                refine zi_aloadn (q := 446) dL_law_445 rfl rfl ?_
                                refine zi_aloadn (q := 447) dL_law_446 rfl rfl ?_
                                refine zi_iloadn (q := 448) dL_law_447 rfl rfl ?_
                                refine zi_iconst (q := 449) dL_law_448 ki_1 rfl ?_
                                refine zi_iadd (q := 450) dL_law_449 rfl ?_
                                obtain ⟨hz56, h⟩ := zg_some h
                                refine zi_xald (q := 451) dL_law_450 (zin_vp hz56) rfl ?_
                                refine zi_aloadn (q := 452) dL_law_451 rfl rfl ?_
                                refine zi_iloadn (q := 453) dL_law_452 rfl rfl ?_
                                refine zi_iconst (q := 454) dL_law_453 ki_2 rfl ?_
                                refine zi_iadd (q := 455) dL_law_454 rfl ?_
                                obtain ⟨hz57, h⟩ := zg_some h
                                refine zi_xald (q := 456) dL_law_455 (zin_vp hz57) rfl ?_
                                obtain ⟨r58, hr58, h⟩ := Option.bind_eq_some_iff.mp h
                                refine zc_V2 (q := 459) (st := []) (S1 := [.int r58]) (r_X11_cell (E.2 (s.1 + 1).toNatClampNeg) (E.2 (s.1 + 2).toNatClampNeg) _ r58 hr58) dL_law_456 cb_X11_cell k4_32 k4_33 k4_34 ⟨by decide, by decide⟩ so_0 rfl rfl rfl (Nat.le_of_ble_eq_true rfl) (Or.inl rfl) rfl rfl ?_
                                refine zi_aloadn (q := 460) dL_law_459 rfl rfl ?_
                                refine zi_aloadn (q := 461) dL_law_460 rfl rfl ?_
                                refine zi_iloadn (q := 462) dL_law_461 rfl rfl ?_
                                refine zi_iconst (q := 463) dL_law_462 ki_1 rfl ?_
                                refine zi_iadd (q := 464) dL_law_463 rfl ?_
                                obtain ⟨hz59, h⟩ := zg_some h
                                refine zi_xald (q := 465) dL_law_464 (zin_vp hz59) rfl ?_
                                refine zi_aloadn (q := 466) dL_law_465 rfl rfl ?_
                                refine zi_iloadn (q := 467) dL_law_466 rfl rfl ?_
                                refine zi_iconst (q := 468) dL_law_467 ki_2 rfl ?_
                                refine zi_iadd (q := 469) dL_law_468 rfl ?_
                                obtain ⟨hz60, h⟩ := zg_some h
                                refine zi_xald (q := 470) dL_law_469 (zin_vp hz60) rfl ?_
                                obtain ⟨r61, hr61, h⟩ := Option.bind_eq_some_iff.mp h
                                refine zc_V2 (q := 473) (st := [.int r58]) (S1 := [.int r61, .int r58]) (r_X12_cell (E.2 (s.1 + 1).toNatClampNeg) (E.2 (s.1 + 2).toNatClampNeg) _ r61 hr61) dL_law_470 cb_X12_cell k6_112 k6_113 k6_114 ⟨by decide, by decide⟩ so_68 rfl rfl rfl (Nat.le_of_ble_eq_true rfl) (Or.inl rfl) rfl rfl ?_
                                refine zi_icmpeq (q := 693) (q2 := 476) dL_law_473 (by decide) rfl (fun hc => ?_) (fun hc => ?_)
                                · replace h := (if_pos hc).symm.trans h
                                  exact rj_L_law_693 s.1 _ _ _ _ h KI
                                · replace h := (if_neg hc).symm.trans h
                                  refine zi_iconst (q := 477) dL_law_476 ki_0 rfl ?_
                                  obtain ⟨e1, e2⟩ := KR _ (Option.some.inj h).symm
                                  rw [e1, e2]
                                  exact zi_ret _ dL_law_477
                              · replace h := (if_neg he13).symm.trans h
                                by_cases he14 : ((E.2 s.1.toNatClampNeg) &&& 31) = 14
                                · replace h := (if_pos he14).symm.trans h
                                  refine zi_tsIn (q := 478) (j := 14) dL_law_32 (zts_in ti_14 he14) (by decide) rfl (by decide) ?_
                                  refine zi_aloadn (q := 479) dL_law_478 rfl rfl ?_
                                  refine zi_aloadn (q := 480) dL_law_479 rfl rfl ?_
                                  refine zi_iloadn (q := 481) dL_law_480 rfl rfl ?_
                                  refine zi_iconst (q := 482) dL_law_481 ki_1 rfl ?_
                                  refine zi_iadd (q := 483) dL_law_482 rfl ?_
                                  obtain ⟨hz62, h⟩ := zg_some h
                                  refine zi_xald (q := 484) dL_law_483 (zin_vp hz62) rfl ?_
                                  obtain ⟨r63, hr63, h⟩ := Option.bind_eq_some_iff.mp h
                                  refine zc_V2 (q := 487) (st := []) (S1 := [.int r63]) (r_X11_about (E.2 (s.1 + 1).toNatClampNeg) _ r63 hr63) dL_law_484 cb_X11_about k4_40 k4_41 k4_42 ⟨by decide, by decide⟩ so_0 rfl rfl rfl (Nat.le_of_ble_eq_true rfl) (Or.inl rfl) rfl rfl ?_
                                  refine zi_aloadn (q := 488) dL_law_487 rfl rfl ?_
                                  refine zi_aloadn (q := 489) dL_law_488 rfl rfl ?_
                                  refine zi_iloadn (q := 490) dL_law_489 rfl rfl ?_
                                  refine zi_iconst (q := 491) dL_law_490 ki_1 rfl ?_
                                  refine zi_iadd (q := 492) dL_law_491 rfl ?_
                                  obtain ⟨hz64, h⟩ := zg_some h
                                  refine zi_xald (q := 493) dL_law_492 (zin_vp hz64) rfl ?_
                                  obtain ⟨r65, hr65, h⟩ := Option.bind_eq_some_iff.mp h
                                  refine zc_V2 (q := 496) (st := [.int r63]) (S1 := [.int r65, .int r63]) (r_X12_about (E.2 (s.1 + 1).toNatClampNeg) _ r65 hr65) dL_law_493 cb_X12_about k6_120 k6_121 k6_122 ⟨by decide, by decide⟩ so_68 rfl rfl rfl (Nat.le_of_ble_eq_true rfl) (Or.inl rfl) rfl rfl ?_
                                  refine zi_icmpeq (q := 693) (q2 := 499) dL_law_496 (by decide) rfl (fun hc => ?_) (fun hc => ?_)
                                  · replace h := (if_pos hc).symm.trans h
                                    exact rj_L_law_693 s.1 _ _ _ _ h KI
                                  · replace h := (if_neg hc).symm.trans h
                                    refine zi_iconst (q := 500) dL_law_499 ki_0 rfl ?_
                                    obtain ⟨e1, e2⟩ := KR _ (Option.some.inj h).symm
                                    rw [e1, e2]
                                    exact zi_ret _ dL_law_500
                                · replace h := (if_neg he14).symm.trans h
                                  by_cases he15 : ((E.2 s.1.toNatClampNeg) &&& 31) = 15
                                  · replace h := (if_pos he15).symm.trans h
                                    refine zi_tsIn (q := 501) (j := 15) dL_law_32 (zts_in ti_15 he15) (by decide) rfl (by decide) ?_
                                    refine zi_aloadn (q := 502) dL_law_501 rfl rfl ?_
                                    refine zi_aloadn (q := 503) dL_law_502 rfl rfl ?_
                                    refine zi_iloadn (q := 504) dL_law_503 rfl rfl ?_
                                    refine zi_iconst (q := 505) dL_law_504 ki_1 rfl ?_
                                    refine zi_iadd (q := 506) dL_law_505 rfl ?_
                                    obtain ⟨hz66, h⟩ := zg_some h
                                    refine zi_xald (q := 507) dL_law_506 (zin_vp hz66) rfl ?_
                                    refine zi_aloadn (q := 508) dL_law_507 rfl rfl ?_
                                    refine zi_iloadn (q := 509) dL_law_508 rfl rfl ?_
                                    refine zi_iconst (q := 510) dL_law_509 ki_2 rfl ?_
                                    refine zi_iadd (q := 511) dL_law_510 rfl ?_
                                    obtain ⟨hz67, h⟩ := zg_some h
                                    refine zi_xald (q := 512) dL_law_511 (zin_vp hz67) rfl ?_
                                    obtain ⟨r68, hr68, h⟩ := Option.bind_eq_some_iff.mp h
                                    refine zc_V2 (q := 515) (st := []) (S1 := [.int r68]) (r_X11_spot (E.2 (s.1 + 1).toNatClampNeg) (E.2 (s.1 + 2).toNatClampNeg) _ r68 hr68) dL_law_512 cb_X11_spot k4_48 k4_49 k4_50 ⟨by decide, by decide⟩ so_0 rfl rfl rfl (Nat.le_of_ble_eq_true rfl) (Or.inl rfl) rfl rfl ?_
                                    refine zi_aloadn (q := 516) dL_law_515 rfl rfl ?_
                                    refine zi_aloadn (q := 517) dL_law_516 rfl rfl ?_
                                    refine zi_iloadn (q := 518) dL_law_517 rfl rfl ?_
                                    refine zi_iconst (q := 519) dL_law_518 ki_1 rfl ?_
                                    refine zi_iadd (q := 520) dL_law_519 rfl ?_
                                    obtain ⟨hz69, h⟩ := zg_some h
                                    refine zi_xald (q := 521) dL_law_520 (zin_vp hz69) rfl ?_
                                    refine zi_aloadn (q := 522) dL_law_521 rfl rfl ?_
                                    refine zi_iloadn (q := 523) dL_law_522 rfl rfl ?_
                                    refine zi_iconst (q := 524) dL_law_523 ki_2 rfl ?_
                                    refine zi_iadd (q := 525) dL_law_524 rfl ?_
                                    obtain ⟨hz70, h⟩ := zg_some h
                                    refine zi_xald (q := 526) dL_law_525 (zin_vp hz70) rfl ?_
                                    obtain ⟨r71, hr71, h⟩ := Option.bind_eq_some_iff.mp h
                                    refine zc_V2 (q := 529) (st := [.int r68]) (S1 := [.int r71, .int r68]) (r_X12_spot (E.2 (s.1 + 1).toNatClampNeg) (E.2 (s.1 + 2).toNatClampNeg) _ r71 hr71) dL_law_526 cb_X12_spot k6_128 k6_129 k6_130 ⟨by decide, by decide⟩ so_68 rfl rfl rfl (Nat.le_of_ble_eq_true rfl) (Or.inl rfl) rfl rfl ?_
                                    refine zi_icmpeq (q := 693) (q2 := 532) dL_law_529 (by decide) rfl (fun hc => ?_) (fun hc => ?_)
                                    · replace h := (if_pos hc).symm.trans h
                                      exact rj_L_law_693 s.1 _ _ _ _ h KI
                                    · replace h := (if_neg hc).symm.trans h
                                      refine zi_iconst (q := 533) dL_law_532 ki_0 rfl ?_
                                      obtain ⟨e1, e2⟩ := KR _ (Option.some.inj h).symm
                                      rw [e1, e2]
                                      exact zi_ret _ dL_law_533
                                  · replace h := (if_neg he15).symm.trans h
                                    by_cases he16 : ((E.2 s.1.toNatClampNeg) &&& 31) = 16
                                    · replace h := (if_pos he16).symm.trans h
                                      refine zi_tsIn (q := 534) (j := 16) dL_law_32 (zts_in ti_16 he16) (by decide) rfl (by decide) ?_
                                      refine zi_aloadn (q := 535) dL_law_534 rfl rfl ?_
                                      refine zi_aloadn (q := 536) dL_law_535 rfl rfl ?_
                                      refine zi_iloadn (q := 537) dL_law_536 rfl rfl ?_
                                      refine zi_iconst (q := 538) dL_law_537 ki_1 rfl ?_
                                      refine zi_iadd (q := 539) dL_law_538 rfl ?_
                                      obtain ⟨hz72, h⟩ := zg_some h
                                      refine zi_xald (q := 540) dL_law_539 (zin_vp hz72) rfl ?_
                                      refine zi_aloadn (q := 541) dL_law_540 rfl rfl ?_
                                      refine zi_iloadn (q := 542) dL_law_541 rfl rfl ?_
                                      refine zi_iconst (q := 543) dL_law_542 ki_2 rfl ?_
                                      refine zi_iadd (q := 544) dL_law_543 rfl ?_
                                      obtain ⟨hz73, h⟩ := zg_some h
                                      refine zi_xald (q := 545) dL_law_544 (zin_vp hz73) rfl ?_
                                      obtain ⟨r74, hr74, h⟩ := Option.bind_eq_some_iff.mp h
                                      refine zc_V2 (q := 548) (st := []) (S1 := [.int r74]) (r_X11_track (E.2 (s.1 + 1).toNatClampNeg) (E.2 (s.1 + 2).toNatClampNeg) _ r74 hr74) dL_law_545 cb_X11_track k4_56 k4_57 k4_58 ⟨by decide, by decide⟩ so_0 rfl rfl rfl (Nat.le_of_ble_eq_true rfl) (Or.inl rfl) rfl rfl ?_
                                      refine zi_aloadn (q := 549) dL_law_548 rfl rfl ?_
                                      refine zi_aloadn (q := 550) dL_law_549 rfl rfl ?_
                                      refine zi_iloadn (q := 551) dL_law_550 rfl rfl ?_
                                      refine zi_iconst (q := 552) dL_law_551 ki_1 rfl ?_
                                      refine zi_iadd (q := 553) dL_law_552 rfl ?_
                                      obtain ⟨hz75, h⟩ := zg_some h
                                      refine zi_xald (q := 554) dL_law_553 (zin_vp hz75) rfl ?_
                                      refine zi_aloadn (q := 555) dL_law_554 rfl rfl ?_
                                      refine zi_iloadn (q := 556) dL_law_555 rfl rfl ?_
                                      refine zi_iconst (q := 557) dL_law_556 ki_2 rfl ?_
                                      refine zi_iadd (q := 558) dL_law_557 rfl ?_
                                      obtain ⟨hz76, h⟩ := zg_some h
                                      refine zi_xald (q := 559) dL_law_558 (zin_vp hz76) rfl ?_
                                      obtain ⟨r77, hr77, h⟩ := Option.bind_eq_some_iff.mp h
                                      refine zc_V2 (q := 562) (st := [.int r74]) (S1 := [.int r77, .int r74]) (r_X12_track (E.2 (s.1 + 1).toNatClampNeg) (E.2 (s.1 + 2).toNatClampNeg) _ r77 hr77) dL_law_559 cb_X12_track k6_136 k6_137 k6_138 ⟨by decide, by decide⟩ so_68 rfl rfl rfl (Nat.le_of_ble_eq_true rfl) (Or.inl rfl) rfl rfl ?_
                                      refine zi_icmpeq (q := 693) (q2 := 565) dL_law_562 (by decide) rfl (fun hc => ?_) (fun hc => ?_)
                                      · replace h := (if_pos hc).symm.trans h
                                        exact rj_L_law_693 s.1 _ _ _ _ h KI
                                      · replace h := (if_neg hc).symm.trans h
                                        refine zi_iconst (q := 566) dL_law_565 ki_0 rfl ?_
                                        obtain ⟨e1, e2⟩ := KR _ (Option.some.inj h).symm
                                        rw [e1, e2]
                                        exact zi_ret _ dL_law_566
                                    · replace h := (if_neg he16).symm.trans h
                                      by_cases he17 : ((E.2 s.1.toNatClampNeg) &&& 31) = 17
                                      · replace h := (if_pos he17).symm.trans h
                                        refine zi_tsIn (q := 567) (j := 17) dL_law_32 (zts_in ti_17 he17) (by decide) rfl (by decide) ?_
                                        refine zi_aloadn (q := 568) dL_law_567 rfl rfl ?_
                                        refine zi_aloadn (q := 569) dL_law_568 rfl rfl ?_
                                        refine zi_iloadn (q := 570) dL_law_569 rfl rfl ?_
                                        refine zi_iconst (q := 571) dL_law_570 ki_1 rfl ?_
                                        refine zi_iadd (q := 572) dL_law_571 rfl ?_
                                        obtain ⟨hz78, h⟩ := zg_some h
                                        refine zi_xald (q := 573) dL_law_572 (zin_vp hz78) rfl ?_
                                        refine zi_aloadn (q := 574) dL_law_573 rfl rfl ?_
                                        refine zi_iloadn (q := 575) dL_law_574 rfl rfl ?_
                                        refine zi_iconst (q := 576) dL_law_575 ki_2 rfl ?_
                                        refine zi_iadd (q := 577) dL_law_576 rfl ?_
                                        obtain ⟨hz79, h⟩ := zg_some h
                                        refine zi_xald (q := 578) dL_law_577 (zin_vp hz79) rfl ?_
                                        obtain ⟨r80, hr80, h⟩ := Option.bind_eq_some_iff.mp h
                                        refine zc_V2 (q := 581) (st := []) (S1 := [.int r80]) (r_X11_as (E.2 (s.1 + 1).toNatClampNeg) (E.2 (s.1 + 2).toNatClampNeg) _ r80 hr80) dL_law_578 cb_X11_as k4_64 k4_65 k4_66 ⟨by decide, by decide⟩ so_0 rfl rfl rfl (Nat.le_of_ble_eq_true rfl) (Or.inl rfl) rfl rfl ?_
                                        refine zi_aloadn (q := 582) dL_law_581 rfl rfl ?_
                                        refine zi_aloadn (q := 583) dL_law_582 rfl rfl ?_
                                        refine zi_iloadn (q := 584) dL_law_583 rfl rfl ?_
                                        refine zi_iconst (q := 585) dL_law_584 ki_1 rfl ?_
                                        refine zi_iadd (q := 586) dL_law_585 rfl ?_
                                        obtain ⟨hz81, h⟩ := zg_some h
                                        refine zi_xald (q := 587) dL_law_586 (zin_vp hz81) rfl ?_
                                        refine zi_aloadn (q := 588) dL_law_587 rfl rfl ?_
                                        refine zi_iloadn (q := 589) dL_law_588 rfl rfl ?_
                                        refine zi_iconst (q := 590) dL_law_589 ki_2 rfl ?_
                                        refine zi_iadd (q := 591) dL_law_590 rfl ?_
                                        obtain ⟨hz82, h⟩ := zg_some h
                                        refine zi_xald (q := 592) dL_law_591 (zin_vp hz82) rfl ?_
                                        obtain ⟨r83, hr83, h⟩ := Option.bind_eq_some_iff.mp h
                                        refine zc_V2 (q := 595) (st := [.int r80]) (S1 := [.int r83, .int r80]) (r_X12_as (E.2 (s.1 + 1).toNatClampNeg) (E.2 (s.1 + 2).toNatClampNeg) _ r83 hr83) dL_law_592 cb_X12_as k6_148 k6_149 k6_150 ⟨by decide, by decide⟩ so_68 rfl rfl rfl (Nat.le_of_ble_eq_true rfl) (Or.inl rfl) rfl rfl ?_
                                        refine zi_icmpeq (q := 693) (q2 := 598) dL_law_595 (by decide) rfl (fun hc => ?_) (fun hc => ?_)
                                        · replace h := (if_pos hc).symm.trans h
                                          exact rj_L_law_693 s.1 _ _ _ _ h KI
                                        · replace h := (if_neg hc).symm.trans h
                                          refine zi_iconst (q := 599) dL_law_598 ki_0 rfl ?_
                                          obtain ⟨e1, e2⟩ := KR _ (Option.some.inj h).symm
                                          rw [e1, e2]
                                          exact zi_ret _ dL_law_599
                                      · replace h := (if_neg he17).symm.trans h
                                        by_cases he18 : ((E.2 s.1.toNatClampNeg) &&& 31) = 18
                                        · replace h := (if_pos he18).symm.trans h
                                          refine zi_tsIn (q := 600) (j := 18) dL_law_32 (zts_in ti_18 he18) (by decide) rfl (by decide) ?_
                                          refine zi_aloadn (q := 601) dL_law_600 rfl rfl ?_
                                          refine zi_aloadn (q := 602) dL_law_601 rfl rfl ?_
                                          refine zi_iloadn (q := 603) dL_law_602 rfl rfl ?_
                                          refine zi_iconst (q := 604) dL_law_603 ki_1 rfl ?_
                                          refine zi_iadd (q := 605) dL_law_604 rfl ?_
                                          obtain ⟨hz84, h⟩ := zg_some h
                                          refine zi_xald (q := 606) dL_law_605 (zin_vp hz84) rfl ?_
                                          refine zi_aloadn (q := 607) dL_law_606 rfl rfl ?_
                                          refine zi_iloadn (q := 608) dL_law_607 rfl rfl ?_
                                          refine zi_iconst (q := 609) dL_law_608 ki_2 rfl ?_
                                          refine zi_iadd (q := 610) dL_law_609 rfl ?_
                                          obtain ⟨hz85, h⟩ := zg_some h
                                          refine zi_xald (q := 611) dL_law_610 (zin_vp hz85) rfl ?_
                                          obtain ⟨r86, hr86, h⟩ := Option.bind_eq_some_iff.mp h
                                          refine zc_V2 (q := 614) (st := []) (S1 := [.int r86]) (r_X11_event (E.2 (s.1 + 1).toNatClampNeg) (E.2 (s.1 + 2).toNatClampNeg) _ r86 hr86) dL_law_611 cb_X11_event k4_68 k4_69 k4_70 ⟨by decide, by decide⟩ so_0 rfl rfl rfl (Nat.le_of_ble_eq_true rfl) (Or.inl rfl) rfl rfl ?_
                                          refine zi_aloadn (q := 615) dL_law_614 rfl rfl ?_
                                          refine zi_aloadn (q := 616) dL_law_615 rfl rfl ?_
                                          refine zi_iloadn (q := 617) dL_law_616 rfl rfl ?_
                                          refine zi_iconst (q := 618) dL_law_617 ki_1 rfl ?_
                                          refine zi_iadd (q := 619) dL_law_618 rfl ?_
                                          obtain ⟨hz87, h⟩ := zg_some h
                                          refine zi_xald (q := 620) dL_law_619 (zin_vp hz87) rfl ?_
                                          refine zi_aloadn (q := 621) dL_law_620 rfl rfl ?_
                                          refine zi_iloadn (q := 622) dL_law_621 rfl rfl ?_
                                          refine zi_iconst (q := 623) dL_law_622 ki_2 rfl ?_
                                          refine zi_iadd (q := 624) dL_law_623 rfl ?_
                                          obtain ⟨hz88, h⟩ := zg_some h
                                          refine zi_xald (q := 625) dL_law_624 (zin_vp hz88) rfl ?_
                                          obtain ⟨r89, hr89, h⟩ := Option.bind_eq_some_iff.mp h
                                          refine zc_V2 (q := 628) (st := [.int r86]) (S1 := [.int r89, .int r86]) (r_X12_event (E.2 (s.1 + 1).toNatClampNeg) (E.2 (s.1 + 2).toNatClampNeg) _ r89 hr89) dL_law_625 cb_X12_event k6_152 k6_153 k6_154 ⟨by decide, by decide⟩ so_68 rfl rfl rfl (Nat.le_of_ble_eq_true rfl) (Or.inl rfl) rfl rfl ?_
                                          refine zi_icmpeq (q := 693) (q2 := 631) dL_law_628 (by decide) rfl (fun hc => ?_) (fun hc => ?_)
                                          · replace h := (if_pos hc).symm.trans h
                                            exact rj_L_law_693 s.1 _ _ _ _ h KI
                                          · replace h := (if_neg hc).symm.trans h
                                            refine zi_iconst (q := 632) dL_law_631 ki_0 rfl ?_
                                            obtain ⟨e1, e2⟩ := KR _ (Option.some.inj h).symm
                                            rw [e1, e2]
                                            exact zi_ret _ dL_law_632
                                        · replace h := (if_neg he18).symm.trans h
                                          by_cases he19 : ((E.2 s.1.toNatClampNeg) &&& 31) = 19
                                          · replace h := (if_pos he19).symm.trans h
                                            refine zi_tsIn (q := 633) (j := 19) dL_law_32 (zts_in ti_19 he19) (by decide) rfl (by decide) ?_
                                            refine zi_aloadn (q := 634) dL_law_633 rfl rfl ?_
                                            refine zi_aloadn (q := 635) dL_law_634 rfl rfl ?_
                                            refine zi_iloadn (q := 636) dL_law_635 rfl rfl ?_
                                            refine zi_iconst (q := 637) dL_law_636 ki_1 rfl ?_
                                            refine zi_iadd (q := 638) dL_law_637 rfl ?_
                                            obtain ⟨hz90, h⟩ := zg_some h
                                            refine zi_xald (q := 639) dL_law_638 (zin_vp hz90) rfl ?_
                                            obtain ⟨r91, hr91, h⟩ := Option.bind_eq_some_iff.mp h
                                            refine zc_V2 (q := 642) (st := []) (S1 := [.int r91]) (r_X11_count (E.2 (s.1 + 1).toNatClampNeg) _ r91 hr91) dL_law_639 cb_X11_count k4_84 k4_85 k4_86 ⟨by decide, by decide⟩ so_0 rfl rfl rfl (Nat.le_of_ble_eq_true rfl) (Or.inl rfl) rfl rfl ?_
                                            refine zi_aloadn (q := 643) dL_law_642 rfl rfl ?_
                                            refine zi_aloadn (q := 644) dL_law_643 rfl rfl ?_
                                            refine zi_iloadn (q := 645) dL_law_644 rfl rfl ?_
                                            refine zi_iconst (q := 646) dL_law_645 ki_1 rfl ?_
                                            refine zi_iadd (q := 647) dL_law_646 rfl ?_
                                            obtain ⟨hz92, h⟩ := zg_some h
                                            refine zi_xald (q := 648) dL_law_647 (zin_vp hz92) rfl ?_
                                            obtain ⟨r93, hr93, h⟩ := Option.bind_eq_some_iff.mp h
                                            refine zc_V2 (q := 651) (st := [.int r91]) (S1 := [.int r93, .int r91]) (r_X12_count (E.2 (s.1 + 1).toNatClampNeg) _ r93 hr93) dL_law_648 cb_X12_count k6_160 k6_161 k6_162 ⟨by decide, by decide⟩ so_68 rfl rfl rfl (Nat.le_of_ble_eq_true rfl) (Or.inl rfl) rfl rfl ?_
                                            refine zi_icmpeq (q := 693) (q2 := 654) dL_law_651 (by decide) rfl (fun hc => ?_) (fun hc => ?_)
                                            · replace h := (if_pos hc).symm.trans h
                                              exact rj_L_law_693 s.1 _ _ _ _ h KI
                                            · replace h := (if_neg hc).symm.trans h
                                              refine zi_iconst (q := 655) dL_law_654 ki_0 rfl ?_
                                              obtain ⟨e1, e2⟩ := KR _ (Option.some.inj h).symm
                                              rw [e1, e2]
                                              exact zi_ret _ dL_law_655
                                          · replace h := (if_neg he19).symm.trans h
                                            by_cases he20 : ((E.2 s.1.toNatClampNeg) &&& 31) = 20
                                            · replace h := (if_pos he20).symm.trans h
                                              refine zi_tsIn (q := 656) (j := 20) dL_law_32 (zts_in ti_20 he20) (by decide) rfl (by decide) ?_
                                              refine zi_aloadn (q := 657) dL_law_656 rfl rfl ?_
                                              refine zi_aloadn (q := 658) dL_law_657 rfl rfl ?_
                                              refine zi_iloadn (q := 659) dL_law_658 rfl rfl ?_
                                              refine zi_iconst (q := 660) dL_law_659 ki_1 rfl ?_
                                              refine zi_iadd (q := 661) dL_law_660 rfl ?_
                                              obtain ⟨hz94, h⟩ := zg_some h
                                              refine zi_xald (q := 662) dL_law_661 (zin_vp hz94) rfl ?_
                                              obtain ⟨r95, hr95, h⟩ := Option.bind_eq_some_iff.mp h
                                              refine zc_V2 (q := 665) (st := []) (S1 := [.int r95]) (r_X11_events (E.2 (s.1 + 1).toNatClampNeg) _ r95 hr95) dL_law_662 cb_X11_events k4_88 k4_89 k4_90 ⟨by decide, by decide⟩ so_0 rfl rfl rfl (Nat.le_of_ble_eq_true rfl) (Or.inl rfl) rfl rfl ?_
                                              refine zi_aloadn (q := 666) dL_law_665 rfl rfl ?_
                                              refine zi_aloadn (q := 667) dL_law_666 rfl rfl ?_
                                              refine zi_iloadn (q := 668) dL_law_667 rfl rfl ?_
                                              refine zi_iconst (q := 669) dL_law_668 ki_1 rfl ?_
                                              refine zi_iadd (q := 670) dL_law_669 rfl ?_
                                              obtain ⟨hz96, h⟩ := zg_some h
                                              refine zi_xald (q := 671) dL_law_670 (zin_vp hz96) rfl ?_
                                              obtain ⟨r97, hr97, h⟩ := Option.bind_eq_some_iff.mp h
                                              refine zc_V2 (q := 674) (st := [.int r95]) (S1 := [.int r97, .int r95]) (r_X12_events (E.2 (s.1 + 1).toNatClampNeg) _ r97 hr97) dL_law_671 cb_X12_events k6_168 k6_169 k6_170 ⟨by decide, by decide⟩ so_68 rfl rfl rfl (Nat.le_of_ble_eq_true rfl) (Or.inl rfl) rfl rfl ?_
                                              refine zi_icmpeq (q := 693) (q2 := 677) dL_law_674 (by decide) rfl (fun hc => ?_) (fun hc => ?_)
                                              · replace h := (if_pos hc).symm.trans h
                                                exact rj_L_law_693 s.1 _ _ _ _ h KI
                                              · replace h := (if_neg hc).symm.trans h
                                                refine zi_iconst (q := 678) dL_law_677 ki_0 rfl ?_
                                                obtain ⟨e1, e2⟩ := KR _ (Option.some.inj h).symm
                                                rw [e1, e2]
                                                exact zi_ret _ dL_law_678
                                            · replace h := (if_neg he20).symm.trans h
                                              by_cases he21 : ((E.2 s.1.toNatClampNeg) &&& 31) = 21
                                              · replace h := (if_pos he21).symm.trans h
                                                refine zi_tsIn (q := 679) (j := 21) dL_law_32 (zts_in ti_21 he21) (by decide) rfl (by decide) ?_
                                                refine zi_aloadn (q := 680) dL_law_679 rfl rfl ?_
                                                obtain ⟨r98, hr98, h⟩ := Option.bind_eq_some_iff.mp h
                                                refine zc_V2 (q := 683) (st := []) (S1 := [.long r98]) (r_X11_digest  _ r98 hr98) dL_law_680 cb_X11_digest k4_92 k4_93 k4_94 ⟨by decide, by decide⟩ so_0 rfl rfl rfl (Nat.le_of_ble_eq_true rfl) (Or.inl rfl) rfl rfl ?_
                                                refine zi_aloadn (q := 684) dL_law_683 rfl rfl ?_
                                                obtain ⟨r99, hr99, h⟩ := Option.bind_eq_some_iff.mp h
                                                refine zc_V2 (q := 687) (st := [.long r98]) (S1 := [.long r99.1, .long r98]) (r_X12_digest  _ r99 hr99) dL_law_684 cb_X12_digest k6_172 k6_173 k6_174 ⟨by decide, by decide⟩ so_68 rfl rfl rfl (Nat.le_of_ble_eq_true rfl) (Or.inl rfl) rfl rfl ?_
                                                refine zi_lcmp (q := 688) dL_law_687 rfl ?_
                                                refine zi_ifeq (q := 693) (q2 := 691) dL_law_688 (by decide) rfl (fun hc => ?_) (fun hc => ?_)
                                                · replace h := (if_pos hc).symm.trans h
                                                  exact rj_L_law_693 s.1 _ _ _ _ h KI
                                                · replace h := (if_neg hc).symm.trans h
                                                  refine zi_iconst (q := 692) dL_law_691 ki_0 rfl ?_
                                                  obtain ⟨e1, e2⟩ := KR _ (Option.some.inj h).symm
                                                  rw [e1, e2]
                                                  exact zi_ret _ dL_law_692
                                              · replace h := (if_neg he21).symm.trans h
                                                refine zi_tsOut (q := 693) dL_law_32 (zts_out22 he0 he1 he2 he3 he4 he5 he6 he7 he8 he9 he10 he11 he12 he13 he14 he15 he16 he17 he18 he19 he20 he21) (by decide) ?_
                                                exact rj_L_law_693 s.1 _ _ _ _ h KI
set_option maxRecDepth 20000 in
theorem r_L_law {E : Nat × (Nat → Int32)} (x3 : Int32) (m : zM) (x : (Bool × zM)) (h : f_L_law E x3 m = some x) : Rn E zL_law 18 [some (.ref 1000), some (.ref 0), some (.ref 68), some (.int x3)] [] zSH m (some (.int (bi x.1))) zSH x.2 := by
  unfold f_L_law at h
  obtain ⟨r100, hr100, h⟩ := Option.bind_eq_some_iff.mp h
  refine zloop_rn (P := fun w : (Int32 × zM) => Rn E zL_law 18 [some (.ref 1000), some (.ref 0), some (.ref 68), some (.int w.1)] [] zSH w.2 (some (.int (bi x.1))) zSH x.2) (X := Sum.elim (fun w : (zM) => Rn E zL_law 699 [none, none, none, none] [] zSH w (some (.int (bi x.1))) zSH x.2) (fun v : (Bool × zM) => (some (Value.int (bi x.1))) = some (Value.int (bi v.1)) ∧ x.2 = v.2)) (fun w w0 hb KI KX => rb_L_law_18  w _ _ w0 hb KI (fun w1 e => KX (.inl w1) e) (fun w1 e => KX (.inr w1) e)) zFU _ r100 hr100 ?_
  rcases r100 with r100 | v101
  · replace h := (zelim_l).symm.trans h
    show Rn E zL_law 699 [none, none, none, none] [] zSH r100 (some (.int (bi x.1))) zSH x.2
    refine zi_iconst (q := 700) dL_law_699 ki_1 rfl ?_
    cases h
    exact zi_ret _ dL_law_700
  · replace h := (zelim_r).symm.trans h
    cases h
    exact ⟨rfl, rfl⟩
