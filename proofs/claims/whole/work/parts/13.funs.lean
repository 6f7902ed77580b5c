def f_X11_within (x0 : Int32) (x1 : Int32) (x2 : Int32) (m : zM) : Option Bool :=
  if x0 < x1 then (some false) else (if x2 < x0 then (some false) else (some true))
def f_X5_append (x1 : Int32) (m : zM) : Option zM :=
  if 40 ≤ (m.1 1 1) then (some m) else (zg (zin (m.1 1 1) 40) (some (zi (zi m 2 ((m.1 1 1).toNatClampNeg) x1) 1 1 ((m.1 1 1) + 1))))
def f_X11_letter (x1 : Int32) (m : zM) : Option (Int32 × zM) :=
  (f_X11_within x1 32 126 m).bind fun r1 => if (bi r1) = 0 then (some (-10002, m)) else (if (m.1 1 1) < 40 then ((f_X5_append x1 m).bind fun m2 => some (m2.1 1 1, m2)) else (some (-10004, m)))
def f_X12_within (x0 : Int32) (x1 : Int32) (x2 : Int32) (m : zM) : Option Bool :=
  if x0 < x1 then (some false) else (if x2 < x0 then (some false) else (some true))
def f_X12_letter (x1 : Int32) (m : zM) : Option (Int32 × zM) :=
  (f_X12_within x1 32 126 m).bind fun r1 => if (bi r1) = 0 then (some (-10002, m)) else (if (m.1 68 0) = 40 then (some (-10004, m)) else (zg (zin (m.1 68 0) 40) (some ((m.1 68 0) + 1, (zi (zi m 69 ((m.1 68 0).toNatClampNeg) x1) 68 0 ((m.1 68 0) + 1))))))
def f_X11_blank  (m : zM) : Option (Int32 × zM) :=
  some (m.1 1 1, (zi m 1 1 0))
def f_X12_blank  (m : zM) : Option (Int32 × zM) :=
  some (m.1 68 0, (zi m 68 0 0))
def b_X2_copyFrom_2   (s : (Int32 × zM)) : Option ((Int32 × zM) ⊕ (zM)) :=
  if 5 ≤ s.1 then (some (.inr s.2)) else (zg (zin s.1 5) (zg (zin s.1 5) (zg (zb (s.2.1 20 s.1.toNatClampNeg)) (zg (zin s.1 5) (zg (zin s.1 5) (zg (zin s.1 5) (zg (zin s.1 5) (zg (zin s.1 5) (zg (zin s.1 5) (some (.inl ((s.1 + 1), (zi (zi (zi (zi s.2 4 s.1.toNatClampNeg (s.2.1 20 s.1.toNatClampNeg)) 5 s.1.toNatClampNeg (s.2.1 21 s.1.toNatClampNeg)) 6 s.1.toNatClampNeg (s.2.1 22 s.1.toNatClampNeg)) 7 s.1.toNatClampNeg (s.2.1 23 s.1.toNatClampNeg))))))))))))))
def f_X2_copyFrom  (m : zM) : Option zM :=
  (zloop (b_X2_copyFrom_2 ) zFU (0, m)).bind fun r10 => some r10
def f_X5_codeHere  (m : zM) : Option Int32 :=
  if (m.1 1 1) ≤ (m.1 1 3) then (some (-1)) else (zg (zin (m.1 1 3) 40) (some (m.1 2 (m.1 1 3).toNatClampNeg)))
def f_X5_digitHere  (m : zM) : Option Int32 :=
  (f_X5_codeHere m).bind fun r1 => (f_X11_within r1 48 57 m).bind fun r2 => if (bi r2) = 0 then (some (-1)) else (some (r1 - 48))
def f_X5_take (x1 : Int32) (m : zM) : Option (Bool × zM) :=
  (f_X5_codeHere m).bind fun r1 => if r1 = x1 then (some (true, (zi m 1 3 ((m.1 1 3) + 1)))) else (some (false, m))
def j_X5_readNumber_44 (x1 : Int32) (x2 : Int32) (x3 : Int32) (x4 : Int32) (s0 : Int32) (m : zM) : Option ((Int32 × Int32 × zM) ⊕ ((Int32 × zM) ⊕ (Int32 × zM))) :=
  if x3 = 0 then (some (.inr (.inr (-1, m)))) else (if s0 ≤ x2 then (some (.inl (s0, (x4 + 1), (zi m 1 3 ((m.1 1 3) + 1))))) else (some (.inr (.inr (-1, m)))))
def b_X5_readNumber_5 (x1 : Int32) (x2 : Int32)  (s : (Int32 × Int32 × zM)) : Option ((Int32 × Int32 × zM) ⊕ ((Int32 × zM) ⊕ (Int32 × zM))) :=
  if 40 ≤ s.2.1 then (some (.inr (.inl (s.1, s.2.2)))) else ((f_X5_digitHere s.2.2).bind fun r1 => if r1 = (-1) then (some (.inr (.inl (s.1, s.2.2)))) else (if s.1 = (-1) then (j_X5_readNumber_44 x1 x2 s.1 s.2.1 r1 s.2.2) else (j_X5_readNumber_44 x1 x2 s.1 s.2.1 ((10 * s.1) + r1) s.2.2)))
def j_X5_readNumber_77 (x1 : Int32) (x3 : Int32) (m : zM) : Option (Int32 × zM) :=
  if x1 ≤ x3 then (some (x3, m)) else (some (-1, m))
def f_X5_readNumber (x1 : Int32) (x2 : Int32) (m : zM) : Option (Int32 × zM) :=
  (zloop (b_X5_readNumber_5 x1 x2) zFU (-1, 0, m)).bind fun r2 => Sum.elim (fun r2 => j_X5_readNumber_77 x1 r2.1 r2.2) (fun v3 => some v3) r2
def f_X2_put (x1 : Int32) (x2 : Int32) (x3 : Int32) (x4 : Int32) (m : zM) : Option zM :=
  zg (zin x1 5) (zg (zin x1 5) (zg (zin x1 5) (zg (zin x1 5) (some (zi (zi (zi (zi m 4 x1.toNatClampNeg 1) 5 x1.toNatClampNeg x2) 6 x1.toNatClampNeg x3) 7 x1.toNatClampNeg x4)))))
def f_X5_readPlace (x1 : Int32) (m : zM) : Option (Bool × zM) :=
  (f_X5_readNumber 0 (m.1 1 4) m).bind fun r1 => if r1.1 = (-1) then (some (false, r1.2)) else ((f_X5_take 44 r1.2).bind fun r2 => if (bi r2.1) = 0 then (some (false, r2.2)) else ((f_X5_readNumber 0 (r2.2.1 1 5) r2.2).bind fun r3 => if r3.1 = (-1) then (some (false, r3.2)) else ((f_X5_take 42 r3.2).bind fun r4 => if (bi r4.1) = 0 then (some (false, r4.2)) else ((f_X5_readNumber 10 250 r4.2).bind fun r5 => if r5.1 = (-1) then (some (false, r5.2)) else ((f_X2_put x1 r1.1 r3.1 r5.1 r5.2).bind fun m6 => some (true, m6))))))
def f_X5_readPart  (m : zM) : Option (Bool × zM) :=
  (f_X5_digitHere m).bind fun r1 => (f_X11_within r1 0 4 m).bind fun r2 => if (bi r2) = 0 then (some (false, m)) else ((f_X5_take 45 (zi m 1 3 ((m.1 1 3) + 1))).bind fun r3 => if (bi r3.1) = 0 then ((f_X5_take 64 r3.2).bind fun r4 => if (bi r4.1) = 0 then (some (false, r4.2)) else ((f_X5_readPlace r1 r4.2).bind fun r5 => if (bi r5.1) = 0 then (some (false, r5.2)) else (some (true, r5.2)))) else (zg (zin r1 5) (some (true, (zi r3.2 4 r1.toNatClampNeg 0)))))
def b_X5_read_39   (s : (Int32 × zM)) : Option ((Int32 × zM) ⊕ ((zM) ⊕ (Bool × zM))) :=
  if 40 ≤ s.1 then (some (.inr (.inl s.2))) else ((f_X5_readPart s.2).bind fun r2 => if (bi r2.1) = 0 then (some (.inr (.inr (false, r2.2)))) else (if (r2.2.1 1 3) < (r2.2.1 1 1) then ((f_X5_take 59 r2.2).bind fun r3 => if (bi r3.1) = 0 then (some (.inr (.inr (false, r3.2)))) else (some (.inl ((s.1 + 1), r3.2)))) else (some (.inr (.inr (true, r2.2))))))
def f_X5_read  (m : zM) : Option (Bool × zM) :=
  (f_X2_copyFrom (zi (zi m 1 4 ((2 * (m.1 14 0)) - 2)) 1 5 ((2 * (m.1 14 1)) - 2))).bind fun m1 => (zloop (b_X5_read_39 ) zFU (0, (zi m1 1 3 0))).bind fun r4 => Sum.elim (fun r4 => some (false, r4)) (fun v5 => some v5) r4
def f_X11_fault  (m : zM) : Option (Int32 × zM) :=
  if (m.1 13 7) = 0 then (some (-10003, m)) else ((f_X5_read m).bind fun r1 => some (r1.2.1 1 3, r1.2))
def f_X12_isGlass  (m : zM) : Option Bool :=
  if (m.1 68 2) ≤ 0 then (some false) else (some true)
def j_X12_goes_29 (x1 : Int32) (s0 : Int32) (m : zM) : Option (Bool × zM) :=
  zg (zb x1) (some ((decide (x1 = 1)), (zi m 68 48 s0)))
def j_X12_goes_13 (x1 : Int32) (s0 : Int32) (m : zM) : Option (Bool × zM) :=
  if x1 = 0 then (j_X12_goes_29 x1 (m.1 68 48) (zi m 68 47 s0)) else (j_X12_goes_29 x1 (-1) (zi m 68 47 s0))
def f_X12_goes (x1 : Int32) (x2 : Int32) (m : zM) : Option (Bool × zM) :=
  if x1 = 0 then (j_X12_goes_13 x1 (m.1 68 47) m) else (j_X12_goes_13 x1 x2 m)
def f_X12_takesDigit (x1 : Int32) (m : zM) : Option (Bool × zM) :=
  (f_X12_within x1 48 52 m).bind fun r1 => (f_X12_goes (bi r1) 1 (zi m 68 49 (x1 - 48))).bind fun r2 => some (r2.1, r2.2)
def j_X12_takesKind_58 (s0 : Int32) (m : zM) : Option (Bool × zM) :=
  (f_X12_goes s0 3 m).bind fun r1 => some (r1.1, r1.2)
def j_X12_takesKind_38 (s0 : Int32) (s1 : Int32) (m : zM) : Option (Bool × zM) :=
  zg (zin s1 5) (zg (zb s0) ((f_X12_goes 1 2 (zi m 75 s1.toNatClampNeg s0)).bind fun r5 => some (r5.1, r5.2)))
def j_X12_takesKind_37 (s0 : Int32) (m : zM) : Option (Bool × zM) :=
  j_X12_takesKind_38 0 s0 m
def f_X12_takesKind (x1 : Int32) (m : zM) : Option (Bool × zM) :=
  if x1 = 45 then (zg (zin (m.1 68 49) 5) (if (m.1 75 (m.1 68 49).toNatClampNeg) = 0 then (j_X12_takesKind_37 (m.1 68 49) m) else (if (m.1 68 52) = 0 then (j_X12_takesKind_38 1 (m.1 68 49) m) else (j_X12_takesKind_37 (m.1 68 49) m)))) else (if x1 = 64 then (j_X12_takesKind_58 1 m) else (j_X12_takesKind_58 0 m))
def f_X12_putOn (x1 : Int32) (m : zM) : Option zM :=
  if (m.1 68 52) = 0 then (some m) else (zg (zin (m.1 68 49) 5) (zg (zin (m.1 68 49) 5) (zg (zin (m.1 68 49) 5) (zg (zin (m.1 68 49) 5) (some (zi (zi (zi (zi m 75 ((m.1 68 49).toNatClampNeg) 1) 76 ((m.1 68 49).toNatClampNeg) (m.1 68 50)) 77 ((m.1 68 49).toNatClampNeg) (m.1 68 51)) 78 ((m.1 68 49).toNatClampNeg) x1))))))
def j_X12_takesSign_102 (x3 : Int32) (m : zM) : Option (Bool × zM) :=
  (f_X12_goes x3 0 m).bind fun r1 => some (r1.1, r1.2)
def j_X12_takesSign_92 (x2 : Int32) (s0 : Int32) (m : zM) : Option (Bool × zM) :=
  if s0 = 0 then (j_X12_takesSign_102 s0 m) else ((f_X12_putOn x2 m).bind fun m2 => j_X12_takesSign_102 s0 m2)
def j_X12_takesSign_91 (x2 : Int32) (m : zM) : Option (Bool × zM) :=
  j_X12_takesSign_92 x2 0 m
def j_X12_takesSign_70 (s0 : Int32) (m : zM) : Option (Bool × zM) :=
  (f_X12_goes s0 5 m).bind fun r3 => some (r3.1, r3.2)
def j_X12_takesSign_69  (m : zM) : Option (Bool × zM) :=
  j_X12_takesSign_70 0 m
def j_X12_takesSign_35 (s0 : Int32) (m : zM) : Option (Bool × zM) :=
  (f_X12_goes s0 4 m).bind fun r4 => some (r4.1, r4.2)
def j_X12_takesSign_34  (m : zM) : Option (Bool × zM) :=
  j_X12_takesSign_35 0 m
def f_X12_takesSign (x1 : Int32) (m : zM) : Option (Bool × zM) :=
  if (m.1 68 47) = 3 then (if x1 = 44 then (if (m.1 68 48) = (-1) then (j_X12_takesSign_34 (zi m 68 50 (m.1 68 48))) else (j_X12_takesSign_35 1 (zi m 68 50 (m.1 68 48)))) else (j_X12_takesSign_34 (zi m 68 50 (m.1 68 48)))) else (if (m.1 68 47) = 4 then (if x1 = 42 then (if (m.1 68 48) = (-1) then (j_X12_takesSign_69 (zi m 68 51 (m.1 68 48))) else (j_X12_takesSign_70 1 (zi m 68 51 (m.1 68 48)))) else (j_X12_takesSign_69 (zi m 68 51 (m.1 68 48)))) else (if x1 = 59 then (if (m.1 68 48) < 10 then (j_X12_takesSign_91 (m.1 68 48) m) else (j_X12_takesSign_92 (m.1 68 48) 1 m)) else (j_X12_takesSign_91 (m.1 68 48) m)))
def f_X12_mostNow  (m : zM) : Option Int32 :=
  if (m.1 68 47) = 3 then (some ((2 * (m.1 68 2)) - 2)) else (if (m.1 68 47) = 4 then (some ((2 * (m.1 68 3)) - 2)) else (some 250))
def j_X12_takesFigure_56 (x3 : Int32) (s0 : Int32) (m : zM) : Option (Bool × zM) :=
  zg (zb x3) (some ((decide (x3 = 1)), (zi m 68 48 s0)))
def j_X12_takesFigure_42 (x2 : Int32) (s0 : Int32) (m : zM) : Option (Bool × zM) :=
  if s0 = 0 then (j_X12_takesFigure_56 s0 (m.1 68 48) m) else (j_X12_takesFigure_56 s0 x2 m)
def j_X12_takesFigure_41 (x2 : Int32) (m : zM) : Option (Bool × zM) :=
  j_X12_takesFigure_42 x2 0 m
def j_X12_takesFigure_21 (s0 : Int32) (m : zM) : Option (Bool × zM) :=
  if (m.1 68 48) = 0 then (j_X12_takesFigure_41 s0 m) else ((f_X12_mostNow m).bind fun r2 => if r2 < s0 then (j_X12_takesFigure_41 s0 m) else (j_X12_takesFigure_42 s0 1 m))
def f_X12_takesFigure (x1 : Int32) (m : zM) : Option (Bool × zM) :=
  if (m.1 68 48) = (-1) then (j_X12_takesFigure_21 x1 m) else (j_X12_takesFigure_21 ((10 * (m.1 68 48)) + x1) m)
def j_X12_takes_56 (s0 : Int32) (m : zM) : Option (Bool × zM) :=
  (f_X12_goes s0 0 m).bind fun r3 => some (r3.1, r3.2)
def f_X12_takes (x1 : Int32) (m : zM) : Option (Bool × zM) :=
  if (m.1 68 47) = 0 then ((f_X12_takesDigit x1 m).bind fun r1 => some (r1.1, r1.2)) else (if (m.1 68 47) = 1 then ((f_X12_takesKind x1 m).bind fun r2 => some (r2.1, r2.2)) else (if (m.1 68 47) = 2 then (if x1 = 59 then (j_X12_takes_56 1 m) else (j_X12_takes_56 0 m)) else ((f_X12_within x1 48 57 m).bind fun r4 => if (bi r4) = 0 then ((f_X12_takesSign x1 m).bind fun r5 => some (r5.1, r5.2)) else ((f_X12_takesFigure (x1 - 48) m).bind fun r6 => some (r6.1, r6.2)))))
def b_X12_goAlong_17   (s : (Int32 × zM)) : Option ((Int32 × zM) ⊕ (Int32 × zM)) :=
  if (s.2.1 68 0) ≤ s.1 then (some (.inr (s.1, s.2))) else (zg (zin s.1 40) ((f_X12_takes (s.2.1 69 s.1.toNatClampNeg) s.2).bind fun r3 => if (bi r3.1) = 0 then (some (.inr (s.1, r3.2))) else (some (.inl ((s.1 + 1), r3.2)))))
def f_X12_goAlong (x1 : Int32) (m : zM) : Option (Int32 × zM) :=
  zg (zb x1) ((zloop (b_X12_goAlong_17 ) zFU (0, (zi (zi (zi m 68 47 0) 68 48 (-1)) 68 52 x1))).bind fun r4 => some (r4.1, r4.2))
def f_X12_fault  (m : zM) : Option (Int32 × zM) :=
  (f_X12_isGlass m).bind fun r1 => if (bi r1) = 0 then (some (-10003, m)) else ((f_X12_goAlong 0 m).bind fun r2 => some (r2.1, r2.2))
def b_X2_copyFrom_v1_2   (s : (Int32 × zM)) : Option ((Int32 × zM) ⊕ (zM)) :=
  if 5 ≤ s.1 then (some (.inr s.2)) else (zg (zin s.1 5) (zg (zin s.1 5) (zg (zb (s.2.1 4 s.1.toNatClampNeg)) (zg (zin s.1 5) (zg (zin s.1 5) (zg (zin s.1 5) (zg (zin s.1 5) (zg (zin s.1 5) (zg (zin s.1 5) (some (.inl ((s.1 + 1), (zi (zi (zi (zi s.2 20 s.1.toNatClampNeg (s.2.1 4 s.1.toNatClampNeg)) 21 s.1.toNatClampNeg (s.2.1 5 s.1.toNatClampNeg)) 22 s.1.toNatClampNeg (s.2.1 6 s.1.toNatClampNeg)) 23 s.1.toNatClampNeg (s.2.1 7 s.1.toNatClampNeg))))))))))))))
def f_X2_copyFrom_v1  (m : zM) : Option zM :=
  (zloop (b_X2_copyFrom_v1_2 ) zFU (0, m)).bind fun r10 => some r10
def f_J9_max_7cf53 (x0 : Int32) (x1 : Int32) (m : zM) : Option Int32 :=
  if x0 < x1 then (some x1) else (some x0)
def j_X2_sensedAt_76 (x1 : Int32) (x2 : Int32) (x3 : Int32) (x4 : Int32) (m : zM) : Option ((Int32 × Int32) ⊕ (Int32)) :=
  some (.inl (x3, (x4 + 1)))
def b_X2_sensedAt_5 (x1 : Int32) (x2 : Int32) (m : zM) (s : (Int32 × Int32)) : Option ((Int32 × Int32) ⊕ (Int32)) :=
  if 5 ≤ s.2 then (some (.inr s.1)) else (zg (zin s.2 5) (if (m.1 20 s.2.toNatClampNeg) = 0 then (j_X2_sensedAt_76 x1 x2 s.1 s.2 m) else (zg (zin s.2 5) (zg (zin s.2 5) (zg (zin s.2 5) ((f_J9_max_7cf53 0 ((m.1 23 s.2.toNatClampNeg) - (12 * ((((2 * x1) - (m.1 21 s.2.toNatClampNeg)) * ((2 * x1) - (m.1 21 s.2.toNatClampNeg))) + (((2 * x2) - (m.1 22 s.2.toNatClampNeg)) * ((2 * x2) - (m.1 22 s.2.toNatClampNeg)))))) m).bind fun r5 => j_X2_sensedAt_76 x1 x2 (s.1 + r5) s.2 m))))))
def f_X2_sensedAt (x1 : Int32) (x2 : Int32) (m : zM) : Option Int32 :=
  (zloop (b_X2_sensedAt_5 x1 x2 m) zFU (0, 0)).bind fun r6 => some r6
def b_X9_feel_2   (s : (Int32 × zM)) : Option ((Int32 × zM) ⊕ (zM)) :=
  if (s.2.1 14 2) ≤ s.1 then (some (.inr s.2)) else (zg (zin s.1 64) (zg (zin s.1 64) ((f_X2_sensedAt (s.2.1 15 s.1.toNatClampNeg) (s.2.1 16 s.1.toNatClampNeg) s.2).bind fun r3 => zg (zin s.1 64) (some (.inl ((s.1 + 1), (zi s.2 34 s.1.toNatClampNeg r3)))))))
def f_X9_feel  (m : zM) : Option zM :=
  (zloop (b_X9_feel_2 ) zFU (0, m)).bind fun r5 => some r5
def j_X2_onCount_21 (x1 : Int32) (x2 : Int32) (m : zM) : Option ((Int32 × Int32) ⊕ (Int32)) :=
  some (.inl (x1, (x2 + 1)))
def b_X2_onCount_4  (m : zM) (s : (Int32 × Int32)) : Option ((Int32 × Int32) ⊕ (Int32)) :=
  if 5 ≤ s.2 then (some (.inr s.1)) else (zg (zin s.2 5) (if (m.1 20 s.2.toNatClampNeg) = 0 then (j_X2_onCount_21 s.1 s.2 m) else (j_X2_onCount_21 (s.1 + 1) s.2 m)))
def f_X2_onCount  (m : zM) : Option Int32 :=
  (zloop (b_X2_onCount_4 m) zFU (0, 0)).bind fun r2 => some r2
def f_X11_fingers  (m : zM) : Option (Int32 × zM) :=
  if (m.1 13 7) = 0 then (some (-10003, m)) else ((f_X5_read m).bind fun r1 => if (bi r1.1) = 0 then (some (-10003, r1.2)) else ((f_X2_copyFrom_v1 r1.2).bind fun m2 => (f_X9_feel m2).bind fun m3 => (f_X2_onCount (zi (zi m3 1 1 0) 0 3 ((m3.1 0 3) + 1))).bind fun r4 => some (r4, (zi (zi m3 1 1 0) 0 3 ((m3.1 0 3) + 1)))))
def j_X12_onMany_24 (x2 : Int32) (s0 : Int32) (s1 : Int32) (m : zM) : Option ((Int32 × Int32) ⊕ (Int32)) :=
  some (.inl ((s1 + s0), (x2 + 1)))
def b_X12_onMany_4  (m : zM) (s : (Int32 × Int32)) : Option ((Int32 × Int32) ⊕ (Int32)) :=
  if 5 ≤ s.2 then (some (.inr s.1)) else (zg (zin s.2 5) (if (m.1 75 s.2.toNatClampNeg) = 0 then (j_X12_onMany_24 s.2 0 s.1 m) else (j_X12_onMany_24 s.2 1 s.1 m)))
def f_X12_onMany  (m : zM) : Option Int32 :=
  (zloop (b_X12_onMany_4 m) zFU (0, 0)).bind fun r2 => some r2
def j_X12_fingers_84  (m : zM) : Option (Int32 × zM) :=
  (f_X12_onMany (zi (zi m 68 45 ((m.1 68 45) + 1)) 68 0 0)).bind fun r4 => some (r4, (zi (zi m 68 45 ((m.1 68 45) + 1)) 68 0 0))
def j_X12_fingers_53 (s0 : Int32) (m : zM) : Option (Int32 × zM) :=
  if s0 = 0 then (some (-10003, m)) else ((f_X12_goAlong 1 m).bind fun r3 => if (r3.2.1 68 47) = 5 then ((f_X12_putOn (r3.2.1 68 48) r3.2).bind fun m5 => j_X12_fingers_84 m5) else (j_X12_fingers_84 r3.2))
def j_X12_fingers_52  (m : zM) : Option (Int32 × zM) :=
  j_X12_fingers_53 0 m
def j_X12_fingers_48  (m : zM) : Option (Int32 × zM) :=
  j_X12_fingers_53 1 m
def f_X12_fingers  (m : zM) : Option (Int32 × zM) :=
  (f_X12_isGlass m).bind fun r1 => if (bi r1) = 0 then (some (-10003, m)) else ((f_X12_goAlong 0 m).bind fun r2 => if r2.1 = (r2.2.1 68 0) then (if (r2.2.1 68 47) = 2 then (j_X12_fingers_48 r2.2) else (if (r2.2.1 68 47) = 5 then (if (r2.2.1 68 48) < 10 then (j_X12_fingers_52 r2.2) else (j_X12_fingers_48 r2.2)) else (j_X12_fingers_52 r2.2))) else (j_X12_fingers_52 r2.2))
def f_J9_min_7cf53 (x0 : Int32) (x1 : Int32) (m : zM) : Option Int32 :=
  if x1 < x0 then (some x1) else (some x0)
def j_X1_listAround_101 (x1 : Int32) (x2 : Int32) (x3 : Int32) (x4 : Int32) (x5 : Int32) (x6 : Int32) (m : zM) : Option ((Int32 × Int32 × zM) ⊕ (Int32 × zM)) :=
  some (.inl (x4, (x6 + 1), m))
def j_X1_listAround_76 (x1 : Int32) (x2 : Int32) (x3 : Int32) (x4 : Int32) (x5 : Int32) (x6 : Int32) (m : zM) : Option ((Int32 × Int32 × zM) ⊕ (Int32 × zM)) :=
  zg (zin ((8 * x3) + x4) 512) (j_X1_listAround_101 x1 x2 x3 (x4 + 1) x5 x6 (zi m 18 (((8 * x3) + x4).toNatClampNeg) (((m.1 14 0) * x5) + x6)))
def b_X1_listAround_47 (x1 : Int32) (x2 : Int32) (x3 : Int32) (x5 : Int32)  (s : (Int32 × Int32 × zM)) : Option ((Int32 × Int32 × zM) ⊕ (Int32 × zM)) :=
  (f_J9_min_7cf53 ((s.2.2.1 14 0) - 1) (x1 + 1) s.2.2).bind fun r4 => if r4 < s.2.1 then (some (.inr (s.1, s.2.2))) else (if s.2.1 = x1 then (if x5 = x2 then (j_X1_listAround_101 x1 x2 x3 s.1 x5 s.2.1 s.2.2) else (j_X1_listAround_76 x1 x2 x3 s.1 x5 s.2.1 s.2.2)) else (j_X1_listAround_76 x1 x2 x3 s.1 x5 s.2.1 s.2.2))
def b_X1_listAround_21 (x1 : Int32) (x2 : Int32) (x3 : Int32)  (s : (Int32 × Int32 × zM)) : Option ((Int32 × Int32 × zM) ⊕ (Int32 × zM)) :=
  (f_J9_min_7cf53 ((s.2.2.1 14 1) - 1) (x2 + 1) s.2.2).bind fun r2 => if r2 < s.2.1 then (some (.inr (s.1, s.2.2))) else ((f_J9_max_7cf53 0 (x1 - 1) s.2.2).bind fun r3 => (zloop (b_X1_listAround_47 x1 x2 x3 s.2.1) zFU (s.1, r3, s.2.2)).bind fun r6 => some (.inl (r6.1, (s.2.1 + 1), r6.2)))
def f_X1_listAround (x1 : Int32) (x2 : Int32) (m : zM) : Option zM :=
  (f_J9_max_7cf53 0 (x2 - 1) m).bind fun r1 => (zloop (b_X1_listAround_21 x1 x2 (((m.1 14 0) * x2) + x1)) zFU (0, r1, m)).bind fun r7 => zg (zin (((m.1 14 0) * x2) + x1) 64) (some (zi r7.2 17 ((((m.1 14 0) * x2) + x1).toNatClampNeg) r7.1))
def b_X1_lay_36 (x3 : Int32)  (s : (Int32 × zM)) : Option ((Int32 × zM) ⊕ (zM)) :=
  if (s.2.1 14 0) ≤ s.1 then (some (.inr s.2)) else (zg (zin (((s.2.1 14 0) * x3) + s.1) 64) (zg (zin (((s.2.1 14 0) * x3) + s.1) 64) ((f_X1_listAround s.1 x3 (zi (zi s.2 15 ((((s.2.1 14 0) * x3) + s.1).toNatClampNeg) s.1) 16 ((((s.2.1 14 0) * x3) + s.1).toNatClampNeg) x3)).bind fun m3 => some (.inl ((s.1 + 1), m3)))))
def b_X1_lay_25   (s : (Int32 × zM)) : Option ((Int32 × zM) ⊕ (zM)) :=
  if (s.2.1 14 1) ≤ s.1 then (some (.inr s.2)) else ((zloop (b_X1_lay_36 s.1) zFU (0, s.2)).bind fun r4 => some (.inl ((s.1 + 1), r4)))
def f_X1_lay (x1 : Int32) (x2 : Int32) (m : zM) : Option zM :=
  (zloop (b_X1_lay_25 ) zFU (0, (zi (zi (zi m 14 0 x1) 14 1 x2) 14 2 (x1 * x2)))).bind fun r5 => some r5
def b_X2_liftAll_2   (s : (Int32 × zM)) : Option ((Int32 × zM) ⊕ (zM)) :=
  if 5 ≤ s.1 then (some (.inr s.2)) else (zg (zin s.1 5) (some (.inl ((s.1 + 1), (zi s.2 20 s.1.toNatClampNeg 0)))))
def f_X2_liftAll  (m : zM) : Option zM :=
  (zloop (b_X2_liftAll_2 ) zFU (0, m)).bind fun r2 => some r2
def b_J7_fill_53178_5 (x1 : Int32) (x3 : Int32)  (s : (Int32 × zM)) : Option ((Int32 × zM) ⊕ (zM)) :=
  if x3 ≤ s.1 then (some (.inr s.2)) else (zg (zin s.1 3) (some (.inl ((s.1 + 1), (zi s.2 25 s.1.toNatClampNeg x1)))))
def f_J7_fill_53178 (x1 : Int32) (m : zM) : Option zM :=
  (zloop (b_J7_fill_53178_5 x1 3) zFU (0, m)).bind fun r2 => some r2
def f_X0_renew  (m : zM) : Option zM :=
  (f_J7_fill_53178 0 m).bind fun m1 => some (zi (zi m1 24 1 0) 24 2 1)
def b_J7_fill_53178_v1_5 (x1 : Int32) (x3 : Int32)  (s : (Int32 × zM)) : Option ((Int32 × zM) ⊕ (zM)) :=
  if x3 ≤ s.1 then (some (.inr s.2)) else (zg (zin s.1 64) (some (.inl ((s.1 + 1), (zi s.2 32 s.1.toNatClampNeg x1)))))
def f_J7_fill_53178_v1 (x1 : Int32) (m : zM) : Option zM :=
  (zloop (b_J7_fill_53178_v1_5 x1 64) zFU (0, m)).bind fun r2 => some r2
def b_J7_fill_53178_v2_5 (x1 : Int32) (x3 : Int32)  (s : (Int32 × zM)) : Option ((Int32 × zM) ⊕ (zM)) :=
  if x3 ≤ s.1 then (some (.inr s.2)) else (zg (zin s.1 64) (some (.inl ((s.1 + 1), (zi s.2 33 s.1.toNatClampNeg x1)))))
def f_J7_fill_53178_v2 (x1 : Int32) (m : zM) : Option zM :=
  (zloop (b_J7_fill_53178_v2_5 x1 64) zFU (0, m)).bind fun r2 => some r2
def b_J7_fill_53178_v3_5 (x1 : Int32) (x3 : Int32)  (s : (Int32 × zM)) : Option ((Int32 × zM) ⊕ (zM)) :=
  if x3 ≤ s.1 then (some (.inr s.2)) else (zg (zin s.1 64) (some (.inl ((s.1 + 1), (zi s.2 34 s.1.toNatClampNeg x1)))))
def f_J7_fill_53178_v3 (x1 : Int32) (m : zM) : Option zM :=
  (zloop (b_J7_fill_53178_v3_5 x1 64) zFU (0, m)).bind fun r2 => some r2
def b_J7_fill_53178_v4_5 (x1 : Int32) (x3 : Int32)  (s : (Int32 × zM)) : Option ((Int32 × zM) ⊕ (zM)) :=
  if x3 ≤ s.1 then (some (.inr s.2)) else (zg (zin s.1 64) (some (.inl ((s.1 + 1), (zi s.2 35 s.1.toNatClampNeg x1)))))
def f_J7_fill_53178_v4 (x1 : Int32) (m : zM) : Option zM :=
  (zloop (b_J7_fill_53178_v4_5 x1 64) zFU (0, m)).bind fun r2 => some r2
def b_J7_fill_53178_v5_5 (x1 : Int32) (x3 : Int32)  (s : (Int32 × zM)) : Option ((Int32 × zM) ⊕ (zM)) :=
  if x3 ≤ s.1 then (some (.inr s.2)) else (zg (zin s.1 64) (some (.inl ((s.1 + 1), (zi s.2 36 s.1.toNatClampNeg x1)))))
def f_J7_fill_53178_v5 (x1 : Int32) (m : zM) : Option zM :=
  (zloop (b_J7_fill_53178_v5_5 x1 64) zFU (0, m)).bind fun r2 => some r2
def f_X9_renew  (m : zM) : Option zM :=
  (f_J7_fill_53178_v1 100 m).bind fun m1 => (f_J7_fill_53178_v2 100 m1).bind fun m2 => (f_J7_fill_53178_v3 0 m2).bind fun m3 => (f_J7_fill_53178_v4 0 m3).bind fun m4 => (f_J7_fill_53178_v5 0 m4).bind fun m5 => some m5
def b_J7_fill_53178_v6_5 (x1 : Int32) (x3 : Int32)  (s : (Int32 × zM)) : Option ((Int32 × zM) ⊕ (zM)) :=
  if x3 ≤ s.1 then (some (.inr s.2)) else (zg (zin s.1 64) (some (.inl ((s.1 + 1), (zi s.2 52 s.1.toNatClampNeg x1)))))
def f_J7_fill_53178_v6 (x1 : Int32) (m : zM) : Option zM :=
  (zloop (b_J7_fill_53178_v6_5 x1 64) zFU (0, m)).bind fun r2 => some r2
def f_X8_clear  (m : zM) : Option zM :=
  (f_J7_fill_53178_v6 (-1) (zi m 44 4 0)).bind fun m1 => some m1
def f_X7_renew (x1 : Int32) (x2 : Int32) (m : zM) : Option zM :=
  (f_X1_lay x1 x2 (zi m 13 7 1)).bind fun m1 => (f_X2_liftAll m1).bind fun m2 => (f_X0_renew m2).bind fun m3 => (f_X9_renew (zcp m3 (zxs 1003) 26 0 0 9)).bind fun m4 => (f_X8_clear m4).bind fun m5 => some (zi (zi (zi (zi m5 60 1 0) 13 12 0) 13 13 0) 13 14 0)
def f_X11_glass (x1 : Int32) (x2 : Int32) (m : zM) : Option (Int32 × zM) :=
  (f_X11_within x1 3 8 m).bind fun r1 => if (bi r1) = 0 then (some (-10002, m)) else ((f_X11_within x2 3 8 m).bind fun r2 => if (bi r2) = 0 then (some (-10002, m)) else ((f_X7_renew x1 x2 m).bind fun m3 => some (m3.1 14 2, (zi m3 0 4 ((m3.1 0 4) + 1)))))
def f_X12_layBounds  (m : zM) : Option zM :=
  some (zi (zi (zi (zi (zi (zi (zi (zi (zi m 80 0 40) 80 1 20) 80 2 80) 80 3 10) 80 4 24) 80 5 1) 80 6 6) 80 7 2) 80 8 30)
def f_X12_cells  (m : zM) : Option Int32 :=
  some ((m.1 68 2) * (m.1 68 3))
def b_X12_glass_36   (s : (Int32 × zM)) : Option ((Int32 × zM) ⊕ (zM)) :=
  if 64 ≤ s.1 then (some (.inr s.2)) else (zg (zin s.1 64) (zg (zin s.1 64) (zg (zin s.1 64) (zg (zin s.1 64) (zg (zin s.1 64) (some (.inl ((s.1 + 1), (zi (zi (zi (zi (zi s.2 70 s.1.toNatClampNeg 100) 71 s.1.toNatClampNeg 100) 72 s.1.toNatClampNeg 0) 73 s.1.toNatClampNeg 0) 74 s.1.toNatClampNeg (-1))))))))))
def b_X12_glass_87   (s : (Int32 × zM)) : Option ((Int32 × zM) ⊕ (zM)) :=
  if 5 ≤ s.1 then (some (.inr s.2)) else (zg (zin s.1 5) (some (.inl ((s.1 + 1), (zi s.2 75 s.1.toNatClampNeg 0)))))
def b_X12_glass_107   (s : (Int32 × zM)) : Option ((Int32 × zM) ⊕ (zM)) :=
  if 3 ≤ s.1 then (some (.inr s.2)) else (zg (zin s.1 3) (some (.inl ((s.1 + 1), (zi s.2 79 s.1.toNatClampNeg 0)))))
def f_X12_glass (x1 : Int32) (x2 : Int32) (m : zM) : Option (Int32 × zM) :=
  (f_X12_within x1 3 8 m).bind fun r1 => if (bi r1) = 0 then (some (-10002, m)) else ((f_X12_within x2 3 8 m).bind fun r2 => if (bi r2) = 0 then (some (-10002, m)) else ((zloop (b_X12_glass_36 ) zFU (0, (zi (zi m 68 2 x1) 68 3 x2))).bind fun r8 => (zloop (b_X12_glass_87 ) zFU (0, r8)).bind fun r10 => (zloop (b_X12_glass_107 ) zFU (0, r10)).bind fun r12 => (f_X12_layBounds r12).bind fun m13 => (f_X12_cells (zi (zi (zi (zi (zi (zi (zi (zi m13 68 15 0) 68 16 1) 68 17 0) 68 18 0) 68 19 0) 68 20 0) 68 27 0) 68 46 ((m13.1 68 46) + 1))).bind fun r14 => some (r14, (zi (zi (zi (zi (zi (zi (zi (zi m13 68 15 0) 68 16 1) 68 17 0) 68 18 0) 68 19 0) 68 20 0) 68 27 0) 68 46 ((m13.1 68 46) + 1)))))
def f_X7_hasCell (x1 : Int32) (m : zM) : Option Bool :=
  if (m.1 13 7) = 0 then (some false) else ((f_X11_within x1 0 ((m.1 14 2) - 1) m).bind fun r1 => if (bi r1) = 0 then (some false) else (some true))
def f_X11_air (x1 : Int32) (x2 : Int32) (m : zM) : Option (Int32 × zM) :=
  (f_X7_hasCell x1 m).bind fun r1 => if (bi r1) = 0 then (some (-10001, m)) else ((f_X11_within x2 0 999 m).bind fun r2 => if (bi r2) = 0 then (some (-10002, m)) else (zg (zin x1 64) (zg (zin x1 64) (some (m.1 32 x1.toNatClampNeg, (zi m 32 x1.toNatClampNeg x2))))))
def f_X12_isCell (x1 : Int32) (m : zM) : Option Bool :=
  (f_X12_isGlass m).bind fun r1 => if (bi r1) = 0 then (some false) else ((f_X12_cells m).bind fun r2 => (f_X12_within x1 0 (r2 - 1) m).bind fun r3 => if (bi r3) = 0 then (some false) else (some true))
def f_X12_air (x1 : Int32) (x2 : Int32) (m : zM) : Option (Int32 × zM) :=
  (f_X12_isCell x1 m).bind fun r1 => if (bi r1) = 0 then (some (-10001, m)) else ((f_X12_within x2 0 999 m).bind fun r2 => if (bi r2) = 0 then (some (-10002, m)) else (zg (zin x1 64) (zg (zin x1 64) (some (m.1 70 x1.toNatClampNeg, (zi m 70 x1.toNatClampNeg x2))))))
def j_X9_addToBackgrounds_57 (x1 : Int32) (x2 : Int32) (x3 : Int32) (m : zM) : Option ((Int32 × Int32 × zM) ⊕ (Int32 × zM)) :=
  some (.inl (x2, (x3 + 1), m))
def b_X9_addToBackgrounds_4 (x1 : Int32)  (s : (Int32 × Int32 × zM)) : Option ((Int32 × Int32 × zM) ⊕ (Int32 × zM)) :=
  if (s.2.2.1 14 2) ≤ s.2.1 then (some (.inr (s.1, s.2.2))) else (zg (zin s.2.1 64) ((f_J9_min_7cf53 999 ((s.2.2.1 32 s.2.1.toNatClampNeg) + x1) s.2.2).bind fun r2 => (f_J9_max_7cf53 0 r2 s.2.2).bind fun r3 => zg (zin s.2.1 64) (if r3 = (s.2.2.1 32 s.2.1.toNatClampNeg) then (j_X9_addToBackgrounds_57 x1 s.1 s.2.1 s.2.2) else (zg (zin s.2.1 64) (j_X9_addToBackgrounds_57 x1 (s.1 + 1) s.2.1 (zi s.2.2 32 s.2.1.toNatClampNeg r3))))))
def f_X9_addToBackgrounds (x1 : Int32) (m : zM) : Option (Int32 × zM) :=
  (zloop (b_X9_addToBackgrounds_4 x1) zFU (0, 0, m)).bind fun r6 => some (r6.1, r6.2)
def f_X11_warm (x1 : Int32) (m : zM) : Option (Int32 × zM) :=
  if (m.1 13 7) = 0 then (some (-10003, m)) else ((f_X11_within x1 (-99) 99 m).bind fun r1 => if (bi r1) = 0 then (some (-10002, m)) else ((f_X9_addToBackgrounds x1 m).bind fun r2 => some (r2.1, r2.2)))
def f_X12_held (x0 : Int32) (m : zM) : Option Int32 :=
  if 0 ≤ x0 then (if x0 ≤ 999 then (some x0) else (some 999)) else (some 0)
def j_X12_warm_68 (x1 : Int32) (x3 : Int32) (x4 : Int32) (s0 : Int32) (s1 : Int32) (m : zM) : Option ((Int32 × Int32 × zM) ⊕ (Int32 × zM)) :=
  zg (zin x3 64) (some (.inl ((s1 + s0), (x3 + 1), (zi m 70 x3.toNatClampNeg x4))))
def b_X12_warm_30 (x1 : Int32)  (s : (Int32 × Int32 × zM)) : Option ((Int32 × Int32 × zM) ⊕ (Int32 × zM)) :=
  (f_X12_cells s.2.2).bind fun r3 => if r3 ≤ s.2.1 then (some (.inr (s.1, s.2.2))) else (zg (zin s.2.1 64) ((f_X12_held ((s.2.2.1 70 s.2.1.toNatClampNeg) + x1) s.2.2).bind fun r5 => zg (zin s.2.1 64) (if r5 = (s.2.2.1 70 s.2.1.toNatClampNeg) then (j_X12_warm_68 x1 s.2.1 r5 0 s.1 s.2.2) else (j_X12_warm_68 x1 s.2.1 r5 1 s.1 s.2.2))))
def f_X12_warm (x1 : Int32) (m : zM) : Option (Int32 × zM) :=
  (f_X12_isGlass m).bind fun r1 => if (bi r1) = 0 then (some (-10003, m)) else ((f_X12_within x1 (-99) 99 m).bind fun r2 => if (bi r2) = 0 then (some (-10002, m)) else ((zloop (b_X12_warm_30 x1) zFU (0, 0, m)).bind fun r8 => some (r8.1, r8.2)))
def f_X11_noise (x1 : Int32) (x2 : Int32) (m : zM) : Option (Int32 × zM) :=
  if (m.1 13 7) = 0 then (some (-10003, m)) else ((f_X11_within x1 0 2 m).bind fun r1 => if (bi r1) = 0 then (some (-10002, m)) else ((f_X11_within x2 0 60 m).bind fun r2 => if (bi r2) = 0 then (some (-10002, m)) else (zg (zin x1 3) (zg (zin x1 3) (some (m.1 25 x1.toNatClampNeg, (zi m 25 x1.toNatClampNeg x2)))))))
def f_X12_noise (x1 : Int32) (x2 : Int32) (m : zM) : Option (Int32 × zM) :=
  (f_X12_isGlass m).bind fun r1 => if (bi r1) = 0 then (some (-10003, m)) else ((f_X12_within x1 0 2 m).bind fun r2 => if (bi r2) = 0 then (some (-10002, m)) else ((f_X12_within x2 0 60 m).bind fun r3 => if (bi r3) = 0 then (some (-10002, m)) else (zg (zin x1 3) (zg (zin x1 3) (some (m.1 79 x1.toNatClampNeg, (zi m 79 x1.toNatClampNeg x2)))))))
def f_X11_seed (x1 : Int32) (m : zM) : Option (Int32 × zM) :=
  if (m.1 13 7) = 0 then (some (-10003, m)) else (if 0 ≤ x1 then (some (m.1 24 2, (zi m 24 2 x1))) else (some (-10002, m)))
def f_X12_seed (x1 : Int32) (m : zM) : Option (Int32 × zM) :=
  (f_X12_isGlass m).bind fun r1 => if (bi r1) = 0 then (some (-10003, m)) else (if 0 ≤ x1 then (some (m.1 68 16, (zi m 68 16 x1))) else (some (-10002, m)))
def f_X11_bound (x1 : Int32) (x2 : Int32) (m : zM) : Option (Int32 × zM) :=
  if (m.1 13 7) = 0 then (some (-10003, m)) else ((f_X11_within x1 0 8 m).bind fun r1 => if (bi r1) = 0 then (some (-10002, m)) else (zg (zin x1 9) (zg (zin x1 9) ((f_X11_within x2 (zxs 1001 x1.toNatClampNeg) (zxs 1002 x1.toNatClampNeg) m).bind fun r4 => if (bi r4) = 0 then (some (-10002, m)) else (zg (zin x1 9) (zg (zin x1 9) (some (m.1 26 x1.toNatClampNeg, (zi m 26 x1.toNatClampNeg x2)))))))))
def f_X12_isBound (x0 : Int32) (x1 : Int32) (m : zM) : Option Bool :=
  if x0 = 0 then ((f_X12_within x1 20 200 m).bind fun r1 => some r1) else (if x0 = 1 then ((f_X12_within x1 10 100 m).bind fun r2 => some r2) else (if x0 = 2 then ((f_X12_within x1 1 100 m).bind fun r3 => some r3) else (if x0 = 3 then ((f_X12_within x1 2 64 m).bind fun r4 => some r4) else (if x0 = 4 then ((f_X12_within x1 1 127 m).bind fun r5 => some r5) else (if x0 = 5 then ((f_X12_within x1 0 9 m).bind fun r6 => some r6) else (if x0 = 6 then ((f_X12_within x1 1 30 m).bind fun r7 => some r7) else (if x0 = 7 then ((f_X12_within x1 0 50 m).bind fun r8 => some r8) else (if x0 = 8 then ((f_X12_within x1 0 200 m).bind fun r9 => some r9) else (some false)))))))))
def f_X12_bound (x1 : Int32) (x2 : Int32) (m : zM) : Option (Int32 × zM) :=
  (f_X12_isGlass m).bind fun r1 => if (bi r1) = 0 then (some (-10003, m)) else ((f_X12_isBound x1 x2 m).bind fun r2 => if (bi r2) = 0 then (some (-10002, m)) else (zg (zin x1 9) (zg (zin x1 9) (some (m.1 80 x1.toNatClampNeg, (zi m 80 x1.toNatClampNeg x2))))))
def j_X9_baselinesToBackgrounds_45 (x1 : Int32) (x2 : Int32) (m : zM) : Option ((Int32 × Int32 × zM) ⊕ (Int32 × zM)) :=
  some (.inl (x1, (x2 + 1), m))
def b_X9_baselinesToBackgrounds_4   (s : (Int32 × Int32 × zM)) : Option ((Int32 × Int32 × zM) ⊕ (Int32 × zM)) :=
  if (s.2.2.1 14 2) ≤ s.2.1 then (some (.inr (s.1, s.2.2))) else (zg (zin s.2.1 64) (zg (zin s.2.1 64) (if (s.2.2.1 33 s.2.1.toNatClampNeg) = (s.2.2.1 32 s.2.1.toNatClampNeg) then (j_X9_baselinesToBackgrounds_45 s.1 s.2.1 s.2.2) else (zg (zin s.2.1 64) (zg (zin s.2.1 64) (j_X9_baselinesToBackgrounds_45 (s.1 + 1) s.2.1 (zi s.2.2 33 s.2.1.toNatClampNeg (s.2.2.1 32 s.2.1.toNatClampNeg))))))))
def f_X9_baselinesToBackgrounds  (m : zM) : Option (Int32 × zM) :=
  (zloop (b_X9_baselinesToBackgrounds_4 ) zFU (0, 0, m)).bind fun r5 => some (r5.1, r5.2)
def f_X11_settle  (m : zM) : Option (Int32 × zM) :=
  if (m.1 13 7) = 0 then (some (-10003, m)) else ((f_X9_baselinesToBackgrounds m).bind fun r1 => some (r1.1, r1.2))
def j_X12_settle_44 (x2 : Int32) (s0 : Int32) (s1 : Int32) (m : zM) : Option ((Int32 × Int32 × zM) ⊕ (Int32 × zM)) :=
  zg (zin x2 64) (zg (zin x2 64) (some (.inl ((s1 + s0), (x2 + 1), (zi m 71 x2.toNatClampNeg (m.1 70 x2.toNatClampNeg))))))
def b_X12_settle_15   (s : (Int32 × Int32 × zM)) : Option ((Int32 × Int32 × zM) ⊕ (Int32 × zM)) :=
  (f_X12_cells s.2.2).bind fun r2 => if r2 ≤ s.2.1 then (some (.inr (s.1, s.2.2))) else (zg (zin s.2.1 64) (zg (zin s.2.1 64) (if (s.2.2.1 71 s.2.1.toNatClampNeg) = (s.2.2.1 70 s.2.1.toNatClampNeg) then (j_X12_settle_44 s.2.1 0 s.1 s.2.2) else (j_X12_settle_44 s.2.1 1 s.1 s.2.2))))
def f_X12_settle  (m : zM) : Option (Int32 × zM) :=
  (f_X12_isGlass m).bind fun r1 => if (bi r1) = 0 then (some (-10003, m)) else ((zloop (b_X12_settle_15 ) zFU (0, 0, m)).bind fun r7 => some (r7.1, r7.2))
def f_X0_activeLevel  (m : zM) : Option Int32 :=
  zg (zin (m.1 24 1) 3) (some (m.1 25 (m.1 24 1).toNatClampNeg))
def f_X0_drawBelow (x1 : Int32) (m : zM) : Option (Int32 × zM) :=
  if x1 ≤ 0 then (some (0, (zi m 24 2 ((zlrem (((1103515245 : Int64) * ((m.1 24 2).toInt64)) + (12345 : Int64)) (2147483648 : Int64)).toInt32)))) else (zg (znz x1) (some ((zrem (((zlrem (((1103515245 : Int64) * ((m.1 24 2).toInt64)) + (12345 : Int64)) (2147483648 : Int64)).toInt32) / 65536) x1), (zi m 24 2 ((zlrem (((1103515245 : Int64) * ((m.1 24 2).toInt64)) + (12345 : Int64)) (2147483648 : Int64)).toInt32)))))
def f_X0_drawNoise (x1 : Int32) (m : zM) : Option (Int32 × zM) :=
  (f_X0_drawBelow ((2 * x1) + 1) m).bind fun r1 => some ((r1.1 - x1), r1.2)
def j_X9_sense_104 (x2 : Int32) (x3 : Int32) (x4 : Int32) (s0 : Int32) (s1 : Int32) (m : zM) : Option ((Int32 × zM) ⊕ (zM)) :=
  zg (zin s1 64) (zg (zb s0) (some (.inl ((x4 + 1), (zi m 37 s1.toNatClampNeg s0)))))
def j_X9_sense_33 (x2 : Int32) (x3 : Int32) (x4 : Int32) (s0 : Int32) (m : zM) : Option ((Int32 × zM) ⊕ (zM)) :=
  zg (zin x4 64) (zg (zin x4 64) (zg (zin x4 64) (zg (zin x4 64) (zg (zin x4 64) (zg (zin x4 64) (zg (zin x4 64) (if ((zi (zi m 35 x4.toNatClampNeg (((m.1 32 x4.toNatClampNeg) + (m.1 34 x4.toNatClampNeg)) + s0)) 36 x4.toNatClampNeg (((zi m 35 x4.toNatClampNeg (((m.1 32 x4.toNatClampNeg) + (m.1 34 x4.toNatClampNeg)) + s0)).1 35 x4.toNatClampNeg) - (m.1 33 x4.toNatClampNeg))).1 36 x4.toNatClampNeg) < x2 then (j_X9_sense_104 x2 x3 x4 0 x4 (zi (zi m 35 x4.toNatClampNeg (((m.1 32 x4.toNatClampNeg) + (m.1 34 x4.toNatClampNeg)) + s0)) 36 x4.toNatClampNeg (((zi m 35 x4.toNatClampNeg (((m.1 32 x4.toNatClampNeg) + (m.1 34 x4.toNatClampNeg)) + s0)).1 35 x4.toNatClampNeg) - (m.1 33 x4.toNatClampNeg)))) else (j_X9_sense_104 x2 x3 x4 1 x4 (zi (zi m 35 x4.toNatClampNeg (((m.1 32 x4.toNatClampNeg) + (m.1 34 x4.toNatClampNeg)) + s0)) 36 x4.toNatClampNeg (((zi m 35 x4.toNatClampNeg (((m.1 32 x4.toNatClampNeg) + (m.1 34 x4.toNatClampNeg)) + s0)).1 35 x4.toNatClampNeg) - (m.1 33 x4.toNatClampNeg)))))))))))
def b_X9_sense_8 (x2 : Int32) (x3 : Int32)  (s : (Int32 × zM)) : Option ((Int32 × zM) ⊕ (zM)) :=
  if (s.2.1 14 2) ≤ s.1 then (some (.inr s.2)) else (if x3 ≤ 0 then (j_X9_sense_33 x2 x3 s.1 0 s.2) else ((f_X0_drawNoise x3 s.2).bind fun r11 => j_X9_sense_33 x2 x3 s.1 r11.1 r11.2))
def f_X9_sense (x2 : Int32) (m : zM) : Option zM :=
  (f_X0_activeLevel m).bind fun r1 => (zloop (b_X9_sense_8 x2 r1) zFU (0, m)).bind fun r12 => some r12
def f_X1_neighbour (x1 : Int32) (x2 : Int32) (m : zM) : Option Int32 :=
  zg (zin ((8 * x1) + x2) 512) (some (m.1 18 ((8 * x1) + x2).toNatClampNeg))
def b_X1_meets_10 (x1 : Int32) (m : zM) (s : (Int32)) : Option ((Int32) ⊕ (Unit ⊕ Bool)) :=
  zg (zin x1 64) (if (m.1 17 x1.toNatClampNeg) ≤ s then (some (.inr (.inl ()))) else ((f_X1_neighbour x1 s m).bind fun r3 => zg (zin r3 64) (if (m.1 37 r3.toNatClampNeg) = 0 then (some (.inl (s + 1))) else (some (.inr (.inr true))))))
def f_X1_meets (x1 : Int32) (m : zM) : Option Bool :=
  zg (zin x1 64) (if (m.1 37 x1.toNatClampNeg) = 0 then ((zloop (b_X1_meets_10 x1 m) zFU 0).bind fun r5 => Sum.elim (fun r5 => some false) (fun v6 => some v6) r5) else (some true))
def j_X9_quietSpread_91 (x1 : Int32) (x2 : Int32) (x3 : Int32) (x4 : Int32) (m : zM) : Option ((Int32 × Int32 × Int32 × Int32) ⊕ (Int32 × Int32)) :=
  some (.inl (x1, x2, x3, (x4 + 1)))
def j_X9_quietSpread_88 (x2 : Int32) (x4 : Int32) (s0 : Int32) (m : zM) : Option ((Int32 × Int32 × Int32 × Int32) ⊕ (Int32 × Int32)) :=
  j_X9_quietSpread_91 1 x2 s0 x4 m
def j_X9_quietSpread_62 (x1 : Int32) (x3 : Int32) (x4 : Int32) (s0 : Int32) (m : zM) : Option ((Int32 × Int32 × Int32 × Int32) ⊕ (Int32 × Int32)) :=
  if x1 = 0 then (zg (zin x4 64) (j_X9_quietSpread_88 s0 x4 (m.1 36 x4.toNatClampNeg) m)) else (zg (zin x4 64) ((f_J9_max_7cf53 x3 (m.1 36 x4.toNatClampNeg) m).bind fun r5 => j_X9_quietSpread_88 s0 x4 r5 m))
def b_X9_quietSpread_9  (m : zM) (s : (Int32 × Int32 × Int32 × Int32)) : Option ((Int32 × Int32 × Int32 × Int32) ⊕ (Int32 × Int32)) :=
  if (m.1 14 2) ≤ s.2.2.2 then (some (.inr (s.2.1, s.2.2.1))) else ((f_X1_meets s.2.2.2 m).bind fun r1 => if (bi r1) = 0 then (if s.1 = 0 then (zg (zin s.2.2.2 64) (j_X9_quietSpread_62 s.1 s.2.2.1 s.2.2.2 (m.1 36 s.2.2.2.toNatClampNeg) m)) else (zg (zin s.2.2.2 64) ((f_J9_min_7cf53 s.2.1 (m.1 36 s.2.2.2.toNatClampNeg) m).bind fun r7 => j_X9_quietSpread_62 s.1 s.2.2.1 s.2.2.2 r7 m))) else (j_X9_quietSpread_91 s.1 s.2.1 s.2.2.1 s.2.2.2 m))
def f_X9_quietSpread  (m : zM) : Option Int32 :=
  (zloop (b_X9_quietSpread_9 m) zFU (0, 0, 0, 0)).bind fun r8 => some (r8.2 - r8.1)
def j_X3_steepest_60 (x1 : Int32) (x3 : Int32) (x4 : Int32) (m : zM) : Option ((Int32 × Int32) ⊕ (Int32)) :=
  some (.inl (x3, (x4 + 1)))
def j_X3_steepest_57 (x1 : Int32) (x4 : Int32) (x5 : Int32) (m : zM) : Option ((Int32 × Int32) ⊕ (Int32)) :=
  j_X3_steepest_60 x1 x5 x4 m
def b_X3_steepest_5 (x1 : Int32) (m : zM) (s : (Int32 × Int32)) : Option ((Int32 × Int32) ⊕ (Int32)) :=
  zg (zin x1 64) (if (m.1 17 x1.toNatClampNeg) ≤ s.2 then (some (.inr s.1)) else ((f_X1_neighbour x1 s.2 m).bind fun r2 => zg (zin r2 64) (zg (zin s.1 64) (if (m.1 36 s.1.toNatClampNeg) < (m.1 36 r2.toNatClampNeg) then (j_X3_steepest_57 x1 s.2 r2 m) else (zg (zin r2 64) (zg (zin s.1 64) (if (m.1 36 r2.toNatClampNeg) = (m.1 36 s.1.toNatClampNeg) then (if s.1 ≤ r2 then (j_X3_steepest_60 x1 s.1 s.2 m) else (j_X3_steepest_57 x1 s.2 r2 m)) else (j_X3_steepest_60 x1 s.1 s.2 m))))))))
def f_X3_steepest (x1 : Int32) (m : zM) : Option Int32 :=
  (zloop (b_X3_steepest_5 x1 m) zFU (x1, 0)).bind fun r7 => some r7
def j_X3_findPeaks_108 (x2 : Int32) (m : zM) : Option ((Int32 × zM) ⊕ (zM)) :=
  some (.inl ((x2 + 1), m))
def b_X3_findPeaks_7   (s : (Int32 × zM)) : Option ((Int32 × zM) ⊕ (zM)) :=
  if (s.2.1 14 2) ≤ s.1 then (some (.inr s.2)) else (zg (zin s.1 64) (zg (zin s.1 64) (if (s.2.1 37 s.1.toNatClampNeg) = 0 then (j_X3_findPeaks_108 s.1 (zi s.2 41 s.1.toNatClampNeg (-1))) else ((f_X3_steepest s.1 (zi s.2 41 s.1.toNatClampNeg (-1))).bind fun r3 => zg (zin s.1 64) (zg (zin s.1 64) (if ((zi (zi s.2 41 s.1.toNatClampNeg (-1)) 42 s.1.toNatClampNeg r3).1 42 s.1.toNatClampNeg) = s.1 then (if 16 ≤ (s.2.1 38 4) then (j_X3_findPeaks_108 s.1 (zi (zi s.2 41 s.1.toNatClampNeg (-1)) 42 s.1.toNatClampNeg r3)) else (zg (zin (s.2.1 38 4) 16) (zg (zin (s.2.1 38 4) 16) (zg (zin s.1 64) (j_X3_findPeaks_108 s.1 (zi (zi (zi (zi (zi (zi s.2 41 s.1.toNatClampNeg (-1)) 42 s.1.toNatClampNeg r3) 39 ((s.2.1 38 4).toNatClampNeg) s.1) 40 ((s.2.1 38 4).toNatClampNeg) 1) 41 s.1.toNatClampNeg (s.2.1 38 4)) 38 4 ((s.2.1 38 4) + 1))))))) else (j_X3_findPeaks_108 s.1 (zi (zi s.2 41 s.1.toNatClampNeg (-1)) 42 s.1.toNatClampNeg r3))))))))
def f_X3_findPeaks  (m : zM) : Option zM :=
  (zloop (b_X3_findPeaks_7 ) zFU (0, (zi m 38 4 0))).bind fun r9 => some r9
def j_X3_gatherCells_66 (x2 : Int32) (m : zM) : Option ((Int32 × zM) ⊕ (zM)) :=
  some (.inl ((x2 + 1), m))
def b_X3_gatherCells_24 (x2 : Int32) (m : zM) (s : (Int32 × Int32)) : Option ((Int32 × Int32) ⊕ (Int32)) :=
  if 64 ≤ s.2 then (some (.inr s.1)) else (zg (zin s.1 64) (if (m.1 41 s.1.toNatClampNeg) = (-1) then (zg (zin s.1 64) (some (.inl (m.1 42 s.1.toNatClampNeg, (s.2 + 1))))) else (some (.inr s.1))))
def j_X3_gatherCells_54 (x2 : Int32) (x3 : Int32) (m : zM) : Option ((Int32 × zM) ⊕ (zM)) :=
  zg (zin x3 64) (zg (zin x2 64) (j_X3_gatherCells_66 x2 (zi m 41 x2.toNatClampNeg (m.1 41 x3.toNatClampNeg))))
def b_X3_gatherCells_2   (s : (Int32 × zM)) : Option ((Int32 × zM) ⊕ (zM)) :=
  if (s.2.1 14 2) ≤ s.1 then (some (.inr s.2)) else (zg (zin s.1 64) (if (s.2.1 37 s.1.toNatClampNeg) = 0 then (j_X3_gatherCells_66 s.1 s.2) else ((zloop (b_X3_gatherCells_24 s.1 s.2) zFU (s.1, 0)).bind fun r4 => j_X3_gatherCells_54 s.1 r4 s.2)))
def f_X3_gatherCells  (m : zM) : Option zM :=
  (zloop (b_X3_gatherCells_2 ) zFU (0, m)).bind fun r7 => some r7
def b_J7_fill_53178_v7_5 (x1 : Int32) (x3 : Int32)  (s : (Int32 × zM)) : Option ((Int32 × zM) ⊕ (zM)) :=
  if x3 ≤ s.1 then (some (.inr s.2)) else (zg (zin s.1 256) (some (.inl ((s.1 + 1), (zi s.2 43 s.1.toNatClampNeg x1)))))
def f_J7_fill_53178_v7 (x1 : Int32) (m : zM) : Option zM :=
  (zloop (b_J7_fill_53178_v7_5 x1 256) zFU (0, m)).bind fun r2 => some r2
def f_X3_raisePass (x1 : Int32) (x2 : Int32) (x3 : Int32) (m : zM) : Option zM :=
  zg (zin ((16 * x1) + x2) 256) ((f_J9_max_7cf53 (m.1 43 ((16 * x1) + x2).toNatClampNeg) x3 m).bind fun r2 => zg (zin ((16 * x1) + x2) 256) (some (zi m 43 (((16 * x1) + x2).toNatClampNeg) r2)))
def j_X3_findPasses_101 (x2 : Int32) (m : zM) : Option ((Int32 × zM) ⊕ (zM)) :=
  some (.inl ((x2 + 1), m))
def j_X3_findPasses_95 (x2 : Int32) (x3 : Int32) (m : zM) : Option ((Int32 × zM) ⊕ (zM)) :=
  some (.inl ((x3 + 1), m))
def b_X3_findPasses_33 (x2 : Int32)  (s : (Int32 × zM)) : Option ((Int32 × zM) ⊕ (zM)) :=
  zg (zin x2 64) (if (s.2.1 17 x2.toNatClampNeg) ≤ s.1 then (some (.inr s.2)) else ((f_X1_neighbour x2 s.1 s.2).bind fun r4 => zg (zin r4 64) (if (s.2.1 41 r4.toNatClampNeg) = (-1) then (j_X3_findPasses_95 x2 s.1 s.2) else (zg (zin x2 64) (zg (zin r4 64) (zg (zin x2 64) (zg (zin r4 64) ((f_J9_min_7cf53 (s.2.1 36 x2.toNatClampNeg) (s.2.1 36 r4.toNatClampNeg) s.2).bind fun r10 => (f_X3_raisePass (s.2.1 41 x2.toNatClampNeg) (s.2.1 41 r4.toNatClampNeg) r10 s.2).bind fun m11 => j_X3_findPasses_95 x2 s.1 m11))))))))
def b_X3_findPasses_10   (s : (Int32 × zM)) : Option ((Int32 × zM) ⊕ (zM)) :=
  if (s.2.1 14 2) ≤ s.1 then (some (.inr s.2)) else (zg (zin s.1 64) (if (s.2.1 41 s.1.toNatClampNeg) = (-1) then (j_X3_findPasses_101 s.1 s.2) else ((zloop (b_X3_findPasses_33 s.1) zFU (0, s.2)).bind fun r12 => j_X3_findPasses_101 s.1 r12)))
def f_X3_findPasses  (m : zM) : Option zM :=
  (f_J7_fill_53178_v7 (-1) m).bind fun m1 => (zloop (b_X3_findPasses_10 ) zFU (0, m1)).bind fun r13 => some r13
def f_X3_canMerge (x1 : Int32) (x2 : Int32) (x4 : Int32) (m : zM) : Option Bool :=
  zg (zin ((16 * x1) + x2) 256) (zg (zin x1 16) (zg (zin (m.1 39 x1.toNatClampNeg) 64) (zg (zin x2 16) (zg (zin (m.1 39 x2.toNatClampNeg) 64) ((f_J9_min_7cf53 (m.1 36 (m.1 39 x1.toNatClampNeg).toNatClampNeg) (m.1 36 (m.1 39 x2.toNatClampNeg).toNatClampNeg) m).bind fun r6 => zg (zin x1 16) (if (m.1 40 x1.toNatClampNeg) = 0 then (some false) else (zg (zin x2 16) (if (m.1 40 x2.toNatClampNeg) = 0 then (some false) else (if (m.1 43 ((16 * x1) + x2).toNatClampNeg) = (-1) then (some false) else (if (100 * (m.1 43 ((16 * x1) + x2).toNatClampNeg)) < (x4 * r6) then (some false) else (some true)))))))))))
def b_X3_merge_9 (x1 : Int32) (x2 : Int32)  (s : (Int32 × zM)) : Option ((Int32 × zM) ⊕ (zM)) :=
  if (s.2.1 38 4) ≤ s.1 then (some (.inr s.2)) else (zg (zin ((16 * x2) + s.1) 256) ((f_X3_raisePass x1 s.1 (s.2.1 43 ((16 * x2) + s.1).toNatClampNeg) s.2).bind fun m3 => (f_X3_raisePass s.1 x1 (s.2.1 43 ((16 * x2) + s.1).toNatClampNeg) m3).bind fun m4 => some (.inl ((s.1 + 1), m4))))
def j_X3_merge_82 (x1 : Int32) (x2 : Int32) (x3 : Int32) (m : zM) : Option ((Int32 × zM) ⊕ (zM)) :=
  some (.inl ((x3 + 1), m))
def b_X3_merge_54 (x1 : Int32) (x2 : Int32)  (s : (Int32 × zM)) : Option ((Int32 × zM) ⊕ (zM)) :=
  if (s.2.1 14 2) ≤ s.1 then (some (.inr s.2)) else (zg (zin s.1 64) (if (s.2.1 41 s.1.toNatClampNeg) = x2 then (zg (zin s.1 64) (j_X3_merge_82 x1 x2 s.1 (zi s.2 41 s.1.toNatClampNeg x1))) else (j_X3_merge_82 x1 x2 s.1 s.2)))
def f_X3_merge (x1 : Int32) (x2 : Int32) (m : zM) : Option zM :=
  zg (zin x2 16) ((zloop (b_X3_merge_9 x1 x2) zFU (0, (zi m 40 x2.toNatClampNeg 0))).bind fun r5 => (zloop (b_X3_merge_54 x1 x2) zFU (0, r5)).bind fun r8 => some r8)
def j_X3_mergeBestPair_80 (x2 : Int32) (x3 : Int32) (x4 : Int32) (x5 : Int32) (x6 : Int32) (x7 : Int32) (m : zM) : Option ((Int32 × Int32 × Int32 × Int32) ⊕ (Int32 × Int32 × Int32)) :=
  some (.inl (x3, x4, x5, (x7 + 1)))
def b_X3_mergeBestPair_26 (x2 : Int32) (x6 : Int32) (m : zM) (s : (Int32 × Int32 × Int32 × Int32)) : Option ((Int32 × Int32 × Int32 × Int32) ⊕ (Int32 × Int32 × Int32)) :=
  if (m.1 38 4) ≤ s.2.2.2 then (some (.inr (s.1, s.2.1, s.2.2.1))) else (zg (zin ((16 * x6) + s.2.2.2) 256) (if (m.1 43 ((16 * x6) + s.2.2.2).toNatClampNeg) ≤ s.1 then (j_X3_mergeBestPair_80 x2 s.1 s.2.1 s.2.2.1 x6 s.2.2.2 m) else ((f_X3_canMerge x6 s.2.2.2 x2 m).bind fun r2 => if (bi r2) = 0 then (j_X3_mergeBestPair_80 x2 s.1 s.2.1 s.2.2.1 x6 s.2.2.2 m) else (j_X3_mergeBestPair_80 x2 (m.1 43 ((16 * x6) + s.2.2.2).toNatClampNeg) x6 s.2.2.2 x6 s.2.2.2 m))))
def b_X3_mergeBestPair_11 (x2 : Int32) (m : zM) (s : (Int32 × Int32 × Int32 × Int32)) : Option ((Int32 × Int32 × Int32 × Int32) ⊕ (Int32 × Int32)) :=
  if (m.1 38 4) ≤ s.2.2.2 then (some (.inr (s.2.1, s.2.2.1))) else ((zloop (b_X3_mergeBestPair_26 x2 s.2.2.2 m) zFU (s.1, s.2.1, s.2.2.1, (s.2.2.2 + 1))).bind fun r3 => some (.inl (r3.1, r3.2.1, r3.2.2, (s.2.2.2 + 1))))
def f_X3_mergeBestPair (x2 : Int32) (m : zM) : Option (Bool × zM) :=
  (zloop (b_X3_mergeBestPair_11 x2 m) zFU (-1, -1, -1, 0)).bind fun r4 => if r4.1 = (-1) then (some (false, m)) else (zg (zin r4.1 16) (zg (zin (m.1 39 r4.1.toNatClampNeg) 64) (zg (zin r4.2 16) (zg (zin (m.1 39 r4.2.toNatClampNeg) 64) (if (m.1 36 (m.1 39 r4.1.toNatClampNeg).toNatClampNeg) < (m.1 36 (m.1 39 r4.2.toNatClampNeg).toNatClampNeg) then ((f_X3_merge r4.2 r4.1 m).bind fun m9 => some (true, m9)) else ((f_X3_merge r4.1 r4.2 m).bind fun m10 => some (true, m10)))))))
def b_X3_form_23 (x2 : Int32)  (s : (Int32 × zM)) : Option ((Int32 × zM) ⊕ ((zM) ⊕ zM)) :=
  if 16 ≤ s.1 then (some (.inr (.inl s.2))) else ((f_X3_mergeBestPair x2 s.2).bind fun r4 => if (bi r4.1) = 0 then (some (.inr (.inr r4.2))) else (some (.inl ((s.1 + 1), r4.2))))
def f_X3_form (x2 : Int32) (m : zM) : Option zM :=
  (f_X3_findPeaks m).bind fun m1 => (f_X3_gatherCells m1).bind fun m2 => (f_X3_findPasses m2).bind fun m3 => (zloop (b_X3_form_23 x2) zFU (0, m3)).bind fun r5 => Sum.elim (fun r5 => some r5) (fun v6 => some v6) r5
def b_X8_weigh_2   (s : (Int32 × zM)) : Option ((Int32 × zM) ⊕ (zM)) :=
  if (s.2.1 38 4) ≤ s.1 then (some (.inr s.2)) else (zg (zin s.1 16) (zg (zin s.1 16) (zg (zin s.1 16) (zg (zin s.1 16) (some (.inl ((s.1 + 1), (zi (zi (zi (zi s.2 56 s.1.toNatClampNeg 0) 57 s.1.toNatClampNeg 0) 58 s.1.toNatClampNeg 0) 59 s.1.toNatClampNeg 0))))))))
def j_X8_weigh_147 (x3 : Int32) (m : zM) : Option ((Int32 × zM) ⊕ (zM)) :=
  some (.inl ((x3 + 1), m))
def b_X8_weigh_46   (s : (Int32 × zM)) : Option ((Int32 × zM) ⊕ (zM)) :=
  if (s.2.1 14 2) ≤ s.1 then (some (.inr s.2)) else (zg (zin s.1 64) (if (s.2.1 41 s.1.toNatClampNeg) = (-1) then (j_X8_weigh_147 s.1 s.2) else (zg (zin (s.2.1 41 s.1.toNatClampNeg) 16) (zg (zin (s.2.1 41 s.1.toNatClampNeg) 16) (zg (zin (s.2.1 41 s.1.toNatClampNeg) 16) (zg (zin s.1 64) (zg (zin (s.2.1 41 s.1.toNatClampNeg) 16) (zg (zin (s.2.1 41 s.1.toNatClampNeg) 16) (zg (zin s.1 64) (zg (zin s.1 64) (zg (zin (s.2.1 41 s.1.toNatClampNeg) 16) (zg (zin (s.2.1 41 s.1.toNatClampNeg) 16) (zg (zin s.1 64) (zg (zin s.1 64) (zg (zin (s.2.1 41 s.1.toNatClampNeg) 16) (j_X8_weigh_147 s.1 (zi (zi (zi (zi s.2 56 ((s.2.1 41 s.1.toNatClampNeg).toNatClampNeg) ((s.2.1 56 (s.2.1 41 s.1.toNatClampNeg).toNatClampNeg) + 1)) 57 ((s.2.1 41 s.1.toNatClampNeg).toNatClampNeg) ((s.2.1 57 (s.2.1 41 s.1.toNatClampNeg).toNatClampNeg) + (s.2.1 36 s.1.toNatClampNeg))) 58 ((s.2.1 41 s.1.toNatClampNeg).toNatClampNeg) ((s.2.1 58 (s.2.1 41 s.1.toNatClampNeg).toNatClampNeg) + ((16 * (s.2.1 15 s.1.toNatClampNeg)) * (s.2.1 36 s.1.toNatClampNeg)))) 59 ((s.2.1 41 s.1.toNatClampNeg).toNatClampNeg) ((s.2.1 59 (s.2.1 41 s.1.toNatClampNeg).toNatClampNeg) + ((16 * (s.2.1 16 s.1.toNatClampNeg)) * (s.2.1 36 s.1.toNatClampNeg))))))))))))))))))))
def f_X8_weigh  (m : zM) : Option zM :=
  (zloop (b_X8_weigh_2 ) zFU (0, m)).bind fun r5 => (zloop (b_X8_weigh_46 ) zFU (0, r5)).bind fun r20 => some r20
def j_X8_dropLightest_40 (x1 : Int32) (x2 : Int32) (x3 : Int32) (m : zM) : Option ((Int32 × Int32) ⊕ (Int32)) :=
  some (.inl (x2, (x3 + 1)))
def j_X8_dropLightest_38 (x1 : Int32) (x3 : Int32) (m : zM) : Option ((Int32 × Int32) ⊕ (Int32)) :=
  j_X8_dropLightest_40 x1 x3 x3 m
def b_X8_dropLightest_4 (x1 : Int32) (m : zM) (s : (Int32 × Int32)) : Option ((Int32 × Int32) ⊕ (Int32)) :=
  if x1 ≤ s.2 then (some (.inr s.1)) else (zg (zin s.2 16) (if (m.1 54 s.2.toNatClampNeg) = 0 then (j_X8_dropLightest_40 x1 s.1 s.2 m) else (if s.1 = (-1) then (j_X8_dropLightest_38 x1 s.2 m) else (zg (zin s.2 16) (zg (zin s.1 16) (if (m.1 57 s.1.toNatClampNeg) < (m.1 57 s.2.toNatClampNeg) then (j_X8_dropLightest_40 x1 s.1 s.2 m) else (j_X8_dropLightest_38 x1 s.2 m)))))))
def f_X8_dropLightest (x1 : Int32) (m : zM) : Option zM :=
  (zloop (b_X8_dropLightest_4 x1 m) zFU (-1, 0)).bind fun r4 => if r4 = (-1) then (some m) else (zg (zin r4 16) (some (zi m 54 r4.toNatClampNeg 0)))
def j_X8_fillRow_67 (x1 : Nat) (s0 : Int32) (s1 : Int32) (s2 : Nat) (m : zM) : Option zM :=
  zg (zin s1 6) (some (zi (zi m (46 + s2 % 6) s1.toNatClampNeg s0) (46 + x1 % 6) 5 (-1)))
def j_X8_fillRow_46 (x1 : Nat) (x2 : Int32) (x4 : Int32) (s0 : Int32) (s1 : Int32) (s2 : Nat) (m : zM) : Option zM :=
  zg (zin s1 6) (if x4 ≤ 0 then (j_X8_fillRow_67 x1 0 4 x1 (zi m (46 + s2 % 6) s1.toNatClampNeg s0)) else (zg (zin x2 16) (zg (znz x4) (j_X8_fillRow_67 x1 (((zi m (46 + s2 % 6) s1.toNatClampNeg s0).1 59 x2.toNatClampNeg) / x4) 4 x1 (zi m (46 + s2 % 6) s1.toNatClampNeg s0)))))
def f_X8_fillRow (x1 : Nat) (x2 : Int32) (x3 : Int32) (m : zM) : Option zM :=
  zg (zin x2 16) (zg (zin x2 16) (if (m.1 57 x2.toNatClampNeg) ≤ 0 then (j_X8_fillRow_46 x1 x2 (m.1 57 x2.toNatClampNeg) 0 3 x1 (zi (zi (zi m (46 + x1 % 6) 0 x3) (46 + x1 % 6) 1 ((zi m (46 + x1 % 6) 0 x3).1 56 x2.toNatClampNeg)) (46 + x1 % 6) 2 (m.1 57 x2.toNatClampNeg))) else (zg (zin x2 16) (zg (znz (m.1 57 x2.toNatClampNeg)) (j_X8_fillRow_46 x1 x2 (m.1 57 x2.toNatClampNeg) (((zi (zi (zi m (46 + x1 % 6) 0 x3) (46 + x1 % 6) 1 ((zi m (46 + x1 % 6) 0 x3).1 56 x2.toNatClampNeg)) (46 + x1 % 6) 2 (m.1 57 x2.toNatClampNeg)).1 58 x2.toNatClampNeg) / (m.1 57 x2.toNatClampNeg)) 3 x1 (zi (zi (zi m (46 + x1 % 6) 0 x3) (46 + x1 % 6) 1 ((zi m (46 + x1 % 6) 0 x3).1 56 x2.toNatClampNeg)) (46 + x1 % 6) 2 (m.1 57 x2.toNatClampNeg)))))))
def j_X8_numberHills_80 (x2 : Int32) (m : zM) : Option ((Int32 × zM) ⊕ (zM)) :=
  some (.inl ((x2 + 1), m))
def b_X8_numberHills_7   (s : (Int32 × zM)) : Option ((Int32 × zM) ⊕ (zM)) :=
  if (s.2.1 38 4) ≤ s.1 then (some (.inr s.2)) else (zg (zin s.1 16) (zg (zin s.1 16) (if (s.2.1 54 s.1.toNatClampNeg) = 0 then (j_X8_numberHills_80 s.1 (zi s.2 55 s.1.toNatClampNeg (-1))) else (if 6 ≤ (s.2.1 44 4) then (j_X8_numberHills_80 s.1 (zi s.2 55 s.1.toNatClampNeg (-1))) else (zg (zin s.1 16) (zg (zin (s.2.1 44 4) 6) (zg (zin s.1 16) ((f_X8_fillRow (s.2.2.2 45 ((s.2.1 44 4).toNatClampNeg)) s.1 (s.2.1 39 s.1.toNatClampNeg) (zi (zi s.2 55 s.1.toNatClampNeg (-1)) 55 s.1.toNatClampNeg (s.2.1 44 4))).bind fun m6 => j_X8_numberHills_80 s.1 (zi m6 44 4 ((m6.1 44 4) + 1))))))))))
def f_X8_numberHills  (m : zM) : Option zM :=
  (zloop (b_X8_numberHills_7 ) zFU (0, (zi m 44 4 0))).bind fun r7 => some r7
def j_X8_markCells_58 (x2 : Int32) (s0 : Int32) (s1 : Int32) (m : zM) : Option ((Int32 × zM) ⊕ (zM)) :=
  zg (zin s1 64) (zg (zb s0) (some (.inl ((x2 + 1), (zi m 53 s1.toNatClampNeg s0)))))
def j_X8_markCells_37 (x2 : Int32) (s0 : Int32) (s1 : Int32) (m : zM) : Option ((Int32 × zM) ⊕ (zM)) :=
  zg (zin s1 64) (zg (zin x2 64) (if ((zi m 52 s1.toNatClampNeg s0).1 52 x2.toNatClampNeg) = (-1) then (j_X8_markCells_58 x2 0 x2 (zi m 52 s1.toNatClampNeg s0)) else (j_X8_markCells_58 x2 1 x2 (zi m 52 s1.toNatClampNeg s0))))
def b_X8_markCells_2   (s : (Int32 × zM)) : Option ((Int32 × zM) ⊕ (zM)) :=
  if (s.2.1 14 2) ≤ s.1 then (some (.inr s.2)) else (zg (zin s.1 64) (if (s.2.1 41 s.1.toNatClampNeg) = (-1) then (j_X8_markCells_37 s.1 (-1) s.1 s.2) else (zg (zin s.1 64) (zg (zin (s.2.1 41 s.1.toNatClampNeg) 16) (j_X8_markCells_37 s.1 (s.2.1 55 (s.2.1 41 s.1.toNatClampNeg).toNatClampNeg) s.1 s.2)))))
def f_X8_markCells  (m : zM) : Option zM :=
  (zloop (b_X8_markCells_2 ) zFU (0, m)).bind fun r8 => some r8
def j_X8_choose_69 (x3 : Int32) (x4 : Int32) (x5 : Int32) (m : zM) : Option ((Int32 × Int32 × zM) ⊕ (Int32 × zM)) :=
  some (.inl (x4, (x5 + 1), m))
def j_X8_choose_55 (x3 : Int32) (x4 : Int32) (x5 : Int32) (s0 : Int32) (s1 : Int32) (m : zM) : Option ((Int32 × Int32 × zM) ⊕ (Int32 × zM)) :=
  zg (zin s1 16) (zg (zb s0) (zg (zin x5 16) (if ((zi m 54 s1.toNatClampNeg s0).1 54 x5.toNatClampNeg) = 0 then (j_X8_choose_69 x3 x4 x5 (zi m 54 s1.toNatClampNeg s0)) else (j_X8_choose_69 x3 (x4 + 1) x5 (zi m 54 s1.toNatClampNeg s0)))))
def j_X8_choose_54 (x3 : Int32) (x4 : Int32) (x5 : Int32) (s0 : Int32) (m : zM) : Option ((Int32 × Int32 × zM) ⊕ (Int32 × zM)) :=
  j_X8_choose_55 x3 x4 x5 0 s0 m
def b_X8_choose_12 (x3 : Int32)  (s : (Int32 × Int32 × zM)) : Option ((Int32 × Int32 × zM) ⊕ (Int32 × zM)) :=
  if (s.2.2.1 38 4) ≤ s.2.1 then (some (.inr (s.1, s.2.2))) else (zg (zin s.2.1 16) (if (s.2.2.1 40 s.2.1.toNatClampNeg) = 0 then (j_X8_choose_54 x3 s.1 s.2.1 s.2.1 s.2.2) else (zg (zin s.2.1 16) (zg (zin (s.2.2.1 39 s.2.1.toNatClampNeg) 64) (if (s.2.2.1 36 (s.2.2.1 39 s.2.1.toNatClampNeg).toNatClampNeg) < x3 then (j_X8_choose_54 x3 s.1 s.2.1 s.2.1 s.2.2) else (j_X8_choose_55 x3 s.1 s.2.1 1 s.2.1 s.2.2))))))
def b_X8_choose_79   (s : (Int32 × zM)) : Option ((Int32 × zM) ⊕ (zM)) :=
  if s.1 ≤ 6 then (some (.inr s.2)) else ((f_X8_dropLightest (s.2.1 38 4) s.2).bind fun m9 => some (.inl ((s.1 + (-1)), m9)))
def f_X8_choose (x3 : Int32) (m : zM) : Option zM :=
  (f_X8_weigh m).bind fun m1 => (zloop (b_X8_choose_12 x3) zFU (0, 0, m1)).bind fun r8 => (zloop (b_X8_choose_79 ) zFU (r8.1, r8.2)).bind fun r10 => (f_X8_numberHills r10).bind fun m11 => (f_X8_markCells m11).bind fun m12 => some m12
def f_J9_abs_0f7a4 (x0 : Int32) (m : zM) : Option Int32 :=
  if 0 ≤ x0 then (some x0) else (some (-x0))
def j_X6_weighPairs_126 (x3 : Int32) (x4 : Int32) (x5 : Int32) (s0 : Int32) (s1 : Int32) (m : zM) : Option ((Int32 × zM) ⊕ (zM)) :=
  zg (zin s1 36) (some (.inl ((x5 + 1), (zi m 29 s1.toNatClampNeg s0))))
def j_X6_weighPairs_89 (x3 : Int32) (x4 : Int32) (x5 : Int32) (x6 : Int32) (x7 : Int32) (s0 : Int32) (m : zM) : Option ((Int32 × zM) ⊕ (zM)) :=
  if s0 = 0 then (j_X6_weighPairs_126 x3 x4 x5 (-1) ((6 * x4) + x5) m) else (j_X6_weighPairs_126 x3 x4 x5 ((1000000 - (x6 * x6)) - (x7 * x7)) ((6 * x4) + x5) m)
def j_X6_weighPairs_88 (x3 : Int32) (x4 : Int32) (x5 : Int32) (x6 : Int32) (x7 : Int32) (m : zM) : Option ((Int32 × zM) ⊕ (zM)) :=
  j_X6_weighPairs_89 x3 x4 x5 x6 x7 0 m
def b_X6_weighPairs_15 (x3 : Int32) (x4 : Int32)  (s : (Int32 × zM)) : Option ((Int32 × zM) ⊕ (zM)) :=
  if (s.2.1 27 3) ≤ s.1 then (some (.inr s.2)) else (zg (zin x4 6) (zg (zin s.1 6) ((f_J9_abs_0f7a4 ((s.2.1 (62 + (s.2.2.2 61 x4.toNatClampNeg) % 6) 1) - (s.2.1 (46 + (s.2.2.2 45 s.1.toNatClampNeg) % 6) 3)) s.2).bind fun r3 => zg (zin x4 6) (zg (zin s.1 6) ((f_J9_abs_0f7a4 ((s.2.1 (62 + (s.2.2.2 61 x4.toNatClampNeg) % 6) 2) - (s.2.1 (46 + (s.2.2.2 45 s.1.toNatClampNeg) % 6) 4)) s.2).bind fun r6 => if x3 < r3 then (j_X6_weighPairs_88 x3 x4 s.1 r3 r6 s.2) else (if x3 < r6 then (j_X6_weighPairs_88 x3 x4 s.1 r3 r6 s.2) else (j_X6_weighPairs_89 x3 x4 s.1 r3 r6 1 s.2)))))))
def b_X6_weighPairs_3 (x3 : Int32)  (s : (Int32 × zM)) : Option ((Int32 × zM) ⊕ (zM)) :=
  if (s.2.1 60 1) ≤ s.1 then (some (.inr s.2)) else ((zloop (b_X6_weighPairs_15 x3 s.1) zFU (0, s.2)).bind fun r8 => some (.inl ((s.1 + 1), r8)))
def f_X6_weighPairs (x3 : Int32) (m : zM) : Option zM :=
  (zloop (b_X6_weighPairs_3 x3) zFU (0, m)).bind fun r9 => some r9
def f_X6_withSpot (x0 : Int32) (x1 : Int32) (m : zM) : Option Int32 :=
  if x1 = (-1) then (some x0) else (some (x0 ||| (zshl 1 x1)))
def f_X6_worthOf (x1 : Int32) (x2 : Int32) (x3 : Int32) (m : zM) : Option Int32 :=
  (f_X6_withSpot x2 x3 m).bind fun r1 => zg (zin ((64 * (x1 + 1)) + r1) 448) (if x3 = (-1) then (some (m.1 30 ((64 * (x1 + 1)) + r1).toNatClampNeg)) else (zg (zin ((6 * x1) + x3) 36) (some ((m.1 29 ((6 * x1) + x3).toNatClampNeg) + (m.1 30 ((64 * (x1 + 1)) + r1).toNatClampNeg)))))
def j_X6_bestSpot_78 (x1 : Int32) (x2 : Int32) (x3 : Int32) (x4 : Int32) (x5 : Int32) (m : zM) : Option ((Int32 × Int32 × Int32) ⊕ (Int32 × Int32)) :=
  some (.inl (x3, x4, (x5 + 1)))
def j_X6_bestSpot_31 (x1 : Int32) (x2 : Int32) (x3 : Int32) (x4 : Int32) (x5 : Int32) (s0 : Int32) (m : zM) : Option ((Int32 × Int32 × Int32) ⊕ (Int32 × Int32)) :=
  if s0 = 0 then (j_X6_bestSpot_78 x1 x2 x3 x4 x5 m) else (zg (zin ((6 * x1) + x5) 36) (if (m.1 29 ((6 * x1) + x5).toNatClampNeg) = (-1) then (j_X6_bestSpot_78 x1 x2 x3 x4 x5 m) else ((f_X6_worthOf x1 x2 x5 m).bind fun r2 => if r2 ≤ x4 then (j_X6_bestSpot_78 x1 x2 x3 x4 x5 m) else (j_X6_bestSpot_78 x1 x2 x5 r2 x5 m))))
def b_X6_bestSpot_8 (x1 : Int32) (x2 : Int32) (m : zM) (s : (Int32 × Int32 × Int32)) : Option ((Int32 × Int32 × Int32) ⊕ (Int32 × Int32)) :=
  if (m.1 27 3) ≤ s.2.2 then (some (.inr (s.1, s.2.1))) else (if ((zshr x2 s.2.2) &&& 1) = 0 then (j_X6_bestSpot_31 x1 x2 s.1 s.2.1 s.2.2 1 m) else (j_X6_bestSpot_31 x1 x2 s.1 s.2.1 s.2.2 0 m))
def f_X6_bestSpot (x1 : Int32) (x2 : Int32) (m : zM) : Option Int32 :=
  (zloop (b_X6_bestSpot_8 x1 x2 m) zFU (-1, -1, 0)).bind fun r3 => (f_X6_worthOf x1 x2 (-1) m).bind fun r4 => if r4 ≤ r3.2 then (some r3.1) else (some (-1))
def b_X6_solve_26 (x4 : Int32)  (s : (Int32 × zM)) : Option ((Int32 × zM) ⊕ (zM)) :=
  if x4 ≤ s.1 then (some (.inr s.2)) else (zg (zin ((64 * (s.2.1 60 1)) + s.1) 448) (some (.inl ((s.1 + 1), (zi s.2 30 (((64 * (s.2.1 60 1)) + s.1).toNatClampNeg) 0)))))
def b_X6_solve_71 (x4 : Int32) (x5 : Int32)  (s : (Int32 × zM)) : Option ((Int32 × zM) ⊕ (zM)) :=
  if x4 ≤ s.1 then (some (.inr s.2)) else ((f_X6_bestSpot x5 s.1 s.2).bind fun r4 => (f_X6_worthOf x5 s.1 r4 s.2).bind fun r5 => zg (zin ((64 * x5) + s.1) 448) (some (.inl ((s.1 + 1), (zi s.2 30 (((64 * x5) + s.1).toNatClampNeg) r5)))))
def b_X6_solve_63 (x4 : Int32)  (s : (Int32 × zM)) : Option ((Int32 × zM) ⊕ (zM)) :=
  if s.1 < 0 then (some (.inr s.2)) else ((zloop (b_X6_solve_71 x4 s.1) zFU (0, s.2)).bind fun r7 => some (.inl ((s.1 + (-1)), r7)))
def b_X6_solve_125   (s : (Int32 × Int32 × zM)) : Option ((Int32 × Int32 × zM) ⊕ (zM)) :=
  if (s.2.2.1 60 1) ≤ s.2.1 then (some (.inr s.2.2)) else ((f_X6_bestSpot s.2.1 s.1 s.2.2).bind fun r9 => zg (zin s.2.1 6) ((f_X6_withSpot s.1 r9 (zi s.2.2 28 s.2.1.toNatClampNeg r9)).bind fun r11 => some (.inl (r11, (s.2.1 + 1), (zi s.2.2 28 s.2.1.toNatClampNeg r9)))))
def f_X6_solve (x3 : Int32) (m : zM) : Option zM :=
  (f_X6_weighPairs x3 (zi m 27 3 (m.1 44 4))).bind fun m1 => (zloop (b_X6_solve_26 (zshl 1 (m1.1 27 3))) zFU (0, m1)).bind fun r3 => (zloop (b_X6_solve_63 (zshl 1 (m1.1 27 3))) zFU (((r3.1 60 1) - 1), r3)).bind fun r8 => (zloop (b_X6_solve_125 ) zFU (0, 0, r8)).bind fun r12 => some r12
def f_X10_takeOver (x1 : Nat) (x2 : Nat) (m : zM) : Option zM :=
  some (zi (zi (zi (zi (zi m (62 + x1 % 6) 1 (m.1 (46 + x2 % 6) 3)) (62 + x1 % 6) 2 ((zi m (62 + x1 % 6) 1 (m.1 (46 + x2 % 6) 3)).1 (46 + x2 % 6) 4)) (62 + x1 % 6) 3 ((zi (zi m (62 + x1 % 6) 1 (m.1 (46 + x2 % 6) 3)) (62 + x1 % 6) 2 ((zi m (62 + x1 % 6) 1 (m.1 (46 + x2 % 6) 3)).1 (46 + x2 % 6) 4)).1 (46 + x2 % 6) 1)) (62 + x1 % 6) 4 ((zi (zi (zi m (62 + x1 % 6) 1 (m.1 (46 + x2 % 6) 3)) (62 + x1 % 6) 2 ((zi m (62 + x1 % 6) 1 (m.1 (46 + x2 % 6) 3)).1 (46 + x2 % 6) 4)) (62 + x1 % 6) 3 ((zi (zi m (62 + x1 % 6) 1 (m.1 (46 + x2 % 6) 3)) (62 + x1 % 6) 2 ((zi m (62 + x1 % 6) 1 (m.1 (46 + x2 % 6) 3)).1 (46 + x2 % 6) 4)).1 (46 + x2 % 6) 1)).1 (46 + x2 % 6) 2)) (46 + x2 % 6) 5 ((zi (zi (zi (zi m (62 + x1 % 6) 1 (m.1 (46 + x2 % 6) 3)) (62 + x1 % 6) 2 ((zi m (62 + x1 % 6) 1 (m.1 (46 + x2 % 6) 3)).1 (46 + x2 % 6) 4)) (62 + x1 % 6) 3 ((zi (zi m (62 + x1 % 6) 1 (m.1 (46 + x2 % 6) 3)) (62 + x1 % 6) 2 ((zi m (62 + x1 % 6) 1 (m.1 (46 + x2 % 6) 3)).1 (46 + x2 % 6) 4)).1 (46 + x2 % 6) 1)) (62 + x1 % 6) 4 ((zi (zi (zi m (62 + x1 % 6) 1 (m.1 (46 + x2 % 6) 3)) (62 + x1 % 6) 2 ((zi m (62 + x1 % 6) 1 (m.1 (46 + x2 % 6) 3)).1 (46 + x2 % 6) 4)) (62 + x1 % 6) 3 ((zi (zi m (62 + x1 % 6) 1 (m.1 (46 + x2 % 6) 3)) (62 + x1 % 6) 2 ((zi m (62 + x1 % 6) 1 (m.1 (46 + x2 % 6) 3)).1 (46 + x2 % 6) 4)).1 (46 + x2 % 6) 1)).1 (46 + x2 % 6) 2)).1 (62 + x1 % 6) 0))
def f_X4_write (x1 : Int32) (x2 : Int32) (x3 : Int32) (m : zM) : Option zM :=
  if (zrem (m.1 8 4) 12) < 0 then (some m) else ((f_X11_within x1 1 4 m).bind fun r1 => if (bi r1) = 0 then (some m) else (zg (zin (zrem (m.1 8 4) 12) 12) (zg (zin (zrem (m.1 8 4) 12) 12) (zg (zin (zrem (m.1 8 4) 12) 12) (zg (zin x1 5) (zg (zin x1 5) (some (zi (zi (zi (zi (zi m 9 ((zrem (m.1 8 4) 12).toNatClampNeg) x1) 10 ((zrem (m.1 8 4) 12).toNatClampNeg) x2) 11 ((zrem (m.1 8 4) 12).toNatClampNeg) x3) 12 x1.toNatClampNeg ((m.1 12 x1.toNatClampNeg) + 1)) 8 4 ((m.1 8 4) + 1)))))))))
def f_X10_isPalm (x1 : Nat) (m : zM) : Option Bool :=
  if (m.1 (46 + x1 % 6) 1) < (m.1 26 3) then (some false) else (some true)
def j_X10_move_85 (x1 : Nat) (x3 : Int32) (m : zM) : Option zM :=
  if (m.1 (62 + x1 % 6) 5) = 2 then (if (m.1 (62 + x1 % 6) 8) = 0 then ((f_X4_write 1 (m.1 (62 + x1 % 6) 0) x3 m).bind fun m4 => some m4) else (some m)) else (some m)
def f_X10_move (x1 : Nat) (x2 : Nat) (x3 : Int32) (m : zM) : Option zM :=
  (f_J9_abs_0f7a4 ((m.1 (46 + x2 % 6) 3) - (m.1 (62 + x1 % 6) 1)) m).bind fun r1 => (f_J9_abs_0f7a4 ((m.1 (46 + x2 % 6) 4) - (m.1 (62 + x1 % 6) 2)) m).bind fun r2 => (f_X10_takeOver x1 x2 (zi m (62 + x1 % 6) 7 ((m.1 (62 + x1 % 6) 7) + (r1 + r2)))).bind fun m3 => if ((zi (zi m3 (62 + x1 % 6) 5 ((m3.1 (62 + x1 % 6) 5) + 1)) (62 + x1 % 6) 6 0).1 (62 + x1 % 6) 8) = 0 then ((f_X10_isPalm x2 (zi (zi m3 (62 + x1 % 6) 5 ((m3.1 (62 + x1 % 6) 5) + 1)) (62 + x1 % 6) 6 0)).bind fun r5 => if (bi r5) = 0 then (j_X10_move_85 x1 x3 (zi (zi m3 (62 + x1 % 6) 5 ((m3.1 (62 + x1 % 6) 5) + 1)) (62 + x1 % 6) 6 0)) else (if ((zi (zi (zi m3 (62 + x1 % 6) 5 ((m3.1 (62 + x1 % 6) 5) + 1)) (62 + x1 % 6) 6 0) (62 + x1 % 6) 8 1).1 (62 + x1 % 6) 5) ≤ 2 then (j_X10_move_85 x1 x3 (zi (zi (zi m3 (62 + x1 % 6) 5 ((m3.1 (62 + x1 % 6) 5) + 1)) (62 + x1 % 6) 6 0) (62 + x1 % 6) 8 1)) else ((f_X4_write 3 ((zi (zi (zi m3 (62 + x1 % 6) 5 ((m3.1 (62 + x1 % 6) 5) + 1)) (62 + x1 % 6) 6 0) (62 + x1 % 6) 8 1).1 (62 + x1 % 6) 0) x3 (zi (zi (zi m3 (62 + x1 % 6) 5 ((m3.1 (62 + x1 % 6) 5) + 1)) (62 + x1 % 6) 6 0) (62 + x1 % 6) 8 1)).bind fun m6 => j_X10_move_85 x1 x3 m6))) else (j_X10_move_85 x1 x3 (zi (zi m3 (62 + x1 % 6) 5 ((m3.1 (62 + x1 % 6) 5) + 1)) (62 + x1 % 6) 6 0))
def j_X10_miss_78 (x1 : Nat) (x2 : Int32) (s0 : Int32) (m : zM) : Option (Bool × zM) :=
  (f_X4_write s0 (m.1 (62 + x1 % 6) 0) x2 m).bind fun m1 => some (false, m1)
def j_X10_miss_64 (x1 : Nat) (x2 : Int32) (s0 : Int32) (m : zM) : Option (Bool × zM) :=
  if s0 = 0 then (j_X10_miss_78 x1 x2 2 m) else (j_X10_miss_78 x1 x2 4 m)
def j_X10_miss_63 (x1 : Nat) (x2 : Int32) (m : zM) : Option (Bool × zM) :=
  j_X10_miss_64 x1 x2 0 m
def f_X10_miss (x1 : Nat) (x2 : Int32) (m : zM) : Option (Bool × zM) :=
  if ((zi m (62 + x1 % 6) 6 ((m.1 (62 + x1 % 6) 6) + 1)).1 26 5) < ((zi m (62 + x1 % 6) 6 ((m.1 (62 + x1 % 6) 6) + 1)).1 (62 + x1 % 6) 6) then (if ((zi m (62 + x1 % 6) 6 ((m.1 (62 + x1 % 6) 6) + 1)).1 (62 + x1 % 6) 8) = 0 then (if ((zi m (62 + x1 % 6) 6 ((m.1 (62 + x1 % 6) 6) + 1)).1 (62 + x1 % 6) 5) < 2 then (some (false, (zi m (62 + x1 % 6) 6 ((m.1 (62 + x1 % 6) 6) + 1)))) else (if ((zi m (62 + x1 % 6) 6 ((m.1 (62 + x1 % 6) 6) + 1)).1 26 6) < ((zi m (62 + x1 % 6) 6 ((m.1 (62 + x1 % 6) 6) + 1)).1 (62 + x1 % 6) 5) then (j_X10_miss_63 x1 x2 (zi m (62 + x1 % 6) 6 ((m.1 (62 + x1 % 6) 6) + 1))) else (if 16 < ((zi m (62 + x1 % 6) 6 ((m.1 (62 + x1 % 6) 6) + 1)).1 (62 + x1 % 6) 7) then (j_X10_miss_63 x1 x2 (zi m (62 + x1 % 6) 6 ((m.1 (62 + x1 % 6) 6) + 1))) else (j_X10_miss_64 x1 x2 1 (zi m (62 + x1 % 6) 6 ((m.1 (62 + x1 % 6) 6) + 1)))))) else (some (false, (zi m (62 + x1 % 6) 6 ((m.1 (62 + x1 % 6) 6) + 1))))) else (some (true, (zi m (62 + x1 % 6) 6 ((m.1 (62 + x1 % 6) 6) + 1))))
def j_X10_follow_96 (x3 : Int32) (x4 : Int32) (x5 : Int32) (m : zM) : Option ((Int32 × Int32 × zM) ⊕ (Int32 × zM)) :=
  some (.inl (x4, (x5 + 1), m))
def j_X10_follow_65 (x3 : Int32) (x4 : Int32) (x5 : Int32) (x6 : Nat) (x8 : Int32) (m : zM) : Option ((Int32 × Int32 × zM) ⊕ (Int32 × zM)) :=
  if x8 = 0 then (j_X10_follow_96 x3 x4 x5 m) else (zg (zin x4 6) (zg (zin x5 6) (zg (zin x4 6) (j_X10_follow_96 x3 (x4 + 1) x5 (zr (zr m 61 x5.toNatClampNeg ((m.2.2 61 x4.toNatClampNeg) % 6)) 61 x4.toNatClampNeg (x6 % 6))))))
def b_X10_follow_6 (x3 : Int32)  (s : (Int32 × Int32 × zM)) : Option ((Int32 × Int32 × zM) ⊕ (Int32 × zM)) :=
  if (s.2.2.1 60 1) ≤ s.2.1 then (some (.inr (s.1, s.2.2))) else (zg (zin s.2.1 6) (zg (zin s.2.1 6) (if (s.2.2.1 28 s.2.1.toNatClampNeg) = (-1) then ((f_X10_miss (s.2.2.2.2 61 s.2.1.toNatClampNeg) x3 s.2.2).bind fun r8 => j_X10_follow_65 x3 s.1 s.2.1 (s.2.2.2.2 61 s.2.1.toNatClampNeg) (bi r8.1) r8.2) else (zg (zin (s.2.2.1 28 s.2.1.toNatClampNeg) 6) ((f_X10_move (s.2.2.2.2 61 s.2.1.toNatClampNeg) (s.2.2.2.2 45 ((s.2.2.1 28 s.2.1.toNatClampNeg).toNatClampNeg)) x3 s.2.2).bind fun m4 => j_X10_follow_65 x3 s.1 s.2.1 (s.2.2.2.2 61 s.2.1.toNatClampNeg) 1 m4)))))
def f_X10_follow (x3 : Int32) (m : zM) : Option zM :=
  (zloop (b_X10_follow_6 x3) zFU (0, 0, m)).bind fun r9 => some (zi r9.2 60 1 r9.1)
def j_X10_begin_53 (s0 : Int32) (s1 : Int32) (s2 : Nat) (m : zM) : Option zM :=
  zg (zin s1 9) (some (zi m (62 + s2 % 6) s1.toNatClampNeg s0))
def f_X10_begin (x1 : Nat) (x2 : Nat) (m : zM) : Option zM :=
  (f_X10_takeOver x1 x2 (zi (zi m 60 2 ((m.1 60 2) + 1)) (62 + x1 % 6) 0 ((m.1 60 2) + 1))).bind fun m1 => (f_X10_isPalm x2 (zi (zi (zi m1 (62 + x1 % 6) 5 1) (62 + x1 % 6) 6 0) (62 + x1 % 6) 7 0)).bind fun r2 => if (bi r2) = 0 then (j_X10_begin_53 0 8 x1 (zi (zi (zi m1 (62 + x1 % 6) 5 1) (62 + x1 % 6) 6 0) (62 + x1 % 6) 7 0)) else (j_X10_begin_53 1 8 x1 (zi (zi (zi m1 (62 + x1 % 6) 5 1) (62 + x1 % 6) 6 0) (62 + x1 % 6) 7 0))
def j_X10_beginNew_60 (x2 : Int32) (m : zM) : Option ((Int32 × zM) ⊕ (zM)) :=
  some (.inl ((x2 + 1), m))
def b_X10_beginNew_2   (s : (Int32 × zM)) : Option ((Int32 × zM) ⊕ (zM)) :=
  if (s.2.1 44 4) ≤ s.1 then (some (.inr s.2)) else (zg (zin s.1 6) (if (s.2.1 (46 + (s.2.2.2 45 s.1.toNatClampNeg) % 6) 5) = (-1) then (if 6 ≤ (s.2.1 60 1) then (j_X10_beginNew_60 s.1 s.2) else (zg (zin (s.2.1 60 1) 6) (zg (zin s.1 6) ((f_X10_begin (s.2.2.2 61 ((s.2.1 60 1).toNatClampNeg)) (s.2.2.2 45 s.1.toNatClampNeg) s.2).bind fun m4 => j_X10_beginNew_60 s.1 (zi m4 60 1 ((m4.1 60 1) + 1)))))) else (j_X10_beginNew_60 s.1 s.2)))
def f_X10_beginNew  (m : zM) : Option zM :=
  (zloop (b_X10_beginNew_2 ) zFU (0, m)).bind fun r5 => some r5
def b_X1_meets_v1_10 (x1 : Int32) (m : zM) (s : (Int32)) : Option ((Int32) ⊕ (Unit ⊕ Bool)) :=
  zg (zin x1 64) (if (m.1 17 x1.toNatClampNeg) ≤ s then (some (.inr (.inl ()))) else ((f_X1_neighbour x1 s m).bind fun r3 => zg (zin r3 64) (if (m.1 53 r3.toNatClampNeg) = 0 then (some (.inl (s + 1))) else (some (.inr (.inr true))))))
def f_X1_meets_v1 (x1 : Int32) (m : zM) : Option Bool :=
  zg (zin x1 64) (if (m.1 53 x1.toNatClampNeg) = 0 then ((zloop (b_X1_meets_v1_10 x1 m) zFU 0).bind fun r5 => Sum.elim (fun r5 => some false) (fun v6 => some v6) r5) else (some true))
def j_X9_driftBaselines_60 (x2 : Int32) (x3 : Int32) (m : zM) : Option ((Int32 × zM) ⊕ (zM)) :=
  some (.inl ((x3 + 1), m))
def b_X9_driftBaselines_2 (x2 : Int32)  (s : (Int32 × zM)) : Option ((Int32 × zM) ⊕ (zM)) :=
  if (s.2.1 14 2) ≤ s.1 then (some (.inr s.2)) else ((f_X1_meets_v1 s.1 s.2).bind fun r1 => if (bi r1) = 0 then (zg (zin s.1 64) (zg (zin s.1 64) (zg (zin s.1 64) ((f_J9_min_7cf53 x2 ((s.2.1 35 s.1.toNatClampNeg) - (s.2.1 33 s.1.toNatClampNeg)) s.2).bind fun r5 => (f_J9_max_7cf53 (-x2) r5 s.2).bind fun r6 => zg (zin s.1 64) (j_X9_driftBaselines_60 x2 s.1 (zi s.2 33 s.1.toNatClampNeg ((s.2.1 33 s.1.toNatClampNeg) + r6))))))) else (j_X9_driftBaselines_60 x2 s.1 s.2))
def f_X9_driftBaselines (x2 : Int32) (m : zM) : Option zM :=
  (zloop (b_X9_driftBaselines_2 x2) zFU (0, m)).bind fun r8 => some r8
def j_X0_activateNext_19 (s0 : Int32) (m : zM) : Option zM :=
  some (zi m 24 1 s0)
def f_X0_activateNext  (m : zM) : Option zM :=
  if 2 ≤ (m.1 24 1) then (j_X0_activateNext_19 0 m) else (j_X0_activateNext_19 ((m.1 24 1) + 1) m)
def j_X7_runFrame_68 (s0 : Int32) (m : zM) : Option zM :=
  zg (zb s0) (if s0 = 0 then ((f_X3_form (m.1 26 2) (zi m 13 13 s0)).bind fun m4 => (f_X8_choose (m4.1 26 0) m4).bind fun m5 => (f_X6_solve (m5.1 26 4) m5).bind fun m6 => (f_X10_follow (m6.1 13 14) m6).bind fun m7 => (f_X10_beginNew m7).bind fun m8 => (f_X9_driftBaselines (m8.1 26 7) m8).bind fun m9 => some m9) else ((f_X0_activateNext (zi (zi m 13 13 s0) 13 9 ((m.1 13 9) + 1))).bind fun m10 => (f_X8_clear m10).bind fun m11 => some m11))
def f_X7_runFrame  (m : zM) : Option zM :=
  (f_X9_sense (m.1 26 1) (zi (zi m 13 14 ((m.1 13 14) + 1)) 13 8 ((m.1 13 8) + 1))).bind fun m1 => (f_X9_quietSpread m1).bind fun r2 => if r2 ≤ (m1.1 26 8) then (j_X7_runFrame_68 0 (zi m1 13 12 r2)) else (j_X7_runFrame_68 1 (zi m1 13 12 r2))
def b_X11_frames_38 (x1 : Int32) (x2 : Int32)  (s : (Int32 × zM)) : Option ((Int32 × zM) ⊕ (zM)) :=
  if x1 ≤ s.1 then (some (.inr s.2)) else ((f_X7_runFrame s.2).bind fun m2 => some (.inl ((s.1 + 1), m2)))
def f_X11_frames (x1 : Int32) (m : zM) : Option (Int32 × zM) :=
  if (m.1 13 7) = 0 then (some (-10003, m)) else ((f_X11_within x1 1 20 m).bind fun r1 => if (bi r1) = 0 then (some (-10002, m)) else ((zloop (b_X11_frames_38 x1 (m.1 8 4)) zFU (0, m)).bind fun r3 => some (((r3.1 8 4) - (m.1 8 4)), r3)))
def f_X12_eventsAll  (m : zM) : Option Int32 :=
  some ((((m.1 99 1) + (m.1 99 2)) + (m.1 99 3)) + (m.1 99 4))
def j_X12_feltOf_65 (s0 : Int32) (m : zM) : Option Int32 :=
  if s0 ≤ 0 then (some 0) else (some s0)
def f_X12_feltOf (x1 : Int32) (x2 : Int32) (m : zM) : Option Int32 :=
  zg (znz (m.1 68 2)) (zg (zin x2 5) (zg (znz (m.1 68 2)) (zg (zin x2 5) (zg (zin x2 5) (if (m.1 75 x2.toNatClampNeg) = 0 then (j_X12_feltOf_65 0 m) else (zg (zin x2 5) (j_X12_feltOf_65 ((m.1 78 x2.toNatClampNeg) - (12 * ((((2 * (zrem x1 (m.1 68 2))) - (m.1 76 x2.toNatClampNeg)) * ((2 * (zrem x1 (m.1 68 2))) - (m.1 76 x2.toNatClampNeg))) + (((2 * (x1 / (m.1 68 2))) - (m.1 77 x2.toNatClampNeg)) * ((2 * (x1 / (m.1 68 2))) - (m.1 77 x2.toNatClampNeg)))))) m)))))))
def b_X12_feltAll_4 (x1 : Int32) (m : zM) (s : (Int32 × Int32)) : Option ((Int32 × Int32) ⊕ (Int32)) :=
  if 5 ≤ s.2 then (some (.inr s.1)) else ((f_X12_feltOf x1 s.2 m).bind fun r1 => some (.inl ((s.1 + r1), (s.2 + 1))))
def f_X12_feltAll (x1 : Int32) (m : zM) : Option Int32 :=
  (zloop (b_X12_feltAll_4 x1 m) zFU (0, 0)).bind fun r2 => some r2
def f_X12_draw (x1 : Int32) (m : zM) : Option (Int32 × zM) :=
  zg (znzl x1.toInt64) (some ((zlrem ((zlrem (((1103515245 : Int64) * ((m.1 68 16).toInt64)) + (12345 : Int64)) (2147483648 : Int64)) / (65536 : Int64)) x1.toInt64).toInt32, (zi m 68 16 ((zlrem (((1103515245 : Int64) * ((m.1 68 16).toInt64)) + (12345 : Int64)) (2147483648 : Int64)).toInt32))))
def j_X12_layRaw_56 (x1 : Int32) (x2 : Int32) (s0 : Int32) (s1 : Int32) (s2 : Int32) (m : zM) : Option ((Int32 × zM) ⊕ (zM)) :=
  zg (zin s2 64) (zg (zin x2 64) (zg (zin x2 64) (zg (zin x2 64) (zg (zin x2 64) (some (.inl ((x2 + 1), (zi (zi (zi m 72 s2.toNatClampNeg (s1 + s0)) 73 x2.toNatClampNeg (((zi m 72 s2.toNatClampNeg (s1 + s0)).1 72 x2.toNatClampNeg) - (m.1 71 x2.toNatClampNeg))) 74 x2.toNatClampNeg (-1)))))))))
def b_X12_layRaw_12 (x1 : Int32)  (s : (Int32 × zM)) : Option ((Int32 × zM) ⊕ (zM)) :=
  (f_X12_cells s.2).bind fun r2 => if r2 ≤ s.1 then (some (.inr s.2)) else (zg (zin s.1 64) ((f_X12_feltAll s.1 s.2).bind fun r4 => if x1 ≤ 0 then (j_X12_layRaw_56 x1 s.1 0 ((s.2.1 70 s.1.toNatClampNeg) + r4) s.1 s.2) else ((f_X12_draw ((2 * x1) + 1) s.2).bind fun r10 => j_X12_layRaw_56 x1 s.1 (r10.1 - x1) ((s.2.1 70 s.1.toNatClampNeg) + r4) s.1 r10.2)))
def f_X12_layRaw  (m : zM) : Option zM :=
  zg (zin (m.1 68 15) 3) ((zloop (b_X12_layRaw_12 (m.1 79 (m.1 68 15).toNatClampNeg)) zFU (0, m)).bind fun r11 => some r11)
def f_X12_isTouched (x1 : Int32) (m : zM) : Option Bool :=
  zg (zin x1 64) (if (m.1 73 x1.toNatClampNeg) < (m.1 80 1) then (some false) else (some true))
def j_X12_beside_12 (x1 : Int32) (s0 : Int32) (m : zM) : Option Int32 :=
  zg (znz (m.1 68 2)) (zg (znz (m.1 68 2)) ((f_X12_within (((zrem x1 (m.1 68 2)) + (zrem s0 3)) - 1) 0 ((m.1 68 2) - 1) m).bind fun r3 => if (bi r3) = 0 then (some (-1)) else ((f_X12_within (((x1 / (m.1 68 2)) + (s0 / 3)) - 1) 0 ((m.1 68 3) - 1) m).bind fun r4 => if (bi r4) = 0 then (some (-1)) else (some (((m.1 68 2) * (((x1 / (m.1 68 2)) + (s0 / 3)) - 1)) + (((zrem x1 (m.1 68 2)) + (zrem s0 3)) - 1))))))
def f_X12_beside (x1 : Int32) (x2 : Int32) (m : zM) : Option Int32 :=
  if 4 ≤ x2 then (j_X12_beside_12 x1 (x2 + 1) m) else (j_X12_beside_12 x1 x2 m)
def j_X12_isNearTouched_46 (x1 : Int32) (x3 : Int32) (s0 : Int32) (m : zM) : Option ((Int32 × Int32) ⊕ (Int32)) :=
  some (.inl (s0, (x3 + 1)))
def j_X12_isNearTouched_41 (x1 : Int32) (x3 : Int32) (m : zM) : Option ((Int32 × Int32) ⊕ (Int32)) :=
  j_X12_isNearTouched_46 x1 x3 1 m
def j_X12_isNearTouched_45 (x1 : Int32) (x3 : Int32) (m : zM) : Option ((Int32 × Int32) ⊕ (Int32)) :=
  j_X12_isNearTouched_46 x1 x3 0 m
def b_X12_isNearTouched_8 (x1 : Int32) (m : zM) (s : (Int32 × Int32)) : Option ((Int32 × Int32) ⊕ (Int32)) :=
  if 8 ≤ s.2 then (some (.inr s.1)) else ((f_X12_beside x1 s.2 m).bind fun r2 => if s.1 = 0 then (if r2 = (-1) then (j_X12_isNearTouched_45 x1 s.2 m) else ((f_X12_isTouched r2 m).bind fun r3 => if (bi r3) = 0 then (j_X12_isNearTouched_45 x1 s.2 m) else (j_X12_isNearTouched_41 x1 s.2 m))) else (j_X12_isNearTouched_41 x1 s.2 m))
def f_X12_isNearTouched (x1 : Int32) (m : zM) : Option Bool :=
  (f_X12_isTouched x1 m).bind fun r1 => (zloop (b_X12_isNearTouched_8 x1 m) zFU ((bi r1), 0)).bind fun r4 => zg (zb r4) (some (decide (r4 = 1)))
def j_X12_spanOf_68 (x1 : Int32) (x2 : Int32) (x3 : Int32) (m : zM) : Option ((Int32 × Int32 × Int32) ⊕ (Int32 × Int32)) :=
  some (.inl (x1, x2, (x3 + 1)))
def j_X12_spanOf_67 (x1 : Int32) (x3 : Int32) (s0 : Int32) (m : zM) : Option ((Int32 × Int32 × Int32) ⊕ (Int32 × Int32)) :=
  j_X12_spanOf_68 x1 s0 x3 m
def j_X12_spanOf_46 (x2 : Int32) (x3 : Int32) (s0 : Int32) (m : zM) : Option ((Int32 × Int32 × Int32) ⊕ (Int32 × Int32)) :=
  zg (zin x3 64) (if (m.1 73 x3.toNatClampNeg) ≤ x2 then (j_X12_spanOf_67 s0 x3 x2 m) else (zg (zin x3 64) (j_X12_spanOf_67 s0 x3 (m.1 73 x3.toNatClampNeg) m)))
def b_X12_spanOf_10  (m : zM) (s : (Int32 × Int32 × Int32)) : Option ((Int32 × Int32 × Int32) ⊕ (Int32 × Int32)) :=
  (f_X12_cells m).bind fun r1 => if r1 ≤ s.2.2 then (some (.inr (s.1, s.2.1))) else ((f_X12_isNearTouched s.2.2 m).bind fun r2 => if (bi r2) = 0 then (zg (zin s.2.2 64) (if s.1 ≤ (m.1 73 s.2.2.toNatClampNeg) then (j_X12_spanOf_46 s.2.1 s.2.2 s.1 m) else (zg (zin s.2.2 64) (j_X12_spanOf_46 s.2.1 s.2.2 (m.1 73 s.2.2.toNatClampNeg) m)))) else (j_X12_spanOf_68 s.1 s.2.1 s.2.2 m))
def f_X12_spanOf  (m : zM) : Option Int32 :=
  (zloop (b_X12_spanOf_10 m) zFU (268435456, -268435456, 0)).bind fun r7 => if r7.1 = 268435456 then (some 0) else (some (r7.2 - r7.1))
def j_X12_higher_80 (x1 : Int32) (x3 : Int32) (s0 : Int32) (m : zM) : Option ((Int32 × Int32) ⊕ (Int32)) :=
  some (.inl (s0, (x3 + 1)))
def j_X12_higher_67 (x1 : Int32) (x2 : Int32) (x3 : Int32) (x4 : Int32) (s0 : Int32) (m : zM) : Option ((Int32 × Int32) ⊕ (Int32)) :=
  if s0 = 0 then (j_X12_higher_80 x1 x3 x2 m) else (j_X12_higher_80 x1 x3 x4 m)
def j_X12_higher_66 (x1 : Int32) (x2 : Int32) (x3 : Int32) (x4 : Int32) (m : zM) : Option ((Int32 × Int32) ⊕ (Int32)) :=
  j_X12_higher_67 x1 x2 x3 x4 0 m
def j_X12_higher_62 (x1 : Int32) (x2 : Int32) (x3 : Int32) (x4 : Int32) (m : zM) : Option ((Int32 × Int32) ⊕ (Int32)) :=
  j_X12_higher_67 x1 x2 x3 x4 1 m
def b_X12_higher_4 (x1 : Int32) (m : zM) (s : (Int32 × Int32)) : Option ((Int32 × Int32) ⊕ (Int32)) :=
  if 8 ≤ s.2 then (some (.inr s.1)) else ((f_X12_beside x1 s.2 m).bind fun r1 => if r1 = (-1) then (j_X12_higher_66 x1 s.1 s.2 r1 m) else (zg (zin r1 64) (zg (zin s.1 64) (if (m.1 73 s.1.toNatClampNeg) < (m.1 73 r1.toNatClampNeg) then (j_X12_higher_62 x1 s.1 s.2 r1 m) else (zg (zin r1 64) (zg (zin s.1 64) (if (m.1 73 r1.toNatClampNeg) = (m.1 73 s.1.toNatClampNeg) then (if s.1 ≤ r1 then (j_X12_higher_66 x1 s.1 s.2 r1 m) else (j_X12_higher_62 x1 s.1 s.2 r1 m)) else (j_X12_higher_66 x1 s.1 s.2 r1 m))))))))
def f_X12_higher (x1 : Int32) (m : zM) : Option Int32 :=
  (zloop (b_X12_higher_4 x1 m) zFU (x1, 0)).bind fun r6 => some r6
def b_X12_layTops_12 (x1 : Int32) (m : zM) (s : (Int32)) : Option ((Int32) ⊕ (Int32)) :=
  (f_X12_higher s m).bind fun r2 => if r2 = s then (some (.inr s)) else ((f_X12_higher s m).bind fun r3 => some (.inl r3))
def j_X12_layTops_48 (x1 : Int32) (s0 : Int32) (s1 : Int32) (m : zM) : Option ((Int32 × zM) ⊕ (zM)) :=
  zg (zin s1 64) (some (.inl ((x1 + 1), (zi m 100 s1.toNatClampNeg s0))))
def b_X12_layTops_2   (s : (Int32 × zM)) : Option ((Int32 × zM) ⊕ (zM)) :=
  (f_X12_cells s.2).bind fun r1 => if r1 ≤ s.1 then (some (.inr s.2)) else ((zloop (b_X12_layTops_12 s.1 s.2) zFU s.1).bind fun r4 => (f_X12_isTouched s.1 s.2).bind fun r5 => if (bi r5) = 0 then (j_X12_layTops_48 s.1 (-1) s.1 s.2) else (j_X12_layTops_48 s.1 r4 s.1 s.2))
def f_X12_layTops  (m : zM) : Option zM :=
  (zloop (b_X12_layTops_2 ) zFU (0, m)).bind fun r7 => some r7
def f_X12_isTop (x1 : Int32) (m : zM) : Option Bool :=
  zg (zin x1 64) (if (m.1 100 x1.toNatClampNeg) = x1 then (some true) else (some false))
def f_X12_lesser (x0 : Int32) (x1 : Int32) (m : zM) : Option Int32 :=
  if x1 ≤ x0 then (some x1) else (some x0)
def f_X12_isJoined (x1 : Int32) (x2 : Int32) (x3 : Int32) (m : zM) : Option Bool :=
  if x3 ≤ (-268435456) then (some false) else (zg (zin x1 64) (zg (zin x2 64) ((f_X12_lesser (m.1 73 x1.toNatClampNeg) (m.1 73 x2.toNatClampNeg) m).bind fun r3 => if (100 * x3) < ((m.1 80 2) * r3) then (some false) else (some true))))
def j_X12_passOf_101 (x1 : Int32) (x2 : Int32) (x4 : Int32) (x5 : Int32) (s0 : Int32) (m : zM) : Option ((Int32 × Int32) ⊕ (Int32)) :=
  some (.inl (s0, (x5 + 1)))
def j_X12_passOf_87 (x1 : Int32) (x2 : Int32) (x3 : Int32) (x4 : Int32) (x5 : Int32) (s0 : Int32) (m : zM) : Option ((Int32 × Int32) ⊕ (Int32)) :=
  if s0 ≤ x3 then (j_X12_passOf_101 x1 x2 x4 x5 x3 m) else (j_X12_passOf_101 x1 x2 x4 x5 s0 m)
def j_X12_passOf_84 (x1 : Int32) (x2 : Int32) (x3 : Int32) (x4 : Int32) (x5 : Int32) (m : zM) : Option ((Int32 × Int32) ⊕ (Int32)) :=
  j_X12_passOf_87 x1 x2 x3 x4 x5 (-268435456) m
def b_X12_passOf_19 (x1 : Int32) (x2 : Int32) (x4 : Int32) (m : zM) (s : (Int32 × Int32)) : Option ((Int32 × Int32) ⊕ (Int32)) :=
  if 8 ≤ s.2 then (some (.inr s.1)) else (zg (zin x4 64) (if (m.1 100 x4.toNatClampNeg) = x1 then ((f_X12_beside x4 s.2 m).bind fun r3 => if r3 = (-1) then (j_X12_passOf_84 x1 x2 s.1 x4 s.2 m) else (zg (zin r3 64) (if (m.1 100 r3.toNatClampNeg) = x2 then (zg (zin x4 64) (zg (zin r3 64) ((f_X12_lesser (m.1 73 x4.toNatClampNeg) (m.1 73 r3.toNatClampNeg) m).bind fun r7 => j_X12_passOf_87 x1 x2 s.1 x4 s.2 r7 m))) else (j_X12_passOf_84 x1 x2 s.1 x4 s.2 m)))) else (some (.inr s.1))))
def j_X12_passOf_108 (x1 : Int32) (x2 : Int32) (x3 : Int32) (x4 : Int32) (m : zM) : Option ((Int32 × Int32) ⊕ (Int32)) :=
  some (.inl (x3, (x4 + 1)))
def b_X12_passOf_7 (x1 : Int32) (x2 : Int32) (m : zM) (s : (Int32 × Int32)) : Option ((Int32 × Int32) ⊕ (Int32)) :=
  (f_X12_cells m).bind fun r1 => if r1 ≤ s.2 then (some (.inr s.1)) else ((zloop (b_X12_passOf_19 x1 x2 s.2 m) zFU (s.1, 0)).bind fun r8 => j_X12_passOf_108 x1 x2 r8 s.2 m)
def f_X12_passOf (x1 : Int32) (x2 : Int32) (m : zM) : Option Int32 :=
  (zloop (b_X12_passOf_7 x1 x2 m) zFU (-268435456, 0)).bind fun r9 => some r9
def j_X12_joinOnce_97 (x1 : Int32) (x2 : Int32) (x3 : Int32) (x4 : Int32) (x5 : Int32) (m : zM) : Option ((Int32 × Int32 × Int32 × Int32) ⊕ (Int32 × Int32 × Int32)) :=
  some (.inl (x1, x2, x3, (x5 + 1)))
def j_X12_joinOnce_67 (x1 : Int32) (x2 : Int32) (x3 : Int32) (x4 : Int32) (x5 : Int32) (s0 : Int32) (m : zM) : Option ((Int32 × Int32 × Int32 × Int32) ⊕ (Int32 × Int32 × Int32)) :=
  (f_X12_isJoined x4 x5 s0 m).bind fun r5 => if (bi r5) = 0 then (j_X12_joinOnce_97 x1 x2 x3 x4 x5 m) else (if s0 ≤ x3 then (j_X12_joinOnce_97 x1 x2 x3 x4 x5 m) else (j_X12_joinOnce_97 x4 x5 s0 x4 x5 m))
def b_X12_joinOnce_26 (x4 : Int32) (m : zM) (s : (Int32 × Int32 × Int32 × Int32)) : Option ((Int32 × Int32 × Int32 × Int32) ⊕ (Int32 × Int32 × Int32)) :=
  (f_X12_cells m).bind fun r2 => if r2 ≤ s.2.2.2 then (some (.inr (s.1, s.2.1, s.2.2.1))) else ((f_X12_isTop x4 m).bind fun r3 => if (bi r3) = 0 then (some (.inr (s.1, s.2.1, s.2.2.1))) else ((f_X12_isTop s.2.2.2 m).bind fun r4 => if (bi r4) = 0 then (j_X12_joinOnce_67 s.1 s.2.1 s.2.2.1 x4 s.2.2.2 (-268435456) m) else ((f_X12_passOf x4 s.2.2.2 m).bind fun r6 => j_X12_joinOnce_67 s.1 s.2.1 s.2.2.1 x4 s.2.2.2 r6 m)))
def j_X12_joinOnce_103 (x1 : Int32) (x2 : Int32) (x3 : Int32) (x4 : Int32) (m : zM) : Option ((Int32 × Int32 × Int32 × Int32) ⊕ (Int32 × Int32)) :=
  some (.inl (x1, x2, x3, (x4 + 1)))
def b_X12_joinOnce_11  (m : zM) (s : (Int32 × Int32 × Int32 × Int32)) : Option ((Int32 × Int32 × Int32 × Int32) ⊕ (Int32 × Int32)) :=
  (f_X12_cells m).bind fun r1 => if r1 ≤ s.2.2.2 then (some (.inr (s.1, s.2.1))) else ((zloop (b_X12_joinOnce_26 s.2.2.2 m) zFU (s.1, s.2.1, s.2.2.1, (s.2.2.2 + 1))).bind fun r7 => j_X12_joinOnce_103 r7.1 r7.2.1 r7.2.2 s.2.2.2 m)
def j_X12_joinOnce_190 (x1 : Int32) (x2 : Int32) (x4 : Int32) (x5 : Int32) (s0 : Int32) (s1 : Int32) (m : zM) : Option ((Int32 × zM) ⊕ (zM)) :=
  zg (zin s1 64) (some (.inl ((x5 + 1), (zi m 100 s1.toNatClampNeg s0))))
def j_X12_joinOnce_178 (x1 : Int32) (x2 : Int32) (x4 : Int32) (x5 : Int32) (s0 : Int32) (m : zM) : Option ((Int32 × zM) ⊕ (zM)) :=
  j_X12_joinOnce_190 x1 x2 x4 x5 x4 s0 m
def b_X12_joinOnce_141 (x1 : Int32) (x2 : Int32) (x4 : Int32)  (s : (Int32 × zM)) : Option ((Int32 × zM) ⊕ (zM)) :=
  (f_X12_cells s.2).bind fun r11 => if r11 ≤ s.1 then (some (.inr s.2)) else (zg (zin s.1 64) (if (s.2.1 100 s.1.toNatClampNeg) = x1 then (j_X12_joinOnce_178 x1 x2 x4 s.1 s.1 s.2) else (zg (zin s.1 64) (if (s.2.1 100 s.1.toNatClampNeg) = x2 then (j_X12_joinOnce_178 x1 x2 x4 s.1 s.1 s.2) else (zg (zin s.1 64) (j_X12_joinOnce_190 x1 x2 x4 s.1 (s.2.1 100 s.1.toNatClampNeg) s.1 s.2))))))
def j_X12_joinOnce_136 (x1 : Int32) (x2 : Int32) (s0 : Int32) (m : zM) : Option (Bool × zM) :=
  (zloop (b_X12_joinOnce_141 x1 x2 s0) zFU (0, m)).bind fun r16 => some (true, r16)
def f_X12_joinOnce  (m : zM) : Option (Bool × zM) :=
  (zloop (b_X12_joinOnce_11 m) zFU (-1, -1, -268435456, 0)).bind fun r8 => if r8.1 = (-1) then (some (false, m)) else (zg (zin r8.2 64) (zg (zin r8.1 64) (if (m.1 73 r8.2.toNatClampNeg) ≤ (m.1 73 r8.1.toNatClampNeg) then (j_X12_joinOnce_136 r8.1 r8.2 r8.1 m) else (j_X12_joinOnce_136 r8.1 r8.2 r8.2 m))))
def b_X12_layHills_6   (s : (Int32 × zM)) : Option ((Int32 × zM) ⊕ (zM)) :=
  if s.1 = 0 then (some (.inr s.2)) else ((f_X12_joinOnce s.2).bind fun r2 => some (.inl ((bi r2.1), r2.2)))
def f_X12_layHills  (m : zM) : Option zM :=
  (f_X12_layTops m).bind fun m1 => (zloop (b_X12_layHills_6 ) zFU (1, m1)).bind fun r3 => some r3
def f_X12_isHigh (x1 : Int32) (m : zM) : Option Bool :=
  (f_X12_isTop x1 m).bind fun r1 => if (bi r1) = 0 then (some false) else (zg (zin x1 64) (if (m.1 73 x1.toNatClampNeg) < (m.1 80 0) then (some false) else (some true)))
def j_X12_massOf_33 (x1 : Int32) (x3 : Int32) (s0 : Int32) (s1 : Int32) (m : zM) : Option ((Int32 × Int32) ⊕ (Int32)) :=
  some (.inl ((s1 + s0), (x3 + 1)))
def b_X12_massOf_4 (x1 : Int32) (m : zM) (s : (Int32 × Int32)) : Option ((Int32 × Int32) ⊕ (Int32)) :=
  (f_X12_cells m).bind fun r1 => if r1 ≤ s.2 then (some (.inr s.1)) else (zg (zin s.2 64) (if (m.1 100 s.2.toNatClampNeg) = x1 then (zg (zin s.2 64) (j_X12_massOf_33 x1 s.2 (m.1 73 s.2.toNatClampNeg) s.1 m)) else (j_X12_massOf_33 x1 s.2 0 s.1 m)))
def f_X12_massOf (x1 : Int32) (m : zM) : Option Int32 :=
  (zloop (b_X12_massOf_4 x1 m) zFU (0, 0)).bind fun r4 => some r4
def j_X12_aheadOf_73 (x1 : Int32) (x3 : Int32) (x4 : Int32) (s0 : Int32) (s1 : Int32) (m : zM) : Option ((Int32 × Int32) ⊕ (Int32)) :=
  some (.inl ((s1 + s0), (x4 + 1)))
def j_X12_aheadOf_68 (x1 : Int32) (x3 : Int32) (x4 : Int32) (s0 : Int32) (m : zM) : Option ((Int32 × Int32) ⊕ (Int32)) :=
  j_X12_aheadOf_73 x1 x3 x4 1 s0 m
def j_X12_aheadOf_72 (x1 : Int32) (x3 : Int32) (x4 : Int32) (s0 : Int32) (m : zM) : Option ((Int32 × Int32) ⊕ (Int32)) :=
  j_X12_aheadOf_73 x1 x3 x4 0 s0 m
def j_X12_aheadOf_47 (x1 : Int32) (x2 : Int32) (x3 : Int32) (x4 : Int32) (s0 : Int32) (m : zM) : Option ((Int32 × Int32) ⊕ (Int32)) :=
  if x3 < s0 then (j_X12_aheadOf_68 x1 x3 x4 x2 m) else (if s0 = x3 then (if x1 ≤ x4 then (j_X12_aheadOf_72 x1 x3 x4 x2 m) else (j_X12_aheadOf_68 x1 x3 x4 x2 m)) else (j_X12_aheadOf_72 x1 x3 x4 x2 m))
def j_X12_aheadOf_44 (x1 : Int32) (x2 : Int32) (x3 : Int32) (x4 : Int32) (m : zM) : Option ((Int32 × Int32) ⊕ (Int32)) :=
  j_X12_aheadOf_47 x1 x2 x3 x4 (-268435456) m
def b_X12_aheadOf_11 (x1 : Int32) (x3 : Int32) (m : zM) (s : (Int32 × Int32)) : Option ((Int32 × Int32) ⊕ (Int32)) :=
  (f_X12_cells m).bind fun r2 => if r2 ≤ s.2 then (some (.inr s.1)) else (if s.2 = x1 then (j_X12_aheadOf_44 x1 s.1 x3 s.2 m) else ((f_X12_isHigh s.2 m).bind fun r3 => if (bi r3) = 0 then (j_X12_aheadOf_44 x1 s.1 x3 s.2 m) else ((f_X12_massOf s.2 m).bind fun r4 => j_X12_aheadOf_47 x1 s.1 x3 s.2 r4 m)))
def f_X12_aheadOf (x1 : Int32) (m : zM) : Option Int32 :=
  (f_X12_massOf x1 m).bind fun r1 => (zloop (b_X12_aheadOf_11 x1 r1 m) zFU (0, 0)).bind fun r5 => some r5
def j_X12_sizeOf_28 (x1 : Int32) (x3 : Int32) (s0 : Int32) (s1 : Int32) (m : zM) : Option ((Int32 × Int32) ⊕ (Int32)) :=
  some (.inl ((s1 + s0), (x3 + 1)))
def b_X12_sizeOf_4 (x1 : Int32) (m : zM) (s : (Int32 × Int32)) : Option ((Int32 × Int32) ⊕ (Int32)) :=
  (f_X12_cells m).bind fun r1 => if r1 ≤ s.2 then (some (.inr s.1)) else (zg (zin s.2 64) (if (m.1 100 s.2.toNatClampNeg) = x1 then (j_X12_sizeOf_28 x1 s.2 1 s.1 m) else (j_X12_sizeOf_28 x1 s.2 0 s.1 m)))
def f_X12_sizeOf (x1 : Int32) (m : zM) : Option Int32 :=
  (zloop (b_X12_sizeOf_4 x1 m) zFU (0, 0)).bind fun r3 => some r3
def j_X12_laySpot_89 (x1 : Int32) (x2 : Int32) (x3 : Int32) (x4 : Int32) (x5 : Int32) (m : zM) : Option ((Int32 × Int32 × Int32 × zM) ⊕ (Int32 × Int32 × zM)) :=
  some (.inl (x3, x4, (x5 + 1), m))
def b_X12_laySpot_14 (x1 : Int32) (x2 : Int32)  (s : (Int32 × Int32 × Int32 × zM)) : Option ((Int32 × Int32 × Int32 × zM) ⊕ (Int32 × Int32 × zM)) :=
  (f_X12_cells s.2.2.2).bind fun r2 => if r2 ≤ s.2.2.1 then (some (.inr (s.1, s.2.1, s.2.2.2))) else (zg (zin s.2.2.1 64) (if (s.2.2.2.1 100 s.2.2.1.toNatClampNeg) = x1 then (zg (znz (s.2.2.2.1 68 2)) (zg (zin s.2.2.1 64) (zg (znz (s.2.2.2.1 68 2)) (zg (zin s.2.2.1 64) (zg (zin s.2.2.1 64) (j_X12_laySpot_89 x1 x2 (s.1 + ((16 * (zrem s.2.2.1 (s.2.2.2.1 68 2))) * (s.2.2.2.1 73 s.2.2.1.toNatClampNeg))) (s.2.1 + ((16 * (s.2.2.1 / (s.2.2.2.1 68 2))) * (s.2.2.2.1 73 s.2.2.1.toNatClampNeg))) s.2.2.1 (zi s.2.2.2 74 s.2.2.1.toNatClampNeg (s.2.2.2.1 68 20)))))))) else (j_X12_laySpot_89 x1 x2 s.1 s.2.1 s.2.2.1 s.2.2.2)))
def f_X12_laySpot (x1 : Int32) (m : zM) : Option zM :=
  (f_X12_massOf x1 m).bind fun r1 => (zloop (b_X12_laySpot_14 x1 r1) zFU (0, 0, 0, m)).bind fun r9 => zg (zin (r9.2.2.1 68 20) 6) ((f_X12_sizeOf x1 (zi r9.2.2 81 ((r9.2.2.1 68 20).toNatClampNeg) x1)).bind fun r11 => zg (zin (r9.2.2.1 68 20) 6) (zg (zin (r9.2.2.1 68 20) 6) (zg (znz r1) (zg (zin (r9.2.2.1 68 20) 6) (zg (znz r1) (zg (zin (r9.2.2.1 68 20) 6) (zg (zin (r9.2.2.1 68 20) 6) (some (zi (zi (zi (zi (zi (zi (zi r9.2.2 81 ((r9.2.2.1 68 20).toNatClampNeg) x1) 82 ((r9.2.2.1 68 20).toNatClampNeg) r11) 83 ((r9.2.2.1 68 20).toNatClampNeg) r1) 84 ((r9.2.2.1 68 20).toNatClampNeg) (r9.1 / r1)) 85 ((r9.2.2.1 68 20).toNatClampNeg) (r9.2.1 / r1)) 86 ((r9.2.2.1 68 20).toNatClampNeg) (-1)) 68 20 ((r9.2.2.1 68 20) + 1))))))))))
def j_X12_laySpots_38 (x1 : Int32) (m : zM) : Option ((Int32 × zM) ⊕ (zM)) :=
  some (.inl ((x1 + 1), m))
def b_X12_laySpots_7   (s : (Int32 × zM)) : Option ((Int32 × zM) ⊕ (zM)) :=
  (f_X12_cells s.2).bind fun r1 => if r1 ≤ s.1 then (some (.inr s.2)) else ((f_X12_isHigh s.1 s.2).bind fun r2 => if (bi r2) = 0 then (j_X12_laySpots_38 s.1 s.2) else ((f_X12_aheadOf s.1 s.2).bind fun r3 => if 6 ≤ r3 then (j_X12_laySpots_38 s.1 s.2) else ((f_X12_laySpot s.1 s.2).bind fun m4 => j_X12_laySpots_38 s.1 m4)))
def f_X12_laySpots  (m : zM) : Option zM :=
  (zloop (b_X12_laySpots_7 ) zFU (0, (zi m 68 20 0))).bind fun r5 => some r5
def f_X12_abs (x0 : Int32) (m : zM) : Option Int32 :=
  if 0 ≤ x0 then (some x0) else (some (-x0))
def f_X12_isNear (x1 : Int32) (x2 : Int32) (m : zM) : Option Bool :=
  zg (zin x1 6) (zg (zin x2 6) ((f_X12_abs ((m.1 88 x1.toNatClampNeg) - (m.1 84 x2.toNatClampNeg)) m).bind fun r3 => if (m.1 80 4) < r3 then (some false) else (zg (zin x1 6) (zg (zin x2 6) ((f_X12_abs ((m.1 89 x1.toNatClampNeg) - (m.1 85 x2.toNatClampNeg)) m).bind fun r6 => if (m.1 80 4) < r6 then (some false) else (some true))))))
def f_X12_pairCost (x1 : Int32) (x2 : Int32) (m : zM) : Option Int32 :=
  zg (zin x1 6) (zg (zin x2 6) (zg (zin x1 6) (zg (zin x2 6) (some ((((m.1 88 x1.toNatClampNeg) - (m.1 84 x2.toNatClampNeg)) * ((m.1 88 x1.toNatClampNeg) - (m.1 84 x2.toNatClampNeg))) + (((m.1 89 x1.toNatClampNeg) - (m.1 85 x2.toNatClampNeg)) * ((m.1 89 x1.toNatClampNeg) - (m.1 85 x2.toNatClampNeg))))))))
def j_X12_isBetter_30  (m : zM) : Option Bool :=
  some true
def f_X12_isBetter (x1 : Int32) (x2 : Int32) (x3 : Int32) (m : zM) : Option Bool :=
  zg (zin x3 448) (if (m.1 101 x3.toNatClampNeg) < x1 then (j_X12_isBetter_30 m) else (zg (zin x3 448) (if x1 = (m.1 101 x3.toNatClampNeg) then (zg (zin x3 448) (if (m.1 102 x3.toNatClampNeg) ≤ x2 then (some false) else (j_X12_isBetter_30 m))) else (some false))))
def j_X12_layPairsOf_142 (x1 : Int32) (x2 : Int32) (x3 : Int32) (x4 : Int32) (m : zM) : Option ((Int32 × zM) ⊕ (zM)) :=
  some (.inl ((x4 + 1), m))
def b_X12_layPairsOf_40 (x1 : Int32) (x2 : Int32) (x3 : Int32)  (s : (Int32 × zM)) : Option ((Int32 × zM) ⊕ (zM)) :=
  if (s.2.1 68 20) ≤ s.1 then (some (.inr s.2)) else (if ((zshr x2 s.1) &&& 1) = 0 then ((f_X12_isNear x1 s.1 s.2).bind fun r5 => if (bi r5) = 0 then (j_X12_layPairsOf_142 x1 x2 x3 s.1 s.2) else (zg (zin ((64 * (x1 + 1)) + (x2 ||| (zshl 1 s.1))) 448) ((f_X12_pairCost x1 s.1 s.2).bind fun r7 => zg (zin ((64 * (x1 + 1)) + (x2 ||| (zshl 1 s.1))) 448) ((f_X12_isBetter ((s.2.1 101 ((64 * (x1 + 1)) + (x2 ||| (zshl 1 s.1))).toNatClampNeg) + 1) ((s.2.1 102 ((64 * (x1 + 1)) + (x2 ||| (zshl 1 s.1))).toNatClampNeg) + r7) x3 s.2).bind fun r9 => if (bi r9) = 0 then (j_X12_layPairsOf_142 x1 x2 x3 s.1 s.2) else (zg (zin ((64 * (x1 + 1)) + (x2 ||| (zshl 1 s.1))) 448) (zg (zin x3 448) (zg (zin x3 448) (j_X12_layPairsOf_142 x1 x2 x3 s.1 (zi (zi s.2 101 x3.toNatClampNeg ((s.2.1 101 ((64 * (x1 + 1)) + (x2 ||| (zshl 1 s.1))).toNatClampNeg) + 1)) 102 x3.toNatClampNeg ((s.2.1 102 ((64 * (x1 + 1)) + (x2 ||| (zshl 1 s.1))).toNatClampNeg) + r7)))))))))) else (j_X12_layPairsOf_142 x1 x2 x3 s.1 s.2))
def f_X12_layPairsOf (x1 : Int32) (x2 : Int32) (m : zM) : Option zM :=
  zg (zin (((64 * x1) + x2) + 64) 448) (zg (zin ((64 * x1) + x2) 448) (zg (zin (((64 * x1) + x2) + 64) 448) (zg (zin ((64 * x1) + x2) 448) ((zloop (b_X12_layPairsOf_40 x1 x2 ((64 * x1) + x2)) zFU (0, (zi (zi m 101 (((64 * x1) + x2).toNatClampNeg) (m.1 101 (((64 * x1) + x2) + 64).toNatClampNeg)) 102 (((64 * x1) + x2).toNatClampNeg) (m.1 102 (((64 * x1) + x2) + 64).toNatClampNeg)))).bind fun r13 => some r13))))
def f_X12_isBestPair (x1 : Int32) (x2 : Int32) (x3 : Int32) (m : zM) : Option Bool :=
  if ((zshr x3 x2) &&& 1) = 1 then (some false) else ((f_X12_isNear x1 x2 m).bind fun r1 => if (bi r1) = 0 then (some false) else (zg (zin ((64 * (x1 + 1)) + (x3 ||| (zshl 1 x2))) 448) (zg (zin ((64 * x1) + x3) 448) (if ((m.1 101 ((64 * (x1 + 1)) + (x3 ||| (zshl 1 x2))).toNatClampNeg) + 1) = (m.1 101 ((64 * x1) + x3).toNatClampNeg) then (zg (zin ((64 * (x1 + 1)) + (x3 ||| (zshl 1 x2))) 448) ((f_X12_pairCost x1 x2 m).bind fun r5 => zg (zin ((64 * x1) + x3) 448) (if ((m.1 102 ((64 * (x1 + 1)) + (x3 ||| (zshl 1 x2))).toNatClampNeg) + r5) = (m.1 102 ((64 * x1) + x3).toNatClampNeg) then (some true) else (some false)))) else (some false)))))
def b_X12_layPairs_2   (s : (Int32 × zM)) : Option ((Int32 × zM) ⊕ (zM)) :=
  if 64 ≤ s.1 then (some (.inr s.2)) else (zg (zin ((64 * (s.2.1 68 27)) + s.1) 448) (zg (zin ((64 * (s.2.1 68 27)) + s.1) 448) (some (.inl ((s.1 + 1), (zi (zi s.2 101 (((64 * (s.2.1 68 27)) + s.1).toNatClampNeg) 0) 102 (((64 * (s.2.1 68 27)) + s.1).toNatClampNeg) 0))))))
def b_X12_layPairs_57 (x1 : Int32)  (s : (Int32 × zM)) : Option ((Int32 × zM) ⊕ (zM)) :=
  if 64 ≤ s.1 then (some (.inr s.2)) else ((f_X12_layPairsOf x1 s.1 s.2).bind fun m4 => some (.inl ((s.1 + 1), m4)))
def b_X12_layPairs_51   (s : (Int32 × zM)) : Option ((Int32 × zM) ⊕ (zM)) :=
  if s.1 < 0 then (some (.inr s.2)) else ((zloop (b_X12_layPairs_57 s.1) zFU (0, s.2)).bind fun r5 => some (.inl ((s.1 + (-1)), r5)))
def b_X12_layPairs_95 (x1 : Int32) (x2 : Int32) (m : zM) (s : (Int32)) : Option ((Int32) ⊕ (Int32)) :=
  if (m.1 68 20) ≤ s then (some (.inr s)) else ((f_X12_isBestPair x2 s x1 m).bind fun r7 => if (bi r7) = 0 then (some (.inl (s + 1))) else (some (.inr s)))
def j_X12_layPairs_154 (x2 : Int32) (s0 : Int32) (s1 : Int32) (m : zM) : Option ((Int32 × Int32 × zM) ⊕ (zM)) :=
  some (.inl ((s1 ||| s0), (x2 + 1), m))
def j_X12_layPairs_137 (x1 : Int32) (x2 : Int32) (x3 : Int32) (s0 : Int32) (s1 : Int32) (m : zM) : Option ((Int32 × Int32 × zM) ⊕ (zM)) :=
  zg (zin s1 6) (if (m.1 68 20) ≤ x3 then (j_X12_layPairs_154 x2 0 x1 (zi m 103 s1.toNatClampNeg s0)) else (j_X12_layPairs_154 x2 (zshl 1 x3) x1 (zi m 103 s1.toNatClampNeg s0)))
def j_X12_layPairs_119 (x1 : Int32) (x2 : Int32) (x3 : Int32) (m : zM) : Option ((Int32 × Int32 × zM) ⊕ (zM)) :=
  if (m.1 68 20) ≤ x3 then (j_X12_layPairs_137 x1 x2 x3 (-1) x2 m) else (j_X12_layPairs_137 x1 x2 x3 x3 x2 m)
def b_X12_layPairs_85   (s : (Int32 × Int32 × zM)) : Option ((Int32 × Int32 × zM) ⊕ (zM)) :=
  if (s.2.2.1 68 27) ≤ s.2.1 then (some (.inr s.2.2)) else ((zloop (b_X12_layPairs_95 s.1 s.2.1 s.2.2) zFU 0).bind fun r8 => j_X12_layPairs_119 s.1 s.2.1 r8 s.2.2)
def f_X12_layPairs  (m : zM) : Option zM :=
  (zloop (b_X12_layPairs_2 ) zFU (0, m)).bind fun r3 => (zloop (b_X12_layPairs_51 ) zFU (((r3.1 68 27) - 1), r3)).bind fun r6 => (zloop (b_X12_layPairs_85 ) zFU (0, 0, r6)).bind fun r10 => some r10
def b_X12_happens_30 (x1 : Int32) (x2 : Int32)  (s : (Int32 × zM)) : Option ((Int32 × zM) ⊕ (zM)) :=
  if s.1 ≤ 0 then (some (.inr s.2)) else (zg (zin (s.1 - 1) 12) (zg (zin s.1 12) (zg (zin (s.1 - 1) 12) (zg (zin s.1 12) (zg (zin (s.1 - 1) 12) (zg (zin s.1 12) (some (.inl ((s.1 + (-1)), (zi (zi (zi s.2 96 s.1.toNatClampNeg (s.2.1 96 (s.1 - 1).toNatClampNeg)) 97 s.1.toNatClampNeg (s.2.1 97 (s.1 - 1).toNatClampNeg)) 98 s.1.toNatClampNeg (s.2.1 98 (s.1 - 1).toNatClampNeg)))))))))))
def j_X12_happens_19 (x1 : Int32) (x2 : Int32) (s0 : Int32) (s1 : Int32) (m : zM) : Option zM :=
  (zloop (b_X12_happens_30 x1 x2) zFU (((s1 + s0) - 1), (zi m 68 37 (s1 + s0)))).bind fun r7 => zg (zin x1 5) (zg (zin x1 5) (some (zi (zi (zi (zi r7 96 0 x1) 97 0 x2) 98 0 (r7.1 68 17)) 99 x1.toNatClampNeg ((r7.1 99 x1.toNatClampNeg) + 1))))
def f_X12_happens (x1 : Int32) (x2 : Int32) (m : zM) : Option zM :=
  if 12 ≤ (m.1 68 37) then (j_X12_happens_19 x1 x2 0 (m.1 68 37) m) else (j_X12_happens_19 x1 x2 1 (m.1 68 37) m)
def j_X12_isLost_79 (x1 : Int32) (s0 : Int32) (m : zM) : Option (Bool × zM) :=
  zg (zin x1 6) ((f_X12_happens s0 (m.1 87 x1.toNatClampNeg) m).bind fun m8 => some (true, m8))
def j_X12_isLost_78 (x1 : Int32) (m : zM) : Option (Bool × zM) :=
  j_X12_isLost_79 x1 2 m
def f_X12_isLost (x1 : Int32) (m : zM) : Option (Bool × zM) :=
  zg (zin x1 6) (zg (zin x1 6) (zg (zin x1 6) (if (m.1 80 5) < ((zi m 93 x1.toNatClampNeg ((m.1 93 x1.toNatClampNeg) + 1)).1 93 x1.toNatClampNeg) then (zg (zin x1 6) (if (m.1 95 x1.toNatClampNeg) = 0 then (zg (zin x1 6) (if (m.1 92 x1.toNatClampNeg) ≤ 1 then (some (true, (zi m 93 x1.toNatClampNeg ((m.1 93 x1.toNatClampNeg) + 1)))) else (zg (zin x1 6) (if (m.1 80 6) < (m.1 92 x1.toNatClampNeg) then (j_X12_isLost_78 x1 (zi m 93 x1.toNatClampNeg ((m.1 93 x1.toNatClampNeg) + 1))) else (zg (zin x1 6) (if 16 < (m.1 94 x1.toNatClampNeg) then (j_X12_isLost_78 x1 (zi m 93 x1.toNatClampNeg ((m.1 93 x1.toNatClampNeg) + 1))) else (j_X12_isLost_79 x1 4 (zi m 93 x1.toNatClampNeg ((m.1 93 x1.toNatClampNeg) + 1))))))))) else (some (true, (zi m 93 x1.toNatClampNeg ((m.1 93 x1.toNatClampNeg) + 1)))))) else (some (false, (zi m 93 x1.toNatClampNeg ((m.1 93 x1.toNatClampNeg) + 1)))))))
def f_X12_keepAs (x1 : Int32) (x2 : Int32) (m : zM) : Option zM :=
  zg (zin x1 6) (zg (zin x2 6) (zg (zin x1 6) (zg (zin x2 6) (zg (zin x1 6) (zg (zin x2 6) (zg (zin x1 6) (zg (zin x2 6) (zg (zin x1 6) (zg (zin x2 6) (zg (zin x1 6) (zg (zin x2 6) (zg (zin x1 6) (zg (zin x2 6) (zg (zin x1 6) (zg (zin x2 6) (zg (zin x1 6) (zg (zin x2 6) (zg (zb (m.1 95 x1.toNatClampNeg)) (some (zi (zi (zi (zi (zi (zi (zi (zi (zi m 87 x2.toNatClampNeg (m.1 87 x1.toNatClampNeg)) 88 x2.toNatClampNeg (m.1 88 x1.toNatClampNeg)) 89 x2.toNatClampNeg (m.1 89 x1.toNatClampNeg)) 90 x2.toNatClampNeg (m.1 90 x1.toNatClampNeg)) 91 x2.toNatClampNeg (m.1 91 x1.toNatClampNeg)) 92 x2.toNatClampNeg (m.1 92 x1.toNatClampNeg)) 93 x2.toNatClampNeg (m.1 93 x1.toNatClampNeg)) 94 x2.toNatClampNeg (m.1 94 x1.toNatClampNeg)) 95 x2.toNatClampNeg (m.1 95 x1.toNatClampNeg)))))))))))))))))))))
def f_X12_lay (x1 : Int32) (x2 : Int32) (m : zM) : Option zM :=
  zg (zin x2 6) (zg (zin x1 6) (zg (zin x2 6) (zg (zin x1 6) (zg (zin x2 6) (zg (zin x1 6) (zg (zin x2 6) (zg (zin x1 6) (some (zi (zi (zi (zi m 88 x1.toNatClampNeg (m.1 84 x2.toNatClampNeg)) 89 x1.toNatClampNeg (m.1 85 x2.toNatClampNeg)) 90 x1.toNatClampNeg (m.1 82 x2.toNatClampNeg)) 91 x1.toNatClampNeg (m.1 83 x2.toNatClampNeg))))))))))
def j_X12_follow_129 (x1 : Int32) (m : zM) : Option zM :=
  zg (zin x1 6) (if (m.1 92 x1.toNatClampNeg) = 2 then (zg (zin x1 6) (if (m.1 95 x1.toNatClampNeg) = 0 then (zg (zin x1 6) ((f_X12_happens 1 (m.1 87 x1.toNatClampNeg) m).bind fun m19 => some m19)) else (some m))) else (some m))
def f_X12_follow (x1 : Int32) (x2 : Int32) (m : zM) : Option zM :=
  zg (zin x1 6) (zg (zin x1 6) (zg (zin x2 6) ((f_X12_abs ((m.1 88 x1.toNatClampNeg) - (m.1 84 x2.toNatClampNeg)) m).bind fun r4 => zg (zin x1 6) (zg (zin x2 6) ((f_X12_abs ((m.1 89 x1.toNatClampNeg) - (m.1 85 x2.toNatClampNeg)) m).bind fun r7 => zg (zin x1 6) ((f_X12_lay x1 x2 (zi m 94 x1.toNatClampNeg ((m.1 94 x1.toNatClampNeg) + (r4 + r7)))).bind fun m9 => zg (zin x1 6) (zg (zin x1 6) (zg (zin x1 6) (zg (zin x1 6) (zg (zin x2 6) (zg (zin x1 6) (if (m9.1 90 x1.toNatClampNeg) < (m9.1 80 3) then (j_X12_follow_129 x1 (zi (zi (zi m9 92 x1.toNatClampNeg ((m9.1 92 x1.toNatClampNeg) + 1)) 93 x1.toNatClampNeg 0) 86 x2.toNatClampNeg (m9.1 87 x1.toNatClampNeg))) else (zg (zin x1 6) (if (m9.1 95 x1.toNatClampNeg) = 0 then (zg (zin x1 6) (zg (zin x1 6) (if ((zi m9 92 x1.toNatClampNeg ((m9.1 92 x1.toNatClampNeg) + 1)).1 92 x1.toNatClampNeg) ≤ 2 then (j_X12_follow_129 x1 (zi (zi (zi (zi m9 92 x1.toNatClampNeg ((m9.1 92 x1.toNatClampNeg) + 1)) 93 x1.toNatClampNeg 0) 86 x2.toNatClampNeg (m9.1 87 x1.toNatClampNeg)) 95 x1.toNatClampNeg 1)) else (zg (zin x1 6) ((f_X12_happens 3 (m9.1 87 x1.toNatClampNeg) (zi (zi (zi (zi m9 92 x1.toNatClampNeg ((m9.1 92 x1.toNatClampNeg) + 1)) 93 x1.toNatClampNeg 0) 86 x2.toNatClampNeg (m9.1 87 x1.toNatClampNeg)) 95 x1.toNatClampNeg 1)).bind fun m24 => j_X12_follow_129 x1 m24))))) else (j_X12_follow_129 x1 (zi (zi (zi m9 92 x1.toNatClampNeg ((m9.1 92 x1.toNatClampNeg) + 1)) 93 x1.toNatClampNeg 0) 86 x2.toNatClampNeg (m9.1 87 x1.toNatClampNeg)))))))))))))))))
def j_X12_followAll_57 (x1 : Int32) (x2 : Int32) (m : zM) : Option ((Int32 × Int32 × zM) ⊕ (Int32 × zM)) :=
  some (.inl (x1, (x2 + 1), m))
def j_X12_followAll_44 (x1 : Int32) (x2 : Int32) (x3 : Int32) (m : zM) : Option ((Int32 × Int32 × zM) ⊕ (Int32 × zM)) :=
  if x3 = 0 then ((f_X12_keepAs x2 x1 m).bind fun m3 => j_X12_followAll_57 (x1 + 1) x2 m3) else (j_X12_followAll_57 x1 x2 m)
def b_X12_followAll_4   (s : (Int32 × Int32 × zM)) : Option ((Int32 × Int32 × zM) ⊕ (Int32 × zM)) :=
  if (s.2.2.1 68 27) ≤ s.2.1 then (some (.inr (s.1, s.2.2))) else (zg (zin s.2.1 6) (if (s.2.2.1 103 s.2.1.toNatClampNeg) = (-1) then ((f_X12_isLost s.2.1 s.2.2).bind fun r2 => j_X12_followAll_44 s.1 s.2.1 (bi r2.1) r2.2) else (zg (zin s.2.1 6) ((f_X12_follow s.2.1 (s.2.2.1 103 s.2.1.toNatClampNeg) s.2.2).bind fun m5 => j_X12_followAll_44 s.1 s.2.1 0 m5))))
def f_X12_followAll  (m : zM) : Option zM :=
  (zloop (b_X12_followAll_4 ) zFU (0, 0, m)).bind fun r6 => some (zi r6.2 68 27 r6.1)
def j_X12_beginAll_140 (x1 : Int32) (m : zM) : Option ((Int32 × zM) ⊕ (zM)) :=
  some (.inl ((x1 + 1), m))
def j_X12_beginAll_119 (x1 : Int32) (s0 : Int32) (s1 : Int32) (m : zM) : Option ((Int32 × zM) ⊕ (zM)) :=
  zg (zin s1 6) (zg (zb s0) (zg (zin x1 6) (j_X12_beginAll_140 x1 (zi (zi (zi m 95 s1.toNatClampNeg s0) 86 x1.toNatClampNeg (m.1 68 44)) 68 27 ((m.1 68 27) + 1)))))
def b_X12_beginAll_2   (s : (Int32 × zM)) : Option ((Int32 × zM) ⊕ (zM)) :=
  if (s.2.1 68 20) ≤ s.1 then (some (.inr s.2)) else (zg (zin s.1 6) (if (s.2.1 86 s.1.toNatClampNeg) = (-1) then (if 6 ≤ (s.2.1 68 27) then (j_X12_beginAll_140 s.1 s.2) else (zg (zin (s.2.1 68 27) 6) ((f_X12_lay (s.2.1 68 27) s.1 (zi (zi s.2 68 44 ((s.2.1 68 44) + 1)) 87 ((s.2.1 68 27).toNatClampNeg) ((s.2.1 68 44) + 1))).bind fun m3 => zg (zin (m3.1 68 27) 6) (zg (zin (m3.1 68 27) 6) (zg (zin (m3.1 68 27) 6) (zg (zin s.1 6) (if (m3.1 82 s.1.toNatClampNeg) < (m3.1 80 3) then (j_X12_beginAll_119 s.1 0 (m3.1 68 27) (zi (zi (zi m3 92 ((m3.1 68 27).toNatClampNeg) 1) 93 ((m3.1 68 27).toNatClampNeg) 0) 94 ((m3.1 68 27).toNatClampNeg) 0)) else (j_X12_beginAll_119 s.1 1 (m3.1 68 27) (zi (zi (zi m3 92 ((m3.1 68 27).toNatClampNeg) 1) 93 ((m3.1 68 27).toNatClampNeg) 0) 94 ((m3.1 68 27).toNatClampNeg) 0))))))))) else (j_X12_beginAll_140 s.1 s.2)))
def f_X12_beginAll  (m : zM) : Option zM :=
  (zloop (b_X12_beginAll_2 ) zFU (0, m)).bind fun r11 => some r11
def j_X12_isNearSpot_58 (x1 : Int32) (x3 : Int32) (s0 : Int32) (m : zM) : Option ((Int32 × Int32) ⊕ (Int32)) :=
  some (.inl (s0, (x3 + 1)))
def j_X12_isNearSpot_53 (x1 : Int32) (x3 : Int32) (m : zM) : Option ((Int32 × Int32) ⊕ (Int32)) :=
  j_X12_isNearSpot_58 x1 x3 1 m
def j_X12_isNearSpot_57 (x1 : Int32) (x3 : Int32) (m : zM) : Option ((Int32 × Int32) ⊕ (Int32)) :=
  j_X12_isNearSpot_58 x1 x3 0 m
def b_X12_isNearSpot_18 (x1 : Int32) (m : zM) (s : (Int32 × Int32)) : Option ((Int32 × Int32) ⊕ (Int32)) :=
  if 8 ≤ s.2 then (some (.inr s.1)) else ((f_X12_beside x1 s.2 m).bind fun r2 => if s.1 = 0 then (if r2 = (-1) then (j_X12_isNearSpot_57 x1 s.2 m) else (zg (zin r2 64) (if (m.1 74 r2.toNatClampNeg) = (-1) then (j_X12_isNearSpot_57 x1 s.2 m) else (j_X12_isNearSpot_53 x1 s.2 m)))) else (j_X12_isNearSpot_53 x1 s.2 m))
def j_X12_isNearSpot_15 (x1 : Int32) (s0 : Int32) (m : zM) : Option Bool :=
  (zloop (b_X12_isNearSpot_18 x1 m) zFU (s0, 0)).bind fun r4 => zg (zb r4) (some (decide (r4 = 1)))
def f_X12_isNearSpot (x1 : Int32) (m : zM) : Option Bool :=
  zg (zin x1 64) (if (m.1 74 x1.toNatClampNeg) = (-1) then (j_X12_isNearSpot_15 x1 0 m) else (j_X12_isNearSpot_15 x1 1 m))
def j_X12_drift_86 (x1 : Int32) (m : zM) : Option ((Int32 × zM) ⊕ (zM)) :=
  some (.inl ((x1 + 1), m))
def j_X12_drift_84 (x1 : Int32) (s0 : Int32) (s1 : Int32) (s2 : Int32) (m : zM) : Option ((Int32 × zM) ⊕ (zM)) :=
  zg (zin s2 64) (j_X12_drift_86 x1 (zi m 71 s2.toNatClampNeg (s1 + s0)))
def b_X12_drift_2   (s : (Int32 × zM)) : Option ((Int32 × zM) ⊕ (zM)) :=
  (f_X12_cells s.2).bind fun r1 => if r1 ≤ s.1 then (some (.inr s.2)) else ((f_X12_isNearSpot s.1 s.2).bind fun r2 => if (bi r2) = 0 then (zg (zin s.1 64) (zg (zin s.1 64) (zg (zin s.1 64) (if ((s.2.1 72 s.1.toNatClampNeg) - (s.2.1 71 s.1.toNatClampNeg)) ≤ (s.2.1 80 7) then (if (-(s.2.1 80 7)) ≤ ((s.2.1 72 s.1.toNatClampNeg) - (s.2.1 71 s.1.toNatClampNeg)) then (j_X12_drift_84 s.1 ((s.2.1 72 s.1.toNatClampNeg) - (s.2.1 71 s.1.toNatClampNeg)) (s.2.1 71 s.1.toNatClampNeg) s.1 s.2) else (j_X12_drift_84 s.1 (-(s.2.1 80 7)) (s.2.1 71 s.1.toNatClampNeg) s.1 s.2)) else (j_X12_drift_84 s.1 (s.2.1 80 7) (s.2.1 71 s.1.toNatClampNeg) s.1 s.2))))) else (j_X12_drift_86 s.1 s.2))
def f_X12_drift  (m : zM) : Option zM :=
  (zloop (b_X12_drift_2 ) zFU (0, m)).bind fun r7 => some r7
def j_X12_frame_57 (s0 : Int32) (m : zM) : Option zM :=
  zg (zb s0) (if s0 = 0 then ((f_X12_layHills (zi m 68 19 s0)).bind fun m4 => (f_X12_laySpots m4).bind fun m5 => (f_X12_layPairs m5).bind fun m6 => (f_X12_followAll m6).bind fun m7 => (f_X12_beginAll m7).bind fun m8 => (f_X12_drift m8).bind fun m9 => some m9) else (some (zi (zi (zi m 68 19 s0) 68 43 ((m.1 68 43) + 1)) 68 15 (zrem ((m.1 68 15) + 1) 3))))
def f_X12_frame  (m : zM) : Option zM :=
  (f_X12_layRaw (zi (zi m 68 17 ((m.1 68 17) + 1)) 68 42 ((m.1 68 42) + 1))).bind fun m1 => (f_X12_spanOf (zi m1 68 20 0)).bind fun r2 => if r2 ≤ (m1.1 80 8) then (j_X12_frame_57 0 (zi (zi m1 68 20 0) 68 18 r2)) else (j_X12_frame_57 1 (zi (zi m1 68 20 0) 68 18 r2))
def b_X12_frames_32 (x1 : Int32) (x2 : Int32)  (s : (Int32 × zM)) : Option ((Int32 × zM) ⊕ (zM)) :=
  if x1 ≤ s.1 then (some (.inr s.2)) else ((f_X12_frame s.2).bind fun m4 => some (.inl ((s.1 + 1), m4)))
def f_X12_frames (x1 : Int32) (m : zM) : Option (Int32 × zM) :=
  (f_X12_isGlass m).bind fun r1 => if (bi r1) = 0 then (some (-10003, m)) else ((f_X12_within x1 1 20 m).bind fun r2 => if (bi r2) = 0 then (some (-10002, m)) else ((f_X12_eventsAll m).bind fun r3 => (zloop (b_X12_frames_32 x1 r3) zFU (0, m)).bind fun r5 => (f_X12_eventsAll r5).bind fun r6 => some ((r6 - r3), r5)))
def f_X2_fact (x1 : Int32) (x2 : Int32) (m : zM) : Option Int32 :=
  if x2 = 0 then (zg (zin x1 5) (if (m.1 20 x1.toNatClampNeg) = 0 then (some 0) else (some 1))) else (zg (zin x1 5) (if (m.1 20 x1.toNatClampNeg) = 0 then (some (-1)) else (if x2 = 1 then (zg (zin x1 5) (some (m.1 21 x1.toNatClampNeg))) else (if x2 = 2 then (zg (zin x1 5) (some (m.1 22 x1.toNatClampNeg))) else (zg (zin x1 5) (some (m.1 23 x1.toNatClampNeg)))))))
def f_X11_finger (x1 : Int32) (x2 : Int32) (m : zM) : Option Int32 :=
  if (m.1 13 7) = 0 then (some (-10003)) else ((f_X11_within x1 0 4 m).bind fun r1 => if (bi r1) = 0 then (some (-10001)) else ((f_X11_within x2 0 3 m).bind fun r2 => if (bi r2) = 0 then (some (-10002)) else ((f_X2_fact x1 x2 m).bind fun r3 => some r3)))
def f_X12_fingerNow (x1 : Int32) (x2 : Int32) (m : zM) : Option Int32 :=
  if x2 = 0 then (zg (zin x1 5) (if (m.1 75 x1.toNatClampNeg) = 0 then (some 0) else (some 1))) else (if x2 = 1 then (zg (zin x1 5) (if (m.1 75 x1.toNatClampNeg) = 0 then (some (-1)) else (zg (zin x1 5) (some (m.1 76 x1.toNatClampNeg))))) else (if x2 = 2 then (zg (zin x1 5) (if (m.1 75 x1.toNatClampNeg) = 0 then (some (-1)) else (zg (zin x1 5) (some (m.1 77 x1.toNatClampNeg))))) else (zg (zin x1 5) (if (m.1 75 x1.toNatClampNeg) = 0 then (some (-1)) else (zg (zin x1 5) (some (m.1 78 x1.toNatClampNeg)))))))
def f_X12_finger (x1 : Int32) (x2 : Int32) (m : zM) : Option Int32 :=
  (f_X12_isGlass m).bind fun r1 => if (bi r1) = 0 then (some (-10003)) else ((f_X12_within x1 0 4 m).bind fun r2 => if (bi r2) = 0 then (some (-10001)) else ((f_X12_within x2 0 3 m).bind fun r3 => if (bi r3) = 0 then (some (-10002)) else ((f_X12_fingerNow x1 x2 m).bind fun r4 => some r4)))
def f_X7_cellFact (x1 : Int32) (x2 : Int32) (m : zM) : Option Int32 :=
  if x2 = 0 then (zg (zin x1 64) (some (m.1 32 x1.toNatClampNeg))) else (if x2 = 1 then (zg (zin x1 64) (some (m.1 33 x1.toNatClampNeg))) else (if x2 = 2 then (zg (zin x1 64) (some (m.1 35 x1.toNatClampNeg))) else (if x2 = 3 then (zg (zin x1 64) (some (m.1 36 x1.toNatClampNeg))) else (if x2 = 4 then (zg (zin x1 64) (some (m.1 52 x1.toNatClampNeg))) else (zg (zin x1 64) (some (m.1 34 x1.toNatClampNeg)))))))
def f_X11_cell (x1 : Int32) (x2 : Int32) (m : zM) : Option Int32 :=
  (f_X7_hasCell x1 m).bind fun r1 => if (bi r1) = 0 then (some (-10001)) else ((f_X11_within x2 0 5 m).bind fun r2 => if (bi r2) = 0 then (some (-10002)) else ((f_X7_cellFact x1 x2 m).bind fun r3 => some r3))
def f_X12_cellNow (x1 : Int32) (x2 : Int32) (m : zM) : Option Int32 :=
  if x2 = 0 then (zg (zin x1 64) (some (m.1 70 x1.toNatClampNeg))) else (if x2 = 1 then (zg (zin x1 64) (some (m.1 71 x1.toNatClampNeg))) else (if x2 = 2 then (zg (zin x1 64) (some (m.1 72 x1.toNatClampNeg))) else (if x2 = 3 then (zg (zin x1 64) (some (m.1 73 x1.toNatClampNeg))) else (if x2 = 4 then (zg (zin x1 64) (some (m.1 74 x1.toNatClampNeg))) else ((f_X12_feltAll x1 m).bind fun r6 => some r6)))))
def f_X12_cell (x1 : Int32) (x2 : Int32) (m : zM) : Option Int32 :=
  (f_X12_isCell x1 m).bind fun r1 => if (bi r1) = 0 then (some (-10001)) else ((f_X12_within x2 0 5 m).bind fun r2 => if (bi r2) = 0 then (some (-10002)) else ((f_X12_cellNow x1 x2 m).bind fun r3 => some r3))
def f_X7_fact (x1 : Int32) (m : zM) : Option Int32 :=
  if x1 = 0 then (some (m.1 14 0)) else (if x1 = 1 then (some (m.1 14 1)) else (if x1 = 2 then (some (m.1 24 1)) else (if x1 = 3 then (some (m.1 13 12)) else (if x1 = 4 then (if (m.1 13 13) = 0 then (some 0) else (some 1)) else (if x1 = 5 then (some (m.1 44 4)) else (if x1 = 6 then (some (m.1 60 1)) else (if x1 = 7 then (some (m.1 24 2)) else (some (m.1 13 14)))))))))
def f_X11_about (x1 : Int32) (m : zM) : Option Int32 :=
  if (m.1 13 7) = 0 then (some (-10003)) else ((f_X11_within x1 0 8 m).bind fun r1 => if (bi r1) = 0 then (some (-10002)) else ((f_X7_fact x1 m).bind fun r2 => some r2))
def f_X12_aboutNow (x1 : Int32) (m : zM) : Option Int32 :=
  if x1 = 0 then (some (m.1 68 2)) else (if x1 = 1 then (some (m.1 68 3)) else (if x1 = 2 then (some (m.1 68 15)) else (if x1 = 3 then (some (m.1 68 18)) else (if x1 = 4 then (if (m.1 68 19) = 0 then (some 0) else (some 1)) else (if x1 = 5 then (some (m.1 68 20)) else (if x1 = 6 then (some (m.1 68 27)) else (if x1 = 7 then (some (m.1 68 16)) else (some (m.1 68 17)))))))))
def f_X12_about (x1 : Int32) (m : zM) : Option Int32 :=
  (f_X12_isGlass m).bind fun r1 => if (bi r1) = 0 then (some (-10003)) else ((f_X12_within x1 0 8 m).bind fun r2 => if (bi r2) = 0 then (some (-10002)) else ((f_X12_aboutNow x1 m).bind fun r3 => some r3))
def f_X7_hasSpot (x1 : Int32) (m : zM) : Option Bool :=
  if (m.1 13 7) = 0 then (some false) else ((f_X11_within x1 0 ((m.1 44 4) - 1) m).bind fun r1 => if (bi r1) = 0 then (some false) else (some true))
def f_X11_spot (x1 : Int32) (x2 : Int32) (m : zM) : Option Int32 :=
  (f_X7_hasSpot x1 m).bind fun r1 => if (bi r1) = 0 then (some (-10001)) else ((f_X11_within x2 0 5 m).bind fun r2 => if (bi r2) = 0 then (some (-10002)) else (zg (zin x1 6) (zg (zin x2 6) (some (m.1 (46 + (m.2.2 45 x1.toNatClampNeg) % 6) x2.toNatClampNeg)))))
def f_X12_spotNow (x1 : Int32) (x2 : Int32) (m : zM) : Option Int32 :=
  if x2 = 0 then (zg (zin x1 6) (some (m.1 81 x1.toNatClampNeg))) else (if x2 = 1 then (zg (zin x1 6) (some (m.1 82 x1.toNatClampNeg))) else (if x2 = 2 then (zg (zin x1 6) (some (m.1 83 x1.toNatClampNeg))) else (if x2 = 3 then (zg (zin x1 6) (some (m.1 84 x1.toNatClampNeg))) else (if x2 = 4 then (zg (zin x1 6) (some (m.1 85 x1.toNatClampNeg))) else (zg (zin x1 6) (some (m.1 86 x1.toNatClampNeg)))))))
def f_X12_spot (x1 : Int32) (x2 : Int32) (m : zM) : Option Int32 :=
  (f_X12_isGlass m).bind fun r1 => if (bi r1) = 0 then (some (-10001)) else ((f_X12_within x1 0 ((m.1 68 20) - 1) m).bind fun r2 => if (bi r2) = 0 then (some (-10001)) else ((f_X12_within x2 0 5 m).bind fun r3 => if (bi r3) = 0 then (some (-10002)) else ((f_X12_spotNow x1 x2 m).bind fun r4 => some r4)))
def f_X7_hasTrack (x1 : Int32) (m : zM) : Option Bool :=
  if (m.1 13 7) = 0 then (some false) else ((f_X11_within x1 0 ((m.1 60 1) - 1) m).bind fun r1 => if (bi r1) = 0 then (some false) else (some true))
def f_X11_track (x1 : Int32) (x2 : Int32) (m : zM) : Option Int32 :=
  (f_X7_hasTrack x1 m).bind fun r1 => if (bi r1) = 0 then (some (-10001)) else ((f_X11_within x2 0 8 m).bind fun r2 => if (bi r2) = 0 then (some (-10002)) else (zg (zin x1 6) (zg (zin x2 9) (some (m.1 (62 + (m.2.2 61 x1.toNatClampNeg) % 6) x2.toNatClampNeg)))))
def f_X12_isTrack (x1 : Int32) (m : zM) : Option Bool :=
  (f_X12_isGlass m).bind fun r1 => if (bi r1) = 0 then (some false) else ((f_X12_within x1 0 ((m.1 68 27) - 1) m).bind fun r2 => if (bi r2) = 0 then (some false) else (some true))
def f_X12_trackNow (x1 : Int32) (x2 : Int32) (m : zM) : Option Int32 :=
  if x2 = 0 then (zg (zin x1 6) (some (m.1 87 x1.toNatClampNeg))) else (if x2 = 1 then (zg (zin x1 6) (some (m.1 88 x1.toNatClampNeg))) else (if x2 = 2 then (zg (zin x1 6) (some (m.1 89 x1.toNatClampNeg))) else (if x2 = 3 then (zg (zin x1 6) (some (m.1 90 x1.toNatClampNeg))) else (if x2 = 4 then (zg (zin x1 6) (some (m.1 91 x1.toNatClampNeg))) else (if x2 = 5 then (zg (zin x1 6) (some (m.1 92 x1.toNatClampNeg))) else (if x2 = 6 then (zg (zin x1 6) (some (m.1 93 x1.toNatClampNeg))) else (if x2 = 7 then (zg (zin x1 6) (some (m.1 94 x1.toNatClampNeg))) else (zg (zin x1 6) (if (m.1 95 x1.toNatClampNeg) = 0 then (some 0) else (some 1))))))))))
def f_X12_track (x1 : Int32) (x2 : Int32) (m : zM) : Option Int32 :=
  (f_X12_isTrack x1 m).bind fun r1 => if (bi r1) = 0 then (some (-10001)) else ((f_X12_within x2 0 8 m).bind fun r2 => if (bi r2) = 0 then (some (-10002)) else ((f_X12_trackNow x1 x2 m).bind fun r3 => some r3))
def f_X11_as (x1 : Int32) (x2 : Int32) (m : zM) : Option Int32 :=
  (f_X7_hasTrack x1 m).bind fun r1 => if (bi r1) = 0 then (some (-10001)) else ((f_X11_within x2 0 1 m).bind fun r2 => if (bi r2) = 0 then (some (-10002)) else (zg (zin x1 6) (if (m.1 (62 + (m.2.2 61 x1.toNatClampNeg) % 6) 8) = x2 then (some (m.1 (62 + (m.2.2 61 x1.toNatClampNeg) % 6) 0)) else (some (-1)))))
def j_X12_as_41 (x1 : Int32) (s0 : Int32) (s1 : Int32) (m : zM) : Option Int32 :=
  if s1 = s0 then (zg (zin x1 6) (some (m.1 87 x1.toNatClampNeg))) else (some (-1))
def f_X12_as (x1 : Int32) (x2 : Int32) (m : zM) : Option Int32 :=
  (f_X12_isTrack x1 m).bind fun r1 => if (bi r1) = 0 then (some (-10001)) else ((f_X12_within x2 0 1 m).bind fun r2 => if (bi r2) = 0 then (some (-10002)) else (zg (zin x1 6) (if x2 = 1 then (j_X12_as_41 x1 1 (m.1 95 x1.toNatClampNeg) m) else (j_X12_as_41 x1 0 (m.1 95 x1.toNatClampNeg) m))))
def f_X4_kept  (m : zM) : Option Int32 :=
  (f_J9_min_7cf53 (m.1 8 4) 12 m).bind fun r1 => some r1
def f_J9_floorMod_7cf53 (x0 : Int32) (x1 : Int32) (m : zM) : Option Int32 :=
  zg (znz x1) (if 0 ≤ (x0 ^^^ x1) then (some (zrem x0 x1)) else (if (zrem x0 x1) = 0 then (some (zrem x0 x1)) else (some ((zrem x0 x1) + x1))))
def f_X4_fact (x1 : Int32) (x2 : Int32) (m : zM) : Option Int32 :=
  (f_J9_floorMod_7cf53 (((m.1 8 4) - 1) - x1) 12 m).bind fun r1 => if x2 = 0 then (zg (zin r1 12) (some (m.1 9 r1.toNatClampNeg))) else (if x2 = 1 then (zg (zin r1 12) (some (m.1 10 r1.toNatClampNeg))) else (zg (zin r1 12) (some (m.1 11 r1.toNatClampNeg))))
def f_X11_event (x1 : Int32) (x2 : Int32) (m : zM) : Option Int32 :=
  (f_X4_kept m).bind fun r1 => (f_X11_within x1 0 (r1 - 1) m).bind fun r2 => if (bi r2) = 0 then (some (-10001)) else ((f_X11_within x2 0 2 m).bind fun r3 => if (bi r3) = 0 then (some (-10002)) else ((f_X4_fact x1 x2 m).bind fun r4 => some r4))
def f_X12_eventNow (x1 : Int32) (x2 : Int32) (m : zM) : Option Int32 :=
  if x2 = 0 then (zg (zin x1 12) (some (m.1 96 x1.toNatClampNeg))) else (if x2 = 1 then (zg (zin x1 12) (some (m.1 97 x1.toNatClampNeg))) else (zg (zin x1 12) (some (m.1 98 x1.toNatClampNeg))))
def f_X12_event (x1 : Int32) (x2 : Int32) (m : zM) : Option Int32 :=
  (f_X12_within x1 0 ((m.1 68 37) - 1) m).bind fun r1 => if (bi r1) = 0 then (some (-10001)) else ((f_X12_within x2 0 2 m).bind fun r2 => if (bi r2) = 0 then (some (-10002)) else ((f_X12_eventNow x1 x2 m).bind fun r3 => some r3))
def f_X11_count (x1 : Int32) (m : zM) : Option Int32 :=
  if x1 = 0 then (some (m.1 1 1)) else (if x1 = 1 then (some (m.1 13 8)) else (if x1 = 2 then (some (m.1 13 9)) else (if x1 = 3 then (some (m.1 60 2)) else (if x1 = 4 then (some (m.1 0 3)) else (if x1 = 5 then (some (m.1 0 4)) else (some (-10002)))))))
def f_X12_howMany (x1 : Int32) (m : zM) : Option Int32 :=
  if x1 = 0 then (some (m.1 68 0)) else (if x1 = 1 then (some (m.1 68 42)) else (if x1 = 2 then (some (m.1 68 43)) else (if x1 = 3 then (some (m.1 68 44)) else (if x1 = 4 then (some (m.1 68 45)) else (if x1 = 5 then (some (m.1 68 46)) else (some (-10002)))))))
def f_X12_count (x1 : Int32) (m : zM) : Option Int32 :=
  (f_X12_howMany x1 m).bind fun r1 => some r1
def f_X11_events (x1 : Int32) (m : zM) : Option Int32 :=
  (f_X11_within x1 1 4 m).bind fun r1 => if (bi r1) = 0 then (some (-10002)) else (zg (zin x1 5) (some (m.1 12 x1.toNatClampNeg)))
def f_X12_events (x1 : Int32) (m : zM) : Option Int32 :=
  (f_X12_within x1 1 4 m).bind fun r1 => if (bi r1) = 0 then (some (-10002)) else (zg (zin x1 5) (some (m.1 99 x1.toNatClampNeg)))
def b_X11_hashJournal_20 (x5 : Int32) (m : zM) (s : (Int64 × Int32)) : Option ((Int64 × Int32) ⊕ (Int64)) :=
  if 3 ≤ s.2 then (some (.inr s.1)) else ((f_X11_event x5 s.2 m).bind fun r2 => some (.inl ((((31 : Int64) * s.1) + r2.toInt64), (s.2 + 1))))
def b_X11_hashJournal_5  (m : zM) (s : (Int64 × Int32)) : Option ((Int64 × Int32) ⊕ (Int64)) :=
  (f_X4_kept m).bind fun r1 => if r1 ≤ s.2 then (some (.inr s.1)) else ((zloop (b_X11_hashJournal_20 s.2 m) zFU (s.1, 0)).bind fun r3 => some (.inl (r3, (s.2 + 1))))
def f_X11_hashJournal (x1 : Int64) (m : zM) : Option Int64 :=
  (zloop (b_X11_hashJournal_5 m) zFU (x1, 0)).bind fun r4 => some r4
def b_X11_hashPanelAndFingers_5  (m : zM) (s : (Int64 × Int32)) : Option ((Int64 × Int32) ⊕ (Int64)) :=
  if 9 ≤ s.2 then (some (.inr s.1)) else ((f_X11_about s.2 m).bind fun r1 => some (.inl ((((31 : Int64) * s.1) + r1.toInt64), (s.2 + 1))))
def b_X11_hashPanelAndFingers_44 (x5 : Int32) (m : zM) (s : (Int64 × Int32)) : Option ((Int64 × Int32) ⊕ (Int64)) :=
  if 4 ≤ s.2 then (some (.inr s.1)) else ((f_X11_finger x5 s.2 m).bind fun r3 => some (.inl ((((31 : Int64) * s.1) + r3.toInt64), (s.2 + 1))))
def b_X11_hashPanelAndFingers_35  (m : zM) (s : (Int64 × Int32)) : Option ((Int64 × Int32) ⊕ (Int64)) :=
  if 5 ≤ s.2 then (some (.inr s.1)) else ((zloop (b_X11_hashPanelAndFingers_44 s.2 m) zFU (s.1, 0)).bind fun r4 => some (.inl (r4, (s.2 + 1))))
def f_X11_hashPanelAndFingers (x1 : Int64) (m : zM) : Option Int64 :=
  (zloop (b_X11_hashPanelAndFingers_5 m) zFU (x1, 0)).bind fun r2 => (zloop (b_X11_hashPanelAndFingers_35 m) zFU (r2, 0)).bind fun r5 => some r5
def b_X11_hashCells_23 (x5 : Int32) (m : zM) (s : (Int64 × Int32)) : Option ((Int64 × Int32) ⊕ (Int64)) :=
  if 6 ≤ s.2 then (some (.inr s.1)) else ((f_X11_cell x5 s.2 m).bind fun r1 => some (.inl ((((31 : Int64) * s.1) + r1.toInt64), (s.2 + 1))))
def b_X11_hashCells_5  (m : zM) (s : (Int64 × Int32)) : Option ((Int64 × Int32) ⊕ (Int64)) :=
  if (m.1 14 2) ≤ s.2 then (some (.inr s.1)) else ((zloop (b_X11_hashCells_23 s.2 m) zFU (s.1, 0)).bind fun r2 => some (.inl (r2, (s.2 + 1))))
def f_X11_hashCells (x1 : Int64) (m : zM) : Option Int64 :=
  (zloop (b_X11_hashCells_5 m) zFU (x1, 0)).bind fun r3 => some r3
def b_X11_hashSpots_23 (x5 : Int32) (m : zM) (s : (Int64 × Int32)) : Option ((Int64 × Int32) ⊕ (Int64)) :=
  if 6 ≤ s.2 then (some (.inr s.1)) else ((f_X11_spot x5 s.2 m).bind fun r1 => some (.inl ((((31 : Int64) * s.1) + r1.toInt64), (s.2 + 1))))
def b_X11_hashSpots_5  (m : zM) (s : (Int64 × Int32)) : Option ((Int64 × Int32) ⊕ (Int64)) :=
  if (m.1 44 4) ≤ s.2 then (some (.inr s.1)) else ((zloop (b_X11_hashSpots_23 s.2 m) zFU (s.1, 0)).bind fun r2 => some (.inl (r2, (s.2 + 1))))
def f_X11_hashSpots (x1 : Int64) (m : zM) : Option Int64 :=
  (zloop (b_X11_hashSpots_5 m) zFU (x1, 0)).bind fun r3 => some r3
def b_X11_hashTracks_23 (x5 : Int32) (m : zM) (s : (Int64 × Int32)) : Option ((Int64 × Int32) ⊕ (Int64)) :=
  if 9 ≤ s.2 then (some (.inr s.1)) else ((f_X11_track x5 s.2 m).bind fun r1 => some (.inl ((((31 : Int64) * s.1) + r1.toInt64), (s.2 + 1))))
def b_X11_hashTracks_5  (m : zM) (s : (Int64 × Int32)) : Option ((Int64 × Int32) ⊕ (Int64)) :=
  if (m.1 60 1) ≤ s.2 then (some (.inr s.1)) else ((zloop (b_X11_hashTracks_23 s.2 m) zFU (s.1, 0)).bind fun r2 => some (.inl (r2, (s.2 + 1))))
def f_X11_hashTracks (x1 : Int64) (m : zM) : Option Int64 :=
  (zloop (b_X11_hashTracks_5 m) zFU (x1, 0)).bind fun r3 => some r3
def b_X11_digest_46  (m : zM) (s : (Int64 × Int32)) : Option ((Int64 × Int32) ⊕ (Int64)) :=
  if (m.1 1 1) ≤ s.2 then (some (.inr s.1)) else (zg (zin s.2 40) (some (.inl ((((31 : Int64) * s.1) + ((m.1 2 s.2.toNatClampNeg).toInt64)), (s.2 + 1)))))
def b_X11_digest_82  (m : zM) (s : (Int64 × Int32)) : Option ((Int64 × Int32) ⊕ (Int64)) :=
  if 6 ≤ s.2 then (some (.inr s.1)) else ((f_X11_count s.2 m).bind fun r4 => some (.inl ((((31 : Int64) * s.1) + r4.toInt64), (s.2 + 1))))
def b_X11_digest_109  (m : zM) (s : (Int64 × Int32)) : Option ((Int64 × Int32) ⊕ (Int64)) :=
  if 4 < s.2 then (some (.inr s.1)) else ((f_X11_events s.2 m).bind fun r6 => some (.inl ((((31 : Int64) * s.1) + r6.toInt64), (s.2 + 1))))
def j_X11_digest_38 (x1 : Int64) (m : zM) : Option Int64 :=
  (f_X11_hashJournal x1 m).bind fun r1 => (zloop (b_X11_digest_46 m) zFU (r1, 0)).bind fun r3 => (zloop (b_X11_digest_82 m) zFU (r3, 0)).bind fun r5 => (zloop (b_X11_digest_109 m) zFU (r5, 1)).bind fun r7 => some r7
def f_X11_digest  (m : zM) : Option Int64 :=
  if (m.1 13 7) = 0 then (j_X11_digest_38 (1583 : Int64) m) else ((f_X11_hashPanelAndFingers (1583 : Int64) m).bind fun r8 => (f_X11_hashCells r8 m).bind fun r9 => (f_X11_hashSpots r9 m).bind fun r10 => (f_X11_hashTracks r10 m).bind fun r11 => j_X11_digest_38 r11 m)
def f_X12_mix (x1 : Int64) (m : zM) : Option zM :=
  some (zl m 68 57 (((31 : Int64) * (m.2.1 68 57)) + x1))
def b_X12_mixGlass_2   (s : (Int32 × zM)) : Option ((Int32 × zM) ⊕ (zM)) :=
  if 9 ≤ s.1 then (some (.inr s.2)) else ((f_X12_aboutNow s.1 s.2).bind fun r1 => (f_X12_mix r1.toInt64 s.2).bind fun m2 => some (.inl ((s.1 + 1), m2)))
def b_X12_mixGlass_26   (s : (Int32 × zM)) : Option ((Int32 × zM) ⊕ (zM)) :=
  if 20 ≤ s.1 then (some (.inr s.2)) else ((f_X12_fingerNow (s.1 / 4) (zrem s.1 4) s.2).bind fun r4 => (f_X12_mix r4.toInt64 s.2).bind fun m5 => some (.inl ((s.1 + 1), m5)))
def b_X12_mixGlass_55   (s : (Int32 × zM)) : Option ((Int32 × zM) ⊕ (zM)) :=
  (f_X12_cells s.2).bind fun r7 => if (6 * r7) ≤ s.1 then (some (.inr s.2)) else ((f_X12_cellNow (s.1 / 6) (zrem s.1 6) s.2).bind fun r8 => (f_X12_mix r8.toInt64 s.2).bind fun m9 => some (.inl ((s.1 + 1), m9)))
def b_X12_mixGlass_91   (s : (Int32 × zM)) : Option ((Int32 × zM) ⊕ (zM)) :=
  if (6 * (s.2.1 68 20)) ≤ s.1 then (some (.inr s.2)) else ((f_X12_spotNow (s.1 / 6) (zrem s.1 6) s.2).bind fun r11 => (f_X12_mix r11.toInt64 s.2).bind fun m12 => some (.inl ((s.1 + 1), m12)))
def b_X12_mixGlass_127   (s : (Int32 × zM)) : Option ((Int32 × zM) ⊕ (zM)) :=
  if (9 * (s.2.1 68 27)) ≤ s.1 then (some (.inr s.2)) else ((f_X12_trackNow (s.1 / 9) (zrem s.1 9) s.2).bind fun r14 => (f_X12_mix r14.toInt64 s.2).bind fun m15 => some (.inl ((s.1 + 1), m15)))
def f_X12_mixGlass  (m : zM) : Option zM :=
  (zloop (b_X12_mixGlass_2 ) zFU (0, m)).bind fun r3 => (zloop (b_X12_mixGlass_26 ) zFU (0, r3)).bind fun r6 => (zloop (b_X12_mixGlass_55 ) zFU (0, r6)).bind fun r10 => (zloop (b_X12_mixGlass_91 ) zFU (0, r10)).bind fun r13 => (zloop (b_X12_mixGlass_127 ) zFU (0, r13)).bind fun r16 => some r16
def b_X12_digest_20   (s : (Int32 × zM)) : Option ((Int32 × zM) ⊕ (zM)) :=
  if (3 * (s.2.1 68 37)) ≤ s.1 then (some (.inr s.2)) else ((f_X12_eventNow (s.1 / 3) (zrem s.1 3) s.2).bind fun r2 => (f_X12_mix r2.toInt64 s.2).bind fun m3 => some (.inl ((s.1 + 1), m3)))
def b_X12_digest_53   (s : (Int32 × zM)) : Option ((Int32 × zM) ⊕ (zM)) :=
  if (s.2.1 68 0) ≤ s.1 then (some (.inr s.2)) else (zg (zin s.1 40) ((f_X12_mix ((s.2.1 69 s.1.toNatClampNeg).toInt64) s.2).bind fun m6 => some (.inl ((s.1 + 1), m6))))
def b_X12_digest_80   (s : (Int32 × zM)) : Option ((Int32 × zM) ⊕ (zM)) :=
  if 6 ≤ s.1 then (some (.inr s.2)) else ((f_X12_howMany s.1 s.2).bind fun r8 => (f_X12_mix r8.toInt64 s.2).bind fun m9 => some (.inl ((s.1 + 1), m9)))
def b_X12_digest_104   (s : (Int32 × zM)) : Option ((Int32 × zM) ⊕ (zM)) :=
  if 5 ≤ s.1 then (some (.inr s.2)) else (zg (zin s.1 5) ((f_X12_mix ((s.2.1 99 s.1.toNatClampNeg).toInt64) s.2).bind fun m12 => some (.inl ((s.1 + 1), m12))))
def j_X12_digest_18  (m : zM) : Option (Int64 × zM) :=
  (zloop (b_X12_digest_20 ) zFU (0, m)).bind fun r4 => (zloop (b_X12_digest_53 ) zFU (0, r4)).bind fun r7 => (zloop (b_X12_digest_80 ) zFU (0, r7)).bind fun r10 => (zloop (b_X12_digest_104 ) zFU (1, r10)).bind fun r13 => some (r13.2.1 68 57, r13)
def f_X12_digest  (m : zM) : Option (Int64 × zM) :=
  (f_X12_isGlass (zl m 68 57 (1583 : Int64))).bind fun r1 => if (bi r1) = 0 then (j_X12_digest_18 (zl m 68 57 (1583 : Int64))) else ((f_X12_mixGlass (zl m 68 57 (1583 : Int64))).bind fun m14 => j_X12_digest_18 m14)
