/-! ===== the cells that the two constructors make ===== -/
-- 0 x
-- 1 x.page
-- 2 sign
-- 3 draft
-- 4 on
-- 5 u
-- 6 v
-- 7 power
-- 8 x.journal
-- 9 sort
-- 10 track
-- 11 frame
-- 12 occurred
-- 13 x.panel
-- 14 grid
-- 15 column
-- 16 row
-- 17 aroundCount
-- 18 around
-- 19 hand
-- 20 on
-- 21 u
-- 22 v
-- 23 power
-- 24 drives
-- 25 level
-- 26 settings
-- 27 pairing
-- 28 spotFor
-- 29 worth
-- 30 best
-- 31 surface
-- 32 background
-- 33 baseline
-- 34 sensed
-- 35 raw
-- 36 delta
-- 37 touched
-- 38 hills
-- 39 peak
-- 40 alive
-- 41 hillOf
-- 42 uphill
-- 43 pass
-- 44 spots
-- 45 row
-- 46 row_0
-- 47 row_1
-- 48 row_2
-- 49 row_3
-- 50 row_4
-- 51 row_5
-- 52 spotOf
-- 53 inSpot
-- 54 chosen
-- 55 spotOfHill
-- 56 cellsOf
-- 57 massOf
-- 58 columnsOf
-- 59 rowsOf
-- 60 tracks
-- 61 row
-- 62 row_0
-- 63 row_1
-- 64 row_2
-- 65 row_3
-- 66 row_4
-- 67 row_5
-- 68 m
-- 69 m.page
-- 70 m.airOf
-- 71 m.used
-- 72 m.raw
-- 73 m.delta
-- 74 m.spotOf
-- 75 m.isOn
-- 76 m.fingerU
-- 77 m.fingerV
-- 78 m.power
-- 79 m.noiseOf
-- 80 m.bounds
-- 81 m.spotTop
-- 82 m.spotSize
-- 83 m.spotMass
-- 84 m.spotX
-- 85 m.spotY
-- 86 m.spotId
-- 87 m.trackId
-- 88 m.trackX
-- 89 m.trackY
-- 90 m.trackSize
-- 91 m.trackMass
-- 92 m.age
-- 93 m.missed
-- 94 m.moved
-- 95 m.isPalm
-- 96 m.eventSort
-- 97 m.eventId
-- 98 m.eventFrame
-- 99 m.eventsOf
-- 100 m.topOf
-- 101 m.pairsOf
-- 102 m.costOf
-- 103 m.pairOf
def zSH : List zS := [.inr (11, [some 1, some 13, some 8, none, none]),
  .inr (5, [some 2, none, some 3, none, none, none]),
  .inl (0, 40, 0),
  .inr (2, [some 4, some 5, some 6, some 7]),
  .inl (1, 5, 0),
  .inl (0, 5, 0),
  .inl (0, 5, 0),
  .inl (0, 5, 0),
  .inr (4, [some 9, some 10, some 11, some 12, none]),
  .inl (0, 12, 0),
  .inl (0, 12, 0),
  .inl (0, 12, 0),
  .inl (0, 5, 0),
  .inr (7, [some 14, some 19, some 24, some 26, some 31, some 44, some 60, none, none, none, some 38, some 27, none, none, none]),
  .inr (1, [none, none, none, some 15, some 16, some 17, some 18]),
  .inl (0, 64, 0),
  .inl (0, 64, 0),
  .inl (0, 64, 0),
  .inl (0, 512, 0),
  .inr (2, [some 20, some 21, some 22, some 23]),
  .inl (1, 5, 0),
  .inl (0, 5, 0),
  .inl (0, 5, 0),
  .inl (0, 5, 0),
  .inr (0, [some 25, none, none]),
  .inl (0, 3, 0),
  .inl (0, 9, 0),
  .inr (6, [some 28, some 29, some 30, none]),
  .inl (0, 6, 0),
  .inl (0, 36, 0),
  .inl (0, 448, 0),
  .inr (9, [some 14, some 32, some 33, some 34, some 35, some 36, some 37]),
  .inl (0, 64, 0),
  .inl (0, 64, 0),
  .inl (0, 64, 0),
  .inl (0, 64, 0),
  .inl (0, 64, 0),
  .inl (1, 64, 0),
  .inr (3, [some 14, some 39, some 40, some 41, none, some 42, some 43]),
  .inl (0, 16, 0),
  .inl (1, 16, 0),
  .inl (0, 64, 0),
  .inl (0, 64, 0),
  .inl (0, 256, 0),
  .inr (8, [some 14, some 45, some 52, some 53, none, some 54, some 55, some 56, some 57, some 58, some 59]),
  .inl (2, 6, 46),
  .inl (0, 6, 0),
  .inl (0, 6, 0),
  .inl (0, 6, 0),
  .inl (0, 6, 0),
  .inl (0, 6, 0),
  .inl (0, 6, 0),
  .inl (0, 64, 0),
  .inl (1, 64, 0),
  .inl (1, 16, 0),
  .inl (0, 16, 0),
  .inl (0, 16, 0),
  .inl (0, 16, 0),
  .inl (0, 16, 0),
  .inl (0, 16, 0),
  .inr (10, [some 61, none, none, some 26, some 8]),
  .inl (2, 6, 62),
  .inl (0, 9, 0),
  .inl (0, 9, 0),
  .inl (0, 9, 0),
  .inl (0, 9, 0),
  .inl (0, 9, 0),
  .inl (0, 9, 0),
  .inr (12, [none, some 69, none, none, some 70, some 71, some 72, some 73, some 74, some 75, some 76, some 77, some 78, some 79, some 80, none, none, none, none, none, none, some 81, some 82, some 83, some 84, some 85, some 86, none, some 87, some 88, some 89, some 90, some 91, some 92, some 93, some 94, some 95, none, some 96, some 97, some 98, some 99, none, none, none, none, none, none, none, none, none, none, none, some 100, some 101, some 102, some 103, none]),
  .inl (0, 40, 0),
  .inl (0, 64, 0),
  .inl (0, 64, 0),
  .inl (0, 64, 0),
  .inl (0, 64, 0),
  .inl (0, 64, 0),
  .inl (1, 5, 0),
  .inl (0, 5, 0),
  .inl (0, 5, 0),
  .inl (0, 5, 0),
  .inl (0, 3, 0),
  .inl (0, 9, 0),
  .inl (0, 6, 0),
  .inl (0, 6, 0),
  .inl (0, 6, 0),
  .inl (0, 6, 0),
  .inl (0, 6, 0),
  .inl (0, 6, 0),
  .inl (0, 6, 0),
  .inl (0, 6, 0),
  .inl (0, 6, 0),
  .inl (0, 6, 0),
  .inl (0, 6, 0),
  .inl (0, 6, 0),
  .inl (0, 6, 0),
  .inl (0, 6, 0),
  .inl (1, 6, 0),
  .inl (0, 12, 0),
  .inl (0, 12, 0),
  .inl (0, 12, 0),
  .inl (0, 5, 0),
  .inl (0, 64, 0),
  .inl (0, 448, 0),
  .inl (0, 448, 0),
  .inl (0, 6, 0)]
theorem so_0 : zSH[0]? = some (.inr (11, [some 1, some 13, some 8, none, none])) := rfl
theorem so_1 : zSH[1]? = some (.inr (5, [some 2, none, some 3, none, none, none])) := rfl
theorem so_2 : zSH[2]? = some (.inl (0, 40, 0)) := rfl
theorem so_3 : zSH[3]? = some (.inr (2, [some 4, some 5, some 6, some 7])) := rfl
theorem so_4 : zSH[4]? = some (.inl (1, 5, 0)) := rfl
theorem so_5 : zSH[5]? = some (.inl (0, 5, 0)) := rfl
theorem so_6 : zSH[6]? = some (.inl (0, 5, 0)) := rfl
theorem so_7 : zSH[7]? = some (.inl (0, 5, 0)) := rfl
theorem so_8 : zSH[8]? = some (.inr (4, [some 9, some 10, some 11, some 12, none])) := rfl
theorem so_9 : zSH[9]? = some (.inl (0, 12, 0)) := rfl
theorem so_10 : zSH[10]? = some (.inl (0, 12, 0)) := rfl
theorem so_11 : zSH[11]? = some (.inl (0, 12, 0)) := rfl
theorem so_12 : zSH[12]? = some (.inl (0, 5, 0)) := rfl
theorem so_13 : zSH[13]? = some (.inr (7, [some 14, some 19, some 24, some 26, some 31, some 44, some 60, none, none, none, some 38, some 27, none, none, none])) := rfl
theorem so_14 : zSH[14]? = some (.inr (1, [none, none, none, some 15, some 16, some 17, some 18])) := rfl
theorem so_15 : zSH[15]? = some (.inl (0, 64, 0)) := rfl
theorem so_16 : zSH[16]? = some (.inl (0, 64, 0)) := rfl
theorem so_17 : zSH[17]? = some (.inl (0, 64, 0)) := rfl
theorem so_18 : zSH[18]? = some (.inl (0, 512, 0)) := rfl
theorem so_19 : zSH[19]? = some (.inr (2, [some 20, some 21, some 22, some 23])) := rfl
theorem so_20 : zSH[20]? = some (.inl (1, 5, 0)) := rfl
theorem so_21 : zSH[21]? = some (.inl (0, 5, 0)) := rfl
theorem so_22 : zSH[22]? = some (.inl (0, 5, 0)) := rfl
theorem so_23 : zSH[23]? = some (.inl (0, 5, 0)) := rfl
theorem so_24 : zSH[24]? = some (.inr (0, [some 25, none, none])) := rfl
theorem so_25 : zSH[25]? = some (.inl (0, 3, 0)) := rfl
theorem so_26 : zSH[26]? = some (.inl (0, 9, 0)) := rfl
theorem so_27 : zSH[27]? = some (.inr (6, [some 28, some 29, some 30, none])) := rfl
theorem so_28 : zSH[28]? = some (.inl (0, 6, 0)) := rfl
theorem so_29 : zSH[29]? = some (.inl (0, 36, 0)) := rfl
theorem so_30 : zSH[30]? = some (.inl (0, 448, 0)) := rfl
theorem so_31 : zSH[31]? = some (.inr (9, [some 14, some 32, some 33, some 34, some 35, some 36, some 37])) := rfl
theorem so_32 : zSH[32]? = some (.inl (0, 64, 0)) := rfl
theorem so_33 : zSH[33]? = some (.inl (0, 64, 0)) := rfl
theorem so_34 : zSH[34]? = some (.inl (0, 64, 0)) := rfl
theorem so_35 : zSH[35]? = some (.inl (0, 64, 0)) := rfl
theorem so_36 : zSH[36]? = some (.inl (0, 64, 0)) := rfl
theorem so_37 : zSH[37]? = some (.inl (1, 64, 0)) := rfl
theorem so_38 : zSH[38]? = some (.inr (3, [some 14, some 39, some 40, some 41, none, some 42, some 43])) := rfl
theorem so_39 : zSH[39]? = some (.inl (0, 16, 0)) := rfl
theorem so_40 : zSH[40]? = some (.inl (1, 16, 0)) := rfl
theorem so_41 : zSH[41]? = some (.inl (0, 64, 0)) := rfl
theorem so_42 : zSH[42]? = some (.inl (0, 64, 0)) := rfl
theorem so_43 : zSH[43]? = some (.inl (0, 256, 0)) := rfl
theorem so_44 : zSH[44]? = some (.inr (8, [some 14, some 45, some 52, some 53, none, some 54, some 55, some 56, some 57, some 58, some 59])) := rfl
theorem so_45 : zSH[45]? = some (.inl (2, 6, 46)) := rfl
theorem so_46 : zSH[46]? = some (.inl (0, 6, 0)) := rfl
theorem so_47 : zSH[47]? = some (.inl (0, 6, 0)) := rfl
theorem so_48 : zSH[48]? = some (.inl (0, 6, 0)) := rfl
theorem so_49 : zSH[49]? = some (.inl (0, 6, 0)) := rfl
theorem so_50 : zSH[50]? = some (.inl (0, 6, 0)) := rfl
theorem so_51 : zSH[51]? = some (.inl (0, 6, 0)) := rfl
theorem so_52 : zSH[52]? = some (.inl (0, 64, 0)) := rfl
theorem so_53 : zSH[53]? = some (.inl (1, 64, 0)) := rfl
theorem so_54 : zSH[54]? = some (.inl (1, 16, 0)) := rfl
theorem so_55 : zSH[55]? = some (.inl (0, 16, 0)) := rfl
theorem so_56 : zSH[56]? = some (.inl (0, 16, 0)) := rfl
theorem so_57 : zSH[57]? = some (.inl (0, 16, 0)) := rfl
theorem so_58 : zSH[58]? = some (.inl (0, 16, 0)) := rfl
theorem so_59 : zSH[59]? = some (.inl (0, 16, 0)) := rfl
theorem so_60 : zSH[60]? = some (.inr (10, [some 61, none, none, some 26, some 8])) := rfl
theorem so_61 : zSH[61]? = some (.inl (2, 6, 62)) := rfl
theorem so_62 : zSH[62]? = some (.inl (0, 9, 0)) := rfl
theorem so_63 : zSH[63]? = some (.inl (0, 9, 0)) := rfl
theorem so_64 : zSH[64]? = some (.inl (0, 9, 0)) := rfl
theorem so_65 : zSH[65]? = some (.inl (0, 9, 0)) := rfl
theorem so_66 : zSH[66]? = some (.inl (0, 9, 0)) := rfl
theorem so_67 : zSH[67]? = some (.inl (0, 9, 0)) := rfl
theorem so_68 : zSH[68]? = some (.inr (12, [none, some 69, none, none, some 70, some 71, some 72, some 73, some 74, some 75, some 76, some 77, some 78, some 79, some 80, none, none, none, none, none, none, some 81, some 82, some 83, some 84, some 85, some 86, none, some 87, some 88, some 89, some 90, some 91, some 92, some 93, some 94, some 95, none, some 96, some 97, some 98, some 99, none, none, none, none, none, none, none, none, none, none, none, some 100, some 101, some 102, some 103, none])) := rfl
theorem so_69 : zSH[69]? = some (.inl (0, 40, 0)) := rfl
theorem so_70 : zSH[70]? = some (.inl (0, 64, 0)) := rfl
theorem so_71 : zSH[71]? = some (.inl (0, 64, 0)) := rfl
theorem so_72 : zSH[72]? = some (.inl (0, 64, 0)) := rfl
theorem so_73 : zSH[73]? = some (.inl (0, 64, 0)) := rfl
theorem so_74 : zSH[74]? = some (.inl (0, 64, 0)) := rfl
theorem so_75 : zSH[75]? = some (.inl (1, 5, 0)) := rfl
theorem so_76 : zSH[76]? = some (.inl (0, 5, 0)) := rfl
theorem so_77 : zSH[77]? = some (.inl (0, 5, 0)) := rfl
theorem so_78 : zSH[78]? = some (.inl (0, 5, 0)) := rfl
theorem so_79 : zSH[79]? = some (.inl (0, 3, 0)) := rfl
theorem so_80 : zSH[80]? = some (.inl (0, 9, 0)) := rfl
theorem so_81 : zSH[81]? = some (.inl (0, 6, 0)) := rfl
theorem so_82 : zSH[82]? = some (.inl (0, 6, 0)) := rfl
theorem so_83 : zSH[83]? = some (.inl (0, 6, 0)) := rfl
theorem so_84 : zSH[84]? = some (.inl (0, 6, 0)) := rfl
theorem so_85 : zSH[85]? = some (.inl (0, 6, 0)) := rfl
theorem so_86 : zSH[86]? = some (.inl (0, 6, 0)) := rfl
theorem so_87 : zSH[87]? = some (.inl (0, 6, 0)) := rfl
theorem so_88 : zSH[88]? = some (.inl (0, 6, 0)) := rfl
theorem so_89 : zSH[89]? = some (.inl (0, 6, 0)) := rfl
theorem so_90 : zSH[90]? = some (.inl (0, 6, 0)) := rfl
theorem so_91 : zSH[91]? = some (.inl (0, 6, 0)) := rfl
theorem so_92 : zSH[92]? = some (.inl (0, 6, 0)) := rfl
theorem so_93 : zSH[93]? = some (.inl (0, 6, 0)) := rfl
theorem so_94 : zSH[94]? = some (.inl (0, 6, 0)) := rfl
theorem so_95 : zSH[95]? = some (.inl (1, 6, 0)) := rfl
theorem so_96 : zSH[96]? = some (.inl (0, 12, 0)) := rfl
theorem so_97 : zSH[97]? = some (.inl (0, 12, 0)) := rfl
theorem so_98 : zSH[98]? = some (.inl (0, 12, 0)) := rfl
theorem so_99 : zSH[99]? = some (.inl (0, 5, 0)) := rfl
theorem so_100 : zSH[100]? = some (.inl (0, 64, 0)) := rfl
theorem so_101 : zSH[101]? = some (.inl (0, 448, 0)) := rfl
theorem so_102 : zSH[102]? = some (.inl (0, 448, 0)) := rfl
theorem so_103 : zSH[103]? = some (.inl (0, 6, 0)) := rfl
theorem sr_45 (p : Nat) : zSH[46 + p % 6]? = some (.inl (0, 6, 0)) := by
  have h : p % 6 < 6 := Nat.mod_lt _ (by decide)
  generalize p % 6 = q at h ⊢
  rcases (show q = 0 ∨ q = 1 ∨ q = 2 ∨ q = 3 ∨ q = 4 ∨ q = 5 by omega) with rfl | rfl | rfl | rfl | rfl | rfl <;> rfl
theorem sr_61 (p : Nat) : zSH[62 + p % 6]? = some (.inl (0, 9, 0)) := by
  have h : p % 6 < 6 := Nat.mod_lt _ (by decide)
  generalize p % 6 = q at h ⊢
  rcases (show q = 0 ∨ q = 1 ∨ q = 2 ∨ q = 3 ∨ q = 4 ∨ q = 5 by omega) with rfl | rfl | rfl | rfl | rfl | rfl <;> rfl
/-! ===== the methods ===== -/
abbrev zX2_init : zY := (yX2_init, cX2_init, 1, none, 1, 20)
abbrev zX5_init : zY := (yX5_init, cX5_init, 1, none, 2, 40)
abbrev zX4_init : zY := (yX4_init, cX4_init, 1, none, 1, 20)
abbrev zX1_init : zY := (yX1_init, cX1_init, 1, none, 1, 20)
abbrev zX0_init : zY := (yX0_init, cX0_init, 1, none, 1, 20)
abbrev zX6_init : zY := (yX6_init, cX6_init, 1, none, 1, 20)
abbrev zX9_init : zY := (yX9_init, cX9_init, 2, none, 1, 20)
abbrev zX3_init : zY := (yX3_init, cX3_init, 2, none, 1, 20)
abbrev zX8_init : zY := (yX8_init, cX8_init, 2, none, 1, 20)
abbrev zX10_init : zY := (yX10_init, cX10_init, 3, none, 1, 20)
abbrev zX7_init : zY := (yX7_init, cX7_init, 2, none, 2, 42)
abbrev zX11_init : zY := (yX11_init, cX11_init, 1, none, 3, 63)
abbrev zX12_init : zY := (yX12_init, cX12_init, 1, none, 1, 20)
abbrev zX11_within : zY := (yX11_within, cX11_within, 3, (some .boolean), 0, 0)
abbrev zX5_append : zY := (yX5_append, cX5_append, 2, none, 0, 0)
abbrev zX11_letter : zY := (yX11_letter, cX11_letter, 2, (some .int), 1, 22)
abbrev zX12_within : zY := (yX12_within, cX12_within, 3, (some .boolean), 0, 0)
abbrev zX12_letter : zY := (yX12_letter, cX12_letter, 2, (some .int), 1, 22)
abbrev zX11_blank : zY := (yX11_blank, cX11_blank, 2, (some .int), 0, 0)
abbrev zX12_blank : zY := (yX12_blank, cX12_blank, 2, (some .int), 0, 0)
abbrev zX2_copyFrom : zY := (yX2_copyFrom, cX2_copyFrom, 3, none, 0, 0)
abbrev zX5_codeHere : zY := (yX5_codeHere, cX5_codeHere, 1, (some .int), 0, 0)
abbrev zX5_digitHere : zY := (yX5_digitHere, cX5_digitHere, 2, (some .int), 1, 22)
abbrev zX5_take : zY := (yX5_take, cX5_take, 2, (some .boolean), 1, 20)
abbrev zX5_readNumber : zY := (yX5_readNumber, cX5_readNumber, 7, (some .int), 2, 43)
abbrev zX2_put : zY := (yX2_put, cX2_put, 5, none, 0, 0)
abbrev zX5_readPlace : zY := (yX5_readPlace, cX5_readPlace, 5, (some .boolean), 3, 69)
abbrev zX5_readPart : zY := (yX5_readPart, cX5_readPart, 2, (some .boolean), 4, 93)
abbrev zX5_read : zY := (yX5_read, cX5_read, 4, (some .boolean), 5, 114)
abbrev zX11_fault : zY := (yX11_fault, cX11_fault, 1, (some .int), 6, 137)
abbrev zX12_isGlass : zY := (yX12_isGlass, cX12_isGlass, 1, (some .boolean), 0, 0)
abbrev zX12_goes : zY := (yX12_goes, cX12_goes, 3, (some .boolean), 0, 0)
abbrev zX12_takesDigit : zY := (yX12_takesDigit, cX12_takesDigit, 3, (some .boolean), 1, 22)
abbrev zX12_takesKind : zY := (yX12_takesKind, cX12_takesKind, 2, (some .boolean), 1, 22)
abbrev zX12_mostNow : zY := (yX12_mostNow, cX12_mostNow, 1, (some .int), 0, 0)
abbrev zX12_takesFigure : zY := (yX12_takesFigure, cX12_takesFigure, 4, (some .boolean), 1, 20)
abbrev zX12_putOn : zY := (yX12_putOn, cX12_putOn, 2, none, 0, 0)
abbrev zX12_takesSign : zY := (yX12_takesSign, cX12_takesSign, 4, (some .boolean), 1, 22)
abbrev zX12_takes : zY := (yX12_takes, cX12_takes, 2, (some .boolean), 2, 45)
abbrev zX12_goAlong : zY := (yX12_goAlong, cX12_goAlong, 3, (some .int), 3, 66)
abbrev zX12_fault : zY := (yX12_fault, cX12_fault, 1, (some .int), 4, 88)
abbrev zJ9_max_7cf53 : zY := (yJ9_max_7cf53, cJ9_max_7cf53, 2, (some .int), 0, 0)
abbrev zX2_sensedAt : zY := (yX2_sensedAt, cX2_sensedAt, 7, (some .int), 1, 21)
abbrev zX9_feel : zY := (yX9_feel, cX9_feel, 3, none, 2, 47)
abbrev zX2_onCount : zY := (yX2_onCount, cX2_onCount, 3, (some .int), 0, 0)
abbrev zX11_fingers : zY := (yX11_fingers, cX11_fingers, 1, (some .int), 6, 137)
abbrev zX12_onMany : zY := (yX12_onMany, cX12_onMany, 3, (some .int), 0, 0)
abbrev zX12_fingers : zY := (yX12_fingers, cX12_fingers, 2, (some .int), 4, 88)
abbrev zJ9_min_7cf53 : zY := (yJ9_min_7cf53, cJ9_min_7cf53, 2, (some .int), 0, 0)
abbrev zX1_listAround : zY := (yX1_listAround, cX1_listAround, 7, none, 1, 21)
abbrev zX1_lay : zY := (yX1_lay, cX1_lay, 5, none, 2, 47)
abbrev zX2_liftAll : zY := (yX2_liftAll, cX2_liftAll, 2, none, 0, 0)
abbrev zJ7_fill_53178 : zY := (yJ7_fill_53178, cJ7_fill_53178, 4, none, 0, 0)
abbrev zX0_renew : zY := (yX0_renew, cX0_renew, 1, none, 1, 23)
abbrev zX9_renew : zY := (yX9_renew, cX9_renew, 1, none, 1, 23)
abbrev zX8_clear : zY := (yX8_clear, cX8_clear, 1, none, 1, 23)
abbrev zX7_renew : zY := (yX7_renew, cX7_renew, 3, none, 3, 71)
abbrev zX11_glass : zY := (yX11_glass, cX11_glass, 3, (some .int), 4, 93)
abbrev zX12_layBounds : zY := (yX12_layBounds, cX12_layBounds, 1, none, 0, 0)
abbrev zX12_cells : zY := (yX12_cells, cX12_cells, 1, (some .int), 0, 0)
abbrev zX12_glass : zY := (yX12_glass, cX12_glass, 4, (some .int), 1, 22)
abbrev zX7_hasCell : zY := (yX7_hasCell, cX7_hasCell, 2, (some .boolean), 1, 22)
abbrev zX11_air : zY := (yX11_air, cX11_air, 4, (some .int), 2, 43)
abbrev zX12_isCell : zY := (yX12_isCell, cX12_isCell, 2, (some .boolean), 1, 22)
abbrev zX12_air : zY := (yX12_air, cX12_air, 4, (some .int), 2, 43)
abbrev zX9_addToBackgrounds : zY := (yX9_addToBackgrounds, cX9_addToBackgrounds, 5, (some .int), 1, 21)
abbrev zX11_warm : zY := (yX11_warm, cX11_warm, 2, (some .int), 2, 45)
abbrev zX12_held : zY := (yX12_held, cX12_held, 1, (some .int), 0, 0)
abbrev zX12_warm : zY := (yX12_warm, cX12_warm, 5, (some .int), 1, 22)
abbrev zX11_noise : zY := (yX11_noise, cX11_noise, 4, (some .int), 1, 22)
abbrev zX12_noise : zY := (yX12_noise, cX12_noise, 4, (some .int), 1, 22)
abbrev zX11_seed : zY := (yX11_seed, cX11_seed, 3, (some .int), 0, 0)
abbrev zX12_seed : zY := (yX12_seed, cX12_seed, 3, (some .int), 1, 20)
abbrev zX11_bound : zY := (yX11_bound, cX11_bound, 4, (some .int), 1, 22)
abbrev zX12_isBound : zY := (yX12_isBound, cX12_isBound, 2, (some .boolean), 1, 22)
abbrev zX12_bound : zY := (yX12_bound, cX12_bound, 4, (some .int), 2, 43)
abbrev zX9_baselinesToBackgrounds : zY := (yX9_baselinesToBackgrounds, cX9_baselinesToBackgrounds, 3, (some .int), 0, 0)
abbrev zX11_settle : zY := (yX11_settle, cX11_settle, 1, (some .int), 1, 22)
abbrev zX12_settle : zY := (yX12_settle, cX12_settle, 3, (some .int), 1, 20)
abbrev zX0_activeLevel : zY := (yX0_activeLevel, cX0_activeLevel, 1, (some .int), 0, 0)
abbrev zX0_drawBelow : zY := (yX0_drawBelow, cX0_drawBelow, 2, (some .int), 0, 0)
abbrev zX0_drawNoise : zY := (yX0_drawNoise, cX0_drawNoise, 2, (some .int), 1, 21)
abbrev zX9_sense : zY := (yX9_sense, cX9_sense, 6, none, 2, 42)
abbrev zX1_neighbour : zY := (yX1_neighbour, cX1_neighbour, 3, (some .int), 0, 0)
abbrev zX1_meets : zY := (yX1_meets, cX1_meets, 4, (some .boolean), 1, 22)
abbrev zX9_quietSpread : zY := (yX9_quietSpread, cX9_quietSpread, 5, (some .int), 2, 45)
abbrev zX0_activateNext : zY := (yX0_activateNext, cX0_activateNext, 1, none, 0, 0)
abbrev zX3_steepest : zY := (yX3_steepest, cX3_steepest, 6, (some .int), 1, 22)
abbrev zX3_findPeaks : zY := (yX3_findPeaks, cX3_findPeaks, 3, none, 2, 47)
abbrev zX3_gatherCells : zY := (yX3_gatherCells, cX3_gatherCells, 5, none, 0, 0)
abbrev zX3_raisePass : zY := (yX3_raisePass, cX3_raisePass, 5, none, 1, 21)
abbrev zX3_findPasses : zY := (yX3_findPasses, cX3_findPasses, 5, none, 2, 45)
abbrev zX3_canMerge : zY := (yX3_canMerge, cX3_canMerge, 7, (some .boolean), 1, 21)
abbrev zX3_merge : zY := (yX3_merge, cX3_merge, 5, none, 2, 45)
abbrev zX3_mergeBestPair : zY := (yX3_mergeBestPair, cX3_mergeBestPair, 9, (some .boolean), 3, 69)
abbrev zX3_form : zY := (yX3_form, cX3_form, 4, none, 4, 97)
abbrev zX8_weigh : zY := (yX8_weigh, cX8_weigh, 5, none, 0, 0)
abbrev zX8_dropLightest : zY := (yX8_dropLightest, cX8_dropLightest, 4, none, 0, 0)
abbrev zX8_fillRow : zY := (yX8_fillRow, cX8_fillRow, 5, none, 0, 0)
abbrev zX8_numberHills : zY := (yX8_numberHills, cX8_numberHills, 3, none, 1, 24)
abbrev zX8_markCells : zY := (yX8_markCells, cX8_markCells, 3, none, 0, 0)
abbrev zX8_choose : zY := (yX8_choose, cX8_choose, 6, none, 2, 46)
abbrev zJ9_abs_0f7a4 : zY := (yJ9_abs_0f7a4, cJ9_abs_0f7a4, 1, (some .int), 0, 0)
abbrev zX6_weighPairs : zY := (yX6_weighPairs, cX6_weighPairs, 9, none, 1, 20)
abbrev zX6_withSpot : zY := (yX6_withSpot, cX6_withSpot, 2, (some .int), 0, 0)
abbrev zX6_worthOf : zY := (yX6_worthOf, cX6_worthOf, 5, (some .int), 1, 21)
abbrev zX6_bestSpot : zY := (yX6_bestSpot, cX6_bestSpot, 8, (some .int), 2, 45)
abbrev zX6_solve : zY := (yX6_solve, cX6_solve, 8, none, 3, 72)
abbrev zX4_write : zY := (yX4_write, cX4_write, 5, none, 1, 22)
abbrev zX10_miss : zY := (yX10_miss, cX10_miss, 4, (some .boolean), 2, 46)
abbrev zX10_takeOver : zY := (yX10_takeOver, cX10_takeOver, 3, none, 0, 0)
abbrev zX10_isPalm : zY := (yX10_isPalm, cX10_isPalm, 2, (some .boolean), 0, 0)
abbrev zX10_move : zY := (yX10_move, cX10_move, 4, none, 2, 46)
abbrev zX10_follow : zY := (yX10_follow, cX10_follow, 9, none, 3, 69)
abbrev zX10_begin : zY := (yX10_begin, cX10_begin, 3, none, 1, 22)
abbrev zX10_beginNew : zY := (yX10_beginNew, cX10_beginNew, 3, none, 2, 44)
abbrev zX9_driftBaselines : zY := (yX9_driftBaselines, cX9_driftBaselines, 5, none, 2, 45)
abbrev zX7_runFrame : zY := (yX7_runFrame, cX7_runFrame, 1, none, 5, 120)
abbrev zX11_frames : zY := (yX11_frames, cX11_frames, 4, (some .int), 6, 140)
abbrev zX12_eventsAll : zY := (yX12_eventsAll, cX12_eventsAll, 1, (some .int), 0, 0)
abbrev zX12_feltOf : zY := (yX12_feltOf, cX12_feltOf, 6, (some .int), 0, 0)
abbrev zX12_feltAll : zY := (yX12_feltAll, cX12_feltAll, 4, (some .int), 1, 25)
abbrev zX12_draw : zY := (yX12_draw, cX12_draw, 4, (some .int), 0, 0)
abbrev zX12_layRaw : zY := (yX12_layRaw, cX12_layRaw, 3, none, 2, 48)
abbrev zX12_isTouched : zY := (yX12_isTouched, cX12_isTouched, 2, (some .boolean), 0, 0)
abbrev zX12_beside : zY := (yX12_beside, cX12_beside, 6, (some .int), 1, 22)
abbrev zX12_isNearTouched : zY := (yX12_isNearTouched, cX12_isNearTouched, 5, (some .boolean), 2, 47)
abbrev zX12_spanOf : zY := (yX12_spanOf, cX12_spanOf, 4, (some .int), 3, 71)
abbrev zX12_higher : zY := (yX12_higher, cX12_higher, 6, (some .int), 2, 47)
abbrev zX12_layTops : zY := (yX12_layTops, cX12_layTops, 3, none, 3, 72)
abbrev zX12_isTop : zY := (yX12_isTop, cX12_isTop, 2, (some .boolean), 0, 0)
abbrev zX12_lesser : zY := (yX12_lesser, cX12_lesser, 2, (some .int), 0, 0)
abbrev zX12_passOf : zY := (yX12_passOf, cX12_passOf, 8, (some .int), 2, 47)
abbrev zX12_isJoined : zY := (yX12_isJoined, cX12_isJoined, 4, (some .boolean), 1, 21)
abbrev zX12_joinOnce : zY := (yX12_joinOnce, cX12_joinOnce, 7, (some .boolean), 3, 74)
abbrev zX12_layHills : zY := (yX12_layHills, cX12_layHills, 2, none, 4, 100)
abbrev zX12_isHigh : zY := (yX12_isHigh, cX12_isHigh, 2, (some .boolean), 1, 21)
abbrev zX12_massOf : zY := (yX12_massOf, cX12_massOf, 4, (some .int), 1, 20)
abbrev zX12_aheadOf : zY := (yX12_aheadOf, cX12_aheadOf, 6, (some .int), 2, 43)
abbrev zX12_sizeOf : zY := (yX12_sizeOf, cX12_sizeOf, 4, (some .int), 1, 20)
abbrev zX12_laySpot : zY := (yX12_laySpot, cX12_laySpot, 6, none, 2, 43)
abbrev zX12_laySpots : zY := (yX12_laySpots, cX12_laySpots, 2, none, 3, 68)
abbrev zX12_abs : zY := (yX12_abs, cX12_abs, 1, (some .int), 0, 0)
abbrev zX12_isNear : zY := (yX12_isNear, cX12_isNear, 3, (some .boolean), 1, 20)
abbrev zX12_pairCost : zY := (yX12_pairCost, cX12_pairCost, 5, (some .int), 0, 0)
abbrev zX12_isBetter : zY := (yX12_isBetter, cX12_isBetter, 4, (some .boolean), 0, 0)
abbrev zX12_layPairsOf : zY := (yX12_layPairsOf, cX12_layPairsOf, 7, none, 2, 42)
abbrev zX12_isBestPair : zY := (yX12_isBestPair, cX12_isBestPair, 6, (some .boolean), 2, 42)
abbrev zX12_layPairs : zY := (yX12_layPairs, cX12_layPairs, 4, none, 3, 68)
abbrev zX12_lay : zY := (yX12_lay, cX12_lay, 3, none, 0, 0)
abbrev zX12_happens : zY := (yX12_happens, cX12_happens, 4, none, 0, 0)
abbrev zX12_follow : zY := (yX12_follow, cX12_follow, 3, none, 1, 23)
abbrev zX12_isLost : zY := (yX12_isLost, cX12_isLost, 2, (some .boolean), 1, 23)
abbrev zX12_keepAs : zY := (yX12_keepAs, cX12_keepAs, 3, none, 0, 0)
abbrev zX12_followAll : zY := (yX12_followAll, cX12_followAll, 4, none, 2, 45)
abbrev zX12_beginAll : zY := (yX12_beginAll, cX12_beginAll, 2, none, 1, 22)
abbrev zX12_isNearSpot : zY := (yX12_isNearSpot, cX12_isNearSpot, 5, (some .boolean), 2, 47)
abbrev zX12_drift : zY := (yX12_drift, cX12_drift, 3, none, 3, 71)
abbrev zX12_frame : zY := (yX12_frame, cX12_frame, 1, none, 5, 121)
abbrev zX12_frames : zY := (yX12_frames, cX12_frames, 4, (some .int), 6, 141)
abbrev zX2_fact : zY := (yX2_fact, cX2_fact, 3, (some .int), 0, 0)
abbrev zX11_finger : zY := (yX11_finger, cX11_finger, 3, (some .int), 1, 22)
abbrev zX12_fingerNow : zY := (yX12_fingerNow, cX12_fingerNow, 3, (some .int), 0, 0)
abbrev zX12_finger : zY := (yX12_finger, cX12_finger, 3, (some .int), 1, 22)
abbrev zX7_cellFact : zY := (yX7_cellFact, cX7_cellFact, 3, (some .int), 0, 0)
abbrev zX11_cell : zY := (yX11_cell, cX11_cell, 3, (some .int), 2, 43)
abbrev zX12_cellNow : zY := (yX12_cellNow, cX12_cellNow, 3, (some .int), 2, 48)
abbrev zX12_cell : zY := (yX12_cell, cX12_cell, 3, (some .int), 3, 70)
abbrev zX7_fact : zY := (yX7_fact, cX7_fact, 2, (some .int), 0, 0)
abbrev zX11_about : zY := (yX11_about, cX11_about, 2, (some .int), 1, 22)
abbrev zX12_aboutNow : zY := (yX12_aboutNow, cX12_aboutNow, 2, (some .int), 0, 0)
abbrev zX12_about : zY := (yX12_about, cX12_about, 2, (some .int), 1, 22)
abbrev zX7_hasSpot : zY := (yX7_hasSpot, cX7_hasSpot, 2, (some .boolean), 1, 22)
abbrev zX11_spot : zY := (yX11_spot, cX11_spot, 3, (some .int), 2, 43)
abbrev zX12_spotNow : zY := (yX12_spotNow, cX12_spotNow, 3, (some .int), 0, 0)
abbrev zX12_spot : zY := (yX12_spot, cX12_spot, 3, (some .int), 1, 22)
abbrev zX7_hasTrack : zY := (yX7_hasTrack, cX7_hasTrack, 2, (some .boolean), 1, 22)
abbrev zX11_track : zY := (yX11_track, cX11_track, 3, (some .int), 2, 43)
abbrev zX12_isTrack : zY := (yX12_isTrack, cX12_isTrack, 2, (some .boolean), 1, 22)
abbrev zX12_trackNow : zY := (yX12_trackNow, cX12_trackNow, 3, (some .int), 0, 0)
abbrev zX12_track : zY := (yX12_track, cX12_track, 3, (some .int), 2, 43)
abbrev zX11_as : zY := (yX11_as, cX11_as, 4, (some .int), 2, 43)
abbrev zX12_as : zY := (yX12_as, cX12_as, 3, (some .int), 2, 43)
abbrev zX4_kept : zY := (yX4_kept, cX4_kept, 1, (some .int), 1, 21)
abbrev zJ9_floorMod_7cf53 : zY := (yJ9_floorMod_7cf53, cJ9_floorMod_7cf53, 3, (some .int), 0, 0)
abbrev zX4_fact : zY := (yX4_fact, cX4_fact, 4, (some .int), 1, 22)
abbrev zX11_event : zY := (yX11_event, cX11_event, 3, (some .int), 2, 45)
abbrev zX12_eventNow : zY := (yX12_eventNow, cX12_eventNow, 3, (some .int), 0, 0)
abbrev zX12_event : zY := (yX12_event, cX12_event, 3, (some .int), 1, 22)
abbrev zX11_count : zY := (yX11_count, cX11_count, 2, (some .int), 0, 0)
abbrev zX12_howMany : zY := (yX12_howMany, cX12_howMany, 2, (some .int), 0, 0)
abbrev zX12_count : zY := (yX12_count, cX12_count, 2, (some .int), 1, 21)
abbrev zX11_events : zY := (yX11_events, cX11_events, 2, (some .int), 1, 22)
abbrev zX12_events : zY := (yX12_events, cX12_events, 2, (some .int), 1, 22)
abbrev zX11_hashPanelAndFingers : zY := (yX11_hashPanelAndFingers, cX11_hashPanelAndFingers, 7, (some .long), 2, 44)
abbrev zX11_hashCells : zY := (yX11_hashCells, cX11_hashCells, 7, (some .long), 3, 65)
abbrev zX11_hashSpots : zY := (yX11_hashSpots, cX11_hashSpots, 7, (some .long), 3, 65)
abbrev zX11_hashTracks : zY := (yX11_hashTracks, cX11_hashTracks, 7, (some .long), 3, 65)
abbrev zX11_hashJournal : zY := (yX11_hashJournal, cX11_hashJournal, 7, (some .long), 3, 67)
abbrev zX11_digest : zY := (yX11_digest, cX11_digest, 4, (some .long), 4, 93)
abbrev zX12_mix : zY := (yX12_mix, cX12_mix, 3, none, 0, 0)
abbrev zX12_mixGlass : zY := (yX12_mixGlass, cX12_mixGlass, 2, none, 3, 70)
abbrev zX12_digest : zY := (yX12_digest, cX12_digest, 2, (some .long), 4, 91)
abbrev zL_law : zY := (yL_law, cL_law, 4, (some .boolean), 9, 328)
theorem cb_X2_init : zcB zX2_init 0 := ⟨by decide +kernel, k1_35, k1_3⟩
theorem cb_X5_init : zcB zX5_init 0 := ⟨by decide +kernel, k1_29, k1_2⟩
theorem cb_X4_init : zcB zX4_init 0 := ⟨by decide +kernel, k1_80, k1_4⟩
theorem cb_X1_init : zcB zX1_init 0 := ⟨by decide +kernel, k1_110, k1_6⟩
theorem cb_X0_init : zcB zX0_init 0 := ⟨by decide +kernel, k1_154, k1_7⟩
theorem cb_X6_init : zcB zX6_init 0 := ⟨by decide +kernel, k1_174, k1_8⟩
theorem cb_X9_init : zcB zX9_init 1 := ⟨by decide +kernel, k1_194, k1_9⟩
theorem cb_X3_init : zcB zX3_init 1 := ⟨by decide +kernel, k1_230, k1_10⟩
theorem cb_X8_init : zcB zX8_init 1 := ⟨by decide +kernel, k2_22, k1_11⟩
theorem cb_X10_init : zcB zX10_init 2 := ⟨by decide +kernel, k2_73, k1_12⟩
theorem cb_X7_init : zcB zX7_init 1 := ⟨by decide +kernel, k1_104, k1_5⟩
theorem cb_X11_init : zcB zX11_init 0 := ⟨by decide +kernel, k1_21, k1_1⟩
theorem cb_X12_init : zcB zX12_init 0 := ⟨by decide +kernel, k4_130, k1_13⟩
theorem cb_X11_within : zcB zX11_within 3 := ⟨by decide +kernel, k2_176, k1_1⟩
theorem cb_X5_append : zcB zX5_append 1 := ⟨by decide +kernel, k2_180, k1_2⟩
theorem cb_X11_letter : zcB zX11_letter 1 := ⟨by decide +kernel, k2_173, k1_1⟩
theorem cb_X12_within : zcB zX12_within 3 := ⟨by decide +kernel, k5_73, k1_13⟩
theorem cb_X12_letter : zcB zX12_letter 1 := ⟨by decide +kernel, k5_70, k1_13⟩
theorem cb_X11_blank : zcB zX11_blank 0 := ⟨by decide +kernel, k2_184, k1_1⟩
theorem cb_X12_blank : zcB zX12_blank 0 := ⟨by decide +kernel, k5_77, k1_13⟩
theorem cb_X2_copyFrom : zcB zX2_copyFrom 1 := ⟨by decide +kernel, k2_196, k1_3⟩
theorem cb_X5_codeHere : zcB zX5_codeHere 0 := ⟨by decide +kernel, k2_208, k1_2⟩
theorem cb_X5_digitHere : zcB zX5_digitHere 0 := ⟨by decide +kernel, k2_204, k1_2⟩
theorem cb_X5_take : zcB zX5_take 1 := ⟨by decide +kernel, k2_213, k1_2⟩
theorem cb_X5_readNumber : zcB zX5_readNumber 2 := ⟨by decide +kernel, k2_221, k1_2⟩
theorem cb_X2_put : zcB zX2_put 4 := ⟨by decide +kernel, k2_225, k1_3⟩
theorem cb_X5_readPlace : zcB zX5_readPlace 1 := ⟨by decide +kernel, k2_217, k1_2⟩
theorem cb_X5_readPart : zcB zX5_readPart 0 := ⟨by decide +kernel, k2_200, k1_2⟩
theorem cb_X5_read : zcB zX5_read 2 := ⟨by decide +kernel, k2_192, k1_2⟩
theorem cb_X11_fault : zcB zX11_fault 0 := ⟨by decide +kernel, k2_188, k1_1⟩
theorem cb_X12_isGlass : zcB zX12_isGlass 0 := ⟨by decide +kernel, k5_85, k1_13⟩
theorem cb_X12_goes : zcB zX12_goes 2 := ⟨by decide +kernel, k5_101, k1_13⟩
theorem cb_X12_takesDigit : zcB zX12_takesDigit 1 := ⟨by decide +kernel, k5_97, k1_13⟩
theorem cb_X12_takesKind : zcB zX12_takesKind 1 := ⟨by decide +kernel, k5_105, k1_13⟩
theorem cb_X12_mostNow : zcB zX12_mostNow 0 := ⟨by decide +kernel, k5_113, k1_13⟩
theorem cb_X12_takesFigure : zcB zX12_takesFigure 1 := ⟨by decide +kernel, k5_109, k1_13⟩
theorem cb_X12_putOn : zcB zX12_putOn 1 := ⟨by decide +kernel, k5_121, k1_13⟩
theorem cb_X12_takesSign : zcB zX12_takesSign 1 := ⟨by decide +kernel, k5_117, k1_13⟩
theorem cb_X12_takes : zcB zX12_takes 1 := ⟨by decide +kernel, k5_93, k1_13⟩
theorem cb_X12_goAlong : zcB zX12_goAlong 1 := ⟨by decide +kernel, k5_89, k1_13⟩
theorem cb_X12_fault : zcB zX12_fault 0 := ⟨by decide +kernel, k5_81, k1_13⟩
theorem cb_J9_max_7cf53 : zcB zJ9_max_7cf53 2 := ⟨by decide +kernel, k3_1, k1_14⟩
theorem cb_X2_sensedAt : zcB zX2_sensedAt 2 := ⟨by decide +kernel, k2_238, k1_3⟩
theorem cb_X9_feel : zcB zX9_feel 1 := ⟨by decide +kernel, k2_234, k1_9⟩
theorem cb_X2_onCount : zcB zX2_onCount 0 := ⟨by decide +kernel, k3_5, k1_3⟩
theorem cb_X11_fingers : zcB zX11_fingers 0 := ⟨by decide +kernel, k2_229, k1_1⟩
theorem cb_X12_onMany : zcB zX12_onMany 0 := ⟨by decide +kernel, k5_129, k1_13⟩
theorem cb_X12_fingers : zcB zX12_fingers 0 := ⟨by decide +kernel, k5_125, k1_13⟩
theorem cb_J9_min_7cf53 : zcB zJ9_min_7cf53 2 := ⟨by decide +kernel, k3_25, k1_14⟩
theorem cb_X1_listAround : zcB zX1_listAround 2 := ⟨by decide +kernel, k3_21, k1_6⟩
theorem cb_X1_lay : zcB zX1_lay 2 := ⟨by decide +kernel, k3_17, k1_6⟩
theorem cb_X2_liftAll : zcB zX2_liftAll 0 := ⟨by decide +kernel, k3_29, k1_3⟩
theorem cb_J7_fill_53178 : zcB zJ7_fill_53178 2 := ⟨by decide +kernel, k3_36, k1_15⟩
theorem cb_X0_renew : zcB zX0_renew 0 := ⟨by decide +kernel, k3_33, k1_7⟩
theorem cb_X9_renew : zcB zX9_renew 0 := ⟨by decide +kernel, k3_45, k1_9⟩
theorem cb_X8_clear : zcB zX8_clear 0 := ⟨by decide +kernel, k3_50, k1_11⟩
theorem cb_X7_renew : zcB zX7_renew 2 := ⟨by decide +kernel, k3_13, k1_5⟩
theorem cb_X11_glass : zcB zX11_glass 2 := ⟨by decide +kernel, k3_9, k1_1⟩
theorem cb_X12_layBounds : zcB zX12_layBounds 0 := ⟨by decide +kernel, k5_137, k1_13⟩
theorem cb_X12_cells : zcB zX12_cells 0 := ⟨by decide +kernel, k5_141, k1_13⟩
theorem cb_X12_glass : zcB zX12_glass 2 := ⟨by decide +kernel, k5_133, k1_13⟩
theorem cb_X7_hasCell : zcB zX7_hasCell 1 := ⟨by decide +kernel, k3_59, k1_5⟩
theorem cb_X11_air : zcB zX11_air 2 := ⟨by decide +kernel, k3_55, k1_1⟩
theorem cb_X12_isCell : zcB zX12_isCell 1 := ⟨by decide +kernel, k5_149, k1_13⟩
theorem cb_X12_air : zcB zX12_air 2 := ⟨by decide +kernel, k5_145, k1_13⟩
theorem cb_X9_addToBackgrounds : zcB zX9_addToBackgrounds 1 := ⟨by decide +kernel, k3_68, k1_9⟩
theorem cb_X11_warm : zcB zX11_warm 1 := ⟨by decide +kernel, k3_64, k1_1⟩
theorem cb_X12_held : zcB zX12_held 1 := ⟨by decide +kernel, k5_156, k1_13⟩
theorem cb_X12_warm : zcB zX12_warm 1 := ⟨by decide +kernel, k5_153, k1_13⟩
theorem cb_X11_noise : zcB zX11_noise 2 := ⟨by decide +kernel, k3_74, k1_1⟩
theorem cb_X12_noise : zcB zX12_noise 2 := ⟨by decide +kernel, k5_160, k1_13⟩
theorem cb_X11_seed : zcB zX11_seed 1 := ⟨by decide +kernel, k3_78, k1_1⟩
theorem cb_X12_seed : zcB zX12_seed 1 := ⟨by decide +kernel, k5_164, k1_13⟩
theorem cb_X11_bound : zcB zX11_bound 2 := ⟨by decide +kernel, k3_82, k1_1⟩
theorem cb_X12_isBound : zcB zX12_isBound 2 := ⟨by decide +kernel, k5_171, k1_13⟩
theorem cb_X12_bound : zcB zX12_bound 2 := ⟨by decide +kernel, k5_168, k1_13⟩
theorem cb_X9_baselinesToBackgrounds : zcB zX9_baselinesToBackgrounds 0 := ⟨by decide +kernel, k3_94, k1_9⟩
theorem cb_X11_settle : zcB zX11_settle 0 := ⟨by decide +kernel, k3_90, k1_1⟩
theorem cb_X12_settle : zcB zX12_settle 0 := ⟨by decide +kernel, k5_175, k1_13⟩
theorem cb_X0_activeLevel : zcB zX0_activeLevel 0 := ⟨by decide +kernel, k3_110, k1_7⟩
theorem cb_X0_drawBelow : zcB zX0_drawBelow 1 := ⟨by decide +kernel, k3_118, k1_7⟩
theorem cb_X0_drawNoise : zcB zX0_drawNoise 1 := ⟨by decide +kernel, k3_114, k1_7⟩
theorem cb_X9_sense : zcB zX9_sense 2 := ⟨by decide +kernel, k3_106, k1_9⟩
theorem cb_X1_neighbour : zcB zX1_neighbour 2 := ⟨by decide +kernel, k3_134, k1_6⟩
theorem cb_X1_meets : zcB zX1_meets 2 := ⟨by decide +kernel, k3_130, k1_6⟩
theorem cb_X9_quietSpread : zcB zX9_quietSpread 0 := ⟨by decide +kernel, k3_126, k1_9⟩
theorem cb_X0_activateNext : zcB zX0_activateNext 0 := ⟨by decide +kernel, k3_138, k1_7⟩
theorem cb_X3_steepest : zcB zX3_steepest 2 := ⟨by decide +kernel, k3_150, k1_10⟩
theorem cb_X3_findPeaks : zcB zX3_findPeaks 1 := ⟨by decide +kernel, k3_146, k1_10⟩
theorem cb_X3_gatherCells : zcB zX3_gatherCells 1 := ⟨by decide +kernel, k3_155, k1_10⟩
theorem cb_X3_raisePass : zcB zX3_raisePass 3 := ⟨by decide +kernel, k3_165, k1_10⟩
theorem cb_X3_findPasses : zcB zX3_findPasses 1 := ⟨by decide +kernel, k3_159, k1_10⟩
theorem cb_X3_canMerge : zcB zX3_canMerge 4 := ⟨by decide +kernel, k3_174, k1_10⟩
theorem cb_X3_merge : zcB zX3_merge 2 := ⟨by decide +kernel, k3_178, k1_10⟩
theorem cb_X3_mergeBestPair : zcB zX3_mergeBestPair 2 := ⟨by decide +kernel, k3_170, k1_10⟩
theorem cb_X3_form : zcB zX3_form 2 := ⟨by decide +kernel, k3_142, k1_10⟩
theorem cb_X8_weigh : zcB zX8_weigh 2 := ⟨by decide +kernel, k3_186, k1_11⟩
theorem cb_X8_dropLightest : zcB zX8_dropLightest 1 := ⟨by decide +kernel, k3_190, k1_11⟩
theorem cb_X8_fillRow : zcB zX8_fillRow 3 := ⟨by decide +kernel, k3_198, k1_11⟩
theorem cb_X8_numberHills : zcB zX8_numberHills 1 := ⟨by decide +kernel, k3_194, k1_11⟩
theorem cb_X8_markCells : zcB zX8_markCells 1 := ⟨by decide +kernel, k3_202, k1_11⟩
theorem cb_X8_choose : zcB zX8_choose 3 := ⟨by decide +kernel, k3_182, k1_11⟩
theorem cb_J9_abs_0f7a4 : zcB zJ9_abs_0f7a4 1 := ⟨by decide +kernel, k3_213, k1_14⟩
theorem cb_X6_weighPairs : zcB zX6_weighPairs 3 := ⟨by decide +kernel, k3_210, k1_8⟩
theorem cb_X6_withSpot : zcB zX6_withSpot 2 := ⟨by decide +kernel, k3_225, k1_8⟩
theorem cb_X6_worthOf : zcB zX6_worthOf 3 := ⟨by decide +kernel, k3_222, k1_8⟩
theorem cb_X6_bestSpot : zcB zX6_bestSpot 2 := ⟨by decide +kernel, k3_218, k1_8⟩
theorem cb_X6_solve : zcB zX6_solve 3 := ⟨by decide +kernel, k3_206, k1_8⟩
theorem cb_X4_write : zcB zX4_write 3 := ⟨by decide +kernel, k3_237, k1_4⟩
theorem cb_X10_miss : zcB zX10_miss 2 := ⟨by decide +kernel, k3_233, k1_12⟩
theorem cb_X10_takeOver : zcB zX10_takeOver 2 := ⟨by decide +kernel, k4_7, k1_12⟩
theorem cb_X10_isPalm : zcB zX10_isPalm 1 := ⟨by decide +kernel, k4_11, k1_12⟩
theorem cb_X10_move : zcB zX10_move 3 := ⟨by decide +kernel, k4_2, k1_12⟩
theorem cb_X10_follow : zcB zX10_follow 3 := ⟨by decide +kernel, k3_229, k1_12⟩
theorem cb_X10_begin : zcB zX10_begin 2 := ⟨by decide +kernel, k4_19, k1_12⟩
theorem cb_X10_beginNew : zcB zX10_beginNew 1 := ⟨by decide +kernel, k4_15, k1_12⟩
theorem cb_X9_driftBaselines : zcB zX9_driftBaselines 2 := ⟨by decide +kernel, k4_23, k1_9⟩
theorem cb_X7_runFrame : zcB zX7_runFrame 0 := ⟨by decide +kernel, k3_102, k1_5⟩
theorem cb_X11_frames : zcB zX11_frames 1 := ⟨by decide +kernel, k3_98, k1_1⟩
theorem cb_X12_eventsAll : zcB zX12_eventsAll 0 := ⟨by decide +kernel, k5_183, k1_13⟩
theorem cb_X12_feltOf : zcB zX12_feltOf 2 := ⟨by decide +kernel, k5_199, k1_13⟩
theorem cb_X12_feltAll : zcB zX12_feltAll 1 := ⟨by decide +kernel, k5_195, k1_13⟩
theorem cb_X12_draw : zcB zX12_draw 1 := ⟨by decide +kernel, k5_203, k1_13⟩
theorem cb_X12_layRaw : zcB zX12_layRaw 0 := ⟨by decide +kernel, k5_191, k1_13⟩
theorem cb_X12_isTouched : zcB zX12_isTouched 1 := ⟨by decide +kernel, k5_221, k1_13⟩
theorem cb_X12_beside : zcB zX12_beside 2 := ⟨by decide +kernel, k5_225, k1_13⟩
theorem cb_X12_isNearTouched : zcB zX12_isNearTouched 1 := ⟨by decide +kernel, k5_217, k1_13⟩
theorem cb_X12_spanOf : zcB zX12_spanOf 0 := ⟨by decide +kernel, k5_211, k1_13⟩
theorem cb_X12_higher : zcB zX12_higher 1 := ⟨by decide +kernel, k5_237, k1_13⟩
theorem cb_X12_layTops : zcB zX12_layTops 0 := ⟨by decide +kernel, k5_233, k1_13⟩
theorem cb_X12_isTop : zcB zX12_isTop 1 := ⟨by decide +kernel, k6_5, k1_13⟩
theorem cb_X12_lesser : zcB zX12_lesser 2 := ⟨by decide +kernel, k6_12, k1_13⟩
theorem cb_X12_passOf : zcB zX12_passOf 2 := ⟨by decide +kernel, k6_9, k1_13⟩
theorem cb_X12_isJoined : zcB zX12_isJoined 3 := ⟨by decide +kernel, k6_16, k1_13⟩
theorem cb_X12_joinOnce : zcB zX12_joinOnce 0 := ⟨by decide +kernel, k6_1, k1_13⟩
theorem cb_X12_layHills : zcB zX12_layHills 0 := ⟨by decide +kernel, k5_229, k1_13⟩
theorem cb_X12_isHigh : zcB zX12_isHigh 1 := ⟨by decide +kernel, k6_24, k1_13⟩
theorem cb_X12_massOf : zcB zX12_massOf 1 := ⟨by decide +kernel, k6_32, k1_13⟩
theorem cb_X12_aheadOf : zcB zX12_aheadOf 1 := ⟨by decide +kernel, k6_28, k1_13⟩
theorem cb_X12_sizeOf : zcB zX12_sizeOf 1 := ⟨by decide +kernel, k6_40, k1_13⟩
theorem cb_X12_laySpot : zcB zX12_laySpot 1 := ⟨by decide +kernel, k6_36, k1_13⟩
theorem cb_X12_laySpots : zcB zX12_laySpots 0 := ⟨by decide +kernel, k6_20, k1_13⟩
theorem cb_X12_abs : zcB zX12_abs 1 := ⟨by decide +kernel, k6_55, k1_13⟩
theorem cb_X12_isNear : zcB zX12_isNear 2 := ⟨by decide +kernel, k6_52, k1_13⟩
theorem cb_X12_pairCost : zcB zX12_pairCost 2 := ⟨by decide +kernel, k6_59, k1_13⟩
theorem cb_X12_isBetter : zcB zX12_isBetter 3 := ⟨by decide +kernel, k6_63, k1_13⟩
theorem cb_X12_layPairsOf : zcB zX12_layPairsOf 2 := ⟨by decide +kernel, k6_48, k1_13⟩
theorem cb_X12_isBestPair : zcB zX12_isBestPair 3 := ⟨by decide +kernel, k6_67, k1_13⟩
theorem cb_X12_layPairs : zcB zX12_layPairs 0 := ⟨by decide +kernel, k6_44, k1_13⟩
theorem cb_X12_lay : zcB zX12_lay 2 := ⟨by decide +kernel, k6_79, k1_13⟩
theorem cb_X12_happens : zcB zX12_happens 2 := ⟨by decide +kernel, k6_83, k1_13⟩
theorem cb_X12_follow : zcB zX12_follow 2 := ⟨by decide +kernel, k6_75, k1_13⟩
theorem cb_X12_isLost : zcB zX12_isLost 1 := ⟨by decide +kernel, k6_87, k1_13⟩
theorem cb_X12_keepAs : zcB zX12_keepAs 2 := ⟨by decide +kernel, k6_91, k1_13⟩
theorem cb_X12_followAll : zcB zX12_followAll 0 := ⟨by decide +kernel, k6_71, k1_13⟩
theorem cb_X12_beginAll : zcB zX12_beginAll 0 := ⟨by decide +kernel, k6_95, k1_13⟩
theorem cb_X12_isNearSpot : zcB zX12_isNearSpot 1 := ⟨by decide +kernel, k6_103, k1_13⟩
theorem cb_X12_drift : zcB zX12_drift 0 := ⟨by decide +kernel, k6_99, k1_13⟩
theorem cb_X12_frame : zcB zX12_frame 0 := ⟨by decide +kernel, k5_187, k1_13⟩
theorem cb_X12_frames : zcB zX12_frames 1 := ⟨by decide +kernel, k5_179, k1_13⟩
theorem cb_X2_fact : zcB zX2_fact 2 := ⟨by decide +kernel, k4_31, k1_3⟩
theorem cb_X11_finger : zcB zX11_finger 2 := ⟨by decide +kernel, k4_27, k1_1⟩
theorem cb_X12_fingerNow : zcB zX12_fingerNow 2 := ⟨by decide +kernel, k6_111, k1_13⟩
theorem cb_X12_finger : zcB zX12_finger 2 := ⟨by decide +kernel, k6_107, k1_13⟩
theorem cb_X7_cellFact : zcB zX7_cellFact 2 := ⟨by decide +kernel, k4_39, k1_5⟩
theorem cb_X11_cell : zcB zX11_cell 2 := ⟨by decide +kernel, k4_35, k1_1⟩
theorem cb_X12_cellNow : zcB zX12_cellNow 2 := ⟨by decide +kernel, k6_119, k1_13⟩
theorem cb_X12_cell : zcB zX12_cell 2 := ⟨by decide +kernel, k6_115, k1_13⟩
theorem cb_X7_fact : zcB zX7_fact 1 := ⟨by decide +kernel, k4_47, k1_5⟩
theorem cb_X11_about : zcB zX11_about 1 := ⟨by decide +kernel, k4_43, k1_1⟩
theorem cb_X12_aboutNow : zcB zX12_aboutNow 1 := ⟨by decide +kernel, k6_127, k1_13⟩
theorem cb_X12_about : zcB zX12_about 1 := ⟨by decide +kernel, k6_123, k1_13⟩
theorem cb_X7_hasSpot : zcB zX7_hasSpot 1 := ⟨by decide +kernel, k4_55, k1_5⟩
theorem cb_X11_spot : zcB zX11_spot 2 := ⟨by decide +kernel, k4_51, k1_1⟩
theorem cb_X12_spotNow : zcB zX12_spotNow 2 := ⟨by decide +kernel, k6_135, k1_13⟩
theorem cb_X12_spot : zcB zX12_spot 2 := ⟨by decide +kernel, k6_131, k1_13⟩
theorem cb_X7_hasTrack : zcB zX7_hasTrack 1 := ⟨by decide +kernel, k4_63, k1_5⟩
theorem cb_X11_track : zcB zX11_track 2 := ⟨by decide +kernel, k4_59, k1_1⟩
theorem cb_X12_isTrack : zcB zX12_isTrack 1 := ⟨by decide +kernel, k6_143, k1_13⟩
theorem cb_X12_trackNow : zcB zX12_trackNow 2 := ⟨by decide +kernel, k6_147, k1_13⟩
theorem cb_X12_track : zcB zX12_track 2 := ⟨by decide +kernel, k6_139, k1_13⟩
theorem cb_X11_as : zcB zX11_as 2 := ⟨by decide +kernel, k4_67, k1_1⟩
theorem cb_X12_as : zcB zX12_as 2 := ⟨by decide +kernel, k6_151, k1_13⟩
theorem cb_X4_kept : zcB zX4_kept 0 := ⟨by decide +kernel, k4_75, k1_4⟩
theorem cb_J9_floorMod_7cf53 : zcB zJ9_floorMod_7cf53 2 := ⟨by decide +kernel, k4_83, k1_14⟩
theorem cb_X4_fact : zcB zX4_fact 2 := ⟨by decide +kernel, k4_80, k1_4⟩
theorem cb_X11_event : zcB zX11_event 2 := ⟨by decide +kernel, k4_71, k1_1⟩
theorem cb_X12_eventNow : zcB zX12_eventNow 2 := ⟨by decide +kernel, k6_159, k1_13⟩
theorem cb_X12_event : zcB zX12_event 2 := ⟨by decide +kernel, k6_155, k1_13⟩
theorem cb_X11_count : zcB zX11_count 1 := ⟨by decide +kernel, k4_87, k1_1⟩
theorem cb_X12_howMany : zcB zX12_howMany 1 := ⟨by decide +kernel, k6_167, k1_13⟩
theorem cb_X12_count : zcB zX12_count 1 := ⟨by decide +kernel, k6_163, k1_13⟩
theorem cb_X11_events : zcB zX11_events 1 := ⟨by decide +kernel, k4_91, k1_1⟩
theorem cb_X12_events : zcB zX12_events 1 := ⟨by decide +kernel, k6_171, k1_13⟩
theorem cb_X11_hashPanelAndFingers : zcB zX11_hashPanelAndFingers 1 := ⟨by decide +kernel, k4_100, k1_1⟩
theorem cb_X11_hashCells : zcB zX11_hashCells 1 := ⟨by decide +kernel, k4_107, k1_1⟩
theorem cb_X11_hashSpots : zcB zX11_hashSpots 1 := ⟨by decide +kernel, k4_112, k1_1⟩
theorem cb_X11_hashTracks : zcB zX11_hashTracks 1 := ⟨by decide +kernel, k4_117, k1_1⟩
theorem cb_X11_hashJournal : zcB zX11_hashJournal 1 := ⟨by decide +kernel, k4_122, k1_1⟩
theorem cb_X11_digest : zcB zX11_digest 0 := ⟨by decide +kernel, k4_95, k1_1⟩
theorem cb_X12_mix : zcB zX12_mix 1 := ⟨by decide +kernel, k6_184, k1_13⟩
theorem cb_X12_mixGlass : zcB zX12_mixGlass 0 := ⟨by decide +kernel, k6_180, k1_13⟩
theorem cb_X12_digest : zcB zX12_digest 0 := ⟨by decide +kernel, k6_175, k1_13⟩
theorem zn_11_9 : (RX11, 9, yX5_init, "FeltGlass") ∈ zNm := List.mem_of_getElem? (i := 0) rfl
theorem zn_5_17 : (RX5, 17, yX2_init, "FeltGlass") ∈ zNm := List.mem_of_getElem? (i := 1) rfl
theorem zn_11_18 : (RX11, 18, yX4_init, "FeltGlass") ∈ zNm := List.mem_of_getElem? (i := 2) rfl
theorem zn_7_11 : (RX7, 11, yX1_init, "FeltGlass") ∈ zNm := List.mem_of_getElem? (i := 3) rfl
theorem zn_7_20 : (RX7, 20, yX2_init, "FeltGlass") ∈ zNm := List.mem_of_getElem? (i := 4) rfl
theorem zn_7_27 : (RX7, 27, yX0_init, "FeltGlass") ∈ zNm := List.mem_of_getElem? (i := 5) rfl
theorem zn_7_38 : (RX7, 38, yX6_init, "FeltGlass") ∈ zNm := List.mem_of_getElem? (i := 6) rfl
theorem zn_5_59 : (RX5, 59, yX11_within, "FeltGlass") ∈ zNm := List.mem_of_getElem? (i := 7) rfl
theorem zn_7_118 : (RX7, 118, yX11_within, "FeltGlass") ∈ zNm := List.mem_of_getElem? (i := 8) rfl
theorem zn_4_28 : (RX4, 28, yX11_within, "FeltGlass") ∈ zNm := List.mem_of_getElem? (i := 9) rfl
theorem fl_0_21 : zfl RX0 21 0 1 0 := ⟨_, rfl, by decide, rfl, k1_158⟩
theorem fl_0_25 : zfl RX0 25 0 2 0 := ⟨_, rfl, by decide, rfl, k1_160⟩
theorem fl_0_9 : zfl RX0 9 0 0 3 := ⟨_, rfl, by decide, rfl, k1_156⟩
theorem fl_10_11 : zfl RX10 11 10 0 3 := ⟨_, rfl, by decide, rfl, k2_76⟩
theorem fl_10_16 : zfl RX10 16 10 3 3 := ⟨_, rfl, by decide, rfl, k2_85⟩
theorem fl_10_20 : zfl RX10 20 10 4 3 := ⟨_, rfl, by decide, rfl, k2_86⟩
theorem fl_10_24 : zfl RX10 24 10 1 0 := ⟨_, rfl, by decide, rfl, k2_79⟩
theorem fl_10_32 : zfl RX10 32 8 1 3 := ⟨_, rfl, by decide, rfl, k2_28⟩
theorem fl_10_59 : zfl RX10 59 8 4 0 := ⟨_, rfl, by decide, rfl, k2_38⟩
theorem fl_10_63 : zfl RX10 63 10 2 0 := ⟨_, rfl, by decide, rfl, k2_83⟩
theorem fl_11_10 : zfl RX11 10 11 0 3 := ⟨_, rfl, by decide, rfl, k2_154⟩
theorem fl_11_104 : zfl RX11 104 9 1 3 := ⟨_, rfl, by decide, rfl, k1_198⟩
theorem fl_11_112 : zfl RX11 112 7 2 3 := ⟨_, rfl, by decide, rfl, k2_103⟩
theorem fl_11_116 : zfl RX11 116 0 0 3 := ⟨_, rfl, by decide, rfl, k1_157⟩
theorem fl_11_121 : zfl RX11 121 0 2 0 := ⟨_, rfl, by decide, rfl, k1_162⟩
theorem fl_11_130 : zfl RX11 130 7 3 3 := ⟨_, rfl, by decide, rfl, k2_105⟩
theorem fl_11_136 : zfl RX11 136 4 4 0 := ⟨_, rfl, by decide, rfl, k1_88⟩
theorem fl_11_154 : zfl RX11 154 7 5 3 := ⟨_, rfl, by decide, rfl, k2_109⟩
theorem fl_11_158 : zfl RX11 158 8 1 3 := ⟨_, rfl, by decide, rfl, k2_30⟩
theorem fl_11_167 : zfl RX11 167 7 6 3 := ⟨_, rfl, by decide, rfl, k2_111⟩
theorem fl_11_171 : zfl RX11 171 10 0 3 := ⟨_, rfl, by decide, rfl, k2_78⟩
theorem fl_11_178 : zfl RX11 178 7 8 0 := ⟨_, rfl, by decide, rfl, k2_115⟩
theorem fl_11_181 : zfl RX11 181 7 9 0 := ⟨_, rfl, by decide, rfl, k2_117⟩
theorem fl_11_184 : zfl RX11 184 10 2 0 := ⟨_, rfl, by decide, rfl, k2_84⟩
theorem fl_11_187 : zfl RX11 187 4 3 3 := ⟨_, rfl, by decide, rfl, k1_86⟩
theorem fl_11_19 : zfl RX11 19 11 2 3 := ⟨_, rfl, by decide, rfl, k2_156⟩
theorem fl_11_210 : zfl RX11 210 5 0 3 := ⟨_, rfl, by decide, rfl, k1_54⟩
theorem fl_11_228 : zfl RX11 228 8 4 0 := ⟨_, rfl, by decide, rfl, k2_39⟩
theorem fl_11_234 : zfl RX11 234 10 1 0 := ⟨_, rfl, by decide, rfl, k2_82⟩
theorem fl_11_28 : zfl RX11 28 11 1 3 := ⟨_, rfl, by decide, rfl, k2_155⟩
theorem fl_11_36 : zfl RX11 36 5 1 0 := ⟨_, rfl, by decide, rfl, k1_56⟩
theorem fl_11_44 : zfl RX11 44 7 7 1 := ⟨_, rfl, by decide, rfl, k2_113⟩
theorem fl_11_48 : zfl RX11 48 7 0 3 := ⟨_, rfl, by decide, rfl, k2_99⟩
theorem fl_11_52 : zfl RX11 52 7 1 3 := ⟨_, rfl, by decide, rfl, k2_101⟩
theorem fl_11_60 : zfl RX11 60 5 3 0 := ⟨_, rfl, by decide, rfl, k1_60⟩
theorem fl_11_63 : zfl RX11 63 5 2 3 := ⟨_, rfl, by decide, rfl, k1_58⟩
theorem fl_11_72 : zfl RX11 72 7 4 3 := ⟨_, rfl, by decide, rfl, k2_107⟩
theorem fl_11_81 : zfl RX11 81 11 3 0 := ⟨_, rfl, by decide, rfl, k2_157⟩
theorem fl_11_92 : zfl RX11 92 11 4 0 := ⟨_, rfl, by decide, rfl, k2_158⟩
theorem fl_11_95 : zfl RX11 95 1 2 0 := ⟨_, rfl, by decide, rfl, k1_123⟩
theorem fl_12_101 : zfl RX12 101 12 41 3 := ⟨_, rfl, by decide, rfl, k4_173⟩
theorem fl_12_104 : zfl RX12 104 12 53 3 := ⟨_, rfl, by decide, rfl, k4_185⟩
theorem fl_12_107 : zfl RX12 107 12 54 3 := ⟨_, rfl, by decide, rfl, k4_186⟩
theorem fl_12_110 : zfl RX12 110 12 55 3 := ⟨_, rfl, by decide, rfl, k4_187⟩
theorem fl_12_113 : zfl RX12 113 12 56 3 := ⟨_, rfl, by decide, rfl, k4_188⟩
theorem fl_12_116 : zfl RX12 116 12 2 0 := ⟨_, rfl, by decide, rfl, k4_134⟩
theorem fl_12_120 : zfl RX12 120 12 3 0 := ⟨_, rfl, by decide, rfl, k4_135⟩
theorem fl_12_127 : zfl RX12 127 12 0 0 := ⟨_, rfl, by decide, rfl, k4_132⟩
theorem fl_12_13 : zfl RX12 13 12 4 3 := ⟨_, rfl, by decide, rfl, k4_136⟩
theorem fl_12_130 : zfl RX12 130 12 47 0 := ⟨_, rfl, by decide, rfl, k4_179⟩
theorem fl_12_133 : zfl RX12 133 12 48 0 := ⟨_, rfl, by decide, rfl, k4_180⟩
theorem fl_12_140 : zfl RX12 140 12 50 0 := ⟨_, rfl, by decide, rfl, k4_182⟩
theorem fl_12_147 : zfl RX12 147 12 51 0 := ⟨_, rfl, by decide, rfl, k4_183⟩
theorem fl_12_154 : zfl RX12 154 12 52 1 := ⟨_, rfl, by decide, rfl, k4_184⟩
theorem fl_12_158 : zfl RX12 158 12 49 0 := ⟨_, rfl, by decide, rfl, k4_181⟩
theorem fl_12_16 : zfl RX12 16 12 5 3 := ⟨_, rfl, by decide, rfl, k4_137⟩
theorem fl_12_185 : zfl RX12 185 12 45 0 := ⟨_, rfl, by decide, rfl, k4_177⟩
theorem fl_12_19 : zfl RX12 19 12 6 3 := ⟨_, rfl, by decide, rfl, k4_138⟩
theorem fl_12_194 : zfl RX12 194 12 15 0 := ⟨_, rfl, by decide, rfl, k4_147⟩
theorem fl_12_197 : zfl RX12 197 12 16 0 := ⟨_, rfl, by decide, rfl, k4_148⟩
theorem fl_12_200 : zfl RX12 200 12 17 0 := ⟨_, rfl, by decide, rfl, k4_149⟩
theorem fl_12_203 : zfl RX12 203 12 18 0 := ⟨_, rfl, by decide, rfl, k4_150⟩
theorem fl_12_206 : zfl RX12 206 12 19 1 := ⟨_, rfl, by decide, rfl, k4_151⟩
theorem fl_12_209 : zfl RX12 209 12 20 0 := ⟨_, rfl, by decide, rfl, k4_152⟩
theorem fl_12_212 : zfl RX12 212 12 27 0 := ⟨_, rfl, by decide, rfl, k4_159⟩
theorem fl_12_215 : zfl RX12 215 12 46 0 := ⟨_, rfl, by decide, rfl, k4_178⟩
theorem fl_12_22 : zfl RX12 22 12 7 3 := ⟨_, rfl, by decide, rfl, k4_139⟩
theorem fl_12_25 : zfl RX12 25 12 8 3 := ⟨_, rfl, by decide, rfl, k4_140⟩
theorem fl_12_28 : zfl RX12 28 12 9 3 := ⟨_, rfl, by decide, rfl, k4_141⟩
theorem fl_12_316 : zfl RX12 316 12 37 0 := ⟨_, rfl, by decide, rfl, k4_169⟩
theorem fl_12_32 : zfl RX12 32 12 10 3 := ⟨_, rfl, by decide, rfl, k4_142⟩
theorem fl_12_334 : zfl RX12 334 12 44 0 := ⟨_, rfl, by decide, rfl, k4_176⟩
theorem fl_12_340 : zfl RX12 340 12 42 0 := ⟨_, rfl, by decide, rfl, k4_174⟩
theorem fl_12_349 : zfl RX12 349 12 43 0 := ⟨_, rfl, by decide, rfl, k4_175⟩
theorem fl_12_35 : zfl RX12 35 12 11 3 := ⟨_, rfl, by decide, rfl, k4_143⟩
theorem fl_12_38 : zfl RX12 38 12 12 3 := ⟨_, rfl, by decide, rfl, k4_144⟩
theorem fl_12_402 : zfl RX12 402 12 57 2 := ⟨_, rfl, by decide, rfl, k4_189⟩
theorem fl_12_41 : zfl RX12 41 12 13 3 := ⟨_, rfl, by decide, rfl, k4_145⟩
theorem fl_12_44 : zfl RX12 44 12 14 3 := ⟨_, rfl, by decide, rfl, k4_146⟩
theorem fl_12_47 : zfl RX12 47 12 21 3 := ⟨_, rfl, by decide, rfl, k4_153⟩
theorem fl_12_50 : zfl RX12 50 12 22 3 := ⟨_, rfl, by decide, rfl, k4_154⟩
theorem fl_12_53 : zfl RX12 53 12 23 3 := ⟨_, rfl, by decide, rfl, k4_155⟩
theorem fl_12_56 : zfl RX12 56 12 24 3 := ⟨_, rfl, by decide, rfl, k4_156⟩
theorem fl_12_59 : zfl RX12 59 12 25 3 := ⟨_, rfl, by decide, rfl, k4_157⟩
theorem fl_12_62 : zfl RX12 62 12 26 3 := ⟨_, rfl, by decide, rfl, k4_158⟩
theorem fl_12_65 : zfl RX12 65 12 28 3 := ⟨_, rfl, by decide, rfl, k4_160⟩
theorem fl_12_68 : zfl RX12 68 12 29 3 := ⟨_, rfl, by decide, rfl, k4_161⟩
theorem fl_12_7 : zfl RX12 7 12 1 3 := ⟨_, rfl, by decide, rfl, k4_133⟩
theorem fl_12_71 : zfl RX12 71 12 30 3 := ⟨_, rfl, by decide, rfl, k4_162⟩
theorem fl_12_74 : zfl RX12 74 12 31 3 := ⟨_, rfl, by decide, rfl, k4_163⟩
theorem fl_12_77 : zfl RX12 77 12 32 3 := ⟨_, rfl, by decide, rfl, k4_164⟩
theorem fl_12_80 : zfl RX12 80 12 33 3 := ⟨_, rfl, by decide, rfl, k4_165⟩
theorem fl_12_83 : zfl RX12 83 12 34 3 := ⟨_, rfl, by decide, rfl, k4_166⟩
theorem fl_12_86 : zfl RX12 86 12 35 3 := ⟨_, rfl, by decide, rfl, k4_167⟩
theorem fl_12_89 : zfl RX12 89 12 36 3 := ⟨_, rfl, by decide, rfl, k4_168⟩
theorem fl_12_92 : zfl RX12 92 12 38 3 := ⟨_, rfl, by decide, rfl, k4_170⟩
theorem fl_12_95 : zfl RX12 95 12 39 3 := ⟨_, rfl, by decide, rfl, k4_171⟩
theorem fl_12_98 : zfl RX12 98 12 40 3 := ⟨_, rfl, by decide, rfl, k4_172⟩
theorem fl_1_15 : zfl RX1 15 1 4 3 := ⟨_, rfl, by decide, rfl, k1_127⟩
theorem fl_1_18 : zfl RX1 18 1 5 3 := ⟨_, rfl, by decide, rfl, k1_130⟩
theorem fl_1_21 : zfl RX1 21 1 6 3 := ⟨_, rfl, by decide, rfl, k1_132⟩
theorem fl_1_24 : zfl RX1 24 1 0 0 := ⟨_, rfl, by decide, rfl, k1_112⟩
theorem fl_1_28 : zfl RX1 28 1 1 0 := ⟨_, rfl, by decide, rfl, k1_115⟩
theorem fl_1_9 : zfl RX1 9 1 3 3 := ⟨_, rfl, by decide, rfl, k1_124⟩
theorem fl_2_15 : zfl RX2 15 2 1 3 := ⟨_, rfl, by decide, rfl, k1_39⟩
theorem fl_2_19 : zfl RX2 19 2 2 3 := ⟨_, rfl, by decide, rfl, k1_40⟩
theorem fl_2_22 : zfl RX2 22 2 3 3 := ⟨_, rfl, by decide, rfl, k1_41⟩
theorem fl_2_9 : zfl RX2 9 2 0 3 := ⟨_, rfl, by decide, rfl, k1_37⟩
theorem fl_3_11 : zfl RX3 11 3 1 3 := ⟨_, rfl, by decide, rfl, k1_233⟩
theorem fl_3_15 : zfl RX3 15 3 2 3 := ⟨_, rfl, by decide, rfl, k1_235⟩
theorem fl_3_19 : zfl RX3 19 3 3 3 := ⟨_, rfl, by decide, rfl, k1_237⟩
theorem fl_3_22 : zfl RX3 22 3 5 3 := ⟨_, rfl, by decide, rfl, k2_1⟩
theorem fl_3_25 : zfl RX3 25 3 6 3 := ⟨_, rfl, by decide, rfl, k2_2⟩
theorem fl_3_28 : zfl RX3 28 3 0 3 := ⟨_, rfl, by decide, rfl, k1_232⟩
theorem fl_3_36 : zfl RX3 36 9 6 3 := ⟨_, rfl, by decide, rfl, k1_210⟩
theorem fl_3_45 : zfl RX3 45 9 5 3 := ⟨_, rfl, by decide, rfl, k1_207⟩
theorem fl_3_56 : zfl RX3 56 3 4 0 := ⟨_, rfl, by decide, rfl, k1_239⟩
theorem fl_3_60 : zfl RX3 60 1 2 0 := ⟨_, rfl, by decide, rfl, k1_120⟩
theorem fl_3_69 : zfl RX3 69 1 5 3 := ⟨_, rfl, by decide, rfl, k1_131⟩
theorem fl_4_15 : zfl RX4 15 4 1 3 := ⟨_, rfl, by decide, rfl, k1_83⟩
theorem fl_4_18 : zfl RX4 18 4 2 3 := ⟨_, rfl, by decide, rfl, k1_84⟩
theorem fl_4_21 : zfl RX4 21 4 3 3 := ⟨_, rfl, by decide, rfl, k1_85⟩
theorem fl_4_24 : zfl RX4 24 4 4 0 := ⟨_, rfl, by decide, rfl, k1_87⟩
theorem fl_4_9 : zfl RX4 9 4 0 3 := ⟨_, rfl, by decide, rfl, k1_82⟩
theorem fl_5_18 : zfl RX5 18 5 2 3 := ⟨_, rfl, by decide, rfl, k1_57⟩
theorem fl_5_22 : zfl RX5 22 5 1 0 := ⟨_, rfl, by decide, rfl, k1_55⟩
theorem fl_5_26 : zfl RX5 26 1 0 0 := ⟨_, rfl, by decide, rfl, k1_113⟩
theorem fl_5_31 : zfl RX5 31 5 4 0 := ⟨_, rfl, by decide, rfl, k1_61⟩
theorem fl_5_34 : zfl RX5 34 1 1 0 := ⟨_, rfl, by decide, rfl, k1_116⟩
theorem fl_5_37 : zfl RX5 37 5 5 0 := ⟨_, rfl, by decide, rfl, k1_62⟩
theorem fl_5_44 : zfl RX5 44 5 3 0 := ⟨_, rfl, by decide, rfl, k1_59⟩
theorem fl_5_63 : zfl RX5 63 2 0 3 := ⟨_, rfl, by decide, rfl, k1_38⟩
theorem fl_5_9 : zfl RX5 9 5 0 3 := ⟨_, rfl, by decide, rfl, k1_53⟩
theorem fl_6_15 : zfl RX6 15 6 1 3 := ⟨_, rfl, by decide, rfl, k1_178⟩
theorem fl_6_18 : zfl RX6 18 6 2 3 := ⟨_, rfl, by decide, rfl, k1_179⟩
theorem fl_6_21 : zfl RX6 21 8 4 0 := ⟨_, rfl, by decide, rfl, k2_36⟩
theorem fl_6_27 : zfl RX6 27 6 3 0 := ⟨_, rfl, by decide, rfl, k1_180⟩
theorem fl_6_34 : zfl RX6 34 10 1 0 := ⟨_, rfl, by decide, rfl, k2_80⟩
theorem fl_6_48 : zfl RX6 48 10 0 3 := ⟨_, rfl, by decide, rfl, k2_77⟩
theorem fl_6_52 : zfl RX6 52 8 1 3 := ⟨_, rfl, by decide, rfl, k2_29⟩
theorem fl_6_9 : zfl RX6 9 6 0 3 := ⟨_, rfl, by decide, rfl, k1_176⟩
theorem fl_7_102 : zfl RX7 102 10 1 0 := ⟨_, rfl, by decide, rfl, k2_81⟩
theorem fl_7_106 : zfl RX7 106 7 12 0 := ⟨_, rfl, by decide, rfl, k2_120⟩
theorem fl_7_109 : zfl RX7 109 7 13 1 := ⟨_, rfl, by decide, rfl, k2_121⟩
theorem fl_7_112 : zfl RX7 112 7 14 0 := ⟨_, rfl, by decide, rfl, k2_122⟩
theorem fl_7_115 : zfl RX7 115 1 2 0 := ⟨_, rfl, by decide, rfl, k1_121⟩
theorem fl_7_12 : zfl RX7 12 7 0 3 := ⟨_, rfl, by decide, rfl, k2_98⟩
theorem fl_7_122 : zfl RX7 122 8 4 0 := ⟨_, rfl, by decide, rfl, k2_37⟩
theorem fl_7_123 : zfl RX7 123 7 8 0 := ⟨_, rfl, by decide, rfl, k2_114⟩
theorem fl_7_134 : zfl RX7 134 7 9 0 := ⟨_, rfl, by decide, rfl, k2_116⟩
theorem fl_7_144 : zfl RX7 144 9 5 3 := ⟨_, rfl, by decide, rfl, k1_208⟩
theorem fl_7_155 : zfl RX7 155 6 0 3 := ⟨_, rfl, by decide, rfl, k1_177⟩
theorem fl_7_166 : zfl RX7 166 8 3 3 := ⟨_, rfl, by decide, rfl, k2_34⟩
theorem fl_7_174 : zfl RX7 174 9 1 3 := ⟨_, rfl, by decide, rfl, k1_199⟩
theorem fl_7_177 : zfl RX7 177 9 2 3 := ⟨_, rfl, by decide, rfl, k1_201⟩
theorem fl_7_180 : zfl RX7 180 9 4 3 := ⟨_, rfl, by decide, rfl, k1_205⟩
theorem fl_7_183 : zfl RX7 183 8 2 3 := ⟨_, rfl, by decide, rfl, k2_32⟩
theorem fl_7_186 : zfl RX7 186 9 3 3 := ⟨_, rfl, by decide, rfl, k1_203⟩
theorem fl_7_189 : zfl RX7 189 1 0 0 := ⟨_, rfl, by decide, rfl, k1_114⟩
theorem fl_7_192 : zfl RX7 192 1 1 0 := ⟨_, rfl, by decide, rfl, k1_117⟩
theorem fl_7_195 : zfl RX7 195 0 1 0 := ⟨_, rfl, by decide, rfl, k1_159⟩
theorem fl_7_198 : zfl RX7 198 0 2 0 := ⟨_, rfl, by decide, rfl, k1_161⟩
theorem fl_7_21 : zfl RX7 21 7 1 3 := ⟨_, rfl, by decide, rfl, k2_100⟩
theorem fl_7_28 : zfl RX7 28 7 2 3 := ⟨_, rfl, by decide, rfl, k2_102⟩
theorem fl_7_32 : zfl RX7 32 7 3 3 := ⟨_, rfl, by decide, rfl, k2_104⟩
theorem fl_7_39 : zfl RX7 39 7 11 3 := ⟨_, rfl, by decide, rfl, k2_119⟩
theorem fl_7_48 : zfl RX7 48 7 4 3 := ⟨_, rfl, by decide, rfl, k2_106⟩
theorem fl_7_55 : zfl RX7 55 7 10 3 := ⟨_, rfl, by decide, rfl, k2_118⟩
theorem fl_7_62 : zfl RX7 62 7 5 3 := ⟨_, rfl, by decide, rfl, k2_108⟩
theorem fl_7_71 : zfl RX7 71 7 6 3 := ⟨_, rfl, by decide, rfl, k2_110⟩
theorem fl_7_75 : zfl RX7 75 7 7 1 := ⟨_, rfl, by decide, rfl, k2_112⟩
theorem fl_8_11 : zfl RX8 11 8 1 3 := ⟨_, rfl, by decide, rfl, k2_27⟩
theorem fl_8_16 : zfl RX8 16 8 2 3 := ⟨_, rfl, by decide, rfl, k2_31⟩
theorem fl_8_20 : zfl RX8 20 8 3 3 := ⟨_, rfl, by decide, rfl, k2_33⟩
theorem fl_8_26 : zfl RX8 26 8 5 3 := ⟨_, rfl, by decide, rfl, k2_40⟩
theorem fl_8_29 : zfl RX8 29 8 6 3 := ⟨_, rfl, by decide, rfl, k2_41⟩
theorem fl_8_32 : zfl RX8 32 8 7 3 := ⟨_, rfl, by decide, rfl, k2_42⟩
theorem fl_8_35 : zfl RX8 35 8 8 3 := ⟨_, rfl, by decide, rfl, k2_43⟩
theorem fl_8_38 : zfl RX8 38 8 9 3 := ⟨_, rfl, by decide, rfl, k2_44⟩
theorem fl_8_41 : zfl RX8 41 8 10 3 := ⟨_, rfl, by decide, rfl, k2_45⟩
theorem fl_8_44 : zfl RX8 44 8 0 3 := ⟨_, rfl, by decide, rfl, k2_26⟩
theorem fl_8_48 : zfl RX8 48 8 4 0 := ⟨_, rfl, by decide, rfl, k2_35⟩
theorem fl_8_62 : zfl RX8 62 3 4 0 := ⟨_, rfl, by decide, rfl, k2_0⟩
theorem fl_8_63 : zfl RX8 63 3 2 3 := ⟨_, rfl, by decide, rfl, k1_236⟩
theorem fl_8_66 : zfl RX8 66 3 1 3 := ⟨_, rfl, by decide, rfl, k1_234⟩
theorem fl_8_77 : zfl RX8 77 3 3 3 := ⟨_, rfl, by decide, rfl, k1_238⟩
theorem fl_8_84 : zfl RX8 84 1 2 0 := ⟨_, rfl, by decide, rfl, k1_122⟩
theorem fl_8_89 : zfl RX8 89 1 3 3 := ⟨_, rfl, by decide, rfl, k1_126⟩
theorem fl_8_92 : zfl RX8 92 1 4 3 := ⟨_, rfl, by decide, rfl, k1_129⟩
theorem fl_9_15 : zfl RX9 15 9 2 3 := ⟨_, rfl, by decide, rfl, k1_200⟩
theorem fl_9_18 : zfl RX9 18 9 3 3 := ⟨_, rfl, by decide, rfl, k1_202⟩
theorem fl_9_21 : zfl RX9 21 9 4 3 := ⟨_, rfl, by decide, rfl, k1_204⟩
theorem fl_9_24 : zfl RX9 24 9 5 3 := ⟨_, rfl, by decide, rfl, k1_206⟩
theorem fl_9_27 : zfl RX9 27 9 6 3 := ⟨_, rfl, by decide, rfl, k1_209⟩
theorem fl_9_31 : zfl RX9 31 9 0 3 := ⟨_, rfl, by decide, rfl, k1_196⟩
theorem fl_9_41 : zfl RX9 41 1 2 0 := ⟨_, rfl, by decide, rfl, k1_119⟩
theorem fl_9_47 : zfl RX9 47 1 3 3 := ⟨_, rfl, by decide, rfl, k1_125⟩
theorem fl_9_50 : zfl RX9 50 1 4 3 := ⟨_, rfl, by decide, rfl, k1_128⟩
theorem fl_9_9 : zfl RX9 9 9 1 3 := ⟨_, rfl, by decide, rfl, k1_197⟩
theorem pl_0_21 : zpl RX0 21 0 1 .int false := ⟨_, rfl, by decide, rfl, rfl, (fun h => by cases h), k1_158⟩
theorem pl_0_25 : zpl RX0 25 0 2 .int false := ⟨_, rfl, by decide, rfl, rfl, (fun h => by cases h), k1_160⟩
theorem pl_10_24 : zpl RX10 24 10 1 .int false := ⟨_, rfl, by decide, rfl, rfl, (fun h => by cases h), k2_79⟩
theorem pl_10_63 : zpl RX10 63 10 2 .int false := ⟨_, rfl, by decide, rfl, rfl, (fun h => by cases h), k2_83⟩
theorem pl_11_121 : zpl RX11 121 0 2 .int false := ⟨_, rfl, by decide, rfl, rfl, (fun h => by cases h), k1_162⟩
theorem pl_11_36 : zpl RX11 36 5 1 .int false := ⟨_, rfl, by decide, rfl, rfl, (fun h => by cases h), k1_56⟩
theorem pl_11_81 : zpl RX11 81 11 3 .int false := ⟨_, rfl, by decide, rfl, rfl, (fun h => by cases h), k2_157⟩
theorem pl_11_92 : zpl RX11 92 11 4 .int false := ⟨_, rfl, by decide, rfl, rfl, (fun h => by cases h), k2_158⟩
theorem pl_12_116 : zpl RX12 116 12 2 .int false := ⟨_, rfl, by decide, rfl, rfl, (fun h => by cases h), k4_134⟩
theorem pl_12_120 : zpl RX12 120 12 3 .int false := ⟨_, rfl, by decide, rfl, rfl, (fun h => by cases h), k4_135⟩
theorem pl_12_127 : zpl RX12 127 12 0 .int false := ⟨_, rfl, by decide, rfl, rfl, (fun h => by cases h), k4_132⟩
theorem pl_12_130 : zpl RX12 130 12 47 .int false := ⟨_, rfl, by decide, rfl, rfl, (fun h => by cases h), k4_179⟩
theorem pl_12_133 : zpl RX12 133 12 48 .int false := ⟨_, rfl, by decide, rfl, rfl, (fun h => by cases h), k4_180⟩
theorem pl_12_140 : zpl RX12 140 12 50 .int false := ⟨_, rfl, by decide, rfl, rfl, (fun h => by cases h), k4_182⟩
theorem pl_12_147 : zpl RX12 147 12 51 .int false := ⟨_, rfl, by decide, rfl, rfl, (fun h => by cases h), k4_183⟩
theorem pl_12_154 : zpl RX12 154 12 52 .boolean false := ⟨_, rfl, by decide, rfl, rfl, (fun h => by cases h), k4_184⟩
theorem pl_12_158 : zpl RX12 158 12 49 .int false := ⟨_, rfl, by decide, rfl, rfl, (fun h => by cases h), k4_181⟩
theorem pl_12_185 : zpl RX12 185 12 45 .int false := ⟨_, rfl, by decide, rfl, rfl, (fun h => by cases h), k4_177⟩
theorem pl_12_194 : zpl RX12 194 12 15 .int false := ⟨_, rfl, by decide, rfl, rfl, (fun h => by cases h), k4_147⟩
theorem pl_12_197 : zpl RX12 197 12 16 .int false := ⟨_, rfl, by decide, rfl, rfl, (fun h => by cases h), k4_148⟩
theorem pl_12_200 : zpl RX12 200 12 17 .int false := ⟨_, rfl, by decide, rfl, rfl, (fun h => by cases h), k4_149⟩
theorem pl_12_203 : zpl RX12 203 12 18 .int false := ⟨_, rfl, by decide, rfl, rfl, (fun h => by cases h), k4_150⟩
theorem pl_12_206 : zpl RX12 206 12 19 .boolean false := ⟨_, rfl, by decide, rfl, rfl, (fun h => by cases h), k4_151⟩
theorem pl_12_209 : zpl RX12 209 12 20 .int false := ⟨_, rfl, by decide, rfl, rfl, (fun h => by cases h), k4_152⟩
theorem pl_12_212 : zpl RX12 212 12 27 .int false := ⟨_, rfl, by decide, rfl, rfl, (fun h => by cases h), k4_159⟩
theorem pl_12_215 : zpl RX12 215 12 46 .int false := ⟨_, rfl, by decide, rfl, rfl, (fun h => by cases h), k4_178⟩
theorem pl_12_316 : zpl RX12 316 12 37 .int false := ⟨_, rfl, by decide, rfl, rfl, (fun h => by cases h), k4_169⟩
theorem pl_12_334 : zpl RX12 334 12 44 .int false := ⟨_, rfl, by decide, rfl, rfl, (fun h => by cases h), k4_176⟩
theorem pl_12_340 : zpl RX12 340 12 42 .int false := ⟨_, rfl, by decide, rfl, rfl, (fun h => by cases h), k4_174⟩
theorem pl_12_349 : zpl RX12 349 12 43 .int false := ⟨_, rfl, by decide, rfl, rfl, (fun h => by cases h), k4_175⟩
theorem pl_12_402 : zpl RX12 402 12 57 .long false := ⟨_, rfl, by decide, rfl, rfl, (fun h => by cases h), k4_189⟩
theorem pl_1_24 : zpl RX1 24 1 0 .int false := ⟨_, rfl, by decide, rfl, rfl, (fun h => by cases h), k1_112⟩
theorem pl_1_28 : zpl RX1 28 1 1 .int false := ⟨_, rfl, by decide, rfl, rfl, (fun h => by cases h), k1_115⟩
theorem pl_1_31 : zpl RX1 31 1 2 .int false := ⟨_, rfl, by decide, rfl, rfl, (fun h => by cases h), k1_118⟩
theorem pl_3_56 : zpl RX3 56 3 4 .int false := ⟨_, rfl, by decide, rfl, rfl, (fun h => by cases h), k1_239⟩
theorem pl_4_24 : zpl RX4 24 4 4 .int false := ⟨_, rfl, by decide, rfl, rfl, (fun h => by cases h), k1_87⟩
theorem pl_5_22 : zpl RX5 22 5 1 .int false := ⟨_, rfl, by decide, rfl, rfl, (fun h => by cases h), k1_55⟩
theorem pl_5_31 : zpl RX5 31 5 4 .int false := ⟨_, rfl, by decide, rfl, rfl, (fun h => by cases h), k1_61⟩
theorem pl_5_37 : zpl RX5 37 5 5 .int false := ⟨_, rfl, by decide, rfl, rfl, (fun h => by cases h), k1_62⟩
theorem pl_5_44 : zpl RX5 44 5 3 .int false := ⟨_, rfl, by decide, rfl, rfl, (fun h => by cases h), k1_59⟩
theorem pl_6_27 : zpl RX6 27 6 3 .int false := ⟨_, rfl, by decide, rfl, rfl, (fun h => by cases h), k1_180⟩
theorem pl_7_102 : zpl RX7 102 10 1 .int false := ⟨_, rfl, by decide, rfl, rfl, (fun h => by cases h), k2_81⟩
theorem pl_7_106 : zpl RX7 106 7 12 .int false := ⟨_, rfl, by decide, rfl, rfl, (fun h => by cases h), k2_120⟩
theorem pl_7_109 : zpl RX7 109 7 13 .boolean false := ⟨_, rfl, by decide, rfl, rfl, (fun h => by cases h), k2_121⟩
theorem pl_7_112 : zpl RX7 112 7 14 .int false := ⟨_, rfl, by decide, rfl, rfl, (fun h => by cases h), k2_122⟩
theorem pl_7_123 : zpl RX7 123 7 8 .int false := ⟨_, rfl, by decide, rfl, rfl, (fun h => by cases h), k2_114⟩
theorem pl_7_134 : zpl RX7 134 7 9 .int false := ⟨_, rfl, by decide, rfl, rfl, (fun h => by cases h), k2_116⟩
theorem pl_7_75 : zpl RX7 75 7 7 .boolean false := ⟨_, rfl, by decide, rfl, rfl, (fun h => by cases h), k2_112⟩
theorem pl_8_48 : zpl RX8 48 8 4 .int false := ⟨_, rfl, by decide, rfl, rfl, (fun h => by cases h), k2_35⟩
theorem al_3 : Int32.ofNat 3 = 3 := rfl
theorem al_64 : Int32.ofNat 64 = 64 := rfl
theorem al_256 : Int32.ofNat 256 = 256 := rfl
theorem kb_m99 : (Int8.ofInt (-99)).toInt32 = (-99) := by decide
theorem kb_6 : (Int8.ofInt 6).toInt32 = 6 := by decide
theorem kb_7 : (Int8.ofInt 7).toInt32 = 7 := by decide
theorem kb_8 : (Int8.ofInt 8).toInt32 = 8 := by decide
theorem kb_9 : (Int8.ofInt 9).toInt32 = 9 := by decide
theorem kb_10 : (Int8.ofInt 10).toInt32 = 10 := by decide
theorem kb_12 : (Int8.ofInt 12).toInt32 = 12 := by decide
theorem kb_16 : (Int8.ofInt 16).toInt32 = 16 := by decide
theorem kb_20 : (Int8.ofInt 20).toInt32 = 20 := by decide
theorem kb_24 : (Int8.ofInt 24).toInt32 = 24 := by decide
theorem kb_30 : (Int8.ofInt 30).toInt32 = 30 := by decide
theorem kb_32 : (Int8.ofInt 32).toInt32 = 32 := by decide
theorem kb_40 : (Int8.ofInt 40).toInt32 = 40 := by decide
theorem kb_42 : (Int8.ofInt 42).toInt32 = 42 := by decide
theorem kb_44 : (Int8.ofInt 44).toInt32 = 44 := by decide
theorem kb_45 : (Int8.ofInt 45).toInt32 = 45 := by decide
theorem kb_48 : (Int8.ofInt 48).toInt32 = 48 := by decide
theorem kb_50 : (Int8.ofInt 50).toInt32 = 50 := by decide
theorem kb_52 : (Int8.ofInt 52).toInt32 = 52 := by decide
theorem kb_57 : (Int8.ofInt 57).toInt32 = 57 := by decide
theorem kb_59 : (Int8.ofInt 59).toInt32 = 59 := by decide
theorem kb_60 : (Int8.ofInt 60).toInt32 = 60 := by decide
theorem kb_64 : (Int8.ofInt 64).toInt32 = 64 := by decide
theorem kb_80 : (Int8.ofInt 80).toInt32 = 80 := by decide
theorem kb_99 : (Int8.ofInt 99).toInt32 = 99 := by decide
theorem kb_100 : (Int8.ofInt 100).toInt32 = 100 := by decide
theorem kb_126 : (Int8.ofInt 126).toInt32 = 126 := by decide
theorem kb_127 : (Int8.ofInt 127).toInt32 = 127 := by decide
theorem ki_m1 : Int32.ofInt (-1) = (-1) := by decide
theorem ki_0 : Int32.ofInt 0 = 0 := by decide
theorem ki_1 : Int32.ofInt 1 = 1 := by decide
theorem ki_2 : Int32.ofInt 2 = 2 := by decide
theorem ki_3 : Int32.ofInt 3 = 3 := by decide
theorem ki_4 : Int32.ofInt 4 = 4 := by decide
theorem ki_5 : Int32.ofInt 5 = 5 := by decide
theorem nz_3 : ¬ (3 : Int32) = 0 := by decide
theorem nz_4 : ¬ (4 : Int32) = 0 := by decide
theorem nz_6 : ¬ (6 : Int32) = 0 := by decide
theorem nz_9 : ¬ (9 : Int32) = 0 := by decide
theorem nz_12 : ¬ (12 : Int32) = 0 := by decide
theorem nz_65536 : ¬ (65536 : Int32) = 0 := by decide
theorem kc_m10004 : (Int16.ofInt (-10004)).toInt32 = (-10004) := by decide
theorem kc_m10003 : (Int16.ofInt (-10003)).toInt32 = (-10003) := by decide
theorem kc_m10002 : (Int16.ofInt (-10002)).toInt32 = (-10002) := by decide
theorem kc_m10001 : (Int16.ofInt (-10001)).toInt32 = (-10001) := by decide
theorem kc_200 : (Int16.ofInt 200).toInt32 = 200 := by decide
theorem kc_250 : (Int16.ofInt 250).toInt32 = 250 := by decide
theorem kc_999 : (Int16.ofInt 999).toInt32 = 999 := by decide
theorem ti_0 : (0 : Int32).toInt = (0 : Int) + ((0 : Nat) : Int) := by decide
theorem ti_1 : (1 : Int32).toInt = (0 : Int) + ((1 : Nat) : Int) := by decide
theorem ti_2 : (2 : Int32).toInt = (0 : Int) + ((2 : Nat) : Int) := by decide
theorem ti_3 : (3 : Int32).toInt = (0 : Int) + ((3 : Nat) : Int) := by decide
theorem ti_4 : (4 : Int32).toInt = (0 : Int) + ((4 : Nat) : Int) := by decide
theorem ti_5 : (5 : Int32).toInt = (0 : Int) + ((5 : Nat) : Int) := by decide
theorem ti_6 : (6 : Int32).toInt = (0 : Int) + ((6 : Nat) : Int) := by decide
theorem ti_7 : (7 : Int32).toInt = (0 : Int) + ((7 : Nat) : Int) := by decide
theorem ti_8 : (8 : Int32).toInt = (0 : Int) + ((8 : Nat) : Int) := by decide
theorem ti_9 : (9 : Int32).toInt = (0 : Int) + ((9 : Nat) : Int) := by decide
theorem ti_10 : (10 : Int32).toInt = (0 : Int) + ((10 : Nat) : Int) := by decide
theorem ti_11 : (11 : Int32).toInt = (0 : Int) + ((11 : Nat) : Int) := by decide
theorem ti_12 : (12 : Int32).toInt = (0 : Int) + ((12 : Nat) : Int) := by decide
theorem ti_13 : (13 : Int32).toInt = (0 : Int) + ((13 : Nat) : Int) := by decide
theorem ti_14 : (14 : Int32).toInt = (0 : Int) + ((14 : Nat) : Int) := by decide
theorem ti_15 : (15 : Int32).toInt = (0 : Int) + ((15 : Nat) : Int) := by decide
theorem ti_16 : (16 : Int32).toInt = (0 : Int) + ((16 : Nat) : Int) := by decide
theorem ti_17 : (17 : Int32).toInt = (0 : Int) + ((17 : Nat) : Int) := by decide
theorem ti_18 : (18 : Int32).toInt = (0 : Int) + ((18 : Nat) : Int) := by decide
theorem ti_19 : (19 : Int32).toInt = (0 : Int) + ((19 : Nat) : Int) := by decide
theorem ti_20 : (20 : Int32).toInt = (0 : Int) + ((20 : Nat) : Int) := by decide
theorem ti_21 : (21 : Int32).toInt = (0 : Int) + ((21 : Nat) : Int) := by decide
theorem vi_0_6 : vp_in 0 6 := by unfold vp_in; decide
theorem vi_0_9 : vp_in 0 9 := by unfold vp_in; decide
theorem vi_0_12 : vp_in 0 12 := by unfold vp_in; decide
theorem vi_1_5 : vp_in 1 5 := by unfold vp_in; decide
theorem vi_1_6 : vp_in 1 6 := by unfold vp_in; decide
theorem vi_1_9 : vp_in 1 9 := by unfold vp_in; decide
theorem vi_2_5 : vp_in 2 5 := by unfold vp_in; decide
theorem vi_2_6 : vp_in 2 6 := by unfold vp_in; decide
theorem vi_2_9 : vp_in 2 9 := by unfold vp_in; decide
theorem vi_3_5 : vp_in 3 5 := by unfold vp_in; decide
theorem vi_3_6 : vp_in 3 6 := by unfold vp_in; decide
theorem vi_3_9 : vp_in 3 9 := by unfold vp_in; decide
theorem vi_4_5 : vp_in 4 5 := by unfold vp_in; decide
theorem vi_4_6 : vp_in 4 6 := by unfold vp_in; decide
theorem vi_4_9 : vp_in 4 9 := by unfold vp_in; decide
theorem vi_5_6 : vp_in 5 6 := by unfold vp_in; decide
theorem vi_5_9 : vp_in 5 9 := by unfold vp_in; decide
theorem vi_6_9 : vp_in 6 9 := by unfold vp_in; decide
theorem vi_7_9 : vp_in 7 9 := by unfold vp_in; decide
theorem vi_8_9 : vp_in 8 9 := by unfold vp_in; decide
theorem ix_0 : (0 : Int32).toNatClampNeg = 0 := by decide
theorem ix_1 : (1 : Int32).toNatClampNeg = 1 := by decide
theorem ix_2 : (2 : Int32).toNatClampNeg = 2 := by decide
theorem ix_3 : (3 : Int32).toNatClampNeg = 3 := by decide
theorem ix_4 : (4 : Int32).toNatClampNeg = 4 := by decide
theorem ix_5 : (5 : Int32).toNatClampNeg = 5 := by decide
theorem ix_6 : (6 : Int32).toNatClampNeg = 6 := by decide
theorem ix_7 : (7 : Int32).toNatClampNeg = 7 := by decide
theorem ix_8 : (8 : Int32).toNatClampNeg = 8 := by decide
theorem zts_out3 {x : Int32} (h0 : ¬ x = 0) (h1 : ¬ x = 1) (h2 : ¬ x = 2) : x.toInt < 0 ∨ (2 : Int) < x.toInt := by
  rcases (show x.toInt < 0 ∨ (2 : Int) < x.toInt ∨ x.toInt = 0 ∨ x.toInt = 1 ∨ x.toInt = 2 by omega) with h | h | h | h | h
  · exact Or.inl h
  · exact Or.inr h
  · exact absurd (Int32.toInt_inj.mp (h.trans (by decide : (0 : Int) = (0 : Int32).toInt))) h0
  · exact absurd (Int32.toInt_inj.mp (h.trans (by decide : (1 : Int) = (1 : Int32).toInt))) h1
  · exact absurd (Int32.toInt_inj.mp (h.trans (by decide : (2 : Int) = (2 : Int32).toInt))) h2
theorem zts_out5 {x : Int32} (h0 : ¬ x = 0) (h1 : ¬ x = 1) (h2 : ¬ x = 2) (h3 : ¬ x = 3) (h4 : ¬ x = 4) : x.toInt < 0 ∨ (4 : Int) < x.toInt := by
  rcases (show x.toInt < 0 ∨ (4 : Int) < x.toInt ∨ x.toInt = 0 ∨ x.toInt = 1 ∨ x.toInt = 2 ∨ x.toInt = 3 ∨ x.toInt = 4 by omega) with h | h | h | h | h | h | h
  · exact Or.inl h
  · exact Or.inr h
  · exact absurd (Int32.toInt_inj.mp (h.trans (by decide : (0 : Int) = (0 : Int32).toInt))) h0
  · exact absurd (Int32.toInt_inj.mp (h.trans (by decide : (1 : Int) = (1 : Int32).toInt))) h1
  · exact absurd (Int32.toInt_inj.mp (h.trans (by decide : (2 : Int) = (2 : Int32).toInt))) h2
  · exact absurd (Int32.toInt_inj.mp (h.trans (by decide : (3 : Int) = (3 : Int32).toInt))) h3
  · exact absurd (Int32.toInt_inj.mp (h.trans (by decide : (4 : Int) = (4 : Int32).toInt))) h4
theorem zts_out6 {x : Int32} (h0 : ¬ x = 0) (h1 : ¬ x = 1) (h2 : ¬ x = 2) (h3 : ¬ x = 3) (h4 : ¬ x = 4) (h5 : ¬ x = 5) : x.toInt < 0 ∨ (5 : Int) < x.toInt := by
  rcases (show x.toInt < 0 ∨ (5 : Int) < x.toInt ∨ x.toInt = 0 ∨ x.toInt = 1 ∨ x.toInt = 2 ∨ x.toInt = 3 ∨ x.toInt = 4 ∨ x.toInt = 5 by omega) with h | h | h | h | h | h | h | h
  · exact Or.inl h
  · exact Or.inr h
  · exact absurd (Int32.toInt_inj.mp (h.trans (by decide : (0 : Int) = (0 : Int32).toInt))) h0
  · exact absurd (Int32.toInt_inj.mp (h.trans (by decide : (1 : Int) = (1 : Int32).toInt))) h1
  · exact absurd (Int32.toInt_inj.mp (h.trans (by decide : (2 : Int) = (2 : Int32).toInt))) h2
  · exact absurd (Int32.toInt_inj.mp (h.trans (by decide : (3 : Int) = (3 : Int32).toInt))) h3
  · exact absurd (Int32.toInt_inj.mp (h.trans (by decide : (4 : Int) = (4 : Int32).toInt))) h4
  · exact absurd (Int32.toInt_inj.mp (h.trans (by decide : (5 : Int) = (5 : Int32).toInt))) h5
theorem zts_out8 {x : Int32} (h0 : ¬ x = 0) (h1 : ¬ x = 1) (h2 : ¬ x = 2) (h3 : ¬ x = 3) (h4 : ¬ x = 4) (h5 : ¬ x = 5) (h6 : ¬ x = 6) (h7 : ¬ x = 7) : x.toInt < 0 ∨ (7 : Int) < x.toInt := by
  rcases (show x.toInt < 0 ∨ (7 : Int) < x.toInt ∨ x.toInt = 0 ∨ x.toInt = 1 ∨ x.toInt = 2 ∨ x.toInt = 3 ∨ x.toInt = 4 ∨ x.toInt = 5 ∨ x.toInt = 6 ∨ x.toInt = 7 by omega) with h | h | h | h | h | h | h | h | h | h
  · exact Or.inl h
  · exact Or.inr h
  · exact absurd (Int32.toInt_inj.mp (h.trans (by decide : (0 : Int) = (0 : Int32).toInt))) h0
  · exact absurd (Int32.toInt_inj.mp (h.trans (by decide : (1 : Int) = (1 : Int32).toInt))) h1
  · exact absurd (Int32.toInt_inj.mp (h.trans (by decide : (2 : Int) = (2 : Int32).toInt))) h2
  · exact absurd (Int32.toInt_inj.mp (h.trans (by decide : (3 : Int) = (3 : Int32).toInt))) h3
  · exact absurd (Int32.toInt_inj.mp (h.trans (by decide : (4 : Int) = (4 : Int32).toInt))) h4
  · exact absurd (Int32.toInt_inj.mp (h.trans (by decide : (5 : Int) = (5 : Int32).toInt))) h5
  · exact absurd (Int32.toInt_inj.mp (h.trans (by decide : (6 : Int) = (6 : Int32).toInt))) h6
  · exact absurd (Int32.toInt_inj.mp (h.trans (by decide : (7 : Int) = (7 : Int32).toInt))) h7
theorem zts_out9 {x : Int32} (h0 : ¬ x = 0) (h1 : ¬ x = 1) (h2 : ¬ x = 2) (h3 : ¬ x = 3) (h4 : ¬ x = 4) (h5 : ¬ x = 5) (h6 : ¬ x = 6) (h7 : ¬ x = 7) (h8 : ¬ x = 8) : x.toInt < 0 ∨ (8 : Int) < x.toInt := by
  rcases (show x.toInt < 0 ∨ (8 : Int) < x.toInt ∨ x.toInt = 0 ∨ x.toInt = 1 ∨ x.toInt = 2 ∨ x.toInt = 3 ∨ x.toInt = 4 ∨ x.toInt = 5 ∨ x.toInt = 6 ∨ x.toInt = 7 ∨ x.toInt = 8 by omega) with h | h | h | h | h | h | h | h | h | h | h
  · exact Or.inl h
  · exact Or.inr h
  · exact absurd (Int32.toInt_inj.mp (h.trans (by decide : (0 : Int) = (0 : Int32).toInt))) h0
  · exact absurd (Int32.toInt_inj.mp (h.trans (by decide : (1 : Int) = (1 : Int32).toInt))) h1
  · exact absurd (Int32.toInt_inj.mp (h.trans (by decide : (2 : Int) = (2 : Int32).toInt))) h2
  · exact absurd (Int32.toInt_inj.mp (h.trans (by decide : (3 : Int) = (3 : Int32).toInt))) h3
  · exact absurd (Int32.toInt_inj.mp (h.trans (by decide : (4 : Int) = (4 : Int32).toInt))) h4
  · exact absurd (Int32.toInt_inj.mp (h.trans (by decide : (5 : Int) = (5 : Int32).toInt))) h5
  · exact absurd (Int32.toInt_inj.mp (h.trans (by decide : (6 : Int) = (6 : Int32).toInt))) h6
  · exact absurd (Int32.toInt_inj.mp (h.trans (by decide : (7 : Int) = (7 : Int32).toInt))) h7
  · exact absurd (Int32.toInt_inj.mp (h.trans (by decide : (8 : Int) = (8 : Int32).toInt))) h8
theorem zts_out22 {x : Int32} (h0 : ¬ x = 0) (h1 : ¬ x = 1) (h2 : ¬ x = 2) (h3 : ¬ x = 3) (h4 : ¬ x = 4) (h5 : ¬ x = 5) (h6 : ¬ x = 6) (h7 : ¬ x = 7) (h8 : ¬ x = 8) (h9 : ¬ x = 9) (h10 : ¬ x = 10) (h11 : ¬ x = 11) (h12 : ¬ x = 12) (h13 : ¬ x = 13) (h14 : ¬ x = 14) (h15 : ¬ x = 15) (h16 : ¬ x = 16) (h17 : ¬ x = 17) (h18 : ¬ x = 18) (h19 : ¬ x = 19) (h20 : ¬ x = 20) (h21 : ¬ x = 21) : x.toInt < 0 ∨ (21 : Int) < x.toInt := by
  rcases (show x.toInt < 0 ∨ (21 : Int) < x.toInt ∨ x.toInt = 0 ∨ x.toInt = 1 ∨ x.toInt = 2 ∨ x.toInt = 3 ∨ x.toInt = 4 ∨ x.toInt = 5 ∨ x.toInt = 6 ∨ x.toInt = 7 ∨ x.toInt = 8 ∨ x.toInt = 9 ∨ x.toInt = 10 ∨ x.toInt = 11 ∨ x.toInt = 12 ∨ x.toInt = 13 ∨ x.toInt = 14 ∨ x.toInt = 15 ∨ x.toInt = 16 ∨ x.toInt = 17 ∨ x.toInt = 18 ∨ x.toInt = 19 ∨ x.toInt = 20 ∨ x.toInt = 21 by omega) with h | h | h | h | h | h | h | h | h | h | h | h | h | h | h | h | h | h | h | h | h | h | h | h
  · exact Or.inl h
  · exact Or.inr h
  · exact absurd (Int32.toInt_inj.mp (h.trans (by decide : (0 : Int) = (0 : Int32).toInt))) h0
  · exact absurd (Int32.toInt_inj.mp (h.trans (by decide : (1 : Int) = (1 : Int32).toInt))) h1
  · exact absurd (Int32.toInt_inj.mp (h.trans (by decide : (2 : Int) = (2 : Int32).toInt))) h2
  · exact absurd (Int32.toInt_inj.mp (h.trans (by decide : (3 : Int) = (3 : Int32).toInt))) h3
  · exact absurd (Int32.toInt_inj.mp (h.trans (by decide : (4 : Int) = (4 : Int32).toInt))) h4
  · exact absurd (Int32.toInt_inj.mp (h.trans (by decide : (5 : Int) = (5 : Int32).toInt))) h5
  · exact absurd (Int32.toInt_inj.mp (h.trans (by decide : (6 : Int) = (6 : Int32).toInt))) h6
  · exact absurd (Int32.toInt_inj.mp (h.trans (by decide : (7 : Int) = (7 : Int32).toInt))) h7
  · exact absurd (Int32.toInt_inj.mp (h.trans (by decide : (8 : Int) = (8 : Int32).toInt))) h8
  · exact absurd (Int32.toInt_inj.mp (h.trans (by decide : (9 : Int) = (9 : Int32).toInt))) h9
  · exact absurd (Int32.toInt_inj.mp (h.trans (by decide : (10 : Int) = (10 : Int32).toInt))) h10
  · exact absurd (Int32.toInt_inj.mp (h.trans (by decide : (11 : Int) = (11 : Int32).toInt))) h11
  · exact absurd (Int32.toInt_inj.mp (h.trans (by decide : (12 : Int) = (12 : Int32).toInt))) h12
  · exact absurd (Int32.toInt_inj.mp (h.trans (by decide : (13 : Int) = (13 : Int32).toInt))) h13
  · exact absurd (Int32.toInt_inj.mp (h.trans (by decide : (14 : Int) = (14 : Int32).toInt))) h14
  · exact absurd (Int32.toInt_inj.mp (h.trans (by decide : (15 : Int) = (15 : Int32).toInt))) h15
  · exact absurd (Int32.toInt_inj.mp (h.trans (by decide : (16 : Int) = (16 : Int32).toInt))) h16
  · exact absurd (Int32.toInt_inj.mp (h.trans (by decide : (17 : Int) = (17 : Int32).toInt))) h17
  · exact absurd (Int32.toInt_inj.mp (h.trans (by decide : (18 : Int) = (18 : Int32).toInt))) h18
  · exact absurd (Int32.toInt_inj.mp (h.trans (by decide : (19 : Int) = (19 : Int32).toInt))) h19
  · exact absurd (Int32.toInt_inj.mp (h.trans (by decide : (20 : Int) = (20 : Int32).toInt))) h20
  · exact absurd (Int32.toInt_inj.mp (h.trans (by decide : (21 : Int) = (21 : Int32).toInt))) h21
