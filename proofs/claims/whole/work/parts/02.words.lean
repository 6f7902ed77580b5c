/-! ===== the words that the walks use, by their places in the tables ===== -/
def zALL : List Cond := lw_tbl.filter goodWord
theorem zALL_in : ∀ w ∈ zALL, w ∈ lw_tbl := fun w h => (List.mem_filter.mp h).1
theorem zALL_good : ∀ w ∈ zALL, goodWord w = true := fun w h => (List.mem_filter.mp h).2
theorem zTm {w : Cond} (h : w ∈ tables_1) (g : goodWord w = true) : w ∈ zALL := List.mem_filter.mpr ⟨List.mem_append_right _ h, g⟩
theorem zT1 {w : Cond} (i : Nat) (h : tables_1_1[i]? = some w) (g : goodWord w = true) : w ∈ zALL := zTm (List.mem_append_left _ (List.mem_of_getElem? h)) g
theorem zU1 {w : Cond} (i : Nat) (h : tables_1_1[i]? = some w) : w ∈ lw_tbl := List.mem_append_right _ (List.mem_append_left _ (List.mem_of_getElem? h))
theorem zT2 {w : Cond} (i : Nat) (h : tables_1_2[i]? = some w) (g : goodWord w = true) : w ∈ zALL := zTm (List.mem_append_right _ (List.mem_append_left _ (List.mem_of_getElem? h))) g
theorem zU2 {w : Cond} (i : Nat) (h : tables_1_2[i]? = some w) : w ∈ lw_tbl := List.mem_append_right _ (List.mem_append_right _ (List.mem_append_left _ (List.mem_of_getElem? h)))
theorem zT3 {w : Cond} (i : Nat) (h : tables_1_3[i]? = some w) (g : goodWord w = true) : w ∈ zALL := zTm (List.mem_append_right _ (List.mem_append_right _ (List.mem_append_left _ (List.mem_of_getElem? h)))) g
theorem zU3 {w : Cond} (i : Nat) (h : tables_1_3[i]? = some w) : w ∈ lw_tbl := List.mem_append_right _ (List.mem_append_right _ (List.mem_append_right _ (List.mem_append_left _ (List.mem_of_getElem? h))))
theorem zT4 {w : Cond} (i : Nat) (h : tables_1_4[i]? = some w) (g : goodWord w = true) : w ∈ zALL := zTm (List.mem_append_right _ (List.mem_append_right _ (List.mem_append_right _ (List.mem_append_left _ (List.mem_of_getElem? h))))) g
theorem zU4 {w : Cond} (i : Nat) (h : tables_1_4[i]? = some w) : w ∈ lw_tbl := List.mem_append_right _ (List.mem_append_right _ (List.mem_append_right _ (List.mem_append_right _ (List.mem_append_left _ (List.mem_of_getElem? h)))))
theorem zT5 {w : Cond} (i : Nat) (h : tables_1_5[i]? = some w) (g : goodWord w = true) : w ∈ zALL := zTm (List.mem_append_right _ (List.mem_append_right _ (List.mem_append_right _ (List.mem_append_right _ (List.mem_append_left _ (List.mem_of_getElem? h)))))) g
theorem zU5 {w : Cond} (i : Nat) (h : tables_1_5[i]? = some w) : w ∈ lw_tbl := List.mem_append_right _ (List.mem_append_right _ (List.mem_append_right _ (List.mem_append_right _ (List.mem_append_right _ (List.mem_append_left _ (List.mem_of_getElem? h))))))
theorem zT6 {w : Cond} (i : Nat) (h : tables_1_6[i]? = some w) (g : goodWord w = true) : w ∈ zALL := zTm (List.mem_append_right _ (List.mem_append_right _ (List.mem_append_right _ (List.mem_append_right _ (List.mem_append_right _ (List.mem_of_getElem? h)))))) g
theorem zU6 {w : Cond} (i : Nat) (h : tables_1_6[i]? = some w) : w ∈ lw_tbl := List.mem_append_right _ (List.mem_append_right _ (List.mem_append_right _ (List.mem_append_right _ (List.mem_append_right _ (List.mem_append_right _ (List.mem_of_getElem? h))))))
theorem zTs {q : MethodName × Nat} (i : Nat) (h : lw_privs[i]? = some q) : Cond.selects q.1.cls q.1 q.1 ∈ zALL := List.mem_filter.mpr ⟨List.mem_append_left _ (List.mem_map.mpr ⟨q, List.mem_of_getElem? h, rfl⟩), rfl⟩
theorem k1_0 : Cond.initialized "FeltGlassLaw" ∈ zALL := zT1 0 rfl rfl
theorem k1_1 : Cond.initialized "FeltGlass" ∈ zALL := zT1 1 rfl rfl
theorem k1_2 : Cond.initialized "FeltGlass$Page" ∈ zALL := zT1 2 rfl rfl
theorem k1_3 : Cond.initialized "FeltGlass$Hand" ∈ zALL := zT1 3 rfl rfl
theorem k1_4 : Cond.initialized "FeltGlass$Journal" ∈ zALL := zT1 4 rfl rfl
theorem k1_5 : Cond.initialized "FeltGlass$Panel" ∈ zALL := zT1 5 rfl rfl
theorem k1_6 : Cond.initialized "FeltGlass$Grid" ∈ zALL := zT1 6 rfl rfl
theorem k1_7 : Cond.initialized "FeltGlass$Drives" ∈ zALL := zT1 7 rfl rfl
theorem k1_8 : Cond.initialized "FeltGlass$Pairing" ∈ zALL := zT1 8 rfl rfl
theorem k1_9 : Cond.initialized "FeltGlass$Surface" ∈ zALL := zT1 9 rfl rfl
theorem k1_10 : Cond.initialized "FeltGlass$Hills" ∈ zALL := zT1 10 rfl rfl
theorem k1_11 : Cond.initialized "FeltGlass$Spots" ∈ zALL := zT1 11 rfl rfl
theorem k1_12 : Cond.initialized "FeltGlass$Tracks" ∈ zALL := zT1 12 rfl rfl
theorem k1_13 : Cond.initialized "FeltGlassModel" ∈ zALL := zT1 13 rfl rfl
theorem k1_14 : Cond.initialized "java/lang/Math" ∈ zALL := zT1 14 rfl rfl
theorem k1_15 : Cond.initialized "java/util/Arrays" ∈ zALL := zT1 15 rfl rfl
theorem k1_16 : Cond.initialized "java/lang/System" ∈ zALL := zT1 16 rfl rfl
theorem k1_17 : Cond.classLink "FeltGlassLaw" 7 "FeltGlass" ∈ zALL := zT1 17 rfl rfl
theorem k1_18 : Cond.instantiable "FeltGlass" 5 ∈ zALL := zT1 18 rfl rfl
theorem k1_19 : Cond.methodLink "FeltGlassLaw" 9 yX11_init ∈ zALL := zT1 19 rfl rfl
theorem k1_20 : Cond.instanceMethod yX11_init ∈ zALL := zT1 20 rfl rfl
theorem k1_21 : Cond.code yX11_init prog_1_method_1_code 1 none ∈ zALL := zT1 21 rfl rfl
theorem k1_22 : Cond.methodLink "FeltGlass" 1 objectInit ∈ zALL := zT1 22 rfl rfl
theorem k1_23 : Cond.instanceMethod objectInit ∈ zALL := zT1 23 rfl rfl
theorem k1_24 : Cond.code objectInit object_method_1_code 1 none ∈ zALL := zT1 24 rfl rfl
theorem k1_25 : Cond.classLink "FeltGlass" 7 "FeltGlass$Page" ∈ zALL := zT1 25 rfl rfl
theorem k1_26 : Cond.instantiable "FeltGlass$Page" 6 ∈ zALL := zT1 26 rfl rfl
theorem k1_28 : Cond.instanceMethod yX5_init ∈ zALL := zT1 28 rfl rfl
theorem k1_29 : Cond.code yX5_init prog_7_method_1_code 1 none ∈ zALL := zT1 29 rfl rfl
theorem k1_30 : Cond.methodLink "FeltGlass$Page" 3 objectInit ∈ zALL := zT1 30 rfl rfl
theorem k1_31 : Cond.classLink "FeltGlass$Page" 15 "FeltGlass$Hand" ∈ zALL := zT1 31 rfl rfl
theorem k1_32 : Cond.instantiable "FeltGlass$Hand" 4 ∈ zALL := zT1 32 rfl rfl
theorem k1_34 : Cond.instanceMethod yX2_init ∈ zALL := zT1 34 rfl rfl
theorem k1_35 : Cond.code yX2_init prog_4_method_1_code 1 none ∈ zALL := zT1 35 rfl rfl
theorem k1_36 : Cond.methodLink "FeltGlass$Hand" 3 objectInit ∈ zALL := zT1 36 rfl rfl
theorem k1_37 : Cond.fieldLink "FeltGlass$Hand" 9 "FeltGlass$Hand" "on" "[Z" ∈ zALL := zT1 37 rfl rfl
theorem k1_38 : Cond.fieldLink "FeltGlass$Page" 63 "FeltGlass$Hand" "on" "[Z" ∈ zALL := zT1 38 rfl rfl
theorem k1_39 : Cond.fieldLink "FeltGlass$Hand" 15 "FeltGlass$Hand" "u" "[I" ∈ zALL := zT1 39 rfl rfl
theorem k1_40 : Cond.fieldLink "FeltGlass$Hand" 19 "FeltGlass$Hand" "v" "[I" ∈ zALL := zT1 40 rfl rfl
theorem k1_41 : Cond.fieldLink "FeltGlass$Hand" 22 "FeltGlass$Hand" "power" "[I" ∈ zALL := zT1 41 rfl rfl
theorem k1_51 : Cond.arrayClass .int ∈ zALL := zT1 51 rfl rfl
theorem k1_52 : Cond.arrayClass .boolean ∈ zALL := zT1 52 rfl rfl
theorem k1_53 : Cond.fieldLink "FeltGlass$Page" 9 "FeltGlass$Page" "sign" "[I" ∈ zALL := zT1 53 rfl rfl
theorem k1_54 : Cond.fieldLink "FeltGlass" 210 "FeltGlass$Page" "sign" "[I" ∈ zALL := zT1 54 rfl rfl
theorem k1_55 : Cond.fieldLink "FeltGlass$Page" 22 "FeltGlass$Page" "length" "I" ∈ zALL := zT1 55 rfl rfl
theorem k1_56 : Cond.fieldLink "FeltGlass" 36 "FeltGlass$Page" "length" "I" ∈ zALL := zT1 56 rfl rfl
theorem k1_57 : Cond.fieldLink "FeltGlass$Page" 18 "FeltGlass$Page" "draft" "LFeltGlass$Hand;" ∈ zALL := zT1 57 rfl rfl
theorem k1_58 : Cond.fieldLink "FeltGlass" 63 "FeltGlass$Page" "draft" "LFeltGlass$Hand;" ∈ zALL := zT1 58 rfl rfl
theorem k1_59 : Cond.fieldLink "FeltGlass$Page" 44 "FeltGlass$Page" "at" "I" ∈ zALL := zT1 59 rfl rfl
theorem k1_60 : Cond.fieldLink "FeltGlass" 60 "FeltGlass$Page" "at" "I" ∈ zALL := zT1 60 rfl rfl
theorem k1_61 : Cond.fieldLink "FeltGlass$Page" 31 "FeltGlass$Page" "mostU" "I" ∈ zALL := zT1 61 rfl rfl
theorem k1_62 : Cond.fieldLink "FeltGlass$Page" 37 "FeltGlass$Page" "mostV" "I" ∈ zALL := zT1 62 rfl rfl
theorem k1_76 : Cond.classLink "FeltGlass" 16 "FeltGlass$Journal" ∈ zALL := zT1 76 rfl rfl
theorem k1_77 : Cond.instantiable "FeltGlass$Journal" 5 ∈ zALL := zT1 77 rfl rfl
theorem k1_79 : Cond.instanceMethod yX4_init ∈ zALL := zT1 79 rfl rfl
theorem k1_80 : Cond.code yX4_init prog_6_method_1_code 1 none ∈ zALL := zT1 80 rfl rfl
theorem k1_81 : Cond.methodLink "FeltGlass$Journal" 3 objectInit ∈ zALL := zT1 81 rfl rfl
theorem k1_82 : Cond.fieldLink "FeltGlass$Journal" 9 "FeltGlass$Journal" "sort" "[I" ∈ zALL := zT1 82 rfl rfl
theorem k1_83 : Cond.fieldLink "FeltGlass$Journal" 15 "FeltGlass$Journal" "track" "[I" ∈ zALL := zT1 83 rfl rfl
theorem k1_84 : Cond.fieldLink "FeltGlass$Journal" 18 "FeltGlass$Journal" "frame" "[I" ∈ zALL := zT1 84 rfl rfl
theorem k1_85 : Cond.fieldLink "FeltGlass$Journal" 21 "FeltGlass$Journal" "occurred" "[I" ∈ zALL := zT1 85 rfl rfl
theorem k1_86 : Cond.fieldLink "FeltGlass" 187 "FeltGlass$Journal" "occurred" "[I" ∈ zALL := zT1 86 rfl rfl
theorem k1_87 : Cond.fieldLink "FeltGlass$Journal" 24 "FeltGlass$Journal" "written" "I" ∈ zALL := zT1 87 rfl rfl
theorem k1_88 : Cond.fieldLink "FeltGlass" 136 "FeltGlass$Journal" "written" "I" ∈ zALL := zT1 88 rfl rfl
theorem k1_100 : Cond.classLink "FeltGlass" 23 "FeltGlass$Panel" ∈ zALL := zT1 100 rfl rfl
theorem k1_101 : Cond.instantiable "FeltGlass$Panel" 15 ∈ zALL := zT1 101 rfl rfl
theorem k1_102 : Cond.methodLink "FeltGlass" 25 yX7_init ∈ zALL := zT1 102 rfl rfl
theorem k1_103 : Cond.instanceMethod yX7_init ∈ zALL := zT1 103 rfl rfl
theorem k1_104 : Cond.code yX7_init prog_9_method_1_code 2 none ∈ zALL := zT1 104 rfl rfl
theorem k1_105 : Cond.methodLink "FeltGlass$Panel" 3 objectInit ∈ zALL := zT1 105 rfl rfl
theorem k1_106 : Cond.classLink "FeltGlass$Panel" 9 "FeltGlass$Grid" ∈ zALL := zT1 106 rfl rfl
theorem k1_107 : Cond.instantiable "FeltGlass$Grid" 7 ∈ zALL := zT1 107 rfl rfl
theorem k1_109 : Cond.instanceMethod yX1_init ∈ zALL := zT1 109 rfl rfl
theorem k1_110 : Cond.code yX1_init prog_3_method_1_code 1 none ∈ zALL := zT1 110 rfl rfl
theorem k1_111 : Cond.methodLink "FeltGlass$Grid" 3 objectInit ∈ zALL := zT1 111 rfl rfl
theorem k1_112 : Cond.fieldLink "FeltGlass$Grid" 24 "FeltGlass$Grid" "wide" "I" ∈ zALL := zT1 112 rfl rfl
theorem k1_113 : Cond.fieldLink "FeltGlass$Page" 26 "FeltGlass$Grid" "wide" "I" ∈ zALL := zT1 113 rfl rfl
theorem k1_114 : Cond.fieldLink "FeltGlass$Panel" 189 "FeltGlass$Grid" "wide" "I" ∈ zALL := zT1 114 rfl rfl
theorem k1_115 : Cond.fieldLink "FeltGlass$Grid" 28 "FeltGlass$Grid" "high" "I" ∈ zALL := zT1 115 rfl rfl
theorem k1_116 : Cond.fieldLink "FeltGlass$Page" 34 "FeltGlass$Grid" "high" "I" ∈ zALL := zT1 116 rfl rfl
theorem k1_117 : Cond.fieldLink "FeltGlass$Panel" 192 "FeltGlass$Grid" "high" "I" ∈ zALL := zT1 117 rfl rfl
theorem k1_118 : Cond.fieldLink "FeltGlass$Grid" 31 "FeltGlass$Grid" "cells" "I" ∈ zALL := zT1 118 rfl rfl
theorem k1_119 : Cond.fieldLink "FeltGlass$Surface" 41 "FeltGlass$Grid" "cells" "I" ∈ zALL := zT1 119 rfl rfl
theorem k1_120 : Cond.fieldLink "FeltGlass$Hills" 60 "FeltGlass$Grid" "cells" "I" ∈ zALL := zT1 120 rfl rfl
theorem k1_121 : Cond.fieldLink "FeltGlass$Panel" 115 "FeltGlass$Grid" "cells" "I" ∈ zALL := zT1 121 rfl rfl
theorem k1_122 : Cond.fieldLink "FeltGlass$Spots" 84 "FeltGlass$Grid" "cells" "I" ∈ zALL := zT1 122 rfl rfl
theorem k1_123 : Cond.fieldLink "FeltGlass" 95 "FeltGlass$Grid" "cells" "I" ∈ zALL := zT1 123 rfl rfl
theorem k1_124 : Cond.fieldLink "FeltGlass$Grid" 9 "FeltGlass$Grid" "column" "[I" ∈ zALL := zT1 124 rfl rfl
theorem k1_125 : Cond.fieldLink "FeltGlass$Surface" 47 "FeltGlass$Grid" "column" "[I" ∈ zALL := zT1 125 rfl rfl
theorem k1_126 : Cond.fieldLink "FeltGlass$Spots" 89 "FeltGlass$Grid" "column" "[I" ∈ zALL := zT1 126 rfl rfl
theorem k1_127 : Cond.fieldLink "FeltGlass$Grid" 15 "FeltGlass$Grid" "row" "[I" ∈ zALL := zT1 127 rfl rfl
theorem k1_128 : Cond.fieldLink "FeltGlass$Surface" 50 "FeltGlass$Grid" "row" "[I" ∈ zALL := zT1 128 rfl rfl
theorem k1_129 : Cond.fieldLink "FeltGlass$Spots" 92 "FeltGlass$Grid" "row" "[I" ∈ zALL := zT1 129 rfl rfl
theorem k1_130 : Cond.fieldLink "FeltGlass$Grid" 18 "FeltGlass$Grid" "aroundCount" "[I" ∈ zALL := zT1 130 rfl rfl
theorem k1_131 : Cond.fieldLink "FeltGlass$Hills" 69 "FeltGlass$Grid" "aroundCount" "[I" ∈ zALL := zT1 131 rfl rfl
theorem k1_132 : Cond.fieldLink "FeltGlass$Grid" 21 "FeltGlass$Grid" "around" "[I" ∈ zALL := zT1 132 rfl rfl
theorem k1_148 : Cond.classLink "FeltGlass$Panel" 18 "FeltGlass$Hand" ∈ zALL := zT1 148 rfl rfl
theorem k1_150 : Cond.classLink "FeltGlass$Panel" 25 "FeltGlass$Drives" ∈ zALL := zT1 150 rfl rfl
theorem k1_151 : Cond.instantiable "FeltGlass$Drives" 3 ∈ zALL := zT1 151 rfl rfl
theorem k1_153 : Cond.instanceMethod yX0_init ∈ zALL := zT1 153 rfl rfl
theorem k1_154 : Cond.code yX0_init prog_2_method_1_code 1 none ∈ zALL := zT1 154 rfl rfl
theorem k1_155 : Cond.methodLink "FeltGlass$Drives" 3 objectInit ∈ zALL := zT1 155 rfl rfl
theorem k1_156 : Cond.fieldLink "FeltGlass$Drives" 9 "FeltGlass$Drives" "level" "[I" ∈ zALL := zT1 156 rfl rfl
theorem k1_157 : Cond.fieldLink "FeltGlass" 116 "FeltGlass$Drives" "level" "[I" ∈ zALL := zT1 157 rfl rfl
theorem k1_158 : Cond.fieldLink "FeltGlass$Drives" 21 "FeltGlass$Drives" "active" "I" ∈ zALL := zT1 158 rfl rfl
theorem k1_159 : Cond.fieldLink "FeltGlass$Panel" 195 "FeltGlass$Drives" "active" "I" ∈ zALL := zT1 159 rfl rfl
theorem k1_160 : Cond.fieldLink "FeltGlass$Drives" 25 "FeltGlass$Drives" "seed" "I" ∈ zALL := zT1 160 rfl rfl
theorem k1_161 : Cond.fieldLink "FeltGlass$Panel" 198 "FeltGlass$Drives" "seed" "I" ∈ zALL := zT1 161 rfl rfl
theorem k1_162 : Cond.fieldLink "FeltGlass" 121 "FeltGlass$Drives" "seed" "I" ∈ zALL := zT1 162 rfl rfl
theorem k1_170 : Cond.classLink "FeltGlass$Panel" 36 "FeltGlass$Pairing" ∈ zALL := zT1 170 rfl rfl
theorem k1_171 : Cond.instantiable "FeltGlass$Pairing" 4 ∈ zALL := zT1 171 rfl rfl
theorem k1_173 : Cond.instanceMethod yX6_init ∈ zALL := zT1 173 rfl rfl
theorem k1_174 : Cond.code yX6_init prog_8_method_1_code 1 none ∈ zALL := zT1 174 rfl rfl
theorem k1_175 : Cond.methodLink "FeltGlass$Pairing" 3 objectInit ∈ zALL := zT1 175 rfl rfl
theorem k1_176 : Cond.fieldLink "FeltGlass$Pairing" 9 "FeltGlass$Pairing" "spotFor" "[I" ∈ zALL := zT1 176 rfl rfl
theorem k1_177 : Cond.fieldLink "FeltGlass$Panel" 155 "FeltGlass$Pairing" "spotFor" "[I" ∈ zALL := zT1 177 rfl rfl
theorem k1_178 : Cond.fieldLink "FeltGlass$Pairing" 15 "FeltGlass$Pairing" "worth" "[I" ∈ zALL := zT1 178 rfl rfl
theorem k1_179 : Cond.fieldLink "FeltGlass$Pairing" 18 "FeltGlass$Pairing" "best" "[I" ∈ zALL := zT1 179 rfl rfl
theorem k1_180 : Cond.fieldLink "FeltGlass$Pairing" 27 "FeltGlass$Pairing" "spotCount" "I" ∈ zALL := zT1 180 rfl rfl
theorem k1_190 : Cond.classLink "FeltGlass$Panel" 43 "FeltGlass$Surface" ∈ zALL := zT1 190 rfl rfl
theorem k1_191 : Cond.instantiable "FeltGlass$Surface" 7 ∈ zALL := zT1 191 rfl rfl
theorem k1_192 : Cond.methodLink "FeltGlass$Panel" 45 yX9_init ∈ zALL := zT1 192 rfl rfl
theorem k1_193 : Cond.instanceMethod yX9_init ∈ zALL := zT1 193 rfl rfl
theorem k1_194 : Cond.code yX9_init prog_11_method_1_code 2 none ∈ zALL := zT1 194 rfl rfl
theorem k1_195 : Cond.methodLink "FeltGlass$Surface" 3 objectInit ∈ zALL := zT1 195 rfl rfl
theorem k1_196 : Cond.fieldLink "FeltGlass$Surface" 31 "FeltGlass$Surface" "grid" "LFeltGlass$Grid;" ∈ zALL := zT1 196 rfl rfl
theorem k1_197 : Cond.fieldLink "FeltGlass$Surface" 9 "FeltGlass$Surface" "background" "[I" ∈ zALL := zT1 197 rfl rfl
theorem k1_198 : Cond.fieldLink "FeltGlass" 104 "FeltGlass$Surface" "background" "[I" ∈ zALL := zT1 198 rfl rfl
theorem k1_199 : Cond.fieldLink "FeltGlass$Panel" 174 "FeltGlass$Surface" "background" "[I" ∈ zALL := zT1 199 rfl rfl
theorem k1_200 : Cond.fieldLink "FeltGlass$Surface" 15 "FeltGlass$Surface" "baseline" "[I" ∈ zALL := zT1 200 rfl rfl
theorem k1_201 : Cond.fieldLink "FeltGlass$Panel" 177 "FeltGlass$Surface" "baseline" "[I" ∈ zALL := zT1 201 rfl rfl
theorem k1_202 : Cond.fieldLink "FeltGlass$Surface" 18 "FeltGlass$Surface" "sensed" "[I" ∈ zALL := zT1 202 rfl rfl
theorem k1_203 : Cond.fieldLink "FeltGlass$Panel" 186 "FeltGlass$Surface" "sensed" "[I" ∈ zALL := zT1 203 rfl rfl
theorem k1_204 : Cond.fieldLink "FeltGlass$Surface" 21 "FeltGlass$Surface" "raw" "[I" ∈ zALL := zT1 204 rfl rfl
theorem k1_205 : Cond.fieldLink "FeltGlass$Panel" 180 "FeltGlass$Surface" "raw" "[I" ∈ zALL := zT1 205 rfl rfl
theorem k1_206 : Cond.fieldLink "FeltGlass$Surface" 24 "FeltGlass$Surface" "delta" "[I" ∈ zALL := zT1 206 rfl rfl
theorem k1_207 : Cond.fieldLink "FeltGlass$Hills" 45 "FeltGlass$Surface" "delta" "[I" ∈ zALL := zT1 207 rfl rfl
theorem k1_208 : Cond.fieldLink "FeltGlass$Panel" 144 "FeltGlass$Surface" "delta" "[I" ∈ zALL := zT1 208 rfl rfl
theorem k1_209 : Cond.fieldLink "FeltGlass$Surface" 27 "FeltGlass$Surface" "touched" "[Z" ∈ zALL := zT1 209 rfl rfl
theorem k1_210 : Cond.fieldLink "FeltGlass$Hills" 36 "FeltGlass$Surface" "touched" "[Z" ∈ zALL := zT1 210 rfl rfl
theorem k1_226 : Cond.classLink "FeltGlass$Panel" 52 "FeltGlass$Hills" ∈ zALL := zT1 226 rfl rfl
theorem k1_227 : Cond.instantiable "FeltGlass$Hills" 7 ∈ zALL := zT1 227 rfl rfl
theorem k1_228 : Cond.methodLink "FeltGlass$Panel" 54 yX3_init ∈ zALL := zT1 228 rfl rfl
theorem k1_229 : Cond.instanceMethod yX3_init ∈ zALL := zT1 229 rfl rfl
theorem k1_230 : Cond.code yX3_init prog_5_method_1_code 2 none ∈ zALL := zT1 230 rfl rfl
theorem k1_231 : Cond.methodLink "FeltGlass$Hills" 3 objectInit ∈ zALL := zT1 231 rfl rfl
theorem k1_232 : Cond.fieldLink "FeltGlass$Hills" 28 "FeltGlass$Hills" "grid" "LFeltGlass$Grid;" ∈ zALL := zT1 232 rfl rfl
theorem k1_233 : Cond.fieldLink "FeltGlass$Hills" 11 "FeltGlass$Hills" "peak" "[I" ∈ zALL := zT1 233 rfl rfl
theorem k1_234 : Cond.fieldLink "FeltGlass$Spots" 66 "FeltGlass$Hills" "peak" "[I" ∈ zALL := zT1 234 rfl rfl
theorem k1_235 : Cond.fieldLink "FeltGlass$Hills" 15 "FeltGlass$Hills" "alive" "[Z" ∈ zALL := zT1 235 rfl rfl
theorem k1_236 : Cond.fieldLink "FeltGlass$Spots" 63 "FeltGlass$Hills" "alive" "[Z" ∈ zALL := zT1 236 rfl rfl
theorem k1_237 : Cond.fieldLink "FeltGlass$Hills" 19 "FeltGlass$Hills" "hillOf" "[I" ∈ zALL := zT1 237 rfl rfl
theorem k1_238 : Cond.fieldLink "FeltGlass$Spots" 77 "FeltGlass$Hills" "hillOf" "[I" ∈ zALL := zT1 238 rfl rfl
theorem k1_239 : Cond.fieldLink "FeltGlass$Hills" 56 "FeltGlass$Hills" "size" "I" ∈ zALL := zT1 239 rfl rfl
theorem k2_0 : Cond.fieldLink "FeltGlass$Spots" 62 "FeltGlass$Hills" "size" "I" ∈ zALL := zT2 0 rfl rfl
theorem k2_1 : Cond.fieldLink "FeltGlass$Hills" 22 "FeltGlass$Hills" "uphill" "[I" ∈ zALL := zT2 1 rfl rfl
theorem k2_2 : Cond.fieldLink "FeltGlass$Hills" 25 "FeltGlass$Hills" "pass" "[I" ∈ zALL := zT2 2 rfl rfl
theorem k2_18 : Cond.classLink "FeltGlass$Panel" 59 "FeltGlass$Spots" ∈ zALL := zT2 18 rfl rfl
theorem k2_19 : Cond.instantiable "FeltGlass$Spots" 11 ∈ zALL := zT2 19 rfl rfl
theorem k2_20 : Cond.methodLink "FeltGlass$Panel" 61 yX8_init ∈ zALL := zT2 20 rfl rfl
theorem k2_21 : Cond.instanceMethod yX8_init ∈ zALL := zT2 21 rfl rfl
theorem k2_22 : Cond.code yX8_init prog_10_method_1_code 2 none ∈ zALL := zT2 22 rfl rfl
theorem k2_23 : Cond.methodLink "FeltGlass$Spots" 3 objectInit ∈ zALL := zT2 23 rfl rfl
theorem k2_24 : Cond.classLink "FeltGlass$Spots" 9 "[[I" ∈ zALL := zT2 24 rfl rfl
theorem k2_26 : Cond.fieldLink "FeltGlass$Spots" 44 "FeltGlass$Spots" "grid" "LFeltGlass$Grid;" ∈ zALL := zT2 26 rfl rfl
theorem k2_27 : Cond.fieldLink "FeltGlass$Spots" 11 "FeltGlass$Spots" "row" "[[I" ∈ zALL := zT2 27 rfl rfl
theorem k2_28 : Cond.fieldLink "FeltGlass$Tracks" 32 "FeltGlass$Spots" "row" "[[I" ∈ zALL := zT2 28 rfl rfl
theorem k2_29 : Cond.fieldLink "FeltGlass$Pairing" 52 "FeltGlass$Spots" "row" "[[I" ∈ zALL := zT2 29 rfl rfl
theorem k2_30 : Cond.fieldLink "FeltGlass" 158 "FeltGlass$Spots" "row" "[[I" ∈ zALL := zT2 30 rfl rfl
theorem k2_31 : Cond.fieldLink "FeltGlass$Spots" 16 "FeltGlass$Spots" "spotOf" "[I" ∈ zALL := zT2 31 rfl rfl
theorem k2_32 : Cond.fieldLink "FeltGlass$Panel" 183 "FeltGlass$Spots" "spotOf" "[I" ∈ zALL := zT2 32 rfl rfl
theorem k2_33 : Cond.fieldLink "FeltGlass$Spots" 20 "FeltGlass$Spots" "inSpot" "[Z" ∈ zALL := zT2 33 rfl rfl
theorem k2_34 : Cond.fieldLink "FeltGlass$Panel" 166 "FeltGlass$Spots" "inSpot" "[Z" ∈ zALL := zT2 34 rfl rfl
theorem k2_35 : Cond.fieldLink "FeltGlass$Spots" 48 "FeltGlass$Spots" "size" "I" ∈ zALL := zT2 35 rfl rfl
theorem k2_36 : Cond.fieldLink "FeltGlass$Pairing" 21 "FeltGlass$Spots" "size" "I" ∈ zALL := zT2 36 rfl rfl
theorem k2_37 : Cond.fieldLink "FeltGlass$Panel" 122 "FeltGlass$Spots" "size" "I" ∈ zALL := zT2 37 rfl rfl
theorem k2_38 : Cond.fieldLink "FeltGlass$Tracks" 59 "FeltGlass$Spots" "size" "I" ∈ zALL := zT2 38 rfl rfl
theorem k2_39 : Cond.fieldLink "FeltGlass" 228 "FeltGlass$Spots" "size" "I" ∈ zALL := zT2 39 rfl rfl
theorem k2_40 : Cond.fieldLink "FeltGlass$Spots" 26 "FeltGlass$Spots" "chosen" "[Z" ∈ zALL := zT2 40 rfl rfl
theorem k2_41 : Cond.fieldLink "FeltGlass$Spots" 29 "FeltGlass$Spots" "spotOfHill" "[I" ∈ zALL := zT2 41 rfl rfl
theorem k2_42 : Cond.fieldLink "FeltGlass$Spots" 32 "FeltGlass$Spots" "cellsOf" "[I" ∈ zALL := zT2 42 rfl rfl
theorem k2_43 : Cond.fieldLink "FeltGlass$Spots" 35 "FeltGlass$Spots" "massOf" "[I" ∈ zALL := zT2 43 rfl rfl
theorem k2_44 : Cond.fieldLink "FeltGlass$Spots" 38 "FeltGlass$Spots" "columnsOf" "[I" ∈ zALL := zT2 44 rfl rfl
theorem k2_45 : Cond.fieldLink "FeltGlass$Spots" 41 "FeltGlass$Spots" "rowsOf" "[I" ∈ zALL := zT2 45 rfl rfl
theorem k2_69 : Cond.classLink "FeltGlass$Panel" 66 "FeltGlass$Tracks" ∈ zALL := zT2 69 rfl rfl
theorem k2_70 : Cond.instantiable "FeltGlass$Tracks" 5 ∈ zALL := zT2 70 rfl rfl
theorem k2_71 : Cond.methodLink "FeltGlass$Panel" 68 yX10_init ∈ zALL := zT2 71 rfl rfl
theorem k2_72 : Cond.instanceMethod yX10_init ∈ zALL := zT2 72 rfl rfl
theorem k2_73 : Cond.code yX10_init prog_12_method_1_code 3 none ∈ zALL := zT2 73 rfl rfl
theorem k2_74 : Cond.methodLink "FeltGlass$Tracks" 3 objectInit ∈ zALL := zT2 74 rfl rfl
theorem k2_75 : Cond.classLink "FeltGlass$Tracks" 9 "[[I" ∈ zALL := zT2 75 rfl rfl
theorem k2_76 : Cond.fieldLink "FeltGlass$Tracks" 11 "FeltGlass$Tracks" "row" "[[I" ∈ zALL := zT2 76 rfl rfl
theorem k2_77 : Cond.fieldLink "FeltGlass$Pairing" 48 "FeltGlass$Tracks" "row" "[[I" ∈ zALL := zT2 77 rfl rfl
theorem k2_78 : Cond.fieldLink "FeltGlass" 171 "FeltGlass$Tracks" "row" "[[I" ∈ zALL := zT2 78 rfl rfl
theorem k2_79 : Cond.fieldLink "FeltGlass$Tracks" 24 "FeltGlass$Tracks" "size" "I" ∈ zALL := zT2 79 rfl rfl
theorem k2_80 : Cond.fieldLink "FeltGlass$Pairing" 34 "FeltGlass$Tracks" "size" "I" ∈ zALL := zT2 80 rfl rfl
theorem k2_81 : Cond.fieldLink "FeltGlass$Panel" 102 "FeltGlass$Tracks" "size" "I" ∈ zALL := zT2 81 rfl rfl
theorem k2_82 : Cond.fieldLink "FeltGlass" 234 "FeltGlass$Tracks" "size" "I" ∈ zALL := zT2 82 rfl rfl
theorem k2_83 : Cond.fieldLink "FeltGlass$Tracks" 63 "FeltGlass$Tracks" "begunEver" "I" ∈ zALL := zT2 83 rfl rfl
theorem k2_84 : Cond.fieldLink "FeltGlass" 184 "FeltGlass$Tracks" "begunEver" "I" ∈ zALL := zT2 84 rfl rfl
theorem k2_85 : Cond.fieldLink "FeltGlass$Tracks" 16 "FeltGlass$Tracks" "settings" "[I" ∈ zALL := zT2 85 rfl rfl
theorem k2_86 : Cond.fieldLink "FeltGlass$Tracks" 20 "FeltGlass$Tracks" "journal" "LFeltGlass$Journal;" ∈ zALL := zT2 86 rfl rfl
theorem k2_98 : Cond.fieldLink "FeltGlass$Panel" 12 "FeltGlass$Panel" "grid" "LFeltGlass$Grid;" ∈ zALL := zT2 98 rfl rfl
theorem k2_99 : Cond.fieldLink "FeltGlass" 48 "FeltGlass$Panel" "grid" "LFeltGlass$Grid;" ∈ zALL := zT2 99 rfl rfl
theorem k2_100 : Cond.fieldLink "FeltGlass$Panel" 21 "FeltGlass$Panel" "hand" "LFeltGlass$Hand;" ∈ zALL := zT2 100 rfl rfl
theorem k2_101 : Cond.fieldLink "FeltGlass" 52 "FeltGlass$Panel" "hand" "LFeltGlass$Hand;" ∈ zALL := zT2 101 rfl rfl
theorem k2_102 : Cond.fieldLink "FeltGlass$Panel" 28 "FeltGlass$Panel" "drives" "LFeltGlass$Drives;" ∈ zALL := zT2 102 rfl rfl
theorem k2_103 : Cond.fieldLink "FeltGlass" 112 "FeltGlass$Panel" "drives" "LFeltGlass$Drives;" ∈ zALL := zT2 103 rfl rfl
theorem k2_104 : Cond.fieldLink "FeltGlass$Panel" 32 "FeltGlass$Panel" "settings" "[I" ∈ zALL := zT2 104 rfl rfl
theorem k2_105 : Cond.fieldLink "FeltGlass" 130 "FeltGlass$Panel" "settings" "[I" ∈ zALL := zT2 105 rfl rfl
theorem k2_106 : Cond.fieldLink "FeltGlass$Panel" 48 "FeltGlass$Panel" "surface" "LFeltGlass$Surface;" ∈ zALL := zT2 106 rfl rfl
theorem k2_107 : Cond.fieldLink "FeltGlass" 72 "FeltGlass$Panel" "surface" "LFeltGlass$Surface;" ∈ zALL := zT2 107 rfl rfl
theorem k2_108 : Cond.fieldLink "FeltGlass$Panel" 62 "FeltGlass$Panel" "spots" "LFeltGlass$Spots;" ∈ zALL := zT2 108 rfl rfl
theorem k2_109 : Cond.fieldLink "FeltGlass" 154 "FeltGlass$Panel" "spots" "LFeltGlass$Spots;" ∈ zALL := zT2 109 rfl rfl
theorem k2_110 : Cond.fieldLink "FeltGlass$Panel" 71 "FeltGlass$Panel" "tracks" "LFeltGlass$Tracks;" ∈ zALL := zT2 110 rfl rfl
theorem k2_111 : Cond.fieldLink "FeltGlass" 167 "FeltGlass$Panel" "tracks" "LFeltGlass$Tracks;" ∈ zALL := zT2 111 rfl rfl
theorem k2_112 : Cond.fieldLink "FeltGlass$Panel" 75 "FeltGlass$Panel" "present" "Z" ∈ zALL := zT2 112 rfl rfl
theorem k2_113 : Cond.fieldLink "FeltGlass" 44 "FeltGlass$Panel" "present" "Z" ∈ zALL := zT2 113 rfl rfl
theorem k2_114 : Cond.fieldLink "FeltGlass$Panel" 123 "FeltGlass$Panel" "framesEver" "I" ∈ zALL := zT2 114 rfl rfl
theorem k2_115 : Cond.fieldLink "FeltGlass" 178 "FeltGlass$Panel" "framesEver" "I" ∈ zALL := zT2 115 rfl rfl
theorem k2_116 : Cond.fieldLink "FeltGlass$Panel" 134 "FeltGlass$Panel" "noisyEver" "I" ∈ zALL := zT2 116 rfl rfl
theorem k2_117 : Cond.fieldLink "FeltGlass" 181 "FeltGlass$Panel" "noisyEver" "I" ∈ zALL := zT2 117 rfl rfl
theorem k2_118 : Cond.fieldLink "FeltGlass$Panel" 55 "FeltGlass$Panel" "hills" "LFeltGlass$Hills;" ∈ zALL := zT2 118 rfl rfl
theorem k2_119 : Cond.fieldLink "FeltGlass$Panel" 39 "FeltGlass$Panel" "pairing" "LFeltGlass$Pairing;" ∈ zALL := zT2 119 rfl rfl
theorem k2_120 : Cond.fieldLink "FeltGlass$Panel" 106 "FeltGlass$Panel" "spread" "I" ∈ zALL := zT2 120 rfl rfl
theorem k2_121 : Cond.fieldLink "FeltGlass$Panel" 109 "FeltGlass$Panel" "noisy" "Z" ∈ zALL := zT2 121 rfl rfl
theorem k2_122 : Cond.fieldLink "FeltGlass$Panel" 112 "FeltGlass$Panel" "framesHere" "I" ∈ zALL := zT2 122 rfl rfl
theorem k2_154 : Cond.fieldLink "FeltGlass" 10 "FeltGlass" "page" "LFeltGlass$Page;" ∈ zALL := zT2 154 rfl rfl
theorem k2_155 : Cond.fieldLink "FeltGlass" 28 "FeltGlass" "panel" "LFeltGlass$Panel;" ∈ zALL := zT2 155 rfl rfl
theorem k2_156 : Cond.fieldLink "FeltGlass" 19 "FeltGlass" "journal" "LFeltGlass$Journal;" ∈ zALL := zT2 156 rfl rfl
theorem k2_157 : Cond.fieldLink "FeltGlass" 81 "FeltGlass" "textsRead" "I" ∈ zALL := zT2 157 rfl rfl
theorem k2_158 : Cond.fieldLink "FeltGlass" 92 "FeltGlass" "panelsMade" "I" ∈ zALL := zT2 158 rfl rfl
theorem k2_170 : Cond.methodLink "FeltGlassLaw" 13 yX11_letter ∈ zALL := zT2 170 rfl rfl
theorem k2_171 : Cond.instanceMethod yX11_letter ∈ zALL := zT2 171 rfl rfl
theorem k2_172 : Cond.selects "FeltGlass" yX11_letter yX11_letter ∈ zALL := zT2 172 rfl rfl
theorem k2_173 : Cond.code yX11_letter prog_1_method_2_code 2 (some .int) ∈ zALL := zT2 173 rfl rfl
theorem k2_174 : Cond.methodLink "FeltGlass" 32 yX11_within ∈ zALL := zT2 174 rfl rfl
theorem k2_175 : Cond.static yX11_within ∈ zALL := zT2 175 rfl rfl
theorem k2_176 : Cond.code yX11_within prog_1_method_29_code 3 (some .boolean) ∈ zALL := zT2 176 rfl rfl
theorem k2_177 : Cond.methodLink "FeltGlass" 40 yX5_append ∈ zALL := zT2 177 rfl rfl
theorem k2_178 : Cond.instanceMethod yX5_append ∈ zALL := zT2 178 rfl rfl
theorem k2_179 : Cond.selects "FeltGlass$Page" yX5_append yX5_append ∈ zALL := zT2 179 rfl rfl
theorem k2_180 : Cond.code yX5_append prog_7_method_2_code 2 none ∈ zALL := zT2 180 rfl rfl
theorem k2_181 : Cond.methodLink "FeltGlassLaw" 18 yX11_blank ∈ zALL := zT2 181 rfl rfl
theorem k2_182 : Cond.instanceMethod yX11_blank ∈ zALL := zT2 182 rfl rfl
theorem k2_183 : Cond.selects "FeltGlass" yX11_blank yX11_blank ∈ zALL := zT2 183 rfl rfl
theorem k2_184 : Cond.code yX11_blank prog_1_method_3_code 2 (some .int) ∈ zALL := zT2 184 rfl rfl
theorem k2_185 : Cond.methodLink "FeltGlassLaw" 23 yX11_fault ∈ zALL := zT2 185 rfl rfl
theorem k2_186 : Cond.instanceMethod yX11_fault ∈ zALL := zT2 186 rfl rfl
theorem k2_187 : Cond.selects "FeltGlass" yX11_fault yX11_fault ∈ zALL := zT2 187 rfl rfl
theorem k2_188 : Cond.code yX11_fault prog_1_method_4_code 1 (some .int) ∈ zALL := zT2 188 rfl rfl
theorem k2_189 : Cond.methodLink "FeltGlass" 56 yX5_read ∈ zALL := zT2 189 rfl rfl
theorem k2_190 : Cond.instanceMethod yX5_read ∈ zALL := zT2 190 rfl rfl
theorem k2_191 : Cond.selects "FeltGlass$Page" yX5_read yX5_read ∈ zALL := zT2 191 rfl rfl
theorem k2_192 : Cond.code yX5_read prog_7_method_3_code 4 (some .boolean) ∈ zALL := zT2 192 rfl rfl
theorem k2_193 : Cond.methodLink "FeltGlass$Page" 40 yX2_copyFrom ∈ zALL := zT2 193 rfl rfl
theorem k2_194 : Cond.instanceMethod yX2_copyFrom ∈ zALL := zT2 194 rfl rfl
theorem k2_195 : Cond.selects "FeltGlass$Hand" yX2_copyFrom yX2_copyFrom ∈ zALL := zT2 195 rfl rfl
theorem k2_196 : Cond.code yX2_copyFrom prog_4_method_4_code 3 none ∈ zALL := zT2 196 rfl rfl
theorem k2_197 : Cond.methodLink "FeltGlass$Page" 47 yX5_readPart ∈ zALL := zT2 197 rfl rfl
theorem k2_199 : Cond.instanceMethod yX5_readPart ∈ zALL := zT2 199 rfl rfl
theorem k2_200 : Cond.code yX5_readPart prog_7_method_4_code 2 (some .boolean) ∈ zALL := zT2 200 rfl rfl
theorem k2_201 : Cond.methodLink "FeltGlass$Page" 55 yX5_digitHere ∈ zALL := zT2 201 rfl rfl
theorem k2_203 : Cond.instanceMethod yX5_digitHere ∈ zALL := zT2 203 rfl rfl
theorem k2_204 : Cond.code yX5_digitHere prog_7_method_7_code 2 (some .int) ∈ zALL := zT2 204 rfl rfl
theorem k2_205 : Cond.methodLink "FeltGlass$Page" 79 yX5_codeHere ∈ zALL := zT2 205 rfl rfl
theorem k2_207 : Cond.instanceMethod yX5_codeHere ∈ zALL := zT2 207 rfl rfl
theorem k2_208 : Cond.code yX5_codeHere prog_7_method_9_code 1 (some .int) ∈ zALL := zT2 208 rfl rfl
theorem k2_210 : Cond.methodLink "FeltGlass$Page" 51 yX5_take ∈ zALL := zT2 210 rfl rfl
theorem k2_212 : Cond.instanceMethod yX5_take ∈ zALL := zT2 212 rfl rfl
theorem k2_213 : Cond.code yX5_take prog_7_method_8_code 2 (some .boolean) ∈ zALL := zT2 213 rfl rfl
theorem k2_214 : Cond.methodLink "FeltGlass$Page" 67 yX5_readPlace ∈ zALL := zT2 214 rfl rfl
theorem k2_216 : Cond.instanceMethod yX5_readPlace ∈ zALL := zT2 216 rfl rfl
theorem k2_217 : Cond.code yX5_readPlace prog_7_method_5_code 5 (some .boolean) ∈ zALL := zT2 217 rfl rfl
theorem k2_218 : Cond.methodLink "FeltGlass$Page" 71 yX5_readNumber ∈ zALL := zT2 218 rfl rfl
theorem k2_220 : Cond.instanceMethod yX5_readNumber ∈ zALL := zT2 220 rfl rfl
theorem k2_221 : Cond.code yX5_readNumber prog_7_method_6_code 7 (some .int) ∈ zALL := zT2 221 rfl rfl
theorem k2_222 : Cond.methodLink "FeltGlass$Page" 75 yX2_put ∈ zALL := zT2 222 rfl rfl
theorem k2_223 : Cond.instanceMethod yX2_put ∈ zALL := zT2 223 rfl rfl
theorem k2_224 : Cond.selects "FeltGlass$Hand" yX2_put yX2_put ∈ zALL := zT2 224 rfl rfl
theorem k2_225 : Cond.code yX2_put prog_4_method_3_code 5 none ∈ zALL := zT2 225 rfl rfl
theorem k2_226 : Cond.methodLink "FeltGlassLaw" 27 yX11_fingers ∈ zALL := zT2 226 rfl rfl
theorem k2_227 : Cond.instanceMethod yX11_fingers ∈ zALL := zT2 227 rfl rfl
theorem k2_228 : Cond.selects "FeltGlass" yX11_fingers yX11_fingers ∈ zALL := zT2 228 rfl rfl
theorem k2_229 : Cond.code yX11_fingers prog_1_method_5_code 1 (some .int) ∈ zALL := zT2 229 rfl rfl
theorem k2_230 : Cond.methodLink "FeltGlass" 66 yX2_copyFrom ∈ zALL := zT2 230 rfl rfl
theorem k2_231 : Cond.methodLink "FeltGlass" 76 yX9_feel ∈ zALL := zT2 231 rfl rfl
theorem k2_232 : Cond.instanceMethod yX9_feel ∈ zALL := zT2 232 rfl rfl
theorem k2_233 : Cond.selects "FeltGlass$Surface" yX9_feel yX9_feel ∈ zALL := zT2 233 rfl rfl
theorem k2_234 : Cond.code yX9_feel prog_11_method_3_code 3 none ∈ zALL := zT2 234 rfl rfl
theorem k2_235 : Cond.methodLink "FeltGlass$Surface" 53 yX2_sensedAt ∈ zALL := zT2 235 rfl rfl
theorem k2_236 : Cond.instanceMethod yX2_sensedAt ∈ zALL := zT2 236 rfl rfl
theorem k2_237 : Cond.selects "FeltGlass$Hand" yX2_sensedAt yX2_sensedAt ∈ zALL := zT2 237 rfl rfl
theorem k2_238 : Cond.code yX2_sensedAt prog_4_method_6_code 7 (some .int) ∈ zALL := zT2 238 rfl rfl
theorem k2_239 : Cond.methodLink "FeltGlass$Hand" 25 yJ9_max_7cf53 ∈ zALL := zT2 239 rfl rfl
theorem k3_0 : Cond.static yJ9_max_7cf53 ∈ zALL := zT3 0 rfl rfl
theorem k3_1 : Cond.code yJ9_max_7cf53 prog_15_method_65_code 2 (some .int) ∈ zALL := zT3 1 rfl rfl
theorem k3_2 : Cond.methodLink "FeltGlass" 84 yX2_onCount ∈ zALL := zT3 2 rfl rfl
theorem k3_3 : Cond.instanceMethod yX2_onCount ∈ zALL := zT3 3 rfl rfl
theorem k3_4 : Cond.selects "FeltGlass$Hand" yX2_onCount yX2_onCount ∈ zALL := zT3 4 rfl rfl
theorem k3_5 : Cond.code yX2_onCount prog_4_method_5_code 3 (some .int) ∈ zALL := zT3 5 rfl rfl
theorem k3_6 : Cond.methodLink "FeltGlassLaw" 31 yX11_glass ∈ zALL := zT3 6 rfl rfl
theorem k3_7 : Cond.instanceMethod yX11_glass ∈ zALL := zT3 7 rfl rfl
theorem k3_8 : Cond.selects "FeltGlass" yX11_glass yX11_glass ∈ zALL := zT3 8 rfl rfl
theorem k3_9 : Cond.code yX11_glass prog_1_method_6_code 3 (some .int) ∈ zALL := zT3 9 rfl rfl
theorem k3_10 : Cond.methodLink "FeltGlass" 88 yX7_renew ∈ zALL := zT3 10 rfl rfl
theorem k3_11 : Cond.instanceMethod yX7_renew ∈ zALL := zT3 11 rfl rfl
theorem k3_12 : Cond.selects "FeltGlass$Panel" yX7_renew yX7_renew ∈ zALL := zT3 12 rfl rfl
theorem k3_13 : Cond.code yX7_renew prog_9_method_2_code 3 none ∈ zALL := zT3 13 rfl rfl
theorem k3_14 : Cond.methodLink "FeltGlass$Panel" 79 yX1_lay ∈ zALL := zT3 14 rfl rfl
theorem k3_15 : Cond.instanceMethod yX1_lay ∈ zALL := zT3 15 rfl rfl
theorem k3_16 : Cond.selects "FeltGlass$Grid" yX1_lay yX1_lay ∈ zALL := zT3 16 rfl rfl
theorem k3_17 : Cond.code yX1_lay prog_3_method_2_code 5 none ∈ zALL := zT3 17 rfl rfl
theorem k3_18 : Cond.methodLink "FeltGlass$Grid" 34 yX1_listAround ∈ zALL := zT3 18 rfl rfl
theorem k3_20 : Cond.instanceMethod yX1_listAround ∈ zALL := zT3 20 rfl rfl
theorem k3_21 : Cond.code yX1_listAround prog_3_method_3_code 7 none ∈ zALL := zT3 21 rfl rfl
theorem k3_22 : Cond.methodLink "FeltGlass$Grid" 38 yJ9_max_7cf53 ∈ zALL := zT3 22 rfl rfl
theorem k3_23 : Cond.methodLink "FeltGlass$Grid" 44 yJ9_min_7cf53 ∈ zALL := zT3 23 rfl rfl
theorem k3_24 : Cond.static yJ9_min_7cf53 ∈ zALL := zT3 24 rfl rfl
theorem k3_25 : Cond.code yJ9_min_7cf53 prog_15_method_69_code 2 (some .int) ∈ zALL := zT3 25 rfl rfl
theorem k3_26 : Cond.methodLink "FeltGlass$Panel" 83 yX2_liftAll ∈ zALL := zT3 26 rfl rfl
theorem k3_27 : Cond.instanceMethod yX2_liftAll ∈ zALL := zT3 27 rfl rfl
theorem k3_28 : Cond.selects "FeltGlass$Hand" yX2_liftAll yX2_liftAll ∈ zALL := zT3 28 rfl rfl
theorem k3_29 : Cond.code yX2_liftAll prog_4_method_2_code 2 none ∈ zALL := zT3 29 rfl rfl
theorem k3_30 : Cond.methodLink "FeltGlass$Panel" 86 yX0_renew ∈ zALL := zT3 30 rfl rfl
theorem k3_31 : Cond.instanceMethod yX0_renew ∈ zALL := zT3 31 rfl rfl
theorem k3_32 : Cond.selects "FeltGlass$Drives" yX0_renew yX0_renew ∈ zALL := zT3 32 rfl rfl
theorem k3_33 : Cond.code yX0_renew prog_2_method_2_code 1 none ∈ zALL := zT3 33 rfl rfl
theorem k3_34 : Cond.methodLink "FeltGlass$Drives" 15 yJ7_fill_53178 ∈ zALL := zT3 34 rfl rfl
theorem k3_35 : Cond.static yJ7_fill_53178 ∈ zALL := zT3 35 rfl rfl
theorem k3_36 : Cond.code yJ7_fill_53178 prog_17_method_103_code 4 none ∈ zALL := zT3 36 rfl rfl
theorem k3_39 : Cond.methodLink "FeltGlass$Panel" 92 arraycopyName ∈ zALL := zT3 39 rfl rfl
theorem k3_40 : Cond.static arraycopyName ∈ zALL := zT3 40 rfl rfl
theorem k3_41 : Cond.native arraycopyName ∈ zALL := zT3 41 rfl rfl
theorem k3_42 : Cond.methodLink "FeltGlass$Panel" 98 yX9_renew ∈ zALL := zT3 42 rfl rfl
theorem k3_43 : Cond.instanceMethod yX9_renew ∈ zALL := zT3 43 rfl rfl
theorem k3_44 : Cond.selects "FeltGlass$Surface" yX9_renew yX9_renew ∈ zALL := zT3 44 rfl rfl
theorem k3_45 : Cond.code yX9_renew prog_11_method_2_code 1 none ∈ zALL := zT3 45 rfl rfl
theorem k3_46 : Cond.methodLink "FeltGlass$Surface" 35 yJ7_fill_53178 ∈ zALL := zT3 46 rfl rfl
theorem k3_47 : Cond.methodLink "FeltGlass$Panel" 99 yX8_clear ∈ zALL := zT3 47 rfl rfl
theorem k3_48 : Cond.instanceMethod yX8_clear ∈ zALL := zT3 48 rfl rfl
theorem k3_49 : Cond.selects "FeltGlass$Spots" yX8_clear yX8_clear ∈ zALL := zT3 49 rfl rfl
theorem k3_50 : Cond.code yX8_clear prog_10_method_2_code 1 none ∈ zALL := zT3 50 rfl rfl
theorem k3_51 : Cond.methodLink "FeltGlass$Spots" 52 yJ7_fill_53178 ∈ zALL := zT3 51 rfl rfl
theorem k3_52 : Cond.methodLink "FeltGlassLaw" 36 yX11_air ∈ zALL := zT3 52 rfl rfl
theorem k3_53 : Cond.instanceMethod yX11_air ∈ zALL := zT3 53 rfl rfl
theorem k3_54 : Cond.selects "FeltGlass" yX11_air yX11_air ∈ zALL := zT3 54 rfl rfl
theorem k3_55 : Cond.code yX11_air prog_1_method_7_code 4 (some .int) ∈ zALL := zT3 55 rfl rfl
theorem k3_56 : Cond.methodLink "FeltGlass" 100 yX7_hasCell ∈ zALL := zT3 56 rfl rfl
theorem k3_57 : Cond.instanceMethod yX7_hasCell ∈ zALL := zT3 57 rfl rfl
theorem k3_58 : Cond.selects "FeltGlass$Panel" yX7_hasCell yX7_hasCell ∈ zALL := zT3 58 rfl rfl
theorem k3_59 : Cond.code yX7_hasCell prog_9_method_3_code 2 (some .boolean) ∈ zALL := zT3 59 rfl rfl
theorem k3_61 : Cond.methodLink "FeltGlassLaw" 40 yX11_warm ∈ zALL := zT3 61 rfl rfl
theorem k3_62 : Cond.instanceMethod yX11_warm ∈ zALL := zT3 62 rfl rfl
theorem k3_63 : Cond.selects "FeltGlass" yX11_warm yX11_warm ∈ zALL := zT3 63 rfl rfl
theorem k3_64 : Cond.code yX11_warm prog_1_method_8_code 2 (some .int) ∈ zALL := zT3 64 rfl rfl
theorem k3_65 : Cond.methodLink "FeltGlass" 108 yX9_addToBackgrounds ∈ zALL := zT3 65 rfl rfl
theorem k3_66 : Cond.instanceMethod yX9_addToBackgrounds ∈ zALL := zT3 66 rfl rfl
theorem k3_67 : Cond.selects "FeltGlass$Surface" yX9_addToBackgrounds yX9_addToBackgrounds ∈ zALL := zT3 67 rfl rfl
theorem k3_68 : Cond.code yX9_addToBackgrounds prog_11_method_4_code 5 (some .int) ∈ zALL := zT3 68 rfl rfl
theorem k3_69 : Cond.methodLink "FeltGlass$Surface" 59 yJ9_min_7cf53 ∈ zALL := zT3 69 rfl rfl
theorem k3_70 : Cond.methodLink "FeltGlass$Surface" 64 yJ9_max_7cf53 ∈ zALL := zT3 70 rfl rfl
theorem k3_71 : Cond.methodLink "FeltGlassLaw" 44 yX11_noise ∈ zALL := zT3 71 rfl rfl
theorem k3_72 : Cond.instanceMethod yX11_noise ∈ zALL := zT3 72 rfl rfl
theorem k3_73 : Cond.selects "FeltGlass" yX11_noise yX11_noise ∈ zALL := zT3 73 rfl rfl
theorem k3_74 : Cond.code yX11_noise prog_1_method_9_code 4 (some .int) ∈ zALL := zT3 74 rfl rfl
theorem k3_75 : Cond.methodLink "FeltGlassLaw" 48 yX11_seed ∈ zALL := zT3 75 rfl rfl
theorem k3_76 : Cond.instanceMethod yX11_seed ∈ zALL := zT3 76 rfl rfl
theorem k3_77 : Cond.selects "FeltGlass" yX11_seed yX11_seed ∈ zALL := zT3 77 rfl rfl
theorem k3_78 : Cond.code yX11_seed prog_1_method_10_code 3 (some .int) ∈ zALL := zT3 78 rfl rfl
theorem k3_79 : Cond.methodLink "FeltGlassLaw" 52 yX11_bound ∈ zALL := zT3 79 rfl rfl
theorem k3_80 : Cond.instanceMethod yX11_bound ∈ zALL := zT3 80 rfl rfl
theorem k3_81 : Cond.selects "FeltGlass" yX11_bound yX11_bound ∈ zALL := zT3 81 rfl rfl
theorem k3_82 : Cond.code yX11_bound prog_1_method_11_code 4 (some .int) ∈ zALL := zT3 82 rfl rfl
theorem k3_83 : Cond.fieldLink "FeltGlass" 124 "FeltGlass" "LEAST_SETTING" "[I" ∈ zALL := zT3 83 rfl rfl
theorem k3_85 : Cond.fieldLink "FeltGlass" 127 "FeltGlass" "MOST_SETTING" "[I" ∈ zALL := zT3 85 rfl rfl
theorem k3_87 : Cond.methodLink "FeltGlassLaw" 56 yX11_settle ∈ zALL := zT3 87 rfl rfl
theorem k3_88 : Cond.instanceMethod yX11_settle ∈ zALL := zT3 88 rfl rfl
theorem k3_89 : Cond.selects "FeltGlass" yX11_settle yX11_settle ∈ zALL := zT3 89 rfl rfl
theorem k3_90 : Cond.code yX11_settle prog_1_method_12_code 1 (some .int) ∈ zALL := zT3 90 rfl rfl
theorem k3_91 : Cond.methodLink "FeltGlass" 133 yX9_baselinesToBackgrounds ∈ zALL := zT3 91 rfl rfl
theorem k3_92 : Cond.instanceMethod yX9_baselinesToBackgrounds ∈ zALL := zT3 92 rfl rfl
theorem k3_93 : Cond.selects "FeltGlass$Surface" yX9_baselinesToBackgrounds yX9_baselinesToBackgrounds ∈ zALL := zT3 93 rfl rfl
theorem k3_94 : Cond.code yX9_baselinesToBackgrounds prog_11_method_5_code 3 (some .int) ∈ zALL := zT3 94 rfl rfl
theorem k3_95 : Cond.methodLink "FeltGlassLaw" 60 yX11_frames ∈ zALL := zT3 95 rfl rfl
theorem k3_96 : Cond.instanceMethod yX11_frames ∈ zALL := zT3 96 rfl rfl
theorem k3_97 : Cond.selects "FeltGlass" yX11_frames yX11_frames ∈ zALL := zT3 97 rfl rfl
theorem k3_98 : Cond.code yX11_frames prog_1_method_13_code 4 (some .int) ∈ zALL := zT3 98 rfl rfl
theorem k3_99 : Cond.methodLink "FeltGlass" 139 yX7_runFrame ∈ zALL := zT3 99 rfl rfl
theorem k3_100 : Cond.instanceMethod yX7_runFrame ∈ zALL := zT3 100 rfl rfl
theorem k3_101 : Cond.selects "FeltGlass$Panel" yX7_runFrame yX7_runFrame ∈ zALL := zT3 101 rfl rfl
theorem k3_102 : Cond.code yX7_runFrame prog_9_method_6_code 1 none ∈ zALL := zT3 102 rfl rfl
theorem k3_103 : Cond.methodLink "FeltGlass$Panel" 126 yX9_sense ∈ zALL := zT3 103 rfl rfl
theorem k3_104 : Cond.instanceMethod yX9_sense ∈ zALL := zT3 104 rfl rfl
theorem k3_105 : Cond.selects "FeltGlass$Surface" yX9_sense yX9_sense ∈ zALL := zT3 105 rfl rfl
theorem k3_106 : Cond.code yX9_sense prog_11_method_6_code 6 none ∈ zALL := zT3 106 rfl rfl
theorem k3_107 : Cond.methodLink "FeltGlass$Surface" 67 yX0_activeLevel ∈ zALL := zT3 107 rfl rfl
theorem k3_108 : Cond.instanceMethod yX0_activeLevel ∈ zALL := zT3 108 rfl rfl
theorem k3_109 : Cond.selects "FeltGlass$Drives" yX0_activeLevel yX0_activeLevel ∈ zALL := zT3 109 rfl rfl
theorem k3_110 : Cond.code yX0_activeLevel prog_2_method_4_code 1 (some .int) ∈ zALL := zT3 110 rfl rfl
theorem k3_111 : Cond.methodLink "FeltGlass$Surface" 73 yX0_drawNoise ∈ zALL := zT3 111 rfl rfl
theorem k3_112 : Cond.instanceMethod yX0_drawNoise ∈ zALL := zT3 112 rfl rfl
theorem k3_113 : Cond.selects "FeltGlass$Drives" yX0_drawNoise yX0_drawNoise ∈ zALL := zT3 113 rfl rfl
theorem k3_114 : Cond.code yX0_drawNoise prog_2_method_5_code 2 (some .int) ∈ zALL := zT3 114 rfl rfl
theorem k3_115 : Cond.methodLink "FeltGlass$Drives" 28 yX0_drawBelow ∈ zALL := zT3 115 rfl rfl
theorem k3_117 : Cond.instanceMethod yX0_drawBelow ∈ zALL := zT3 117 rfl rfl
theorem k3_118 : Cond.code yX0_drawBelow prog_2_method_6_code 2 (some .int) ∈ zALL := zT3 118 rfl rfl
theorem k3_119 : Cond.constantLong "FeltGlass$Drives" 32 (1103515245) ∈ zALL := zT3 119 rfl rfl
theorem k3_120 : Cond.constantLong "FeltGlass$Drives" 34 (12345) ∈ zALL := zT3 120 rfl rfl
theorem k3_121 : Cond.constantLong "FeltGlass$Drives" 36 (2147483648) ∈ zALL := zT3 121 rfl rfl
theorem k3_122 : Cond.constant "FeltGlass$Drives" 38 (65536) ∈ zALL := zT3 122 rfl rfl
theorem k3_123 : Cond.methodLink "FeltGlass$Panel" 130 yX9_quietSpread ∈ zALL := zT3 123 rfl rfl
theorem k3_124 : Cond.instanceMethod yX9_quietSpread ∈ zALL := zT3 124 rfl rfl
theorem k3_125 : Cond.selects "FeltGlass$Surface" yX9_quietSpread yX9_quietSpread ∈ zALL := zT3 125 rfl rfl
theorem k3_126 : Cond.code yX9_quietSpread prog_11_method_7_code 5 (some .int) ∈ zALL := zT3 126 rfl rfl
theorem k3_127 : Cond.methodLink "FeltGlass$Surface" 77 yX1_meets ∈ zALL := zT3 127 rfl rfl
theorem k3_128 : Cond.instanceMethod yX1_meets ∈ zALL := zT3 128 rfl rfl
theorem k3_129 : Cond.selects "FeltGlass$Grid" yX1_meets yX1_meets ∈ zALL := zT3 129 rfl rfl
theorem k3_130 : Cond.code yX1_meets prog_3_method_5_code 4 (some .boolean) ∈ zALL := zT3 130 rfl rfl
theorem k3_131 : Cond.methodLink "FeltGlass$Grid" 47 yX1_neighbour ∈ zALL := zT3 131 rfl rfl
theorem k3_132 : Cond.instanceMethod yX1_neighbour ∈ zALL := zT3 132 rfl rfl
theorem k3_133 : Cond.selects "FeltGlass$Grid" yX1_neighbour yX1_neighbour ∈ zALL := zT3 133 rfl rfl
theorem k3_134 : Cond.code yX1_neighbour prog_3_method_4_code 3 (some .int) ∈ zALL := zT3 134 rfl rfl
theorem k3_135 : Cond.methodLink "FeltGlass$Panel" 137 yX0_activateNext ∈ zALL := zT3 135 rfl rfl
theorem k3_136 : Cond.instanceMethod yX0_activateNext ∈ zALL := zT3 136 rfl rfl
theorem k3_137 : Cond.selects "FeltGlass$Drives" yX0_activateNext yX0_activateNext ∈ zALL := zT3 137 rfl rfl
theorem k3_138 : Cond.code yX0_activateNext prog_2_method_3_code 1 none ∈ zALL := zT3 138 rfl rfl
theorem k3_139 : Cond.methodLink "FeltGlass$Panel" 140 yX3_form ∈ zALL := zT3 139 rfl rfl
theorem k3_140 : Cond.instanceMethod yX3_form ∈ zALL := zT3 140 rfl rfl
theorem k3_141 : Cond.selects "FeltGlass$Hills" yX3_form yX3_form ∈ zALL := zT3 141 rfl rfl
theorem k3_142 : Cond.code yX3_form prog_5_method_2_code 4 none ∈ zALL := zT3 142 rfl rfl
theorem k3_143 : Cond.methodLink "FeltGlass$Hills" 32 yX3_findPeaks ∈ zALL := zT3 143 rfl rfl
theorem k3_145 : Cond.instanceMethod yX3_findPeaks ∈ zALL := zT3 145 rfl rfl
theorem k3_146 : Cond.code yX3_findPeaks prog_5_method_3_code 3 none ∈ zALL := zT3 146 rfl rfl
theorem k3_147 : Cond.methodLink "FeltGlass$Hills" 65 yX3_steepest ∈ zALL := zT3 147 rfl rfl
theorem k3_149 : Cond.instanceMethod yX3_steepest ∈ zALL := zT3 149 rfl rfl
theorem k3_150 : Cond.code yX3_steepest prog_5_method_4_code 6 (some .int) ∈ zALL := zT3 150 rfl rfl
theorem k3_151 : Cond.methodLink "FeltGlass$Hills" 72 yX1_neighbour ∈ zALL := zT3 151 rfl rfl
theorem k3_152 : Cond.methodLink "FeltGlass$Hills" 41 yX3_gatherCells ∈ zALL := zT3 152 rfl rfl
theorem k3_154 : Cond.instanceMethod yX3_gatherCells ∈ zALL := zT3 154 rfl rfl
theorem k3_155 : Cond.code yX3_gatherCells prog_5_method_5_code 5 none ∈ zALL := zT3 155 rfl rfl
theorem k3_156 : Cond.methodLink "FeltGlass$Hills" 48 yX3_findPasses ∈ zALL := zT3 156 rfl rfl
theorem k3_158 : Cond.instanceMethod yX3_findPasses ∈ zALL := zT3 158 rfl rfl
theorem k3_159 : Cond.code yX3_findPasses prog_5_method_6_code 5 none ∈ zALL := zT3 159 rfl rfl
theorem k3_160 : Cond.methodLink "FeltGlass$Hills" 76 yJ7_fill_53178 ∈ zALL := zT3 160 rfl rfl
theorem k3_161 : Cond.methodLink "FeltGlass$Hills" 82 yJ9_min_7cf53 ∈ zALL := zT3 161 rfl rfl
theorem k3_162 : Cond.methodLink "FeltGlass$Hills" 87 yX3_raisePass ∈ zALL := zT3 162 rfl rfl
theorem k3_164 : Cond.instanceMethod yX3_raisePass ∈ zALL := zT3 164 rfl rfl
theorem k3_165 : Cond.code yX3_raisePass prog_5_method_7_code 5 none ∈ zALL := zT3 165 rfl rfl
theorem k3_166 : Cond.methodLink "FeltGlass$Hills" 91 yJ9_max_7cf53 ∈ zALL := zT3 166 rfl rfl
theorem k3_167 : Cond.methodLink "FeltGlass$Hills" 52 yX3_mergeBestPair ∈ zALL := zT3 167 rfl rfl
theorem k3_169 : Cond.instanceMethod yX3_mergeBestPair ∈ zALL := zT3 169 rfl rfl
theorem k3_170 : Cond.code yX3_mergeBestPair prog_5_method_8_code 9 (some .boolean) ∈ zALL := zT3 170 rfl rfl
theorem k3_171 : Cond.methodLink "FeltGlass$Hills" 94 yX3_canMerge ∈ zALL := zT3 171 rfl rfl
theorem k3_173 : Cond.instanceMethod yX3_canMerge ∈ zALL := zT3 173 rfl rfl
theorem k3_174 : Cond.code yX3_canMerge prog_5_method_9_code 7 (some .boolean) ∈ zALL := zT3 174 rfl rfl
theorem k3_175 : Cond.methodLink "FeltGlass$Hills" 98 yX3_merge ∈ zALL := zT3 175 rfl rfl
theorem k3_177 : Cond.instanceMethod yX3_merge ∈ zALL := zT3 177 rfl rfl
theorem k3_178 : Cond.code yX3_merge prog_5_method_10_code 5 none ∈ zALL := zT3 178 rfl rfl
theorem k3_179 : Cond.methodLink "FeltGlass$Panel" 147 yX8_choose ∈ zALL := zT3 179 rfl rfl
theorem k3_180 : Cond.instanceMethod yX8_choose ∈ zALL := zT3 180 rfl rfl
theorem k3_181 : Cond.selects "FeltGlass$Spots" yX8_choose yX8_choose ∈ zALL := zT3 181 rfl rfl
theorem k3_182 : Cond.code yX8_choose prog_10_method_3_code 6 none ∈ zALL := zT3 182 rfl rfl
theorem k3_183 : Cond.methodLink "FeltGlass$Spots" 58 yX8_weigh ∈ zALL := zT3 183 rfl rfl
theorem k3_185 : Cond.instanceMethod yX8_weigh ∈ zALL := zT3 185 rfl rfl
theorem k3_186 : Cond.code yX8_weigh prog_10_method_4_code 5 none ∈ zALL := zT3 186 rfl rfl
theorem k3_187 : Cond.methodLink "FeltGlass$Spots" 69 yX8_dropLightest ∈ zALL := zT3 187 rfl rfl
theorem k3_189 : Cond.instanceMethod yX8_dropLightest ∈ zALL := zT3 189 rfl rfl
theorem k3_190 : Cond.code yX8_dropLightest prog_10_method_5_code 4 none ∈ zALL := zT3 190 rfl rfl
theorem k3_191 : Cond.methodLink "FeltGlass$Spots" 73 yX8_numberHills ∈ zALL := zT3 191 rfl rfl
theorem k3_193 : Cond.instanceMethod yX8_numberHills ∈ zALL := zT3 193 rfl rfl
theorem k3_194 : Cond.code yX8_numberHills prog_10_method_6_code 3 none ∈ zALL := zT3 194 rfl rfl
theorem k3_195 : Cond.methodLink "FeltGlass$Spots" 94 yX8_fillRow ∈ zALL := zT3 195 rfl rfl
theorem k3_197 : Cond.instanceMethod yX8_fillRow ∈ zALL := zT3 197 rfl rfl
theorem k3_198 : Cond.code yX8_fillRow prog_10_method_7_code 5 none ∈ zALL := zT3 198 rfl rfl
theorem k3_199 : Cond.methodLink "FeltGlass$Spots" 80 yX8_markCells ∈ zALL := zT3 199 rfl rfl
theorem k3_201 : Cond.instanceMethod yX8_markCells ∈ zALL := zT3 201 rfl rfl
theorem k3_202 : Cond.code yX8_markCells prog_10_method_8_code 3 none ∈ zALL := zT3 202 rfl rfl
theorem k3_203 : Cond.methodLink "FeltGlass$Panel" 151 yX6_solve ∈ zALL := zT3 203 rfl rfl
theorem k3_204 : Cond.instanceMethod yX6_solve ∈ zALL := zT3 204 rfl rfl
theorem k3_205 : Cond.selects "FeltGlass$Pairing" yX6_solve yX6_solve ∈ zALL := zT3 205 rfl rfl
theorem k3_206 : Cond.code yX6_solve prog_8_method_2_code 8 none ∈ zALL := zT3 206 rfl rfl
theorem k3_207 : Cond.methodLink "FeltGlass$Pairing" 30 yX6_weighPairs ∈ zALL := zT3 207 rfl rfl
theorem k3_209 : Cond.instanceMethod yX6_weighPairs ∈ zALL := zT3 209 rfl rfl
theorem k3_210 : Cond.code yX6_weighPairs prog_8_method_3_code 9 none ∈ zALL := zT3 210 rfl rfl
theorem k3_211 : Cond.methodLink "FeltGlass$Pairing" 53 yJ9_abs_0f7a4 ∈ zALL := zT3 211 rfl rfl
theorem k3_212 : Cond.static yJ9_abs_0f7a4 ∈ zALL := zT3 212 rfl rfl
theorem k3_213 : Cond.code yJ9_abs_0f7a4 prog_15_method_59_code 1 (some .int) ∈ zALL := zT3 213 rfl rfl
theorem k3_214 : Cond.constant "FeltGlass$Pairing" 59 (1000000) ∈ zALL := zT3 214 rfl rfl
theorem k3_215 : Cond.methodLink "FeltGlass$Pairing" 37 yX6_bestSpot ∈ zALL := zT3 215 rfl rfl
theorem k3_217 : Cond.instanceMethod yX6_bestSpot ∈ zALL := zT3 217 rfl rfl
theorem k3_218 : Cond.code yX6_bestSpot prog_8_method_4_code 8 (some .int) ∈ zALL := zT3 218 rfl rfl
theorem k3_219 : Cond.methodLink "FeltGlass$Pairing" 41 yX6_worthOf ∈ zALL := zT3 219 rfl rfl
theorem k3_221 : Cond.instanceMethod yX6_worthOf ∈ zALL := zT3 221 rfl rfl
theorem k3_222 : Cond.code yX6_worthOf prog_8_method_5_code 5 (some .int) ∈ zALL := zT3 222 rfl rfl
theorem k3_223 : Cond.methodLink "FeltGlass$Pairing" 45 yX6_withSpot ∈ zALL := zT3 223 rfl rfl
theorem k3_224 : Cond.static yX6_withSpot ∈ zALL := zT3 224 rfl rfl
theorem k3_225 : Cond.code yX6_withSpot prog_8_method_6_code 2 (some .int) ∈ zALL := zT3 225 rfl rfl
theorem k3_226 : Cond.methodLink "FeltGlass$Panel" 158 yX10_follow ∈ zALL := zT3 226 rfl rfl
theorem k3_227 : Cond.instanceMethod yX10_follow ∈ zALL := zT3 227 rfl rfl
theorem k3_228 : Cond.selects "FeltGlass$Tracks" yX10_follow yX10_follow ∈ zALL := zT3 228 rfl rfl
theorem k3_229 : Cond.code yX10_follow prog_12_method_2_code 9 none ∈ zALL := zT3 229 rfl rfl
theorem k3_230 : Cond.methodLink "FeltGlass$Tracks" 28 yX10_miss ∈ zALL := zT3 230 rfl rfl
theorem k3_232 : Cond.instanceMethod yX10_miss ∈ zALL := zT3 232 rfl rfl
theorem k3_233 : Cond.code yX10_miss prog_12_method_4_code 4 (some .boolean) ∈ zALL := zT3 233 rfl rfl
theorem k3_234 : Cond.methodLink "FeltGlass$Tracks" 53 yX4_write ∈ zALL := zT3 234 rfl rfl
theorem k3_235 : Cond.instanceMethod yX4_write ∈ zALL := zT3 235 rfl rfl
theorem k3_236 : Cond.selects "FeltGlass$Journal" yX4_write yX4_write ∈ zALL := zT3 236 rfl rfl
theorem k3_237 : Cond.code yX4_write prog_6_method_2_code 5 none ∈ zALL := zT3 237 rfl rfl
theorem k3_239 : Cond.methodLink "FeltGlass$Tracks" 35 yX10_move ∈ zALL := zT3 239 rfl rfl
theorem k4_1 : Cond.instanceMethod yX10_move ∈ zALL := zT4 1 rfl rfl
theorem k4_2 : Cond.code yX10_move prog_12_method_3_code 4 none ∈ zALL := zT4 2 rfl rfl
theorem k4_3 : Cond.methodLink "FeltGlass$Tracks" 39 yJ9_abs_0f7a4 ∈ zALL := zT4 3 rfl rfl
theorem k4_4 : Cond.methodLink "FeltGlass$Tracks" 45 yX10_takeOver ∈ zALL := zT4 4 rfl rfl
theorem k4_6 : Cond.instanceMethod yX10_takeOver ∈ zALL := zT4 6 rfl rfl
theorem k4_7 : Cond.code yX10_takeOver prog_12_method_7_code 3 none ∈ zALL := zT4 7 rfl rfl
theorem k4_8 : Cond.methodLink "FeltGlass$Tracks" 49 yX10_isPalm ∈ zALL := zT4 8 rfl rfl
theorem k4_10 : Cond.instanceMethod yX10_isPalm ∈ zALL := zT4 10 rfl rfl
theorem k4_11 : Cond.code yX10_isPalm prog_12_method_8_code 2 (some .boolean) ∈ zALL := zT4 11 rfl rfl
theorem k4_12 : Cond.methodLink "FeltGlass$Panel" 162 yX10_beginNew ∈ zALL := zT4 12 rfl rfl
theorem k4_13 : Cond.instanceMethod yX10_beginNew ∈ zALL := zT4 13 rfl rfl
theorem k4_14 : Cond.selects "FeltGlass$Tracks" yX10_beginNew yX10_beginNew ∈ zALL := zT4 14 rfl rfl
theorem k4_15 : Cond.code yX10_beginNew prog_12_method_5_code 3 none ∈ zALL := zT4 15 rfl rfl
theorem k4_16 : Cond.methodLink "FeltGlass$Tracks" 60 yX10_begin ∈ zALL := zT4 16 rfl rfl
theorem k4_18 : Cond.instanceMethod yX10_begin ∈ zALL := zT4 18 rfl rfl
theorem k4_19 : Cond.code yX10_begin prog_12_method_6_code 3 none ∈ zALL := zT4 19 rfl rfl
theorem k4_20 : Cond.methodLink "FeltGlass$Panel" 170 yX9_driftBaselines ∈ zALL := zT4 20 rfl rfl
theorem k4_21 : Cond.instanceMethod yX9_driftBaselines ∈ zALL := zT4 21 rfl rfl
theorem k4_22 : Cond.selects "FeltGlass$Surface" yX9_driftBaselines yX9_driftBaselines ∈ zALL := zT4 22 rfl rfl
theorem k4_23 : Cond.code yX9_driftBaselines prog_11_method_8_code 5 none ∈ zALL := zT4 23 rfl rfl
theorem k4_24 : Cond.methodLink "FeltGlassLaw" 64 yX11_finger ∈ zALL := zT4 24 rfl rfl
theorem k4_25 : Cond.instanceMethod yX11_finger ∈ zALL := zT4 25 rfl rfl
theorem k4_26 : Cond.selects "FeltGlass" yX11_finger yX11_finger ∈ zALL := zT4 26 rfl rfl
theorem k4_27 : Cond.code yX11_finger prog_1_method_14_code 3 (some .int) ∈ zALL := zT4 27 rfl rfl
theorem k4_28 : Cond.methodLink "FeltGlass" 142 yX2_fact ∈ zALL := zT4 28 rfl rfl
theorem k4_29 : Cond.instanceMethod yX2_fact ∈ zALL := zT4 29 rfl rfl
theorem k4_30 : Cond.selects "FeltGlass$Hand" yX2_fact yX2_fact ∈ zALL := zT4 30 rfl rfl
theorem k4_31 : Cond.code yX2_fact prog_4_method_7_code 3 (some .int) ∈ zALL := zT4 31 rfl rfl
theorem k4_32 : Cond.methodLink "FeltGlassLaw" 68 yX11_cell ∈ zALL := zT4 32 rfl rfl
theorem k4_33 : Cond.instanceMethod yX11_cell ∈ zALL := zT4 33 rfl rfl
theorem k4_34 : Cond.selects "FeltGlass" yX11_cell yX11_cell ∈ zALL := zT4 34 rfl rfl
theorem k4_35 : Cond.code yX11_cell prog_1_method_15_code 3 (some .int) ∈ zALL := zT4 35 rfl rfl
theorem k4_36 : Cond.methodLink "FeltGlass" 146 yX7_cellFact ∈ zALL := zT4 36 rfl rfl
theorem k4_37 : Cond.instanceMethod yX7_cellFact ∈ zALL := zT4 37 rfl rfl
theorem k4_38 : Cond.selects "FeltGlass$Panel" yX7_cellFact yX7_cellFact ∈ zALL := zT4 38 rfl rfl
theorem k4_39 : Cond.code yX7_cellFact prog_9_method_7_code 3 (some .int) ∈ zALL := zT4 39 rfl rfl
theorem k4_40 : Cond.methodLink "FeltGlassLaw" 72 yX11_about ∈ zALL := zT4 40 rfl rfl
theorem k4_41 : Cond.instanceMethod yX11_about ∈ zALL := zT4 41 rfl rfl
theorem k4_42 : Cond.selects "FeltGlass" yX11_about yX11_about ∈ zALL := zT4 42 rfl rfl
theorem k4_43 : Cond.code yX11_about prog_1_method_16_code 2 (some .int) ∈ zALL := zT4 43 rfl rfl
theorem k4_44 : Cond.methodLink "FeltGlass" 149 yX7_fact ∈ zALL := zT4 44 rfl rfl
theorem k4_45 : Cond.instanceMethod yX7_fact ∈ zALL := zT4 45 rfl rfl
theorem k4_46 : Cond.selects "FeltGlass$Panel" yX7_fact yX7_fact ∈ zALL := zT4 46 rfl rfl
theorem k4_47 : Cond.code yX7_fact prog_9_method_8_code 2 (some .int) ∈ zALL := zT4 47 rfl rfl
theorem k4_48 : Cond.methodLink "FeltGlassLaw" 76 yX11_spot ∈ zALL := zT4 48 rfl rfl
theorem k4_49 : Cond.instanceMethod yX11_spot ∈ zALL := zT4 49 rfl rfl
theorem k4_50 : Cond.selects "FeltGlass" yX11_spot yX11_spot ∈ zALL := zT4 50 rfl rfl
theorem k4_51 : Cond.code yX11_spot prog_1_method_17_code 3 (some .int) ∈ zALL := zT4 51 rfl rfl
theorem k4_52 : Cond.methodLink "FeltGlass" 151 yX7_hasSpot ∈ zALL := zT4 52 rfl rfl
theorem k4_53 : Cond.instanceMethod yX7_hasSpot ∈ zALL := zT4 53 rfl rfl
theorem k4_54 : Cond.selects "FeltGlass$Panel" yX7_hasSpot yX7_hasSpot ∈ zALL := zT4 54 rfl rfl
theorem k4_55 : Cond.code yX7_hasSpot prog_9_method_4_code 2 (some .boolean) ∈ zALL := zT4 55 rfl rfl
theorem k4_56 : Cond.methodLink "FeltGlassLaw" 80 yX11_track ∈ zALL := zT4 56 rfl rfl
theorem k4_57 : Cond.instanceMethod yX11_track ∈ zALL := zT4 57 rfl rfl
theorem k4_58 : Cond.selects "FeltGlass" yX11_track yX11_track ∈ zALL := zT4 58 rfl rfl
theorem k4_59 : Cond.code yX11_track prog_1_method_18_code 3 (some .int) ∈ zALL := zT4 59 rfl rfl
theorem k4_60 : Cond.methodLink "FeltGlass" 164 yX7_hasTrack ∈ zALL := zT4 60 rfl rfl
theorem k4_61 : Cond.instanceMethod yX7_hasTrack ∈ zALL := zT4 61 rfl rfl
theorem k4_62 : Cond.selects "FeltGlass$Panel" yX7_hasTrack yX7_hasTrack ∈ zALL := zT4 62 rfl rfl
theorem k4_63 : Cond.code yX7_hasTrack prog_9_method_5_code 2 (some .boolean) ∈ zALL := zT4 63 rfl rfl
theorem k4_64 : Cond.methodLink "FeltGlassLaw" 84 yX11_as ∈ zALL := zT4 64 rfl rfl
theorem k4_65 : Cond.instanceMethod yX11_as ∈ zALL := zT4 65 rfl rfl
theorem k4_66 : Cond.selects "FeltGlass" yX11_as yX11_as ∈ zALL := zT4 66 rfl rfl
theorem k4_67 : Cond.code yX11_as prog_1_method_19_code 4 (some .int) ∈ zALL := zT4 67 rfl rfl
theorem k4_68 : Cond.methodLink "FeltGlassLaw" 88 yX11_event ∈ zALL := zT4 68 rfl rfl
theorem k4_69 : Cond.instanceMethod yX11_event ∈ zALL := zT4 69 rfl rfl
theorem k4_70 : Cond.selects "FeltGlass" yX11_event yX11_event ∈ zALL := zT4 70 rfl rfl
theorem k4_71 : Cond.code yX11_event prog_1_method_20_code 3 (some .int) ∈ zALL := zT4 71 rfl rfl
theorem k4_72 : Cond.methodLink "FeltGlass" 174 yX4_kept ∈ zALL := zT4 72 rfl rfl
theorem k4_73 : Cond.instanceMethod yX4_kept ∈ zALL := zT4 73 rfl rfl
theorem k4_74 : Cond.selects "FeltGlass$Journal" yX4_kept yX4_kept ∈ zALL := zT4 74 rfl rfl
theorem k4_75 : Cond.code yX4_kept prog_6_method_3_code 1 (some .int) ∈ zALL := zT4 75 rfl rfl
theorem k4_76 : Cond.methodLink "FeltGlass$Journal" 32 yJ9_min_7cf53 ∈ zALL := zT4 76 rfl rfl
theorem k4_77 : Cond.methodLink "FeltGlass" 177 yX4_fact ∈ zALL := zT4 77 rfl rfl
theorem k4_78 : Cond.instanceMethod yX4_fact ∈ zALL := zT4 78 rfl rfl
theorem k4_79 : Cond.selects "FeltGlass$Journal" yX4_fact yX4_fact ∈ zALL := zT4 79 rfl rfl
theorem k4_80 : Cond.code yX4_fact prog_6_method_4_code 4 (some .int) ∈ zALL := zT4 80 rfl rfl
theorem k4_81 : Cond.methodLink "FeltGlass$Journal" 38 yJ9_floorMod_7cf53 ∈ zALL := zT4 81 rfl rfl
theorem k4_82 : Cond.static yJ9_floorMod_7cf53 ∈ zALL := zT4 82 rfl rfl
theorem k4_83 : Cond.code yJ9_floorMod_7cf53 prog_15_method_50_code 3 (some .int) ∈ zALL := zT4 83 rfl rfl
theorem k4_84 : Cond.methodLink "FeltGlassLaw" 92 yX11_count ∈ zALL := zT4 84 rfl rfl
theorem k4_85 : Cond.instanceMethod yX11_count ∈ zALL := zT4 85 rfl rfl
theorem k4_86 : Cond.selects "FeltGlass" yX11_count yX11_count ∈ zALL := zT4 86 rfl rfl
theorem k4_87 : Cond.code yX11_count prog_1_method_21_code 2 (some .int) ∈ zALL := zT4 87 rfl rfl
theorem k4_88 : Cond.methodLink "FeltGlassLaw" 96 yX11_events ∈ zALL := zT4 88 rfl rfl
theorem k4_89 : Cond.instanceMethod yX11_events ∈ zALL := zT4 89 rfl rfl
theorem k4_90 : Cond.selects "FeltGlass" yX11_events yX11_events ∈ zALL := zT4 90 rfl rfl
theorem k4_91 : Cond.code yX11_events prog_1_method_22_code 2 (some .int) ∈ zALL := zT4 91 rfl rfl
theorem k4_92 : Cond.methodLink "FeltGlassLaw" 100 yX11_digest ∈ zALL := zT4 92 rfl rfl
theorem k4_93 : Cond.instanceMethod yX11_digest ∈ zALL := zT4 93 rfl rfl
theorem k4_94 : Cond.selects "FeltGlass" yX11_digest yX11_digest ∈ zALL := zT4 94 rfl rfl
theorem k4_95 : Cond.code yX11_digest prog_1_method_23_code 4 (some .long) ∈ zALL := zT4 95 rfl rfl
theorem k4_96 : Cond.constantLong "FeltGlass" 190 (1583) ∈ zALL := zT4 96 rfl rfl
theorem k4_97 : Cond.methodLink "FeltGlass" 192 yX11_hashPanelAndFingers ∈ zALL := zT4 97 rfl rfl
theorem k4_99 : Cond.instanceMethod yX11_hashPanelAndFingers ∈ zALL := zT4 99 rfl rfl
theorem k4_100 : Cond.code yX11_hashPanelAndFingers prog_1_method_24_code 7 (some .long) ∈ zALL := zT4 100 rfl rfl
theorem k4_101 : Cond.constantLong "FeltGlass" 208 (31) ∈ zALL := zT4 101 rfl rfl
theorem k4_102 : Cond.methodLink "FeltGlass" 219 yX11_about ∈ zALL := zT4 102 rfl rfl
theorem k4_103 : Cond.methodLink "FeltGlass" 222 yX11_finger ∈ zALL := zT4 103 rfl rfl
theorem k4_104 : Cond.methodLink "FeltGlass" 196 yX11_hashCells ∈ zALL := zT4 104 rfl rfl
theorem k4_106 : Cond.instanceMethod yX11_hashCells ∈ zALL := zT4 106 rfl rfl
theorem k4_107 : Cond.code yX11_hashCells prog_1_method_25_code 7 (some .long) ∈ zALL := zT4 107 rfl rfl
theorem k4_108 : Cond.methodLink "FeltGlass" 225 yX11_cell ∈ zALL := zT4 108 rfl rfl
theorem k4_109 : Cond.methodLink "FeltGlass" 199 yX11_hashSpots ∈ zALL := zT4 109 rfl rfl
theorem k4_111 : Cond.instanceMethod yX11_hashSpots ∈ zALL := zT4 111 rfl rfl
theorem k4_112 : Cond.code yX11_hashSpots prog_1_method_26_code 7 (some .long) ∈ zALL := zT4 112 rfl rfl
theorem k4_113 : Cond.methodLink "FeltGlass" 231 yX11_spot ∈ zALL := zT4 113 rfl rfl
theorem k4_114 : Cond.methodLink "FeltGlass" 202 yX11_hashTracks ∈ zALL := zT4 114 rfl rfl
theorem k4_116 : Cond.instanceMethod yX11_hashTracks ∈ zALL := zT4 116 rfl rfl
theorem k4_117 : Cond.code yX11_hashTracks prog_1_method_27_code 7 (some .long) ∈ zALL := zT4 117 rfl rfl
theorem k4_118 : Cond.methodLink "FeltGlass" 235 yX11_track ∈ zALL := zT4 118 rfl rfl
theorem k4_119 : Cond.methodLink "FeltGlass" 205 yX11_hashJournal ∈ zALL := zT4 119 rfl rfl
theorem k4_121 : Cond.instanceMethod yX11_hashJournal ∈ zALL := zT4 121 rfl rfl
theorem k4_122 : Cond.code yX11_hashJournal prog_1_method_28_code 7 (some .long) ∈ zALL := zT4 122 rfl rfl
theorem k4_123 : Cond.methodLink "FeltGlass" 238 yX11_event ∈ zALL := zT4 123 rfl rfl
theorem k4_124 : Cond.methodLink "FeltGlass" 213 yX11_count ∈ zALL := zT4 124 rfl rfl
theorem k4_125 : Cond.methodLink "FeltGlass" 216 yX11_events ∈ zALL := zT4 125 rfl rfl
theorem k4_126 : Cond.classLink "FeltGlassLaw" 10 "FeltGlassModel" ∈ zALL := zT4 126 rfl rfl
theorem k4_127 : Cond.instantiable "FeltGlassModel" 58 ∈ zALL := zT4 127 rfl rfl
theorem k4_128 : Cond.methodLink "FeltGlassLaw" 12 yX12_init ∈ zALL := zT4 128 rfl rfl
theorem k4_129 : Cond.instanceMethod yX12_init ∈ zALL := zT4 129 rfl rfl
theorem k4_130 : Cond.code yX12_init prog_14_method_1_code 1 none ∈ zALL := zT4 130 rfl rfl
theorem k4_131 : Cond.methodLink "FeltGlassModel" 1 objectInit ∈ zALL := zT4 131 rfl rfl
theorem k4_132 : Cond.fieldLink "FeltGlassModel" 127 "FeltGlassModel" "pageLength" "I" ∈ zALL := zT4 132 rfl rfl
theorem k4_133 : Cond.fieldLink "FeltGlassModel" 7 "FeltGlassModel" "page" "[I" ∈ zALL := zT4 133 rfl rfl
theorem k4_134 : Cond.fieldLink "FeltGlassModel" 116 "FeltGlassModel" "wide" "I" ∈ zALL := zT4 134 rfl rfl
theorem k4_135 : Cond.fieldLink "FeltGlassModel" 120 "FeltGlassModel" "high" "I" ∈ zALL := zT4 135 rfl rfl
theorem k4_136 : Cond.fieldLink "FeltGlassModel" 13 "FeltGlassModel" "airOf" "[I" ∈ zALL := zT4 136 rfl rfl
theorem k4_137 : Cond.fieldLink "FeltGlassModel" 16 "FeltGlassModel" "used" "[I" ∈ zALL := zT4 137 rfl rfl
theorem k4_138 : Cond.fieldLink "FeltGlassModel" 19 "FeltGlassModel" "raw" "[I" ∈ zALL := zT4 138 rfl rfl
theorem k4_139 : Cond.fieldLink "FeltGlassModel" 22 "FeltGlassModel" "delta" "[I" ∈ zALL := zT4 139 rfl rfl
theorem k4_140 : Cond.fieldLink "FeltGlassModel" 25 "FeltGlassModel" "spotOf" "[I" ∈ zALL := zT4 140 rfl rfl
theorem k4_141 : Cond.fieldLink "FeltGlassModel" 28 "FeltGlassModel" "isOn" "[Z" ∈ zALL := zT4 141 rfl rfl
theorem k4_142 : Cond.fieldLink "FeltGlassModel" 32 "FeltGlassModel" "fingerU" "[I" ∈ zALL := zT4 142 rfl rfl
theorem k4_143 : Cond.fieldLink "FeltGlassModel" 35 "FeltGlassModel" "fingerV" "[I" ∈ zALL := zT4 143 rfl rfl
theorem k4_144 : Cond.fieldLink "FeltGlassModel" 38 "FeltGlassModel" "power" "[I" ∈ zALL := zT4 144 rfl rfl
theorem k4_145 : Cond.fieldLink "FeltGlassModel" 41 "FeltGlassModel" "noiseOf" "[I" ∈ zALL := zT4 145 rfl rfl
theorem k4_146 : Cond.fieldLink "FeltGlassModel" 44 "FeltGlassModel" "bounds" "[I" ∈ zALL := zT4 146 rfl rfl
theorem k4_147 : Cond.fieldLink "FeltGlassModel" 194 "FeltGlassModel" "drive" "I" ∈ zALL := zT4 147 rfl rfl
theorem k4_148 : Cond.fieldLink "FeltGlassModel" 197 "FeltGlassModel" "seedNow" "I" ∈ zALL := zT4 148 rfl rfl
theorem k4_149 : Cond.fieldLink "FeltGlassModel" 200 "FeltGlassModel" "framesHere" "I" ∈ zALL := zT4 149 rfl rfl
theorem k4_150 : Cond.fieldLink "FeltGlassModel" 203 "FeltGlassModel" "spanNow" "I" ∈ zALL := zT4 150 rfl rfl
theorem k4_151 : Cond.fieldLink "FeltGlassModel" 206 "FeltGlassModel" "wasNoisy" "Z" ∈ zALL := zT4 151 rfl rfl
theorem k4_152 : Cond.fieldLink "FeltGlassModel" 209 "FeltGlassModel" "spots" "I" ∈ zALL := zT4 152 rfl rfl
theorem k4_153 : Cond.fieldLink "FeltGlassModel" 47 "FeltGlassModel" "spotTop" "[I" ∈ zALL := zT4 153 rfl rfl
theorem k4_154 : Cond.fieldLink "FeltGlassModel" 50 "FeltGlassModel" "spotSize" "[I" ∈ zALL := zT4 154 rfl rfl
theorem k4_155 : Cond.fieldLink "FeltGlassModel" 53 "FeltGlassModel" "spotMass" "[I" ∈ zALL := zT4 155 rfl rfl
theorem k4_156 : Cond.fieldLink "FeltGlassModel" 56 "FeltGlassModel" "spotX" "[I" ∈ zALL := zT4 156 rfl rfl
theorem k4_157 : Cond.fieldLink "FeltGlassModel" 59 "FeltGlassModel" "spotY" "[I" ∈ zALL := zT4 157 rfl rfl
theorem k4_158 : Cond.fieldLink "FeltGlassModel" 62 "FeltGlassModel" "spotId" "[I" ∈ zALL := zT4 158 rfl rfl
theorem k4_159 : Cond.fieldLink "FeltGlassModel" 212 "FeltGlassModel" "tracks" "I" ∈ zALL := zT4 159 rfl rfl
theorem k4_160 : Cond.fieldLink "FeltGlassModel" 65 "FeltGlassModel" "trackId" "[I" ∈ zALL := zT4 160 rfl rfl
theorem k4_161 : Cond.fieldLink "FeltGlassModel" 68 "FeltGlassModel" "trackX" "[I" ∈ zALL := zT4 161 rfl rfl
theorem k4_162 : Cond.fieldLink "FeltGlassModel" 71 "FeltGlassModel" "trackY" "[I" ∈ zALL := zT4 162 rfl rfl
theorem k4_163 : Cond.fieldLink "FeltGlassModel" 74 "FeltGlassModel" "trackSize" "[I" ∈ zALL := zT4 163 rfl rfl
theorem k4_164 : Cond.fieldLink "FeltGlassModel" 77 "FeltGlassModel" "trackMass" "[I" ∈ zALL := zT4 164 rfl rfl
theorem k4_165 : Cond.fieldLink "FeltGlassModel" 80 "FeltGlassModel" "age" "[I" ∈ zALL := zT4 165 rfl rfl
theorem k4_166 : Cond.fieldLink "FeltGlassModel" 83 "FeltGlassModel" "missed" "[I" ∈ zALL := zT4 166 rfl rfl
theorem k4_167 : Cond.fieldLink "FeltGlassModel" 86 "FeltGlassModel" "moved" "[I" ∈ zALL := zT4 167 rfl rfl
theorem k4_168 : Cond.fieldLink "FeltGlassModel" 89 "FeltGlassModel" "isPalm" "[Z" ∈ zALL := zT4 168 rfl rfl
theorem k4_169 : Cond.fieldLink "FeltGlassModel" 316 "FeltGlassModel" "kept" "I" ∈ zALL := zT4 169 rfl rfl
theorem k4_170 : Cond.fieldLink "FeltGlassModel" 92 "FeltGlassModel" "eventSort" "[I" ∈ zALL := zT4 170 rfl rfl
theorem k4_171 : Cond.fieldLink "FeltGlassModel" 95 "FeltGlassModel" "eventId" "[I" ∈ zALL := zT4 171 rfl rfl
theorem k4_172 : Cond.fieldLink "FeltGlassModel" 98 "FeltGlassModel" "eventFrame" "[I" ∈ zALL := zT4 172 rfl rfl
theorem k4_173 : Cond.fieldLink "FeltGlassModel" 101 "FeltGlassModel" "eventsOf" "[I" ∈ zALL := zT4 173 rfl rfl
theorem k4_174 : Cond.fieldLink "FeltGlassModel" 340 "FeltGlassModel" "framesEver" "I" ∈ zALL := zT4 174 rfl rfl
theorem k4_175 : Cond.fieldLink "FeltGlassModel" 349 "FeltGlassModel" "noisyEver" "I" ∈ zALL := zT4 175 rfl rfl
theorem k4_176 : Cond.fieldLink "FeltGlassModel" 334 "FeltGlassModel" "ids" "I" ∈ zALL := zT4 176 rfl rfl
theorem k4_177 : Cond.fieldLink "FeltGlassModel" 185 "FeltGlassModel" "textsRead" "I" ∈ zALL := zT4 177 rfl rfl
theorem k4_178 : Cond.fieldLink "FeltGlassModel" 215 "FeltGlassModel" "glasses" "I" ∈ zALL := zT4 178 rfl rfl
theorem k4_179 : Cond.fieldLink "FeltGlassModel" 130 "FeltGlassModel" "stage" "I" ∈ zALL := zT4 179 rfl rfl
theorem k4_180 : Cond.fieldLink "FeltGlassModel" 133 "FeltGlassModel" "figures" "I" ∈ zALL := zT4 180 rfl rfl
theorem k4_181 : Cond.fieldLink "FeltGlassModel" 158 "FeltGlassModel" "newFinger" "I" ∈ zALL := zT4 181 rfl rfl
theorem k4_182 : Cond.fieldLink "FeltGlassModel" 140 "FeltGlassModel" "newU" "I" ∈ zALL := zT4 182 rfl rfl
theorem k4_183 : Cond.fieldLink "FeltGlassModel" 147 "FeltGlassModel" "newV" "I" ∈ zALL := zT4 183 rfl rfl
theorem k4_184 : Cond.fieldLink "FeltGlassModel" 154 "FeltGlassModel" "isTaken" "Z" ∈ zALL := zT4 184 rfl rfl
theorem k4_185 : Cond.fieldLink "FeltGlassModel" 104 "FeltGlassModel" "topOf" "[I" ∈ zALL := zT4 185 rfl rfl
theorem k4_186 : Cond.fieldLink "FeltGlassModel" 107 "FeltGlassModel" "pairsOf" "[I" ∈ zALL := zT4 186 rfl rfl
theorem k4_187 : Cond.fieldLink "FeltGlassModel" 110 "FeltGlassModel" "costOf" "[I" ∈ zALL := zT4 187 rfl rfl
theorem k4_188 : Cond.fieldLink "FeltGlassModel" 113 "FeltGlassModel" "pairOf" "[I" ∈ zALL := zT4 188 rfl rfl
theorem k4_189 : Cond.fieldLink "FeltGlassModel" 402 "FeltGlassModel" "h" "J" ∈ zALL := zT4 189 rfl rfl
theorem k5_67 : Cond.methodLink "FeltGlassLaw" 17 yX12_letter ∈ zALL := zT5 67 rfl rfl
theorem k5_68 : Cond.instanceMethod yX12_letter ∈ zALL := zT5 68 rfl rfl
theorem k5_69 : Cond.selects "FeltGlassModel" yX12_letter yX12_letter ∈ zALL := zT5 69 rfl rfl
theorem k5_70 : Cond.code yX12_letter prog_14_method_7_code 2 (some .int) ∈ zALL := zT5 70 rfl rfl
theorem k5_71 : Cond.methodLink "FeltGlassModel" 123 yX12_within ∈ zALL := zT5 71 rfl rfl
theorem k5_72 : Cond.static yX12_within ∈ zALL := zT5 72 rfl rfl
theorem k5_73 : Cond.code yX12_within prog_14_method_3_code 3 (some .boolean) ∈ zALL := zT5 73 rfl rfl
theorem k5_74 : Cond.methodLink "FeltGlassLaw" 22 yX12_blank ∈ zALL := zT5 74 rfl rfl
theorem k5_75 : Cond.instanceMethod yX12_blank ∈ zALL := zT5 75 rfl rfl
theorem k5_76 : Cond.selects "FeltGlassModel" yX12_blank yX12_blank ∈ zALL := zT5 76 rfl rfl
theorem k5_77 : Cond.code yX12_blank prog_14_method_8_code 2 (some .int) ∈ zALL := zT5 77 rfl rfl
theorem k5_78 : Cond.methodLink "FeltGlassLaw" 26 yX12_fault ∈ zALL := zT5 78 rfl rfl
theorem k5_79 : Cond.instanceMethod yX12_fault ∈ zALL := zT5 79 rfl rfl
theorem k5_80 : Cond.selects "FeltGlassModel" yX12_fault yX12_fault ∈ zALL := zT5 80 rfl rfl
theorem k5_81 : Cond.code yX12_fault prog_14_method_18_code 1 (some .int) ∈ zALL := zT5 81 rfl rfl
theorem k5_82 : Cond.methodLink "FeltGlassModel" 177 yX12_isGlass ∈ zALL := zT5 82 rfl rfl
theorem k5_84 : Cond.instanceMethod yX12_isGlass ∈ zALL := zT5 84 rfl rfl
theorem k5_85 : Cond.code yX12_isGlass prog_14_method_5_code 1 (some .boolean) ∈ zALL := zT5 85 rfl rfl
theorem k5_86 : Cond.methodLink "FeltGlassModel" 181 yX12_goAlong ∈ zALL := zT5 86 rfl rfl
theorem k5_88 : Cond.instanceMethod yX12_goAlong ∈ zALL := zT5 88 rfl rfl
theorem k5_89 : Cond.code yX12_goAlong prog_14_method_17_code 3 (some .int) ∈ zALL := zT5 89 rfl rfl
theorem k5_90 : Cond.methodLink "FeltGlassModel" 174 yX12_takes ∈ zALL := zT5 90 rfl rfl
theorem k5_92 : Cond.instanceMethod yX12_takes ∈ zALL := zT5 92 rfl rfl
theorem k5_93 : Cond.code yX12_takes prog_14_method_16_code 2 (some .boolean) ∈ zALL := zT5 93 rfl rfl
theorem k5_94 : Cond.methodLink "FeltGlassModel" 161 yX12_takesDigit ∈ zALL := zT5 94 rfl rfl
theorem k5_96 : Cond.instanceMethod yX12_takesDigit ∈ zALL := zT5 96 rfl rfl
theorem k5_97 : Cond.code yX12_takesDigit prog_14_method_14_code 3 (some .boolean) ∈ zALL := zT5 97 rfl rfl
theorem k5_98 : Cond.methodLink "FeltGlassModel" 143 yX12_goes ∈ zALL := zT5 98 rfl rfl
theorem k5_100 : Cond.instanceMethod yX12_goes ∈ zALL := zT5 100 rfl rfl
theorem k5_101 : Cond.code yX12_goes prog_14_method_11_code 3 (some .boolean) ∈ zALL := zT5 101 rfl rfl
theorem k5_102 : Cond.methodLink "FeltGlassModel" 165 yX12_takesKind ∈ zALL := zT5 102 rfl rfl
theorem k5_104 : Cond.instanceMethod yX12_takesKind ∈ zALL := zT5 104 rfl rfl
theorem k5_105 : Cond.code yX12_takesKind prog_14_method_15_code 2 (some .boolean) ∈ zALL := zT5 105 rfl rfl
theorem k5_106 : Cond.methodLink "FeltGlassModel" 168 yX12_takesFigure ∈ zALL := zT5 106 rfl rfl
theorem k5_108 : Cond.instanceMethod yX12_takesFigure ∈ zALL := zT5 108 rfl rfl
theorem k5_109 : Cond.code yX12_takesFigure prog_14_method_10_code 4 (some .boolean) ∈ zALL := zT5 109 rfl rfl
theorem k5_110 : Cond.methodLink "FeltGlassModel" 136 yX12_mostNow ∈ zALL := zT5 110 rfl rfl
theorem k5_112 : Cond.instanceMethod yX12_mostNow ∈ zALL := zT5 112 rfl rfl
theorem k5_113 : Cond.code yX12_mostNow prog_14_method_9_code 1 (some .int) ∈ zALL := zT5 113 rfl rfl
theorem k5_114 : Cond.methodLink "FeltGlassModel" 171 yX12_takesSign ∈ zALL := zT5 114 rfl rfl
theorem k5_116 : Cond.instanceMethod yX12_takesSign ∈ zALL := zT5 116 rfl rfl
theorem k5_117 : Cond.code yX12_takesSign prog_14_method_12_code 4 (some .boolean) ∈ zALL := zT5 117 rfl rfl
theorem k5_118 : Cond.methodLink "FeltGlassModel" 150 yX12_putOn ∈ zALL := zT5 118 rfl rfl
theorem k5_120 : Cond.instanceMethod yX12_putOn ∈ zALL := zT5 120 rfl rfl
theorem k5_121 : Cond.code yX12_putOn prog_14_method_13_code 2 none ∈ zALL := zT5 121 rfl rfl
theorem k5_122 : Cond.methodLink "FeltGlassLaw" 30 yX12_fingers ∈ zALL := zT5 122 rfl rfl
theorem k5_123 : Cond.instanceMethod yX12_fingers ∈ zALL := zT5 123 rfl rfl
theorem k5_124 : Cond.selects "FeltGlassModel" yX12_fingers yX12_fingers ∈ zALL := zT5 124 rfl rfl
theorem k5_125 : Cond.code yX12_fingers prog_14_method_20_code 2 (some .int) ∈ zALL := zT5 125 rfl rfl
theorem k5_126 : Cond.methodLink "FeltGlassModel" 188 yX12_onMany ∈ zALL := zT5 126 rfl rfl
theorem k5_128 : Cond.instanceMethod yX12_onMany ∈ zALL := zT5 128 rfl rfl
theorem k5_129 : Cond.code yX12_onMany prog_14_method_19_code 3 (some .int) ∈ zALL := zT5 129 rfl rfl
theorem k5_130 : Cond.methodLink "FeltGlassLaw" 35 yX12_glass ∈ zALL := zT5 130 rfl rfl
theorem k5_131 : Cond.instanceMethod yX12_glass ∈ zALL := zT5 131 rfl rfl
theorem k5_132 : Cond.selects "FeltGlassModel" yX12_glass yX12_glass ∈ zALL := zT5 132 rfl rfl
theorem k5_133 : Cond.code yX12_glass prog_14_method_22_code 4 (some .int) ∈ zALL := zT5 133 rfl rfl
theorem k5_134 : Cond.methodLink "FeltGlassModel" 191 yX12_layBounds ∈ zALL := zT5 134 rfl rfl
theorem k5_136 : Cond.instanceMethod yX12_layBounds ∈ zALL := zT5 136 rfl rfl
theorem k5_137 : Cond.code yX12_layBounds prog_14_method_21_code 1 none ∈ zALL := zT5 137 rfl rfl
theorem k5_138 : Cond.methodLink "FeltGlassModel" 218 yX12_cells ∈ zALL := zT5 138 rfl rfl
theorem k5_140 : Cond.instanceMethod yX12_cells ∈ zALL := zT5 140 rfl rfl
theorem k5_141 : Cond.code yX12_cells prog_14_method_6_code 1 (some .int) ∈ zALL := zT5 141 rfl rfl
theorem k5_142 : Cond.methodLink "FeltGlassLaw" 39 yX12_air ∈ zALL := zT5 142 rfl rfl
theorem k5_143 : Cond.instanceMethod yX12_air ∈ zALL := zT5 143 rfl rfl
theorem k5_144 : Cond.selects "FeltGlassModel" yX12_air yX12_air ∈ zALL := zT5 144 rfl rfl
theorem k5_145 : Cond.code yX12_air prog_14_method_24_code 4 (some .int) ∈ zALL := zT5 145 rfl rfl
theorem k5_146 : Cond.methodLink "FeltGlassModel" 221 yX12_isCell ∈ zALL := zT5 146 rfl rfl
theorem k5_148 : Cond.instanceMethod yX12_isCell ∈ zALL := zT5 148 rfl rfl
theorem k5_149 : Cond.code yX12_isCell prog_14_method_23_code 2 (some .boolean) ∈ zALL := zT5 149 rfl rfl
theorem k5_150 : Cond.methodLink "FeltGlassLaw" 43 yX12_warm ∈ zALL := zT5 150 rfl rfl
theorem k5_151 : Cond.instanceMethod yX12_warm ∈ zALL := zT5 151 rfl rfl
theorem k5_152 : Cond.selects "FeltGlassModel" yX12_warm yX12_warm ∈ zALL := zT5 152 rfl rfl
theorem k5_153 : Cond.code yX12_warm prog_14_method_26_code 5 (some .int) ∈ zALL := zT5 153 rfl rfl
theorem k5_154 : Cond.methodLink "FeltGlassModel" 224 yX12_held ∈ zALL := zT5 154 rfl rfl
theorem k5_155 : Cond.static yX12_held ∈ zALL := zT5 155 rfl rfl
theorem k5_156 : Cond.code yX12_held prog_14_method_25_code 1 (some .int) ∈ zALL := zT5 156 rfl rfl
theorem k5_157 : Cond.methodLink "FeltGlassLaw" 47 yX12_noise ∈ zALL := zT5 157 rfl rfl
theorem k5_158 : Cond.instanceMethod yX12_noise ∈ zALL := zT5 158 rfl rfl
theorem k5_159 : Cond.selects "FeltGlassModel" yX12_noise yX12_noise ∈ zALL := zT5 159 rfl rfl
theorem k5_160 : Cond.code yX12_noise prog_14_method_27_code 4 (some .int) ∈ zALL := zT5 160 rfl rfl
theorem k5_161 : Cond.methodLink "FeltGlassLaw" 51 yX12_seed ∈ zALL := zT5 161 rfl rfl
theorem k5_162 : Cond.instanceMethod yX12_seed ∈ zALL := zT5 162 rfl rfl
theorem k5_163 : Cond.selects "FeltGlassModel" yX12_seed yX12_seed ∈ zALL := zT5 163 rfl rfl
theorem k5_164 : Cond.code yX12_seed prog_14_method_28_code 3 (some .int) ∈ zALL := zT5 164 rfl rfl
theorem k5_165 : Cond.methodLink "FeltGlassLaw" 55 yX12_bound ∈ zALL := zT5 165 rfl rfl
theorem k5_166 : Cond.instanceMethod yX12_bound ∈ zALL := zT5 166 rfl rfl
theorem k5_167 : Cond.selects "FeltGlassModel" yX12_bound yX12_bound ∈ zALL := zT5 167 rfl rfl
theorem k5_168 : Cond.code yX12_bound prog_14_method_30_code 4 (some .int) ∈ zALL := zT5 168 rfl rfl
theorem k5_169 : Cond.methodLink "FeltGlassModel" 228 yX12_isBound ∈ zALL := zT5 169 rfl rfl
theorem k5_170 : Cond.static yX12_isBound ∈ zALL := zT5 170 rfl rfl
theorem k5_171 : Cond.code yX12_isBound prog_14_method_29_code 2 (some .boolean) ∈ zALL := zT5 171 rfl rfl
theorem k5_172 : Cond.methodLink "FeltGlassLaw" 59 yX12_settle ∈ zALL := zT5 172 rfl rfl
theorem k5_173 : Cond.instanceMethod yX12_settle ∈ zALL := zT5 173 rfl rfl
theorem k5_174 : Cond.selects "FeltGlassModel" yX12_settle yX12_settle ∈ zALL := zT5 174 rfl rfl
theorem k5_175 : Cond.code yX12_settle prog_14_method_31_code 3 (some .int) ∈ zALL := zT5 175 rfl rfl
theorem k5_176 : Cond.methodLink "FeltGlassLaw" 63 yX12_frames ∈ zALL := zT5 176 rfl rfl
theorem k5_177 : Cond.instanceMethod yX12_frames ∈ zALL := zT5 177 rfl rfl
theorem k5_178 : Cond.selects "FeltGlassModel" yX12_frames yX12_frames ∈ zALL := zT5 178 rfl rfl
theorem k5_179 : Cond.code yX12_frames prog_14_method_71_code 4 (some .int) ∈ zALL := zT5 179 rfl rfl
theorem k5_180 : Cond.methodLink "FeltGlassModel" 370 yX12_eventsAll ∈ zALL := zT5 180 rfl rfl
theorem k5_182 : Cond.instanceMethod yX12_eventsAll ∈ zALL := zT5 182 rfl rfl
theorem k5_183 : Cond.code yX12_eventsAll prog_14_method_70_code 1 (some .int) ∈ zALL := zT5 183 rfl rfl
theorem k5_184 : Cond.methodLink "FeltGlassModel" 373 yX12_frame ∈ zALL := zT5 184 rfl rfl
theorem k5_186 : Cond.instanceMethod yX12_frame ∈ zALL := zT5 186 rfl rfl
theorem k5_187 : Cond.code yX12_frame prog_14_method_69_code 1 none ∈ zALL := zT5 187 rfl rfl
theorem k5_188 : Cond.methodLink "FeltGlassModel" 343 yX12_layRaw ∈ zALL := zT5 188 rfl rfl
theorem k5_190 : Cond.instanceMethod yX12_layRaw ∈ zALL := zT5 190 rfl rfl
theorem k5_191 : Cond.code yX12_layRaw prog_14_method_35_code 3 none ∈ zALL := zT5 191 rfl rfl
theorem k5_192 : Cond.methodLink "FeltGlassModel" 244 yX12_feltAll ∈ zALL := zT5 192 rfl rfl
theorem k5_194 : Cond.instanceMethod yX12_feltAll ∈ zALL := zT5 194 rfl rfl
theorem k5_195 : Cond.code yX12_feltAll prog_14_method_33_code 4 (some .int) ∈ zALL := zT5 195 rfl rfl
theorem k5_196 : Cond.methodLink "FeltGlassModel" 232 yX12_feltOf ∈ zALL := zT5 196 rfl rfl
theorem k5_198 : Cond.instanceMethod yX12_feltOf ∈ zALL := zT5 198 rfl rfl
theorem k5_199 : Cond.code yX12_feltOf prog_14_method_32_code 6 (some .int) ∈ zALL := zT5 199 rfl rfl
theorem k5_200 : Cond.methodLink "FeltGlassModel" 247 yX12_draw ∈ zALL := zT5 200 rfl rfl
theorem k5_202 : Cond.instanceMethod yX12_draw ∈ zALL := zT5 202 rfl rfl
theorem k5_203 : Cond.code yX12_draw prog_14_method_34_code 4 (some .int) ∈ zALL := zT5 203 rfl rfl
theorem k5_204 : Cond.constantLong "FeltGlassModel" 236 (1103515245) ∈ zALL := zT5 204 rfl rfl
theorem k5_205 : Cond.constantLong "FeltGlassModel" 238 (12345) ∈ zALL := zT5 205 rfl rfl
theorem k5_206 : Cond.constantLong "FeltGlassModel" 240 (2147483648) ∈ zALL := zT5 206 rfl rfl
theorem k5_207 : Cond.constantLong "FeltGlassModel" 242 (65536) ∈ zALL := zT5 207 rfl rfl
theorem k5_208 : Cond.methodLink "FeltGlassModel" 346 yX12_spanOf ∈ zALL := zT5 208 rfl rfl
theorem k5_210 : Cond.instanceMethod yX12_spanOf ∈ zALL := zT5 210 rfl rfl
theorem k5_211 : Cond.code yX12_spanOf prog_14_method_39_code 4 (some .int) ∈ zALL := zT5 211 rfl rfl
theorem k5_212 : Cond.constant "FeltGlassModel" 256 (268435456) ∈ zALL := zT5 212 rfl rfl
theorem k5_213 : Cond.constant "FeltGlassModel" 257 (-268435456) ∈ zALL := zT5 213 rfl rfl
theorem k5_214 : Cond.methodLink "FeltGlassModel" 258 yX12_isNearTouched ∈ zALL := zT5 214 rfl rfl
theorem k5_216 : Cond.instanceMethod yX12_isNearTouched ∈ zALL := zT5 216 rfl rfl
theorem k5_217 : Cond.code yX12_isNearTouched prog_14_method_38_code 5 (some .boolean) ∈ zALL := zT5 217 rfl rfl
theorem k5_218 : Cond.methodLink "FeltGlassModel" 250 yX12_isTouched ∈ zALL := zT5 218 rfl rfl
theorem k5_220 : Cond.instanceMethod yX12_isTouched ∈ zALL := zT5 220 rfl rfl
theorem k5_221 : Cond.code yX12_isTouched prog_14_method_37_code 2 (some .boolean) ∈ zALL := zT5 221 rfl rfl
theorem k5_222 : Cond.methodLink "FeltGlassModel" 253 yX12_beside ∈ zALL := zT5 222 rfl rfl
theorem k5_224 : Cond.instanceMethod yX12_beside ∈ zALL := zT5 224 rfl rfl
theorem k5_225 : Cond.code yX12_beside prog_14_method_36_code 6 (some .int) ∈ zALL := zT5 225 rfl rfl
theorem k5_226 : Cond.methodLink "FeltGlassModel" 352 yX12_layHills ∈ zALL := zT5 226 rfl rfl
theorem k5_228 : Cond.instanceMethod yX12_layHills ∈ zALL := zT5 228 rfl rfl
theorem k5_229 : Cond.code yX12_layHills prog_14_method_47_code 2 none ∈ zALL := zT5 229 rfl rfl
theorem k5_230 : Cond.methodLink "FeltGlassModel" 276 yX12_layTops ∈ zALL := zT5 230 rfl rfl
theorem k5_232 : Cond.instanceMethod yX12_layTops ∈ zALL := zT5 232 rfl rfl
theorem k5_233 : Cond.code yX12_layTops prog_14_method_41_code 3 none ∈ zALL := zT5 233 rfl rfl
theorem k5_234 : Cond.methodLink "FeltGlassModel" 261 yX12_higher ∈ zALL := zT5 234 rfl rfl
theorem k5_236 : Cond.instanceMethod yX12_higher ∈ zALL := zT5 236 rfl rfl
theorem k5_237 : Cond.code yX12_higher prog_14_method_40_code 6 (some .int) ∈ zALL := zT5 237 rfl rfl
theorem k5_238 : Cond.methodLink "FeltGlassModel" 279 yX12_joinOnce ∈ zALL := zT5 238 rfl rfl
theorem k6_0 : Cond.instanceMethod yX12_joinOnce ∈ zALL := zT6 0 rfl rfl
theorem k6_1 : Cond.code yX12_joinOnce prog_14_method_46_code 7 (some .boolean) ∈ zALL := zT6 1 rfl rfl
theorem k6_2 : Cond.methodLink "FeltGlassModel" 267 yX12_isTop ∈ zALL := zT6 2 rfl rfl
theorem k6_4 : Cond.instanceMethod yX12_isTop ∈ zALL := zT6 4 rfl rfl
theorem k6_5 : Cond.code yX12_isTop prog_14_method_44_code 2 (some .boolean) ∈ zALL := zT6 5 rfl rfl
theorem k6_6 : Cond.methodLink "FeltGlassModel" 270 yX12_passOf ∈ zALL := zT6 6 rfl rfl
theorem k6_8 : Cond.instanceMethod yX12_passOf ∈ zALL := zT6 8 rfl rfl
theorem k6_9 : Cond.code yX12_passOf prog_14_method_43_code 8 (some .int) ∈ zALL := zT6 9 rfl rfl
theorem k6_10 : Cond.methodLink "FeltGlassModel" 264 yX12_lesser ∈ zALL := zT6 10 rfl rfl
theorem k6_11 : Cond.static yX12_lesser ∈ zALL := zT6 11 rfl rfl
theorem k6_12 : Cond.code yX12_lesser prog_14_method_42_code 2 (some .int) ∈ zALL := zT6 12 rfl rfl
theorem k6_13 : Cond.methodLink "FeltGlassModel" 273 yX12_isJoined ∈ zALL := zT6 13 rfl rfl
theorem k6_15 : Cond.instanceMethod yX12_isJoined ∈ zALL := zT6 15 rfl rfl
theorem k6_16 : Cond.code yX12_isJoined prog_14_method_45_code 4 (some .boolean) ∈ zALL := zT6 16 rfl rfl
theorem k6_17 : Cond.methodLink "FeltGlassModel" 355 yX12_laySpots ∈ zALL := zT6 17 rfl rfl
theorem k6_19 : Cond.instanceMethod yX12_laySpots ∈ zALL := zT6 19 rfl rfl
theorem k6_20 : Cond.code yX12_laySpots prog_14_method_53_code 2 none ∈ zALL := zT6 20 rfl rfl
theorem k6_21 : Cond.methodLink "FeltGlassModel" 285 yX12_isHigh ∈ zALL := zT6 21 rfl rfl
theorem k6_23 : Cond.instanceMethod yX12_isHigh ∈ zALL := zT6 23 rfl rfl
theorem k6_24 : Cond.code yX12_isHigh prog_14_method_50_code 2 (some .boolean) ∈ zALL := zT6 24 rfl rfl
theorem k6_25 : Cond.methodLink "FeltGlassModel" 291 yX12_aheadOf ∈ zALL := zT6 25 rfl rfl
theorem k6_27 : Cond.instanceMethod yX12_aheadOf ∈ zALL := zT6 27 rfl rfl
theorem k6_28 : Cond.code yX12_aheadOf prog_14_method_51_code 6 (some .int) ∈ zALL := zT6 28 rfl rfl
theorem k6_29 : Cond.methodLink "FeltGlassModel" 282 yX12_massOf ∈ zALL := zT6 29 rfl rfl
theorem k6_31 : Cond.instanceMethod yX12_massOf ∈ zALL := zT6 31 rfl rfl
theorem k6_32 : Cond.code yX12_massOf prog_14_method_48_code 4 (some .int) ∈ zALL := zT6 32 rfl rfl
theorem k6_33 : Cond.methodLink "FeltGlassModel" 294 yX12_laySpot ∈ zALL := zT6 33 rfl rfl
theorem k6_35 : Cond.instanceMethod yX12_laySpot ∈ zALL := zT6 35 rfl rfl
theorem k6_36 : Cond.code yX12_laySpot prog_14_method_52_code 6 none ∈ zALL := zT6 36 rfl rfl
theorem k6_37 : Cond.methodLink "FeltGlassModel" 288 yX12_sizeOf ∈ zALL := zT6 37 rfl rfl
theorem k6_39 : Cond.instanceMethod yX12_sizeOf ∈ zALL := zT6 39 rfl rfl
theorem k6_40 : Cond.code yX12_sizeOf prog_14_method_49_code 4 (some .int) ∈ zALL := zT6 40 rfl rfl
theorem k6_41 : Cond.methodLink "FeltGlassModel" 358 yX12_layPairs ∈ zALL := zT6 41 rfl rfl
theorem k6_43 : Cond.instanceMethod yX12_layPairs ∈ zALL := zT6 43 rfl rfl
theorem k6_44 : Cond.code yX12_layPairs prog_14_method_59_code 4 none ∈ zALL := zT6 44 rfl rfl
theorem k6_45 : Cond.methodLink "FeltGlassModel" 309 yX12_layPairsOf ∈ zALL := zT6 45 rfl rfl
theorem k6_47 : Cond.instanceMethod yX12_layPairsOf ∈ zALL := zT6 47 rfl rfl
theorem k6_48 : Cond.code yX12_layPairsOf prog_14_method_57_code 7 none ∈ zALL := zT6 48 rfl rfl
theorem k6_49 : Cond.methodLink "FeltGlassModel" 300 yX12_isNear ∈ zALL := zT6 49 rfl rfl
theorem k6_51 : Cond.instanceMethod yX12_isNear ∈ zALL := zT6 51 rfl rfl
theorem k6_52 : Cond.code yX12_isNear prog_14_method_54_code 3 (some .boolean) ∈ zALL := zT6 52 rfl rfl
theorem k6_53 : Cond.methodLink "FeltGlassModel" 297 yX12_abs ∈ zALL := zT6 53 rfl rfl
theorem k6_54 : Cond.static yX12_abs ∈ zALL := zT6 54 rfl rfl
theorem k6_55 : Cond.code yX12_abs prog_14_method_4_code 1 (some .int) ∈ zALL := zT6 55 rfl rfl
theorem k6_56 : Cond.methodLink "FeltGlassModel" 303 yX12_pairCost ∈ zALL := zT6 56 rfl rfl
theorem k6_58 : Cond.instanceMethod yX12_pairCost ∈ zALL := zT6 58 rfl rfl
theorem k6_59 : Cond.code yX12_pairCost prog_14_method_55_code 5 (some .int) ∈ zALL := zT6 59 rfl rfl
theorem k6_60 : Cond.methodLink "FeltGlassModel" 306 yX12_isBetter ∈ zALL := zT6 60 rfl rfl
theorem k6_62 : Cond.instanceMethod yX12_isBetter ∈ zALL := zT6 62 rfl rfl
theorem k6_63 : Cond.code yX12_isBetter prog_14_method_56_code 4 (some .boolean) ∈ zALL := zT6 63 rfl rfl
theorem k6_64 : Cond.methodLink "FeltGlassModel" 313 yX12_isBestPair ∈ zALL := zT6 64 rfl rfl
theorem k6_66 : Cond.instanceMethod yX12_isBestPair ∈ zALL := zT6 66 rfl rfl
theorem k6_67 : Cond.code yX12_isBestPair prog_14_method_58_code 6 (some .boolean) ∈ zALL := zT6 67 rfl rfl
theorem k6_68 : Cond.methodLink "FeltGlassModel" 361 yX12_followAll ∈ zALL := zT6 68 rfl rfl
theorem k6_70 : Cond.instanceMethod yX12_followAll ∈ zALL := zT6 70 rfl rfl
theorem k6_71 : Cond.code yX12_followAll prog_14_method_65_code 4 none ∈ zALL := zT6 71 rfl rfl
theorem k6_72 : Cond.methodLink "FeltGlassModel" 325 yX12_follow ∈ zALL := zT6 72 rfl rfl
theorem k6_74 : Cond.instanceMethod yX12_follow ∈ zALL := zT6 74 rfl rfl
theorem k6_75 : Cond.code yX12_follow prog_14_method_61_code 3 none ∈ zALL := zT6 75 rfl rfl
theorem k6_76 : Cond.methodLink "FeltGlassModel" 319 yX12_lay ∈ zALL := zT6 76 rfl rfl
theorem k6_78 : Cond.instanceMethod yX12_lay ∈ zALL := zT6 78 rfl rfl
theorem k6_79 : Cond.code yX12_lay prog_14_method_62_code 3 none ∈ zALL := zT6 79 rfl rfl
theorem k6_80 : Cond.methodLink "FeltGlassModel" 322 yX12_happens ∈ zALL := zT6 80 rfl rfl
theorem k6_82 : Cond.instanceMethod yX12_happens ∈ zALL := zT6 82 rfl rfl
theorem k6_83 : Cond.code yX12_happens prog_14_method_60_code 4 none ∈ zALL := zT6 83 rfl rfl
theorem k6_84 : Cond.methodLink "FeltGlassModel" 328 yX12_isLost ∈ zALL := zT6 84 rfl rfl
theorem k6_86 : Cond.instanceMethod yX12_isLost ∈ zALL := zT6 86 rfl rfl
theorem k6_87 : Cond.code yX12_isLost prog_14_method_63_code 2 (some .boolean) ∈ zALL := zT6 87 rfl rfl
theorem k6_88 : Cond.methodLink "FeltGlassModel" 331 yX12_keepAs ∈ zALL := zT6 88 rfl rfl
theorem k6_90 : Cond.instanceMethod yX12_keepAs ∈ zALL := zT6 90 rfl rfl
theorem k6_91 : Cond.code yX12_keepAs prog_14_method_64_code 3 none ∈ zALL := zT6 91 rfl rfl
theorem k6_92 : Cond.methodLink "FeltGlassModel" 364 yX12_beginAll ∈ zALL := zT6 92 rfl rfl
theorem k6_94 : Cond.instanceMethod yX12_beginAll ∈ zALL := zT6 94 rfl rfl
theorem k6_95 : Cond.code yX12_beginAll prog_14_method_66_code 2 none ∈ zALL := zT6 95 rfl rfl
theorem k6_96 : Cond.methodLink "FeltGlassModel" 367 yX12_drift ∈ zALL := zT6 96 rfl rfl
theorem k6_98 : Cond.instanceMethod yX12_drift ∈ zALL := zT6 98 rfl rfl
theorem k6_99 : Cond.code yX12_drift prog_14_method_68_code 3 none ∈ zALL := zT6 99 rfl rfl
theorem k6_100 : Cond.methodLink "FeltGlassModel" 337 yX12_isNearSpot ∈ zALL := zT6 100 rfl rfl
theorem k6_102 : Cond.instanceMethod yX12_isNearSpot ∈ zALL := zT6 102 rfl rfl
theorem k6_103 : Cond.code yX12_isNearSpot prog_14_method_67_code 5 (some .boolean) ∈ zALL := zT6 103 rfl rfl
theorem k6_104 : Cond.methodLink "FeltGlassLaw" 67 yX12_finger ∈ zALL := zT6 104 rfl rfl
theorem k6_105 : Cond.instanceMethod yX12_finger ∈ zALL := zT6 105 rfl rfl
theorem k6_106 : Cond.selects "FeltGlassModel" yX12_finger yX12_finger ∈ zALL := zT6 106 rfl rfl
theorem k6_107 : Cond.code yX12_finger prog_14_method_73_code 3 (some .int) ∈ zALL := zT6 107 rfl rfl
theorem k6_108 : Cond.methodLink "FeltGlassModel" 376 yX12_fingerNow ∈ zALL := zT6 108 rfl rfl
theorem k6_110 : Cond.instanceMethod yX12_fingerNow ∈ zALL := zT6 110 rfl rfl
theorem k6_111 : Cond.code yX12_fingerNow prog_14_method_72_code 3 (some .int) ∈ zALL := zT6 111 rfl rfl
theorem k6_112 : Cond.methodLink "FeltGlassLaw" 71 yX12_cell ∈ zALL := zT6 112 rfl rfl
theorem k6_113 : Cond.instanceMethod yX12_cell ∈ zALL := zT6 113 rfl rfl
theorem k6_114 : Cond.selects "FeltGlassModel" yX12_cell yX12_cell ∈ zALL := zT6 114 rfl rfl
theorem k6_115 : Cond.code yX12_cell prog_14_method_75_code 3 (some .int) ∈ zALL := zT6 115 rfl rfl
theorem k6_116 : Cond.methodLink "FeltGlassModel" 379 yX12_cellNow ∈ zALL := zT6 116 rfl rfl
theorem k6_118 : Cond.instanceMethod yX12_cellNow ∈ zALL := zT6 118 rfl rfl
theorem k6_119 : Cond.code yX12_cellNow prog_14_method_74_code 3 (some .int) ∈ zALL := zT6 119 rfl rfl
theorem k6_120 : Cond.methodLink "FeltGlassLaw" 75 yX12_about ∈ zALL := zT6 120 rfl rfl
theorem k6_121 : Cond.instanceMethod yX12_about ∈ zALL := zT6 121 rfl rfl
theorem k6_122 : Cond.selects "FeltGlassModel" yX12_about yX12_about ∈ zALL := zT6 122 rfl rfl
theorem k6_123 : Cond.code yX12_about prog_14_method_77_code 2 (some .int) ∈ zALL := zT6 123 rfl rfl
theorem k6_124 : Cond.methodLink "FeltGlassModel" 382 yX12_aboutNow ∈ zALL := zT6 124 rfl rfl
theorem k6_126 : Cond.instanceMethod yX12_aboutNow ∈ zALL := zT6 126 rfl rfl
theorem k6_127 : Cond.code yX12_aboutNow prog_14_method_76_code 2 (some .int) ∈ zALL := zT6 127 rfl rfl
theorem k6_128 : Cond.methodLink "FeltGlassLaw" 79 yX12_spot ∈ zALL := zT6 128 rfl rfl
theorem k6_129 : Cond.instanceMethod yX12_spot ∈ zALL := zT6 129 rfl rfl
theorem k6_130 : Cond.selects "FeltGlassModel" yX12_spot yX12_spot ∈ zALL := zT6 130 rfl rfl
theorem k6_131 : Cond.code yX12_spot prog_14_method_79_code 3 (some .int) ∈ zALL := zT6 131 rfl rfl
theorem k6_132 : Cond.methodLink "FeltGlassModel" 385 yX12_spotNow ∈ zALL := zT6 132 rfl rfl
theorem k6_134 : Cond.instanceMethod yX12_spotNow ∈ zALL := zT6 134 rfl rfl
theorem k6_135 : Cond.code yX12_spotNow prog_14_method_78_code 3 (some .int) ∈ zALL := zT6 135 rfl rfl
theorem k6_136 : Cond.methodLink "FeltGlassLaw" 83 yX12_track ∈ zALL := zT6 136 rfl rfl
theorem k6_137 : Cond.instanceMethod yX12_track ∈ zALL := zT6 137 rfl rfl
theorem k6_138 : Cond.selects "FeltGlassModel" yX12_track yX12_track ∈ zALL := zT6 138 rfl rfl
theorem k6_139 : Cond.code yX12_track prog_14_method_82_code 3 (some .int) ∈ zALL := zT6 139 rfl rfl
theorem k6_140 : Cond.methodLink "FeltGlassModel" 388 yX12_isTrack ∈ zALL := zT6 140 rfl rfl
theorem k6_142 : Cond.instanceMethod yX12_isTrack ∈ zALL := zT6 142 rfl rfl
theorem k6_143 : Cond.code yX12_isTrack prog_14_method_81_code 2 (some .boolean) ∈ zALL := zT6 143 rfl rfl
theorem k6_144 : Cond.methodLink "FeltGlassModel" 391 yX12_trackNow ∈ zALL := zT6 144 rfl rfl
theorem k6_146 : Cond.instanceMethod yX12_trackNow ∈ zALL := zT6 146 rfl rfl
theorem k6_147 : Cond.code yX12_trackNow prog_14_method_80_code 3 (some .int) ∈ zALL := zT6 147 rfl rfl
theorem k6_148 : Cond.methodLink "FeltGlassLaw" 87 yX12_as ∈ zALL := zT6 148 rfl rfl
theorem k6_149 : Cond.instanceMethod yX12_as ∈ zALL := zT6 149 rfl rfl
theorem k6_150 : Cond.selects "FeltGlassModel" yX12_as yX12_as ∈ zALL := zT6 150 rfl rfl
theorem k6_151 : Cond.code yX12_as prog_14_method_83_code 3 (some .int) ∈ zALL := zT6 151 rfl rfl
theorem k6_152 : Cond.methodLink "FeltGlassLaw" 91 yX12_event ∈ zALL := zT6 152 rfl rfl
theorem k6_153 : Cond.instanceMethod yX12_event ∈ zALL := zT6 153 rfl rfl
theorem k6_154 : Cond.selects "FeltGlassModel" yX12_event yX12_event ∈ zALL := zT6 154 rfl rfl
theorem k6_155 : Cond.code yX12_event prog_14_method_84_code 3 (some .int) ∈ zALL := zT6 155 rfl rfl
theorem k6_156 : Cond.methodLink "FeltGlassModel" 394 yX12_eventNow ∈ zALL := zT6 156 rfl rfl
theorem k6_158 : Cond.instanceMethod yX12_eventNow ∈ zALL := zT6 158 rfl rfl
theorem k6_159 : Cond.code yX12_eventNow prog_14_method_85_code 3 (some .int) ∈ zALL := zT6 159 rfl rfl
theorem k6_160 : Cond.methodLink "FeltGlassLaw" 95 yX12_count ∈ zALL := zT6 160 rfl rfl
theorem k6_161 : Cond.instanceMethod yX12_count ∈ zALL := zT6 161 rfl rfl
theorem k6_162 : Cond.selects "FeltGlassModel" yX12_count yX12_count ∈ zALL := zT6 162 rfl rfl
theorem k6_163 : Cond.code yX12_count prog_14_method_87_code 2 (some .int) ∈ zALL := zT6 163 rfl rfl
theorem k6_164 : Cond.methodLink "FeltGlassModel" 397 yX12_howMany ∈ zALL := zT6 164 rfl rfl
theorem k6_166 : Cond.instanceMethod yX12_howMany ∈ zALL := zT6 166 rfl rfl
theorem k6_167 : Cond.code yX12_howMany prog_14_method_86_code 2 (some .int) ∈ zALL := zT6 167 rfl rfl
theorem k6_168 : Cond.methodLink "FeltGlassLaw" 99 yX12_events ∈ zALL := zT6 168 rfl rfl
theorem k6_169 : Cond.instanceMethod yX12_events ∈ zALL := zT6 169 rfl rfl
theorem k6_170 : Cond.selects "FeltGlassModel" yX12_events yX12_events ∈ zALL := zT6 170 rfl rfl
theorem k6_171 : Cond.code yX12_events prog_14_method_88_code 2 (some .int) ∈ zALL := zT6 171 rfl rfl
theorem k6_172 : Cond.methodLink "FeltGlassLaw" 104 yX12_digest ∈ zALL := zT6 172 rfl rfl
theorem k6_173 : Cond.instanceMethod yX12_digest ∈ zALL := zT6 173 rfl rfl
theorem k6_174 : Cond.selects "FeltGlassModel" yX12_digest yX12_digest ∈ zALL := zT6 174 rfl rfl
theorem k6_175 : Cond.code yX12_digest prog_14_method_91_code 2 (some .long) ∈ zALL := zT6 175 rfl rfl
theorem k6_176 : Cond.constantLong "FeltGlassModel" 410 (1583) ∈ zALL := zT6 176 rfl rfl
theorem k6_177 : Cond.methodLink "FeltGlassModel" 412 yX12_mixGlass ∈ zALL := zT6 177 rfl rfl
theorem k6_179 : Cond.instanceMethod yX12_mixGlass ∈ zALL := zT6 179 rfl rfl
theorem k6_180 : Cond.code yX12_mixGlass prog_14_method_90_code 2 none ∈ zALL := zT6 180 rfl rfl
theorem k6_181 : Cond.methodLink "FeltGlassModel" 406 yX12_mix ∈ zALL := zT6 181 rfl rfl
theorem k6_183 : Cond.instanceMethod yX12_mix ∈ zALL := zT6 183 rfl rfl
theorem k6_184 : Cond.code yX12_mix prog_14_method_89_code 3 none ∈ zALL := zT6 184 rfl rfl
theorem k6_185 : Cond.constantLong "FeltGlassModel" 400 (31) ∈ zALL := zT6 185 rfl rfl
theorem ks_X5_readPart : Cond.selects RX5 yX5_readPart yX5_readPart ∈ zALL := zTs (q := (yX5_readPart, 6)) 0 rfl
theorem ks_X5_digitHere : Cond.selects RX5 yX5_digitHere yX5_digitHere ∈ zALL := zTs (q := (yX5_digitHere, 6)) 1 rfl
theorem ks_X5_codeHere : Cond.selects RX5 yX5_codeHere yX5_codeHere ∈ zALL := zTs (q := (yX5_codeHere, 6)) 2 rfl
theorem ks_X5_take : Cond.selects RX5 yX5_take yX5_take ∈ zALL := zTs (q := (yX5_take, 6)) 3 rfl
theorem ks_X5_readPlace : Cond.selects RX5 yX5_readPlace yX5_readPlace ∈ zALL := zTs (q := (yX5_readPlace, 6)) 4 rfl
theorem ks_X5_readNumber : Cond.selects RX5 yX5_readNumber yX5_readNumber ∈ zALL := zTs (q := (yX5_readNumber, 6)) 5 rfl
theorem ks_X1_listAround : Cond.selects RX1 yX1_listAround yX1_listAround ∈ zALL := zTs (q := (yX1_listAround, 7)) 6 rfl
theorem ks_X0_drawBelow : Cond.selects RX0 yX0_drawBelow yX0_drawBelow ∈ zALL := zTs (q := (yX0_drawBelow, 3)) 7 rfl
theorem ks_X3_findPeaks : Cond.selects RX3 yX3_findPeaks yX3_findPeaks ∈ zALL := zTs (q := (yX3_findPeaks, 7)) 8 rfl
theorem ks_X3_steepest : Cond.selects RX3 yX3_steepest yX3_steepest ∈ zALL := zTs (q := (yX3_steepest, 7)) 9 rfl
theorem ks_X3_gatherCells : Cond.selects RX3 yX3_gatherCells yX3_gatherCells ∈ zALL := zTs (q := (yX3_gatherCells, 7)) 10 rfl
theorem ks_X3_findPasses : Cond.selects RX3 yX3_findPasses yX3_findPasses ∈ zALL := zTs (q := (yX3_findPasses, 7)) 11 rfl
theorem ks_X3_raisePass : Cond.selects RX3 yX3_raisePass yX3_raisePass ∈ zALL := zTs (q := (yX3_raisePass, 7)) 12 rfl
theorem ks_X3_mergeBestPair : Cond.selects RX3 yX3_mergeBestPair yX3_mergeBestPair ∈ zALL := zTs (q := (yX3_mergeBestPair, 7)) 13 rfl
theorem ks_X3_canMerge : Cond.selects RX3 yX3_canMerge yX3_canMerge ∈ zALL := zTs (q := (yX3_canMerge, 7)) 14 rfl
theorem ks_X3_merge : Cond.selects RX3 yX3_merge yX3_merge ∈ zALL := zTs (q := (yX3_merge, 7)) 15 rfl
theorem ks_X8_weigh : Cond.selects RX8 yX8_weigh yX8_weigh ∈ zALL := zTs (q := (yX8_weigh, 11)) 16 rfl
theorem ks_X8_dropLightest : Cond.selects RX8 yX8_dropLightest yX8_dropLightest ∈ zALL := zTs (q := (yX8_dropLightest, 11)) 17 rfl
theorem ks_X8_numberHills : Cond.selects RX8 yX8_numberHills yX8_numberHills ∈ zALL := zTs (q := (yX8_numberHills, 11)) 18 rfl
theorem ks_X8_fillRow : Cond.selects RX8 yX8_fillRow yX8_fillRow ∈ zALL := zTs (q := (yX8_fillRow, 11)) 19 rfl
theorem ks_X8_markCells : Cond.selects RX8 yX8_markCells yX8_markCells ∈ zALL := zTs (q := (yX8_markCells, 11)) 20 rfl
theorem ks_X6_weighPairs : Cond.selects RX6 yX6_weighPairs yX6_weighPairs ∈ zALL := zTs (q := (yX6_weighPairs, 4)) 21 rfl
theorem ks_X6_bestSpot : Cond.selects RX6 yX6_bestSpot yX6_bestSpot ∈ zALL := zTs (q := (yX6_bestSpot, 4)) 22 rfl
theorem ks_X6_worthOf : Cond.selects RX6 yX6_worthOf yX6_worthOf ∈ zALL := zTs (q := (yX6_worthOf, 4)) 23 rfl
theorem ks_X10_miss : Cond.selects RX10 yX10_miss yX10_miss ∈ zALL := zTs (q := (yX10_miss, 5)) 24 rfl
theorem ks_X10_move : Cond.selects RX10 yX10_move yX10_move ∈ zALL := zTs (q := (yX10_move, 5)) 25 rfl
theorem ks_X10_takeOver : Cond.selects RX10 yX10_takeOver yX10_takeOver ∈ zALL := zTs (q := (yX10_takeOver, 5)) 26 rfl
theorem ks_X10_isPalm : Cond.selects RX10 yX10_isPalm yX10_isPalm ∈ zALL := zTs (q := (yX10_isPalm, 5)) 27 rfl
theorem ks_X10_begin : Cond.selects RX10 yX10_begin yX10_begin ∈ zALL := zTs (q := (yX10_begin, 5)) 28 rfl
theorem ks_X11_hashPanelAndFingers : Cond.selects RX11 yX11_hashPanelAndFingers yX11_hashPanelAndFingers ∈ zALL := zTs (q := (yX11_hashPanelAndFingers, 5)) 29 rfl
theorem ks_X11_hashCells : Cond.selects RX11 yX11_hashCells yX11_hashCells ∈ zALL := zTs (q := (yX11_hashCells, 5)) 30 rfl
theorem ks_X11_hashSpots : Cond.selects RX11 yX11_hashSpots yX11_hashSpots ∈ zALL := zTs (q := (yX11_hashSpots, 5)) 31 rfl
theorem ks_X11_hashTracks : Cond.selects RX11 yX11_hashTracks yX11_hashTracks ∈ zALL := zTs (q := (yX11_hashTracks, 5)) 32 rfl
theorem ks_X11_hashJournal : Cond.selects RX11 yX11_hashJournal yX11_hashJournal ∈ zALL := zTs (q := (yX11_hashJournal, 5)) 33 rfl
theorem ks_X12_isGlass : Cond.selects RX12 yX12_isGlass yX12_isGlass ∈ zALL := zTs (q := (yX12_isGlass, 58)) 34 rfl
theorem ks_X12_goAlong : Cond.selects RX12 yX12_goAlong yX12_goAlong ∈ zALL := zTs (q := (yX12_goAlong, 58)) 35 rfl
theorem ks_X12_takes : Cond.selects RX12 yX12_takes yX12_takes ∈ zALL := zTs (q := (yX12_takes, 58)) 36 rfl
theorem ks_X12_takesDigit : Cond.selects RX12 yX12_takesDigit yX12_takesDigit ∈ zALL := zTs (q := (yX12_takesDigit, 58)) 37 rfl
theorem ks_X12_goes : Cond.selects RX12 yX12_goes yX12_goes ∈ zALL := zTs (q := (yX12_goes, 58)) 38 rfl
theorem ks_X12_takesKind : Cond.selects RX12 yX12_takesKind yX12_takesKind ∈ zALL := zTs (q := (yX12_takesKind, 58)) 39 rfl
theorem ks_X12_takesFigure : Cond.selects RX12 yX12_takesFigure yX12_takesFigure ∈ zALL := zTs (q := (yX12_takesFigure, 58)) 40 rfl
theorem ks_X12_mostNow : Cond.selects RX12 yX12_mostNow yX12_mostNow ∈ zALL := zTs (q := (yX12_mostNow, 58)) 41 rfl
theorem ks_X12_takesSign : Cond.selects RX12 yX12_takesSign yX12_takesSign ∈ zALL := zTs (q := (yX12_takesSign, 58)) 42 rfl
theorem ks_X12_putOn : Cond.selects RX12 yX12_putOn yX12_putOn ∈ zALL := zTs (q := (yX12_putOn, 58)) 43 rfl
theorem ks_X12_onMany : Cond.selects RX12 yX12_onMany yX12_onMany ∈ zALL := zTs (q := (yX12_onMany, 58)) 44 rfl
theorem ks_X12_layBounds : Cond.selects RX12 yX12_layBounds yX12_layBounds ∈ zALL := zTs (q := (yX12_layBounds, 58)) 45 rfl
theorem ks_X12_cells : Cond.selects RX12 yX12_cells yX12_cells ∈ zALL := zTs (q := (yX12_cells, 58)) 46 rfl
theorem ks_X12_isCell : Cond.selects RX12 yX12_isCell yX12_isCell ∈ zALL := zTs (q := (yX12_isCell, 58)) 47 rfl
theorem ks_X12_eventsAll : Cond.selects RX12 yX12_eventsAll yX12_eventsAll ∈ zALL := zTs (q := (yX12_eventsAll, 58)) 48 rfl
theorem ks_X12_frame : Cond.selects RX12 yX12_frame yX12_frame ∈ zALL := zTs (q := (yX12_frame, 58)) 49 rfl
theorem ks_X12_layRaw : Cond.selects RX12 yX12_layRaw yX12_layRaw ∈ zALL := zTs (q := (yX12_layRaw, 58)) 50 rfl
theorem ks_X12_feltAll : Cond.selects RX12 yX12_feltAll yX12_feltAll ∈ zALL := zTs (q := (yX12_feltAll, 58)) 51 rfl
theorem ks_X12_feltOf : Cond.selects RX12 yX12_feltOf yX12_feltOf ∈ zALL := zTs (q := (yX12_feltOf, 58)) 52 rfl
theorem ks_X12_draw : Cond.selects RX12 yX12_draw yX12_draw ∈ zALL := zTs (q := (yX12_draw, 58)) 53 rfl
theorem ks_X12_spanOf : Cond.selects RX12 yX12_spanOf yX12_spanOf ∈ zALL := zTs (q := (yX12_spanOf, 58)) 54 rfl
theorem ks_X12_isNearTouched : Cond.selects RX12 yX12_isNearTouched yX12_isNearTouched ∈ zALL := zTs (q := (yX12_isNearTouched, 58)) 55 rfl
theorem ks_X12_isTouched : Cond.selects RX12 yX12_isTouched yX12_isTouched ∈ zALL := zTs (q := (yX12_isTouched, 58)) 56 rfl
theorem ks_X12_beside : Cond.selects RX12 yX12_beside yX12_beside ∈ zALL := zTs (q := (yX12_beside, 58)) 57 rfl
theorem ks_X12_layHills : Cond.selects RX12 yX12_layHills yX12_layHills ∈ zALL := zTs (q := (yX12_layHills, 58)) 58 rfl
theorem ks_X12_layTops : Cond.selects RX12 yX12_layTops yX12_layTops ∈ zALL := zTs (q := (yX12_layTops, 58)) 59 rfl
theorem ks_X12_higher : Cond.selects RX12 yX12_higher yX12_higher ∈ zALL := zTs (q := (yX12_higher, 58)) 60 rfl
theorem ks_X12_joinOnce : Cond.selects RX12 yX12_joinOnce yX12_joinOnce ∈ zALL := zTs (q := (yX12_joinOnce, 58)) 61 rfl
theorem ks_X12_isTop : Cond.selects RX12 yX12_isTop yX12_isTop ∈ zALL := zTs (q := (yX12_isTop, 58)) 62 rfl
theorem ks_X12_passOf : Cond.selects RX12 yX12_passOf yX12_passOf ∈ zALL := zTs (q := (yX12_passOf, 58)) 63 rfl
theorem ks_X12_isJoined : Cond.selects RX12 yX12_isJoined yX12_isJoined ∈ zALL := zTs (q := (yX12_isJoined, 58)) 64 rfl
theorem ks_X12_laySpots : Cond.selects RX12 yX12_laySpots yX12_laySpots ∈ zALL := zTs (q := (yX12_laySpots, 58)) 65 rfl
theorem ks_X12_isHigh : Cond.selects RX12 yX12_isHigh yX12_isHigh ∈ zALL := zTs (q := (yX12_isHigh, 58)) 66 rfl
theorem ks_X12_aheadOf : Cond.selects RX12 yX12_aheadOf yX12_aheadOf ∈ zALL := zTs (q := (yX12_aheadOf, 58)) 67 rfl
theorem ks_X12_massOf : Cond.selects RX12 yX12_massOf yX12_massOf ∈ zALL := zTs (q := (yX12_massOf, 58)) 68 rfl
theorem ks_X12_laySpot : Cond.selects RX12 yX12_laySpot yX12_laySpot ∈ zALL := zTs (q := (yX12_laySpot, 58)) 69 rfl
theorem ks_X12_sizeOf : Cond.selects RX12 yX12_sizeOf yX12_sizeOf ∈ zALL := zTs (q := (yX12_sizeOf, 58)) 70 rfl
theorem ks_X12_layPairs : Cond.selects RX12 yX12_layPairs yX12_layPairs ∈ zALL := zTs (q := (yX12_layPairs, 58)) 71 rfl
theorem ks_X12_layPairsOf : Cond.selects RX12 yX12_layPairsOf yX12_layPairsOf ∈ zALL := zTs (q := (yX12_layPairsOf, 58)) 72 rfl
theorem ks_X12_isNear : Cond.selects RX12 yX12_isNear yX12_isNear ∈ zALL := zTs (q := (yX12_isNear, 58)) 73 rfl
theorem ks_X12_pairCost : Cond.selects RX12 yX12_pairCost yX12_pairCost ∈ zALL := zTs (q := (yX12_pairCost, 58)) 74 rfl
theorem ks_X12_isBetter : Cond.selects RX12 yX12_isBetter yX12_isBetter ∈ zALL := zTs (q := (yX12_isBetter, 58)) 75 rfl
theorem ks_X12_isBestPair : Cond.selects RX12 yX12_isBestPair yX12_isBestPair ∈ zALL := zTs (q := (yX12_isBestPair, 58)) 76 rfl
theorem ks_X12_followAll : Cond.selects RX12 yX12_followAll yX12_followAll ∈ zALL := zTs (q := (yX12_followAll, 58)) 77 rfl
theorem ks_X12_follow : Cond.selects RX12 yX12_follow yX12_follow ∈ zALL := zTs (q := (yX12_follow, 58)) 78 rfl
theorem ks_X12_lay : Cond.selects RX12 yX12_lay yX12_lay ∈ zALL := zTs (q := (yX12_lay, 58)) 79 rfl
theorem ks_X12_happens : Cond.selects RX12 yX12_happens yX12_happens ∈ zALL := zTs (q := (yX12_happens, 58)) 80 rfl
theorem ks_X12_isLost : Cond.selects RX12 yX12_isLost yX12_isLost ∈ zALL := zTs (q := (yX12_isLost, 58)) 81 rfl
theorem ks_X12_keepAs : Cond.selects RX12 yX12_keepAs yX12_keepAs ∈ zALL := zTs (q := (yX12_keepAs, 58)) 82 rfl
theorem ks_X12_beginAll : Cond.selects RX12 yX12_beginAll yX12_beginAll ∈ zALL := zTs (q := (yX12_beginAll, 58)) 83 rfl
theorem ks_X12_drift : Cond.selects RX12 yX12_drift yX12_drift ∈ zALL := zTs (q := (yX12_drift, 58)) 84 rfl
theorem ks_X12_isNearSpot : Cond.selects RX12 yX12_isNearSpot yX12_isNearSpot ∈ zALL := zTs (q := (yX12_isNearSpot, 58)) 85 rfl
theorem ks_X12_fingerNow : Cond.selects RX12 yX12_fingerNow yX12_fingerNow ∈ zALL := zTs (q := (yX12_fingerNow, 58)) 86 rfl
theorem ks_X12_cellNow : Cond.selects RX12 yX12_cellNow yX12_cellNow ∈ zALL := zTs (q := (yX12_cellNow, 58)) 87 rfl
theorem ks_X12_aboutNow : Cond.selects RX12 yX12_aboutNow yX12_aboutNow ∈ zALL := zTs (q := (yX12_aboutNow, 58)) 88 rfl
theorem ks_X12_spotNow : Cond.selects RX12 yX12_spotNow yX12_spotNow ∈ zALL := zTs (q := (yX12_spotNow, 58)) 89 rfl
theorem ks_X12_isTrack : Cond.selects RX12 yX12_isTrack yX12_isTrack ∈ zALL := zTs (q := (yX12_isTrack, 58)) 90 rfl
theorem ks_X12_trackNow : Cond.selects RX12 yX12_trackNow yX12_trackNow ∈ zALL := zTs (q := (yX12_trackNow, 58)) 91 rfl
theorem ks_X12_eventNow : Cond.selects RX12 yX12_eventNow yX12_eventNow ∈ zALL := zTs (q := (yX12_eventNow, 58)) 92 rfl
theorem ks_X12_howMany : Cond.selects RX12 yX12_howMany yX12_howMany ∈ zALL := zTs (q := (yX12_howMany, 58)) 93 rfl
theorem ks_X12_mixGlass : Cond.selects RX12 yX12_mixGlass yX12_mixGlass ∈ zALL := zTs (q := (yX12_mixGlass, 58)) 94 rfl
theorem ks_X12_mix : Cond.selects RX12 yX12_mix yX12_mix ∈ zALL := zTs (q := (yX12_mix, 58)) 95 rfl
set_option maxRecDepth 20000 in
theorem zin_0 : ∀ w ∈ u_ws RX0 TX0 3, w ∈ zALL := by
  show ∀ w ∈ [u_lay RX0 TX0 0, u_lay RX0 TX0 1, u_lay RX0 TX0 2], w ∈ zALL
  exact (List.forall_mem_cons.mpr ⟨zT1 163 rfl rfl, (List.forall_mem_cons.mpr ⟨zT1 165 rfl rfl, (List.forall_mem_cons.mpr ⟨zT1 167 rfl rfl, (fun _ h => absurd h List.not_mem_nil)⟩)⟩)⟩)
set_option maxRecDepth 20000 in
theorem zin_1 : ∀ w ∈ u_ws RX1 TX1 7, w ∈ zALL := by
  show ∀ w ∈ [u_lay RX1 TX1 0, u_lay RX1 TX1 1, u_lay RX1 TX1 2, u_lay RX1 TX1 3, u_lay RX1 TX1 4, u_lay RX1 TX1 5, u_lay RX1 TX1 6], w ∈ zALL
  exact (List.forall_mem_cons.mpr ⟨zT1 133 rfl rfl, (List.forall_mem_cons.mpr ⟨zT1 135 rfl rfl, (List.forall_mem_cons.mpr ⟨zT1 137 rfl rfl, (List.forall_mem_cons.mpr ⟨zT1 139 rfl rfl, (List.forall_mem_cons.mpr ⟨zT1 141 rfl rfl, (List.forall_mem_cons.mpr ⟨zT1 143 rfl rfl, (List.forall_mem_cons.mpr ⟨zT1 145 rfl rfl, (fun _ h => absurd h List.not_mem_nil)⟩)⟩)⟩)⟩)⟩)⟩)⟩)
set_option maxRecDepth 20000 in
theorem zin_2 : ∀ w ∈ u_ws RX2 TX2 4, w ∈ zALL := by
  show ∀ w ∈ [u_lay RX2 TX2 0, u_lay RX2 TX2 1, u_lay RX2 TX2 2, u_lay RX2 TX2 3], w ∈ zALL
  exact (List.forall_mem_cons.mpr ⟨zT1 42 rfl rfl, (List.forall_mem_cons.mpr ⟨zT1 44 rfl rfl, (List.forall_mem_cons.mpr ⟨zT1 46 rfl rfl, (List.forall_mem_cons.mpr ⟨zT1 48 rfl rfl, (fun _ h => absurd h List.not_mem_nil)⟩)⟩)⟩)⟩)
set_option maxRecDepth 20000 in
theorem zin_3 : ∀ w ∈ u_ws RX3 TX3 7, w ∈ zALL := by
  show ∀ w ∈ [u_lay RX3 TX3 0, u_lay RX3 TX3 1, u_lay RX3 TX3 2, u_lay RX3 TX3 3, u_lay RX3 TX3 4, u_lay RX3 TX3 5, u_lay RX3 TX3 6], w ∈ zALL
  exact (List.forall_mem_cons.mpr ⟨zT2 3 rfl rfl, (List.forall_mem_cons.mpr ⟨zT2 5 rfl rfl, (List.forall_mem_cons.mpr ⟨zT2 7 rfl rfl, (List.forall_mem_cons.mpr ⟨zT2 9 rfl rfl, (List.forall_mem_cons.mpr ⟨zT2 11 rfl rfl, (List.forall_mem_cons.mpr ⟨zT2 13 rfl rfl, (List.forall_mem_cons.mpr ⟨zT2 15 rfl rfl, (fun _ h => absurd h List.not_mem_nil)⟩)⟩)⟩)⟩)⟩)⟩)⟩)
set_option maxRecDepth 20000 in
theorem zin_4 : ∀ w ∈ u_ws RX4 TX4 5, w ∈ zALL := by
  show ∀ w ∈ [u_lay RX4 TX4 0, u_lay RX4 TX4 1, u_lay RX4 TX4 2, u_lay RX4 TX4 3, u_lay RX4 TX4 4], w ∈ zALL
  exact (List.forall_mem_cons.mpr ⟨zT1 89 rfl rfl, (List.forall_mem_cons.mpr ⟨zT1 91 rfl rfl, (List.forall_mem_cons.mpr ⟨zT1 93 rfl rfl, (List.forall_mem_cons.mpr ⟨zT1 95 rfl rfl, (List.forall_mem_cons.mpr ⟨zT1 97 rfl rfl, (fun _ h => absurd h List.not_mem_nil)⟩)⟩)⟩)⟩)⟩)
set_option maxRecDepth 20000 in
theorem zin_5 : ∀ w ∈ u_ws RX5 TX5 6, w ∈ zALL := by
  show ∀ w ∈ [u_lay RX5 TX5 0, u_lay RX5 TX5 1, u_lay RX5 TX5 2, u_lay RX5 TX5 3, u_lay RX5 TX5 4, u_lay RX5 TX5 5], w ∈ zALL
  exact (List.forall_mem_cons.mpr ⟨zT1 63 rfl rfl, (List.forall_mem_cons.mpr ⟨zT1 65 rfl rfl, (List.forall_mem_cons.mpr ⟨zT1 67 rfl rfl, (List.forall_mem_cons.mpr ⟨zT1 69 rfl rfl, (List.forall_mem_cons.mpr ⟨zT1 71 rfl rfl, (List.forall_mem_cons.mpr ⟨zT1 73 rfl rfl, (fun _ h => absurd h List.not_mem_nil)⟩)⟩)⟩)⟩)⟩)⟩)
set_option maxRecDepth 20000 in
theorem zin_6 : ∀ w ∈ u_ws RX6 TX6 4, w ∈ zALL := by
  show ∀ w ∈ [u_lay RX6 TX6 0, u_lay RX6 TX6 1, u_lay RX6 TX6 2, u_lay RX6 TX6 3], w ∈ zALL
  exact (List.forall_mem_cons.mpr ⟨zT1 181 rfl rfl, (List.forall_mem_cons.mpr ⟨zT1 183 rfl rfl, (List.forall_mem_cons.mpr ⟨zT1 185 rfl rfl, (List.forall_mem_cons.mpr ⟨zT1 187 rfl rfl, (fun _ h => absurd h List.not_mem_nil)⟩)⟩)⟩)⟩)
set_option maxRecDepth 20000 in
theorem zin_7 : ∀ w ∈ u_ws RX7 TX7 15, w ∈ zALL := by
  show ∀ w ∈ [u_lay RX7 TX7 0, u_lay RX7 TX7 1, u_lay RX7 TX7 2, u_lay RX7 TX7 3, u_lay RX7 TX7 4, u_lay RX7 TX7 5, u_lay RX7 TX7 6, u_lay RX7 TX7 7, u_lay RX7 TX7 8, u_lay RX7 TX7 9, u_lay RX7 TX7 10, u_lay RX7 TX7 11, u_lay RX7 TX7 12, u_lay RX7 TX7 13, u_lay RX7 TX7 14], w ∈ zALL
  exact (List.forall_mem_cons.mpr ⟨zT2 123 rfl rfl, (List.forall_mem_cons.mpr ⟨zT2 125 rfl rfl, (List.forall_mem_cons.mpr ⟨zT2 127 rfl rfl, (List.forall_mem_cons.mpr ⟨zT2 129 rfl rfl, (List.forall_mem_cons.mpr ⟨zT2 131 rfl rfl, (List.forall_mem_cons.mpr ⟨zT2 133 rfl rfl, (List.forall_mem_cons.mpr ⟨zT2 135 rfl rfl, (List.forall_mem_cons.mpr ⟨zT2 137 rfl rfl, (List.forall_mem_cons.mpr ⟨zT2 139 rfl rfl, (List.forall_mem_cons.mpr ⟨zT2 141 rfl rfl, (List.forall_mem_cons.mpr ⟨zT2 143 rfl rfl, (List.forall_mem_cons.mpr ⟨zT2 145 rfl rfl, (List.forall_mem_cons.mpr ⟨zT2 147 rfl rfl, (List.forall_mem_cons.mpr ⟨zT2 149 rfl rfl, (List.forall_mem_cons.mpr ⟨zT2 151 rfl rfl, (fun _ h => absurd h List.not_mem_nil)⟩)⟩)⟩)⟩)⟩)⟩)⟩)⟩)⟩)⟩)⟩)⟩)⟩)⟩)⟩)
set_option maxRecDepth 20000 in
theorem zin_8 : ∀ w ∈ u_ws RX8 TX8 11, w ∈ zALL := by
  show ∀ w ∈ [u_lay RX8 TX8 0, u_lay RX8 TX8 1, u_lay RX8 TX8 2, u_lay RX8 TX8 3, u_lay RX8 TX8 4, u_lay RX8 TX8 5, u_lay RX8 TX8 6, u_lay RX8 TX8 7, u_lay RX8 TX8 8, u_lay RX8 TX8 9, u_lay RX8 TX8 10], w ∈ zALL
  exact (List.forall_mem_cons.mpr ⟨zT2 46 rfl rfl, (List.forall_mem_cons.mpr ⟨zT2 48 rfl rfl, (List.forall_mem_cons.mpr ⟨zT2 50 rfl rfl, (List.forall_mem_cons.mpr ⟨zT2 52 rfl rfl, (List.forall_mem_cons.mpr ⟨zT2 54 rfl rfl, (List.forall_mem_cons.mpr ⟨zT2 56 rfl rfl, (List.forall_mem_cons.mpr ⟨zT2 58 rfl rfl, (List.forall_mem_cons.mpr ⟨zT2 60 rfl rfl, (List.forall_mem_cons.mpr ⟨zT2 62 rfl rfl, (List.forall_mem_cons.mpr ⟨zT2 64 rfl rfl, (List.forall_mem_cons.mpr ⟨zT2 66 rfl rfl, (fun _ h => absurd h List.not_mem_nil)⟩)⟩)⟩)⟩)⟩)⟩)⟩)⟩)⟩)⟩)⟩)
set_option maxRecDepth 20000 in
theorem zin_9 : ∀ w ∈ u_ws RX9 TX9 7, w ∈ zALL := by
  show ∀ w ∈ [u_lay RX9 TX9 0, u_lay RX9 TX9 1, u_lay RX9 TX9 2, u_lay RX9 TX9 3, u_lay RX9 TX9 4, u_lay RX9 TX9 5, u_lay RX9 TX9 6], w ∈ zALL
  exact (List.forall_mem_cons.mpr ⟨zT1 211 rfl rfl, (List.forall_mem_cons.mpr ⟨zT1 213 rfl rfl, (List.forall_mem_cons.mpr ⟨zT1 215 rfl rfl, (List.forall_mem_cons.mpr ⟨zT1 217 rfl rfl, (List.forall_mem_cons.mpr ⟨zT1 219 rfl rfl, (List.forall_mem_cons.mpr ⟨zT1 221 rfl rfl, (List.forall_mem_cons.mpr ⟨zT1 223 rfl rfl, (fun _ h => absurd h List.not_mem_nil)⟩)⟩)⟩)⟩)⟩)⟩)⟩)
set_option maxRecDepth 20000 in
theorem zin_10 : ∀ w ∈ u_ws RX10 TX10 5, w ∈ zALL := by
  show ∀ w ∈ [u_lay RX10 TX10 0, u_lay RX10 TX10 1, u_lay RX10 TX10 2, u_lay RX10 TX10 3, u_lay RX10 TX10 4], w ∈ zALL
  exact (List.forall_mem_cons.mpr ⟨zT2 87 rfl rfl, (List.forall_mem_cons.mpr ⟨zT2 89 rfl rfl, (List.forall_mem_cons.mpr ⟨zT2 91 rfl rfl, (List.forall_mem_cons.mpr ⟨zT2 93 rfl rfl, (List.forall_mem_cons.mpr ⟨zT2 95 rfl rfl, (fun _ h => absurd h List.not_mem_nil)⟩)⟩)⟩)⟩)⟩)
set_option maxRecDepth 20000 in
theorem zin_11 : ∀ w ∈ u_ws RX11 TX11 5, w ∈ zALL := by
  show ∀ w ∈ [u_lay RX11 TX11 0, u_lay RX11 TX11 1, u_lay RX11 TX11 2, u_lay RX11 TX11 3, u_lay RX11 TX11 4], w ∈ zALL
  exact (List.forall_mem_cons.mpr ⟨zT2 159 rfl rfl, (List.forall_mem_cons.mpr ⟨zT2 161 rfl rfl, (List.forall_mem_cons.mpr ⟨zT2 163 rfl rfl, (List.forall_mem_cons.mpr ⟨zT2 165 rfl rfl, (List.forall_mem_cons.mpr ⟨zT2 167 rfl rfl, (fun _ h => absurd h List.not_mem_nil)⟩)⟩)⟩)⟩)⟩)
set_option maxRecDepth 20000 in
theorem zin_12 : ∀ w ∈ u_ws RX12 TX12 58, w ∈ zALL := by
  show ∀ w ∈ [u_lay RX12 TX12 0, u_lay RX12 TX12 1, u_lay RX12 TX12 2, u_lay RX12 TX12 3, u_lay RX12 TX12 4, u_lay RX12 TX12 5, u_lay RX12 TX12 6, u_lay RX12 TX12 7, u_lay RX12 TX12 8, u_lay RX12 TX12 9, u_lay RX12 TX12 10, u_lay RX12 TX12 11, u_lay RX12 TX12 12, u_lay RX12 TX12 13, u_lay RX12 TX12 14, u_lay RX12 TX12 15, u_lay RX12 TX12 16, u_lay RX12 TX12 17, u_lay RX12 TX12 18, u_lay RX12 TX12 19, u_lay RX12 TX12 20, u_lay RX12 TX12 21, u_lay RX12 TX12 22, u_lay RX12 TX12 23, u_lay RX12 TX12 24, u_lay RX12 TX12 25, u_lay RX12 TX12 26, u_lay RX12 TX12 27, u_lay RX12 TX12 28, u_lay RX12 TX12 29, u_lay RX12 TX12 30, u_lay RX12 TX12 31, u_lay RX12 TX12 32, u_lay RX12 TX12 33, u_lay RX12 TX12 34, u_lay RX12 TX12 35, u_lay RX12 TX12 36, u_lay RX12 TX12 37, u_lay RX12 TX12 38, u_lay RX12 TX12 39, u_lay RX12 TX12 40, u_lay RX12 TX12 41, u_lay RX12 TX12 42, u_lay RX12 TX12 43, u_lay RX12 TX12 44, u_lay RX12 TX12 45, u_lay RX12 TX12 46, u_lay RX12 TX12 47, u_lay RX12 TX12 48, u_lay RX12 TX12 49, u_lay RX12 TX12 50, u_lay RX12 TX12 51, u_lay RX12 TX12 52, u_lay RX12 TX12 53, u_lay RX12 TX12 54, u_lay RX12 TX12 55, u_lay RX12 TX12 56, u_lay RX12 TX12 57], w ∈ zALL
  exact (List.forall_mem_cons.mpr ⟨zT4 190 rfl rfl, (List.forall_mem_cons.mpr ⟨zT4 192 rfl rfl, (List.forall_mem_cons.mpr ⟨zT4 194 rfl rfl, (List.forall_mem_cons.mpr ⟨zT4 196 rfl rfl, (List.forall_mem_cons.mpr ⟨zT4 198 rfl rfl, (List.forall_mem_cons.mpr ⟨zT4 200 rfl rfl, (List.forall_mem_cons.mpr ⟨zT4 202 rfl rfl, (List.forall_mem_cons.mpr ⟨zT4 204 rfl rfl, (List.forall_mem_cons.mpr ⟨zT4 206 rfl rfl, (List.forall_mem_cons.mpr ⟨zT4 208 rfl rfl, (List.forall_mem_cons.mpr ⟨zT4 210 rfl rfl, (List.forall_mem_cons.mpr ⟨zT4 212 rfl rfl, (List.forall_mem_cons.mpr ⟨zT4 214 rfl rfl, (List.forall_mem_cons.mpr ⟨zT4 216 rfl rfl, (List.forall_mem_cons.mpr ⟨zT4 218 rfl rfl, (List.forall_mem_cons.mpr ⟨zT4 220 rfl rfl, (List.forall_mem_cons.mpr ⟨zT4 222 rfl rfl, (List.forall_mem_cons.mpr ⟨zT4 224 rfl rfl, (List.forall_mem_cons.mpr ⟨zT4 226 rfl rfl, (List.forall_mem_cons.mpr ⟨zT4 228 rfl rfl, (List.forall_mem_cons.mpr ⟨zT4 230 rfl rfl, (List.forall_mem_cons.mpr ⟨zT4 232 rfl rfl, (List.forall_mem_cons.mpr ⟨zT4 234 rfl rfl, (List.forall_mem_cons.mpr ⟨zT4 236 rfl rfl, (List.forall_mem_cons.mpr ⟨zT4 238 rfl rfl, (List.forall_mem_cons.mpr ⟨zT5 0 rfl rfl, (List.forall_mem_cons.mpr ⟨zT5 2 rfl rfl, (List.forall_mem_cons.mpr ⟨zT5 4 rfl rfl, (List.forall_mem_cons.mpr ⟨zT5 6 rfl rfl, (List.forall_mem_cons.mpr ⟨zT5 8 rfl rfl, (List.forall_mem_cons.mpr ⟨zT5 10 rfl rfl, (List.forall_mem_cons.mpr ⟨zT5 12 rfl rfl, (List.forall_mem_cons.mpr ⟨zT5 14 rfl rfl, (List.forall_mem_cons.mpr ⟨zT5 16 rfl rfl, (List.forall_mem_cons.mpr ⟨zT5 18 rfl rfl, (List.forall_mem_cons.mpr ⟨zT5 20 rfl rfl, (List.forall_mem_cons.mpr ⟨zT5 22 rfl rfl, (List.forall_mem_cons.mpr ⟨zT5 24 rfl rfl, (List.forall_mem_cons.mpr ⟨zT5 26 rfl rfl, (List.forall_mem_cons.mpr ⟨zT5 28 rfl rfl, (List.forall_mem_cons.mpr ⟨zT5 30 rfl rfl, (List.forall_mem_cons.mpr ⟨zT5 32 rfl rfl, (List.forall_mem_cons.mpr ⟨zT5 34 rfl rfl, (List.forall_mem_cons.mpr ⟨zT5 36 rfl rfl, (List.forall_mem_cons.mpr ⟨zT5 38 rfl rfl, (List.forall_mem_cons.mpr ⟨zT5 40 rfl rfl, (List.forall_mem_cons.mpr ⟨zT5 42 rfl rfl, (List.forall_mem_cons.mpr ⟨zT5 44 rfl rfl, (List.forall_mem_cons.mpr ⟨zT5 46 rfl rfl, (List.forall_mem_cons.mpr ⟨zT5 48 rfl rfl, (List.forall_mem_cons.mpr ⟨zT5 50 rfl rfl, (List.forall_mem_cons.mpr ⟨zT5 52 rfl rfl, (List.forall_mem_cons.mpr ⟨zT5 54 rfl rfl, (List.forall_mem_cons.mpr ⟨zT5 56 rfl rfl, (List.forall_mem_cons.mpr ⟨zT5 58 rfl rfl, (List.forall_mem_cons.mpr ⟨zT5 60 rfl rfl, (List.forall_mem_cons.mpr ⟨zT5 62 rfl rfl, (List.forall_mem_cons.mpr ⟨zT5 64 rfl rfl, (fun _ h => absurd h List.not_mem_nil)⟩)⟩)⟩)⟩)⟩)⟩)⟩)⟩)⟩)⟩)⟩)⟩)⟩)⟩)⟩)⟩)⟩)⟩)⟩)⟩)⟩)⟩)⟩)⟩)⟩)⟩)⟩)⟩)⟩)⟩)⟩)⟩)⟩)⟩)⟩)⟩)⟩)⟩)⟩)⟩)⟩)⟩)⟩)⟩)⟩)⟩)⟩)⟩)⟩)⟩)⟩)⟩)⟩)⟩)⟩)⟩)⟩)⟩)
