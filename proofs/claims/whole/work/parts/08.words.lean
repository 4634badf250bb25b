set_option maxRecDepth 20000 in
theorem m9_2 : Cond.initialized RX5 ∈ wsL_law := List.mem_append_left _ (List.mem_append_left _ (List.mem_append_left _ (List.mem_of_getElem? (i := 2) rfl)))
set_option maxRecDepth 20000 in
theorem m9_5 : Cond.initialized RX6 ∈ wsL_law := List.mem_append_left _ (List.mem_append_left _ (List.mem_append_left _ (List.mem_of_getElem? (i := 5) rfl)))
set_option maxRecDepth 20000 in
theorem m9_15 : Cond.initialized RX3 ∈ wsL_law := List.mem_append_left _ (List.mem_append_left _ (List.mem_append_left _ (List.mem_of_getElem? (i := 15) rfl)))
set_option maxRecDepth 20000 in
theorem m9_16 : Cond.fieldLink RX5 10 "PennantRopes" "now" "LPennantRopes$State;" ∈ wsL_law := List.mem_append_left _ (List.mem_append_left _ (List.mem_append_left _ (List.mem_of_getElem? (i := 16) rfl)))
set_option maxRecDepth 20000 in
theorem m9_17 : Cond.fieldLink RX5 16 "PennantRopes" "kept" "LPennantRopes$State;" ∈ wsL_law := List.mem_append_left _ (List.mem_append_left _ (List.mem_append_left _ (List.mem_of_getElem? (i := 17) rfl)))
set_option maxRecDepth 20000 in
theorem m9_20 : Cond.initialized RX0 ∈ wsL_law := List.mem_append_left _ (List.mem_append_left _ (List.mem_append_left _ (List.mem_of_getElem? (i := 20) rfl)))
set_option maxRecDepth 20000 in
theorem m9_21 : Cond.fieldLink RX5 22 "PennantRopes" "history" "LPennantRopes$History;" ∈ wsL_law := List.mem_append_left _ (List.mem_append_left _ (List.mem_append_left _ (List.mem_of_getElem? (i := 21) rfl)))
set_option maxRecDepth 20000 in
theorem m9_24 : Cond.initialized RX4 ∈ wsL_law := List.mem_append_left _ (List.mem_append_left _ (List.mem_append_left _ (List.mem_of_getElem? (i := 24) rfl)))
set_option maxRecDepth 20000 in
theorem m9_25 : Cond.fieldLink RX5 29 "PennantRopes" "text" "LPennantRopes$Text;" ∈ wsL_law := List.mem_append_left _ (List.mem_append_left _ (List.mem_append_left _ (List.mem_of_getElem? (i := 25) rfl)))
set_option maxRecDepth 20000 in
theorem m9_28 : Cond.initialized RX2 ∈ wsL_law := List.mem_append_left _ (List.mem_append_left _ (List.mem_append_left _ (List.mem_of_getElem? (i := 28) rfl)))
set_option maxRecDepth 20000 in
theorem m9_29 : Cond.fieldLink RX5 36 "PennantRopes" "draft" "LPennantRopes$Rope;" ∈ wsL_law := List.mem_append_left _ (List.mem_append_left _ (List.mem_append_left _ (List.mem_of_getElem? (i := 29) rfl)))
set_option maxRecDepth 20000 in
theorem m9_30 : Cond.fieldLink RX5 40 "PennantRopes" "hasKept" "Z" ∈ wsL_law := List.mem_append_left _ (List.mem_append_left _ (List.mem_append_left _ (List.mem_of_getElem? (i := 30) rfl)))
set_option maxRecDepth 20000 in
theorem m9_36 : Cond.fieldLink RX3 9 "PennantRopes$State" "gaps" "[I" ∈ wsL_law := List.mem_append_left _ (List.mem_append_left _ (List.mem_append_left _ (List.mem_of_getElem? (i := 36) rfl)))
set_option maxRecDepth 20000 in
theorem m9_38 : Cond.fieldLink RX3 17 "PennantRopes$State" "ropes" "[LPennantRopes$Rope;" ∈ wsL_law := List.mem_append_left _ (List.mem_append_left _ (List.mem_append_left _ (List.mem_of_getElem? (i := 38) rfl)))
set_option maxRecDepth 20000 in
theorem m9_39 : Cond.fieldLink RX3 22 "PennantRopes$State" "ropeCount" "I" ∈ wsL_law := List.mem_append_left _ (List.mem_append_left _ (List.mem_append_left _ (List.mem_of_getElem? (i := 39) rfl)))
set_option maxRecDepth 20000 in
theorem m9_40 : Cond.fieldLink RX3 26 "PennantRopes$State" "layings" "I" ∈ wsL_law := List.mem_append_left _ (List.mem_append_left _ (List.mem_append_left _ (List.mem_of_getElem? (i := 40) rfl)))
set_option maxRecDepth 20000 in
theorem m9_41 : Cond.fieldLink RX3 29 "PennantRopes$State" "joins" "I" ∈ wsL_law := List.mem_append_left _ (List.mem_append_left _ (List.mem_append_left _ (List.mem_of_getElem? (i := 41) rfl)))
set_option maxRecDepth 20000 in
theorem m9_42 : Cond.fieldLink RX3 32 "PennantRopes$State" "cuts" "I" ∈ wsL_law := List.mem_append_left _ (List.mem_append_left _ (List.mem_append_left _ (List.mem_of_getElem? (i := 42) rfl)))
set_option maxRecDepth 20000 in
theorem m9_47 : Cond.fieldLink RX2 9 "PennantRopes$Rope" "colours" "[I" ∈ wsL_law := List.mem_append_left _ (List.mem_append_left _ (List.mem_append_left _ (List.mem_of_getElem? (i := 47) rfl)))
set_option maxRecDepth 20000 in
theorem m9_48 : Cond.fieldLink RX2 15 "PennantRopes$Rope" "orders" "[I" ∈ wsL_law := List.mem_append_left _ (List.mem_append_left _ (List.mem_append_left _ (List.mem_of_getElem? (i := 48) rfl)))
set_option maxRecDepth 20000 in
theorem m9_49 : Cond.fieldLink RX2 18 "PennantRopes$Rope" "length" "I" ∈ wsL_law := List.mem_append_left _ (List.mem_append_left _ (List.mem_append_left _ (List.mem_of_getElem? (i := 49) rfl)))
set_option maxRecDepth 20000 in
theorem m9_50 : Cond.fieldLink RX2 22 "PennantRopes$Rope" "hueCount" "I" ∈ wsL_law := List.mem_append_left _ (List.mem_append_left _ (List.mem_append_left _ (List.mem_of_getElem? (i := 50) rfl)))
set_option maxRecDepth 20000 in
theorem m9_56 : Cond.fieldLink RX0 11 "PennantRopes$History" "states" "[LPennantRopes$State;" ∈ wsL_law := List.mem_append_left _ (List.mem_append_left _ (List.mem_append_left _ (List.mem_of_getElem? (i := 56) rfl)))
set_option maxRecDepth 20000 in
theorem m9_57 : Cond.fieldLink RX0 18 "PennantRopes$History" "size" "I" ∈ wsL_law := List.mem_append_left _ (List.mem_append_left _ (List.mem_append_left _ (List.mem_of_getElem? (i := 57) rfl)))
set_option maxRecDepth 20000 in
theorem m9_63 : Cond.fieldLink RX4 9 "PennantRopes$Text" "codes" "[I" ∈ wsL_law := List.mem_append_left _ (List.mem_append_left _ (List.mem_append_left _ (List.mem_of_getElem? (i := 63) rfl)))
set_option maxRecDepth 20000 in
theorem m9_64 : Cond.fieldLink RX4 15 "PennantRopes$Text" "length" "I" ∈ wsL_law := List.mem_append_left _ (List.mem_append_left _ (List.mem_append_left _ (List.mem_of_getElem? (i := 64) rfl)))
set_option maxRecDepth 20000 in
theorem m9_70 : Cond.fieldLink RX6 7 "PennantRopesModel" "s" "[I" ∈ wsL_law := List.mem_append_left _ (List.mem_append_left _ (List.mem_append_left _ (List.mem_of_getElem? (i := 70) rfl)))
set_option maxRecDepth 20000 in
theorem m9_71 : Cond.fieldLink RX6 13 "PennantRopesModel" "aside" "[I" ∈ wsL_law := List.mem_append_left _ (List.mem_append_left _ (List.mem_append_left _ (List.mem_of_getElem? (i := 71) rfl)))
set_option maxRecDepth 20000 in
theorem m9_72 : Cond.fieldLink RX6 16 "PennantRopesModel" "snapshot" "[I" ∈ wsL_law := List.mem_append_left _ (List.mem_append_left _ (List.mem_append_left _ (List.mem_of_getElem? (i := 72) rfl)))
set_option maxRecDepth 20000 in
theorem m9_73 : Cond.fieldLink RX6 19 "PennantRopesModel" "saved" "[I" ∈ wsL_law := List.mem_append_left _ (List.mem_append_left _ (List.mem_append_left _ (List.mem_of_getElem? (i := 73) rfl)))
set_option maxRecDepth 20000 in
theorem m9_74 : Cond.fieldLink RX6 22 "PennantRopesModel" "text" "[I" ∈ wsL_law := List.mem_append_left _ (List.mem_append_left _ (List.mem_append_left _ (List.mem_of_getElem? (i := 74) rfl)))
set_option maxRecDepth 20000 in
theorem m9_75 : Cond.fieldLink RX6 25 "PennantRopesModel" "old" "[I" ∈ wsL_law := List.mem_append_left _ (List.mem_append_left _ (List.mem_append_left _ (List.mem_of_getElem? (i := 75) rfl)))
set_option maxRecDepth 20000 in
theorem m9_98 : Cond.instanceMethod yX3_isLaidOnSome ∈ wsL_law := List.mem_append_left _ (List.mem_append_left _ (List.mem_append_left _ (List.mem_of_getElem? (i := 98) rfl)))
set_option maxRecDepth 20000 in
theorem m9_99 : Cond.selects RX3 yX3_isLaidOnSome yX3_isLaidOnSome ∈ wsL_law := List.mem_append_left _ (List.mem_append_left _ (List.mem_append_left _ (List.mem_of_getElem? (i := 99) rfl)))
set_option maxRecDepth 20000 in
theorem m9_100 : Cond.code yX3_isLaidOnSome cX3_isLaidOnSome 4 (some .boolean) ∈ wsL_law := List.mem_append_left _ (List.mem_append_left _ (List.mem_append_left _ (List.mem_of_getElem? (i := 100) rfl)))
set_option maxRecDepth 20000 in
theorem m9_101 : Cond.methodLink RX3 35 yX3_ropeAt ∈ wsL_law := List.mem_append_left _ (List.mem_append_left _ (List.mem_append_left _ (List.mem_of_getElem? (i := 101) rfl)))
set_option maxRecDepth 20000 in
theorem m9_102 : Cond.instanceMethod yX3_ropeAt ∈ wsL_law := List.mem_append_left _ (List.mem_append_left _ (List.mem_append_left _ (List.mem_of_getElem? (i := 102) rfl)))
set_option maxRecDepth 20000 in
theorem m9_103 : Cond.selects RX3 yX3_ropeAt yX3_ropeAt ∈ wsL_law := List.mem_append_left _ (List.mem_append_left _ (List.mem_append_left _ (List.mem_of_getElem? (i := 103) rfl)))
set_option maxRecDepth 20000 in
theorem m9_104 : Cond.code yX3_ropeAt cX3_ropeAt 2 (some (.object "PennantRopes$Rope")) ∈ wsL_law := List.mem_append_left _ (List.mem_append_left _ (List.mem_append_left _ (List.mem_of_getElem? (i := 104) rfl)))
set_option maxRecDepth 20000 in
theorem m9_105 : Cond.methodLink RX3 66 yX2_orderOf ∈ wsL_law := List.mem_append_left _ (List.mem_append_left _ (List.mem_append_left _ (List.mem_of_getElem? (i := 105) rfl)))
set_option maxRecDepth 20000 in
theorem m9_106 : Cond.instanceMethod yX2_orderOf ∈ wsL_law := List.mem_append_left _ (List.mem_append_left _ (List.mem_append_left _ (List.mem_of_getElem? (i := 106) rfl)))
set_option maxRecDepth 20000 in
theorem m9_107 : Cond.selects RX2 yX2_orderOf yX2_orderOf ∈ wsL_law := List.mem_append_left _ (List.mem_append_left _ (List.mem_append_left _ (List.mem_of_getElem? (i := 107) rfl)))
set_option maxRecDepth 20000 in
theorem m9_108 : Cond.code yX2_orderOf cX2_orderOf 3 (some .int) ∈ wsL_law := List.mem_append_left _ (List.mem_append_left _ (List.mem_append_left _ (List.mem_of_getElem? (i := 108) rfl)))
set_option maxRecDepth 20000 in
theorem m9_113 : Cond.methodLink RX0 22 yX0_dropOldest ∈ wsL_law := List.mem_append_left _ (List.mem_append_left _ (List.mem_append_left _ (List.mem_of_getElem? (i := 113) rfl)))
set_option maxRecDepth 20000 in
theorem m9_114 : Cond.instanceMethod yX0_dropOldest ∈ wsL_law := List.mem_append_left _ (List.mem_append_left _ (List.mem_append_left _ (List.mem_of_getElem? (i := 114) rfl)))
set_option maxRecDepth 20000 in
theorem m9_115 : Cond.selects RX0 yX0_dropOldest yX0_dropOldest ∈ wsL_law := List.mem_append_left _ (List.mem_append_left _ (List.mem_append_left _ (List.mem_of_getElem? (i := 115) rfl)))
set_option maxRecDepth 20000 in
theorem m9_116 : Cond.code yX0_dropOldest cX0_dropOldest 3 none ∈ wsL_law := List.mem_append_left _ (List.mem_append_left _ (List.mem_append_left _ (List.mem_of_getElem? (i := 116) rfl)))
set_option maxRecDepth 20000 in
theorem m9_117 : Cond.methodLink RX0 25 yX0_rowAt ∈ wsL_law := List.mem_append_left _ (List.mem_append_left _ (List.mem_append_left _ (List.mem_of_getElem? (i := 117) rfl)))
set_option maxRecDepth 20000 in
theorem m9_118 : Cond.instanceMethod yX0_rowAt ∈ wsL_law := List.mem_append_left _ (List.mem_append_left _ (List.mem_append_left _ (List.mem_of_getElem? (i := 118) rfl)))
set_option maxRecDepth 20000 in
theorem m9_119 : Cond.selects RX0 yX0_rowAt yX0_rowAt ∈ wsL_law := List.mem_append_left _ (List.mem_append_left _ (List.mem_append_left _ (List.mem_of_getElem? (i := 119) rfl)))
set_option maxRecDepth 20000 in
theorem m9_120 : Cond.code yX0_rowAt cX0_rowAt 2 (some (.object "PennantRopes$State")) ∈ wsL_law := List.mem_append_left _ (List.mem_append_left _ (List.mem_append_left _ (List.mem_of_getElem? (i := 120) rfl)))
set_option maxRecDepth 20000 in
theorem m9_121 : Cond.methodLink RX0 29 yX3_copyFrom ∈ wsL_law := List.mem_append_left _ (List.mem_append_left _ (List.mem_append_left _ (List.mem_of_getElem? (i := 121) rfl)))
set_option maxRecDepth 20000 in
theorem m9_122 : Cond.instanceMethod yX3_copyFrom ∈ wsL_law := List.mem_append_left _ (List.mem_append_left _ (List.mem_append_left _ (List.mem_of_getElem? (i := 122) rfl)))
set_option maxRecDepth 20000 in
theorem m9_123 : Cond.selects RX3 yX3_copyFrom yX3_copyFrom ∈ wsL_law := List.mem_append_left _ (List.mem_append_left _ (List.mem_append_left _ (List.mem_of_getElem? (i := 123) rfl)))
set_option maxRecDepth 20000 in
theorem m9_124 : Cond.code yX3_copyFrom cX3_copyFrom 5 none ∈ wsL_law := List.mem_append_left _ (List.mem_append_left _ (List.mem_append_left _ (List.mem_of_getElem? (i := 124) rfl)))
set_option maxRecDepth 20000 in
theorem m9_125 : Cond.methodLink RX3 39 yX2_copyFrom ∈ wsL_law := List.mem_append_left _ (List.mem_append_left _ (List.mem_append_left _ (List.mem_of_getElem? (i := 125) rfl)))
set_option maxRecDepth 20000 in
theorem m9_126 : Cond.instanceMethod yX2_copyFrom ∈ wsL_law := List.mem_append_left _ (List.mem_append_left _ (List.mem_append_left _ (List.mem_of_getElem? (i := 126) rfl)))
set_option maxRecDepth 20000 in
theorem m9_127 : Cond.selects RX2 yX2_copyFrom yX2_copyFrom ∈ wsL_law := List.mem_append_left _ (List.mem_append_left _ (List.mem_append_left _ (List.mem_of_getElem? (i := 127) rfl)))
set_option maxRecDepth 20000 in
theorem m9_128 : Cond.code yX2_copyFrom cX2_copyFrom 3 none ∈ wsL_law := List.mem_append_left _ (List.mem_append_left _ (List.mem_append_left _ (List.mem_of_getElem? (i := 128) rfl)))
set_option maxRecDepth 20000 in
theorem m9_129 : Cond.methodLink RX5 68 yX3_gapAt ∈ wsL_law := List.mem_append_left _ (List.mem_append_left _ (List.mem_append_left _ (List.mem_of_getElem? (i := 129) rfl)))
set_option maxRecDepth 20000 in
theorem m9_130 : Cond.instanceMethod yX3_gapAt ∈ wsL_law := List.mem_append_left _ (List.mem_append_left _ (List.mem_append_left _ (List.mem_of_getElem? (i := 130) rfl)))
set_option maxRecDepth 20000 in
theorem m9_131 : Cond.selects RX3 yX3_gapAt yX3_gapAt ∈ wsL_law := List.mem_append_left _ (List.mem_append_left _ (List.mem_append_left _ (List.mem_of_getElem? (i := 131) rfl)))
set_option maxRecDepth 20000 in
theorem m9_132 : Cond.code yX3_gapAt cX3_gapAt 2 (some .int) ∈ wsL_law := List.mem_append_left _ (List.mem_append_left _ (List.mem_append_left _ (List.mem_of_getElem? (i := 132) rfl)))
set_option maxRecDepth 20000 in
theorem m9_141 : Cond.methodLink RX6 74 yX6_isHue ∈ wsL_law := List.mem_append_left _ (List.mem_append_left _ (List.mem_append_left _ (List.mem_of_getElem? (i := 141) rfl)))
set_option maxRecDepth 20000 in
theorem m9_142 : Cond.static yX6_isHue ∈ wsL_law := List.mem_append_left _ (List.mem_append_left _ (List.mem_append_left _ (List.mem_of_getElem? (i := 142) rfl)))
set_option maxRecDepth 20000 in
theorem m9_143 : Cond.code yX6_isHue cX6_isHue 1 (some .boolean) ∈ wsL_law := List.mem_append_left _ (List.mem_append_left _ (List.mem_append_left _ (List.mem_of_getElem? (i := 143) rfl)))
set_option maxRecDepth 20000 in
theorem m9_144 : Cond.methodLink RX6 32 yX6_in ∈ wsL_law := List.mem_append_left _ (List.mem_append_left _ (List.mem_append_left _ (List.mem_of_getElem? (i := 144) rfl)))
set_option maxRecDepth 20000 in
theorem m9_145 : Cond.static yX6_in ∈ wsL_law := List.mem_append_left _ (List.mem_append_left _ (List.mem_append_left _ (List.mem_of_getElem? (i := 145) rfl)))
set_option maxRecDepth 20000 in
theorem m9_146 : Cond.code yX6_in cX6_in 3 (some .boolean) ∈ wsL_law := List.mem_append_left _ (List.mem_append_left _ (List.mem_append_left _ (List.mem_of_getElem? (i := 146) rfl)))
set_option maxRecDepth 20000 in
theorem m9_147 : Cond.methodLink RX6 78 yX6_isLaidAnywhere ∈ wsL_law := List.mem_append_left _ (List.mem_append_left _ (List.mem_append_left _ (List.mem_of_getElem? (i := 147) rfl)))
set_option maxRecDepth 20000 in
theorem m9_148 : Cond.instanceMethod yX6_isLaidAnywhere ∈ wsL_law := List.mem_append_left _ (List.mem_append_left _ (List.mem_append_left _ (List.mem_of_getElem? (i := 148) rfl)))
set_option maxRecDepth 20000 in
theorem m9_149 : Cond.selects RX6 yX6_isLaidAnywhere yX6_isLaidAnywhere ∈ wsL_law := List.mem_append_left _ (List.mem_append_left _ (List.mem_append_left _ (List.mem_of_getElem? (i := 149) rfl)))
set_option maxRecDepth 20000 in
theorem m9_150 : Cond.code yX6_isLaidAnywhere cX6_isLaidAnywhere 4 (some .boolean) ∈ wsL_law := List.mem_append_left _ (List.mem_append_left _ (List.mem_append_left _ (List.mem_of_getElem? (i := 150) rfl)))
set_option maxRecDepth 20000 in
theorem m9_151 : Cond.methodLink RX6 70 yX6_isLaid ∈ wsL_law := List.mem_append_left _ (List.mem_append_left _ (List.mem_append_left _ (List.mem_of_getElem? (i := 151) rfl)))
set_option maxRecDepth 20000 in
theorem m9_152 : Cond.instanceMethod yX6_isLaid ∈ wsL_law := List.mem_append_left _ (List.mem_append_left _ (List.mem_append_left _ (List.mem_of_getElem? (i := 152) rfl)))
set_option maxRecDepth 20000 in
theorem m9_153 : Cond.selects RX6 yX6_isLaid yX6_isLaid ∈ wsL_law := List.mem_append_left _ (List.mem_append_left _ (List.mem_append_left _ (List.mem_of_getElem? (i := 153) rfl)))
set_option maxRecDepth 20000 in
theorem m9_154 : Cond.code yX6_isLaid cX6_isLaid 3 (some .boolean) ∈ wsL_law := List.mem_append_left _ (List.mem_append_left _ (List.mem_append_left _ (List.mem_of_getElem? (i := 154) rfl)))
set_option maxRecDepth 20000 in
theorem m9_155 : Cond.methodLink RX6 40 yX6_phaseOf ∈ wsL_law := List.mem_append_left _ (List.mem_append_left _ (List.mem_append_left _ (List.mem_of_getElem? (i := 155) rfl)))
set_option maxRecDepth 20000 in
theorem m9_156 : Cond.instanceMethod yX6_phaseOf ∈ wsL_law := List.mem_append_left _ (List.mem_append_left _ (List.mem_append_left _ (List.mem_of_getElem? (i := 156) rfl)))
set_option maxRecDepth 20000 in
theorem m9_157 : Cond.selects RX6 yX6_phaseOf yX6_phaseOf ∈ wsL_law := List.mem_append_left _ (List.mem_append_left _ (List.mem_append_left _ (List.mem_of_getElem? (i := 157) rfl)))
set_option maxRecDepth 20000 in
theorem m9_158 : Cond.code yX6_phaseOf cX6_phaseOf 3 (some .int) ∈ wsL_law := List.mem_append_left _ (List.mem_append_left _ (List.mem_append_left _ (List.mem_of_getElem? (i := 158) rfl)))
set_option maxRecDepth 20000 in
theorem m9_159 : Cond.methodLink RX6 36 yX6_of ∈ wsL_law := List.mem_append_left _ (List.mem_append_left _ (List.mem_append_left _ (List.mem_of_getElem? (i := 159) rfl)))
set_option maxRecDepth 20000 in
theorem m9_160 : Cond.static yX6_of ∈ wsL_law := List.mem_append_left _ (List.mem_append_left _ (List.mem_append_left _ (List.mem_of_getElem? (i := 160) rfl)))
set_option maxRecDepth 20000 in
theorem m9_161 : Cond.code yX6_of cX6_of 2 (some .int) ∈ wsL_law := List.mem_append_left _ (List.mem_append_left _ (List.mem_append_left _ (List.mem_of_getElem? (i := 161) rfl)))
set_option maxRecDepth 20000 in
theorem m9_162 : Cond.methodLink RX6 81 yX6_holds ∈ wsL_law := List.mem_append_left _ (List.mem_append_left _ (List.mem_append_left _ (List.mem_of_getElem? (i := 162) rfl)))
set_option maxRecDepth 20000 in
theorem m9_163 : Cond.instanceMethod yX6_holds ∈ wsL_law := List.mem_append_left _ (List.mem_append_left _ (List.mem_append_left _ (List.mem_of_getElem? (i := 163) rfl)))
set_option maxRecDepth 20000 in
theorem m9_164 : Cond.selects RX6 yX6_holds yX6_holds ∈ wsL_law := List.mem_append_left _ (List.mem_append_left _ (List.mem_append_left _ (List.mem_of_getElem? (i := 164) rfl)))
set_option maxRecDepth 20000 in
theorem m9_165 : Cond.code yX6_holds cX6_holds 2 (some .boolean) ∈ wsL_law := List.mem_append_left _ (List.mem_append_left _ (List.mem_append_left _ (List.mem_of_getElem? (i := 165) rfl)))
set_option maxRecDepth 20000 in
theorem m9_166 : Cond.fieldLink RX6 28 "PennantRopesModel" "thrown" "I" ∈ wsL_law := List.mem_append_left _ (List.mem_append_left _ (List.mem_append_left _ (List.mem_of_getElem? (i := 166) rfl)))
set_option maxRecDepth 20000 in
theorem m9_167 : Cond.methodLink RX6 84 yX6_save ∈ wsL_law := List.mem_append_left _ (List.mem_append_left _ (List.mem_append_left _ (List.mem_of_getElem? (i := 167) rfl)))
set_option maxRecDepth 20000 in
theorem m9_168 : Cond.instanceMethod yX6_save ∈ wsL_law := List.mem_append_left _ (List.mem_append_left _ (List.mem_append_left _ (List.mem_of_getElem? (i := 168) rfl)))
set_option maxRecDepth 20000 in
theorem m9_169 : Cond.selects RX6 yX6_save yX6_save ∈ wsL_law := List.mem_append_left _ (List.mem_append_left _ (List.mem_append_left _ (List.mem_of_getElem? (i := 169) rfl)))
set_option maxRecDepth 20000 in
theorem m9_170 : Cond.code yX6_save cX6_save 2 none ∈ wsL_law := List.mem_append_left _ (List.mem_append_left _ (List.mem_append_left _ (List.mem_of_getElem? (i := 170) rfl)))
set_option maxRecDepth 20000 in
theorem m9_171 : Cond.fieldLink RX6 43 "PennantRopesModel" "savedMany" "I" ∈ wsL_law := List.mem_append_left _ (List.mem_append_left _ (List.mem_append_left _ (List.mem_of_getElem? (i := 171) rfl)))
set_option maxRecDepth 20000 in
theorem m9_191 : Cond.methodLink RX5 86 yX3_ropeCount ∈ wsL_law := List.mem_append_left _ (List.mem_append_left _ (List.mem_append_left _ (List.mem_of_getElem? (i := 191) rfl)))
set_option maxRecDepth 20000 in
theorem m9_192 : Cond.instanceMethod yX3_ropeCount ∈ wsL_law := List.mem_append_left _ (List.mem_append_left _ (List.mem_append_left _ (List.mem_of_getElem? (i := 192) rfl)))
set_option maxRecDepth 20000 in
theorem m9_193 : Cond.selects RX3 yX3_ropeCount yX3_ropeCount ∈ wsL_law := List.mem_append_left _ (List.mem_append_left _ (List.mem_append_left _ (List.mem_of_getElem? (i := 193) rfl)))
set_option maxRecDepth 20000 in
theorem m9_194 : Cond.code yX3_ropeCount cX3_ropeCount 1 (some .int) ∈ wsL_law := List.mem_append_left _ (List.mem_append_left _ (List.mem_append_left _ (List.mem_of_getElem? (i := 194) rfl)))
set_option maxRecDepth 20000 in
theorem m9_195 : Cond.methodLink RX5 82 yX3_addRope ∈ wsL_law := List.mem_append_left _ (List.mem_append_left _ (List.mem_append_left _ (List.mem_of_getElem? (i := 195) rfl)))
set_option maxRecDepth 20000 in
theorem m9_196 : Cond.instanceMethod yX3_addRope ∈ wsL_law := List.mem_append_left _ (List.mem_append_left _ (List.mem_append_left _ (List.mem_of_getElem? (i := 196) rfl)))
set_option maxRecDepth 20000 in
theorem m9_197 : Cond.selects RX3 yX3_addRope yX3_addRope ∈ wsL_law := List.mem_append_left _ (List.mem_append_left _ (List.mem_append_left _ (List.mem_of_getElem? (i := 197) rfl)))
set_option maxRecDepth 20000 in
theorem m9_198 : Cond.code yX3_addRope cX3_addRope 3 (some (.object "PennantRopes$Rope")) ∈ wsL_law := List.mem_append_left _ (List.mem_append_left _ (List.mem_append_left _ (List.mem_of_getElem? (i := 198) rfl)))
set_option maxRecDepth 20000 in
theorem m9_199 : Cond.methodLink RX3 43 yX2_begin ∈ wsL_law := List.mem_append_left _ (List.mem_append_left _ (List.mem_append_left _ (List.mem_of_getElem? (i := 199) rfl)))
set_option maxRecDepth 20000 in
theorem m9_200 : Cond.instanceMethod yX2_begin ∈ wsL_law := List.mem_append_left _ (List.mem_append_left _ (List.mem_append_left _ (List.mem_of_getElem? (i := 200) rfl)))
set_option maxRecDepth 20000 in
theorem m9_201 : Cond.selects RX2 yX2_begin yX2_begin ∈ wsL_law := List.mem_append_left _ (List.mem_append_left _ (List.mem_append_left _ (List.mem_of_getElem? (i := 201) rfl)))
set_option maxRecDepth 20000 in
theorem m9_202 : Cond.code yX2_begin cX2_begin 3 none ∈ wsL_law := List.mem_append_left _ (List.mem_append_left _ (List.mem_append_left _ (List.mem_of_getElem? (i := 202) rfl)))
set_option maxRecDepth 20000 in
theorem m9_203 : Cond.methodLink RX2 25 Lib.Math.min.name ∈ wsL_law := List.mem_append_left _ (List.mem_append_left _ (List.mem_append_left _ (List.mem_of_getElem? (i := 203) rfl)))
set_option maxRecDepth 20000 in
theorem m9_204 : Cond.static Lib.Math.min.name ∈ wsL_law := List.mem_append_left _ (List.mem_append_left _ (List.mem_append_left _ (List.mem_of_getElem? (i := 204) rfl)))
set_option maxRecDepth 20000 in
theorem m9_205 : Cond.initialized "java/lang/Math" ∈ wsL_law := List.mem_append_left _ (List.mem_append_left _ (List.mem_append_left _ (List.mem_of_getElem? (i := 205) rfl)))
set_option maxRecDepth 20000 in
theorem m9_206 : Cond.code Lib.Math.min.name Lib.Math.min.code 2 (some .int) ∈ wsL_law := List.mem_append_left _ (List.mem_append_left _ (List.mem_append_left _ (List.mem_of_getElem? (i := 206) rfl)))
set_option maxRecDepth 20000 in
theorem m9_207 : Cond.methodLink RX2 31 Lib.Math.max.name ∈ wsL_law := List.mem_append_left _ (List.mem_append_left _ (List.mem_append_left _ (List.mem_of_getElem? (i := 207) rfl)))
set_option maxRecDepth 20000 in
theorem m9_208 : Cond.static Lib.Math.max.name ∈ wsL_law := List.mem_append_left _ (List.mem_append_left _ (List.mem_append_left _ (List.mem_of_getElem? (i := 208) rfl)))
set_option maxRecDepth 20000 in
theorem m9_209 : Cond.code Lib.Math.max.name Lib.Math.max.code 2 (some .int) ∈ wsL_law := List.mem_append_left _ (List.mem_append_left _ (List.mem_append_left _ (List.mem_of_getElem? (i := 209) rfl)))
set_option maxRecDepth 20000 in
theorem m9_214 : Cond.methodLink RX6 87 yX6_adds ∈ wsL_law := List.mem_append_left _ (List.mem_append_left _ (List.mem_append_left _ (List.mem_of_getElem? (i := 214) rfl)))
set_option maxRecDepth 20000 in
theorem m9_215 : Cond.instanceMethod yX6_adds ∈ wsL_law := List.mem_append_left _ (List.mem_append_left _ (List.mem_append_left _ (List.mem_of_getElem? (i := 215) rfl)))
set_option maxRecDepth 20000 in
theorem m9_216 : Cond.selects RX6 yX6_adds yX6_adds ∈ wsL_law := List.mem_append_left _ (List.mem_append_left _ (List.mem_append_left _ (List.mem_of_getElem? (i := 216) rfl)))
set_option maxRecDepth 20000 in
theorem m9_217 : Cond.code yX6_adds cX6_adds 2 none ∈ wsL_law := List.mem_append_left _ (List.mem_append_left _ (List.mem_append_left _ (List.mem_of_getElem? (i := 217) rfl)))
set_option maxRecDepth 20000 in
theorem m9_218 : Cond.methodLink RX6 66 yX6_clears ∈ wsL_law := List.mem_append_left _ (List.mem_append_left _ (List.mem_append_left _ (List.mem_of_getElem? (i := 218) rfl)))
set_option maxRecDepth 20000 in
theorem m9_219 : Cond.instanceMethod yX6_clears ∈ wsL_law := List.mem_append_left _ (List.mem_append_left _ (List.mem_append_left _ (List.mem_of_getElem? (i := 219) rfl)))
set_option maxRecDepth 20000 in
theorem m9_220 : Cond.selects RX6 yX6_clears yX6_clears ∈ wsL_law := List.mem_append_left _ (List.mem_append_left _ (List.mem_append_left _ (List.mem_of_getElem? (i := 220) rfl)))
set_option maxRecDepth 20000 in
theorem m9_221 : Cond.code yX6_clears cX6_clears 4 none ∈ wsL_law := List.mem_append_left _ (List.mem_append_left _ (List.mem_append_left _ (List.mem_of_getElem? (i := 221) rfl)))
set_option maxRecDepth 20000 in
theorem m9_233 : Cond.methodLink RX5 268 yX3_ropeAt ∈ wsL_law := List.mem_append_left _ (List.mem_append_left _ (List.mem_append_left _ (List.mem_of_getElem? (i := 233) rfl)))
set_option maxRecDepth 20000 in
theorem m9_242 : Cond.methodLink RX6 90 yX6_isRope ∈ wsL_law := List.mem_append_left _ (List.mem_append_left _ (List.mem_append_left _ (List.mem_of_getElem? (i := 242) rfl)))
set_option maxRecDepth 20000 in
theorem m9_243 : Cond.instanceMethod yX6_isRope ∈ wsL_law := List.mem_append_left _ (List.mem_append_left _ (List.mem_append_left _ (List.mem_of_getElem? (i := 243) rfl)))
set_option maxRecDepth 20000 in
theorem m9_244 : Cond.selects RX6 yX6_isRope yX6_isRope ∈ wsL_law := List.mem_append_left _ (List.mem_append_left _ (List.mem_append_left _ (List.mem_of_getElem? (i := 244) rfl)))
set_option maxRecDepth 20000 in
theorem m9_245 : Cond.code yX6_isRope cX6_isRope 2 (some .boolean) ∈ wsL_law := List.mem_append_left _ (List.mem_append_left _ (List.mem_append_left _ (List.mem_of_getElem? (i := 245) rfl)))
set_option maxRecDepth 20000 in
theorem m9_246 : Cond.methodLink RX6 93 yX6_drops ∈ wsL_law := List.mem_append_left _ (List.mem_append_left _ (List.mem_append_left _ (List.mem_of_getElem? (i := 246) rfl)))
set_option maxRecDepth 20000 in
theorem m9_247 : Cond.instanceMethod yX6_drops ∈ wsL_law := List.mem_append_left _ (List.mem_append_left _ (List.mem_append_left _ (List.mem_of_getElem? (i := 247) rfl)))
set_option maxRecDepth 20000 in
theorem m9_248 : Cond.selects RX6 yX6_drops yX6_drops ∈ wsL_law := List.mem_append_left _ (List.mem_append_left _ (List.mem_append_left _ (List.mem_of_getElem? (i := 248) rfl)))
set_option maxRecDepth 20000 in
theorem m9_249 : Cond.code yX6_drops cX6_drops 3 none ∈ wsL_law := List.mem_append_left _ (List.mem_append_left _ (List.mem_append_left _ (List.mem_of_getElem? (i := 249) rfl)))
set_option maxRecDepth 20000 in
theorem m9_261 : Cond.methodLink RX5 99 yX2_reasonAgainst ∈ wsL_law := List.mem_append_left _ (List.mem_append_left _ (List.mem_append_left _ (List.mem_of_getElem? (i := 261) rfl)))
set_option maxRecDepth 20000 in
theorem m9_262 : Cond.instanceMethod yX2_reasonAgainst ∈ wsL_law := List.mem_append_left _ (List.mem_append_left _ (List.mem_append_left _ (List.mem_of_getElem? (i := 262) rfl)))
set_option maxRecDepth 20000 in
theorem m9_263 : Cond.selects RX2 yX2_reasonAgainst yX2_reasonAgainst ∈ wsL_law := List.mem_append_left _ (List.mem_append_left _ (List.mem_append_left _ (List.mem_of_getElem? (i := 263) rfl)))
set_option maxRecDepth 20000 in
theorem m9_264 : Cond.code yX2_reasonAgainst cX2_reasonAgainst 6 (some .int) ∈ wsL_law := List.mem_append_left _ (List.mem_append_left _ (List.mem_append_left _ (List.mem_of_getElem? (i := 264) rfl)))
set_option maxRecDepth 20000 in
theorem m9_265 : Cond.methodLink RX2 38 yX2_orderOf ∈ wsL_law := List.mem_append_left _ (List.mem_append_left _ (List.mem_append_left _ (List.mem_of_getElem? (i := 265) rfl)))
set_option maxRecDepth 20000 in
theorem m9_266 : Cond.methodLink RX2 34 yX2_colourAt ∈ wsL_law := List.mem_append_left _ (List.mem_append_left _ (List.mem_append_left _ (List.mem_of_getElem? (i := 266) rfl)))
set_option maxRecDepth 20000 in
theorem m9_267 : Cond.instanceMethod yX2_colourAt ∈ wsL_law := List.mem_append_left _ (List.mem_append_left _ (List.mem_append_left _ (List.mem_of_getElem? (i := 267) rfl)))
set_option maxRecDepth 20000 in
theorem m9_268 : Cond.selects RX2 yX2_colourAt yX2_colourAt ∈ wsL_law := List.mem_append_left _ (List.mem_append_left _ (List.mem_append_left _ (List.mem_of_getElem? (i := 268) rfl)))
set_option maxRecDepth 20000 in
theorem m9_269 : Cond.code yX2_colourAt cX2_colourAt 2 (some .int) ∈ wsL_law := List.mem_append_left _ (List.mem_append_left _ (List.mem_append_left _ (List.mem_of_getElem? (i := 269) rfl)))
set_option maxRecDepth 20000 in
theorem m9_270 : Cond.methodLink RX5 105 yX3_layOn ∈ wsL_law := List.mem_append_left _ (List.mem_append_left _ (List.mem_append_left _ (List.mem_of_getElem? (i := 270) rfl)))
set_option maxRecDepth 20000 in
theorem m9_271 : Cond.instanceMethod yX3_layOn ∈ wsL_law := List.mem_append_left _ (List.mem_append_left _ (List.mem_append_left _ (List.mem_of_getElem? (i := 271) rfl)))
set_option maxRecDepth 20000 in
theorem m9_272 : Cond.selects RX3 yX3_layOn yX3_layOn ∈ wsL_law := List.mem_append_left _ (List.mem_append_left _ (List.mem_append_left _ (List.mem_of_getElem? (i := 272) rfl)))
set_option maxRecDepth 20000 in
theorem m9_273 : Cond.code yX3_layOn cX3_layOn 4 (some .int) ∈ wsL_law := List.mem_append_left _ (List.mem_append_left _ (List.mem_append_left _ (List.mem_of_getElem? (i := 273) rfl)))
set_option maxRecDepth 20000 in
theorem m9_274 : Cond.methodLink RX3 47 yX3_gapAt ∈ wsL_law := List.mem_append_left _ (List.mem_append_left _ (List.mem_append_left _ (List.mem_of_getElem? (i := 274) rfl)))
set_option maxRecDepth 20000 in
theorem m9_275 : Cond.methodLink RX3 51 yX2_put ∈ wsL_law := List.mem_append_left _ (List.mem_append_left _ (List.mem_append_left _ (List.mem_of_getElem? (i := 275) rfl)))
set_option maxRecDepth 20000 in
theorem m9_276 : Cond.instanceMethod yX2_put ∈ wsL_law := List.mem_append_left _ (List.mem_append_left _ (List.mem_append_left _ (List.mem_of_getElem? (i := 276) rfl)))
set_option maxRecDepth 20000 in
theorem m9_277 : Cond.selects RX2 yX2_put yX2_put ∈ wsL_law := List.mem_append_left _ (List.mem_append_left _ (List.mem_append_left _ (List.mem_of_getElem? (i := 277) rfl)))
set_option maxRecDepth 20000 in
theorem m9_278 : Cond.code yX2_put cX2_put 7 (some .int) ∈ wsL_law := List.mem_append_left _ (List.mem_append_left _ (List.mem_append_left _ (List.mem_of_getElem? (i := 278) rfl)))
set_option maxRecDepth 20000 in
theorem m9_279 : Cond.methodLink RX2 41 yX2_setColour ∈ wsL_law := List.mem_append_left _ (List.mem_append_left _ (List.mem_append_left _ (List.mem_of_getElem? (i := 279) rfl)))
set_option maxRecDepth 20000 in
theorem m9_280 : Cond.instanceMethod yX2_setColour ∈ wsL_law := List.mem_append_left _ (List.mem_append_left _ (List.mem_append_left _ (List.mem_of_getElem? (i := 280) rfl)))
set_option maxRecDepth 20000 in
theorem m9_281 : Cond.selects RX2 yX2_setColour yX2_setColour ∈ wsL_law := List.mem_append_left _ (List.mem_append_left _ (List.mem_append_left _ (List.mem_of_getElem? (i := 281) rfl)))
set_option maxRecDepth 20000 in
theorem m9_282 : Cond.code yX2_setColour cX2_setColour 3 none ∈ wsL_law := List.mem_append_left _ (List.mem_append_left _ (List.mem_append_left _ (List.mem_of_getElem? (i := 282) rfl)))
set_option maxRecDepth 20000 in
theorem m9_287 : Cond.methodLink RX6 96 yX6_areThere ∈ wsL_law := List.mem_append_left _ (List.mem_append_left _ (List.mem_append_left _ (List.mem_of_getElem? (i := 287) rfl)))
set_option maxRecDepth 20000 in
theorem m9_288 : Cond.instanceMethod yX6_areThere ∈ wsL_law := List.mem_append_left _ (List.mem_append_left _ (List.mem_append_left _ (List.mem_of_getElem? (i := 288) rfl)))
set_option maxRecDepth 20000 in
theorem m9_289 : Cond.selects RX6 yX6_areThere yX6_areThere ∈ wsL_law := List.mem_append_left _ (List.mem_append_left _ (List.mem_append_left _ (List.mem_of_getElem? (i := 289) rfl)))
set_option maxRecDepth 20000 in
theorem m9_290 : Cond.code yX6_areThere cX6_areThere 3 (some .boolean) ∈ wsL_law := List.mem_append_left _ (List.mem_append_left _ (List.mem_append_left _ (List.mem_of_getElem? (i := 290) rfl)))
set_option maxRecDepth 20000 in
theorem m9_291 : Cond.methodLink RX6 99 yX6_isPhase ∈ wsL_law := List.mem_append_left _ (List.mem_append_left _ (List.mem_append_left _ (List.mem_of_getElem? (i := 291) rfl)))
set_option maxRecDepth 20000 in
theorem m9_292 : Cond.instanceMethod yX6_isPhase ∈ wsL_law := List.mem_append_left _ (List.mem_append_left _ (List.mem_append_left _ (List.mem_of_getElem? (i := 292) rfl)))
set_option maxRecDepth 20000 in
theorem m9_293 : Cond.selects RX6 yX6_isPhase yX6_isPhase ∈ wsL_law := List.mem_append_left _ (List.mem_append_left _ (List.mem_append_left _ (List.mem_of_getElem? (i := 293) rfl)))
set_option maxRecDepth 20000 in
theorem m9_294 : Cond.code yX6_isPhase cX6_isPhase 3 (some .boolean) ∈ wsL_law := List.mem_append_left _ (List.mem_append_left _ (List.mem_append_left _ (List.mem_of_getElem? (i := 294) rfl)))
set_option maxRecDepth 20000 in
theorem m9_295 : Cond.methodLink RX6 102 yX6_why ∈ wsL_law := List.mem_append_left _ (List.mem_append_left _ (List.mem_append_left _ (List.mem_of_getElem? (i := 295) rfl)))
set_option maxRecDepth 20000 in
theorem m9_296 : Cond.instanceMethod yX6_why ∈ wsL_law := List.mem_append_left _ (List.mem_append_left _ (List.mem_append_left _ (List.mem_of_getElem? (i := 296) rfl)))
set_option maxRecDepth 20000 in
theorem m9_297 : Cond.selects RX6 yX6_why yX6_why ∈ wsL_law := List.mem_append_left _ (List.mem_append_left _ (List.mem_append_left _ (List.mem_of_getElem? (i := 297) rfl)))
set_option maxRecDepth 20000 in
theorem m9_298 : Cond.code yX6_why cX6_why 6 (some .int) ∈ wsL_law := List.mem_append_left _ (List.mem_append_left _ (List.mem_append_left _ (List.mem_of_getElem? (i := 298) rfl)))
set_option maxRecDepth 20000 in
theorem m9_299 : Cond.methodLink RX6 63 yX6_hueAt ∈ wsL_law := List.mem_append_left _ (List.mem_append_left _ (List.mem_append_left _ (List.mem_of_getElem? (i := 299) rfl)))
set_option maxRecDepth 20000 in
theorem m9_300 : Cond.instanceMethod yX6_hueAt ∈ wsL_law := List.mem_append_left _ (List.mem_append_left _ (List.mem_append_left _ (List.mem_of_getElem? (i := 300) rfl)))
set_option maxRecDepth 20000 in
theorem m9_301 : Cond.selects RX6 yX6_hueAt yX6_hueAt ∈ wsL_law := List.mem_append_left _ (List.mem_append_left _ (List.mem_append_left _ (List.mem_of_getElem? (i := 301) rfl)))
set_option maxRecDepth 20000 in
theorem m9_302 : Cond.code yX6_hueAt cX6_hueAt 5 (some .int) ∈ wsL_law := List.mem_append_left _ (List.mem_append_left _ (List.mem_append_left _ (List.mem_of_getElem? (i := 302) rfl)))
set_option maxRecDepth 20000 in
theorem m9_303 : Cond.methodLink RX6 46 yX6_takes ∈ wsL_law := List.mem_append_left _ (List.mem_append_left _ (List.mem_append_left _ (List.mem_of_getElem? (i := 303) rfl)))
set_option maxRecDepth 20000 in
theorem m9_304 : Cond.instanceMethod yX6_takes ∈ wsL_law := List.mem_append_left _ (List.mem_append_left _ (List.mem_append_left _ (List.mem_of_getElem? (i := 304) rfl)))
set_option maxRecDepth 20000 in
theorem m9_305 : Cond.selects RX6 yX6_takes yX6_takes ∈ wsL_law := List.mem_append_left _ (List.mem_append_left _ (List.mem_append_left _ (List.mem_of_getElem? (i := 305) rfl)))
set_option maxRecDepth 20000 in
theorem m9_306 : Cond.code yX6_takes cX6_takes 5 (some .boolean) ∈ wsL_law := List.mem_append_left _ (List.mem_append_left _ (List.mem_append_left _ (List.mem_of_getElem? (i := 306) rfl)))
set_option maxRecDepth 20000 in
theorem m9_307 : Cond.methodLink RX6 52 yX6_lays ∈ wsL_law := List.mem_append_left _ (List.mem_append_left _ (List.mem_append_left _ (List.mem_of_getElem? (i := 307) rfl)))
set_option maxRecDepth 20000 in
theorem m9_308 : Cond.instanceMethod yX6_lays ∈ wsL_law := List.mem_append_left _ (List.mem_append_left _ (List.mem_append_left _ (List.mem_of_getElem? (i := 308) rfl)))
set_option maxRecDepth 20000 in
theorem m9_309 : Cond.selects RX6 yX6_lays yX6_lays ∈ wsL_law := List.mem_append_left _ (List.mem_append_left _ (List.mem_append_left _ (List.mem_of_getElem? (i := 309) rfl)))
set_option maxRecDepth 20000 in
theorem m9_310 : Cond.code yX6_lays cX6_lays 4 none ∈ wsL_law := List.mem_append_left _ (List.mem_append_left _ (List.mem_append_left _ (List.mem_of_getElem? (i := 310) rfl)))
set_option maxRecDepth 20000 in
theorem m9_311 : Cond.methodLink RX6 106 yX6_placesOf ∈ wsL_law := List.mem_append_left _ (List.mem_append_left _ (List.mem_append_left _ (List.mem_of_getElem? (i := 311) rfl)))
set_option maxRecDepth 20000 in
theorem m9_312 : Cond.instanceMethod yX6_placesOf ∈ wsL_law := List.mem_append_left _ (List.mem_append_left _ (List.mem_append_left _ (List.mem_of_getElem? (i := 312) rfl)))
set_option maxRecDepth 20000 in
theorem m9_313 : Cond.selects RX6 yX6_placesOf yX6_placesOf ∈ wsL_law := List.mem_append_left _ (List.mem_append_left _ (List.mem_append_left _ (List.mem_of_getElem? (i := 313) rfl)))
set_option maxRecDepth 20000 in
theorem m9_314 : Cond.code yX6_placesOf cX6_placesOf 5 (some .int) ∈ wsL_law := List.mem_append_left _ (List.mem_append_left _ (List.mem_append_left _ (List.mem_of_getElem? (i := 314) rfl)))
set_option maxRecDepth 20000 in
theorem m9_322 : Cond.methodLink RX5 109 yX2_orderOf ∈ wsL_law := List.mem_append_left _ (List.mem_append_left _ (List.mem_append_left _ (List.mem_of_getElem? (i := 322) rfl)))
set_option maxRecDepth 20000 in
theorem m9_323 : Cond.methodLink RX5 114 yX2_remove ∈ wsL_law := List.mem_append_left _ (List.mem_append_left _ (List.mem_append_left _ (List.mem_of_getElem? (i := 323) rfl)))
set_option maxRecDepth 20000 in
theorem m9_324 : Cond.instanceMethod yX2_remove ∈ wsL_law := List.mem_append_left _ (List.mem_append_left _ (List.mem_append_left _ (List.mem_of_getElem? (i := 324) rfl)))
set_option maxRecDepth 20000 in
theorem m9_325 : Cond.selects RX2 yX2_remove yX2_remove ∈ wsL_law := List.mem_append_left _ (List.mem_append_left _ (List.mem_append_left _ (List.mem_of_getElem? (i := 325) rfl)))
set_option maxRecDepth 20000 in
theorem m9_326 : Cond.code yX2_remove cX2_remove 5 (some .int) ∈ wsL_law := List.mem_append_left _ (List.mem_append_left _ (List.mem_append_left _ (List.mem_of_getElem? (i := 326) rfl)))
set_option maxRecDepth 20000 in
theorem m9_327 : Cond.methodLink RX2 45 yX2_placesOf ∈ wsL_law := List.mem_append_left _ (List.mem_append_left _ (List.mem_append_left _ (List.mem_of_getElem? (i := 327) rfl)))
set_option maxRecDepth 20000 in
theorem m9_328 : Cond.instanceMethod yX2_placesOf ∈ wsL_law := List.mem_append_left _ (List.mem_append_left _ (List.mem_append_left _ (List.mem_of_getElem? (i := 328) rfl)))
set_option maxRecDepth 20000 in
theorem m9_329 : Cond.selects RX2 yX2_placesOf yX2_placesOf ∈ wsL_law := List.mem_append_left _ (List.mem_append_left _ (List.mem_append_left _ (List.mem_of_getElem? (i := 329) rfl)))
set_option maxRecDepth 20000 in
theorem m9_330 : Cond.code yX2_placesOf cX2_placesOf 4 (some .int) ∈ wsL_law := List.mem_append_left _ (List.mem_append_left _ (List.mem_append_left _ (List.mem_of_getElem? (i := 330) rfl)))
set_option maxRecDepth 20000 in
theorem m9_335 : Cond.methodLink RX6 109 yX6_takesOff ∈ wsL_law := List.mem_append_left _ (List.mem_append_left _ (List.mem_append_left _ (List.mem_of_getElem? (i := 335) rfl)))
set_option maxRecDepth 20000 in
theorem m9_336 : Cond.instanceMethod yX6_takesOff ∈ wsL_law := List.mem_append_left _ (List.mem_append_left _ (List.mem_append_left _ (List.mem_of_getElem? (i := 336) rfl)))
set_option maxRecDepth 20000 in
theorem m9_337 : Cond.selects RX6 yX6_takesOff yX6_takesOff ∈ wsL_law := List.mem_append_left _ (List.mem_append_left _ (List.mem_append_left _ (List.mem_of_getElem? (i := 337) rfl)))
set_option maxRecDepth 20000 in
theorem m9_338 : Cond.code yX6_takesOff cX6_takesOff 4 none ∈ wsL_law := List.mem_append_left _ (List.mem_append_left _ (List.mem_append_left _ (List.mem_of_getElem? (i := 338) rfl)))
set_option maxRecDepth 20000 in
theorem m9_339 : Cond.methodLink RX6 56 yX6_remembers ∈ wsL_law := List.mem_append_left _ (List.mem_append_left _ (List.mem_append_left _ (List.mem_of_getElem? (i := 339) rfl)))
set_option maxRecDepth 20000 in
theorem m9_340 : Cond.instanceMethod yX6_remembers ∈ wsL_law := List.mem_append_left _ (List.mem_append_left _ (List.mem_append_left _ (List.mem_of_getElem? (i := 340) rfl)))
set_option maxRecDepth 20000 in
theorem m9_341 : Cond.selects RX6 yX6_remembers yX6_remembers ∈ wsL_law := List.mem_append_left _ (List.mem_append_left _ (List.mem_append_left _ (List.mem_of_getElem? (i := 341) rfl)))
set_option maxRecDepth 20000 in
theorem m9_342 : Cond.code yX6_remembers cX6_remembers 3 none ∈ wsL_law := List.mem_append_left _ (List.mem_append_left _ (List.mem_append_left _ (List.mem_of_getElem? (i := 342) rfl)))
set_option maxRecDepth 20000 in
theorem m9_350 : Cond.methodLink RX5 117 yX5_greatestLength ∈ wsL_law := List.mem_append_left _ (List.mem_append_left _ (List.mem_append_left _ (List.mem_of_getElem? (i := 350) rfl)))
set_option maxRecDepth 20000 in
theorem m9_351 : Cond.instanceMethod yX5_greatestLength ∈ wsL_law := List.mem_append_left _ (List.mem_append_left _ (List.mem_append_left _ (List.mem_of_getElem? (i := 351) rfl)))
set_option maxRecDepth 20000 in
theorem m9_352 : Cond.selects RX5 yX5_greatestLength yX5_greatestLength ∈ wsL_law := List.mem_append_left _ (List.mem_append_left _ (List.mem_append_left _ (List.mem_of_getElem? (i := 352) rfl)))
set_option maxRecDepth 20000 in
theorem m9_353 : Cond.code yX5_greatestLength cX5_greatestLength 3 (some .int) ∈ wsL_law := List.mem_append_left _ (List.mem_append_left _ (List.mem_append_left _ (List.mem_of_getElem? (i := 353) rfl)))
set_option maxRecDepth 20000 in
theorem m9_354 : Cond.methodLink RX5 130 yX2_length ∈ wsL_law := List.mem_append_left _ (List.mem_append_left _ (List.mem_append_left _ (List.mem_of_getElem? (i := 354) rfl)))
set_option maxRecDepth 20000 in
theorem m9_355 : Cond.instanceMethod yX2_length ∈ wsL_law := List.mem_append_left _ (List.mem_append_left _ (List.mem_append_left _ (List.mem_of_getElem? (i := 355) rfl)))
set_option maxRecDepth 20000 in
theorem m9_356 : Cond.selects RX2 yX2_length yX2_length ∈ wsL_law := List.mem_append_left _ (List.mem_append_left _ (List.mem_append_left _ (List.mem_of_getElem? (i := 356) rfl)))
set_option maxRecDepth 20000 in
theorem m9_357 : Cond.code yX2_length cX2_length 1 (some .int) ∈ wsL_law := List.mem_append_left _ (List.mem_append_left _ (List.mem_append_left _ (List.mem_of_getElem? (i := 357) rfl)))
set_option maxRecDepth 20000 in
theorem m9_358 : Cond.methodLink RX5 314 yX5_huesDueAt ∈ wsL_law := List.mem_append_left _ (List.mem_append_left _ (List.mem_append_left _ (List.mem_of_getElem? (i := 358) rfl)))
set_option maxRecDepth 20000 in
theorem m9_359 : Cond.instanceMethod yX5_huesDueAt ∈ wsL_law := List.mem_append_left _ (List.mem_append_left _ (List.mem_append_left _ (List.mem_of_getElem? (i := 359) rfl)))
set_option maxRecDepth 20000 in
theorem m9_360 : Cond.selects RX5 yX5_huesDueAt yX5_huesDueAt ∈ wsL_law := List.mem_append_left _ (List.mem_append_left _ (List.mem_append_left _ (List.mem_of_getElem? (i := 360) rfl)))
set_option maxRecDepth 20000 in
theorem m9_361 : Cond.code yX5_huesDueAt cX5_huesDueAt 6 (some .int) ∈ wsL_law := List.mem_append_left _ (List.mem_append_left _ (List.mem_append_left _ (List.mem_of_getElem? (i := 361) rfl)))
set_option maxRecDepth 20000 in
theorem m9_362 : Cond.methodLink RX5 123 yX2_hueCount ∈ wsL_law := List.mem_append_left _ (List.mem_append_left _ (List.mem_append_left _ (List.mem_of_getElem? (i := 362) rfl)))
set_option maxRecDepth 20000 in
theorem m9_363 : Cond.instanceMethod yX2_hueCount ∈ wsL_law := List.mem_append_left _ (List.mem_append_left _ (List.mem_append_left _ (List.mem_of_getElem? (i := 363) rfl)))
set_option maxRecDepth 20000 in
theorem m9_364 : Cond.selects RX2 yX2_hueCount yX2_hueCount ∈ wsL_law := List.mem_append_left _ (List.mem_append_left _ (List.mem_append_left _ (List.mem_of_getElem? (i := 364) rfl)))
set_option maxRecDepth 20000 in
theorem m9_365 : Cond.code yX2_hueCount cX2_hueCount 1 (some .int) ∈ wsL_law := List.mem_append_left _ (List.mem_append_left _ (List.mem_append_left _ (List.mem_of_getElem? (i := 365) rfl)))
set_option maxRecDepth 20000 in
theorem m9_366 : Cond.methodLink RX5 286 yX2_hueAt ∈ wsL_law := List.mem_append_left _ (List.mem_append_left _ (List.mem_append_left _ (List.mem_of_getElem? (i := 366) rfl)))
set_option maxRecDepth 20000 in
theorem m9_367 : Cond.instanceMethod yX2_hueAt ∈ wsL_law := List.mem_append_left _ (List.mem_append_left _ (List.mem_append_left _ (List.mem_of_getElem? (i := 367) rfl)))
set_option maxRecDepth 20000 in
theorem m9_368 : Cond.selects RX2 yX2_hueAt yX2_hueAt ∈ wsL_law := List.mem_append_left _ (List.mem_append_left _ (List.mem_append_left _ (List.mem_of_getElem? (i := 368) rfl)))
set_option maxRecDepth 20000 in
theorem m9_369 : Cond.code yX2_hueAt cX2_hueAt 2 (some .int) ∈ wsL_law := List.mem_append_left _ (List.mem_append_left _ (List.mem_append_left _ (List.mem_of_getElem? (i := 369) rfl)))
set_option maxRecDepth 20000 in
theorem m9_370 : Cond.methodLink RX5 289 yX2_firstFrom ∈ wsL_law := List.mem_append_left _ (List.mem_append_left _ (List.mem_append_left _ (List.mem_of_getElem? (i := 370) rfl)))
set_option maxRecDepth 20000 in
theorem m9_371 : Cond.instanceMethod yX2_firstFrom ∈ wsL_law := List.mem_append_left _ (List.mem_append_left _ (List.mem_append_left _ (List.mem_of_getElem? (i := 371) rfl)))
set_option maxRecDepth 20000 in
theorem m9_372 : Cond.selects RX2 yX2_firstFrom yX2_firstFrom ∈ wsL_law := List.mem_append_left _ (List.mem_append_left _ (List.mem_append_left _ (List.mem_of_getElem? (i := 372) rfl)))
set_option maxRecDepth 20000 in
theorem m9_373 : Cond.code yX2_firstFrom cX2_firstFrom 4 (some .int) ∈ wsL_law := List.mem_append_left _ (List.mem_append_left _ (List.mem_append_left _ (List.mem_of_getElem? (i := 373) rfl)))
set_option maxRecDepth 20000 in
theorem m9_374 : Cond.methodLink RX5 304 yX1_remainder ∈ wsL_law := List.mem_append_left _ (List.mem_append_left _ (List.mem_append_left _ (List.mem_of_getElem? (i := 374) rfl)))
set_option maxRecDepth 20000 in
theorem m9_375 : Cond.static yX1_remainder ∈ wsL_law := List.mem_append_left _ (List.mem_append_left _ (List.mem_append_left _ (List.mem_of_getElem? (i := 375) rfl)))
set_option maxRecDepth 20000 in
theorem m9_376 : Cond.initialized RX1 ∈ wsL_law := List.mem_append_left _ (List.mem_append_left _ (List.mem_append_left _ (List.mem_of_getElem? (i := 376) rfl)))
set_option maxRecDepth 20000 in
theorem m9_377 : Cond.code yX1_remainder cX1_remainder 2 (some .int) ∈ wsL_law := List.mem_append_left _ (List.mem_append_left _ (List.mem_append_left _ (List.mem_of_getElem? (i := 377) rfl)))
set_option maxRecDepth 20000 in
theorem m9_382 : Cond.methodLink RX5 283 yX2_begin ∈ wsL_law := List.mem_append_left _ (List.mem_append_left _ (List.mem_append_left _ (List.mem_of_getElem? (i := 382) rfl)))
set_option maxRecDepth 20000 in
theorem m9_383 : Cond.methodLink RX5 292 yX2_put ∈ wsL_law := List.mem_append_left _ (List.mem_append_left _ (List.mem_append_left _ (List.mem_of_getElem? (i := 383) rfl)))
set_option maxRecDepth 20000 in
theorem m9_384 : Cond.methodLink RX5 155 yX2_copyFrom ∈ wsL_law := List.mem_append_left _ (List.mem_append_left _ (List.mem_append_left _ (List.mem_of_getElem? (i := 384) rfl)))
set_option maxRecDepth 20000 in
theorem m9_389 : Cond.methodLink RX6 112 yX6_clash ∈ wsL_law := List.mem_append_left _ (List.mem_append_left _ (List.mem_append_left _ (List.mem_of_getElem? (i := 389) rfl)))
set_option maxRecDepth 20000 in
theorem m9_390 : Cond.instanceMethod yX6_clash ∈ wsL_law := List.mem_append_left _ (List.mem_append_left _ (List.mem_append_left _ (List.mem_of_getElem? (i := 390) rfl)))
set_option maxRecDepth 20000 in
theorem m9_391 : Cond.selects RX6 yX6_clash yX6_clash ∈ wsL_law := List.mem_append_left _ (List.mem_append_left _ (List.mem_append_left _ (List.mem_of_getElem? (i := 391) rfl)))
set_option maxRecDepth 20000 in
theorem m9_392 : Cond.code yX6_clash cX6_clash 3 (some .int) ∈ wsL_law := List.mem_append_left _ (List.mem_append_left _ (List.mem_append_left _ (List.mem_of_getElem? (i := 392) rfl)))
set_option maxRecDepth 20000 in
theorem m9_393 : Cond.methodLink RX6 49 yX6_takers ∈ wsL_law := List.mem_append_left _ (List.mem_append_left _ (List.mem_append_left _ (List.mem_of_getElem? (i := 393) rfl)))
set_option maxRecDepth 20000 in
theorem m9_394 : Cond.instanceMethod yX6_takers ∈ wsL_law := List.mem_append_left _ (List.mem_append_left _ (List.mem_append_left _ (List.mem_of_getElem? (i := 394) rfl)))
set_option maxRecDepth 20000 in
theorem m9_395 : Cond.selects RX6 yX6_takers yX6_takers ∈ wsL_law := List.mem_append_left _ (List.mem_append_left _ (List.mem_append_left _ (List.mem_of_getElem? (i := 395) rfl)))
set_option maxRecDepth 20000 in
theorem m9_396 : Cond.code yX6_takers cX6_takers 5 (some .int) ∈ wsL_law := List.mem_append_left _ (List.mem_append_left _ (List.mem_append_left _ (List.mem_of_getElem? (i := 396) rfl)))
set_option maxRecDepth 20000 in
theorem m9_397 : Cond.methodLink RX6 116 yX6_laysFrom ∈ wsL_law := List.mem_append_left _ (List.mem_append_left _ (List.mem_append_left _ (List.mem_of_getElem? (i := 397) rfl)))
set_option maxRecDepth 20000 in
theorem m9_398 : Cond.instanceMethod yX6_laysFrom ∈ wsL_law := List.mem_append_left _ (List.mem_append_left _ (List.mem_append_left _ (List.mem_of_getElem? (i := 398) rfl)))
set_option maxRecDepth 20000 in
theorem m9_399 : Cond.selects RX6 yX6_laysFrom yX6_laysFrom ∈ wsL_law := List.mem_append_left _ (List.mem_append_left _ (List.mem_append_left _ (List.mem_of_getElem? (i := 399) rfl)))
set_option maxRecDepth 20000 in
theorem m9_400 : Cond.code yX6_laysFrom cX6_laysFrom 6 none ∈ wsL_law := List.mem_append_left _ (List.mem_append_left _ (List.mem_append_left _ (List.mem_of_getElem? (i := 400) rfl)))
set_option maxRecDepth 20000 in
theorem m9_427 : Cond.methodLink RX5 142 yX5_turnRound ∈ wsL_law := List.mem_append_left _ (List.mem_append_left _ (List.mem_append_left _ (List.mem_of_getElem? (i := 427) rfl)))
set_option maxRecDepth 20000 in
theorem m9_428 : Cond.instanceMethod yX5_turnRound ∈ wsL_law := List.mem_append_left _ (List.mem_append_left _ (List.mem_append_left _ (List.mem_of_getElem? (i := 428) rfl)))
set_option maxRecDepth 20000 in
theorem m9_429 : Cond.selects RX5 yX5_turnRound yX5_turnRound ∈ wsL_law := List.mem_append_left _ (List.mem_append_left _ (List.mem_append_left _ (List.mem_of_getElem? (i := 429) rfl)))
set_option maxRecDepth 20000 in
theorem m9_430 : Cond.code yX5_turnRound cX5_turnRound 4 (some .int) ∈ wsL_law := List.mem_append_left _ (List.mem_append_left _ (List.mem_append_left _ (List.mem_of_getElem? (i := 430) rfl)))
set_option maxRecDepth 20000 in
theorem m9_431 : Cond.methodLink RX5 295 yX2_lastOf ∈ wsL_law := List.mem_append_left _ (List.mem_append_left _ (List.mem_append_left _ (List.mem_of_getElem? (i := 431) rfl)))
set_option maxRecDepth 20000 in
theorem m9_432 : Cond.instanceMethod yX2_lastOf ∈ wsL_law := List.mem_append_left _ (List.mem_append_left _ (List.mem_append_left _ (List.mem_of_getElem? (i := 432) rfl)))
set_option maxRecDepth 20000 in
theorem m9_433 : Cond.selects RX2 yX2_lastOf yX2_lastOf ∈ wsL_law := List.mem_append_left _ (List.mem_append_left _ (List.mem_append_left _ (List.mem_of_getElem? (i := 433) rfl)))
set_option maxRecDepth 20000 in
theorem m9_434 : Cond.code yX2_lastOf cX2_lastOf 3 (some .int) ∈ wsL_law := List.mem_append_left _ (List.mem_append_left _ (List.mem_append_left _ (List.mem_of_getElem? (i := 434) rfl)))
set_option maxRecDepth 20000 in
theorem m9_435 : Cond.methodLink RX5 298 yX2_differences ∈ wsL_law := List.mem_append_left _ (List.mem_append_left _ (List.mem_append_left _ (List.mem_of_getElem? (i := 435) rfl)))
set_option maxRecDepth 20000 in
theorem m9_436 : Cond.instanceMethod yX2_differences ∈ wsL_law := List.mem_append_left _ (List.mem_append_left _ (List.mem_append_left _ (List.mem_of_getElem? (i := 436) rfl)))
set_option maxRecDepth 20000 in
theorem m9_437 : Cond.selects RX2 yX2_differences yX2_differences ∈ wsL_law := List.mem_append_left _ (List.mem_append_left _ (List.mem_append_left _ (List.mem_of_getElem? (i := 437) rfl)))
set_option maxRecDepth 20000 in
theorem m9_438 : Cond.code yX2_differences cX2_differences 4 (some .int) ∈ wsL_law := List.mem_append_left _ (List.mem_append_left _ (List.mem_append_left _ (List.mem_of_getElem? (i := 438) rfl)))
set_option maxRecDepth 20000 in
theorem m9_443 : Cond.methodLink RX6 119 yX6_unlikeTurned ∈ wsL_law := List.mem_append_left _ (List.mem_append_left _ (List.mem_append_left _ (List.mem_of_getElem? (i := 443) rfl)))
set_option maxRecDepth 20000 in
theorem m9_444 : Cond.instanceMethod yX6_unlikeTurned ∈ wsL_law := List.mem_append_left _ (List.mem_append_left _ (List.mem_append_left _ (List.mem_of_getElem? (i := 444) rfl)))
set_option maxRecDepth 20000 in
theorem m9_445 : Cond.selects RX6 yX6_unlikeTurned yX6_unlikeTurned ∈ wsL_law := List.mem_append_left _ (List.mem_append_left _ (List.mem_append_left _ (List.mem_of_getElem? (i := 445) rfl)))
set_option maxRecDepth 20000 in
theorem m9_446 : Cond.code yX6_unlikeTurned cX6_unlikeTurned 4 (some .int) ∈ wsL_law := List.mem_append_left _ (List.mem_append_left _ (List.mem_append_left _ (List.mem_of_getElem? (i := 446) rfl)))
set_option maxRecDepth 20000 in
theorem m9_447 : Cond.methodLink RX6 122 yX6_turns ∈ wsL_law := List.mem_append_left _ (List.mem_append_left _ (List.mem_append_left _ (List.mem_of_getElem? (i := 447) rfl)))
set_option maxRecDepth 20000 in
theorem m9_448 : Cond.instanceMethod yX6_turns ∈ wsL_law := List.mem_append_left _ (List.mem_append_left _ (List.mem_append_left _ (List.mem_of_getElem? (i := 448) rfl)))
set_option maxRecDepth 20000 in
theorem m9_449 : Cond.selects RX6 yX6_turns yX6_turns ∈ wsL_law := List.mem_append_left _ (List.mem_append_left _ (List.mem_append_left _ (List.mem_of_getElem? (i := 449) rfl)))
set_option maxRecDepth 20000 in
theorem m9_450 : Cond.code yX6_turns cX6_turns 4 none ∈ wsL_law := List.mem_append_left _ (List.mem_append_left _ (List.mem_append_left _ (List.mem_of_getElem? (i := 450) rfl)))
set_option maxRecDepth 20000 in
theorem m9_451 : Cond.methodLink RX6 60 yX6_lastOf ∈ wsL_law := List.mem_append_left _ (List.mem_append_left _ (List.mem_append_left _ (List.mem_of_getElem? (i := 451) rfl)))
set_option maxRecDepth 20000 in
theorem m9_452 : Cond.instanceMethod yX6_lastOf ∈ wsL_law := List.mem_append_left _ (List.mem_append_left _ (List.mem_append_left _ (List.mem_of_getElem? (i := 452) rfl)))
set_option maxRecDepth 20000 in
theorem m9_453 : Cond.selects RX6 yX6_lastOf yX6_lastOf ∈ wsL_law := List.mem_append_left _ (List.mem_append_left _ (List.mem_append_left _ (List.mem_of_getElem? (i := 453) rfl)))
set_option maxRecDepth 20000 in
theorem m9_454 : Cond.code yX6_lastOf cX6_lastOf 5 (some .int) ∈ wsL_law := List.mem_append_left _ (List.mem_append_left _ (List.mem_append_left _ (List.mem_of_getElem? (i := 454) rfl)))
set_option maxRecDepth 20000 in
theorem m9_462 : Cond.methodLink RX5 145 yX5_reasonAgainstJoining ∈ wsL_law := List.mem_append_left _ (List.mem_append_left _ (List.mem_append_left _ (List.mem_of_getElem? (i := 462) rfl)))
set_option maxRecDepth 20000 in
theorem m9_463 : Cond.instanceMethod yX5_reasonAgainstJoining ∈ wsL_law := List.mem_append_left _ (List.mem_append_left _ (List.mem_append_left _ (List.mem_of_getElem? (i := 463) rfl)))
set_option maxRecDepth 20000 in
theorem m9_464 : Cond.selects RX5 yX5_reasonAgainstJoining yX5_reasonAgainstJoining ∈ wsL_law := List.mem_append_left _ (List.mem_append_left _ (List.mem_append_left _ (List.mem_of_getElem? (i := 464) rfl)))
set_option maxRecDepth 20000 in
theorem m9_465 : Cond.code yX5_reasonAgainstJoining cX5_reasonAgainstJoining 6 (some .int) ∈ wsL_law := List.mem_append_left _ (List.mem_append_left _ (List.mem_append_left _ (List.mem_of_getElem? (i := 465) rfl)))
set_option maxRecDepth 20000 in
theorem m9_466 : Cond.methodLink RX5 151 yX5_draftJoined ∈ wsL_law := List.mem_append_left _ (List.mem_append_left _ (List.mem_append_left _ (List.mem_of_getElem? (i := 466) rfl)))
set_option maxRecDepth 20000 in
theorem m9_467 : Cond.instanceMethod yX5_draftJoined ∈ wsL_law := List.mem_append_left _ (List.mem_append_left _ (List.mem_append_left _ (List.mem_of_getElem? (i := 467) rfl)))
set_option maxRecDepth 20000 in
theorem m9_468 : Cond.selects RX5 yX5_draftJoined yX5_draftJoined ∈ wsL_law := List.mem_append_left _ (List.mem_append_left _ (List.mem_append_left _ (List.mem_of_getElem? (i := 468) rfl)))
set_option maxRecDepth 20000 in
theorem m9_469 : Cond.code yX5_draftJoined cX5_draftJoined 7 (some .boolean) ∈ wsL_law := List.mem_append_left _ (List.mem_append_left _ (List.mem_append_left _ (List.mem_of_getElem? (i := 469) rfl)))
set_option maxRecDepth 20000 in
theorem m9_470 : Cond.methodLink RX5 301 yX5_draftLaid ∈ wsL_law := List.mem_append_left _ (List.mem_append_left _ (List.mem_append_left _ (List.mem_of_getElem? (i := 470) rfl)))
set_option maxRecDepth 20000 in
theorem m9_471 : Cond.instanceMethod yX5_draftLaid ∈ wsL_law := List.mem_append_left _ (List.mem_append_left _ (List.mem_append_left _ (List.mem_of_getElem? (i := 471) rfl)))
set_option maxRecDepth 20000 in
theorem m9_472 : Cond.selects RX5 yX5_draftLaid yX5_draftLaid ∈ wsL_law := List.mem_append_left _ (List.mem_append_left _ (List.mem_append_left _ (List.mem_of_getElem? (i := 472) rfl)))
set_option maxRecDepth 20000 in
theorem m9_473 : Cond.code yX5_draftLaid cX5_draftLaid 4 (some .boolean) ∈ wsL_law := List.mem_append_left _ (List.mem_append_left _ (List.mem_append_left _ (List.mem_of_getElem? (i := 473) rfl)))
set_option maxRecDepth 20000 in
theorem m9_482 : Cond.methodLink RX6 137 yX6_whyNotJoined ∈ wsL_law := List.mem_append_left _ (List.mem_append_left _ (List.mem_append_left _ (List.mem_of_getElem? (i := 482) rfl)))
set_option maxRecDepth 20000 in
theorem m9_483 : Cond.instanceMethod yX6_whyNotJoined ∈ wsL_law := List.mem_append_left _ (List.mem_append_left _ (List.mem_append_left _ (List.mem_of_getElem? (i := 483) rfl)))
set_option maxRecDepth 20000 in
theorem m9_484 : Cond.selects RX6 yX6_whyNotJoined yX6_whyNotJoined ∈ wsL_law := List.mem_append_left _ (List.mem_append_left _ (List.mem_append_left _ (List.mem_of_getElem? (i := 484) rfl)))
set_option maxRecDepth 20000 in
theorem m9_485 : Cond.code yX6_whyNotJoined cX6_whyNotJoined 6 (some .int) ∈ wsL_law := List.mem_append_left _ (List.mem_append_left _ (List.mem_append_left _ (List.mem_of_getElem? (i := 485) rfl)))
set_option maxRecDepth 20000 in
theorem m9_486 : Cond.methodLink RX6 125 yX6_phaseBehind ∈ wsL_law := List.mem_append_left _ (List.mem_append_left _ (List.mem_append_left _ (List.mem_of_getElem? (i := 486) rfl)))
set_option maxRecDepth 20000 in
theorem m9_487 : Cond.instanceMethod yX6_phaseBehind ∈ wsL_law := List.mem_append_left _ (List.mem_append_left _ (List.mem_append_left _ (List.mem_of_getElem? (i := 487) rfl)))
set_option maxRecDepth 20000 in
theorem m9_488 : Cond.selects RX6 yX6_phaseBehind yX6_phaseBehind ∈ wsL_law := List.mem_append_left _ (List.mem_append_left _ (List.mem_append_left _ (List.mem_of_getElem? (i := 488) rfl)))
set_option maxRecDepth 20000 in
theorem m9_489 : Cond.code yX6_phaseBehind cX6_phaseBehind 4 (some .int) ∈ wsL_law := List.mem_append_left _ (List.mem_append_left _ (List.mem_append_left _ (List.mem_of_getElem? (i := 489) rfl)))
set_option maxRecDepth 20000 in
theorem m9_490 : Cond.methodLink RX6 128 yX6_putAside ∈ wsL_law := List.mem_append_left _ (List.mem_append_left _ (List.mem_append_left _ (List.mem_of_getElem? (i := 490) rfl)))
set_option maxRecDepth 20000 in
theorem m9_491 : Cond.instanceMethod yX6_putAside ∈ wsL_law := List.mem_append_left _ (List.mem_append_left _ (List.mem_append_left _ (List.mem_of_getElem? (i := 491) rfl)))
set_option maxRecDepth 20000 in
theorem m9_492 : Cond.selects RX6 yX6_putAside yX6_putAside ∈ wsL_law := List.mem_append_left _ (List.mem_append_left _ (List.mem_append_left _ (List.mem_of_getElem? (i := 492) rfl)))
set_option maxRecDepth 20000 in
theorem m9_493 : Cond.code yX6_putAside cX6_putAside 2 none ∈ wsL_law := List.mem_append_left _ (List.mem_append_left _ (List.mem_append_left _ (List.mem_of_getElem? (i := 493) rfl)))
set_option maxRecDepth 20000 in
theorem m9_494 : Cond.methodLink RX6 131 yX6_joinsWith ∈ wsL_law := List.mem_append_left _ (List.mem_append_left _ (List.mem_append_left _ (List.mem_of_getElem? (i := 494) rfl)))
set_option maxRecDepth 20000 in
theorem m9_495 : Cond.instanceMethod yX6_joinsWith ∈ wsL_law := List.mem_append_left _ (List.mem_append_left _ (List.mem_append_left _ (List.mem_of_getElem? (i := 495) rfl)))
set_option maxRecDepth 20000 in
theorem m9_496 : Cond.selects RX6 yX6_joinsWith yX6_joinsWith ∈ wsL_law := List.mem_append_left _ (List.mem_append_left _ (List.mem_append_left _ (List.mem_of_getElem? (i := 496) rfl)))
set_option maxRecDepth 20000 in
theorem m9_497 : Cond.code yX6_joinsWith cX6_joinsWith 5 none ∈ wsL_law := List.mem_append_left _ (List.mem_append_left _ (List.mem_append_left _ (List.mem_of_getElem? (i := 497) rfl)))
set_option maxRecDepth 20000 in
theorem m9_498 : Cond.methodLink RX6 134 yX6_putBack ∈ wsL_law := List.mem_append_left _ (List.mem_append_left _ (List.mem_append_left _ (List.mem_of_getElem? (i := 498) rfl)))
set_option maxRecDepth 20000 in
theorem m9_499 : Cond.instanceMethod yX6_putBack ∈ wsL_law := List.mem_append_left _ (List.mem_append_left _ (List.mem_append_left _ (List.mem_of_getElem? (i := 499) rfl)))
set_option maxRecDepth 20000 in
theorem m9_500 : Cond.selects RX6 yX6_putBack yX6_putBack ∈ wsL_law := List.mem_append_left _ (List.mem_append_left _ (List.mem_append_left _ (List.mem_of_getElem? (i := 500) rfl)))
set_option maxRecDepth 20000 in
theorem m9_501 : Cond.code yX6_putBack cX6_putBack 2 none ∈ wsL_law := List.mem_append_left _ (List.mem_append_left _ (List.mem_append_left _ (List.mem_of_getElem? (i := 501) rfl)))
set_option maxRecDepth 20000 in
theorem m9_517 : Cond.methodLink RX5 173 yX4_length ∈ wsL_law := List.mem_append_left _ (List.mem_append_left _ (List.mem_append_left _ (List.mem_of_getElem? (i := 517) rfl)))
set_option maxRecDepth 20000 in
theorem m9_518 : Cond.instanceMethod yX4_length ∈ wsL_law := List.mem_append_left _ (List.mem_append_left _ (List.mem_append_left _ (List.mem_of_getElem? (i := 518) rfl)))
set_option maxRecDepth 20000 in
theorem m9_519 : Cond.selects RX4 yX4_length yX4_length ∈ wsL_law := List.mem_append_left _ (List.mem_append_left _ (List.mem_append_left _ (List.mem_of_getElem? (i := 519) rfl)))
set_option maxRecDepth 20000 in
theorem m9_520 : Cond.code yX4_length cX4_length 1 (some .int) ∈ wsL_law := List.mem_append_left _ (List.mem_append_left _ (List.mem_append_left _ (List.mem_of_getElem? (i := 520) rfl)))
set_option maxRecDepth 20000 in
theorem m9_525 : Cond.fieldLink RX6 140 "PennantRopesModel" "length" "I" ∈ wsL_law := List.mem_append_left _ (List.mem_append_left _ (List.mem_append_left _ (List.mem_of_getElem? (i := 525) rfl)))
set_option maxRecDepth 20000 in
theorem m9_530 : Cond.methodLink RX5 174 yX4_empty ∈ wsL_law := List.mem_append_left _ (List.mem_append_left _ (List.mem_append_left _ (List.mem_of_getElem? (i := 530) rfl)))
set_option maxRecDepth 20000 in
theorem m9_531 : Cond.instanceMethod yX4_empty ∈ wsL_law := List.mem_append_left _ (List.mem_append_left _ (List.mem_append_left _ (List.mem_of_getElem? (i := 531) rfl)))
set_option maxRecDepth 20000 in
theorem m9_532 : Cond.selects RX4 yX4_empty yX4_empty ∈ wsL_law := List.mem_append_left _ (List.mem_append_left _ (List.mem_append_left _ (List.mem_of_getElem? (i := 532) rfl)))
set_option maxRecDepth 20000 in
theorem m9_533 : Cond.code yX4_empty cX4_empty 1 none ∈ wsL_law := List.mem_append_left _ (List.mem_append_left _ (List.mem_append_left _ (List.mem_of_getElem? (i := 533) rfl)))
set_option maxRecDepth 20000 in
theorem m9_542 : Cond.methodLink RX5 177 yX4_firstWrong ∈ wsL_law := List.mem_append_left _ (List.mem_append_left _ (List.mem_append_left _ (List.mem_of_getElem? (i := 542) rfl)))
set_option maxRecDepth 20000 in
theorem m9_543 : Cond.instanceMethod yX4_firstWrong ∈ wsL_law := List.mem_append_left _ (List.mem_append_left _ (List.mem_append_left _ (List.mem_of_getElem? (i := 543) rfl)))
set_option maxRecDepth 20000 in
theorem m9_544 : Cond.selects RX4 yX4_firstWrong yX4_firstWrong ∈ wsL_law := List.mem_append_left _ (List.mem_append_left _ (List.mem_append_left _ (List.mem_of_getElem? (i := 544) rfl)))
set_option maxRecDepth 20000 in
theorem m9_545 : Cond.code yX4_firstWrong cX4_firstWrong 3 (some .int) ∈ wsL_law := List.mem_append_left _ (List.mem_append_left _ (List.mem_append_left _ (List.mem_of_getElem? (i := 545) rfl)))
set_option maxRecDepth 20000 in
theorem m9_546 : Cond.methodLink RX4 19 yX4_codeAt ∈ wsL_law := List.mem_append_left _ (List.mem_append_left _ (List.mem_append_left _ (List.mem_of_getElem? (i := 546) rfl)))
set_option maxRecDepth 20000 in
theorem m9_547 : Cond.instanceMethod yX4_codeAt ∈ wsL_law := List.mem_append_left _ (List.mem_append_left _ (List.mem_append_left _ (List.mem_of_getElem? (i := 547) rfl)))
set_option maxRecDepth 20000 in
theorem m9_548 : Cond.selects RX4 yX4_codeAt yX4_codeAt ∈ wsL_law := List.mem_append_left _ (List.mem_append_left _ (List.mem_append_left _ (List.mem_of_getElem? (i := 548) rfl)))
set_option maxRecDepth 20000 in
theorem m9_549 : Cond.code yX4_codeAt cX4_codeAt 2 (some .int) ∈ wsL_law := List.mem_append_left _ (List.mem_append_left _ (List.mem_append_left _ (List.mem_of_getElem? (i := 549) rfl)))
set_option maxRecDepth 20000 in
theorem m9_550 : Cond.methodLink RX4 23 yX4_dueBehind ∈ wsL_law := List.mem_append_left _ (List.mem_append_left _ (List.mem_append_left _ (List.mem_of_getElem? (i := 550) rfl)))
set_option maxRecDepth 20000 in
theorem m9_551 : Cond.static yX4_dueBehind ∈ wsL_law := List.mem_append_left _ (List.mem_append_left _ (List.mem_append_left _ (List.mem_of_getElem? (i := 551) rfl)))
set_option maxRecDepth 20000 in
theorem m9_552 : Cond.code yX4_dueBehind cX4_dueBehind 2 (some .int) ∈ wsL_law := List.mem_append_left _ (List.mem_append_left _ (List.mem_append_left _ (List.mem_of_getElem? (i := 552) rfl)))
set_option maxRecDepth 20000 in
theorem m9_553 : Cond.methodLink RX4 27 yX4_dueBehindFirst ∈ wsL_law := List.mem_append_left _ (List.mem_append_left _ (List.mem_append_left _ (List.mem_of_getElem? (i := 553) rfl)))
set_option maxRecDepth 20000 in
theorem m9_554 : Cond.static yX4_dueBehindFirst ∈ wsL_law := List.mem_append_left _ (List.mem_append_left _ (List.mem_append_left _ (List.mem_of_getElem? (i := 554) rfl)))
set_option maxRecDepth 20000 in
theorem m9_555 : Cond.code yX4_dueBehindFirst cX4_dueBehindFirst 1 (some .int) ∈ wsL_law := List.mem_append_left _ (List.mem_append_left _ (List.mem_append_left _ (List.mem_of_getElem? (i := 555) rfl)))
set_option maxRecDepth 20000 in
theorem m9_556 : Cond.methodLink RX4 36 yX4_isHue ∈ wsL_law := List.mem_append_left _ (List.mem_append_left _ (List.mem_append_left _ (List.mem_of_getElem? (i := 556) rfl)))
set_option maxRecDepth 20000 in
theorem m9_557 : Cond.static yX4_isHue ∈ wsL_law := List.mem_append_left _ (List.mem_append_left _ (List.mem_append_left _ (List.mem_of_getElem? (i := 557) rfl)))
set_option maxRecDepth 20000 in
theorem m9_558 : Cond.code yX4_isHue cX4_isHue 1 (some .boolean) ∈ wsL_law := List.mem_append_left _ (List.mem_append_left _ (List.mem_append_left _ (List.mem_of_getElem? (i := 558) rfl)))
set_option maxRecDepth 20000 in
theorem m9_559 : Cond.methodLink RX4 40 yX4_isBetween ∈ wsL_law := List.mem_append_left _ (List.mem_append_left _ (List.mem_append_left _ (List.mem_of_getElem? (i := 559) rfl)))
set_option maxRecDepth 20000 in
theorem m9_560 : Cond.static yX4_isBetween ∈ wsL_law := List.mem_append_left _ (List.mem_append_left _ (List.mem_append_left _ (List.mem_of_getElem? (i := 560) rfl)))
set_option maxRecDepth 20000 in
theorem m9_561 : Cond.code yX4_isBetween cX4_isBetween 3 (some .boolean) ∈ wsL_law := List.mem_append_left _ (List.mem_append_left _ (List.mem_append_left _ (List.mem_of_getElem? (i := 561) rfl)))
set_option maxRecDepth 20000 in
theorem m9_562 : Cond.methodLink RX4 30 yX4_dueBehindLengthDigit ∈ wsL_law := List.mem_append_left _ (List.mem_append_left _ (List.mem_append_left _ (List.mem_of_getElem? (i := 562) rfl)))
set_option maxRecDepth 20000 in
theorem m9_563 : Cond.static yX4_dueBehindLengthDigit ∈ wsL_law := List.mem_append_left _ (List.mem_append_left _ (List.mem_append_left _ (List.mem_of_getElem? (i := 563) rfl)))
set_option maxRecDepth 20000 in
theorem m9_564 : Cond.code yX4_dueBehindLengthDigit cX4_dueBehindLengthDigit 1 (some .int) ∈ wsL_law := List.mem_append_left _ (List.mem_append_left _ (List.mem_append_left _ (List.mem_of_getElem? (i := 564) rfl)))
set_option maxRecDepth 20000 in
theorem m9_565 : Cond.methodLink RX4 33 yX4_dueBehindPhaseDigit ∈ wsL_law := List.mem_append_left _ (List.mem_append_left _ (List.mem_append_left _ (List.mem_of_getElem? (i := 565) rfl)))
set_option maxRecDepth 20000 in
theorem m9_566 : Cond.static yX4_dueBehindPhaseDigit ∈ wsL_law := List.mem_append_left _ (List.mem_append_left _ (List.mem_append_left _ (List.mem_of_getElem? (i := 566) rfl)))
set_option maxRecDepth 20000 in
theorem m9_567 : Cond.code yX4_dueBehindPhaseDigit cX4_dueBehindPhaseDigit 1 (some .int) ∈ wsL_law := List.mem_append_left _ (List.mem_append_left _ (List.mem_append_left _ (List.mem_of_getElem? (i := 567) rfl)))
set_option maxRecDepth 20000 in
theorem m9_568 : Cond.methodLink RX4 44 yX4_dueBehindComma ∈ wsL_law := List.mem_append_left _ (List.mem_append_left _ (List.mem_append_left _ (List.mem_of_getElem? (i := 568) rfl)))
set_option maxRecDepth 20000 in
theorem m9_569 : Cond.static yX4_dueBehindComma ∈ wsL_law := List.mem_append_left _ (List.mem_append_left _ (List.mem_append_left _ (List.mem_of_getElem? (i := 569) rfl)))
set_option maxRecDepth 20000 in
theorem m9_570 : Cond.code yX4_dueBehindComma cX4_dueBehindComma 1 (some .int) ∈ wsL_law := List.mem_append_left _ (List.mem_append_left _ (List.mem_append_left _ (List.mem_of_getElem? (i := 570) rfl)))
set_option maxRecDepth 20000 in
theorem m9_575 : Cond.fieldLink RX6 143 "PennantRopesModel" "isWrong" "Z" ∈ wsL_law := List.mem_append_left _ (List.mem_append_left _ (List.mem_append_left _ (List.mem_of_getElem? (i := 575) rfl)))
set_option maxRecDepth 20000 in
theorem m9_576 : Cond.fieldLink RX6 147 "PennantRopesModel" "position" "I" ∈ wsL_law := List.mem_append_left _ (List.mem_append_left _ (List.mem_append_left _ (List.mem_of_getElem? (i := 576) rfl)))
set_option maxRecDepth 20000 in
theorem m9_577 : Cond.methodLink RX6 175 yX6_goes ∈ wsL_law := List.mem_append_left _ (List.mem_append_left _ (List.mem_append_left _ (List.mem_of_getElem? (i := 577) rfl)))
set_option maxRecDepth 20000 in
theorem m9_578 : Cond.instanceMethod yX6_goes ∈ wsL_law := List.mem_append_left _ (List.mem_append_left _ (List.mem_append_left _ (List.mem_of_getElem? (i := 578) rfl)))
set_option maxRecDepth 20000 in
theorem m9_579 : Cond.selects RX6 yX6_goes yX6_goes ∈ wsL_law := List.mem_append_left _ (List.mem_append_left _ (List.mem_append_left _ (List.mem_of_getElem? (i := 579) rfl)))
set_option maxRecDepth 20000 in
theorem m9_580 : Cond.code yX6_goes cX6_goes 6 (some .int) ∈ wsL_law := List.mem_append_left _ (List.mem_append_left _ (List.mem_append_left _ (List.mem_of_getElem? (i := 580) rfl)))
set_option maxRecDepth 20000 in
theorem m9_581 : Cond.methodLink RX6 168 yX6_readsPart ∈ wsL_law := List.mem_append_left _ (List.mem_append_left _ (List.mem_append_left _ (List.mem_of_getElem? (i := 581) rfl)))
set_option maxRecDepth 20000 in
theorem m9_582 : Cond.instanceMethod yX6_readsPart ∈ wsL_law := List.mem_append_left _ (List.mem_append_left _ (List.mem_append_left _ (List.mem_of_getElem? (i := 582) rfl)))
set_option maxRecDepth 20000 in
theorem m9_583 : Cond.selects RX6 yX6_readsPart yX6_readsPart ∈ wsL_law := List.mem_append_left _ (List.mem_append_left _ (List.mem_append_left _ (List.mem_of_getElem? (i := 583) rfl)))
set_option maxRecDepth 20000 in
theorem m9_584 : Cond.code yX6_readsPart cX6_readsPart 2 none ∈ wsL_law := List.mem_append_left _ (List.mem_append_left _ (List.mem_append_left _ (List.mem_of_getElem? (i := 584) rfl)))
set_option maxRecDepth 20000 in
theorem m9_585 : Cond.fieldLink RX6 156 "PennantRopesModel" "sign" "I" ∈ wsL_law := List.mem_append_left _ (List.mem_append_left _ (List.mem_append_left _ (List.mem_of_getElem? (i := 585) rfl)))
set_option maxRecDepth 20000 in
theorem m9_586 : Cond.fieldLink RX6 162 "PennantRopesModel" "first" "I" ∈ wsL_law := List.mem_append_left _ (List.mem_append_left _ (List.mem_append_left _ (List.mem_of_getElem? (i := 586) rfl)))
set_option maxRecDepth 20000 in
theorem m9_587 : Cond.fieldLink RX6 165 "PennantRopesModel" "second" "I" ∈ wsL_law := List.mem_append_left _ (List.mem_append_left _ (List.mem_append_left _ (List.mem_of_getElem? (i := 587) rfl)))
set_option maxRecDepth 20000 in
theorem m9_588 : Cond.methodLink RX6 159 yX6_readsNumber ∈ wsL_law := List.mem_append_left _ (List.mem_append_left _ (List.mem_append_left _ (List.mem_of_getElem? (i := 588) rfl)))
set_option maxRecDepth 20000 in
theorem m9_589 : Cond.instanceMethod yX6_readsNumber ∈ wsL_law := List.mem_append_left _ (List.mem_append_left _ (List.mem_append_left _ (List.mem_of_getElem? (i := 589) rfl)))
set_option maxRecDepth 20000 in
theorem m9_590 : Cond.selects RX6 yX6_readsNumber yX6_readsNumber ∈ wsL_law := List.mem_append_left _ (List.mem_append_left _ (List.mem_append_left _ (List.mem_of_getElem? (i := 590) rfl)))
set_option maxRecDepth 20000 in
theorem m9_591 : Cond.code yX6_readsNumber cX6_readsNumber 5 (some .int) ∈ wsL_law := List.mem_append_left _ (List.mem_append_left _ (List.mem_append_left _ (List.mem_of_getElem? (i := 591) rfl)))
set_option maxRecDepth 20000 in
theorem m9_592 : Cond.methodLink RX6 150 yX6_reads ∈ wsL_law := List.mem_append_left _ (List.mem_append_left _ (List.mem_append_left _ (List.mem_of_getElem? (i := 592) rfl)))
set_option maxRecDepth 20000 in
theorem m9_593 : Cond.instanceMethod yX6_reads ∈ wsL_law := List.mem_append_left _ (List.mem_append_left _ (List.mem_append_left _ (List.mem_of_getElem? (i := 593) rfl)))
set_option maxRecDepth 20000 in
theorem m9_594 : Cond.selects RX6 yX6_reads yX6_reads ∈ wsL_law := List.mem_append_left _ (List.mem_append_left _ (List.mem_append_left _ (List.mem_of_getElem? (i := 594) rfl)))
set_option maxRecDepth 20000 in
theorem m9_595 : Cond.code yX6_reads cX6_reads 4 (some .int) ∈ wsL_law := List.mem_append_left _ (List.mem_append_left _ (List.mem_append_left _ (List.mem_of_getElem? (i := 595) rfl)))
set_option maxRecDepth 20000 in
theorem m9_596 : Cond.methodLink RX6 153 yX6_isNext ∈ wsL_law := List.mem_append_left _ (List.mem_append_left _ (List.mem_append_left _ (List.mem_of_getElem? (i := 596) rfl)))
set_option maxRecDepth 20000 in
theorem m9_597 : Cond.instanceMethod yX6_isNext ∈ wsL_law := List.mem_append_left _ (List.mem_append_left _ (List.mem_append_left _ (List.mem_of_getElem? (i := 597) rfl)))
set_option maxRecDepth 20000 in
theorem m9_598 : Cond.selects RX6 yX6_isNext yX6_isNext ∈ wsL_law := List.mem_append_left _ (List.mem_append_left _ (List.mem_append_left _ (List.mem_of_getElem? (i := 598) rfl)))
set_option maxRecDepth 20000 in
theorem m9_599 : Cond.code yX6_isNext cX6_isNext 3 (some .boolean) ∈ wsL_law := List.mem_append_left _ (List.mem_append_left _ (List.mem_append_left _ (List.mem_of_getElem? (i := 599) rfl)))
set_option maxRecDepth 20000 in
theorem m9_600 : Cond.methodLink RX6 171 yX6_does ∈ wsL_law := List.mem_append_left _ (List.mem_append_left _ (List.mem_append_left _ (List.mem_of_getElem? (i := 600) rfl)))
set_option maxRecDepth 20000 in
theorem m9_601 : Cond.instanceMethod yX6_does ∈ wsL_law := List.mem_append_left _ (List.mem_append_left _ (List.mem_append_left _ (List.mem_of_getElem? (i := 601) rfl)))
set_option maxRecDepth 20000 in
theorem m9_602 : Cond.selects RX6 yX6_does yX6_does ∈ wsL_law := List.mem_append_left _ (List.mem_append_left _ (List.mem_append_left _ (List.mem_of_getElem? (i := 602) rfl)))
set_option maxRecDepth 20000 in
theorem m9_603 : Cond.code yX6_does cX6_does 2 (some .boolean) ∈ wsL_law := List.mem_append_left _ (List.mem_append_left _ (List.mem_append_left _ (List.mem_of_getElem? (i := 603) rfl)))
set_option maxRecDepth 20000 in
theorem m9_623 : Cond.methodLink RX5 265 yX4_codeAt ∈ wsL_law := List.mem_append_left _ (List.mem_append_left _ (List.mem_append_left _ (List.mem_of_getElem? (i := 623) rfl)))
set_option maxRecDepth 20000 in
theorem m9_624 : Cond.methodLink RX5 307 yX4_numberIn ∈ wsL_law := List.mem_append_left _ (List.mem_append_left _ (List.mem_append_left _ (List.mem_of_getElem? (i := 624) rfl)))
set_option maxRecDepth 20000 in
theorem m9_625 : Cond.instanceMethod yX4_numberIn ∈ wsL_law := List.mem_append_left _ (List.mem_append_left _ (List.mem_append_left _ (List.mem_of_getElem? (i := 625) rfl)))
set_option maxRecDepth 20000 in
theorem m9_626 : Cond.selects RX4 yX4_numberIn yX4_numberIn ∈ wsL_law := List.mem_append_left _ (List.mem_append_left _ (List.mem_append_left _ (List.mem_of_getElem? (i := 626) rfl)))
set_option maxRecDepth 20000 in
theorem m9_627 : Cond.code yX4_numberIn cX4_numberIn 5 (some .int) ∈ wsL_law := List.mem_append_left _ (List.mem_append_left _ (List.mem_append_left _ (List.mem_of_getElem? (i := 627) rfl)))
set_option maxRecDepth 20000 in
theorem m9_628 : Cond.methodLink RX5 310 yX5_playLaying ∈ wsL_law := List.mem_append_left _ (List.mem_append_left _ (List.mem_append_left _ (List.mem_of_getElem? (i := 628) rfl)))
set_option maxRecDepth 20000 in
theorem m9_629 : Cond.instanceMethod yX5_playLaying ∈ wsL_law := List.mem_append_left _ (List.mem_append_left _ (List.mem_append_left _ (List.mem_of_getElem? (i := 629) rfl)))
set_option maxRecDepth 20000 in
theorem m9_630 : Cond.selects RX5 yX5_playLaying yX5_playLaying ∈ wsL_law := List.mem_append_left _ (List.mem_append_left _ (List.mem_append_left _ (List.mem_of_getElem? (i := 630) rfl)))
set_option maxRecDepth 20000 in
theorem m9_631 : Cond.code yX5_playLaying cX5_playLaying 5 (some .boolean) ∈ wsL_law := List.mem_append_left _ (List.mem_append_left _ (List.mem_append_left _ (List.mem_of_getElem? (i := 631) rfl)))
set_option maxRecDepth 20000 in
theorem m9_643 : Cond.methodLink RX5 192 yX0_size ∈ wsL_law := List.mem_append_left _ (List.mem_append_left _ (List.mem_append_left _ (List.mem_of_getElem? (i := 643) rfl)))
set_option maxRecDepth 20000 in
theorem m9_644 : Cond.instanceMethod yX0_size ∈ wsL_law := List.mem_append_left _ (List.mem_append_left _ (List.mem_append_left _ (List.mem_of_getElem? (i := 644) rfl)))
set_option maxRecDepth 20000 in
theorem m9_645 : Cond.selects RX0 yX0_size yX0_size ∈ wsL_law := List.mem_append_left _ (List.mem_append_left _ (List.mem_append_left _ (List.mem_of_getElem? (i := 645) rfl)))
set_option maxRecDepth 20000 in
theorem m9_646 : Cond.code yX0_size cX0_size 1 (some .int) ∈ wsL_law := List.mem_append_left _ (List.mem_append_left _ (List.mem_append_left _ (List.mem_of_getElem? (i := 646) rfl)))
set_option maxRecDepth 20000 in
theorem m9_659 : Cond.methodLink RX5 200 yX3_copyFrom ∈ wsL_law := List.mem_append_left _ (List.mem_append_left _ (List.mem_append_left _ (List.mem_of_getElem? (i := 659) rfl)))
set_option maxRecDepth 20000 in
theorem m9_664 : Cond.fieldLink RX6 179 "PennantRopesModel" "isKept" "Z" ∈ wsL_law := List.mem_append_left _ (List.mem_append_left _ (List.mem_append_left _ (List.mem_of_getElem? (i := 664) rfl)))
set_option maxRecDepth 20000 in
theorem m9_683 : Cond.methodLink RX5 209 yX2_colourAt ∈ wsL_law := List.mem_append_left _ (List.mem_append_left _ (List.mem_append_left _ (List.mem_of_getElem? (i := 683) rfl)))
set_option maxRecDepth 20000 in
theorem m9_699 : Cond.methodLink RX5 215 yX5_ropeNumber ∈ wsL_law := List.mem_append_left _ (List.mem_append_left _ (List.mem_append_left _ (List.mem_of_getElem? (i := 699) rfl)))
set_option maxRecDepth 20000 in
theorem m9_700 : Cond.instanceMethod yX5_ropeNumber ∈ wsL_law := List.mem_append_left _ (List.mem_append_left _ (List.mem_append_left _ (List.mem_of_getElem? (i := 700) rfl)))
set_option maxRecDepth 20000 in
theorem m9_701 : Cond.selects RX5 yX5_ropeNumber yX5_ropeNumber ∈ wsL_law := List.mem_append_left _ (List.mem_append_left _ (List.mem_append_left _ (List.mem_of_getElem? (i := 701) rfl)))
set_option maxRecDepth 20000 in
theorem m9_702 : Cond.code yX5_ropeNumber cX5_ropeNumber 3 (some .int) ∈ wsL_law := List.mem_append_left _ (List.mem_append_left _ (List.mem_append_left _ (List.mem_of_getElem? (i := 702) rfl)))
set_option maxRecDepth 20000 in
theorem m9_703 : Cond.methodLink RX5 326 yX2_placesOf ∈ wsL_law := List.mem_append_left _ (List.mem_append_left _ (List.mem_append_left _ (List.mem_of_getElem? (i := 703) rfl)))
set_option maxRecDepth 20000 in
theorem m9_704 : Cond.methodLink RX5 329 yX2_mostHolesSideBySide ∈ wsL_law := List.mem_append_left _ (List.mem_append_left _ (List.mem_append_left _ (List.mem_of_getElem? (i := 704) rfl)))
set_option maxRecDepth 20000 in
theorem m9_705 : Cond.instanceMethod yX2_mostHolesSideBySide ∈ wsL_law := List.mem_append_left _ (List.mem_append_left _ (List.mem_append_left _ (List.mem_of_getElem? (i := 705) rfl)))
set_option maxRecDepth 20000 in
theorem m9_706 : Cond.selects RX2 yX2_mostHolesSideBySide yX2_mostHolesSideBySide ∈ wsL_law := List.mem_append_left _ (List.mem_append_left _ (List.mem_append_left _ (List.mem_of_getElem? (i := 706) rfl)))
set_option maxRecDepth 20000 in
theorem m9_707 : Cond.code yX2_mostHolesSideBySide cX2_mostHolesSideBySide 4 (some .int) ∈ wsL_law := List.mem_append_left _ (List.mem_append_left _ (List.mem_append_left _ (List.mem_of_getElem? (i := 707) rfl)))
set_option maxRecDepth 20000 in
theorem m9_708 : Cond.methodLink RX5 332 yX5_period ∈ wsL_law := List.mem_append_left _ (List.mem_append_left _ (List.mem_append_left _ (List.mem_of_getElem? (i := 708) rfl)))
set_option maxRecDepth 20000 in
theorem m9_709 : Cond.instanceMethod yX5_period ∈ wsL_law := List.mem_append_left _ (List.mem_append_left _ (List.mem_append_left _ (List.mem_of_getElem? (i := 709) rfl)))
set_option maxRecDepth 20000 in
theorem m9_710 : Cond.selects RX5 yX5_period yX5_period ∈ wsL_law := List.mem_append_left _ (List.mem_append_left _ (List.mem_append_left _ (List.mem_of_getElem? (i := 710) rfl)))
set_option maxRecDepth 20000 in
theorem m9_711 : Cond.code yX5_period cX5_period 4 (some .int) ∈ wsL_law := List.mem_append_left _ (List.mem_append_left _ (List.mem_append_left _ (List.mem_of_getElem? (i := 711) rfl)))
set_option maxRecDepth 20000 in
theorem m9_712 : Cond.methodLink RX5 323 yX1_leastCommonMultiple ∈ wsL_law := List.mem_append_left _ (List.mem_append_left _ (List.mem_append_left _ (List.mem_of_getElem? (i := 712) rfl)))
set_option maxRecDepth 20000 in
theorem m9_713 : Cond.static yX1_leastCommonMultiple ∈ wsL_law := List.mem_append_left _ (List.mem_append_left _ (List.mem_append_left _ (List.mem_of_getElem? (i := 713) rfl)))
set_option maxRecDepth 20000 in
theorem m9_714 : Cond.code yX1_leastCommonMultiple cX1_leastCommonMultiple 3 (some .int) ∈ wsL_law := List.mem_append_left _ (List.mem_append_left _ (List.mem_append_left _ (List.mem_of_getElem? (i := 714) rfl)))
set_option maxRecDepth 20000 in
theorem m9_715 : Cond.methodLink RX1 11 yX1_greatestCommonDivisor ∈ wsL_law := List.mem_append_left _ (List.mem_append_left _ (List.mem_append_left _ (List.mem_of_getElem? (i := 715) rfl)))
set_option maxRecDepth 20000 in
theorem m9_716 : Cond.static yX1_greatestCommonDivisor ∈ wsL_law := List.mem_append_left _ (List.mem_append_left _ (List.mem_append_left _ (List.mem_of_getElem? (i := 716) rfl)))
set_option maxRecDepth 20000 in
theorem m9_717 : Cond.code yX1_greatestCommonDivisor cX1_greatestCommonDivisor 6 (some .int) ∈ wsL_law := List.mem_append_left _ (List.mem_append_left _ (List.mem_append_left _ (List.mem_of_getElem? (i := 717) rfl)))
set_option maxRecDepth 20000 in
theorem m9_722 : Cond.methodLink RX6 197 yX6_toldOfRope ∈ wsL_law := List.mem_append_left _ (List.mem_append_left _ (List.mem_append_left _ (List.mem_of_getElem? (i := 722) rfl)))
set_option maxRecDepth 20000 in
theorem m9_723 : Cond.instanceMethod yX6_toldOfRope ∈ wsL_law := List.mem_append_left _ (List.mem_append_left _ (List.mem_append_left _ (List.mem_of_getElem? (i := 723) rfl)))
set_option maxRecDepth 20000 in
theorem m9_724 : Cond.selects RX6 yX6_toldOfRope yX6_toldOfRope ∈ wsL_law := List.mem_append_left _ (List.mem_append_left _ (List.mem_append_left _ (List.mem_of_getElem? (i := 724) rfl)))
set_option maxRecDepth 20000 in
theorem m9_725 : Cond.code yX6_toldOfRope cX6_toldOfRope 3 (some .int) ∈ wsL_law := List.mem_append_left _ (List.mem_append_left _ (List.mem_append_left _ (List.mem_of_getElem? (i := 725) rfl)))
set_option maxRecDepth 20000 in
theorem m9_726 : Cond.methodLink RX6 185 yX6_holes ∈ wsL_law := List.mem_append_left _ (List.mem_append_left _ (List.mem_append_left _ (List.mem_of_getElem? (i := 726) rfl)))
set_option maxRecDepth 20000 in
theorem m9_727 : Cond.instanceMethod yX6_holes ∈ wsL_law := List.mem_append_left _ (List.mem_append_left _ (List.mem_append_left _ (List.mem_of_getElem? (i := 727) rfl)))
set_option maxRecDepth 20000 in
theorem m9_728 : Cond.selects RX6 yX6_holes yX6_holes ∈ wsL_law := List.mem_append_left _ (List.mem_append_left _ (List.mem_append_left _ (List.mem_of_getElem? (i := 728) rfl)))
set_option maxRecDepth 20000 in
theorem m9_729 : Cond.code yX6_holes cX6_holes 4 (some .int) ∈ wsL_law := List.mem_append_left _ (List.mem_append_left _ (List.mem_append_left _ (List.mem_of_getElem? (i := 729) rfl)))
set_option maxRecDepth 20000 in
theorem m9_730 : Cond.methodLink RX6 188 yX6_firstHole ∈ wsL_law := List.mem_append_left _ (List.mem_append_left _ (List.mem_append_left _ (List.mem_of_getElem? (i := 730) rfl)))
set_option maxRecDepth 20000 in
theorem m9_731 : Cond.instanceMethod yX6_firstHole ∈ wsL_law := List.mem_append_left _ (List.mem_append_left _ (List.mem_append_left _ (List.mem_of_getElem? (i := 731) rfl)))
set_option maxRecDepth 20000 in
theorem m9_732 : Cond.selects RX6 yX6_firstHole yX6_firstHole ∈ wsL_law := List.mem_append_left _ (List.mem_append_left _ (List.mem_append_left _ (List.mem_of_getElem? (i := 732) rfl)))
set_option maxRecDepth 20000 in
theorem m9_733 : Cond.code yX6_firstHole cX6_firstHole 4 (some .int) ∈ wsL_law := List.mem_append_left _ (List.mem_append_left _ (List.mem_append_left _ (List.mem_of_getElem? (i := 733) rfl)))
set_option maxRecDepth 20000 in
theorem m9_734 : Cond.methodLink RX6 191 yX6_holesSideBySide ∈ wsL_law := List.mem_append_left _ (List.mem_append_left _ (List.mem_append_left _ (List.mem_of_getElem? (i := 734) rfl)))
set_option maxRecDepth 20000 in
theorem m9_735 : Cond.instanceMethod yX6_holesSideBySide ∈ wsL_law := List.mem_append_left _ (List.mem_append_left _ (List.mem_append_left _ (List.mem_of_getElem? (i := 735) rfl)))
set_option maxRecDepth 20000 in
theorem m9_736 : Cond.selects RX6 yX6_holesSideBySide yX6_holesSideBySide ∈ wsL_law := List.mem_append_left _ (List.mem_append_left _ (List.mem_append_left _ (List.mem_of_getElem? (i := 736) rfl)))
set_option maxRecDepth 20000 in
theorem m9_737 : Cond.code yX6_holesSideBySide cX6_holesSideBySide 5 (some .int) ∈ wsL_law := List.mem_append_left _ (List.mem_append_left _ (List.mem_append_left _ (List.mem_of_getElem? (i := 737) rfl)))
set_option maxRecDepth 20000 in
theorem m9_738 : Cond.methodLink RX6 194 yX6_period ∈ wsL_law := List.mem_append_left _ (List.mem_append_left _ (List.mem_append_left _ (List.mem_of_getElem? (i := 738) rfl)))
set_option maxRecDepth 20000 in
theorem m9_739 : Cond.instanceMethod yX6_period ∈ wsL_law := List.mem_append_left _ (List.mem_append_left _ (List.mem_append_left _ (List.mem_of_getElem? (i := 739) rfl)))
set_option maxRecDepth 20000 in
theorem m9_740 : Cond.selects RX6 yX6_period yX6_period ∈ wsL_law := List.mem_append_left _ (List.mem_append_left _ (List.mem_append_left _ (List.mem_of_getElem? (i := 740) rfl)))
set_option maxRecDepth 20000 in
theorem m9_741 : Cond.code yX6_period cX6_period 4 (some .int) ∈ wsL_law := List.mem_append_left _ (List.mem_append_left _ (List.mem_append_left _ (List.mem_of_getElem? (i := 741) rfl)))
set_option maxRecDepth 20000 in
theorem m9_742 : Cond.methodLink RX6 182 yX6_divisor ∈ wsL_law := List.mem_append_left _ (List.mem_append_left _ (List.mem_append_left _ (List.mem_of_getElem? (i := 742) rfl)))
set_option maxRecDepth 20000 in
theorem m9_743 : Cond.static yX6_divisor ∈ wsL_law := List.mem_append_left _ (List.mem_append_left _ (List.mem_append_left _ (List.mem_of_getElem? (i := 743) rfl)))
set_option maxRecDepth 20000 in
theorem m9_744 : Cond.code yX6_divisor cX6_divisor 5 (some .int) ∈ wsL_law := List.mem_append_left _ (List.mem_append_left _ (List.mem_append_left _ (List.mem_of_getElem? (i := 744) rfl)))
set_option maxRecDepth 20000 in
theorem m9_752 : Cond.methodLink RX5 219 yX2_hueNumber ∈ wsL_law := List.mem_append_left _ (List.mem_append_left _ (List.mem_append_left _ (List.mem_of_getElem? (i := 752) rfl)))
set_option maxRecDepth 20000 in
theorem m9_753 : Cond.instanceMethod yX2_hueNumber ∈ wsL_law := List.mem_append_left _ (List.mem_append_left _ (List.mem_append_left _ (List.mem_of_getElem? (i := 753) rfl)))
set_option maxRecDepth 20000 in
theorem m9_754 : Cond.selects RX2 yX2_hueNumber yX2_hueNumber ∈ wsL_law := List.mem_append_left _ (List.mem_append_left _ (List.mem_append_left _ (List.mem_of_getElem? (i := 754) rfl)))
set_option maxRecDepth 20000 in
theorem m9_755 : Cond.code yX2_hueNumber cX2_hueNumber 4 (some .int) ∈ wsL_law := List.mem_append_left _ (List.mem_append_left _ (List.mem_append_left _ (List.mem_of_getElem? (i := 755) rfl)))
set_option maxRecDepth 20000 in
theorem m9_756 : Cond.methodLink RX2 48 yX2_firstFrom ∈ wsL_law := List.mem_append_left _ (List.mem_append_left _ (List.mem_append_left _ (List.mem_of_getElem? (i := 756) rfl)))
set_option maxRecDepth 20000 in
theorem m9_757 : Cond.methodLink RX2 51 yX2_lastOf ∈ wsL_law := List.mem_append_left _ (List.mem_append_left _ (List.mem_append_left _ (List.mem_of_getElem? (i := 757) rfl)))
set_option maxRecDepth 20000 in
theorem m9_762 : Cond.methodLink RX6 203 yX6_toldOfHue ∈ wsL_law := List.mem_append_left _ (List.mem_append_left _ (List.mem_append_left _ (List.mem_of_getElem? (i := 762) rfl)))
set_option maxRecDepth 20000 in
theorem m9_763 : Cond.instanceMethod yX6_toldOfHue ∈ wsL_law := List.mem_append_left _ (List.mem_append_left _ (List.mem_append_left _ (List.mem_of_getElem? (i := 763) rfl)))
set_option maxRecDepth 20000 in
theorem m9_764 : Cond.selects RX6 yX6_toldOfHue yX6_toldOfHue ∈ wsL_law := List.mem_append_left _ (List.mem_append_left _ (List.mem_append_left _ (List.mem_of_getElem? (i := 764) rfl)))
set_option maxRecDepth 20000 in
theorem m9_765 : Cond.code yX6_toldOfHue cX6_toldOfHue 4 (some .int) ∈ wsL_law := List.mem_append_left _ (List.mem_append_left _ (List.mem_append_left _ (List.mem_of_getElem? (i := 765) rfl)))
set_option maxRecDepth 20000 in
theorem m9_766 : Cond.methodLink RX6 200 yX6_orderOf ∈ wsL_law := List.mem_append_left _ (List.mem_append_left _ (List.mem_append_left _ (List.mem_of_getElem? (i := 766) rfl)))
set_option maxRecDepth 20000 in
theorem m9_767 : Cond.instanceMethod yX6_orderOf ∈ wsL_law := List.mem_append_left _ (List.mem_append_left _ (List.mem_append_left _ (List.mem_of_getElem? (i := 767) rfl)))
set_option maxRecDepth 20000 in
theorem m9_768 : Cond.selects RX6 yX6_orderOf yX6_orderOf ∈ wsL_law := List.mem_append_left _ (List.mem_append_left _ (List.mem_append_left _ (List.mem_of_getElem? (i := 768) rfl)))
set_option maxRecDepth 20000 in
theorem m9_769 : Cond.code yX6_orderOf cX6_orderOf 5 (some .int) ∈ wsL_law := List.mem_append_left _ (List.mem_append_left _ (List.mem_append_left _ (List.mem_of_getElem? (i := 769) rfl)))
set_option maxRecDepth 20000 in
theorem m9_788 : Cond.methodLink RX5 223 yX5_counted ∈ wsL_law := List.mem_append_left _ (List.mem_append_left _ (List.mem_append_left _ (List.mem_of_getElem? (i := 788) rfl)))
set_option maxRecDepth 20000 in
theorem m9_789 : Cond.instanceMethod yX5_counted ∈ wsL_law := List.mem_append_left _ (List.mem_append_left _ (List.mem_append_left _ (List.mem_of_getElem? (i := 789) rfl)))
set_option maxRecDepth 20000 in
theorem m9_790 : Cond.selects RX5 yX5_counted yX5_counted ∈ wsL_law := List.mem_append_left _ (List.mem_append_left _ (List.mem_append_left _ (List.mem_of_getElem? (i := 790) rfl)))
set_option maxRecDepth 20000 in
theorem m9_791 : Cond.code yX5_counted cX5_counted 2 (some .int) ∈ wsL_law := List.mem_append_left _ (List.mem_append_left _ (List.mem_append_left _ (List.mem_of_getElem? (i := 791) rfl)))
set_option maxRecDepth 20000 in
theorem m9_792 : Cond.methodLink RX5 241 yX3_places ∈ wsL_law := List.mem_append_left _ (List.mem_append_left _ (List.mem_append_left _ (List.mem_of_getElem? (i := 792) rfl)))
set_option maxRecDepth 20000 in
theorem m9_793 : Cond.instanceMethod yX3_places ∈ wsL_law := List.mem_append_left _ (List.mem_append_left _ (List.mem_append_left _ (List.mem_of_getElem? (i := 793) rfl)))
set_option maxRecDepth 20000 in
theorem m9_794 : Cond.selects RX3 yX3_places yX3_places ∈ wsL_law := List.mem_append_left _ (List.mem_append_left _ (List.mem_append_left _ (List.mem_of_getElem? (i := 794) rfl)))
set_option maxRecDepth 20000 in
theorem m9_795 : Cond.code yX3_places cX3_places 4 (some .int) ∈ wsL_law := List.mem_append_left _ (List.mem_append_left _ (List.mem_append_left _ (List.mem_of_getElem? (i := 795) rfl)))
set_option maxRecDepth 20000 in
theorem m9_796 : Cond.methodLink RX3 55 yX2_length ∈ wsL_law := List.mem_append_left _ (List.mem_append_left _ (List.mem_append_left _ (List.mem_of_getElem? (i := 796) rfl)))
set_option maxRecDepth 20000 in
theorem m9_797 : Cond.methodLink RX5 244 yX3_holes ∈ wsL_law := List.mem_append_left _ (List.mem_append_left _ (List.mem_append_left _ (List.mem_of_getElem? (i := 797) rfl)))
set_option maxRecDepth 20000 in
theorem m9_798 : Cond.instanceMethod yX3_holes ∈ wsL_law := List.mem_append_left _ (List.mem_append_left _ (List.mem_append_left _ (List.mem_of_getElem? (i := 798) rfl)))
set_option maxRecDepth 20000 in
theorem m9_799 : Cond.selects RX3 yX3_holes yX3_holes ∈ wsL_law := List.mem_append_left _ (List.mem_append_left _ (List.mem_append_left _ (List.mem_of_getElem? (i := 799) rfl)))
set_option maxRecDepth 20000 in
theorem m9_800 : Cond.code yX3_holes cX3_holes 4 (some .int) ∈ wsL_law := List.mem_append_left _ (List.mem_append_left _ (List.mem_append_left _ (List.mem_of_getElem? (i := 800) rfl)))
set_option maxRecDepth 20000 in
theorem m9_801 : Cond.methodLink RX3 59 yX2_placesOf ∈ wsL_law := List.mem_append_left _ (List.mem_append_left _ (List.mem_append_left _ (List.mem_of_getElem? (i := 801) rfl)))
set_option maxRecDepth 20000 in
theorem m9_802 : Cond.methodLink RX5 335 yX3_laidHues ∈ wsL_law := List.mem_append_left _ (List.mem_append_left _ (List.mem_append_left _ (List.mem_of_getElem? (i := 802) rfl)))
set_option maxRecDepth 20000 in
theorem m9_803 : Cond.instanceMethod yX3_laidHues ∈ wsL_law := List.mem_append_left _ (List.mem_append_left _ (List.mem_append_left _ (List.mem_of_getElem? (i := 803) rfl)))
set_option maxRecDepth 20000 in
theorem m9_804 : Cond.selects RX3 yX3_laidHues yX3_laidHues ∈ wsL_law := List.mem_append_left _ (List.mem_append_left _ (List.mem_append_left _ (List.mem_of_getElem? (i := 804) rfl)))
set_option maxRecDepth 20000 in
theorem m9_805 : Cond.code yX3_laidHues cX3_laidHues 3 (some .int) ∈ wsL_law := List.mem_append_left _ (List.mem_append_left _ (List.mem_append_left _ (List.mem_of_getElem? (i := 805) rfl)))
set_option maxRecDepth 20000 in
theorem m9_806 : Cond.methodLink RX3 62 yX3_isLaidOnSome ∈ wsL_law := List.mem_append_left _ (List.mem_append_left _ (List.mem_append_left _ (List.mem_of_getElem? (i := 806) rfl)))
set_option maxRecDepth 20000 in
theorem m9_807 : Cond.methodLink RX5 338 yX3_layings ∈ wsL_law := List.mem_append_left _ (List.mem_append_left _ (List.mem_append_left _ (List.mem_of_getElem? (i := 807) rfl)))
set_option maxRecDepth 20000 in
theorem m9_808 : Cond.instanceMethod yX3_layings ∈ wsL_law := List.mem_append_left _ (List.mem_append_left _ (List.mem_append_left _ (List.mem_of_getElem? (i := 808) rfl)))
set_option maxRecDepth 20000 in
theorem m9_809 : Cond.selects RX3 yX3_layings yX3_layings ∈ wsL_law := List.mem_append_left _ (List.mem_append_left _ (List.mem_append_left _ (List.mem_of_getElem? (i := 809) rfl)))
set_option maxRecDepth 20000 in
theorem m9_810 : Cond.code yX3_layings cX3_layings 1 (some .int) ∈ wsL_law := List.mem_append_left _ (List.mem_append_left _ (List.mem_append_left _ (List.mem_of_getElem? (i := 810) rfl)))
set_option maxRecDepth 20000 in
theorem m9_811 : Cond.methodLink RX5 341 yX3_joins ∈ wsL_law := List.mem_append_left _ (List.mem_append_left _ (List.mem_append_left _ (List.mem_of_getElem? (i := 811) rfl)))
set_option maxRecDepth 20000 in
theorem m9_812 : Cond.instanceMethod yX3_joins ∈ wsL_law := List.mem_append_left _ (List.mem_append_left _ (List.mem_append_left _ (List.mem_of_getElem? (i := 812) rfl)))
set_option maxRecDepth 20000 in
theorem m9_813 : Cond.selects RX3 yX3_joins yX3_joins ∈ wsL_law := List.mem_append_left _ (List.mem_append_left _ (List.mem_append_left _ (List.mem_of_getElem? (i := 813) rfl)))
set_option maxRecDepth 20000 in
theorem m9_814 : Cond.code yX3_joins cX3_joins 1 (some .int) ∈ wsL_law := List.mem_append_left _ (List.mem_append_left _ (List.mem_append_left _ (List.mem_of_getElem? (i := 814) rfl)))
set_option maxRecDepth 20000 in
theorem m9_815 : Cond.methodLink RX5 344 yX3_cuts ∈ wsL_law := List.mem_append_left _ (List.mem_append_left _ (List.mem_append_left _ (List.mem_of_getElem? (i := 815) rfl)))
set_option maxRecDepth 20000 in
theorem m9_816 : Cond.instanceMethod yX3_cuts ∈ wsL_law := List.mem_append_left _ (List.mem_append_left _ (List.mem_append_left _ (List.mem_of_getElem? (i := 816) rfl)))
set_option maxRecDepth 20000 in
theorem m9_817 : Cond.selects RX3 yX3_cuts yX3_cuts ∈ wsL_law := List.mem_append_left _ (List.mem_append_left _ (List.mem_append_left _ (List.mem_of_getElem? (i := 817) rfl)))
set_option maxRecDepth 20000 in
theorem m9_818 : Cond.code yX3_cuts cX3_cuts 1 (some .int) ∈ wsL_law := List.mem_append_left _ (List.mem_append_left _ (List.mem_append_left _ (List.mem_of_getElem? (i := 818) rfl)))
set_option maxRecDepth 20000 in
theorem m9_823 : Cond.methodLink RX6 213 yX6_counted ∈ wsL_law := List.mem_append_left _ (List.mem_append_left _ (List.mem_append_left _ (List.mem_of_getElem? (i := 823) rfl)))
set_option maxRecDepth 20000 in
theorem m9_824 : Cond.instanceMethod yX6_counted ∈ wsL_law := List.mem_append_left _ (List.mem_append_left _ (List.mem_append_left _ (List.mem_of_getElem? (i := 824) rfl)))
set_option maxRecDepth 20000 in
theorem m9_825 : Cond.selects RX6 yX6_counted yX6_counted ∈ wsL_law := List.mem_append_left _ (List.mem_append_left _ (List.mem_append_left _ (List.mem_of_getElem? (i := 825) rfl)))
set_option maxRecDepth 20000 in
theorem m9_826 : Cond.code yX6_counted cX6_counted 2 (some .int) ∈ wsL_law := List.mem_append_left _ (List.mem_append_left _ (List.mem_append_left _ (List.mem_of_getElem? (i := 826) rfl)))
set_option maxRecDepth 20000 in
theorem m9_827 : Cond.methodLink RX6 206 yX6_sum ∈ wsL_law := List.mem_append_left _ (List.mem_append_left _ (List.mem_append_left _ (List.mem_of_getElem? (i := 827) rfl)))
set_option maxRecDepth 20000 in
theorem m9_828 : Cond.instanceMethod yX6_sum ∈ wsL_law := List.mem_append_left _ (List.mem_append_left _ (List.mem_append_left _ (List.mem_of_getElem? (i := 828) rfl)))
set_option maxRecDepth 20000 in
theorem m9_829 : Cond.selects RX6 yX6_sum yX6_sum ∈ wsL_law := List.mem_append_left _ (List.mem_append_left _ (List.mem_append_left _ (List.mem_of_getElem? (i := 829) rfl)))
set_option maxRecDepth 20000 in
theorem m9_830 : Cond.code yX6_sum cX6_sum 4 (some .int) ∈ wsL_law := List.mem_append_left _ (List.mem_append_left _ (List.mem_append_left _ (List.mem_of_getElem? (i := 830) rfl)))
set_option maxRecDepth 20000 in
theorem m9_831 : Cond.methodLink RX6 209 yX6_huesLaid ∈ wsL_law := List.mem_append_left _ (List.mem_append_left _ (List.mem_append_left _ (List.mem_of_getElem? (i := 831) rfl)))
set_option maxRecDepth 20000 in
theorem m9_832 : Cond.instanceMethod yX6_huesLaid ∈ wsL_law := List.mem_append_left _ (List.mem_append_left _ (List.mem_append_left _ (List.mem_of_getElem? (i := 832) rfl)))
set_option maxRecDepth 20000 in
theorem m9_833 : Cond.selects RX6 yX6_huesLaid yX6_huesLaid ∈ wsL_law := List.mem_append_left _ (List.mem_append_left _ (List.mem_append_left _ (List.mem_of_getElem? (i := 833) rfl)))
set_option maxRecDepth 20000 in
theorem m9_834 : Cond.code yX6_huesLaid cX6_huesLaid 3 (some .int) ∈ wsL_law := List.mem_append_left _ (List.mem_append_left _ (List.mem_append_left _ (List.mem_of_getElem? (i := 834) rfl)))
set_option maxRecDepth 20000 in
theorem m9_853 : Cond.methodLink RX5 226 yX1_meetByRemainders ∈ wsL_law := List.mem_append_left _ (List.mem_append_left _ (List.mem_append_left _ (List.mem_of_getElem? (i := 853) rfl)))
set_option maxRecDepth 20000 in
theorem m9_854 : Cond.static yX1_meetByRemainders ∈ wsL_law := List.mem_append_left _ (List.mem_append_left _ (List.mem_append_left _ (List.mem_of_getElem? (i := 854) rfl)))
set_option maxRecDepth 20000 in
theorem m9_855 : Cond.code yX1_meetByRemainders cX1_meetByRemainders 7 (some .int) ∈ wsL_law := List.mem_append_left _ (List.mem_append_left _ (List.mem_append_left _ (List.mem_of_getElem? (i := 855) rfl)))
set_option maxRecDepth 20000 in
theorem m9_856 : Cond.methodLink RX1 15 yX1_remainder ∈ wsL_law := List.mem_append_left _ (List.mem_append_left _ (List.mem_append_left _ (List.mem_of_getElem? (i := 856) rfl)))
set_option maxRecDepth 20000 in
theorem m9_861 : Cond.methodLink RX6 216 yX6_canMeet ∈ wsL_law := List.mem_append_left _ (List.mem_append_left _ (List.mem_append_left _ (List.mem_of_getElem? (i := 861) rfl)))
set_option maxRecDepth 20000 in
theorem m9_862 : Cond.instanceMethod yX6_canMeet ∈ wsL_law := List.mem_append_left _ (List.mem_append_left _ (List.mem_append_left _ (List.mem_of_getElem? (i := 862) rfl)))
set_option maxRecDepth 20000 in
theorem m9_863 : Cond.selects RX6 yX6_canMeet yX6_canMeet ∈ wsL_law := List.mem_append_left _ (List.mem_append_left _ (List.mem_append_left _ (List.mem_of_getElem? (i := 863) rfl)))
set_option maxRecDepth 20000 in
theorem m9_864 : Cond.code yX6_canMeet cX6_canMeet 6 (some .boolean) ∈ wsL_law := List.mem_append_left _ (List.mem_append_left _ (List.mem_append_left _ (List.mem_of_getElem? (i := 864) rfl)))
set_option maxRecDepth 20000 in
theorem m9_865 : Cond.methodLink RX6 220 yX6_meet ∈ wsL_law := List.mem_append_left _ (List.mem_append_left _ (List.mem_append_left _ (List.mem_of_getElem? (i := 865) rfl)))
set_option maxRecDepth 20000 in
theorem m9_866 : Cond.instanceMethod yX6_meet ∈ wsL_law := List.mem_append_left _ (List.mem_append_left _ (List.mem_append_left _ (List.mem_of_getElem? (i := 866) rfl)))
set_option maxRecDepth 20000 in
theorem m9_867 : Cond.selects RX6 yX6_meet yX6_meet ∈ wsL_law := List.mem_append_left _ (List.mem_append_left _ (List.mem_append_left _ (List.mem_of_getElem? (i := 867) rfl)))
set_option maxRecDepth 20000 in
theorem m9_868 : Cond.code yX6_meet cX6_meet 6 (some .int) ∈ wsL_law := List.mem_append_left _ (List.mem_append_left _ (List.mem_append_left _ (List.mem_of_getElem? (i := 868) rfl)))
set_option maxRecDepth 20000 in
theorem m9_890 : Cond.methodLink RX5 235 yX2_phaseNumber ∈ wsL_law := List.mem_append_left _ (List.mem_append_left _ (List.mem_append_left _ (List.mem_of_getElem? (i := 890) rfl)))
set_option maxRecDepth 20000 in
theorem m9_891 : Cond.instanceMethod yX2_phaseNumber ∈ wsL_law := List.mem_append_left _ (List.mem_append_left _ (List.mem_append_left _ (List.mem_of_getElem? (i := 891) rfl)))
set_option maxRecDepth 20000 in
theorem m9_892 : Cond.selects RX2 yX2_phaseNumber yX2_phaseNumber ∈ wsL_law := List.mem_append_left _ (List.mem_append_left _ (List.mem_append_left _ (List.mem_of_getElem? (i := 892) rfl)))
set_option maxRecDepth 20000 in
theorem m9_893 : Cond.code yX2_phaseNumber cX2_phaseNumber 4 (some .int) ∈ wsL_law := List.mem_append_left _ (List.mem_append_left _ (List.mem_append_left _ (List.mem_of_getElem? (i := 893) rfl)))
set_option maxRecDepth 20000 in
theorem m9_894 : Cond.methodLink RX2 54 yX2_fittingPhases ∈ wsL_law := List.mem_append_left _ (List.mem_append_left _ (List.mem_append_left _ (List.mem_of_getElem? (i := 894) rfl)))
set_option maxRecDepth 20000 in
theorem m9_895 : Cond.instanceMethod yX2_fittingPhases ∈ wsL_law := List.mem_append_left _ (List.mem_append_left _ (List.mem_append_left _ (List.mem_of_getElem? (i := 895) rfl)))
set_option maxRecDepth 20000 in
theorem m9_896 : Cond.selects RX2 yX2_fittingPhases yX2_fittingPhases ∈ wsL_law := List.mem_append_left _ (List.mem_append_left _ (List.mem_append_left _ (List.mem_of_getElem? (i := 896) rfl)))
set_option maxRecDepth 20000 in
theorem m9_897 : Cond.code yX2_fittingPhases cX2_fittingPhases 5 (some .int) ∈ wsL_law := List.mem_append_left _ (List.mem_append_left _ (List.mem_append_left _ (List.mem_of_getElem? (i := 897) rfl)))
set_option maxRecDepth 20000 in
theorem m9_898 : Cond.methodLink RX2 63 yX2_reasonAgainst ∈ wsL_law := List.mem_append_left _ (List.mem_append_left _ (List.mem_append_left _ (List.mem_of_getElem? (i := 898) rfl)))
set_option maxRecDepth 20000 in
theorem m9_899 : Cond.methodLink RX2 57 yX2_lowestPhase ∈ wsL_law := List.mem_append_left _ (List.mem_append_left _ (List.mem_append_left _ (List.mem_of_getElem? (i := 899) rfl)))
set_option maxRecDepth 20000 in
theorem m9_900 : Cond.instanceMethod yX2_lowestPhase ∈ wsL_law := List.mem_append_left _ (List.mem_append_left _ (List.mem_append_left _ (List.mem_of_getElem? (i := 900) rfl)))
set_option maxRecDepth 20000 in
theorem m9_901 : Cond.selects RX2 yX2_lowestPhase yX2_lowestPhase ∈ wsL_law := List.mem_append_left _ (List.mem_append_left _ (List.mem_append_left _ (List.mem_of_getElem? (i := 901) rfl)))
set_option maxRecDepth 20000 in
theorem m9_902 : Cond.code yX2_lowestPhase cX2_lowestPhase 4 (some .int) ∈ wsL_law := List.mem_append_left _ (List.mem_append_left _ (List.mem_append_left _ (List.mem_of_getElem? (i := 902) rfl)))
set_option maxRecDepth 20000 in
theorem m9_903 : Cond.methodLink RX2 60 yX2_fillingPhase ∈ wsL_law := List.mem_append_left _ (List.mem_append_left _ (List.mem_append_left _ (List.mem_of_getElem? (i := 903) rfl)))
set_option maxRecDepth 20000 in
theorem m9_904 : Cond.instanceMethod yX2_fillingPhase ∈ wsL_law := List.mem_append_left _ (List.mem_append_left _ (List.mem_append_left _ (List.mem_of_getElem? (i := 904) rfl)))
set_option maxRecDepth 20000 in
theorem m9_905 : Cond.selects RX2 yX2_fillingPhase yX2_fillingPhase ∈ wsL_law := List.mem_append_left _ (List.mem_append_left _ (List.mem_append_left _ (List.mem_of_getElem? (i := 905) rfl)))
set_option maxRecDepth 20000 in
theorem m9_906 : Cond.code yX2_fillingPhase cX2_fillingPhase 7 (some .int) ∈ wsL_law := List.mem_append_left _ (List.mem_append_left _ (List.mem_append_left _ (List.mem_of_getElem? (i := 906) rfl)))
set_option maxRecDepth 20000 in
theorem m9_907 : Cond.methodLink RX2 67 yX2_placesFrom ∈ wsL_law := List.mem_append_left _ (List.mem_append_left _ (List.mem_append_left _ (List.mem_of_getElem? (i := 907) rfl)))
set_option maxRecDepth 20000 in
theorem m9_908 : Cond.instanceMethod yX2_placesFrom ∈ wsL_law := List.mem_append_left _ (List.mem_append_left _ (List.mem_append_left _ (List.mem_of_getElem? (i := 908) rfl)))
set_option maxRecDepth 20000 in
theorem m9_909 : Cond.selects RX2 yX2_placesFrom yX2_placesFrom ∈ wsL_law := List.mem_append_left _ (List.mem_append_left _ (List.mem_append_left _ (List.mem_of_getElem? (i := 909) rfl)))
set_option maxRecDepth 20000 in
theorem m9_910 : Cond.code yX2_placesFrom cX2_placesFrom 6 (some .int) ∈ wsL_law := List.mem_append_left _ (List.mem_append_left _ (List.mem_append_left _ (List.mem_of_getElem? (i := 910) rfl)))
set_option maxRecDepth 20000 in
theorem m9_915 : Cond.methodLink RX6 227 yX6_toldOfPhases ∈ wsL_law := List.mem_append_left _ (List.mem_append_left _ (List.mem_append_left _ (List.mem_of_getElem? (i := 915) rfl)))
set_option maxRecDepth 20000 in
theorem m9_916 : Cond.instanceMethod yX6_toldOfPhases ∈ wsL_law := List.mem_append_left _ (List.mem_append_left _ (List.mem_append_left _ (List.mem_of_getElem? (i := 916) rfl)))
set_option maxRecDepth 20000 in
theorem m9_917 : Cond.selects RX6 yX6_toldOfPhases yX6_toldOfPhases ∈ wsL_law := List.mem_append_left _ (List.mem_append_left _ (List.mem_append_left _ (List.mem_of_getElem? (i := 917) rfl)))
set_option maxRecDepth 20000 in
theorem m9_918 : Cond.code yX6_toldOfPhases cX6_toldOfPhases 9 (some .int) ∈ wsL_law := List.mem_append_left _ (List.mem_append_left _ (List.mem_append_left _ (List.mem_of_getElem? (i := 918) rfl)))
set_option maxRecDepth 20000 in
theorem m9_919 : Cond.methodLink RX6 224 yX6_wouldTake ∈ wsL_law := List.mem_append_left _ (List.mem_append_left _ (List.mem_append_left _ (List.mem_of_getElem? (i := 919) rfl)))
set_option maxRecDepth 20000 in
theorem m9_920 : Cond.instanceMethod yX6_wouldTake ∈ wsL_law := List.mem_append_left _ (List.mem_append_left _ (List.mem_append_left _ (List.mem_of_getElem? (i := 920) rfl)))
set_option maxRecDepth 20000 in
theorem m9_921 : Cond.selects RX6 yX6_wouldTake yX6_wouldTake ∈ wsL_law := List.mem_append_left _ (List.mem_append_left _ (List.mem_append_left _ (List.mem_of_getElem? (i := 921) rfl)))
set_option maxRecDepth 20000 in
theorem m9_922 : Cond.code yX6_wouldTake cX6_wouldTake 4 (some .int) ∈ wsL_law := List.mem_append_left _ (List.mem_append_left _ (List.mem_append_left _ (List.mem_of_getElem? (i := 922) rfl)))
set_option maxRecDepth 20000 in
theorem m9_930 : Cond.methodLink RX5 238 yX5_fillingHue ∈ wsL_law := List.mem_append_left _ (List.mem_append_left _ (List.mem_append_left _ (List.mem_of_getElem? (i := 930) rfl)))
set_option maxRecDepth 20000 in
theorem m9_931 : Cond.instanceMethod yX5_fillingHue ∈ wsL_law := List.mem_append_left _ (List.mem_append_left _ (List.mem_append_left _ (List.mem_of_getElem? (i := 931) rfl)))
set_option maxRecDepth 20000 in
theorem m9_932 : Cond.selects RX5 yX5_fillingHue yX5_fillingHue ∈ wsL_law := List.mem_append_left _ (List.mem_append_left _ (List.mem_append_left _ (List.mem_of_getElem? (i := 932) rfl)))
set_option maxRecDepth 20000 in
theorem m9_933 : Cond.code yX5_fillingHue cX5_fillingHue 8 (some .int) ∈ wsL_law := List.mem_append_left _ (List.mem_append_left _ (List.mem_append_left _ (List.mem_of_getElem? (i := 933) rfl)))
set_option maxRecDepth 20000 in
theorem m9_934 : Cond.methodLink RX5 317 yX2_fillingPhase ∈ wsL_law := List.mem_append_left _ (List.mem_append_left _ (List.mem_append_left _ (List.mem_of_getElem? (i := 934) rfl)))
set_option maxRecDepth 20000 in
theorem m9_935 : Cond.methodLink RX5 320 yX2_placesFrom ∈ wsL_law := List.mem_append_left _ (List.mem_append_left _ (List.mem_append_left _ (List.mem_of_getElem? (i := 935) rfl)))
set_option maxRecDepth 20000 in
theorem m9_940 : Cond.methodLink RX6 230 yX6_best ∈ wsL_law := List.mem_append_left _ (List.mem_append_left _ (List.mem_append_left _ (List.mem_of_getElem? (i := 940) rfl)))
set_option maxRecDepth 20000 in
theorem m9_941 : Cond.instanceMethod yX6_best ∈ wsL_law := List.mem_append_left _ (List.mem_append_left _ (List.mem_append_left _ (List.mem_of_getElem? (i := 941) rfl)))
set_option maxRecDepth 20000 in
theorem m9_942 : Cond.selects RX6 yX6_best yX6_best ∈ wsL_law := List.mem_append_left _ (List.mem_append_left _ (List.mem_append_left _ (List.mem_of_getElem? (i := 942) rfl)))
set_option maxRecDepth 20000 in
theorem m9_943 : Cond.code yX6_best cX6_best 7 (some .int) ∈ wsL_law := List.mem_append_left _ (List.mem_append_left _ (List.mem_append_left _ (List.mem_of_getElem? (i := 943) rfl)))
set_option maxRecDepth 20000 in
theorem m9_967 : Cond.instanceMethod yX5_fullness ∈ wsL_law := List.mem_append_left _ (List.mem_append_left _ (List.mem_append_left _ (List.mem_of_getElem? (i := 967) rfl)))
set_option maxRecDepth 20000 in
theorem m9_968 : Cond.selects RX5 yX5_fullness yX5_fullness ∈ wsL_law := List.mem_append_left _ (List.mem_append_left _ (List.mem_append_left _ (List.mem_of_getElem? (i := 968) rfl)))
set_option maxRecDepth 20000 in
theorem m9_969 : Cond.code yX5_fullness cX5_fullness 3 (some .double) ∈ wsL_law := List.mem_append_left _ (List.mem_append_left _ (List.mem_append_left _ (List.mem_of_getElem? (i := 969) rfl)))
set_option maxRecDepth 20000 in
theorem m9_974 : Cond.methodLink RX6 233 yX6_share ∈ wsL_law := List.mem_append_left _ (List.mem_append_left _ (List.mem_append_left _ (List.mem_of_getElem? (i := 974) rfl)))
set_option maxRecDepth 20000 in
theorem m9_975 : Cond.instanceMethod yX6_share ∈ wsL_law := List.mem_append_left _ (List.mem_append_left _ (List.mem_append_left _ (List.mem_of_getElem? (i := 975) rfl)))
set_option maxRecDepth 20000 in
theorem m9_976 : Cond.selects RX6 yX6_share yX6_share ∈ wsL_law := List.mem_append_left _ (List.mem_append_left _ (List.mem_append_left _ (List.mem_of_getElem? (i := 976) rfl)))
set_option maxRecDepth 20000 in
theorem m9_977 : Cond.code yX6_share cX6_share 1 (some .double) ∈ wsL_law := List.mem_append_left _ (List.mem_append_left _ (List.mem_append_left _ (List.mem_of_getElem? (i := 977) rfl)))
set_option maxRecDepth 20000 in
theorem m9_982 : Cond.constantLong RX5 247 (3643) ∈ wsL_law := List.mem_append_left _ (List.mem_append_left _ (List.mem_append_left _ (List.mem_of_getElem? (i := 982) rfl)))
set_option maxRecDepth 20000 in
theorem m9_983 : Cond.methodLink RX5 249 yX5_mixed ∈ wsL_law := List.mem_append_left _ (List.mem_append_left _ (List.mem_append_left _ (List.mem_of_getElem? (i := 983) rfl)))
set_option maxRecDepth 20000 in
theorem m9_984 : Cond.static yX5_mixed ∈ wsL_law := List.mem_append_left _ (List.mem_append_left _ (List.mem_append_left _ (List.mem_of_getElem? (i := 984) rfl)))
set_option maxRecDepth 20000 in
theorem m9_985 : Cond.code yX5_mixed cX5_mixed 4 (some .long) ∈ wsL_law := List.mem_append_left _ (List.mem_append_left _ (List.mem_append_left _ (List.mem_of_getElem? (i := 985) rfl)))
set_option maxRecDepth 20000 in
theorem m9_986 : Cond.constantLong RX5 347 (31) ∈ wsL_law := List.mem_append_left _ (List.mem_append_left _ (List.mem_append_left _ (List.mem_of_getElem? (i := 986) rfl)))
set_option maxRecDepth 20000 in
theorem m9_987 : Cond.methodLink RX5 253 yX5_ropeMixed ∈ wsL_law := List.mem_append_left _ (List.mem_append_left _ (List.mem_append_left _ (List.mem_of_getElem? (i := 987) rfl)))
set_option maxRecDepth 20000 in
theorem m9_988 : Cond.instanceMethod yX5_ropeMixed ∈ wsL_law := List.mem_append_left _ (List.mem_append_left _ (List.mem_append_left _ (List.mem_of_getElem? (i := 988) rfl)))
set_option maxRecDepth 20000 in
theorem m9_989 : Cond.selects RX5 yX5_ropeMixed yX5_ropeMixed ∈ wsL_law := List.mem_append_left _ (List.mem_append_left _ (List.mem_append_left _ (List.mem_of_getElem? (i := 989) rfl)))
set_option maxRecDepth 20000 in
theorem m9_990 : Cond.code yX5_ropeMixed cX5_ropeMixed 9 (some .long) ∈ wsL_law := List.mem_append_left _ (List.mem_append_left _ (List.mem_append_left _ (List.mem_of_getElem? (i := 990) rfl)))
set_option maxRecDepth 20000 in
theorem m9_991 : Cond.methodLink RX5 349 yX5_hueMixed ∈ wsL_law := List.mem_append_left _ (List.mem_append_left _ (List.mem_append_left _ (List.mem_of_getElem? (i := 991) rfl)))
set_option maxRecDepth 20000 in
theorem m9_992 : Cond.instanceMethod yX5_hueMixed ∈ wsL_law := List.mem_append_left _ (List.mem_append_left _ (List.mem_append_left _ (List.mem_of_getElem? (i := 992) rfl)))
set_option maxRecDepth 20000 in
theorem m9_993 : Cond.selects RX5 yX5_hueMixed yX5_hueMixed ∈ wsL_law := List.mem_append_left _ (List.mem_append_left _ (List.mem_append_left _ (List.mem_of_getElem? (i := 993) rfl)))
set_option maxRecDepth 20000 in
theorem m9_994 : Cond.code yX5_hueMixed cX5_hueMixed 8 (some .long) ∈ wsL_law := List.mem_append_left _ (List.mem_append_left _ (List.mem_append_left _ (List.mem_of_getElem? (i := 994) rfl)))
set_option maxRecDepth 20000 in
theorem m9_995 : Cond.methodLink RX5 257 yX5_fullness ∈ wsL_law := List.mem_append_left _ (List.mem_append_left _ (List.mem_append_left _ (List.mem_of_getElem? (i := 995) rfl)))
set_option maxRecDepth 20000 in
theorem m9_996 : Cond.methodLink RX5 261 yX1_bitsOfShare ∈ wsL_law := List.mem_append_left _ (List.mem_append_left _ (List.mem_append_left _ (List.mem_of_getElem? (i := 996) rfl)))
set_option maxRecDepth 20000 in
theorem m9_997 : Cond.static yX1_bitsOfShare ∈ wsL_law := List.mem_append_left _ (List.mem_append_left _ (List.mem_append_left _ (List.mem_of_getElem? (i := 997) rfl)))
set_option maxRecDepth 20000 in
theorem m9_998 : Cond.code yX1_bitsOfShare cX1_bitsOfShare 8 (some .long) ∈ wsL_law := List.mem_append_left _ (List.mem_append_left _ (List.mem_append_left _ (List.mem_of_getElem? (i := 998) rfl)))
set_option maxRecDepth 20000 in
theorem m9_999 : Cond.constantLong RX1 18 (1023) ∈ wsL_law := List.mem_append_left _ (List.mem_append_left _ (List.mem_append_left _ (List.mem_of_getElem? (i := 999) rfl)))
set_option maxRecDepth 20000 in
theorem m9_1000 : Cond.constantDouble RX1 20 (4611686018427387904) ∈ wsL_law := List.mem_append_left _ (List.mem_append_left _ (List.mem_append_left _ (List.mem_of_getElem? (i := 1000) rfl)))
set_option maxRecDepth 20000 in
theorem m9_1001 : Cond.constantDouble RX1 22 (4841369599423283200) ∈ wsL_law := List.mem_append_left _ (List.mem_append_left _ (List.mem_append_left _ (List.mem_of_getElem? (i := 1001) rfl)))
set_option maxRecDepth 20000 in
theorem m9_1006 : Cond.constantLong RX6 255 (3643) ∈ wsL_law := List.mem_append_left _ (List.mem_append_left _ (List.mem_append_left _ (List.mem_of_getElem? (i := 1006) rfl)))
set_option maxRecDepth 20000 in
theorem m9_1007 : Cond.fieldLink RX6 247 "PennantRopesModel" "digested" "J" ∈ wsL_law := List.mem_append_left _ (List.mem_append_left _ (List.mem_append_left _ (List.mem_of_getElem? (i := 1007) rfl)))
set_option maxRecDepth 20000 in
theorem m9_1008 : Cond.methodLink RX6 251 yX6_digestOne ∈ wsL_law := List.mem_append_left _ (List.mem_append_left _ (List.mem_append_left _ (List.mem_of_getElem? (i := 1008) rfl)))
set_option maxRecDepth 20000 in
theorem m9_1009 : Cond.instanceMethod yX6_digestOne ∈ wsL_law := List.mem_append_left _ (List.mem_append_left _ (List.mem_append_left _ (List.mem_of_getElem? (i := 1009) rfl)))
set_option maxRecDepth 20000 in
theorem m9_1010 : Cond.selects RX6 yX6_digestOne yX6_digestOne ∈ wsL_law := List.mem_append_left _ (List.mem_append_left _ (List.mem_append_left _ (List.mem_of_getElem? (i := 1010) rfl)))
set_option maxRecDepth 20000 in
theorem m9_1011 : Cond.code yX6_digestOne cX6_digestOne 3 none ∈ wsL_law := List.mem_append_left _ (List.mem_append_left _ (List.mem_append_left _ (List.mem_of_getElem? (i := 1011) rfl)))
set_option maxRecDepth 20000 in
theorem m9_1012 : Cond.constantLong RX6 245 (31) ∈ wsL_law := List.mem_append_left _ (List.mem_append_left _ (List.mem_append_left _ (List.mem_of_getElem? (i := 1012) rfl)))
set_option maxRecDepth 20000 in
theorem m9_1013 : Cond.methodLink RX6 257 yX6_digestRope ∈ wsL_law := List.mem_append_left _ (List.mem_append_left _ (List.mem_append_left _ (List.mem_of_getElem? (i := 1013) rfl)))
set_option maxRecDepth 20000 in
theorem m9_1014 : Cond.instanceMethod yX6_digestRope ∈ wsL_law := List.mem_append_left _ (List.mem_append_left _ (List.mem_append_left _ (List.mem_of_getElem? (i := 1014) rfl)))
set_option maxRecDepth 20000 in
theorem m9_1015 : Cond.selects RX6 yX6_digestRope yX6_digestRope ∈ wsL_law := List.mem_append_left _ (List.mem_append_left _ (List.mem_append_left _ (List.mem_of_getElem? (i := 1015) rfl)))
set_option maxRecDepth 20000 in
theorem m9_1016 : Cond.code yX6_digestRope cX6_digestRope 4 none ∈ wsL_law := List.mem_append_left _ (List.mem_append_left _ (List.mem_append_left _ (List.mem_of_getElem? (i := 1016) rfl)))
set_option maxRecDepth 20000 in
theorem m9_1017 : Cond.methodLink RX6 260 yX6_bitsOf ∈ wsL_law := List.mem_append_left _ (List.mem_append_left _ (List.mem_append_left _ (List.mem_of_getElem? (i := 1017) rfl)))
set_option maxRecDepth 20000 in
theorem m9_1018 : Cond.static yX6_bitsOf ∈ wsL_law := List.mem_append_left _ (List.mem_append_left _ (List.mem_append_left _ (List.mem_of_getElem? (i := 1018) rfl)))
set_option maxRecDepth 20000 in
theorem m9_1019 : Cond.code yX6_bitsOf cX6_bitsOf 6 (some .long) ∈ wsL_law := List.mem_append_left _ (List.mem_append_left _ (List.mem_append_left _ (List.mem_of_getElem? (i := 1019) rfl)))
set_option maxRecDepth 20000 in
theorem m9_1020 : Cond.constantLong RX6 237 (1023) ∈ wsL_law := List.mem_append_left _ (List.mem_append_left _ (List.mem_append_left _ (List.mem_of_getElem? (i := 1020) rfl)))
set_option maxRecDepth 20000 in
theorem m9_1021 : Cond.constantDouble RX6 239 (4611686018427387904) ∈ wsL_law := List.mem_append_left _ (List.mem_append_left _ (List.mem_append_left _ (List.mem_of_getElem? (i := 1021) rfl)))
set_option maxRecDepth 20000 in
theorem m9_1022 : Cond.constantLong RX6 241 (4503599627370496) ∈ wsL_law := List.mem_append_left _ (List.mem_append_left _ (List.mem_append_left _ (List.mem_of_getElem? (i := 1022) rfl)))
set_option maxRecDepth 20000 in
theorem m9_1023 : Cond.constantDouble RX6 243 (4841369599423283200) ∈ wsL_law := List.mem_append_left _ (List.mem_append_left _ (List.mem_append_left _ (List.mem_of_getElem? (i := 1023) rfl)))
