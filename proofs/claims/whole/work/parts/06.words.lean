set_option maxRecDepth 100000 in
theorem wm_0 : Cond.selects RX6 yX6_found yX6_found ∈ wsA := zW 0 rfl rfl
set_option maxRecDepth 100000 in
theorem wm_1 : Cond.selects RX6 yX6_foundNothing yX6_foundNothing ∈ wsA := zW 1 rfl rfl
set_option maxRecDepth 100000 in
theorem wm_2 : Cond.selects RX5 yX5_tellsLaw yX5_tellsLaw ∈ wsA := zW 2 rfl rfl
set_option maxRecDepth 100000 in
theorem wm_3 : Cond.selects RX5 yX5_tellsSign yX5_tellsSign ∈ wsA := zW 3 rfl rfl
set_option maxRecDepth 100000 in
theorem wm_4 : Cond.selects RX5 yX5_letter yX5_letter ∈ wsA := zW 4 rfl rfl
set_option maxRecDepth 100000 in
theorem wm_5 : Cond.selects RX5 yX5_isFaulty yX5_isFaulty ∈ wsA := zW 5 rfl rfl
set_option maxRecDepth 100000 in
theorem wm_6 : Cond.selects RX5 yX5_tellsNumber yX5_tellsNumber ∈ wsA := zW 6 rfl rfl
set_option maxRecDepth 100000 in
theorem wm_7 : Cond.selects RX5 yX5_tellsHints yX5_tellsHints ∈ wsA := zW 7 rfl rfl
set_option maxRecDepth 100000 in
theorem wm_8 : Cond.selects RX5 yX5_tellsHint yX5_tellsHint ∈ wsA := zW 8 rfl rfl
set_option maxRecDepth 100000 in
theorem wm_9 : Cond.selects RX5 yX5_tellsGuests yX5_tellsGuests ∈ wsA := zW 9 rfl rfl
set_option maxRecDepth 100000 in
theorem wm_10 : Cond.selects RX5 yX5_tellsGuest yX5_tellsGuest ∈ wsA := zW 10 rfl rfl
set_option maxRecDepth 100000 in
theorem wm_11 : Cond.selects RX6 yX6_takeBack yX6_takeBack ∈ wsA := zW 11 rfl rfl
set_option maxRecDepth 100000 in
theorem wm_12 : Cond.selects RX3 yX3_leadingInto yX3_leadingInto ∈ wsA := zW 12 rfl rfl
set_option maxRecDepth 100000 in
theorem wm_13 : Cond.selects RX3 yX3_firstNearer yX3_firstNearer ∈ wsA := zW 13 rfl rfl
set_option maxRecDepth 100000 in
theorem wm_14 : Cond.selects RX3 yX3_haveRoute yX3_haveRoute ∈ wsA := zW 14 rfl rfl
set_option maxRecDepth 100000 in
theorem wm_15 : Cond.selects RX3 yX3_thoughtsWithRoute yX3_thoughtsWithRoute ∈ wsA := zW 15 rfl rfl
set_option maxRecDepth 100000 in
theorem wm_16 : Cond.selects RX6 yX6_imageOf yX6_imageOf ∈ wsA := zW 16 rfl rfl
set_option maxRecDepth 100000 in
theorem wm_17 : Cond.selects RX1 yX1_leave yX1_leave ∈ wsA := zW 17 rfl rfl
set_option maxRecDepth 100000 in
theorem wm_18 : Cond.selects RX7 yX7_found yX7_found ∈ wsA := zW 18 rfl rfl
set_option maxRecDepth 100000 in
theorem wm_19 : Cond.selects RX7 yX7_well yX7_well ∈ wsA := zW 19 rfl rfl
set_option maxRecDepth 100000 in
theorem wm_20 : Cond.selects RX7 yX7_isMissing yX7_isMissing ∈ wsA := zW 20 rfl rfl
set_option maxRecDepth 100000 in
theorem wm_21 : Cond.selects RX7 yX7_isPart yX7_isPart ∈ wsA := zW 21 rfl rfl
set_option maxRecDepth 100000 in
theorem wm_22 : Cond.selects RX7 yX7_advances yX7_advances ∈ wsA := zW 22 rfl rfl
set_option maxRecDepth 100000 in
theorem wm_23 : Cond.selects RX7 yX7_byteAt yX7_byteAt ∈ wsA := zW 23 rfl rfl
set_option maxRecDepth 100000 in
theorem wm_24 : Cond.selects RX7 yX7_takes yX7_takes ∈ wsA := zW 24 rfl rfl
set_option maxRecDepth 100000 in
theorem wm_25 : Cond.selects RX7 yX7_isWell yX7_isWell ∈ wsA := zW 25 rfl rfl
set_option maxRecDepth 100000 in
theorem wm_26 : Cond.selects RX7 yX7_figure yX7_figure ∈ wsA := zW 26 rfl rfl
set_option maxRecDepth 100000 in
theorem wm_27 : Cond.selects RX7 yX7_figureBut yX7_figureBut ∈ wsA := zW 27 rfl rfl
set_option maxRecDepth 100000 in
theorem wm_28 : Cond.selects RX7 yX7_readsHint yX7_readsHint ∈ wsA := zW 28 rfl rfl
set_option maxRecDepth 100000 in
theorem wm_29 : Cond.selects RX7 yX7_readsGuest yX7_readsGuest ∈ wsA := zW 29 rfl rfl
set_option maxRecDepth 100000 in
theorem wm_30 : Cond.selects RX7 yX7_isGuest yX7_isGuest ∈ wsA := zW 30 rfl rfl
set_option maxRecDepth 100000 in
theorem wm_31 : Cond.selects RX7 yX7_isToCome yX7_isToCome ∈ wsA := zW 31 rfl rfl
set_option maxRecDepth 100000 in
theorem wm_32 : Cond.selects RX7 yX7_of yX7_of ∈ wsA := zW 32 rfl rfl
set_option maxRecDepth 100000 in
theorem wm_33 : Cond.selects RX7 yX7_notes yX7_notes ∈ wsA := zW 33 rfl rfl
set_option maxRecDepth 100000 in
theorem wm_34 : Cond.selects RX7 yX7_isHint yX7_isHint ∈ wsA := zW 34 rfl rfl
set_option maxRecDepth 100000 in
theorem wm_35 : Cond.selects RX7 yX7_leadsNow yX7_leadsNow ∈ wsA := zW 35 rfl rfl
set_option maxRecDepth 100000 in
theorem wm_36 : Cond.selects RX7 yX7_leadsTo yX7_leadsTo ∈ wsA := zW 36 rfl rfl
set_option maxRecDepth 100000 in
theorem wm_37 : Cond.selects RX7 yX7_dares yX7_dares ∈ wsA := zW 37 rfl rfl
set_option maxRecDepth 100000 in
theorem wm_38 : Cond.selects RX7 yX7_atMost yX7_atMost ∈ wsA := zW 38 rfl rfl
set_option maxRecDepth 100000 in
theorem wm_39 : Cond.selects RX7 yX7_ahead yX7_ahead ∈ wsA := zW 39 rfl rfl
set_option maxRecDepth 100000 in
theorem wm_40 : Cond.selects RX7 yX7_allHints yX7_allHints ∈ wsA := zW 40 rfl rfl
set_option maxRecDepth 100000 in
theorem wm_41 : Cond.selects RX7 yX7_endOf yX7_endOf ∈ wsA := zW 41 rfl rfl
set_option maxRecDepth 100000 in
theorem wm_42 : Cond.selects RX7 yX7_thinks yX7_thinks ∈ wsA := zW 42 rfl rfl
set_option maxRecDepth 100000 in
theorem wm_43 : Cond.selects RX7 yX7_isCastle yX7_isCastle ∈ wsA := zW 43 rfl rfl
set_option maxRecDepth 100000 in
theorem wm_44 : Cond.selects RX7 yX7_fewest yX7_fewest ∈ wsA := zW 44 rfl rfl
set_option maxRecDepth 100000 in
theorem wm_45 : Cond.selects RX7 yX7_laysRoutes yX7_laysRoutes ∈ wsA := zW 45 rfl rfl
set_option maxRecDepth 100000 in
theorem wm_46 : Cond.selects RX7 yX7_allToCome yX7_allToCome ∈ wsA := zW 46 rfl rfl
set_option maxRecDepth 100000 in
theorem wm_47 : Cond.selects RX7 yX7_thinksBy yX7_thinksBy ∈ wsA := zW 47 rfl rfl
set_option maxRecDepth 100000 in
theorem wm_48 : Cond.selects RX7 yX7_kindIn yX7_kindIn ∈ wsA := zW 48 rfl rfl
set_option maxRecDepth 100000 in
theorem wm_49 : Cond.selects RX7 yX7_mistakenSize yX7_mistakenSize ∈ wsA := zW 49 rfl rfl
set_option maxRecDepth 100000 in
theorem wm_50 : Cond.selects RX7 yX7_begins yX7_begins ∈ wsA := zW 50 rfl rfl
set_option maxRecDepth 100000 in
theorem wm_51 : Cond.selects RX7 yX7_silentSize yX7_silentSize ∈ wsA := zW 51 rfl rfl
set_option maxRecDepth 100000 in
theorem wm_52 : Cond.selects RX7 yX7_silentMark yX7_silentMark ∈ wsA := zW 52 rfl rfl
set_option maxRecDepth 100000 in
theorem wm_53 : Cond.selects RX7 yX7_mistakenMark yX7_mistakenMark ∈ wsA := zW 53 rfl rfl
set_option maxRecDepth 100000 in
theorem wm_55 : Cond.initialized RX6 ∈ wsA := zW 55 rfl rfl
set_option maxRecDepth 100000 in
theorem wm_56 : Cond.initialized RX4 ∈ wsA := zW 56 rfl rfl
set_option maxRecDepth 100000 in
theorem wm_57 : Cond.initialized RX5 ∈ wsA := zW 57 rfl rfl
set_option maxRecDepth 100000 in
theorem wm_58 : Cond.initialized RX2 ∈ wsA := zW 58 rfl rfl
set_option maxRecDepth 100000 in
theorem wm_59 : Cond.initialized RX0 ∈ wsA := zW 59 rfl rfl
set_option maxRecDepth 100000 in
theorem wm_60 : Cond.initialized RX3 ∈ wsA := zW 60 rfl rfl
set_option maxRecDepth 100000 in
theorem wm_61 : Cond.initialized RX1 ∈ wsA := zW 61 rfl rfl
set_option maxRecDepth 100000 in
theorem wm_62 : Cond.initialized RX7 ∈ wsA := zW 62 rfl rfl
set_option maxRecDepth 100000 in
theorem wm_63 : Cond.initialized "java/lang/System" ∈ wsA := zW 63 rfl rfl
set_option maxRecDepth 100000 in
theorem wm_64 : Cond.initialized RJ6 ∈ wsA := zW 64 rfl rfl
set_option maxRecDepth 100000 in
theorem wm_65 : Cond.initialized "java/lang/Math" ∈ wsA := zW 65 rfl rfl
set_option maxRecDepth 100000 in
theorem wm_80 : Cond.fieldLink RX4 9 "AilingKing$Rows" "items" "[I" ∈ wsA := zW 80 rfl rfl
set_option maxRecDepth 100000 in
theorem wm_81 : Cond.fieldLink RX4 15 "AilingKing$Rows" "lane" "[I" ∈ wsA := zW 81 rfl rfl
set_option maxRecDepth 100000 in
theorem wm_82 : Cond.fieldLink RX4 18 "AilingKing$Rows" "size" "[I" ∈ wsA := zW 82 rfl rfl
set_option maxRecDepth 100000 in
theorem wm_97 : Cond.fieldLink RX5 9 "AilingKing$Tape" "bytes" "[I" ∈ wsA := zW 97 rfl rfl
set_option maxRecDepth 100000 in
theorem wm_98 : Cond.fieldLink RX5 15 "AilingKing$Tape" "length" "I" ∈ wsA := zW 98 rfl rfl
set_option maxRecDepth 100000 in
theorem wm_99 : Cond.fieldLink RX6 98 "AilingKing$Tape" "length" "I" ∈ wsA := zW 99 rfl rfl
set_option maxRecDepth 100000 in
theorem wm_100 : Cond.fieldLink RX5 19 "AilingKing$Tape" "at" "I" ∈ wsA := zW 100 rfl rfl
set_option maxRecDepth 100000 in
theorem wm_101 : Cond.fieldLink RX6 117 "AilingKing$Tape" "at" "I" ∈ wsA := zW 101 rfl rfl
set_option maxRecDepth 100000 in
theorem wm_102 : Cond.fieldLink RX6 110 "AilingKing$Tape" "fault" "I" ∈ wsA := zW 102 rfl rfl
set_option maxRecDepth 100000 in
theorem wm_103 : Cond.fieldLink RX5 99 "AilingKing$Tape" "fault" "I" ∈ wsA := zW 103 rfl rfl
set_option maxRecDepth 100000 in
theorem wm_104 : Cond.fieldLink RX5 43 "AilingKing$Tape" "value" "I" ∈ wsA := zW 104 rfl rfl
set_option maxRecDepth 100000 in
theorem wm_122 : Cond.constant RX2 40 (-1000000) ∈ wsA := zW 122 rfl rfl
set_option maxRecDepth 100000 in
theorem wm_123 : Cond.fieldLink RX2 41 "AilingKing$Castle" "stands" "Z" ∈ wsA := zW 123 rfl rfl
set_option maxRecDepth 100000 in
theorem wm_124 : Cond.fieldLink RX6 120 "AilingKing$Castle" "stands" "Z" ∈ wsA := zW 124 rfl rfl
set_option maxRecDepth 100000 in
theorem wm_125 : Cond.fieldLink RX2 45 "AilingKing$Castle" "question" "I" ∈ wsA := zW 125 rfl rfl
set_option maxRecDepth 100000 in
theorem wm_126 : Cond.fieldLink RX3 24 "AilingKing$Castle" "question" "I" ∈ wsA := zW 126 rfl rfl
set_option maxRecDepth 100000 in
theorem wm_127 : Cond.fieldLink RX5 46 "AilingKing$Castle" "question" "I" ∈ wsA := zW 127 rfl rfl
set_option maxRecDepth 100000 in
theorem wm_128 : Cond.fieldLink RX3 15 "AilingKing$Castle" "wrong" "I" ∈ wsA := zW 128 rfl rfl
set_option maxRecDepth 100000 in
theorem wm_129 : Cond.fieldLink RX2 48 "AilingKing$Castle" "wrong" "I" ∈ wsA := zW 129 rfl rfl
set_option maxRecDepth 100000 in
theorem wm_130 : Cond.fieldLink RX5 51 "AilingKing$Castle" "wrong" "I" ∈ wsA := zW 130 rfl rfl
set_option maxRecDepth 100000 in
theorem wm_131 : Cond.fieldLink RX2 51 "AilingKing$Castle" "limit" "I" ∈ wsA := zW 131 rfl rfl
set_option maxRecDepth 100000 in
theorem wm_132 : Cond.fieldLink RX3 27 "AilingKing$Castle" "limit" "I" ∈ wsA := zW 132 rfl rfl
set_option maxRecDepth 100000 in
theorem wm_133 : Cond.fieldLink RX5 54 "AilingKing$Castle" "limit" "I" ∈ wsA := zW 133 rfl rfl
set_option maxRecDepth 100000 in
theorem wm_134 : Cond.fieldLink RX6 172 "AilingKing$Castle" "limit" "I" ∈ wsA := zW 134 rfl rfl
set_option maxRecDepth 100000 in
theorem wm_135 : Cond.fieldLink RX2 54 "AilingKing$Castle" "hints" "I" ∈ wsA := zW 135 rfl rfl
set_option maxRecDepth 100000 in
theorem wm_136 : Cond.fieldLink RX3 34 "AilingKing$Castle" "hints" "I" ∈ wsA := zW 136 rfl rfl
set_option maxRecDepth 100000 in
theorem wm_137 : Cond.fieldLink RX5 69 "AilingKing$Castle" "hints" "I" ∈ wsA := zW 137 rfl rfl
set_option maxRecDepth 100000 in
theorem wm_138 : Cond.fieldLink RX6 299 "AilingKing$Castle" "hints" "I" ∈ wsA := zW 138 rfl rfl
set_option maxRecDepth 100000 in
theorem wm_139 : Cond.fieldLink RX2 57 "AilingKing$Castle" "guests" "I" ∈ wsA := zW 139 rfl rfl
set_option maxRecDepth 100000 in
theorem wm_140 : Cond.fieldLink RX5 84 "AilingKing$Castle" "guests" "I" ∈ wsA := zW 140 rfl rfl
set_option maxRecDepth 100000 in
theorem wm_141 : Cond.fieldLink RX6 131 "AilingKing$Castle" "guests" "I" ∈ wsA := zW 141 rfl rfl
set_option maxRecDepth 100000 in
theorem wm_142 : Cond.fieldLink RX3 82 "AilingKing$Castle" "guests" "I" ∈ wsA := zW 142 rfl rfl
set_option maxRecDepth 100000 in
theorem wm_143 : Cond.fieldLink RX2 9 "AilingKing$Castle" "sort" "[I" ∈ wsA := zW 143 rfl rfl
set_option maxRecDepth 100000 in
theorem wm_144 : Cond.fieldLink RX1 15 "AilingKing$Castle" "sort" "[I" ∈ wsA := zW 144 rfl rfl
set_option maxRecDepth 100000 in
theorem wm_145 : Cond.fieldLink RX5 72 "AilingKing$Castle" "sort" "[I" ∈ wsA := zW 145 rfl rfl
set_option maxRecDepth 100000 in
theorem wm_146 : Cond.fieldLink RX6 282 "AilingKing$Castle" "sort" "[I" ∈ wsA := zW 146 rfl rfl
set_option maxRecDepth 100000 in
theorem wm_147 : Cond.fieldLink RX2 15 "AilingKing$Castle" "from" "[I" ∈ wsA := zW 147 rfl rfl
set_option maxRecDepth 100000 in
theorem wm_148 : Cond.fieldLink RX3 51 "AilingKing$Castle" "from" "[I" ∈ wsA := zW 148 rfl rfl
set_option maxRecDepth 100000 in
theorem wm_149 : Cond.fieldLink RX5 75 "AilingKing$Castle" "from" "[I" ∈ wsA := zW 149 rfl rfl
set_option maxRecDepth 100000 in
theorem wm_150 : Cond.fieldLink RX1 42 "AilingKing$Castle" "from" "[I" ∈ wsA := zW 150 rfl rfl
set_option maxRecDepth 100000 in
theorem wm_151 : Cond.fieldLink RX6 218 "AilingKing$Castle" "from" "[I" ∈ wsA := zW 151 rfl rfl
set_option maxRecDepth 100000 in
theorem wm_152 : Cond.fieldLink RX2 18 "AilingKing$Castle" "to" "[I" ∈ wsA := zW 152 rfl rfl
set_option maxRecDepth 100000 in
theorem wm_153 : Cond.fieldLink RX3 41 "AilingKing$Castle" "to" "[I" ∈ wsA := zW 153 rfl rfl
set_option maxRecDepth 100000 in
theorem wm_154 : Cond.fieldLink RX5 78 "AilingKing$Castle" "to" "[I" ∈ wsA := zW 154 rfl rfl
set_option maxRecDepth 100000 in
theorem wm_155 : Cond.fieldLink RX6 221 "AilingKing$Castle" "to" "[I" ∈ wsA := zW 155 rfl rfl
set_option maxRecDepth 100000 in
theorem wm_156 : Cond.fieldLink RX2 21 "AilingKing$Castle" "shown" "[I" ∈ wsA := zW 156 rfl rfl
set_option maxRecDepth 100000 in
theorem wm_157 : Cond.fieldLink RX3 44 "AilingKing$Castle" "shown" "[I" ∈ wsA := zW 157 rfl rfl
set_option maxRecDepth 100000 in
theorem wm_158 : Cond.fieldLink RX1 39 "AilingKing$Castle" "shown" "[I" ∈ wsA := zW 158 rfl rfl
set_option maxRecDepth 100000 in
theorem wm_159 : Cond.fieldLink RX6 224 "AilingKing$Castle" "shown" "[I" ∈ wsA := zW 159 rfl rfl
set_option maxRecDepth 100000 in
theorem wm_160 : Cond.fieldLink RX2 24 "AilingKing$Castle" "mind" "[I" ∈ wsA := zW 160 rfl rfl
set_option maxRecDepth 100000 in
theorem wm_161 : Cond.fieldLink RX3 59 "AilingKing$Castle" "mind" "[I" ∈ wsA := zW 161 rfl rfl
set_option maxRecDepth 100000 in
theorem wm_162 : Cond.fieldLink RX5 87 "AilingKing$Castle" "mind" "[I" ∈ wsA := zW 162 rfl rfl
set_option maxRecDepth 100000 in
theorem wm_163 : Cond.fieldLink RX6 154 "AilingKing$Castle" "mind" "[I" ∈ wsA := zW 163 rfl rfl
set_option maxRecDepth 100000 in
theorem wm_164 : Cond.fieldLink RX2 27 "AilingKing$Castle" "fear" "[I" ∈ wsA := zW 164 rfl rfl
set_option maxRecDepth 100000 in
theorem wm_165 : Cond.fieldLink RX5 90 "AilingKing$Castle" "fear" "[I" ∈ wsA := zW 165 rfl rfl
set_option maxRecDepth 100000 in
theorem wm_166 : Cond.fieldLink RX6 215 "AilingKing$Castle" "fear" "[I" ∈ wsA := zW 166 rfl rfl
set_option maxRecDepth 100000 in
theorem wm_167 : Cond.fieldLink RX2 30 "AilingKing$Castle" "bold" "[I" ∈ wsA := zW 167 rfl rfl
set_option maxRecDepth 100000 in
theorem wm_168 : Cond.fieldLink RX5 93 "AilingKing$Castle" "bold" "[I" ∈ wsA := zW 168 rfl rfl
set_option maxRecDepth 100000 in
theorem wm_169 : Cond.fieldLink RX6 184 "AilingKing$Castle" "bold" "[I" ∈ wsA := zW 169 rfl rfl
set_option maxRecDepth 100000 in
theorem wm_170 : Cond.fieldLink RX2 33 "AilingKing$Castle" "asked" "[I" ∈ wsA := zW 170 rfl rfl
set_option maxRecDepth 100000 in
theorem wm_171 : Cond.fieldLink RX6 181 "AilingKing$Castle" "asked" "[I" ∈ wsA := zW 171 rfl rfl
set_option maxRecDepth 100000 in
theorem wm_172 : Cond.fieldLink RX2 36 "AilingKing$Castle" "here" "I" ∈ wsA := zW 172 rfl rfl
set_option maxRecDepth 100000 in
theorem wm_173 : Cond.fieldLink RX6 137 "AilingKing$Castle" "here" "I" ∈ wsA := zW 173 rfl rfl
set_option maxRecDepth 100000 in
theorem wm_174 : Cond.fieldLink RX2 60 "AilingKing$Castle" "been" "I" ∈ wsA := zW 174 rfl rfl
set_option maxRecDepth 100000 in
theorem wm_175 : Cond.fieldLink RX2 63 "AilingKing$Castle" "tonight" "I" ∈ wsA := zW 175 rfl rfl
set_option maxRecDepth 100000 in
theorem wm_176 : Cond.fieldLink RX6 161 "AilingKing$Castle" "tonight" "I" ∈ wsA := zW 176 rfl rfl
set_option maxRecDepth 100000 in
theorem wm_177 : Cond.fieldLink RX2 66 "AilingKing$Castle" "worse" "I" ∈ wsA := zW 177 rfl rfl
set_option maxRecDepth 100000 in
theorem wm_178 : Cond.fieldLink RX6 302 "AilingKing$Castle" "worse" "I" ∈ wsA := zW 178 rfl rfl
set_option maxRecDepth 100000 in
theorem wm_179 : Cond.fieldLink RX2 69 "AilingKing$Castle" "healed" "Z" ∈ wsA := zW 179 rfl rfl
set_option maxRecDepth 100000 in
theorem wm_180 : Cond.fieldLink RX6 143 "AilingKing$Castle" "healed" "Z" ∈ wsA := zW 180 rfl rfl
set_option maxRecDepth 100000 in
theorem wm_226 : Cond.fieldLink RX0 9 "AilingKing$Acts" "what" "[I" ∈ wsA := zW 226 rfl rfl
set_option maxRecDepth 100000 in
theorem wm_227 : Cond.fieldLink RX6 203 "AilingKing$Acts" "what" "[I" ∈ wsA := zW 227 rfl rfl
set_option maxRecDepth 100000 in
theorem wm_228 : Cond.fieldLink RX0 15 "AilingKing$Acts" "who" "[I" ∈ wsA := zW 228 rfl rfl
set_option maxRecDepth 100000 in
theorem wm_229 : Cond.fieldLink RX6 206 "AilingKing$Acts" "who" "[I" ∈ wsA := zW 229 rfl rfl
set_option maxRecDepth 100000 in
theorem wm_230 : Cond.fieldLink RX0 18 "AilingKing$Acts" "before" "[I" ∈ wsA := zW 230 rfl rfl
set_option maxRecDepth 100000 in
theorem wm_231 : Cond.fieldLink RX6 209 "AilingKing$Acts" "before" "[I" ∈ wsA := zW 231 rfl rfl
set_option maxRecDepth 100000 in
theorem wm_232 : Cond.fieldLink RX0 25 "AilingKing$Acts" "kept" "I" ∈ wsA := zW 232 rfl rfl
set_option maxRecDepth 100000 in
theorem wm_233 : Cond.fieldLink RX6 196 "AilingKing$Acts" "kept" "I" ∈ wsA := zW 233 rfl rfl
set_option maxRecDepth 100000 in
theorem wm_234 : Cond.fieldLink RX0 21 "AilingKing$Acts" "first" "I" ∈ wsA := zW 234 rfl rfl
set_option maxRecDepth 100000 in
theorem wm_252 : Cond.fieldLink RX3 9 "AilingKing$Foretold" "near" "[I" ∈ wsA := zW 252 rfl rfl
set_option maxRecDepth 100000 in
theorem wm_253 : Cond.fieldLink RX3 21 "AilingKing$Foretold" "allowed" "I" ∈ wsA := zW 253 rfl rfl
set_option maxRecDepth 100000 in
theorem wm_265 : Cond.fieldLink RX1 9 "AilingKing$Asks" "begun" "[I" ∈ wsA := zW 265 rfl rfl
set_option maxRecDepth 100000 in
theorem wm_266 : Cond.fieldLink RX6 293 "AilingKing$Asks" "begun" "[I" ∈ wsA := zW 266 rfl rfl
set_option maxRecDepth 100000 in
theorem wm_267 : Cond.fieldLink RX1 20 "AilingKing$Asks" "length" "I" ∈ wsA := zW 267 rfl rfl
set_option maxRecDepth 100000 in
theorem wm_268 : Cond.fieldLink RX6 292 "AilingKing$Asks" "length" "I" ∈ wsA := zW 268 rfl rfl
set_option maxRecDepth 100000 in
theorem wm_274 : Cond.fieldLink RX6 10 "AilingKing" "rows" "LAilingKing$Rows;" ∈ wsA := zW 274 rfl rfl
set_option maxRecDepth 100000 in
theorem wm_275 : Cond.fieldLink RX6 19 "AilingKing" "tape" "LAilingKing$Tape;" ∈ wsA := zW 275 rfl rfl
set_option maxRecDepth 100000 in
theorem wm_276 : Cond.fieldLink RX6 26 "AilingKing" "now" "LAilingKing$Castle;" ∈ wsA := zW 276 rfl rfl
set_option maxRecDepth 100000 in
theorem wm_277 : Cond.fieldLink RX6 30 "AilingKing" "draft" "LAilingKing$Castle;" ∈ wsA := zW 277 rfl rfl
set_option maxRecDepth 100000 in
theorem wm_278 : Cond.fieldLink RX6 33 "AilingKing" "firstImage" "LAilingKing$Castle;" ∈ wsA := zW 278 rfl rfl
set_option maxRecDepth 100000 in
theorem wm_279 : Cond.fieldLink RX6 36 "AilingKing" "secondImage" "LAilingKing$Castle;" ∈ wsA := zW 279 rfl rfl
set_option maxRecDepth 100000 in
theorem wm_280 : Cond.fieldLink RX6 42 "AilingKing" "acts" "LAilingKing$Acts;" ∈ wsA := zW 280 rfl rfl
set_option maxRecDepth 100000 in
theorem wm_281 : Cond.fieldLink RX6 49 "AilingKing" "foretold" "LAilingKing$Foretold;" ∈ wsA := zW 281 rfl rfl
set_option maxRecDepth 100000 in
theorem wm_282 : Cond.fieldLink RX6 56 "AilingKing" "asks" "LAilingKing$Asks;" ∈ wsA := zW 282 rfl rfl
set_option maxRecDepth 100000 in
theorem wm_283 : Cond.fieldLink RX6 113 "AilingKing" "latestFault" "I" ∈ wsA := zW 283 rfl rfl
set_option maxRecDepth 100000 in
theorem wm_284 : Cond.fieldLink RX6 305 "AilingKing" "latestFinding" "I" ∈ wsA := zW 284 rfl rfl
set_option maxRecDepth 100000 in
theorem wm_309 : Cond.instanceMethod yX6_row ∈ wsA := zW 309 rfl rfl
set_option maxRecDepth 100000 in
theorem wm_310 : Cond.selects RX6 yX6_row yX6_row ∈ wsA := zW 310 rfl rfl
set_option maxRecDepth 100000 in
theorem wm_311 : Cond.code yX6_row cX6_row 4 (some .int) ∈ wsA := zW 311 rfl rfl
set_option maxRecDepth 100000 in
theorem wm_312 : Cond.methodLink RX6 60 yX6_isBelow ∈ wsA := zW 312 rfl rfl
set_option maxRecDepth 100000 in
theorem wm_313 : Cond.static yX6_isBelow ∈ wsA := zW 313 rfl rfl
set_option maxRecDepth 100000 in
theorem wm_314 : Cond.code yX6_isBelow cX6_isBelow 2 (some .boolean) ∈ wsA := zW 314 rfl rfl
set_option maxRecDepth 100000 in
theorem wm_315 : Cond.constant RX6 64 (-1000001) ∈ wsA := zW 315 rfl rfl
set_option maxRecDepth 100000 in
theorem wm_316 : Cond.methodLink RX6 65 yX6_found ∈ wsA := zW 316 rfl rfl
set_option maxRecDepth 100000 in
theorem wm_318 : Cond.instanceMethod yX6_found ∈ wsA := zW 318 rfl rfl
set_option maxRecDepth 100000 in
theorem wm_319 : Cond.code yX6_found cX6_found 2 (some .int) ∈ wsA := zW 319 rfl rfl
set_option maxRecDepth 100000 in
theorem wm_320 : Cond.constant RX6 308 (-1000010) ∈ wsA := zW 320 rfl rfl
set_option maxRecDepth 100000 in
theorem wm_321 : Cond.methodLink RX6 69 yX4_make ∈ wsA := zW 321 rfl rfl
set_option maxRecDepth 100000 in
theorem wm_322 : Cond.instanceMethod yX4_make ∈ wsA := zW 322 rfl rfl
set_option maxRecDepth 100000 in
theorem wm_323 : Cond.selects RX4 yX4_make yX4_make ∈ wsA := zW 323 rfl rfl
set_option maxRecDepth 100000 in
theorem wm_324 : Cond.code yX4_make cX4_make 5 none ∈ wsA := zW 324 rfl rfl
set_option maxRecDepth 100000 in
theorem wm_325 : Cond.methodLink RX6 73 yX6_foundNothing ∈ wsA := zW 325 rfl rfl
set_option maxRecDepth 100000 in
theorem wm_327 : Cond.instanceMethod yX6_foundNothing ∈ wsA := zW 327 rfl rfl
set_option maxRecDepth 100000 in
theorem wm_328 : Cond.code yX6_foundNothing cX6_foundNothing 2 (some .int) ∈ wsA := zW 328 rfl rfl
set_option maxRecDepth 100000 in
theorem wm_330 : Cond.instanceMethod yX6_set ∈ wsA := zW 330 rfl rfl
set_option maxRecDepth 100000 in
theorem wm_331 : Cond.selects RX6 yX6_set yX6_set ∈ wsA := zW 331 rfl rfl
set_option maxRecDepth 100000 in
theorem wm_332 : Cond.code yX6_set cX6_set 4 (some .int) ∈ wsA := zW 332 rfl rfl
set_option maxRecDepth 100000 in
theorem wm_333 : Cond.methodLink RX6 76 yX4_isMissing ∈ wsA := zW 333 rfl rfl
set_option maxRecDepth 100000 in
theorem wm_334 : Cond.instanceMethod yX4_isMissing ∈ wsA := zW 334 rfl rfl
set_option maxRecDepth 100000 in
theorem wm_335 : Cond.selects RX4 yX4_isMissing yX4_isMissing ∈ wsA := zW 335 rfl rfl
set_option maxRecDepth 100000 in
theorem wm_336 : Cond.code yX4_isMissing cX4_isMissing 2 (some .boolean) ∈ wsA := zW 336 rfl rfl
set_option maxRecDepth 100000 in
theorem wm_337 : Cond.methodLink RX6 80 yX4_holds ∈ wsA := zW 337 rfl rfl
set_option maxRecDepth 100000 in
theorem wm_338 : Cond.instanceMethod yX4_holds ∈ wsA := zW 338 rfl rfl
set_option maxRecDepth 100000 in
theorem wm_339 : Cond.selects RX4 yX4_holds yX4_holds ∈ wsA := zW 339 rfl rfl
set_option maxRecDepth 100000 in
theorem wm_340 : Cond.code yX4_holds cX4_holds 4 (some .boolean) ∈ wsA := zW 340 rfl rfl
set_option maxRecDepth 100000 in
theorem wm_341 : Cond.methodLink RX6 84 yX4_put ∈ wsA := zW 341 rfl rfl
set_option maxRecDepth 100000 in
theorem wm_342 : Cond.instanceMethod yX4_put ∈ wsA := zW 342 rfl rfl
set_option maxRecDepth 100000 in
theorem wm_343 : Cond.selects RX4 yX4_put yX4_put ∈ wsA := zW 343 rfl rfl
set_option maxRecDepth 100000 in
theorem wm_344 : Cond.code yX4_put cX4_put 5 (some .int) ∈ wsA := zW 344 rfl rfl
set_option maxRecDepth 100000 in
theorem wm_346 : Cond.instanceMethod yX6_copy ∈ wsA := zW 346 rfl rfl
set_option maxRecDepth 100000 in
theorem wm_347 : Cond.selects RX6 yX6_copy yX6_copy ∈ wsA := zW 347 rfl rfl
set_option maxRecDepth 100000 in
theorem wm_348 : Cond.code yX6_copy cX6_copy 6 (some .int) ∈ wsA := zW 348 rfl rfl
set_option maxRecDepth 100000 in
theorem wm_349 : Cond.methodLink RX6 88 yX4_laneOf ∈ wsA := zW 349 rfl rfl
set_option maxRecDepth 100000 in
theorem wm_350 : Cond.instanceMethod yX4_laneOf ∈ wsA := zW 350 rfl rfl
set_option maxRecDepth 100000 in
theorem wm_351 : Cond.selects RX4 yX4_laneOf yX4_laneOf ∈ wsA := zW 351 rfl rfl
set_option maxRecDepth 100000 in
theorem wm_352 : Cond.code yX4_laneOf cX4_laneOf 2 (some .int) ∈ wsA := zW 352 rfl rfl
set_option maxRecDepth 100000 in
theorem wm_353 : Cond.methodLink RX6 91 yX4_carry ∈ wsA := zW 353 rfl rfl
set_option maxRecDepth 100000 in
theorem wm_354 : Cond.instanceMethod yX4_carry ∈ wsA := zW 354 rfl rfl
set_option maxRecDepth 100000 in
theorem wm_355 : Cond.selects RX4 yX4_carry yX4_carry ∈ wsA := zW 355 rfl rfl
set_option maxRecDepth 100000 in
theorem wm_356 : Cond.code yX4_carry cX4_carry 6 none ∈ wsA := zW 356 rfl rfl
set_option maxRecDepth 100000 in
theorem wm_357 : Cond.methodLink RX4 21 arraycopyName ∈ wsA := zW 357 rfl rfl
set_option maxRecDepth 100000 in
theorem wm_358 : Cond.static arraycopyName ∈ wsA := zW 358 rfl rfl
set_option maxRecDepth 100000 in
theorem wm_359 : Cond.native arraycopyName ∈ wsA := zW 359 rfl rfl
set_option maxRecDepth 100000 in
theorem wm_361 : Cond.instanceMethod yX6_drop ∈ wsA := zW 361 rfl rfl
set_option maxRecDepth 100000 in
theorem wm_362 : Cond.selects RX6 yX6_drop yX6_drop ∈ wsA := zW 362 rfl rfl
set_option maxRecDepth 100000 in
theorem wm_363 : Cond.code yX6_drop cX6_drop 2 (some .int) ∈ wsA := zW 363 rfl rfl
set_option maxRecDepth 100000 in
theorem wm_364 : Cond.methodLink RX6 95 yX4_remove ∈ wsA := zW 364 rfl rfl
set_option maxRecDepth 100000 in
theorem wm_365 : Cond.instanceMethod yX4_remove ∈ wsA := zW 365 rfl rfl
set_option maxRecDepth 100000 in
theorem wm_366 : Cond.selects RX4 yX4_remove yX4_remove ∈ wsA := zW 366 rfl rfl
set_option maxRecDepth 100000 in
theorem wm_367 : Cond.code yX4_remove cX4_remove 3 (some .int) ∈ wsA := zW 367 rfl rfl
set_option maxRecDepth 100000 in
theorem wm_369 : Cond.instanceMethod yX6_feed ∈ wsA := zW 369 rfl rfl
set_option maxRecDepth 100000 in
theorem wm_370 : Cond.selects RX6 yX6_feed yX6_feed ∈ wsA := zW 370 rfl rfl
set_option maxRecDepth 100000 in
theorem wm_371 : Cond.code yX6_feed cX6_feed 2 (some .int) ∈ wsA := zW 371 rfl rfl
set_option maxRecDepth 100000 in
theorem wm_372 : Cond.constant RX6 102 (-1000003) ∈ wsA := zW 372 rfl rfl
set_option maxRecDepth 100000 in
theorem wm_373 : Cond.methodLink RX6 103 yX5_append ∈ wsA := zW 373 rfl rfl
set_option maxRecDepth 100000 in
theorem wm_374 : Cond.instanceMethod yX5_append ∈ wsA := zW 374 rfl rfl
set_option maxRecDepth 100000 in
theorem wm_375 : Cond.selects RX5 yX5_append yX5_append ∈ wsA := zW 375 rfl rfl
set_option maxRecDepth 100000 in
theorem wm_376 : Cond.code yX5_append cX5_append 2 (some .int) ∈ wsA := zW 376 rfl rfl
set_option maxRecDepth 100000 in
theorem wm_378 : Cond.instanceMethod yX6_castle ∈ wsA := zW 378 rfl rfl
set_option maxRecDepth 100000 in
theorem wm_379 : Cond.selects RX6 yX6_castle yX6_castle ∈ wsA := zW 379 rfl rfl
set_option maxRecDepth 100000 in
theorem wm_380 : Cond.code yX6_castle cX6_castle 2 (some .int) ∈ wsA := zW 380 rfl rfl
set_option maxRecDepth 100000 in
theorem wm_381 : Cond.methodLink RX6 106 yX5_tells ∈ wsA := zW 381 rfl rfl
set_option maxRecDepth 100000 in
theorem wm_382 : Cond.instanceMethod yX5_tells ∈ wsA := zW 382 rfl rfl
set_option maxRecDepth 100000 in
theorem wm_383 : Cond.selects RX5 yX5_tells yX5_tells ∈ wsA := zW 383 rfl rfl
set_option maxRecDepth 100000 in
theorem wm_384 : Cond.code yX5_tells cX5_tells 2 (some .boolean) ∈ wsA := zW 384 rfl rfl
set_option maxRecDepth 100000 in
theorem wm_385 : Cond.methodLink RX5 22 yX5_tellsLaw ∈ wsA := zW 385 rfl rfl
set_option maxRecDepth 100000 in
theorem wm_387 : Cond.instanceMethod yX5_tellsLaw ∈ wsA := zW 387 rfl rfl
set_option maxRecDepth 100000 in
theorem wm_388 : Cond.code yX5_tellsLaw cX5_tellsLaw 2 (some .boolean) ∈ wsA := zW 388 rfl rfl
set_option maxRecDepth 100000 in
theorem wm_389 : Cond.methodLink RX5 36 yX5_tellsSign ∈ wsA := zW 389 rfl rfl
set_option maxRecDepth 100000 in
theorem wm_391 : Cond.instanceMethod yX5_tellsSign ∈ wsA := zW 391 rfl rfl
set_option maxRecDepth 100000 in
theorem wm_392 : Cond.code yX5_tellsSign cX5_tellsSign 2 (some .boolean) ∈ wsA := zW 392 rfl rfl
set_option maxRecDepth 100000 in
theorem wm_393 : Cond.methodLink RX5 57 yX5_letter ∈ wsA := zW 393 rfl rfl
set_option maxRecDepth 100000 in
theorem wm_395 : Cond.instanceMethod yX5_letter ∈ wsA := zW 395 rfl rfl
set_option maxRecDepth 100000 in
theorem wm_396 : Cond.code yX5_letter cX5_letter 1 (some .int) ∈ wsA := zW 396 rfl rfl
set_option maxRecDepth 100000 in
theorem wm_397 : Cond.methodLink RX5 32 yX5_isFaulty ∈ wsA := zW 397 rfl rfl
set_option maxRecDepth 100000 in
theorem wm_399 : Cond.instanceMethod yX5_isFaulty ∈ wsA := zW 399 rfl rfl
set_option maxRecDepth 100000 in
theorem wm_400 : Cond.code yX5_isFaulty cX5_isFaulty 2 (some .boolean) ∈ wsA := zW 400 rfl rfl
set_option maxRecDepth 100000 in
theorem wm_401 : Cond.methodLink RX5 39 yX5_tellsNumber ∈ wsA := zW 401 rfl rfl
set_option maxRecDepth 100000 in
theorem wm_403 : Cond.instanceMethod yX5_tellsNumber ∈ wsA := zW 403 rfl rfl
set_option maxRecDepth 100000 in
theorem wm_404 : Cond.code yX5_tellsNumber cX5_tellsNumber 5 (some .boolean) ∈ wsA := zW 404 rfl rfl
set_option maxRecDepth 100000 in
theorem wm_405 : Cond.methodLink RX5 96 yX5_isFigure ∈ wsA := zW 405 rfl rfl
set_option maxRecDepth 100000 in
theorem wm_406 : Cond.static yX5_isFigure ∈ wsA := zW 406 rfl rfl
set_option maxRecDepth 100000 in
theorem wm_407 : Cond.code yX5_isFigure cX5_isFigure 1 (some .boolean) ∈ wsA := zW 407 rfl rfl
set_option maxRecDepth 100000 in
theorem wm_408 : Cond.methodLink RX5 26 yX5_tellsHints ∈ wsA := zW 408 rfl rfl
set_option maxRecDepth 100000 in
theorem wm_410 : Cond.instanceMethod yX5_tellsHints ∈ wsA := zW 410 rfl rfl
set_option maxRecDepth 100000 in
theorem wm_411 : Cond.code yX5_tellsHints cX5_tellsHints 3 (some .boolean) ∈ wsA := zW 411 rfl rfl
set_option maxRecDepth 100000 in
theorem wm_412 : Cond.methodLink RX5 61 yX5_sortOf ∈ wsA := zW 412 rfl rfl
set_option maxRecDepth 100000 in
theorem wm_413 : Cond.static yX5_sortOf ∈ wsA := zW 413 rfl rfl
set_option maxRecDepth 100000 in
theorem wm_414 : Cond.code yX5_sortOf cX5_sortOf 1 (some .int) ∈ wsA := zW 414 rfl rfl
set_option maxRecDepth 100000 in
theorem wm_415 : Cond.methodLink RX5 65 yX5_tellsHint ∈ wsA := zW 415 rfl rfl
set_option maxRecDepth 100000 in
theorem wm_417 : Cond.instanceMethod yX5_tellsHint ∈ wsA := zW 417 rfl rfl
set_option maxRecDepth 100000 in
theorem wm_418 : Cond.code yX5_tellsHint cX5_tellsHint 3 (some .boolean) ∈ wsA := zW 418 rfl rfl
set_option maxRecDepth 100000 in
theorem wm_419 : Cond.methodLink RX5 29 yX5_tellsGuests ∈ wsA := zW 419 rfl rfl
set_option maxRecDepth 100000 in
theorem wm_421 : Cond.instanceMethod yX5_tellsGuests ∈ wsA := zW 421 rfl rfl
set_option maxRecDepth 100000 in
theorem wm_422 : Cond.code yX5_tellsGuests cX5_tellsGuests 3 (some .boolean) ∈ wsA := zW 422 rfl rfl
set_option maxRecDepth 100000 in
theorem wm_423 : Cond.methodLink RX5 81 yX5_tellsGuest ∈ wsA := zW 423 rfl rfl
set_option maxRecDepth 100000 in
theorem wm_425 : Cond.instanceMethod yX5_tellsGuest ∈ wsA := zW 425 rfl rfl
set_option maxRecDepth 100000 in
theorem wm_426 : Cond.code yX5_tellsGuest cX5_tellsGuest 3 (some .boolean) ∈ wsA := zW 426 rfl rfl
set_option maxRecDepth 100000 in
theorem wm_427 : Cond.constant RX6 116 (-1000100) ∈ wsA := zW 427 rfl rfl
set_option maxRecDepth 100000 in
theorem wm_428 : Cond.methodLink RX6 124 yX2_become ∈ wsA := zW 428 rfl rfl
set_option maxRecDepth 100000 in
theorem wm_429 : Cond.instanceMethod yX2_become ∈ wsA := zW 429 rfl rfl
set_option maxRecDepth 100000 in
theorem wm_430 : Cond.selects RX2 yX2_become yX2_become ∈ wsA := zW 430 rfl rfl
set_option maxRecDepth 100000 in
theorem wm_431 : Cond.code yX2_become cX2_become 2 none ∈ wsA := zW 431 rfl rfl
set_option maxRecDepth 100000 in
theorem wm_432 : Cond.methodLink RX2 72 arraycopyName ∈ wsA := zW 432 rfl rfl
set_option maxRecDepth 100000 in
theorem wm_433 : Cond.methodLink RX6 128 yX0_forgetAll ∈ wsA := zW 433 rfl rfl
set_option maxRecDepth 100000 in
theorem wm_434 : Cond.instanceMethod yX0_forgetAll ∈ wsA := zW 434 rfl rfl
set_option maxRecDepth 100000 in
theorem wm_435 : Cond.selects RX0 yX0_forgetAll yX0_forgetAll ∈ wsA := zW 435 rfl rfl
set_option maxRecDepth 100000 in
theorem wm_436 : Cond.code yX0_forgetAll cX0_forgetAll 1 none ∈ wsA := zW 436 rfl rfl
set_option maxRecDepth 100000 in
theorem wm_438 : Cond.instanceMethod yX6_fault ∈ wsA := zW 438 rfl rfl
set_option maxRecDepth 100000 in
theorem wm_439 : Cond.selects RX6 yX6_fault yX6_fault ∈ wsA := zW 439 rfl rfl
set_option maxRecDepth 100000 in
theorem wm_440 : Cond.code yX6_fault cX6_fault 1 (some .int) ∈ wsA := zW 440 rfl rfl
set_option maxRecDepth 100000 in
theorem wm_442 : Cond.instanceMethod yX6_invite ∈ wsA := zW 442 rfl rfl
set_option maxRecDepth 100000 in
theorem wm_443 : Cond.selects RX6 yX6_invite yX6_invite ∈ wsA := zW 443 rfl rfl
set_option maxRecDepth 100000 in
theorem wm_444 : Cond.code yX6_invite cX6_invite 2 (some .int) ∈ wsA := zW 444 rfl rfl
set_option maxRecDepth 100000 in
theorem wm_445 : Cond.methodLink RX6 134 yX2_isGuest ∈ wsA := zW 445 rfl rfl
set_option maxRecDepth 100000 in
theorem wm_446 : Cond.instanceMethod yX2_isGuest ∈ wsA := zW 446 rfl rfl
set_option maxRecDepth 100000 in
theorem wm_447 : Cond.selects RX2 yX2_isGuest yX2_isGuest ∈ wsA := zW 447 rfl rfl
set_option maxRecDepth 100000 in
theorem wm_448 : Cond.code yX2_isGuest cX2_isGuest 2 (some .boolean) ∈ wsA := zW 448 rfl rfl
set_option maxRecDepth 100000 in
theorem wm_450 : Cond.methodLink RX6 140 yX2_stateOf ∈ wsA := zW 450 rfl rfl
set_option maxRecDepth 100000 in
theorem wm_451 : Cond.instanceMethod yX2_stateOf ∈ wsA := zW 451 rfl rfl
set_option maxRecDepth 100000 in
theorem wm_452 : Cond.selects RX2 yX2_stateOf yX2_stateOf ∈ wsA := zW 452 rfl rfl
set_option maxRecDepth 100000 in
theorem wm_453 : Cond.code yX2_stateOf cX2_stateOf 2 (some .int) ∈ wsA := zW 453 rfl rfl
set_option maxRecDepth 100000 in
theorem wm_455 : Cond.static yX6_has ∈ wsA := zW 455 rfl rfl
set_option maxRecDepth 100000 in
theorem wm_456 : Cond.code yX6_has cX6_has 2 (some .boolean) ∈ wsA := zW 456 rfl rfl
set_option maxRecDepth 100000 in
theorem wm_457 : Cond.constant RX6 146 (-1000002) ∈ wsA := zW 457 rfl rfl
set_option maxRecDepth 100000 in
theorem wm_458 : Cond.methodLink RX6 147 yX0_keep ∈ wsA := zW 458 rfl rfl
set_option maxRecDepth 100000 in
theorem wm_459 : Cond.instanceMethod yX0_keep ∈ wsA := zW 459 rfl rfl
set_option maxRecDepth 100000 in
theorem wm_460 : Cond.selects RX0 yX0_keep yX0_keep ∈ wsA := zW 460 rfl rfl
set_option maxRecDepth 100000 in
theorem wm_461 : Cond.code yX0_keep cX0_keep 5 none ∈ wsA := zW 461 rfl rfl
set_option maxRecDepth 100000 in
theorem wm_462 : Cond.methodLink RX6 150 yX2_receive ∈ wsA := zW 462 rfl rfl
set_option maxRecDepth 100000 in
theorem wm_463 : Cond.instanceMethod yX2_receive ∈ wsA := zW 463 rfl rfl
set_option maxRecDepth 100000 in
theorem wm_464 : Cond.selects RX2 yX2_receive yX2_receive ∈ wsA := zW 464 rfl rfl
set_option maxRecDepth 100000 in
theorem wm_465 : Cond.code yX2_receive cX2_receive 2 none ∈ wsA := zW 465 rfl rfl
set_option maxRecDepth 100000 in
theorem wm_467 : Cond.instanceMethod yX6_show ∈ wsA := zW 467 rfl rfl
set_option maxRecDepth 100000 in
theorem wm_468 : Cond.selects RX6 yX6_show yX6_show ∈ wsA := zW 468 rfl rfl
set_option maxRecDepth 100000 in
theorem wm_469 : Cond.code yX6_show cX6_show 2 (some .int) ∈ wsA := zW 469 rfl rfl
set_option maxRecDepth 100000 in
theorem wm_470 : Cond.methodLink RX6 158 yX2_isHint ∈ wsA := zW 470 rfl rfl
set_option maxRecDepth 100000 in
theorem wm_471 : Cond.instanceMethod yX2_isHint ∈ wsA := zW 471 rfl rfl
set_option maxRecDepth 100000 in
theorem wm_472 : Cond.selects RX2 yX2_isHint yX2_isHint ∈ wsA := zW 472 rfl rfl
set_option maxRecDepth 100000 in
theorem wm_473 : Cond.code yX2_isHint cX2_isHint 2 (some .boolean) ∈ wsA := zW 473 rfl rfl
set_option maxRecDepth 100000 in
theorem wm_474 : Cond.methodLink RX6 164 yX6_has ∈ wsA := zW 474 rfl rfl
set_option maxRecDepth 100000 in
theorem wm_475 : Cond.methodLink RX6 167 yJ6_bitCount_0f7a4 ∈ wsA := zW 475 rfl rfl
set_option maxRecDepth 100000 in
theorem wm_476 : Cond.static yJ6_bitCount_0f7a4 ∈ wsA := zW 476 rfl rfl
set_option maxRecDepth 100000 in
theorem wm_477 : Cond.code yJ6_bitCount_0f7a4 cJ6_bitCount_0f7a4 1 (some .int) ∈ wsA := zW 477 rfl rfl
set_option maxRecDepth 100000 in
theorem wm_478 : Cond.constant RJ6 265 (1431655765) ∈ wsA := zW 478 rfl rfl
set_option maxRecDepth 100000 in
theorem wm_479 : Cond.constant RJ6 266 (858993459) ∈ wsA := zW 479 rfl rfl
set_option maxRecDepth 100000 in
theorem wm_480 : Cond.constant RJ6 267 (252645135) ∈ wsA := zW 480 rfl rfl
set_option maxRecDepth 100000 in
theorem wm_481 : Cond.methodLink RX6 175 yX2_reveal ∈ wsA := zW 481 rfl rfl
set_option maxRecDepth 100000 in
theorem wm_482 : Cond.instanceMethod yX2_reveal ∈ wsA := zW 482 rfl rfl
set_option maxRecDepth 100000 in
theorem wm_483 : Cond.selects RX2 yX2_reveal yX2_reveal ∈ wsA := zW 483 rfl rfl
set_option maxRecDepth 100000 in
theorem wm_484 : Cond.code yX2_reveal cX2_reveal 2 none ∈ wsA := zW 484 rfl rfl
set_option maxRecDepth 100000 in
theorem wm_485 : Cond.methodLink RX2 85 yX2_ledFrom ∈ wsA := zW 485 rfl rfl
set_option maxRecDepth 100000 in
theorem wm_486 : Cond.instanceMethod yX2_ledFrom ∈ wsA := zW 486 rfl rfl
set_option maxRecDepth 100000 in
theorem wm_487 : Cond.selects RX2 yX2_ledFrom yX2_ledFrom ∈ wsA := zW 487 rfl rfl
set_option maxRecDepth 100000 in
theorem wm_488 : Cond.code yX2_ledFrom cX2_ledFrom 4 (some .int) ∈ wsA := zW 488 rfl rfl
set_option maxRecDepth 100000 in
theorem wm_489 : Cond.methodLink RX2 96 yX2_forth ∈ wsA := zW 489 rfl rfl
set_option maxRecDepth 100000 in
theorem wm_490 : Cond.instanceMethod yX2_forth ∈ wsA := zW 490 rfl rfl
set_option maxRecDepth 100000 in
theorem wm_491 : Cond.selects RX2 yX2_forth yX2_forth ∈ wsA := zW 491 rfl rfl
set_option maxRecDepth 100000 in
theorem wm_492 : Cond.code yX2_forth cX2_forth 3 (some .int) ∈ wsA := zW 492 rfl rfl
set_option maxRecDepth 100000 in
theorem wm_493 : Cond.methodLink RX2 100 yX2_back ∈ wsA := zW 493 rfl rfl
set_option maxRecDepth 100000 in
theorem wm_494 : Cond.instanceMethod yX2_back ∈ wsA := zW 494 rfl rfl
set_option maxRecDepth 100000 in
theorem wm_495 : Cond.selects RX2 yX2_back yX2_back ∈ wsA := zW 495 rfl rfl
set_option maxRecDepth 100000 in
theorem wm_496 : Cond.code yX2_back cX2_back 2 (some .int) ∈ wsA := zW 496 rfl rfl
set_option maxRecDepth 100000 in
theorem wm_498 : Cond.instanceMethod yX6_speak ∈ wsA := zW 498 rfl rfl
set_option maxRecDepth 100000 in
theorem wm_499 : Cond.selects RX6 yX6_speak yX6_speak ∈ wsA := zW 499 rfl rfl
set_option maxRecDepth 100000 in
theorem wm_500 : Cond.code yX6_speak cX6_speak 2 (some .int) ∈ wsA := zW 500 rfl rfl
set_option maxRecDepth 100000 in
theorem wm_501 : Cond.methodLink RX6 178 yX2_hear ∈ wsA := zW 501 rfl rfl
set_option maxRecDepth 100000 in
theorem wm_502 : Cond.instanceMethod yX2_hear ∈ wsA := zW 502 rfl rfl
set_option maxRecDepth 100000 in
theorem wm_503 : Cond.selects RX2 yX2_hear yX2_hear ∈ wsA := zW 503 rfl rfl
set_option maxRecDepth 100000 in
theorem wm_504 : Cond.code yX2_hear cX2_hear 3 none ∈ wsA := zW 504 rfl rfl
set_option maxRecDepth 100000 in
theorem wm_505 : Cond.methodLink RX2 93 yX2_dares ∈ wsA := zW 505 rfl rfl
set_option maxRecDepth 100000 in
theorem wm_506 : Cond.instanceMethod yX2_dares ∈ wsA := zW 506 rfl rfl
set_option maxRecDepth 100000 in
theorem wm_507 : Cond.selects RX2 yX2_dares yX2_dares ∈ wsA := zW 507 rfl rfl
set_option maxRecDepth 100000 in
theorem wm_508 : Cond.code yX2_dares cX2_dares 2 (some .boolean) ∈ wsA := zW 508 rfl rfl
set_option maxRecDepth 100000 in
theorem wm_510 : Cond.instanceMethod yX6_tale ∈ wsA := zW 510 rfl rfl
set_option maxRecDepth 100000 in
theorem wm_511 : Cond.selects RX6 yX6_tale yX6_tale ∈ wsA := zW 511 rfl rfl
set_option maxRecDepth 100000 in
theorem wm_512 : Cond.code yX6_tale cX6_tale 3 (some .int) ∈ wsA := zW 512 rfl rfl
set_option maxRecDepth 100000 in
theorem wm_513 : Cond.methodLink RX6 187 Lib.Math.min.name ∈ wsA := zW 513 rfl rfl
set_option maxRecDepth 100000 in
theorem wm_514 : Cond.static Lib.Math.min.name ∈ wsA := zW 514 rfl rfl
set_option maxRecDepth 100000 in
theorem wm_515 : Cond.code Lib.Math.min.name Lib.Math.min.code 2 (some .int) ∈ wsA := zW 515 rfl rfl
set_option maxRecDepth 100000 in
theorem wm_516 : Cond.methodLink RX6 193 Lib.Math.max.name ∈ wsA := zW 516 rfl rfl
set_option maxRecDepth 100000 in
theorem wm_517 : Cond.static Lib.Math.max.name ∈ wsA := zW 517 rfl rfl
set_option maxRecDepth 100000 in
theorem wm_518 : Cond.code Lib.Math.max.name Lib.Math.max.code 2 (some .int) ∈ wsA := zW 518 rfl rfl
set_option maxRecDepth 100000 in
theorem wm_520 : Cond.instanceMethod yX6_undo ∈ wsA := zW 520 rfl rfl
set_option maxRecDepth 100000 in
theorem wm_521 : Cond.selects RX6 yX6_undo yX6_undo ∈ wsA := zW 521 rfl rfl
set_option maxRecDepth 100000 in
theorem wm_522 : Cond.code yX6_undo cX6_undo 2 (some .int) ∈ wsA := zW 522 rfl rfl
set_option maxRecDepth 100000 in
theorem wm_523 : Cond.methodLink RX6 199 yX0_takeLatest ∈ wsA := zW 523 rfl rfl
set_option maxRecDepth 100000 in
theorem wm_524 : Cond.instanceMethod yX0_takeLatest ∈ wsA := zW 524 rfl rfl
set_option maxRecDepth 100000 in
theorem wm_525 : Cond.selects RX0 yX0_takeLatest yX0_takeLatest ∈ wsA := zW 525 rfl rfl
set_option maxRecDepth 100000 in
theorem wm_526 : Cond.code yX0_takeLatest cX0_takeLatest 1 (some .int) ∈ wsA := zW 526 rfl rfl
set_option maxRecDepth 100000 in
theorem wm_527 : Cond.methodLink RX6 212 yX6_takeBack ∈ wsA := zW 527 rfl rfl
set_option maxRecDepth 100000 in
theorem wm_529 : Cond.instanceMethod yX6_takeBack ∈ wsA := zW 529 rfl rfl
set_option maxRecDepth 100000 in
theorem wm_530 : Cond.code yX6_takeBack cX6_takeBack 4 none ∈ wsA := zW 530 rfl rfl
set_option maxRecDepth 100000 in
theorem wm_531 : Cond.methodLink RX6 309 yX2_dismiss ∈ wsA := zW 531 rfl rfl
set_option maxRecDepth 100000 in
theorem wm_532 : Cond.instanceMethod yX2_dismiss ∈ wsA := zW 532 rfl rfl
set_option maxRecDepth 100000 in
theorem wm_533 : Cond.selects RX2 yX2_dismiss yX2_dismiss ∈ wsA := zW 533 rfl rfl
set_option maxRecDepth 100000 in
theorem wm_534 : Cond.code yX2_dismiss cX2_dismiss 1 none ∈ wsA := zW 534 rfl rfl
set_option maxRecDepth 100000 in
theorem wm_535 : Cond.methodLink RX6 312 yX2_conceal ∈ wsA := zW 535 rfl rfl
set_option maxRecDepth 100000 in
theorem wm_536 : Cond.instanceMethod yX2_conceal ∈ wsA := zW 536 rfl rfl
set_option maxRecDepth 100000 in
theorem wm_537 : Cond.selects RX2 yX2_conceal yX2_conceal ∈ wsA := zW 537 rfl rfl
set_option maxRecDepth 100000 in
theorem wm_538 : Cond.code yX2_conceal cX2_conceal 3 none ∈ wsA := zW 538 rfl rfl
set_option maxRecDepth 100000 in
theorem wm_539 : Cond.methodLink RX2 89 yX2_isGuest ∈ wsA := zW 539 rfl rfl
set_option maxRecDepth 100000 in
theorem wm_540 : Cond.methodLink RX6 316 yX2_unhear ∈ wsA := zW 540 rfl rfl
set_option maxRecDepth 100000 in
theorem wm_541 : Cond.instanceMethod yX2_unhear ∈ wsA := zW 541 rfl rfl
set_option maxRecDepth 100000 in
theorem wm_542 : Cond.selects RX2 yX2_unhear yX2_unhear ∈ wsA := zW 542 rfl rfl
set_option maxRecDepth 100000 in
theorem wm_543 : Cond.code yX2_unhear cX2_unhear 3 none ∈ wsA := zW 543 rfl rfl
set_option maxRecDepth 100000 in
theorem wm_545 : Cond.instanceMethod yX6_guest ∈ wsA := zW 545 rfl rfl
set_option maxRecDepth 100000 in
theorem wm_546 : Cond.selects RX6 yX6_guest yX6_guest ∈ wsA := zW 546 rfl rfl
set_option maxRecDepth 100000 in
theorem wm_547 : Cond.code yX6_guest cX6_guest 3 (some .int) ∈ wsA := zW 547 rfl rfl
set_option maxRecDepth 100000 in
theorem wm_549 : Cond.instanceMethod yX6_hint ∈ wsA := zW 549 rfl rfl
set_option maxRecDepth 100000 in
theorem wm_550 : Cond.selects RX6 yX6_hint yX6_hint ∈ wsA := zW 550 rfl rfl
set_option maxRecDepth 100000 in
theorem wm_551 : Cond.code yX6_hint cX6_hint 3 (some .int) ∈ wsA := zW 551 rfl rfl
set_option maxRecDepth 100000 in
theorem wm_553 : Cond.instanceMethod yX6_leads ∈ wsA := zW 553 rfl rfl
set_option maxRecDepth 100000 in
theorem wm_554 : Cond.selects RX6 yX6_leads yX6_leads ∈ wsA := zW 554 rfl rfl
set_option maxRecDepth 100000 in
theorem wm_555 : Cond.code yX6_leads cX6_leads 3 (some .int) ∈ wsA := zW 555 rfl rfl
set_option maxRecDepth 100000 in
theorem wm_556 : Cond.methodLink RX6 227 yX2_ledFrom ∈ wsA := zW 556 rfl rfl
set_option maxRecDepth 100000 in
theorem wm_558 : Cond.instanceMethod yX6_route ∈ wsA := zW 558 rfl rfl
set_option maxRecDepth 100000 in
theorem wm_559 : Cond.selects RX6 yX6_route yX6_route ∈ wsA := zW 559 rfl rfl
set_option maxRecDepth 100000 in
theorem wm_560 : Cond.code yX6_route cX6_route 5 (some .int) ∈ wsA := zW 560 rfl rfl
set_option maxRecDepth 100000 in
theorem wm_561 : Cond.methodLink RX6 230 yX2_hintsAhead ∈ wsA := zW 561 rfl rfl
set_option maxRecDepth 100000 in
theorem wm_562 : Cond.instanceMethod yX2_hintsAhead ∈ wsA := zW 562 rfl rfl
set_option maxRecDepth 100000 in
theorem wm_563 : Cond.selects RX2 yX2_hintsAhead yX2_hintsAhead ∈ wsA := zW 563 rfl rfl
set_option maxRecDepth 100000 in
theorem wm_564 : Cond.code yX2_hintsAhead cX2_hintsAhead 2 (some .int) ∈ wsA := zW 564 rfl rfl
set_option maxRecDepth 100000 in
theorem wm_565 : Cond.methodLink RX2 104 yX2_allHints ∈ wsA := zW 565 rfl rfl
set_option maxRecDepth 100000 in
theorem wm_566 : Cond.instanceMethod yX2_allHints ∈ wsA := zW 566 rfl rfl
set_option maxRecDepth 100000 in
theorem wm_567 : Cond.selects RX2 yX2_allHints yX2_allHints ∈ wsA := zW 567 rfl rfl
set_option maxRecDepth 100000 in
theorem wm_568 : Cond.code yX2_allHints cX2_allHints 1 (some .int) ∈ wsA := zW 568 rfl rfl
set_option maxRecDepth 100000 in
theorem wm_569 : Cond.methodLink RX6 233 yX3_measure ∈ wsA := zW 569 rfl rfl
set_option maxRecDepth 100000 in
theorem wm_570 : Cond.instanceMethod yX3_measure ∈ wsA := zW 570 rfl rfl
set_option maxRecDepth 100000 in
theorem wm_571 : Cond.selects RX3 yX3_measure yX3_measure ∈ wsA := zW 571 rfl rfl
set_option maxRecDepth 100000 in
theorem wm_572 : Cond.code yX3_measure cX3_measure 6 none ∈ wsA := zW 572 rfl rfl
set_option maxRecDepth 100000 in
theorem wm_573 : Cond.methodLink RX3 30 yX3_leadingInto ∈ wsA := zW 573 rfl rfl
set_option maxRecDepth 100000 in
theorem wm_575 : Cond.instanceMethod yX3_leadingInto ∈ wsA := zW 575 rfl rfl
set_option maxRecDepth 100000 in
theorem wm_576 : Cond.code yX3_leadingInto cX3_leadingInto 5 (some .int) ∈ wsA := zW 576 rfl rfl
set_option maxRecDepth 100000 in
theorem wm_578 : Cond.methodLink RX3 47 yX2_forth ∈ wsA := zW 578 rfl rfl
set_option maxRecDepth 100000 in
theorem wm_579 : Cond.methodLink RX3 54 yX2_back ∈ wsA := zW 579 rfl rfl
set_option maxRecDepth 100000 in
theorem wm_580 : Cond.methodLink RX6 237 yX2_leftAhead ∈ wsA := zW 580 rfl rfl
set_option maxRecDepth 100000 in
theorem wm_581 : Cond.instanceMethod yX2_leftAhead ∈ wsA := zW 581 rfl rfl
set_option maxRecDepth 100000 in
theorem wm_582 : Cond.selects RX2 yX2_leftAhead yX2_leftAhead ∈ wsA := zW 582 rfl rfl
set_option maxRecDepth 100000 in
theorem wm_583 : Cond.code yX2_leftAhead cX2_leftAhead 2 (some .int) ∈ wsA := zW 583 rfl rfl
set_option maxRecDepth 100000 in
theorem wm_584 : Cond.methodLink RX2 108 yJ6_bitCount_0f7a4 ∈ wsA := zW 584 rfl rfl
set_option maxRecDepth 100000 in
theorem wm_585 : Cond.methodLink RX6 240 yX3_fewestFrom ∈ wsA := zW 585 rfl rfl
set_option maxRecDepth 100000 in
theorem wm_586 : Cond.instanceMethod yX3_fewestFrom ∈ wsA := zW 586 rfl rfl
set_option maxRecDepth 100000 in
theorem wm_587 : Cond.selects RX3 yX3_fewestFrom yX3_fewestFrom ∈ wsA := zW 587 rfl rfl
set_option maxRecDepth 100000 in
theorem wm_588 : Cond.code yX3_fewestFrom cX3_fewestFrom 4 (some .int) ∈ wsA := zW 588 rfl rfl
set_option maxRecDepth 100000 in
theorem wm_589 : Cond.constant RX3 58 (-1000000) ∈ wsA := zW 589 rfl rfl
set_option maxRecDepth 100000 in
theorem wm_590 : Cond.constant RX6 243 (-1000000) ∈ wsA := zW 590 rfl rfl
set_option maxRecDepth 100000 in
theorem wm_591 : Cond.methodLink RX6 244 yX3_hintOfRoute ∈ wsA := zW 591 rfl rfl
set_option maxRecDepth 100000 in
theorem wm_592 : Cond.instanceMethod yX3_hintOfRoute ∈ wsA := zW 592 rfl rfl
set_option maxRecDepth 100000 in
theorem wm_593 : Cond.selects RX3 yX3_hintOfRoute yX3_hintOfRoute ∈ wsA := zW 593 rfl rfl
set_option maxRecDepth 100000 in
theorem wm_594 : Cond.code yX3_hintOfRoute cX3_hintOfRoute 8 (some .int) ∈ wsA := zW 594 rfl rfl
set_option maxRecDepth 100000 in
theorem wm_595 : Cond.methodLink RX3 62 yX3_firstNearer ∈ wsA := zW 595 rfl rfl
set_option maxRecDepth 100000 in
theorem wm_597 : Cond.instanceMethod yX3_firstNearer ∈ wsA := zW 597 rfl rfl
set_option maxRecDepth 100000 in
theorem wm_598 : Cond.code yX3_firstNearer cX3_firstNearer 5 (some .int) ∈ wsA := zW 598 rfl rfl
set_option maxRecDepth 100000 in
theorem wm_599 : Cond.methodLink RX3 66 yX2_ledFrom ∈ wsA := zW 599 rfl rfl
set_option maxRecDepth 100000 in
theorem wm_601 : Cond.instanceMethod yX6_thinkable ∈ wsA := zW 601 rfl rfl
set_option maxRecDepth 100000 in
theorem wm_602 : Cond.selects RX6 yX6_thinkable yX6_thinkable ∈ wsA := zW 602 rfl rfl
set_option maxRecDepth 100000 in
theorem wm_603 : Cond.code yX6_thinkable cX6_thinkable 2 (some .int) ∈ wsA := zW 603 rfl rfl
set_option maxRecDepth 100000 in
theorem wm_604 : Cond.methodLink RX6 248 yX3_thoughtsWithin ∈ wsA := zW 604 rfl rfl
set_option maxRecDepth 100000 in
theorem wm_605 : Cond.static yX3_thoughtsWithin ∈ wsA := zW 605 rfl rfl
set_option maxRecDepth 100000 in
theorem wm_606 : Cond.code yX3_thoughtsWithin cX3_thoughtsWithin 8 (some .int) ∈ wsA := zW 606 rfl rfl
set_option maxRecDepth 100000 in
theorem wm_608 : Cond.instanceMethod yX6_chance ∈ wsA := zW 608 rfl rfl
set_option maxRecDepth 100000 in
theorem wm_609 : Cond.selects RX6 yX6_chance yX6_chance ∈ wsA := zW 609 rfl rfl
set_option maxRecDepth 100000 in
theorem wm_610 : Cond.code yX6_chance cX6_chance 8 (some .int) ∈ wsA := zW 610 rfl rfl
set_option maxRecDepth 100000 in
theorem wm_612 : Cond.static yX3_rowsToQuestion ∈ wsA := zW 612 rfl rfl
set_option maxRecDepth 100000 in
theorem wm_613 : Cond.code yX3_rowsToQuestion cX3_rowsToQuestion 7 (some .int) ∈ wsA := zW 613 rfl rfl
set_option maxRecDepth 100000 in
theorem wm_614 : Cond.methodLink RX3 70 yX3_rowsToQuestion ∈ wsA := zW 614 rfl rfl
set_option maxRecDepth 100000 in
theorem wm_615 : Cond.methodLink RX6 254 yX6_rowsOfUnlike ∈ wsA := zW 615 rfl rfl
set_option maxRecDepth 100000 in
theorem wm_616 : Cond.static yX6_rowsOfUnlike ∈ wsA := zW 616 rfl rfl
set_option maxRecDepth 100000 in
theorem wm_617 : Cond.code yX6_rowsOfUnlike cX6_rowsOfUnlike 4 (some .int) ∈ wsA := zW 617 rfl rfl
set_option maxRecDepth 100000 in
theorem wm_618 : Cond.methodLink RX6 257 yX6_commonDivisor ∈ wsA := zW 618 rfl rfl
set_option maxRecDepth 100000 in
theorem wm_619 : Cond.static yX6_commonDivisor ∈ wsA := zW 619 rfl rfl
set_option maxRecDepth 100000 in
theorem wm_620 : Cond.code yX6_commonDivisor cX6_commonDivisor 6 (some .int) ∈ wsA := zW 620 rfl rfl
set_option maxRecDepth 100000 in
theorem wm_622 : Cond.instanceMethod yX6_taught ∈ wsA := zW 622 rfl rfl
set_option maxRecDepth 100000 in
theorem wm_623 : Cond.selects RX6 yX6_taught yX6_taught ∈ wsA := zW 623 rfl rfl
set_option maxRecDepth 100000 in
theorem wm_624 : Cond.code yX6_taught cX6_taught 2 (some .int) ∈ wsA := zW 624 rfl rfl
set_option maxRecDepth 100000 in
theorem wm_626 : Cond.instanceMethod yX6_bestGuest ∈ wsA := zW 626 rfl rfl
set_option maxRecDepth 100000 in
theorem wm_627 : Cond.selects RX6 yX6_bestGuest yX6_bestGuest ∈ wsA := zW 627 rfl rfl
set_option maxRecDepth 100000 in
theorem wm_628 : Cond.code yX6_bestGuest cX6_bestGuest 2 (some .int) ∈ wsA := zW 628 rfl rfl
set_option maxRecDepth 100000 in
theorem wm_629 : Cond.methodLink RX6 260 yX3_bestOf ∈ wsA := zW 629 rfl rfl
set_option maxRecDepth 100000 in
theorem wm_630 : Cond.instanceMethod yX3_bestOf ∈ wsA := zW 630 rfl rfl
set_option maxRecDepth 100000 in
theorem wm_631 : Cond.selects RX3 yX3_bestOf yX3_bestOf ∈ wsA := zW 631 rfl rfl
set_option maxRecDepth 100000 in
theorem wm_632 : Cond.code yX3_bestOf cX3_bestOf 8 (some .int) ∈ wsA := zW 632 rfl rfl
set_option maxRecDepth 100000 in
theorem wm_633 : Cond.methodLink RX3 74 yX2_allHints ∈ wsA := zW 633 rfl rfl
set_option maxRecDepth 100000 in
theorem wm_634 : Cond.methodLink RX3 78 yX3_measure ∈ wsA := zW 634 rfl rfl
set_option maxRecDepth 100000 in
theorem wm_635 : Cond.methodLink RX3 85 yX3_fewestFrom ∈ wsA := zW 635 rfl rfl
set_option maxRecDepth 100000 in
theorem wm_636 : Cond.methodLink RX3 88 yX2_stateOf ∈ wsA := zW 636 rfl rfl
set_option maxRecDepth 100000 in
theorem wm_637 : Cond.methodLink RX3 91 yX2_dares ∈ wsA := zW 637 rfl rfl
set_option maxRecDepth 100000 in
theorem wm_639 : Cond.instanceMethod yX6_cover ∈ wsA := zW 639 rfl rfl
set_option maxRecDepth 100000 in
theorem wm_640 : Cond.selects RX6 yX6_cover yX6_cover ∈ wsA := zW 640 rfl rfl
set_option maxRecDepth 100000 in
theorem wm_641 : Cond.code yX6_cover cX6_cover 3 (some .int) ∈ wsA := zW 641 rfl rfl
set_option maxRecDepth 100000 in
theorem wm_642 : Cond.methodLink RX6 264 yX3_fewestForAll ∈ wsA := zW 642 rfl rfl
set_option maxRecDepth 100000 in
theorem wm_643 : Cond.instanceMethod yX3_fewestForAll ∈ wsA := zW 643 rfl rfl
set_option maxRecDepth 100000 in
theorem wm_644 : Cond.selects RX3 yX3_fewestForAll yX3_fewestForAll ∈ wsA := zW 644 rfl rfl
set_option maxRecDepth 100000 in
theorem wm_645 : Cond.code yX3_fewestForAll cX3_fewestForAll 6 (some .int) ∈ wsA := zW 645 rfl rfl
set_option maxRecDepth 100000 in
theorem wm_646 : Cond.methodLink RX3 95 yX2_thoughtsToCome ∈ wsA := zW 646 rfl rfl
set_option maxRecDepth 100000 in
theorem wm_647 : Cond.instanceMethod yX2_thoughtsToCome ∈ wsA := zW 647 rfl rfl
set_option maxRecDepth 100000 in
theorem wm_648 : Cond.selects RX2 yX2_thoughtsToCome yX2_thoughtsToCome ∈ wsA := zW 648 rfl rfl
set_option maxRecDepth 100000 in
theorem wm_649 : Cond.code yX2_thoughtsToCome cX2_thoughtsToCome 3 (some .int) ∈ wsA := zW 649 rfl rfl
set_option maxRecDepth 100000 in
theorem wm_650 : Cond.methodLink RX2 113 yX2_stateOf ∈ wsA := zW 650 rfl rfl
set_option maxRecDepth 100000 in
theorem wm_651 : Cond.methodLink RX3 98 yX3_haveRoute ∈ wsA := zW 651 rfl rfl
set_option maxRecDepth 100000 in
theorem wm_653 : Cond.instanceMethod yX3_haveRoute ∈ wsA := zW 653 rfl rfl
set_option maxRecDepth 100000 in
theorem wm_654 : Cond.code yX3_haveRoute cX3_haveRoute 4 (some .boolean) ∈ wsA := zW 654 rfl rfl
set_option maxRecDepth 100000 in
theorem wm_655 : Cond.methodLink RX3 107 yX3_thoughtsWithRoute ∈ wsA := zW 655 rfl rfl
set_option maxRecDepth 100000 in
theorem wm_657 : Cond.instanceMethod yX3_thoughtsWithRoute ∈ wsA := zW 657 rfl rfl
set_option maxRecDepth 100000 in
theorem wm_658 : Cond.code yX3_thoughtsWithRoute cX3_thoughtsWithRoute 3 (some .int) ∈ wsA := zW 658 rfl rfl
set_option maxRecDepth 100000 in
theorem wm_660 : Cond.methodLink RX3 102 yJ6_bitCount_0f7a4 ∈ wsA := zW 660 rfl rfl
set_option maxRecDepth 100000 in
theorem wm_662 : Cond.instanceMethod yX6_spoilt ∈ wsA := zW 662 rfl rfl
set_option maxRecDepth 100000 in
theorem wm_663 : Cond.selects RX6 yX6_spoilt yX6_spoilt ∈ wsA := zW 663 rfl rfl
set_option maxRecDepth 100000 in
theorem wm_664 : Cond.code yX6_spoilt cX6_spoilt 2 (some .int) ∈ wsA := zW 664 rfl rfl
set_option maxRecDepth 100000 in
theorem wm_665 : Cond.methodLink RX6 268 yX3_mostMissed ∈ wsA := zW 665 rfl rfl
set_option maxRecDepth 100000 in
theorem wm_666 : Cond.instanceMethod yX3_mostMissed ∈ wsA := zW 666 rfl rfl
set_option maxRecDepth 100000 in
theorem wm_667 : Cond.selects RX3 yX3_mostMissed yX3_mostMissed ∈ wsA := zW 667 rfl rfl
set_option maxRecDepth 100000 in
theorem wm_668 : Cond.code yX3_mostMissed cX3_mostMissed 7 (some .int) ∈ wsA := zW 668 rfl rfl
set_option maxRecDepth 100000 in
theorem wm_669 : Cond.methodLink RX3 113 yX2_toComeWith ∈ wsA := zW 669 rfl rfl
set_option maxRecDepth 100000 in
theorem wm_670 : Cond.instanceMethod yX2_toComeWith ∈ wsA := zW 670 rfl rfl
set_option maxRecDepth 100000 in
theorem wm_671 : Cond.selects RX2 yX2_toComeWith yX2_toComeWith ∈ wsA := zW 671 rfl rfl
set_option maxRecDepth 100000 in
theorem wm_672 : Cond.code yX2_toComeWith cX2_toComeWith 4 (some .int) ∈ wsA := zW 672 rfl rfl
set_option maxRecDepth 100000 in
theorem wm_674 : Cond.instanceMethod yX6_nearly ∈ wsA := zW 674 rfl rfl
set_option maxRecDepth 100000 in
theorem wm_675 : Cond.selects RX6 yX6_nearly yX6_nearly ∈ wsA := zW 675 rfl rfl
set_option maxRecDepth 100000 in
theorem wm_676 : Cond.code yX6_nearly cX6_nearly 5 (some .int) ∈ wsA := zW 676 rfl rfl
set_option maxRecDepth 100000 in
theorem wm_677 : Cond.methodLink RX6 271 yX4_itemOf ∈ wsA := zW 677 rfl rfl
set_option maxRecDepth 100000 in
theorem wm_678 : Cond.instanceMethod yX4_itemOf ∈ wsA := zW 678 rfl rfl
set_option maxRecDepth 100000 in
theorem wm_679 : Cond.selects RX4 yX4_itemOf yX4_itemOf ∈ wsA := zW 679 rfl rfl
set_option maxRecDepth 100000 in
theorem wm_680 : Cond.code yX4_itemOf cX4_itemOf 3 (some .int) ∈ wsA := zW 680 rfl rfl
set_option maxRecDepth 100000 in
theorem wm_681 : Cond.methodLink RX6 274 yX3_wouldAskButFear ∈ wsA := zW 681 rfl rfl
set_option maxRecDepth 100000 in
theorem wm_682 : Cond.static yX3_wouldAskButFear ∈ wsA := zW 682 rfl rfl
set_option maxRecDepth 100000 in
theorem wm_683 : Cond.code yX3_wouldAskButFear cX3_wouldAskButFear 7 (some .int) ∈ wsA := zW 683 rfl rfl
set_option maxRecDepth 100000 in
theorem wm_684 : Cond.methodLink RX3 116 yX3_afterRow ∈ wsA := zW 684 rfl rfl
set_option maxRecDepth 100000 in
theorem wm_685 : Cond.static yX3_afterRow ∈ wsA := zW 685 rfl rfl
set_option maxRecDepth 100000 in
theorem wm_686 : Cond.code yX3_afterRow cX3_afterRow 9 (some .int) ∈ wsA := zW 686 rfl rfl
set_option maxRecDepth 100000 in
theorem wm_687 : Cond.methodLink RX3 120 yX4_itemOf ∈ wsA := zW 687 rfl rfl
set_option maxRecDepth 100000 in
theorem wm_688 : Cond.methodLink RX3 125 yX3_timesAhead ∈ wsA := zW 688 rfl rfl
set_option maxRecDepth 100000 in
theorem wm_689 : Cond.static yX3_timesAhead ∈ wsA := zW 689 rfl rfl
set_option maxRecDepth 100000 in
theorem wm_690 : Cond.code yX3_timesAhead cX3_timesAhead 6 (some .int) ∈ wsA := zW 690 rfl rfl
set_option maxRecDepth 100000 in
theorem wm_692 : Cond.instanceMethod yX6_image ∈ wsA := zW 692 rfl rfl
set_option maxRecDepth 100000 in
theorem wm_693 : Cond.selects RX6 yX6_image yX6_image ∈ wsA := zW 693 rfl rfl
set_option maxRecDepth 100000 in
theorem wm_694 : Cond.code yX6_image cX6_image 2 (some .int) ∈ wsA := zW 694 rfl rfl
set_option maxRecDepth 100000 in
theorem wm_695 : Cond.methodLink RX6 278 yX6_imageOf ∈ wsA := zW 695 rfl rfl
set_option maxRecDepth 100000 in
theorem wm_697 : Cond.instanceMethod yX6_imageOf ∈ wsA := zW 697 rfl rfl
set_option maxRecDepth 100000 in
theorem wm_698 : Cond.code yX6_imageOf cX6_imageOf 2 (some (.object "AilingKing$Castle")) ∈ wsA := zW 698 rfl rfl
set_option maxRecDepth 100000 in
theorem wm_700 : Cond.instanceMethod yX6_restore ∈ wsA := zW 700 rfl rfl
set_option maxRecDepth 100000 in
theorem wm_701 : Cond.selects RX6 yX6_restore yX6_restore ∈ wsA := zW 701 rfl rfl
set_option maxRecDepth 100000 in
theorem wm_702 : Cond.code yX6_restore cX6_restore 2 (some .int) ∈ wsA := zW 702 rfl rfl
set_option maxRecDepth 100000 in
theorem wm_704 : Cond.instanceMethod yX6_kind ∈ wsA := zW 704 rfl rfl
set_option maxRecDepth 100000 in
theorem wm_705 : Cond.selects RX6 yX6_kind yX6_kind ∈ wsA := zW 705 rfl rfl
set_option maxRecDepth 100000 in
theorem wm_706 : Cond.code yX6_kind cX6_kind 2 (some .int) ∈ wsA := zW 706 rfl rfl
set_option maxRecDepth 100000 in
theorem wm_708 : Cond.instanceMethod yX6_as ∈ wsA := zW 708 rfl rfl
set_option maxRecDepth 100000 in
theorem wm_709 : Cond.selects RX6 yX6_as yX6_as ∈ wsA := zW 709 rfl rfl
set_option maxRecDepth 100000 in
theorem wm_710 : Cond.code yX6_as cX6_as 3 (some .int) ∈ wsA := zW 710 rfl rfl
set_option maxRecDepth 100000 in
theorem wm_711 : Cond.methodLink RX6 285 yX6_isOneOf ∈ wsA := zW 711 rfl rfl
set_option maxRecDepth 100000 in
theorem wm_712 : Cond.static yX6_isOneOf ∈ wsA := zW 712 rfl rfl
set_option maxRecDepth 100000 in
theorem wm_713 : Cond.code yX6_isOneOf cX6_isOneOf 2 (some .boolean) ∈ wsA := zW 713 rfl rfl
set_option maxRecDepth 100000 in
theorem wm_714 : Cond.methodLink RX6 319 yX6_parentOf ∈ wsA := zW 714 rfl rfl
set_option maxRecDepth 100000 in
theorem wm_715 : Cond.static yX6_parentOf ∈ wsA := zW 715 rfl rfl
set_option maxRecDepth 100000 in
theorem wm_716 : Cond.code yX6_parentOf cX6_parentOf 1 (some .int) ∈ wsA := zW 716 rfl rfl
set_option maxRecDepth 100000 in
theorem wm_718 : Cond.instanceMethod yX6_ask ∈ wsA := zW 718 rfl rfl
set_option maxRecDepth 100000 in
theorem wm_719 : Cond.selects RX6 yX6_ask yX6_ask ∈ wsA := zW 719 rfl rfl
set_option maxRecDepth 100000 in
theorem wm_720 : Cond.code yX6_ask cX6_ask 3 (some .int) ∈ wsA := zW 720 rfl rfl
set_option maxRecDepth 100000 in
theorem wm_721 : Cond.methodLink RX6 288 yX1_answer ∈ wsA := zW 721 rfl rfl
set_option maxRecDepth 100000 in
theorem wm_722 : Cond.instanceMethod yX1_answer ∈ wsA := zW 722 rfl rfl
set_option maxRecDepth 100000 in
theorem wm_723 : Cond.selects RX1 yX1_answer yX1_answer ∈ wsA := zW 723 rfl rfl
set_option maxRecDepth 100000 in
theorem wm_724 : Cond.code yX1_answer cX1_answer 5 (some .int) ∈ wsA := zW 724 rfl rfl
set_option maxRecDepth 100000 in
theorem wm_725 : Cond.methodLink RX1 24 yX1_sizeBody ∈ wsA := zW 725 rfl rfl
set_option maxRecDepth 100000 in
theorem wm_726 : Cond.static yX1_sizeBody ∈ wsA := zW 726 rfl rfl
set_option maxRecDepth 100000 in
theorem wm_727 : Cond.code yX1_sizeBody cX1_sizeBody 1 (some .int) ∈ wsA := zW 727 rfl rfl
set_option maxRecDepth 100000 in
theorem wm_728 : Cond.methodLink RX1 28 yX1_markBody ∈ wsA := zW 728 rfl rfl
set_option maxRecDepth 100000 in
theorem wm_729 : Cond.static yX1_markBody ∈ wsA := zW 729 rfl rfl
set_option maxRecDepth 100000 in
theorem wm_730 : Cond.code yX1_markBody cX1_markBody 1 (some .int) ∈ wsA := zW 730 rfl rfl
set_option maxRecDepth 100000 in
theorem wm_731 : Cond.methodLink RX1 31 yX1_given ∈ wsA := zW 731 rfl rfl
set_option maxRecDepth 100000 in
theorem wm_732 : Cond.static yX1_given ∈ wsA := zW 732 rfl rfl
set_option maxRecDepth 100000 in
theorem wm_733 : Cond.code yX1_given cX1_given 6 (some .int) ∈ wsA := zW 733 rfl rfl
set_option maxRecDepth 100000 in
theorem wm_734 : Cond.methodLink RX1 35 yX1_leave ∈ wsA := zW 734 rfl rfl
set_option maxRecDepth 100000 in
theorem wm_736 : Cond.instanceMethod yX1_leave ∈ wsA := zW 736 rfl rfl
set_option maxRecDepth 100000 in
theorem wm_737 : Cond.code yX1_leave cX1_leave 2 none ∈ wsA := zW 737 rfl rfl
set_option maxRecDepth 100000 in
theorem wm_739 : Cond.instanceMethod yX6_trace ∈ wsA := zW 739 rfl rfl
set_option maxRecDepth 100000 in
theorem wm_740 : Cond.selects RX6 yX6_trace yX6_trace ∈ wsA := zW 740 rfl rfl
set_option maxRecDepth 100000 in
theorem wm_741 : Cond.code yX6_trace cX6_trace 2 (some .int) ∈ wsA := zW 741 rfl rfl
set_option maxRecDepth 100000 in
theorem wm_743 : Cond.instanceMethod yX6_count ∈ wsA := zW 743 rfl rfl
set_option maxRecDepth 100000 in
theorem wm_744 : Cond.selects RX6 yX6_count yX6_count ∈ wsA := zW 744 rfl rfl
set_option maxRecDepth 100000 in
theorem wm_745 : Cond.code yX6_count cX6_count 2 (some .int) ∈ wsA := zW 745 rfl rfl
set_option maxRecDepth 100000 in
theorem wm_746 : Cond.methodLink RX6 296 yX4_present ∈ wsA := zW 746 rfl rfl
set_option maxRecDepth 100000 in
theorem wm_747 : Cond.instanceMethod yX4_present ∈ wsA := zW 747 rfl rfl
set_option maxRecDepth 100000 in
theorem wm_748 : Cond.selects RX4 yX4_present yX4_present ∈ wsA := zW 748 rfl rfl
set_option maxRecDepth 100000 in
theorem wm_749 : Cond.code yX4_present cX4_present 3 (some .int) ∈ wsA := zW 749 rfl rfl
set_option maxRecDepth 100000 in
theorem wm_750 : Cond.methodLink RX4 27 yX4_isMissing ∈ wsA := zW 750 rfl rfl
set_option maxRecDepth 100000 in
theorem wm_752 : Cond.instanceMethod yX6_status ∈ wsA := zW 752 rfl rfl
set_option maxRecDepth 100000 in
theorem wm_753 : Cond.selects RX6 yX6_status yX6_status ∈ wsA := zW 753 rfl rfl
set_option maxRecDepth 100000 in
theorem wm_754 : Cond.code yX6_status cX6_status 1 (some .int) ∈ wsA := zW 754 rfl rfl
set_option maxRecDepth 100000 in
theorem wm_761 : Cond.constant RX7 53 (-1000000) ∈ wsA := zW 761 rfl rfl
set_option maxRecDepth 100000 in
theorem wm_762 : Cond.fieldLink RX7 7 "AilingKingModel" "lane" "[I" ∈ wsA := zW 762 rfl rfl
set_option maxRecDepth 100000 in
theorem wm_763 : Cond.fieldLink RX7 13 "AilingKingModel" "many" "[I" ∈ wsA := zW 763 rfl rfl
set_option maxRecDepth 100000 in
theorem wm_764 : Cond.fieldLink RX7 16 "AilingKingModel" "items" "[I" ∈ wsA := zW 764 rfl rfl
set_option maxRecDepth 100000 in
theorem wm_765 : Cond.fieldLink RX7 19 "AilingKingModel" "spare" "[I" ∈ wsA := zW 765 rfl rfl
set_option maxRecDepth 100000 in
theorem wm_766 : Cond.fieldLink RX7 54 "AilingKingModel" "status" "I" ∈ wsA := zW 766 rfl rfl
set_option maxRecDepth 100000 in
theorem wm_767 : Cond.fieldLink RX7 22 "AilingKingModel" "tape" "[I" ∈ wsA := zW 767 rfl rfl
set_option maxRecDepth 100000 in
theorem wm_768 : Cond.fieldLink RX7 85 "AilingKingModel" "taped" "I" ∈ wsA := zW 768 rfl rfl
set_option maxRecDepth 100000 in
theorem wm_769 : Cond.fieldLink RX7 111 "AilingKingModel" "faultKind" "I" ∈ wsA := zW 769 rfl rfl
set_option maxRecDepth 100000 in
theorem wm_770 : Cond.fieldLink RX7 104 "AilingKingModel" "faultPlace" "I" ∈ wsA := zW 770 rfl rfl
set_option maxRecDepth 100000 in
theorem wm_771 : Cond.fieldLink RX7 89 "AilingKingModel" "at" "I" ∈ wsA := zW 771 rfl rfl
set_option maxRecDepth 100000 in
theorem wm_772 : Cond.fieldLink RX7 92 "AilingKingModel" "start" "I" ∈ wsA := zW 772 rfl rfl
set_option maxRecDepth 100000 in
theorem wm_773 : Cond.fieldLink RX7 101 "AilingKingModel" "token" "I" ∈ wsA := zW 773 rfl rfl
set_option maxRecDepth 100000 in
theorem wm_774 : Cond.fieldLink RX7 98 "AilingKingModel" "value" "I" ∈ wsA := zW 774 rfl rfl
set_option maxRecDepth 100000 in
theorem wm_775 : Cond.fieldLink RX7 25 "AilingKingModel" "now" "[I" ∈ wsA := zW 775 rfl rfl
set_option maxRecDepth 100000 in
theorem wm_776 : Cond.fieldLink RX7 28 "AilingKingModel" "draft" "[I" ∈ wsA := zW 776 rfl rfl
set_option maxRecDepth 100000 in
theorem wm_777 : Cond.fieldLink RX7 31 "AilingKingModel" "past" "[I" ∈ wsA := zW 777 rfl rfl
set_option maxRecDepth 100000 in
theorem wm_778 : Cond.fieldLink RX7 141 "AilingKingModel" "acts" "I" ∈ wsA := zW 778 rfl rfl
set_option maxRecDepth 100000 in
theorem wm_779 : Cond.fieldLink RX7 34 "AilingKingModel" "images" "[I" ∈ wsA := zW 779 rfl rfl
set_option maxRecDepth 100000 in
theorem wm_780 : Cond.fieldLink RX7 37 "AilingKingModel" "kept" "[Z" ∈ wsA := zW 780 rfl rfl
set_option maxRecDepth 100000 in
theorem wm_781 : Cond.fieldLink RX7 41 "AilingKingModel" "trace" "[I" ∈ wsA := zW 781 rfl rfl
set_option maxRecDepth 100000 in
theorem wm_782 : Cond.fieldLink RX7 216 "AilingKingModel" "traced" "I" ∈ wsA := zW 782 rfl rfl
set_option maxRecDepth 100000 in
theorem wm_783 : Cond.fieldLink RX7 44 "AilingKingModel" "thoughts" "[I" ∈ wsA := zW 783 rfl rfl
set_option maxRecDepth 100000 in
theorem wm_784 : Cond.fieldLink RX7 47 "AilingKingModel" "routes" "[I" ∈ wsA := zW 784 rfl rfl
set_option maxRecDepth 100000 in
theorem wm_785 : Cond.fieldLink RX7 50 "AilingKingModel" "shown" "[I" ∈ wsA := zW 785 rfl rfl
set_option maxRecDepth 100000 in
theorem wm_837 : Cond.instanceMethod yX7_row ∈ wsA := zW 837 rfl rfl
set_option maxRecDepth 100000 in
theorem wm_838 : Cond.selects RX7 yX7_row yX7_row ∈ wsA := zW 838 rfl rfl
set_option maxRecDepth 100000 in
theorem wm_839 : Cond.code yX7_row cX7_row 5 (some .int) ∈ wsA := zW 839 rfl rfl
set_option maxRecDepth 100000 in
theorem wm_840 : Cond.methodLink RX7 63 yX7_isRow ∈ wsA := zW 840 rfl rfl
set_option maxRecDepth 100000 in
theorem wm_841 : Cond.static yX7_isRow ∈ wsA := zW 841 rfl rfl
set_option maxRecDepth 100000 in
theorem wm_842 : Cond.code yX7_isRow cX7_isRow 1 (some .boolean) ∈ wsA := zW 842 rfl rfl
set_option maxRecDepth 100000 in
theorem wm_843 : Cond.methodLink RX7 59 yX7_in ∈ wsA := zW 843 rfl rfl
set_option maxRecDepth 100000 in
theorem wm_844 : Cond.static yX7_in ∈ wsA := zW 844 rfl rfl
set_option maxRecDepth 100000 in
theorem wm_845 : Cond.code yX7_in cX7_in 3 (some .boolean) ∈ wsA := zW 845 rfl rfl
set_option maxRecDepth 100000 in
theorem wm_846 : Cond.constant RX7 67 (-1000001) ∈ wsA := zW 846 rfl rfl
set_option maxRecDepth 100000 in
theorem wm_847 : Cond.methodLink RX7 68 yX7_found ∈ wsA := zW 847 rfl rfl
set_option maxRecDepth 100000 in
theorem wm_849 : Cond.instanceMethod yX7_found ∈ wsA := zW 849 rfl rfl
set_option maxRecDepth 100000 in
theorem wm_850 : Cond.code yX7_found cX7_found 2 (some .int) ∈ wsA := zW 850 rfl rfl
set_option maxRecDepth 100000 in
theorem wm_851 : Cond.constant RX7 58 (-1000010) ∈ wsA := zW 851 rfl rfl
set_option maxRecDepth 100000 in
theorem wm_852 : Cond.methodLink RX7 72 yX7_well ∈ wsA := zW 852 rfl rfl
set_option maxRecDepth 100000 in
theorem wm_854 : Cond.instanceMethod yX7_well ∈ wsA := zW 854 rfl rfl
set_option maxRecDepth 100000 in
theorem wm_855 : Cond.code yX7_well cX7_well 2 (some .int) ∈ wsA := zW 855 rfl rfl
set_option maxRecDepth 100000 in
theorem wm_857 : Cond.instanceMethod yX7_set ∈ wsA := zW 857 rfl rfl
set_option maxRecDepth 100000 in
theorem wm_858 : Cond.selects RX7 yX7_set yX7_set ∈ wsA := zW 858 rfl rfl
set_option maxRecDepth 100000 in
theorem wm_859 : Cond.code yX7_set cX7_set 4 (some .int) ∈ wsA := zW 859 rfl rfl
set_option maxRecDepth 100000 in
theorem wm_860 : Cond.methodLink RX7 75 yX7_isMissing ∈ wsA := zW 860 rfl rfl
set_option maxRecDepth 100000 in
theorem wm_862 : Cond.instanceMethod yX7_isMissing ∈ wsA := zW 862 rfl rfl
set_option maxRecDepth 100000 in
theorem wm_863 : Cond.code yX7_isMissing cX7_isMissing 2 (some .boolean) ∈ wsA := zW 863 rfl rfl
set_option maxRecDepth 100000 in
theorem wm_864 : Cond.methodLink RX7 78 yX7_cut ∈ wsA := zW 864 rfl rfl
set_option maxRecDepth 100000 in
theorem wm_865 : Cond.static yX7_cut ∈ wsA := zW 865 rfl rfl
set_option maxRecDepth 100000 in
theorem wm_866 : Cond.code yX7_cut cX7_cut 2 (some .int) ∈ wsA := zW 866 rfl rfl
set_option maxRecDepth 100000 in
theorem wm_868 : Cond.instanceMethod yX7_copy ∈ wsA := zW 868 rfl rfl
set_option maxRecDepth 100000 in
theorem wm_869 : Cond.selects RX7 yX7_copy yX7_copy ∈ wsA := zW 869 rfl rfl
set_option maxRecDepth 100000 in
theorem wm_870 : Cond.code yX7_copy cX7_copy 7 (some .int) ∈ wsA := zW 870 rfl rfl
set_option maxRecDepth 100000 in
theorem wm_871 : Cond.methodLink RX7 82 yX7_isPart ∈ wsA := zW 871 rfl rfl
set_option maxRecDepth 100000 in
theorem wm_873 : Cond.instanceMethod yX7_isPart ∈ wsA := zW 873 rfl rfl
set_option maxRecDepth 100000 in
theorem wm_874 : Cond.code yX7_isPart cX7_isPart 4 (some .boolean) ∈ wsA := zW 874 rfl rfl
set_option maxRecDepth 100000 in
theorem wm_876 : Cond.instanceMethod yX7_drop ∈ wsA := zW 876 rfl rfl
set_option maxRecDepth 100000 in
theorem wm_877 : Cond.selects RX7 yX7_drop yX7_drop ∈ wsA := zW 877 rfl rfl
set_option maxRecDepth 100000 in
theorem wm_878 : Cond.code yX7_drop cX7_drop 2 (some .int) ∈ wsA := zW 878 rfl rfl
set_option maxRecDepth 100000 in
theorem wm_880 : Cond.instanceMethod yX7_feed ∈ wsA := zW 880 rfl rfl
set_option maxRecDepth 100000 in
theorem wm_881 : Cond.selects RX7 yX7_feed yX7_feed ∈ wsA := zW 881 rfl rfl
set_option maxRecDepth 100000 in
theorem wm_882 : Cond.code yX7_feed cX7_feed 2 (some .int) ∈ wsA := zW 882 rfl rfl
set_option maxRecDepth 100000 in
theorem wm_883 : Cond.constant RX7 88 (-1000003) ∈ wsA := zW 883 rfl rfl
set_option maxRecDepth 100000 in
theorem wm_885 : Cond.instanceMethod yX7_castle ∈ wsA := zW 885 rfl rfl
set_option maxRecDepth 100000 in
theorem wm_886 : Cond.selects RX7 yX7_castle yX7_castle ∈ wsA := zW 886 rfl rfl
set_option maxRecDepth 100000 in
theorem wm_887 : Cond.code yX7_castle cX7_castle 2 (some .int) ∈ wsA := zW 887 rfl rfl
set_option maxRecDepth 100000 in
theorem wm_888 : Cond.methodLink RX7 114 yX7_advances ∈ wsA := zW 888 rfl rfl
set_option maxRecDepth 100000 in
theorem wm_890 : Cond.instanceMethod yX7_advances ∈ wsA := zW 890 rfl rfl
set_option maxRecDepth 100000 in
theorem wm_891 : Cond.code yX7_advances cX7_advances 2 none ∈ wsA := zW 891 rfl rfl
set_option maxRecDepth 100000 in
theorem wm_892 : Cond.methodLink RX7 95 yX7_byteAt ∈ wsA := zW 892 rfl rfl
set_option maxRecDepth 100000 in
theorem wm_894 : Cond.instanceMethod yX7_byteAt ∈ wsA := zW 894 rfl rfl
set_option maxRecDepth 100000 in
theorem wm_895 : Cond.code yX7_byteAt cX7_byteAt 2 (some .int) ∈ wsA := zW 895 rfl rfl
set_option maxRecDepth 100000 in
theorem wm_896 : Cond.methodLink RX7 117 yX7_takes ∈ wsA := zW 896 rfl rfl
set_option maxRecDepth 100000 in
theorem wm_898 : Cond.instanceMethod yX7_takes ∈ wsA := zW 898 rfl rfl
set_option maxRecDepth 100000 in
theorem wm_899 : Cond.code yX7_takes cX7_takes 4 (some .int) ∈ wsA := zW 899 rfl rfl
set_option maxRecDepth 100000 in
theorem wm_900 : Cond.methodLink RX7 107 yX7_isWell ∈ wsA := zW 900 rfl rfl
set_option maxRecDepth 100000 in
theorem wm_902 : Cond.instanceMethod yX7_isWell ∈ wsA := zW 902 rfl rfl
set_option maxRecDepth 100000 in
theorem wm_903 : Cond.code yX7_isWell cX7_isWell 1 (some .boolean) ∈ wsA := zW 903 rfl rfl
set_option maxRecDepth 100000 in
theorem wm_904 : Cond.methodLink RX7 124 yX7_figure ∈ wsA := zW 904 rfl rfl
set_option maxRecDepth 100000 in
theorem wm_906 : Cond.instanceMethod yX7_figure ∈ wsA := zW 906 rfl rfl
set_option maxRecDepth 100000 in
theorem wm_907 : Cond.code yX7_figure cX7_figure 3 (some .int) ∈ wsA := zW 907 rfl rfl
set_option maxRecDepth 100000 in
theorem wm_908 : Cond.methodLink RX7 127 yX7_figureBut ∈ wsA := zW 908 rfl rfl
set_option maxRecDepth 100000 in
theorem wm_910 : Cond.instanceMethod yX7_figureBut ∈ wsA := zW 910 rfl rfl
set_option maxRecDepth 100000 in
theorem wm_911 : Cond.code yX7_figureBut cX7_figureBut 3 (some .int) ∈ wsA := zW 911 rfl rfl
set_option maxRecDepth 100000 in
theorem wm_912 : Cond.methodLink RX7 121 yX7_kindOf ∈ wsA := zW 912 rfl rfl
set_option maxRecDepth 100000 in
theorem wm_913 : Cond.static yX7_kindOf ∈ wsA := zW 913 rfl rfl
set_option maxRecDepth 100000 in
theorem wm_914 : Cond.code yX7_kindOf cX7_kindOf 1 (some .int) ∈ wsA := zW 914 rfl rfl
set_option maxRecDepth 100000 in
theorem wm_915 : Cond.methodLink RX7 130 yX7_readsHint ∈ wsA := zW 915 rfl rfl
set_option maxRecDepth 100000 in
theorem wm_917 : Cond.instanceMethod yX7_readsHint ∈ wsA := zW 917 rfl rfl
set_option maxRecDepth 100000 in
theorem wm_918 : Cond.code yX7_readsHint cX7_readsHint 5 none ∈ wsA := zW 918 rfl rfl
set_option maxRecDepth 100000 in
theorem wm_919 : Cond.methodLink RX7 133 yX7_readsGuest ∈ wsA := zW 919 rfl rfl
set_option maxRecDepth 100000 in
theorem wm_921 : Cond.instanceMethod yX7_readsGuest ∈ wsA := zW 921 rfl rfl
set_option maxRecDepth 100000 in
theorem wm_922 : Cond.code yX7_readsGuest cX7_readsGuest 5 none ∈ wsA := zW 922 rfl rfl
set_option maxRecDepth 100000 in
theorem wm_923 : Cond.constant RX7 136 (-1000100) ∈ wsA := zW 923 rfl rfl
set_option maxRecDepth 100000 in
theorem wm_924 : Cond.methodLink RX7 137 yX7_copies ∈ wsA := zW 924 rfl rfl
set_option maxRecDepth 100000 in
theorem wm_925 : Cond.static yX7_copies ∈ wsA := zW 925 rfl rfl
set_option maxRecDepth 100000 in
theorem wm_926 : Cond.code yX7_copies cX7_copies 5 none ∈ wsA := zW 926 rfl rfl
set_option maxRecDepth 100000 in
theorem wm_928 : Cond.instanceMethod yX7_fault ∈ wsA := zW 928 rfl rfl
set_option maxRecDepth 100000 in
theorem wm_929 : Cond.selects RX7 yX7_fault yX7_fault ∈ wsA := zW 929 rfl rfl
set_option maxRecDepth 100000 in
theorem wm_930 : Cond.code yX7_fault cX7_fault 1 (some .int) ∈ wsA := zW 930 rfl rfl
set_option maxRecDepth 100000 in
theorem wm_932 : Cond.instanceMethod yX7_invite ∈ wsA := zW 932 rfl rfl
set_option maxRecDepth 100000 in
theorem wm_933 : Cond.selects RX7 yX7_invite yX7_invite ∈ wsA := zW 933 rfl rfl
set_option maxRecDepth 100000 in
theorem wm_934 : Cond.code yX7_invite cX7_invite 2 (some .int) ∈ wsA := zW 934 rfl rfl
set_option maxRecDepth 100000 in
theorem wm_935 : Cond.methodLink RX7 151 yX7_isGuest ∈ wsA := zW 935 rfl rfl
set_option maxRecDepth 100000 in
theorem wm_937 : Cond.instanceMethod yX7_isGuest ∈ wsA := zW 937 rfl rfl
set_option maxRecDepth 100000 in
theorem wm_938 : Cond.code yX7_isGuest cX7_isGuest 2 (some .boolean) ∈ wsA := zW 938 rfl rfl
set_option maxRecDepth 100000 in
theorem wm_939 : Cond.methodLink RX7 154 yX7_isToCome ∈ wsA := zW 939 rfl rfl
set_option maxRecDepth 100000 in
theorem wm_941 : Cond.instanceMethod yX7_isToCome ∈ wsA := zW 941 rfl rfl
set_option maxRecDepth 100000 in
theorem wm_942 : Cond.code yX7_isToCome cX7_isToCome 2 (some .boolean) ∈ wsA := zW 942 rfl rfl
set_option maxRecDepth 100000 in
theorem wm_943 : Cond.methodLink RX7 144 yX7_of ∈ wsA := zW 943 rfl rfl
set_option maxRecDepth 100000 in
theorem wm_945 : Cond.instanceMethod yX7_of ∈ wsA := zW 945 rfl rfl
set_option maxRecDepth 100000 in
theorem wm_946 : Cond.code yX7_of cX7_of 3 (some .int) ∈ wsA := zW 946 rfl rfl
set_option maxRecDepth 100000 in
theorem wm_947 : Cond.constant RX7 157 (-1000002) ∈ wsA := zW 947 rfl rfl
set_option maxRecDepth 100000 in
theorem wm_948 : Cond.methodLink RX7 158 yX7_notes ∈ wsA := zW 948 rfl rfl
set_option maxRecDepth 100000 in
theorem wm_950 : Cond.instanceMethod yX7_notes ∈ wsA := zW 950 rfl rfl
set_option maxRecDepth 100000 in
theorem wm_951 : Cond.code yX7_notes cX7_notes 2 none ∈ wsA := zW 951 rfl rfl
set_option maxRecDepth 100000 in
theorem wm_953 : Cond.instanceMethod yX7_show ∈ wsA := zW 953 rfl rfl
set_option maxRecDepth 100000 in
theorem wm_954 : Cond.selects RX7 yX7_show yX7_show ∈ wsA := zW 954 rfl rfl
set_option maxRecDepth 100000 in
theorem wm_955 : Cond.code yX7_show cX7_show 3 (some .int) ∈ wsA := zW 955 rfl rfl
set_option maxRecDepth 100000 in
theorem wm_956 : Cond.methodLink RX7 161 yX7_isHint ∈ wsA := zW 956 rfl rfl
set_option maxRecDepth 100000 in
theorem wm_958 : Cond.instanceMethod yX7_isHint ∈ wsA := zW 958 rfl rfl
set_option maxRecDepth 100000 in
theorem wm_959 : Cond.code yX7_isHint cX7_isHint 2 (some .boolean) ∈ wsA := zW 959 rfl rfl
set_option maxRecDepth 100000 in
theorem wm_960 : Cond.methodLink RX7 164 yX7_has ∈ wsA := zW 960 rfl rfl
set_option maxRecDepth 100000 in
theorem wm_961 : Cond.static yX7_has ∈ wsA := zW 961 rfl rfl
set_option maxRecDepth 100000 in
theorem wm_962 : Cond.code yX7_has cX7_has 2 (some .boolean) ∈ wsA := zW 962 rfl rfl
set_option maxRecDepth 100000 in
theorem wm_963 : Cond.methodLink RX7 168 yX7_ones ∈ wsA := zW 963 rfl rfl
set_option maxRecDepth 100000 in
theorem wm_964 : Cond.static yX7_ones ∈ wsA := zW 964 rfl rfl
set_option maxRecDepth 100000 in
theorem wm_965 : Cond.code yX7_ones cX7_ones 3 (some .int) ∈ wsA := zW 965 rfl rfl
set_option maxRecDepth 100000 in
theorem wm_966 : Cond.methodLink RX7 171 yX7_leadsNow ∈ wsA := zW 966 rfl rfl
set_option maxRecDepth 100000 in
theorem wm_968 : Cond.instanceMethod yX7_leadsNow ∈ wsA := zW 968 rfl rfl
set_option maxRecDepth 100000 in
theorem wm_969 : Cond.code yX7_leadsNow cX7_leadsNow 3 (some .int) ∈ wsA := zW 969 rfl rfl
set_option maxRecDepth 100000 in
theorem wm_970 : Cond.methodLink RX7 147 yX7_leadsTo ∈ wsA := zW 970 rfl rfl
set_option maxRecDepth 100000 in
theorem wm_972 : Cond.instanceMethod yX7_leadsTo ∈ wsA := zW 972 rfl rfl
set_option maxRecDepth 100000 in
theorem wm_973 : Cond.code yX7_leadsTo cX7_leadsTo 9 (some .int) ∈ wsA := zW 973 rfl rfl
set_option maxRecDepth 100000 in
theorem wm_975 : Cond.instanceMethod yX7_speak ∈ wsA := zW 975 rfl rfl
set_option maxRecDepth 100000 in
theorem wm_976 : Cond.selects RX7 yX7_speak yX7_speak ∈ wsA := zW 976 rfl rfl
set_option maxRecDepth 100000 in
theorem wm_977 : Cond.code yX7_speak cX7_speak 4 (some .int) ∈ wsA := zW 977 rfl rfl
set_option maxRecDepth 100000 in
theorem wm_978 : Cond.methodLink RX7 174 yX7_dares ∈ wsA := zW 978 rfl rfl
set_option maxRecDepth 100000 in
theorem wm_980 : Cond.instanceMethod yX7_dares ∈ wsA := zW 980 rfl rfl
set_option maxRecDepth 100000 in
theorem wm_981 : Cond.code yX7_dares cX7_dares 2 (some .boolean) ∈ wsA := zW 981 rfl rfl
set_option maxRecDepth 100000 in
theorem wm_983 : Cond.instanceMethod yX7_tale ∈ wsA := zW 983 rfl rfl
set_option maxRecDepth 100000 in
theorem wm_984 : Cond.selects RX7 yX7_tale yX7_tale ∈ wsA := zW 984 rfl rfl
set_option maxRecDepth 100000 in
theorem wm_985 : Cond.code yX7_tale cX7_tale 4 (some .int) ∈ wsA := zW 985 rfl rfl
set_option maxRecDepth 100000 in
theorem wm_987 : Cond.instanceMethod yX7_undo ∈ wsA := zW 987 rfl rfl
set_option maxRecDepth 100000 in
theorem wm_988 : Cond.selects RX7 yX7_undo yX7_undo ∈ wsA := zW 988 rfl rfl
set_option maxRecDepth 100000 in
theorem wm_989 : Cond.code yX7_undo cX7_undo 1 (some .int) ∈ wsA := zW 989 rfl rfl
set_option maxRecDepth 100000 in
theorem wm_991 : Cond.instanceMethod yX7_guest ∈ wsA := zW 991 rfl rfl
set_option maxRecDepth 100000 in
theorem wm_992 : Cond.selects RX7 yX7_guest yX7_guest ∈ wsA := zW 992 rfl rfl
set_option maxRecDepth 100000 in
theorem wm_993 : Cond.code yX7_guest cX7_guest 3 (some .int) ∈ wsA := zW 993 rfl rfl
set_option maxRecDepth 100000 in
theorem wm_995 : Cond.instanceMethod yX7_hint ∈ wsA := zW 995 rfl rfl
set_option maxRecDepth 100000 in
theorem wm_996 : Cond.selects RX7 yX7_hint yX7_hint ∈ wsA := zW 996 rfl rfl
set_option maxRecDepth 100000 in
theorem wm_997 : Cond.code yX7_hint cX7_hint 3 (some .int) ∈ wsA := zW 997 rfl rfl
set_option maxRecDepth 100000 in
theorem wm_999 : Cond.instanceMethod yX7_leads ∈ wsA := zW 999 rfl rfl
set_option maxRecDepth 100000 in
theorem wm_1000 : Cond.selects RX7 yX7_leads yX7_leads ∈ wsA := zW 1000 rfl rfl
set_option maxRecDepth 100000 in
theorem wm_1001 : Cond.code yX7_leads cX7_leads 3 (some .int) ∈ wsA := zW 1001 rfl rfl
set_option maxRecDepth 100000 in
theorem wm_1003 : Cond.instanceMethod yX7_route ∈ wsA := zW 1003 rfl rfl
set_option maxRecDepth 100000 in
theorem wm_1004 : Cond.selects RX7 yX7_route yX7_route ∈ wsA := zW 1004 rfl rfl
set_option maxRecDepth 100000 in
theorem wm_1005 : Cond.code yX7_route cX7_route 6 (some .int) ∈ wsA := zW 1005 rfl rfl
set_option maxRecDepth 100000 in
theorem wm_1006 : Cond.methodLink RX7 187 yX7_atMost ∈ wsA := zW 1006 rfl rfl
set_option maxRecDepth 100000 in
theorem wm_1008 : Cond.instanceMethod yX7_atMost ∈ wsA := zW 1008 rfl rfl
set_option maxRecDepth 100000 in
theorem wm_1009 : Cond.code yX7_atMost cX7_atMost 4 (some .int) ∈ wsA := zW 1009 rfl rfl
set_option maxRecDepth 100000 in
theorem wm_1010 : Cond.methodLink RX7 181 yX7_ahead ∈ wsA := zW 1010 rfl rfl
set_option maxRecDepth 100000 in
theorem wm_1012 : Cond.instanceMethod yX7_ahead ∈ wsA := zW 1012 rfl rfl
set_option maxRecDepth 100000 in
theorem wm_1013 : Cond.code yX7_ahead cX7_ahead 2 (some .int) ∈ wsA := zW 1013 rfl rfl
set_option maxRecDepth 100000 in
theorem wm_1014 : Cond.methodLink RX7 177 yX7_allHints ∈ wsA := zW 1014 rfl rfl
set_option maxRecDepth 100000 in
theorem wm_1016 : Cond.instanceMethod yX7_allHints ∈ wsA := zW 1016 rfl rfl
set_option maxRecDepth 100000 in
theorem wm_1017 : Cond.code yX7_allHints cX7_allHints 1 (some .int) ∈ wsA := zW 1017 rfl rfl
set_option maxRecDepth 100000 in
theorem wm_1018 : Cond.methodLink RX7 184 yX7_power ∈ wsA := zW 1018 rfl rfl
set_option maxRecDepth 100000 in
theorem wm_1019 : Cond.static yX7_power ∈ wsA := zW 1019 rfl rfl
set_option maxRecDepth 100000 in
theorem wm_1020 : Cond.code yX7_power cX7_power 4 (some .int) ∈ wsA := zW 1020 rfl rfl
set_option maxRecDepth 100000 in
theorem wm_1021 : Cond.methodLink RX7 190 yX7_endOf ∈ wsA := zW 1021 rfl rfl
set_option maxRecDepth 100000 in
theorem wm_1023 : Cond.instanceMethod yX7_endOf ∈ wsA := zW 1023 rfl rfl
set_option maxRecDepth 100000 in
theorem wm_1024 : Cond.code yX7_endOf cX7_endOf 9 (some .int) ∈ wsA := zW 1024 rfl rfl
set_option maxRecDepth 100000 in
theorem wm_1026 : Cond.instanceMethod yX7_thinkable ∈ wsA := zW 1026 rfl rfl
set_option maxRecDepth 100000 in
theorem wm_1027 : Cond.selects RX7 yX7_thinkable yX7_thinkable ∈ wsA := zW 1027 rfl rfl
set_option maxRecDepth 100000 in
theorem wm_1028 : Cond.code yX7_thinkable cX7_thinkable 5 (some .int) ∈ wsA := zW 1028 rfl rfl
set_option maxRecDepth 100000 in
theorem wm_1029 : Cond.methodLink RX7 194 yX7_thinks ∈ wsA := zW 1029 rfl rfl
set_option maxRecDepth 100000 in
theorem wm_1031 : Cond.instanceMethod yX7_thinks ∈ wsA := zW 1031 rfl rfl
set_option maxRecDepth 100000 in
theorem wm_1032 : Cond.code yX7_thinks cX7_thinks 5 none ∈ wsA := zW 1032 rfl rfl
set_option maxRecDepth 100000 in
theorem wm_1034 : Cond.instanceMethod yX7_chance ∈ wsA := zW 1034 rfl rfl
set_option maxRecDepth 100000 in
theorem wm_1035 : Cond.selects RX7 yX7_chance yX7_chance ∈ wsA := zW 1035 rfl rfl
set_option maxRecDepth 100000 in
theorem wm_1036 : Cond.code yX7_chance cX7_chance 9 (some .int) ∈ wsA := zW 1036 rfl rfl
set_option maxRecDepth 100000 in
theorem wm_1038 : Cond.instanceMethod yX7_taught ∈ wsA := zW 1038 rfl rfl
set_option maxRecDepth 100000 in
theorem wm_1039 : Cond.selects RX7 yX7_taught yX7_taught ∈ wsA := zW 1039 rfl rfl
set_option maxRecDepth 100000 in
theorem wm_1040 : Cond.code yX7_taught cX7_taught 2 (some .int) ∈ wsA := zW 1040 rfl rfl
set_option maxRecDepth 100000 in
theorem wm_1042 : Cond.instanceMethod yX7_bestGuest ∈ wsA := zW 1042 rfl rfl
set_option maxRecDepth 100000 in
theorem wm_1043 : Cond.selects RX7 yX7_bestGuest yX7_bestGuest ∈ wsA := zW 1043 rfl rfl
set_option maxRecDepth 100000 in
theorem wm_1044 : Cond.code yX7_bestGuest cX7_bestGuest 6 (some .int) ∈ wsA := zW 1044 rfl rfl
set_option maxRecDepth 100000 in
theorem wm_1045 : Cond.methodLink RX7 198 yX7_isCastle ∈ wsA := zW 1045 rfl rfl
set_option maxRecDepth 100000 in
theorem wm_1047 : Cond.instanceMethod yX7_isCastle ∈ wsA := zW 1047 rfl rfl
set_option maxRecDepth 100000 in
theorem wm_1048 : Cond.code yX7_isCastle cX7_isCastle 1 (some .boolean) ∈ wsA := zW 1048 rfl rfl
set_option maxRecDepth 100000 in
theorem wm_1049 : Cond.methodLink RX7 201 yX7_fewest ∈ wsA := zW 1049 rfl rfl
set_option maxRecDepth 100000 in
theorem wm_1051 : Cond.instanceMethod yX7_fewest ∈ wsA := zW 1051 rfl rfl
set_option maxRecDepth 100000 in
theorem wm_1052 : Cond.code yX7_fewest cX7_fewest 6 (some .int) ∈ wsA := zW 1052 rfl rfl
set_option maxRecDepth 100000 in
theorem wm_1054 : Cond.instanceMethod yX7_cover ∈ wsA := zW 1054 rfl rfl
set_option maxRecDepth 100000 in
theorem wm_1055 : Cond.selects RX7 yX7_cover yX7_cover ∈ wsA := zW 1055 rfl rfl
set_option maxRecDepth 100000 in
theorem wm_1056 : Cond.code yX7_cover cX7_cover 5 (some .int) ∈ wsA := zW 1056 rfl rfl
set_option maxRecDepth 100000 in
theorem wm_1057 : Cond.methodLink RX7 204 yX7_laysRoutes ∈ wsA := zW 1057 rfl rfl
set_option maxRecDepth 100000 in
theorem wm_1059 : Cond.instanceMethod yX7_laysRoutes ∈ wsA := zW 1059 rfl rfl
set_option maxRecDepth 100000 in
theorem wm_1060 : Cond.code yX7_laysRoutes cX7_laysRoutes 3 none ∈ wsA := zW 1060 rfl rfl
set_option maxRecDepth 100000 in
theorem wm_1061 : Cond.methodLink RX7 207 yX7_allToCome ∈ wsA := zW 1061 rfl rfl
set_option maxRecDepth 100000 in
theorem wm_1063 : Cond.instanceMethod yX7_allToCome ∈ wsA := zW 1063 rfl rfl
set_option maxRecDepth 100000 in
theorem wm_1064 : Cond.code yX7_allToCome cX7_allToCome 3 (some .int) ∈ wsA := zW 1064 rfl rfl
set_option maxRecDepth 100000 in
theorem wm_1066 : Cond.instanceMethod yX7_spoilt ∈ wsA := zW 1066 rfl rfl
set_option maxRecDepth 100000 in
theorem wm_1067 : Cond.selects RX7 yX7_spoilt yX7_spoilt ∈ wsA := zW 1067 rfl rfl
set_option maxRecDepth 100000 in
theorem wm_1068 : Cond.code yX7_spoilt cX7_spoilt 6 (some .int) ∈ wsA := zW 1068 rfl rfl
set_option maxRecDepth 100000 in
theorem wm_1070 : Cond.instanceMethod yX7_nearly ∈ wsA := zW 1070 rfl rfl
set_option maxRecDepth 100000 in
theorem wm_1071 : Cond.selects RX7 yX7_nearly yX7_nearly ∈ wsA := zW 1071 rfl rfl
set_option maxRecDepth 100000 in
theorem wm_1072 : Cond.code yX7_nearly cX7_nearly 7 (some .int) ∈ wsA := zW 1072 rfl rfl
set_option maxRecDepth 100000 in
theorem wm_1073 : Cond.methodLink RX7 210 yX7_thinksBy ∈ wsA := zW 1073 rfl rfl
set_option maxRecDepth 100000 in
theorem wm_1075 : Cond.instanceMethod yX7_thinksBy ∈ wsA := zW 1075 rfl rfl
set_option maxRecDepth 100000 in
theorem wm_1076 : Cond.code yX7_thinksBy cX7_thinksBy 7 (some .int) ∈ wsA := zW 1076 rfl rfl
set_option maxRecDepth 100000 in
theorem wm_1078 : Cond.instanceMethod yX7_image ∈ wsA := zW 1078 rfl rfl
set_option maxRecDepth 100000 in
theorem wm_1079 : Cond.selects RX7 yX7_image yX7_image ∈ wsA := zW 1079 rfl rfl
set_option maxRecDepth 100000 in
theorem wm_1080 : Cond.code yX7_image cX7_image 2 (some .int) ∈ wsA := zW 1080 rfl rfl
set_option maxRecDepth 100000 in
theorem wm_1082 : Cond.instanceMethod yX7_restore ∈ wsA := zW 1082 rfl rfl
set_option maxRecDepth 100000 in
theorem wm_1083 : Cond.selects RX7 yX7_restore yX7_restore ∈ wsA := zW 1083 rfl rfl
set_option maxRecDepth 100000 in
theorem wm_1084 : Cond.code yX7_restore cX7_restore 2 (some .int) ∈ wsA := zW 1084 rfl rfl
set_option maxRecDepth 100000 in
theorem wm_1086 : Cond.instanceMethod yX7_kind ∈ wsA := zW 1086 rfl rfl
set_option maxRecDepth 100000 in
theorem wm_1087 : Cond.selects RX7 yX7_kind yX7_kind ∈ wsA := zW 1087 rfl rfl
set_option maxRecDepth 100000 in
theorem wm_1088 : Cond.code yX7_kind cX7_kind 2 (some .int) ∈ wsA := zW 1088 rfl rfl
set_option maxRecDepth 100000 in
theorem wm_1089 : Cond.methodLink RX7 213 yX7_kindIn ∈ wsA := zW 1089 rfl rfl
set_option maxRecDepth 100000 in
theorem wm_1091 : Cond.instanceMethod yX7_kindIn ∈ wsA := zW 1091 rfl rfl
set_option maxRecDepth 100000 in
theorem wm_1092 : Cond.code yX7_kindIn cX7_kindIn 2 (some .int) ∈ wsA := zW 1092 rfl rfl
set_option maxRecDepth 100000 in
theorem wm_1094 : Cond.instanceMethod yX7_as ∈ wsA := zW 1094 rfl rfl
set_option maxRecDepth 100000 in
theorem wm_1095 : Cond.selects RX7 yX7_as yX7_as ∈ wsA := zW 1095 rfl rfl
set_option maxRecDepth 100000 in
theorem wm_1096 : Cond.code yX7_as cX7_as 5 (some .int) ∈ wsA := zW 1096 rfl rfl
set_option maxRecDepth 100000 in
theorem wm_1098 : Cond.instanceMethod yX7_ask ∈ wsA := zW 1098 rfl rfl
set_option maxRecDepth 100000 in
theorem wm_1099 : Cond.selects RX7 yX7_ask yX7_ask ∈ wsA := zW 1099 rfl rfl
set_option maxRecDepth 100000 in
theorem wm_1100 : Cond.code yX7_ask cX7_ask 4 (some .int) ∈ wsA := zW 1100 rfl rfl
set_option maxRecDepth 100000 in
theorem wm_1101 : Cond.methodLink RX7 225 yX7_mistakenSize ∈ wsA := zW 1101 rfl rfl
set_option maxRecDepth 100000 in
theorem wm_1103 : Cond.instanceMethod yX7_mistakenSize ∈ wsA := zW 1103 rfl rfl
set_option maxRecDepth 100000 in
theorem wm_1104 : Cond.code yX7_mistakenSize cX7_mistakenSize 4 (some .int) ∈ wsA := zW 1104 rfl rfl
set_option maxRecDepth 100000 in
theorem wm_1105 : Cond.methodLink RX7 219 yX7_begins ∈ wsA := zW 1105 rfl rfl
set_option maxRecDepth 100000 in
theorem wm_1107 : Cond.instanceMethod yX7_begins ∈ wsA := zW 1107 rfl rfl
set_option maxRecDepth 100000 in
theorem wm_1108 : Cond.code yX7_begins cX7_begins 2 none ∈ wsA := zW 1108 rfl rfl
set_option maxRecDepth 100000 in
theorem wm_1109 : Cond.methodLink RX7 228 yX7_silentSize ∈ wsA := zW 1109 rfl rfl
set_option maxRecDepth 100000 in
theorem wm_1111 : Cond.instanceMethod yX7_silentSize ∈ wsA := zW 1111 rfl rfl
set_option maxRecDepth 100000 in
theorem wm_1112 : Cond.code yX7_silentSize cX7_silentSize 4 (some .int) ∈ wsA := zW 1112 rfl rfl
set_option maxRecDepth 100000 in
theorem wm_1113 : Cond.methodLink RX7 222 yX7_silentMark ∈ wsA := zW 1113 rfl rfl
set_option maxRecDepth 100000 in
theorem wm_1115 : Cond.instanceMethod yX7_silentMark ∈ wsA := zW 1115 rfl rfl
set_option maxRecDepth 100000 in
theorem wm_1116 : Cond.code yX7_silentMark cX7_silentMark 4 (some .int) ∈ wsA := zW 1116 rfl rfl
set_option maxRecDepth 100000 in
theorem wm_1117 : Cond.methodLink RX7 231 yX7_mistakenMark ∈ wsA := zW 1117 rfl rfl
set_option maxRecDepth 100000 in
theorem wm_1119 : Cond.instanceMethod yX7_mistakenMark ∈ wsA := zW 1119 rfl rfl
set_option maxRecDepth 100000 in
theorem wm_1120 : Cond.code yX7_mistakenMark cX7_mistakenMark 2 (some .int) ∈ wsA := zW 1120 rfl rfl
set_option maxRecDepth 100000 in
theorem wm_1122 : Cond.instanceMethod yX7_trace ∈ wsA := zW 1122 rfl rfl
set_option maxRecDepth 100000 in
theorem wm_1123 : Cond.selects RX7 yX7_trace yX7_trace ∈ wsA := zW 1123 rfl rfl
set_option maxRecDepth 100000 in
theorem wm_1124 : Cond.code yX7_trace cX7_trace 2 (some .int) ∈ wsA := zW 1124 rfl rfl
set_option maxRecDepth 100000 in
theorem wm_1126 : Cond.instanceMethod yX7_count ∈ wsA := zW 1126 rfl rfl
set_option maxRecDepth 100000 in
theorem wm_1127 : Cond.selects RX7 yX7_count yX7_count ∈ wsA := zW 1127 rfl rfl
set_option maxRecDepth 100000 in
theorem wm_1128 : Cond.code yX7_count cX7_count 4 (some .int) ∈ wsA := zW 1128 rfl rfl
set_option maxRecDepth 100000 in
theorem wm_1130 : Cond.instanceMethod yX7_status ∈ wsA := zW 1130 rfl rfl
set_option maxRecDepth 100000 in
theorem wm_1131 : Cond.selects RX7 yX7_status yX7_status ∈ wsA := zW 1131 rfl rfl
set_option maxRecDepth 100000 in
theorem wm_1132 : Cond.code yX7_status cX7_status 1 (some .int) ∈ wsA := zW 1132 rfl rfl
set_option maxRecDepth 100000 in
theorem inX0A : ∀ w ∈ u_ws RX0 TX0 5, w ∈ wsA := by
  show ∀ w ∈ [u_lay RX0 TX0 0, u_lay RX0 TX0 1, u_lay RX0 TX0 2, u_lay RX0 TX0 3, u_lay RX0 TX0 4], w ∈ wsA
  exact List.forall_mem_cons.mpr ⟨zW 235 rfl rfl, List.forall_mem_cons.mpr ⟨zW 237 rfl rfl, List.forall_mem_cons.mpr ⟨zW 239 rfl rfl, List.forall_mem_cons.mpr ⟨zW 241 rfl rfl, List.forall_mem_cons.mpr ⟨zW 243 rfl rfl, fun _ h => absurd h List.not_mem_nil⟩⟩⟩⟩⟩
set_option maxRecDepth 100000 in
theorem inX1A : ∀ w ∈ u_ws RX1 TX1 2, w ∈ wsA := by
  show ∀ w ∈ [u_lay RX1 TX1 0, u_lay RX1 TX1 1], w ∈ wsA
  exact List.forall_mem_cons.mpr ⟨zW 269 rfl rfl, List.forall_mem_cons.mpr ⟨zW 271 rfl rfl, fun _ h => absurd h List.not_mem_nil⟩⟩
set_option maxRecDepth 100000 in
theorem inX2A : ∀ w ∈ u_ws RX2 TX2 19, w ∈ wsA := by
  show ∀ w ∈ [u_lay RX2 TX2 0, u_lay RX2 TX2 1, u_lay RX2 TX2 2, u_lay RX2 TX2 3, u_lay RX2 TX2 4, u_lay RX2 TX2 5, u_lay RX2 TX2 6, u_lay RX2 TX2 7, u_lay RX2 TX2 8, u_lay RX2 TX2 9, u_lay RX2 TX2 10, u_lay RX2 TX2 11, u_lay RX2 TX2 12, u_lay RX2 TX2 13, u_lay RX2 TX2 14, u_lay RX2 TX2 15, u_lay RX2 TX2 16, u_lay RX2 TX2 17, u_lay RX2 TX2 18], w ∈ wsA
  exact List.forall_mem_cons.mpr ⟨zW 181 rfl rfl, List.forall_mem_cons.mpr ⟨zW 183 rfl rfl, List.forall_mem_cons.mpr ⟨zW 185 rfl rfl, List.forall_mem_cons.mpr ⟨zW 187 rfl rfl, List.forall_mem_cons.mpr ⟨zW 189 rfl rfl, List.forall_mem_cons.mpr ⟨zW 191 rfl rfl, List.forall_mem_cons.mpr ⟨zW 193 rfl rfl, List.forall_mem_cons.mpr ⟨zW 195 rfl rfl, List.forall_mem_cons.mpr ⟨zW 197 rfl rfl, List.forall_mem_cons.mpr ⟨zW 199 rfl rfl, List.forall_mem_cons.mpr ⟨zW 201 rfl rfl, List.forall_mem_cons.mpr ⟨zW 203 rfl rfl, List.forall_mem_cons.mpr ⟨zW 205 rfl rfl, List.forall_mem_cons.mpr ⟨zW 207 rfl rfl, List.forall_mem_cons.mpr ⟨zW 209 rfl rfl, List.forall_mem_cons.mpr ⟨zW 211 rfl rfl, List.forall_mem_cons.mpr ⟨zW 213 rfl rfl, List.forall_mem_cons.mpr ⟨zW 215 rfl rfl, List.forall_mem_cons.mpr ⟨zW 217 rfl rfl, fun _ h => absurd h List.not_mem_nil⟩⟩⟩⟩⟩⟩⟩⟩⟩⟩⟩⟩⟩⟩⟩⟩⟩⟩⟩
set_option maxRecDepth 100000 in
theorem inX3A : ∀ w ∈ u_ws RX3 TX3 2, w ∈ wsA := by
  show ∀ w ∈ [u_lay RX3 TX3 0, u_lay RX3 TX3 1], w ∈ wsA
  exact List.forall_mem_cons.mpr ⟨zW 254 rfl rfl, List.forall_mem_cons.mpr ⟨zW 256 rfl rfl, fun _ h => absurd h List.not_mem_nil⟩⟩
set_option maxRecDepth 100000 in
theorem inX4A : ∀ w ∈ u_ws RX4 TX4 3, w ∈ wsA := by
  show ∀ w ∈ [u_lay RX4 TX4 0, u_lay RX4 TX4 1, u_lay RX4 TX4 2], w ∈ wsA
  exact List.forall_mem_cons.mpr ⟨zW 83 rfl rfl, List.forall_mem_cons.mpr ⟨zW 85 rfl rfl, List.forall_mem_cons.mpr ⟨zW 87 rfl rfl, fun _ h => absurd h List.not_mem_nil⟩⟩⟩
set_option maxRecDepth 100000 in
theorem inX5A : ∀ w ∈ u_ws RX5 TX5 5, w ∈ wsA := by
  show ∀ w ∈ [u_lay RX5 TX5 0, u_lay RX5 TX5 1, u_lay RX5 TX5 2, u_lay RX5 TX5 3, u_lay RX5 TX5 4], w ∈ wsA
  exact List.forall_mem_cons.mpr ⟨zW 105 rfl rfl, List.forall_mem_cons.mpr ⟨zW 107 rfl rfl, List.forall_mem_cons.mpr ⟨zW 109 rfl rfl, List.forall_mem_cons.mpr ⟨zW 111 rfl rfl, List.forall_mem_cons.mpr ⟨zW 113 rfl rfl, fun _ h => absurd h List.not_mem_nil⟩⟩⟩⟩⟩
set_option maxRecDepth 100000 in
theorem inX6A : ∀ w ∈ u_ws RX6 TX6 11, w ∈ wsA := by
  show ∀ w ∈ [u_lay RX6 TX6 0, u_lay RX6 TX6 1, u_lay RX6 TX6 2, u_lay RX6 TX6 3, u_lay RX6 TX6 4, u_lay RX6 TX6 5, u_lay RX6 TX6 6, u_lay RX6 TX6 7, u_lay RX6 TX6 8, u_lay RX6 TX6 9, u_lay RX6 TX6 10], w ∈ wsA
  exact List.forall_mem_cons.mpr ⟨zW 285 rfl rfl, List.forall_mem_cons.mpr ⟨zW 287 rfl rfl, List.forall_mem_cons.mpr ⟨zW 289 rfl rfl, List.forall_mem_cons.mpr ⟨zW 291 rfl rfl, List.forall_mem_cons.mpr ⟨zW 293 rfl rfl, List.forall_mem_cons.mpr ⟨zW 295 rfl rfl, List.forall_mem_cons.mpr ⟨zW 297 rfl rfl, List.forall_mem_cons.mpr ⟨zW 299 rfl rfl, List.forall_mem_cons.mpr ⟨zW 301 rfl rfl, List.forall_mem_cons.mpr ⟨zW 303 rfl rfl, List.forall_mem_cons.mpr ⟨zW 305 rfl rfl, fun _ h => absurd h List.not_mem_nil⟩⟩⟩⟩⟩⟩⟩⟩⟩⟩⟩
set_option maxRecDepth 100000 in
theorem inX7A : ∀ w ∈ u_ws RX7 TX7 24, w ∈ wsA := by
  show ∀ w ∈ [u_lay RX7 TX7 0, u_lay RX7 TX7 1, u_lay RX7 TX7 2, u_lay RX7 TX7 3, u_lay RX7 TX7 4, u_lay RX7 TX7 5, u_lay RX7 TX7 6, u_lay RX7 TX7 7, u_lay RX7 TX7 8, u_lay RX7 TX7 9, u_lay RX7 TX7 10, u_lay RX7 TX7 11, u_lay RX7 TX7 12, u_lay RX7 TX7 13, u_lay RX7 TX7 14, u_lay RX7 TX7 15, u_lay RX7 TX7 16, u_lay RX7 TX7 17, u_lay RX7 TX7 18, u_lay RX7 TX7 19, u_lay RX7 TX7 20, u_lay RX7 TX7 21, u_lay RX7 TX7 22, u_lay RX7 TX7 23], w ∈ wsA
  exact List.forall_mem_cons.mpr ⟨zW 786 rfl rfl, List.forall_mem_cons.mpr ⟨zW 788 rfl rfl, List.forall_mem_cons.mpr ⟨zW 790 rfl rfl, List.forall_mem_cons.mpr ⟨zW 792 rfl rfl, List.forall_mem_cons.mpr ⟨zW 794 rfl rfl, List.forall_mem_cons.mpr ⟨zW 796 rfl rfl, List.forall_mem_cons.mpr ⟨zW 798 rfl rfl, List.forall_mem_cons.mpr ⟨zW 800 rfl rfl, List.forall_mem_cons.mpr ⟨zW 802 rfl rfl, List.forall_mem_cons.mpr ⟨zW 804 rfl rfl, List.forall_mem_cons.mpr ⟨zW 806 rfl rfl, List.forall_mem_cons.mpr ⟨zW 808 rfl rfl, List.forall_mem_cons.mpr ⟨zW 810 rfl rfl, List.forall_mem_cons.mpr ⟨zW 812 rfl rfl, List.forall_mem_cons.mpr ⟨zW 814 rfl rfl, List.forall_mem_cons.mpr ⟨zW 816 rfl rfl, List.forall_mem_cons.mpr ⟨zW 818 rfl rfl, List.forall_mem_cons.mpr ⟨zW 820 rfl rfl, List.forall_mem_cons.mpr ⟨zW 822 rfl rfl, List.forall_mem_cons.mpr ⟨zW 824 rfl rfl, List.forall_mem_cons.mpr ⟨zW 826 rfl rfl, List.forall_mem_cons.mpr ⟨zW 828 rfl rfl, List.forall_mem_cons.mpr ⟨zW 830 rfl rfl, List.forall_mem_cons.mpr ⟨zW 832 rfl rfl, fun _ h => absurd h List.not_mem_nil⟩⟩⟩⟩⟩⟩⟩⟩⟩⟩⟩⟩⟩⟩⟩⟩⟩⟩⟩⟩⟩⟩⟩⟩
