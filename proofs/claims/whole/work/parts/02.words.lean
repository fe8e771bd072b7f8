def allW : List Cond := lw_tbl.filter goodWord
theorem tw_of {l : List Cond} (hl : ∀ w ∈ l, w ∈ lw_tbl) {w : Cond} {i : Nat} (h : l[i]? = some w) (g : goodWord w = true) : w ∈ allW := List.mem_filter.mpr ⟨hl w (List.mem_of_getElem? h), g⟩
theorem tw_in1 : ∀ w ∈ tables_1_1, w ∈ lw_tbl := fun _ h => List.mem_append_right _ (List.mem_append_left _ h)
theorem tw_in2 : ∀ w ∈ tables_1_2, w ∈ lw_tbl := fun _ h => List.mem_append_right _ (List.mem_append_right _ (List.mem_append_left _ h))
theorem tw_in3 : ∀ w ∈ tables_1_3, w ∈ lw_tbl := fun _ h => List.mem_append_right _ (List.mem_append_right _ (List.mem_append_right _ (List.mem_append_left _ h)))
theorem tw_in4 : ∀ w ∈ tables_1_4, w ∈ lw_tbl := fun _ h => List.mem_append_right _ (List.mem_append_right _ (List.mem_append_right _ (List.mem_append_right _ (List.mem_append_left _ h))))
theorem tw_in5 : ∀ w ∈ tables_1_5, w ∈ lw_tbl := fun _ h => List.mem_append_right _ (List.mem_append_right _ (List.mem_append_right _ (List.mem_append_right _ (List.mem_append_right _ (List.mem_append_left _ h)))))
theorem tw_in6 : ∀ w ∈ tables_1_6, w ∈ lw_tbl := fun _ h => List.mem_append_right _ (List.mem_append_right _ (List.mem_append_right _ (List.mem_append_right _ (List.mem_append_right _ (List.mem_append_right _ h)))))
theorem allW_good {w : Cond} (h : w ∈ allW) : (w.onTables && w.keeps) = true ∨ ∃ ty, w = .arrayClass ty := good_of_word (List.mem_filter.mp h).2
theorem allW_tbl : ∀ w ∈ allW, w ∈ lw_tbl := fun _ h => (List.mem_filter.mp h).1
theorem tw_1_0 : Cond.initialized RL ∈ allW := tw_of tw_in1 (i := 0) rfl rfl
theorem tw_1_1 : Cond.initialized RX10 ∈ allW := tw_of tw_in1 (i := 1) rfl rfl
theorem tw_1_2 : Cond.initialized RX8 ∈ allW := tw_of tw_in1 (i := 2) rfl rfl
theorem tw_1_3 : Cond.initialized RX5 ∈ allW := tw_of tw_in1 (i := 3) rfl rfl
theorem tw_1_4 : Cond.initialized RX6 ∈ allW := tw_of tw_in1 (i := 4) rfl rfl
theorem tw_1_5 : Cond.initialized RX11 ∈ allW := tw_of tw_in1 (i := 5) rfl rfl
theorem tw_1_6 : Cond.initialized RX7 ∈ allW := tw_of tw_in1 (i := 6) rfl rfl
theorem tw_1_7 : Cond.initialized RX4 ∈ allW := tw_of tw_in1 (i := 7) rfl rfl
theorem tw_1_8 : Cond.initialized RX2 ∈ allW := tw_of tw_in1 (i := 8) rfl rfl
theorem tw_1_9 : Cond.initialized RJ10 ∈ allW := tw_of tw_in1 (i := 9) rfl rfl
theorem tw_1_10 : Cond.initialized RJ13 ∈ allW := tw_of tw_in1 (i := 10) rfl rfl
theorem tw_1_11 : Cond.initialized RJxf58ca ∈ allW := tw_of tw_in1 (i := 11) rfl rfl
theorem tw_1_12 : Cond.initialized RJxe99ae ∈ allW := tw_of tw_in1 (i := 12) rfl rfl
theorem tw_1_13 : Cond.initialized RJ9 ∈ allW := tw_of tw_in1 (i := 13) rfl rfl
theorem tw_1_14 : Cond.initialized RX9 ∈ allW := tw_of tw_in1 (i := 14) rfl rfl
theorem tw_1_15 : Cond.initialized RX3 ∈ allW := tw_of tw_in1 (i := 15) rfl rfl
theorem tw_1_16 : Cond.initialized RX0 ∈ allW := tw_of tw_in1 (i := 16) rfl rfl
theorem tw_1_17 : Cond.initialized RX1 ∈ allW := tw_of tw_in1 (i := 17) rfl rfl
theorem tw_1_18 : Cond.classLink RL 7 RX10 ∈ allW := tw_of tw_in1 (i := 18) rfl rfl
theorem tw_1_19 : Cond.instantiable RX10 14 ∈ allW := tw_of tw_in1 (i := 19) rfl rfl
theorem tw_1_20 : Cond.methodLink RL 9 yX10_init ∈ allW := tw_of tw_in1 (i := 20) rfl rfl
theorem tw_1_21 : Cond.instanceMethod yX10_init ∈ allW := tw_of tw_in1 (i := 21) rfl rfl
theorem tw_1_22 : Cond.code yX10_init cX10_init 1 (none : Option Jvm.ClassFile.FieldType) ∈ allW := tw_of tw_in1 (i := 22) rfl rfl
theorem tw_1_23 : Cond.methodLink RX10 3 objectInit ∈ allW := tw_of tw_in1 (i := 23) rfl rfl
theorem tw_1_24 : Cond.instanceMethod objectInit ∈ allW := tw_of tw_in1 (i := 24) rfl rfl
theorem tw_1_25 : Cond.code objectInit object_method_1_code 1 (none : Option Jvm.ClassFile.FieldType) ∈ allW := tw_of tw_in1 (i := 25) rfl rfl
theorem tw_1_26 : Cond.classLink RX10 9 RX7 ∈ allW := tw_of tw_in1 (i := 26) rfl rfl
theorem tw_1_28 : Cond.classLink RX10 15 RX9 ∈ allW := tw_of tw_in1 (i := 28) rfl rfl
theorem tw_1_30 : Cond.classLink RX10 21 RX3 ∈ allW := tw_of tw_in1 (i := 30) rfl rfl
theorem tw_1_32 : Cond.classLink RX10 27 RX1 ∈ allW := tw_of tw_in1 (i := 32) rfl rfl
theorem tw_1_34 : Cond.classLink RX10 33 RX8 ∈ allW := tw_of tw_in1 (i := 34) rfl rfl
theorem tw_1_35 : Cond.instantiable RX8 3 ∈ allW := tw_of tw_in1 (i := 35) rfl rfl
theorem tw_1_37 : Cond.instanceMethod yX8_init ∈ allW := tw_of tw_in1 (i := 37) rfl rfl
theorem tw_1_38 : Cond.code yX8_init cX8_init 1 (none : Option Jvm.ClassFile.FieldType) ∈ allW := tw_of tw_in1 (i := 38) rfl rfl
theorem tw_1_39 : Cond.methodLink RX8 3 objectInit ∈ allW := tw_of tw_in1 (i := 39) rfl rfl
theorem tw_1_40 : Cond.classLink RX8 9 RX0 ∈ allW := tw_of tw_in1 (i := 40) rfl rfl
theorem tw_1_42 : Cond.fieldLink RX8 11 "PackDesk$Store" "bodies" "[LPackDesk$Body;" ∈ allW := tw_of tw_in1 (i := 42) rfl rfl
theorem tw_1_43 : Cond.fieldLink RX8 49 "PackDesk$Store" "atHand" "I" ∈ allW := tw_of tw_in1 (i := 43) rfl rfl
theorem tw_1_44 : Cond.fieldLink RX10 287 "PackDesk$Store" "atHand" "I" ∈ allW := tw_of tw_in1 (i := 44) rfl rfl
theorem tw_1_45 : Cond.fieldLink RX8 43 "PackDesk$Store" "ever" "I" ∈ allW := tw_of tw_in1 (i := 45) rfl rfl
theorem tw_1_46 : Cond.fieldLink RX10 290 "PackDesk$Store" "ever" "I" ∈ allW := tw_of tw_in1 (i := 46) rfl rfl
theorem tw_1_47 : Cond.laysFinal RX8 "PackDesk$Store" "bodies" "[LPackDesk$Body;" ∈ allW := tw_of tw_in1 (i := 47) rfl rfl
theorem tw_1_49 : Cond.lays RX8 "PackDesk$Store" "atHand" "I" ∈ allW := tw_of tw_in1 (i := 49) rfl rfl
theorem tw_1_51 : Cond.lays RX8 "PackDesk$Store" "ever" "I" ∈ allW := tw_of tw_in1 (i := 51) rfl rfl
theorem tw_1_54 : Cond.classLink RX10 40 RX5 ∈ allW := tw_of tw_in1 (i := 54) rfl rfl
theorem tw_1_55 : Cond.instantiable RX5 8 ∈ allW := tw_of tw_in1 (i := 55) rfl rfl
theorem tw_1_57 : Cond.instanceMethod yX5_init ∈ allW := tw_of tw_in1 (i := 57) rfl rfl
theorem tw_1_58 : Cond.code yX5_init cX5_init 1 (none : Option Jvm.ClassFile.FieldType) ∈ allW := tw_of tw_in1 (i := 58) rfl rfl
theorem tw_1_59 : Cond.methodLink RX5 3 objectInit ∈ allW := tw_of tw_in1 (i := 59) rfl rfl
theorem tw_1_60 : Cond.fieldLink RX5 9 "PackDesk$Packer" "made" "[B" ∈ allW := tw_of tw_in1 (i := 60) rfl rfl
theorem tw_1_61 : Cond.fieldLink RX10 318 "PackDesk$Packer" "made" "[B" ∈ allW := tw_of tw_in1 (i := 61) rfl rfl
theorem tw_1_62 : Cond.fieldLink RX5 22 "PackDesk$Packer" "size" "I" ∈ allW := tw_of tw_in1 (i := 62) rfl rfl
theorem tw_1_63 : Cond.fieldLink RX10 162 "PackDesk$Packer" "size" "I" ∈ allW := tw_of tw_in1 (i := 63) rfl rfl
theorem tw_1_64 : Cond.fieldLink RX5 15 "PackDesk$Packer" "opened" "[J" ∈ allW := tw_of tw_in1 (i := 64) rfl rfl
theorem tw_1_65 : Cond.fieldLink RX10 193 "PackDesk$Packer" "opened" "[J" ∈ allW := tw_of tw_in1 (i := 65) rfl rfl
theorem tw_1_66 : Cond.fieldLink RX5 19 "PackDesk$Packer" "worked" "[J" ∈ allW := tw_of tw_in1 (i := 66) rfl rfl
theorem tw_1_67 : Cond.fieldLink RX5 65 "PackDesk$Packer" "source" "LPackDesk$Stream;" ∈ allW := tw_of tw_in1 (i := 67) rfl rfl
theorem tw_1_68 : Cond.fieldLink RX5 69 "PackDesk$Packer" "from" "I" ∈ allW := tw_of tw_in1 (i := 68) rfl rfl
theorem tw_1_69 : Cond.fieldLink RX5 72 "PackDesk$Packer" "until" "I" ∈ allW := tw_of tw_in1 (i := 69) rfl rfl
theorem tw_1_70 : Cond.fieldLink RX5 75 "PackDesk$Packer" "astray" "Z" ∈ allW := tw_of tw_in1 (i := 70) rfl rfl
theorem tw_1_71 : Cond.laysFinal RX5 "PackDesk$Packer" "made" "[B" ∈ allW := tw_of tw_in1 (i := 71) rfl rfl
theorem tw_1_73 : Cond.lays RX5 "PackDesk$Packer" "size" "I" ∈ allW := tw_of tw_in1 (i := 73) rfl rfl
theorem tw_1_75 : Cond.laysFinal RX5 "PackDesk$Packer" "opened" "[J" ∈ allW := tw_of tw_in1 (i := 75) rfl rfl
theorem tw_1_77 : Cond.laysFinal RX5 "PackDesk$Packer" "worked" "[J" ∈ allW := tw_of tw_in1 (i := 77) rfl rfl
theorem tw_1_79 : Cond.lays RX5 "PackDesk$Packer" "source" "LPackDesk$Stream;" ∈ allW := tw_of tw_in1 (i := 79) rfl rfl
theorem tw_1_81 : Cond.lays RX5 "PackDesk$Packer" "from" "I" ∈ allW := tw_of tw_in1 (i := 81) rfl rfl
theorem tw_1_83 : Cond.lays RX5 "PackDesk$Packer" "until" "I" ∈ allW := tw_of tw_in1 (i := 83) rfl rfl
theorem tw_1_85 : Cond.lays RX5 "PackDesk$Packer" "astray" "Z" ∈ allW := tw_of tw_in1 (i := 85) rfl rfl
theorem tw_1_88 : Cond.arrayClass .byte ∈ allW := tw_of tw_in1 (i := 88) rfl rfl
theorem tw_1_89 : Cond.arrayClass .long ∈ allW := tw_of tw_in1 (i := 89) rfl rfl
theorem tw_1_90 : Cond.classLink RX10 47 RX6 ∈ allW := tw_of tw_in1 (i := 90) rfl rfl
theorem tw_1_91 : Cond.instantiable RX6 3 ∈ allW := tw_of tw_in1 (i := 91) rfl rfl
theorem tw_1_93 : Cond.instanceMethod yX6_init ∈ allW := tw_of tw_in1 (i := 93) rfl rfl
theorem tw_1_94 : Cond.code yX6_init cX6_init 1 (none : Option Jvm.ClassFile.FieldType) ∈ allW := tw_of tw_in1 (i := 94) rfl rfl
theorem tw_1_95 : Cond.methodLink RX6 3 objectInit ∈ allW := tw_of tw_in1 (i := 95) rfl rfl
theorem tw_1_96 : Cond.fieldLink RX6 22 "PackDesk$PieceReader" "ofKind" "I" ∈ allW := tw_of tw_in1 (i := 96) rfl rfl
theorem tw_1_97 : Cond.fieldLink RX10 189 "PackDesk$PieceReader" "ofKind" "I" ∈ allW := tw_of tw_in1 (i := 97) rfl rfl
theorem tw_1_98 : Cond.fieldLink RX6 27 "PackDesk$PieceReader" "howMany" "I" ∈ allW := tw_of tw_in1 (i := 98) rfl rfl
theorem tw_1_99 : Cond.fieldLink RX10 190 "PackDesk$PieceReader" "howMany" "I" ∈ allW := tw_of tw_in1 (i := 99) rfl rfl
theorem tw_1_100 : Cond.fieldLink RX6 47 "PackDesk$PieceReader" "behind" "I" ∈ allW := tw_of tw_in1 (i := 100) rfl rfl
theorem tw_1_101 : Cond.fieldLink RX10 196 "PackDesk$PieceReader" "behind" "I" ∈ allW := tw_of tw_in1 (i := 101) rfl rfl
theorem tw_1_102 : Cond.lays RX6 "PackDesk$PieceReader" "ofKind" "I" ∈ allW := tw_of tw_in1 (i := 102) rfl rfl
theorem tw_1_104 : Cond.lays RX6 "PackDesk$PieceReader" "howMany" "I" ∈ allW := tw_of tw_in1 (i := 104) rfl rfl
theorem tw_1_106 : Cond.lays RX6 "PackDesk$PieceReader" "behind" "I" ∈ allW := tw_of tw_in1 (i := 106) rfl rfl
theorem tw_1_109 : Cond.fieldLink RX10 11 "PackDesk" "rows" "[LPackDesk$Row;" ∈ allW := tw_of tw_in1 (i := 109) rfl rfl
theorem tw_1_110 : Cond.fieldLink RX10 17 "PackDesk" "streams" "[LPackDesk$Stream;" ∈ allW := tw_of tw_in1 (i := 110) rfl rfl
theorem tw_1_111 : Cond.fieldLink RX10 23 "PackDesk" "houses" "[LPackDesk$House;" ∈ allW := tw_of tw_in1 (i := 111) rfl rfl
theorem tw_1_112 : Cond.fieldLink RX10 29 "PackDesk" "deltas" "[LPackDesk$Delta;" ∈ allW := tw_of tw_in1 (i := 112) rfl rfl
theorem tw_1_113 : Cond.fieldLink RX10 36 "PackDesk" "store" "LPackDesk$Store;" ∈ allW := tw_of tw_in1 (i := 113) rfl rfl
theorem tw_1_114 : Cond.fieldLink RX10 43 "PackDesk" "packer" "LPackDesk$Packer;" ∈ allW := tw_of tw_in1 (i := 114) rfl rfl
theorem tw_1_115 : Cond.fieldLink RX10 50 "PackDesk" "reader" "LPackDesk$PieceReader;" ∈ allW := tw_of tw_in1 (i := 115) rfl rfl
theorem tw_1_116 : Cond.fieldLink RX10 54 "PackDesk" "timesFound" "[I" ∈ allW := tw_of tw_in1 (i := 116) rfl rfl
theorem tw_1_117 : Cond.fieldLink RX10 62 "PackDesk" "rowsMade" "I" ∈ allW := tw_of tw_in1 (i := 117) rfl rfl
theorem tw_1_118 : Cond.fieldLink RX10 139 "PackDesk" "streamsMade" "I" ∈ allW := tw_of tw_in1 (i := 118) rfl rfl
theorem tw_1_119 : Cond.fieldLink RX10 199 "PackDesk" "housesMade" "I" ∈ allW := tw_of tw_in1 (i := 119) rfl rfl
theorem tw_1_120 : Cond.fieldLink RX10 256 "PackDesk" "deltasMade" "I" ∈ allW := tw_of tw_in1 (i := 120) rfl rfl
theorem tw_1_121 : Cond.fieldLink RX10 284 "PackDesk" "latestFinding" "I" ∈ allW := tw_of tw_in1 (i := 121) rfl rfl
theorem tw_1_122 : Cond.fieldLink RX10 98 "PackDesk" "whatWasSeen" "J" ∈ allW := tw_of tw_in1 (i := 122) rfl rfl
theorem tw_1_123 : Cond.laysFinal RX10 "PackDesk" "rows" "[LPackDesk$Row;" ∈ allW := tw_of tw_in1 (i := 123) rfl rfl
theorem tw_1_125 : Cond.laysFinal RX10 "PackDesk" "streams" "[LPackDesk$Stream;" ∈ allW := tw_of tw_in1 (i := 125) rfl rfl
theorem tw_1_127 : Cond.laysFinal RX10 "PackDesk" "houses" "[LPackDesk$House;" ∈ allW := tw_of tw_in1 (i := 127) rfl rfl
theorem tw_1_129 : Cond.laysFinal RX10 "PackDesk" "deltas" "[LPackDesk$Delta;" ∈ allW := tw_of tw_in1 (i := 129) rfl rfl
theorem tw_1_131 : Cond.laysFinal RX10 "PackDesk" "store" "LPackDesk$Store;" ∈ allW := tw_of tw_in1 (i := 131) rfl rfl
theorem tw_1_133 : Cond.laysFinal RX10 "PackDesk" "packer" "LPackDesk$Packer;" ∈ allW := tw_of tw_in1 (i := 133) rfl rfl
theorem tw_1_135 : Cond.laysFinal RX10 "PackDesk" "reader" "LPackDesk$PieceReader;" ∈ allW := tw_of tw_in1 (i := 135) rfl rfl
theorem tw_1_137 : Cond.laysFinal RX10 "PackDesk" "timesFound" "[I" ∈ allW := tw_of tw_in1 (i := 137) rfl rfl
theorem tw_1_139 : Cond.lays RX10 "PackDesk" "rowsMade" "I" ∈ allW := tw_of tw_in1 (i := 139) rfl rfl
theorem tw_1_141 : Cond.lays RX10 "PackDesk" "streamsMade" "I" ∈ allW := tw_of tw_in1 (i := 141) rfl rfl
theorem tw_1_143 : Cond.lays RX10 "PackDesk" "housesMade" "I" ∈ allW := tw_of tw_in1 (i := 143) rfl rfl
theorem tw_1_145 : Cond.lays RX10 "PackDesk" "deltasMade" "I" ∈ allW := tw_of tw_in1 (i := 145) rfl rfl
theorem tw_1_147 : Cond.lays RX10 "PackDesk" "latestFinding" "I" ∈ allW := tw_of tw_in1 (i := 147) rfl rfl
theorem tw_1_149 : Cond.lays RX10 "PackDesk" "whatWasSeen" "J" ∈ allW := tw_of tw_in1 (i := 149) rfl rfl
theorem tw_1_152 : Cond.arrayClass .int ∈ allW := tw_of tw_in1 (i := 152) rfl rfl
theorem tw_1_153 : Cond.methodLink RL 13 yX10_row ∈ allW := tw_of tw_in1 (i := 153) rfl rfl
theorem tw_1_154 : Cond.instanceMethod yX10_row ∈ allW := tw_of tw_in1 (i := 154) rfl rfl
theorem tw_1_155 : Cond.selects RX10 yX10_row yX10_row ∈ allW := tw_of tw_in1 (i := 155) rfl rfl
theorem tw_1_156 : Cond.code yX10_row cX10_row 3 (some .int) ∈ allW := tw_of tw_in1 (i := 156) rfl rfl
theorem tw_1_157 : Cond.methodLink RX10 58 yX10_isKind ∈ allW := tw_of tw_in1 (i := 157) rfl rfl
theorem tw_1_158 : Cond.static yX10_isKind ∈ allW := tw_of tw_in1 (i := 158) rfl rfl
theorem tw_1_159 : Cond.code yX10_isKind cX10_isKind 1 (some .boolean) ∈ allW := tw_of tw_in1 (i := 159) rfl rfl
theorem tw_1_160 : Cond.methodLink RX10 66 yX10_found ∈ allW := tw_of tw_in1 (i := 160) rfl rfl
theorem tw_1_162 : Cond.instanceMethod yX10_found ∈ allW := tw_of tw_in1 (i := 162) rfl rfl
theorem tw_1_163 : Cond.code yX10_found cX10_found 2 (some .int) ∈ allW := tw_of tw_in1 (i := 163) rfl rfl
theorem tw_1_164 : Cond.methodLink RX10 70 yX10_newRow ∈ allW := tw_of tw_in1 (i := 164) rfl rfl
theorem tw_1_166 : Cond.instanceMethod yX10_newRow ∈ allW := tw_of tw_in1 (i := 166) rfl rfl
theorem tw_1_167 : Cond.code yX10_newRow cX10_newRow 3 (some .int) ∈ allW := tw_of tw_in1 (i := 167) rfl rfl
theorem tw_1_168 : Cond.instantiable RX7 3 ∈ allW := tw_of tw_in1 (i := 168) rfl rfl
theorem tw_1_169 : Cond.methodLink RX10 311 yX7_init ∈ allW := tw_of tw_in1 (i := 169) rfl rfl
theorem tw_1_170 : Cond.instanceMethod yX7_init ∈ allW := tw_of tw_in1 (i := 170) rfl rfl
theorem tw_1_171 : Cond.code yX7_init cX7_init 3 (none : Option Jvm.ClassFile.FieldType) ∈ allW := tw_of tw_in1 (i := 171) rfl rfl
theorem tw_1_172 : Cond.methodLink RX7 1 objectInit ∈ allW := tw_of tw_in1 (i := 172) rfl rfl
theorem tw_1_173 : Cond.fieldLink RX7 7 "PackDesk$Row" "ofKind" "I" ∈ allW := tw_of tw_in1 (i := 173) rfl rfl
theorem tw_1_174 : Cond.fieldLink RX10 86 "PackDesk$Row" "ofKind" "I" ∈ allW := tw_of tw_in1 (i := 174) rfl rfl
theorem tw_1_175 : Cond.fieldLink RX7 13 "PackDesk$Row" "numbers" "[J" ∈ allW := tw_of tw_in1 (i := 175) rfl rfl
theorem tw_1_176 : Cond.fieldLink RX10 82 "PackDesk$Row" "numbers" "[J" ∈ allW := tw_of tw_in1 (i := 176) rfl rfl
theorem tw_1_177 : Cond.fieldLink RX10 78 "PackDesk$Row" "lost" "Z" ∈ allW := tw_of tw_in1 (i := 177) rfl rfl
theorem tw_1_178 : Cond.laysFinal RX7 "PackDesk$Row" "ofKind" "I" ∈ allW := tw_of tw_in1 (i := 178) rfl rfl
theorem tw_1_180 : Cond.laysFinal RX7 "PackDesk$Row" "numbers" "[J" ∈ allW := tw_of tw_in1 (i := 180) rfl rfl
theorem tw_1_182 : Cond.lays RX7 "PackDesk$Row" "lost" "Z" ∈ allW := tw_of tw_in1 (i := 182) rfl rfl
theorem tw_1_185 : Cond.methodLink RL 18 yX10_lose ∈ allW := tw_of tw_in1 (i := 185) rfl rfl
theorem tw_1_186 : Cond.instanceMethod yX10_lose ∈ allW := tw_of tw_in1 (i := 186) rfl rfl
theorem tw_1_187 : Cond.selects RX10 yX10_lose yX10_lose ∈ allW := tw_of tw_in1 (i := 187) rfl rfl
theorem tw_1_188 : Cond.code yX10_lose cX10_lose 3 (some .int) ∈ allW := tw_of tw_in1 (i := 188) rfl rfl
theorem tw_1_189 : Cond.methodLink RX10 74 yX10_rowNumbered ∈ allW := tw_of tw_in1 (i := 189) rfl rfl
theorem tw_1_191 : Cond.instanceMethod yX10_rowNumbered ∈ allW := tw_of tw_in1 (i := 191) rfl rfl
theorem tw_1_192 : Cond.code yX10_rowNumbered cX10_rowNumbered 2 (some (.object "PackDesk$Row")) ∈ allW := tw_of tw_in1 (i := 192) rfl rfl
theorem tw_1_193 : Cond.methodLink RL 23 yX10_kind ∈ allW := tw_of tw_in1 (i := 193) rfl rfl
theorem tw_1_194 : Cond.instanceMethod yX10_kind ∈ allW := tw_of tw_in1 (i := 194) rfl rfl
theorem tw_1_195 : Cond.selects RX10 yX10_kind yX10_kind ∈ allW := tw_of tw_in1 (i := 195) rfl rfl
theorem tw_1_196 : Cond.code yX10_kind cX10_kind 3 (some .int) ∈ allW := tw_of tw_in1 (i := 196) rfl rfl
theorem tw_1_197 : Cond.methodLink RL 27 yX10_length ∈ allW := tw_of tw_in1 (i := 197) rfl rfl
theorem tw_1_198 : Cond.instanceMethod yX10_length ∈ allW := tw_of tw_in1 (i := 198) rfl rfl
theorem tw_1_199 : Cond.selects RX10 yX10_length yX10_length ∈ allW := tw_of tw_in1 (i := 199) rfl rfl
theorem tw_1_200 : Cond.code yX10_length cX10_length 3 (some .int) ∈ allW := tw_of tw_in1 (i := 200) rfl rfl
theorem tw_1_201 : Cond.methodLink RL 33 yX10_put ∈ allW := tw_of tw_in1 (i := 201) rfl rfl
theorem tw_1_202 : Cond.instanceMethod yX10_put ∈ allW := tw_of tw_in1 (i := 202) rfl rfl
theorem tw_1_203 : Cond.selects RX10 yX10_put yX10_put ∈ allW := tw_of tw_in1 (i := 203) rfl rfl
theorem tw_1_204 : Cond.code yX10_put cX10_put 6 (some .int) ∈ allW := tw_of tw_in1 (i := 204) rfl rfl
theorem tw_1_205 : Cond.methodLink RX10 89 yX7_has ∈ allW := tw_of tw_in1 (i := 205) rfl rfl
theorem tw_1_206 : Cond.instanceMethod yX7_has ∈ allW := tw_of tw_in1 (i := 206) rfl rfl
theorem tw_1_207 : Cond.selects RX7 yX7_has yX7_has ∈ allW := tw_of tw_in1 (i := 207) rfl rfl
theorem tw_1_208 : Cond.code yX7_has cX7_has 2 (some .boolean) ∈ allW := tw_of tw_in1 (i := 208) rfl rfl
theorem tw_1_209 : Cond.methodLink RX10 92 yX4_told ∈ allW := tw_of tw_in1 (i := 209) rfl rfl
theorem tw_1_210 : Cond.static yX4_told ∈ allW := tw_of tw_in1 (i := 210) rfl rfl
theorem tw_1_211 : Cond.code yX4_told cX4_told 3 (some .long) ∈ allW := tw_of tw_in1 (i := 211) rfl rfl
theorem tw_1_212 : Cond.methodLink RX4 9 yX2_orGap ∈ allW := tw_of tw_in1 (i := 212) rfl rfl
theorem tw_1_213 : Cond.static yX2_orGap ∈ allW := tw_of tw_in1 (i := 213) rfl rfl
theorem tw_1_214 : Cond.code yX2_orGap cX2_orGap 3 (some .long) ∈ allW := tw_of tw_in1 (i := 214) rfl rfl
theorem tw_1_215 : Cond.methodLink RX2 34 yX2_sizeOf ∈ allW := tw_of tw_in1 (i := 215) rfl rfl
theorem tw_1_216 : Cond.static yX2_sizeOf ∈ allW := tw_of tw_in1 (i := 216) rfl rfl
theorem tw_1_217 : Cond.code yX2_sizeOf cX2_sizeOf 3 (some .long) ∈ allW := tw_of tw_in1 (i := 217) rfl rfl
theorem tw_1_218 : Cond.constantLong RX2 26 (2147483647 : Int64) ∈ allW := tw_of tw_in1 (i := 218) rfl rfl
theorem tw_1_219 : Cond.constantLong RX2 28 (9223372036854775807 : Int64) ∈ allW := tw_of tw_in1 (i := 219) rfl rfl
theorem tw_1_220 : Cond.methodLink RX2 38 yX2_endless ∈ allW := tw_of tw_in1 (i := 220) rfl rfl
theorem tw_1_221 : Cond.static yX2_endless ∈ allW := tw_of tw_in1 (i := 221) rfl rfl
theorem tw_1_222 : Cond.code yX2_endless cX2_endless 1 (some .long) ∈ allW := tw_of tw_in1 (i := 222) rfl rfl
theorem tw_1_223 : Cond.constantLong RX2 13 (2139095040 : Int64) ∈ allW := tw_of tw_in1 (i := 223) rfl rfl
theorem tw_1_224 : Cond.constantLong RX2 15 (9218868437227405312 : Int64) ∈ allW := tw_of tw_in1 (i := 224) rfl rfl
theorem tw_1_225 : Cond.constantLong RX2 41 (2143289344 : Int64) ∈ allW := tw_of tw_in1 (i := 225) rfl rfl
theorem tw_1_226 : Cond.constantLong RX2 43 (9221120237041090560 : Int64) ∈ allW := tw_of tw_in1 (i := 226) rfl rfl
theorem tw_1_227 : Cond.methodLink RL 38 yX10_get ∈ allW := tw_of tw_in1 (i := 227) rfl rfl
theorem tw_1_228 : Cond.instanceMethod yX10_get ∈ allW := tw_of tw_in1 (i := 228) rfl rfl
theorem tw_1_229 : Cond.selects RX10 yX10_get yX10_get ∈ allW := tw_of tw_in1 (i := 229) rfl rfl
theorem tw_1_230 : Cond.code yX10_get cX10_get 4 (some .int) ∈ allW := tw_of tw_in1 (i := 230) rfl rfl
theorem tw_1_231 : Cond.methodLink RL 42 yX10_copy ∈ allW := tw_of tw_in1 (i := 231) rfl rfl
theorem tw_1_232 : Cond.instanceMethod yX10_copy ∈ allW := tw_of tw_in1 (i := 232) rfl rfl
theorem tw_1_233 : Cond.selects RX10 yX10_copy yX10_copy ∈ allW := tw_of tw_in1 (i := 233) rfl rfl
theorem tw_1_234 : Cond.code yX10_copy cX10_copy 8 (some .int) ∈ allW := tw_of tw_in1 (i := 234) rfl rfl
theorem tw_1_235 : Cond.methodLink RX10 102 yX7_hasStretch ∈ allW := tw_of tw_in1 (i := 235) rfl rfl
theorem tw_1_236 : Cond.instanceMethod yX7_hasStretch ∈ allW := tw_of tw_in1 (i := 236) rfl rfl
theorem tw_1_237 : Cond.selects RX7 yX7_hasStretch yX7_hasStretch ∈ allW := tw_of tw_in1 (i := 237) rfl rfl
theorem tw_1_238 : Cond.code yX7_hasStretch cX7_hasStretch 3 (some .boolean) ∈ allW := tw_of tw_in1 (i := 238) rfl rfl
theorem tw_1_239 : Cond.methodLink RX10 106 arraycopyName ∈ allW := tw_of tw_in1 (i := 239) rfl rfl
theorem tw_2_0 : Cond.static arraycopyName ∈ allW := tw_of tw_in2 (i := 0) rfl rfl
theorem tw_2_1 : Cond.native arraycopyName ∈ allW := tw_of tw_in2 (i := 1) rfl rfl
theorem tw_2_2 : Cond.methodLink RL 47 yX10_compare ∈ allW := tw_of tw_in2 (i := 2) rfl rfl
theorem tw_2_3 : Cond.instanceMethod yX10_compare ∈ allW := tw_of tw_in2 (i := 3) rfl rfl
theorem tw_2_4 : Cond.selects RX10 yX10_compare yX10_compare ∈ allW := tw_of tw_in2 (i := 4) rfl rfl
theorem tw_2_5 : Cond.code yX10_compare cX10_compare 5 (some .int) ∈ allW := tw_of tw_in2 (i := 5) rfl rfl
theorem tw_2_6 : Cond.methodLink RX10 112 yX4_compared ∈ allW := tw_of tw_in2 (i := 6) rfl rfl
theorem tw_2_7 : Cond.static yX4_compared ∈ allW := tw_of tw_in2 (i := 7) rfl rfl
theorem tw_2_8 : Cond.code yX4_compared cX4_compared 6 (some .int) ∈ allW := tw_of tw_in2 (i := 8) rfl rfl
theorem tw_2_9 : Cond.methodLink RX4 27 yX4_isGap ∈ allW := tw_of tw_in2 (i := 9) rfl rfl
theorem tw_2_10 : Cond.static yX4_isGap ∈ allW := tw_of tw_in2 (i := 10) rfl rfl
theorem tw_2_11 : Cond.code yX4_isGap cX4_isGap 3 (some .boolean) ∈ allW := tw_of tw_in2 (i := 11) rfl rfl
theorem tw_2_12 : Cond.methodLink RX4 15 yX4_areFloating ∈ allW := tw_of tw_in2 (i := 12) rfl rfl
theorem tw_2_13 : Cond.static yX4_areFloating ∈ allW := tw_of tw_in2 (i := 13) rfl rfl
theorem tw_2_14 : Cond.code yX4_areFloating cX4_areFloating 1 (some .boolean) ∈ allW := tw_of tw_in2 (i := 14) rfl rfl
theorem tw_2_15 : Cond.methodLink RX4 21 yX2_isNone ∈ allW := tw_of tw_in2 (i := 15) rfl rfl
theorem tw_2_16 : Cond.static yX2_isNone ∈ allW := tw_of tw_in2 (i := 16) rfl rfl
theorem tw_2_17 : Cond.code yX2_isNone cX2_isNone 3 (some .boolean) ∈ allW := tw_of tw_in2 (i := 17) rfl rfl
theorem tw_2_18 : Cond.methodLink RX4 30 yX4_unsignedZero ∈ allW := tw_of tw_in2 (i := 18) rfl rfl
theorem tw_2_19 : Cond.static yX4_unsignedZero ∈ allW := tw_of tw_in2 (i := 19) rfl rfl
theorem tw_2_20 : Cond.code yX4_unsignedZero cX4_unsignedZero 3 (some .long) ∈ allW := tw_of tw_in2 (i := 20) rfl rfl
theorem tw_2_21 : Cond.methodLink RX4 42 yX2_signBit ∈ allW := tw_of tw_in2 (i := 21) rfl rfl
theorem tw_2_22 : Cond.static yX2_signBit ∈ allW := tw_of tw_in2 (i := 22) rfl rfl
theorem tw_2_23 : Cond.code yX2_signBit cX2_signBit 1 (some .long) ∈ allW := tw_of tw_in2 (i := 23) rfl rfl
theorem tw_2_24 : Cond.constantLong RX2 9 (-2147483648 : Int64) ∈ allW := tw_of tw_in2 (i := 24) rfl rfl
theorem tw_2_25 : Cond.constantLong RX2 11 (-9223372036854775808 : Int64) ∈ allW := tw_of tw_in2 (i := 25) rfl rfl
theorem tw_2_26 : Cond.methodLink RX4 33 yX4_rank ∈ allW := tw_of tw_in2 (i := 26) rfl rfl
theorem tw_2_27 : Cond.static yX4_rank ∈ allW := tw_of tw_in2 (i := 27) rfl rfl
theorem tw_2_28 : Cond.code yX4_rank cX4_rank 3 (some .long) ∈ allW := tw_of tw_in2 (i := 28) rfl rfl
theorem tw_2_29 : Cond.constantLong RX4 25 (9223372036854775807 : Int64) ∈ allW := tw_of tw_in2 (i := 29) rfl rfl
theorem tw_2_30 : Cond.methodLink RX4 36 yJ13_compare_74951 ∈ allW := tw_of tw_in2 (i := 30) rfl rfl
theorem tw_2_31 : Cond.static yJ13_compare_74951 ∈ allW := tw_of tw_in2 (i := 31) rfl rfl
theorem tw_2_32 : Cond.code yJ13_compare_74951 cJ13_compare_74951 4 (some .int) ∈ allW := tw_of tw_in2 (i := 32) rfl rfl
theorem tw_2_33 : Cond.methodLink RL 52 yX10_shape ∈ allW := tw_of tw_in2 (i := 33) rfl rfl
theorem tw_2_34 : Cond.instanceMethod yX10_shape ∈ allW := tw_of tw_in2 (i := 34) rfl rfl
theorem tw_2_35 : Cond.selects RX10 yX10_shape yX10_shape ∈ allW := tw_of tw_in2 (i := 35) rfl rfl
theorem tw_2_36 : Cond.code yX10_shape cX10_shape 5 (some .int) ∈ allW := tw_of tw_in2 (i := 36) rfl rfl
theorem tw_2_37 : Cond.methodLink RX10 116 yX4_areFloating ∈ allW := tw_of tw_in2 (i := 37) rfl rfl
theorem tw_2_38 : Cond.methodLink RX10 119 yX4_shaped ∈ allW := tw_of tw_in2 (i := 38) rfl rfl
theorem tw_2_39 : Cond.static yX4_shaped ∈ allW := tw_of tw_in2 (i := 39) rfl rfl
theorem tw_2_40 : Cond.code yX4_shaped cX4_shaped 4 (some .long) ∈ allW := tw_of tw_in2 (i := 40) rfl rfl
theorem tw_2_41 : Cond.methodLink RX4 46 yX4_turned ∈ allW := tw_of tw_in2 (i := 41) rfl rfl
theorem tw_2_42 : Cond.static yX4_turned ∈ allW := tw_of tw_in2 (i := 42) rfl rfl
theorem tw_2_43 : Cond.code yX4_turned cX4_turned 3 (some .long) ∈ allW := tw_of tw_in2 (i := 43) rfl rfl
theorem tw_2_44 : Cond.methodLink RX4 56 yX4_told ∈ allW := tw_of tw_in2 (i := 44) rfl rfl
theorem tw_2_45 : Cond.methodLink RX4 49 yX2_signOf ∈ allW := tw_of tw_in2 (i := 45) rfl rfl
theorem tw_2_46 : Cond.static yX2_signOf ∈ allW := tw_of tw_in2 (i := 46) rfl rfl
theorem tw_2_47 : Cond.code yX2_signOf cX2_signOf 3 (some .long) ∈ allW := tw_of tw_in2 (i := 47) rfl rfl
theorem tw_2_48 : Cond.methodLink RX2 45 yX2_oneOf ∈ allW := tw_of tw_in2 (i := 48) rfl rfl
theorem tw_2_49 : Cond.static yX2_oneOf ∈ allW := tw_of tw_in2 (i := 49) rfl rfl
theorem tw_2_50 : Cond.code yX2_oneOf cX2_oneOf 1 (some .long) ∈ allW := tw_of tw_in2 (i := 50) rfl rfl
theorem tw_2_51 : Cond.methodLink RX2 17 yX2_bias ∈ allW := tw_of tw_in2 (i := 51) rfl rfl
theorem tw_2_52 : Cond.static yX2_bias ∈ allW := tw_of tw_in2 (i := 52) rfl rfl
theorem tw_2_53 : Cond.code yX2_bias cX2_bias 1 (some .int) ∈ allW := tw_of tw_in2 (i := 53) rfl rfl
theorem tw_2_54 : Cond.methodLink RX2 23 yX2_fractionBits ∈ allW := tw_of tw_in2 (i := 54) rfl rfl
theorem tw_2_55 : Cond.static yX2_fractionBits ∈ allW := tw_of tw_in2 (i := 55) rfl rfl
theorem tw_2_56 : Cond.code yX2_fractionBits cX2_fractionBits 1 (some .int) ∈ allW := tw_of tw_in2 (i := 56) rfl rfl
theorem tw_2_57 : Cond.methodLink RX2 48 yX2_withSign ∈ allW := tw_of tw_in2 (i := 57) rfl rfl
theorem tw_2_58 : Cond.static yX2_withSign ∈ allW := tw_of tw_in2 (i := 58) rfl rfl
theorem tw_2_59 : Cond.code yX2_withSign cX2_withSign 4 (some .long) ∈ allW := tw_of tw_in2 (i := 59) rfl rfl
theorem tw_2_60 : Cond.methodLink RX2 30 yX2_signBit ∈ allW := tw_of tw_in2 (i := 60) rfl rfl
theorem tw_2_61 : Cond.methodLink RX4 52 yX2_rounded ∈ allW := tw_of tw_in2 (i := 61) rfl rfl
theorem tw_2_62 : Cond.static yX2_rounded ∈ allW := tw_of tw_in2 (i := 62) rfl rfl
theorem tw_2_63 : Cond.code yX2_rounded cX2_rounded 15 (some .long) ∈ allW := tw_of tw_in2 (i := 63) rfl rfl
theorem tw_2_64 : Cond.methodLink RX2 52 yX2_halfOf ∈ allW := tw_of tw_in2 (i := 64) rfl rfl
theorem tw_2_65 : Cond.static yX2_halfOf ∈ allW := tw_of tw_in2 (i := 65) rfl rfl
theorem tw_2_66 : Cond.code yX2_halfOf cX2_halfOf 1 (some .long) ∈ allW := tw_of tw_in2 (i := 66) rfl rfl
theorem tw_2_67 : Cond.methodLink RX2 55 yJ13_compare_74951 ∈ allW := tw_of tw_in2 (i := 67) rfl rfl
theorem tw_2_68 : Cond.methodLink RX2 61 yX2_goesUp ∈ allW := tw_of tw_in2 (i := 68) rfl rfl
theorem tw_2_69 : Cond.static yX2_goesUp ∈ allW := tw_of tw_in2 (i := 69) rfl rfl
theorem tw_2_70 : Cond.code yX2_goesUp cX2_goesUp 4 (some .boolean) ∈ allW := tw_of tw_in2 (i := 70) rfl rfl
theorem tw_2_71 : Cond.methodLink RL 56 yX10_rest ∈ allW := tw_of tw_in2 (i := 71) rfl rfl
theorem tw_2_72 : Cond.instanceMethod yX10_rest ∈ allW := tw_of tw_in2 (i := 72) rfl rfl
theorem tw_2_73 : Cond.selects RX10 yX10_rest yX10_rest ∈ allW := tw_of tw_in2 (i := 73) rfl rfl
theorem tw_2_74 : Cond.code yX10_rest cX10_rest 5 (some .int) ∈ allW := tw_of tw_in2 (i := 74) rfl rfl
theorem tw_2_75 : Cond.methodLink RX10 123 yX4_leaveRest ∈ allW := tw_of tw_in2 (i := 75) rfl rfl
theorem tw_2_76 : Cond.static yX4_leaveRest ∈ allW := tw_of tw_in2 (i := 76) rfl rfl
theorem tw_2_77 : Cond.code yX4_leaveRest cX4_leaveRest 5 (some .boolean) ∈ allW := tw_of tw_in2 (i := 77) rfl rfl
theorem tw_2_78 : Cond.methodLink RX4 59 yX2_leaveRest ∈ allW := tw_of tw_in2 (i := 78) rfl rfl
theorem tw_2_79 : Cond.static yX2_leaveRest ∈ allW := tw_of tw_in2 (i := 79) rfl rfl
theorem tw_2_80 : Cond.code yX2_leaveRest cX2_leaveRest 5 (some .boolean) ∈ allW := tw_of tw_in2 (i := 80) rfl rfl
theorem tw_2_81 : Cond.methodLink RX2 65 yX2_isNone ∈ allW := tw_of tw_in2 (i := 81) rfl rfl
theorem tw_2_82 : Cond.methodLink RX10 127 yX4_restOf ∈ allW := tw_of tw_in2 (i := 82) rfl rfl
theorem tw_2_83 : Cond.static yX4_restOf ∈ allW := tw_of tw_in2 (i := 83) rfl rfl
theorem tw_2_84 : Cond.code yX4_restOf cX4_restOf 5 (some .long) ∈ allW := tw_of tw_in2 (i := 84) rfl rfl
theorem tw_2_85 : Cond.methodLink RX4 63 yX2_restOf ∈ allW := tw_of tw_in2 (i := 85) rfl rfl
theorem tw_2_86 : Cond.static yX2_restOf ∈ allW := tw_of tw_in2 (i := 86) rfl rfl
theorem tw_2_87 : Cond.code yX2_restOf cX2_restOf 16 (some .long) ∈ allW := tw_of tw_in2 (i := 87) rfl rfl
theorem tw_2_88 : Cond.methodLink RX2 69 yX2_scaledFraction ∈ allW := tw_of tw_in2 (i := 88) rfl rfl
theorem tw_2_89 : Cond.static yX2_scaledFraction ∈ allW := tw_of tw_in2 (i := 89) rfl rfl
theorem tw_2_90 : Cond.code yX2_scaledFraction cX2_scaledFraction 7 (some .long) ∈ allW := tw_of tw_in2 (i := 90) rfl rfl
theorem tw_2_91 : Cond.methodLink RX2 72 yX2_scaleOf ∈ allW := tw_of tw_in2 (i := 91) rfl rfl
theorem tw_2_92 : Cond.static yX2_scaleOf ∈ allW := tw_of tw_in2 (i := 92) rfl rfl
theorem tw_2_93 : Cond.code yX2_scaleOf cX2_scaleOf 3 (some .int) ∈ allW := tw_of tw_in2 (i := 93) rfl rfl
theorem tw_2_94 : Cond.methodLink RX2 86 yJ9_max_7cf53 ∈ allW := tw_of tw_in2 (i := 94) rfl rfl
theorem tw_2_95 : Cond.static yJ9_max_7cf53 ∈ allW := tw_of tw_in2 (i := 95) rfl rfl
theorem tw_2_96 : Cond.code yJ9_max_7cf53 cJ9_max_7cf53 2 (some .int) ∈ allW := tw_of tw_in2 (i := 96) rfl rfl
theorem tw_2_97 : Cond.methodLink RX2 76 yJ9_min_7cf53 ∈ allW := tw_of tw_in2 (i := 97) rfl rfl
theorem tw_2_98 : Cond.static yJ9_min_7cf53 ∈ allW := tw_of tw_in2 (i := 98) rfl rfl
theorem tw_2_99 : Cond.code yJ9_min_7cf53 cJ9_min_7cf53 2 (some .int) ∈ allW := tw_of tw_in2 (i := 99) rfl rfl
theorem tw_2_100 : Cond.methodLink RX2 82 yX2_sizeFrom ∈ allW := tw_of tw_in2 (i := 100) rfl rfl
theorem tw_2_101 : Cond.static yX2_sizeFrom ∈ allW := tw_of tw_in2 (i := 101) rfl rfl
theorem tw_2_102 : Cond.code yX2_sizeFrom cX2_sizeFrom 8 (some .long) ∈ allW := tw_of tw_in2 (i := 102) rfl rfl
theorem tw_2_103 : Cond.methodLink RL 60 yX10_most ∈ allW := tw_of tw_in2 (i := 103) rfl rfl
theorem tw_2_104 : Cond.instanceMethod yX10_most ∈ allW := tw_of tw_in2 (i := 104) rfl rfl
theorem tw_2_105 : Cond.selects RX10 yX10_most yX10_most ∈ allW := tw_of tw_in2 (i := 105) rfl rfl
theorem tw_2_106 : Cond.code yX10_most cX10_most 5 (some .int) ∈ allW := tw_of tw_in2 (i := 106) rfl rfl
theorem tw_2_107 : Cond.methodLink RX10 131 yX7_gaps ∈ allW := tw_of tw_in2 (i := 107) rfl rfl
theorem tw_2_108 : Cond.instanceMethod yX7_gaps ∈ allW := tw_of tw_in2 (i := 108) rfl rfl
theorem tw_2_109 : Cond.selects RX7 yX7_gaps yX7_gaps ∈ allW := tw_of tw_in2 (i := 109) rfl rfl
theorem tw_2_110 : Cond.code yX7_gaps cX7_gaps 7 (some .int) ∈ allW := tw_of tw_in2 (i := 110) rfl rfl
theorem tw_2_111 : Cond.methodLink RX7 17 yX4_isGap ∈ allW := tw_of tw_in2 (i := 111) rfl rfl
theorem tw_2_112 : Cond.methodLink RX10 135 yX7_utmost ∈ allW := tw_of tw_in2 (i := 112) rfl rfl
theorem tw_2_113 : Cond.instanceMethod yX7_utmost ∈ allW := tw_of tw_in2 (i := 113) rfl rfl
theorem tw_2_114 : Cond.selects RX7 yX7_utmost yX7_utmost ∈ allW := tw_of tw_in2 (i := 114) rfl rfl
theorem tw_2_115 : Cond.code yX7_utmost cX7_utmost 11 (some .long) ∈ allW := tw_of tw_in2 (i := 115) rfl rfl
theorem tw_2_116 : Cond.methodLink RX7 23 yX4_rank ∈ allW := tw_of tw_in2 (i := 116) rfl rfl
theorem tw_2_117 : Cond.methodLink RL 64 yX10_seen ∈ allW := tw_of tw_in2 (i := 117) rfl rfl
theorem tw_2_118 : Cond.instanceMethod yX10_seen ∈ allW := tw_of tw_in2 (i := 118) rfl rfl
theorem tw_2_119 : Cond.selects RX10 yX10_seen yX10_seen ∈ allW := tw_of tw_in2 (i := 119) rfl rfl
theorem tw_2_120 : Cond.code yX10_seen cX10_seen 1 (some .long) ∈ allW := tw_of tw_in2 (i := 120) rfl rfl
theorem tw_2_121 : Cond.methodLink RL 69 yX10_stream ∈ allW := tw_of tw_in2 (i := 121) rfl rfl
theorem tw_2_122 : Cond.instanceMethod yX10_stream ∈ allW := tw_of tw_in2 (i := 122) rfl rfl
theorem tw_2_123 : Cond.selects RX10 yX10_stream yX10_stream ∈ allW := tw_of tw_in2 (i := 123) rfl rfl
theorem tw_2_124 : Cond.code yX10_stream cX10_stream 1 (some .int) ∈ allW := tw_of tw_in2 (i := 124) rfl rfl
theorem tw_2_125 : Cond.methodLink RX10 142 yX10_newStream ∈ allW := tw_of tw_in2 (i := 125) rfl rfl
theorem tw_2_127 : Cond.instanceMethod yX10_newStream ∈ allW := tw_of tw_in2 (i := 127) rfl rfl
theorem tw_2_128 : Cond.code yX10_newStream cX10_newStream 1 (some .int) ∈ allW := tw_of tw_in2 (i := 128) rfl rfl
theorem tw_2_129 : Cond.instantiable RX9 4 ∈ allW := tw_of tw_in2 (i := 129) rfl rfl
theorem tw_2_131 : Cond.instanceMethod yX9_init ∈ allW := tw_of tw_in2 (i := 131) rfl rfl
theorem tw_2_132 : Cond.code yX9_init cX9_init 1 (none : Option Jvm.ClassFile.FieldType) ∈ allW := tw_of tw_in2 (i := 132) rfl rfl
theorem tw_2_133 : Cond.methodLink RX9 3 objectInit ∈ allW := tw_of tw_in2 (i := 133) rfl rfl
theorem tw_2_134 : Cond.fieldLink RX9 9 "PackDesk$Stream" "bytes" "[B" ∈ allW := tw_of tw_in2 (i := 134) rfl rfl
theorem tw_2_135 : Cond.fieldLink RX8 36 "PackDesk$Stream" "bytes" "[B" ∈ allW := tw_of tw_in2 (i := 135) rfl rfl
theorem tw_2_136 : Cond.fieldLink RX1 66 "PackDesk$Stream" "bytes" "[B" ∈ allW := tw_of tw_in2 (i := 136) rfl rfl
theorem tw_2_137 : Cond.fieldLink RX10 181 "PackDesk$Stream" "bytes" "[B" ∈ allW := tw_of tw_in2 (i := 137) rfl rfl
theorem tw_2_138 : Cond.fieldLink RX1 9 "PackDesk$Stream" "size" "I" ∈ allW := tw_of tw_in2 (i := 138) rfl rfl
theorem tw_2_139 : Cond.fieldLink RX6 9 "PackDesk$Stream" "size" "I" ∈ allW := tw_of tw_in2 (i := 139) rfl rfl
theorem tw_2_140 : Cond.fieldLink RX9 15 "PackDesk$Stream" "size" "I" ∈ allW := tw_of tw_in2 (i := 140) rfl rfl
theorem tw_2_141 : Cond.fieldLink RX8 21 "PackDesk$Stream" "size" "I" ∈ allW := tw_of tw_in2 (i := 141) rfl rfl
theorem tw_2_142 : Cond.fieldLink RX10 159 "PackDesk$Stream" "size" "I" ∈ allW := tw_of tw_in2 (i := 142) rfl rfl
theorem tw_2_143 : Cond.fieldLink RX10 171 "PackDesk$Stream" "place" "I" ∈ allW := tw_of tw_in2 (i := 143) rfl rfl
theorem tw_2_144 : Cond.fieldLink RX10 152 "PackDesk$Stream" "ended" "Z" ∈ allW := tw_of tw_in2 (i := 144) rfl rfl
theorem tw_2_145 : Cond.laysFinal RX9 "PackDesk$Stream" "bytes" "[B" ∈ allW := tw_of tw_in2 (i := 145) rfl rfl
theorem tw_2_147 : Cond.lays RX9 "PackDesk$Stream" "size" "I" ∈ allW := tw_of tw_in2 (i := 147) rfl rfl
theorem tw_2_149 : Cond.lays RX9 "PackDesk$Stream" "place" "I" ∈ allW := tw_of tw_in2 (i := 149) rfl rfl
theorem tw_2_151 : Cond.lays RX9 "PackDesk$Stream" "ended" "Z" ∈ allW := tw_of tw_in2 (i := 151) rfl rfl
theorem tw_2_154 : Cond.methodLink RL 74 yX10_write ∈ allW := tw_of tw_in2 (i := 154) rfl rfl
theorem tw_2_155 : Cond.instanceMethod yX10_write ∈ allW := tw_of tw_in2 (i := 155) rfl rfl
theorem tw_2_156 : Cond.selects RX10 yX10_write yX10_write ∈ allW := tw_of tw_in2 (i := 156) rfl rfl
theorem tw_2_157 : Cond.code yX10_write cX10_write 6 (some .int) ∈ allW := tw_of tw_in2 (i := 157) rfl rfl
theorem tw_2_158 : Cond.methodLink RX10 145 yX10_streamNumbered ∈ allW := tw_of tw_in2 (i := 158) rfl rfl
theorem tw_2_160 : Cond.instanceMethod yX10_streamNumbered ∈ allW := tw_of tw_in2 (i := 160) rfl rfl
theorem tw_2_161 : Cond.code yX10_streamNumbered cX10_streamNumbered 2 (some (.object "PackDesk$Stream")) ∈ allW := tw_of tw_in2 (i := 161) rfl rfl
theorem tw_2_162 : Cond.methodLink RX10 149 yX10_isCoder ∈ allW := tw_of tw_in2 (i := 162) rfl rfl
theorem tw_2_163 : Cond.static yX10_isCoder ∈ allW := tw_of tw_in2 (i := 163) rfl rfl
theorem tw_2_164 : Cond.code yX10_isCoder cX10_isCoder 1 (some .boolean) ∈ allW := tw_of tw_in2 (i := 164) rfl rfl
theorem tw_2_165 : Cond.methodLink RX10 155 yX5_pack ∈ allW := tw_of tw_in2 (i := 165) rfl rfl
theorem tw_2_166 : Cond.instanceMethod yX5_pack ∈ allW := tw_of tw_in2 (i := 166) rfl rfl
theorem tw_2_167 : Cond.selects RX5 yX5_pack yX5_pack ∈ allW := tw_of tw_in2 (i := 167) rfl rfl
theorem tw_2_168 : Cond.code yX5_pack cX5_pack 5 (none : Option Jvm.ClassFile.FieldType) ∈ allW := tw_of tw_in2 (i := 168) rfl rfl
theorem tw_2_169 : Cond.methodLink RX5 26 arraycopyName ∈ allW := tw_of tw_in2 (i := 169) rfl rfl
theorem tw_2_170 : Cond.methodLink RX5 32 yX5_makeSteps ∈ allW := tw_of tw_in2 (i := 170) rfl rfl
theorem tw_2_172 : Cond.instanceMethod yX5_makeSteps ∈ allW := tw_of tw_in2 (i := 172) rfl rfl
theorem tw_2_173 : Cond.code yX5_makeSteps cX5_makeSteps 3 (none : Option Jvm.ClassFile.FieldType) ∈ allW := tw_of tw_in2 (i := 173) rfl rfl
theorem tw_2_174 : Cond.methodLink RX5 36 yX5_packRuns ∈ allW := tw_of tw_in2 (i := 174) rfl rfl
theorem tw_2_176 : Cond.instanceMethod yX5_packRuns ∈ allW := tw_of tw_in2 (i := 176) rfl rfl
theorem tw_2_177 : Cond.code yX5_packRuns cX5_packRuns 4 (none : Option Jvm.ClassFile.FieldType) ∈ allW := tw_of tw_in2 (i := 177) rfl rfl
theorem tw_2_178 : Cond.methodLink RX5 42 yX5_packPlain ∈ allW := tw_of tw_in2 (i := 178) rfl rfl
theorem tw_2_180 : Cond.instanceMethod yX5_packPlain ∈ allW := tw_of tw_in2 (i := 180) rfl rfl
theorem tw_2_181 : Cond.code yX5_packPlain cX5_packPlain 6 (none : Option Jvm.ClassFile.FieldType) ∈ allW := tw_of tw_in2 (i := 181) rfl rfl
theorem tw_2_182 : Cond.constantLong RX5 46 (127 : Int64) ∈ allW := tw_of tw_in2 (i := 182) rfl rfl
theorem tw_2_183 : Cond.constantLong RX5 48 (128 : Int64) ∈ allW := tw_of tw_in2 (i := 183) rfl rfl
theorem tw_2_184 : Cond.methodLink RX5 50 yX5_packByte ∈ allW := tw_of tw_in2 (i := 184) rfl rfl
theorem tw_2_186 : Cond.instanceMethod yX5_packByte ∈ allW := tw_of tw_in2 (i := 186) rfl rfl
theorem tw_2_187 : Cond.code yX5_packByte cX5_packByte 3 (none : Option Jvm.ClassFile.FieldType) ∈ allW := tw_of tw_in2 (i := 187) rfl rfl
theorem tw_2_188 : Cond.methodLink RX5 39 yX5_packWide ∈ allW := tw_of tw_in2 (i := 188) rfl rfl
theorem tw_2_190 : Cond.instanceMethod yX5_packWide ∈ allW := tw_of tw_in2 (i := 190) rfl rfl
theorem tw_2_191 : Cond.code yX5_packWide cX5_packWide 5 (none : Option Jvm.ClassFile.FieldType) ∈ allW := tw_of tw_in2 (i := 191) rfl rfl
theorem tw_2_192 : Cond.methodLink RX5 53 yX5_widthOf ∈ allW := tw_of tw_in2 (i := 192) rfl rfl
theorem tw_2_193 : Cond.static yX5_widthOf ∈ allW := tw_of tw_in2 (i := 193) rfl rfl
theorem tw_2_194 : Cond.code yX5_widthOf cX5_widthOf 6 (some .int) ∈ allW := tw_of tw_in2 (i := 194) rfl rfl
theorem tw_2_195 : Cond.constantLong RX5 63 (-1 : Int64) ∈ allW := tw_of tw_in2 (i := 195) rfl rfl
theorem tw_2_196 : Cond.methodLink RX5 57 yJ9_max_7cf53 ∈ allW := tw_of tw_in2 (i := 196) rfl rfl
theorem tw_2_197 : Cond.methodLink RX10 163 yX10_appendPiece ∈ allW := tw_of tw_in2 (i := 197) rfl rfl
theorem tw_2_199 : Cond.instanceMethod yX10_appendPiece ∈ allW := tw_of tw_in2 (i := 199) rfl rfl
theorem tw_2_200 : Cond.code yX10_appendPiece cX10_appendPiece 5 (none : Option Jvm.ClassFile.FieldType) ∈ allW := tw_of tw_in2 (i := 200) rfl rfl
theorem tw_2_201 : Cond.methodLink RX10 167 yX9_append ∈ allW := tw_of tw_in2 (i := 201) rfl rfl
theorem tw_2_202 : Cond.instanceMethod yX9_append ∈ allW := tw_of tw_in2 (i := 202) rfl rfl
theorem tw_2_203 : Cond.selects RX9 yX9_append yX9_append ∈ allW := tw_of tw_in2 (i := 203) rfl rfl
theorem tw_2_204 : Cond.code yX9_append cX9_append 2 (none : Option Jvm.ClassFile.FieldType) ∈ allW := tw_of tw_in2 (i := 204) rfl rfl
theorem tw_2_205 : Cond.methodLink RX10 315 yX9_appendPair ∈ allW := tw_of tw_in2 (i := 205) rfl rfl
theorem tw_2_206 : Cond.instanceMethod yX9_appendPair ∈ allW := tw_of tw_in2 (i := 206) rfl rfl
theorem tw_2_207 : Cond.selects RX9 yX9_appendPair yX9_appendPair ∈ allW := tw_of tw_in2 (i := 207) rfl rfl
theorem tw_2_208 : Cond.code yX9_appendPair cX9_appendPair 2 (none : Option Jvm.ClassFile.FieldType) ∈ allW := tw_of tw_in2 (i := 208) rfl rfl
theorem tw_2_209 : Cond.methodLink RX9 23 yX9_append ∈ allW := tw_of tw_in2 (i := 209) rfl rfl
theorem tw_2_210 : Cond.methodLink RX10 249 yX9_appendAll ∈ allW := tw_of tw_in2 (i := 210) rfl rfl
theorem tw_2_211 : Cond.instanceMethod yX9_appendAll ∈ allW := tw_of tw_in2 (i := 211) rfl rfl
theorem tw_2_212 : Cond.selects RX9 yX9_appendAll yX9_appendAll ∈ allW := tw_of tw_in2 (i := 212) rfl rfl
theorem tw_2_213 : Cond.code yX9_appendAll cX9_appendAll 5 (none : Option Jvm.ClassFile.FieldType) ∈ allW := tw_of tw_in2 (i := 213) rfl rfl
theorem tw_2_214 : Cond.methodLink RX9 27 yJ9_max_7cf53 ∈ allW := tw_of tw_in2 (i := 214) rfl rfl
theorem tw_2_215 : Cond.methodLink RX10 174 yX9_sum ∈ allW := tw_of tw_in2 (i := 215) rfl rfl
theorem tw_2_216 : Cond.instanceMethod yX9_sum ∈ allW := tw_of tw_in2 (i := 216) rfl rfl
theorem tw_2_217 : Cond.selects RX9 yX9_sum yX9_sum ∈ allW := tw_of tw_in2 (i := 217) rfl rfl
theorem tw_2_218 : Cond.code yX9_sum cX9_sum 5 (some .int) ∈ allW := tw_of tw_in2 (i := 218) rfl rfl
theorem tw_2_219 : Cond.constant RX9 37 (65535 : Int32) ∈ allW := tw_of tw_in2 (i := 219) rfl rfl
theorem tw_2_220 : Cond.methodLink RL 78 yX10_cost ∈ allW := tw_of tw_in2 (i := 220) rfl rfl
theorem tw_2_221 : Cond.instanceMethod yX10_cost ∈ allW := tw_of tw_in2 (i := 221) rfl rfl
theorem tw_2_222 : Cond.selects RX10 yX10_cost yX10_cost ∈ allW := tw_of tw_in2 (i := 222) rfl rfl
theorem tw_2_223 : Cond.code yX10_cost cX10_cost 4 (some .int) ∈ allW := tw_of tw_in2 (i := 223) rfl rfl
theorem tw_2_224 : Cond.methodLink RL 82 yX10_best ∈ allW := tw_of tw_in2 (i := 224) rfl rfl
theorem tw_2_225 : Cond.instanceMethod yX10_best ∈ allW := tw_of tw_in2 (i := 225) rfl rfl
theorem tw_2_226 : Cond.selects RX10 yX10_best yX10_best ∈ allW := tw_of tw_in2 (i := 226) rfl rfl
theorem tw_2_227 : Cond.code yX10_best cX10_best 6 (some .int) ∈ allW := tw_of tw_in2 (i := 227) rfl rfl
theorem tw_2_228 : Cond.methodLink RL 86 yX10_add ∈ allW := tw_of tw_in2 (i := 228) rfl rfl
theorem tw_2_229 : Cond.instanceMethod yX10_add ∈ allW := tw_of tw_in2 (i := 229) rfl rfl
theorem tw_2_230 : Cond.selects RX10 yX10_add yX10_add ∈ allW := tw_of tw_in2 (i := 230) rfl rfl
theorem tw_2_231 : Cond.code yX10_add cX10_add 4 (some .int) ∈ allW := tw_of tw_in2 (i := 231) rfl rfl
theorem tw_2_232 : Cond.methodLink RL 90 yX10_end ∈ allW := tw_of tw_in2 (i := 232) rfl rfl
theorem tw_2_233 : Cond.instanceMethod yX10_end ∈ allW := tw_of tw_in2 (i := 233) rfl rfl
theorem tw_2_234 : Cond.selects RX10 yX10_end yX10_end ∈ allW := tw_of tw_in2 (i := 234) rfl rfl
theorem tw_2_235 : Cond.code yX10_end cX10_end 3 (some .int) ∈ allW := tw_of tw_in2 (i := 235) rfl rfl
theorem tw_2_236 : Cond.methodLink RL 94 yX10_about ∈ allW := tw_of tw_in2 (i := 236) rfl rfl
theorem tw_2_237 : Cond.instanceMethod yX10_about ∈ allW := tw_of tw_in2 (i := 237) rfl rfl
theorem tw_2_238 : Cond.selects RX10 yX10_about yX10_about ∈ allW := tw_of tw_in2 (i := 238) rfl rfl
theorem tw_2_239 : Cond.code yX10_about cX10_about 4 (some .int) ∈ allW := tw_of tw_in2 (i := 239) rfl rfl
theorem tw_3_0 : Cond.methodLink RL 98 yX10_at ∈ allW := tw_of tw_in3 (i := 0) rfl rfl
theorem tw_3_1 : Cond.instanceMethod yX10_at ∈ allW := tw_of tw_in3 (i := 1) rfl rfl
theorem tw_3_2 : Cond.selects RX10 yX10_at yX10_at ∈ allW := tw_of tw_in3 (i := 2) rfl rfl
theorem tw_3_3 : Cond.code yX10_at cX10_at 4 (some .int) ∈ allW := tw_of tw_in3 (i := 3) rfl rfl
theorem tw_3_4 : Cond.methodLink RX10 177 yX9_has ∈ allW := tw_of tw_in3 (i := 4) rfl rfl
theorem tw_3_5 : Cond.instanceMethod yX9_has ∈ allW := tw_of tw_in3 (i := 5) rfl rfl
theorem tw_3_6 : Cond.selects RX9 yX9_has yX9_has ∈ allW := tw_of tw_in3 (i := 6) rfl rfl
theorem tw_3_7 : Cond.code yX9_has cX9_has 2 (some .boolean) ∈ allW := tw_of tw_in3 (i := 7) rfl rfl
theorem tw_3_8 : Cond.methodLink RX10 178 yX9_byteAt ∈ allW := tw_of tw_in3 (i := 8) rfl rfl
theorem tw_3_9 : Cond.instanceMethod yX9_byteAt ∈ allW := tw_of tw_in3 (i := 9) rfl rfl
theorem tw_3_10 : Cond.selects RX9 yX9_byteAt yX9_byteAt ∈ allW := tw_of tw_in3 (i := 10) rfl rfl
theorem tw_3_11 : Cond.code yX9_byteAt cX9_byteAt 2 (some .int) ∈ allW := tw_of tw_in3 (i := 11) rfl rfl
theorem tw_3_12 : Cond.methodLink RX9 19 yX9_has ∈ allW := tw_of tw_in3 (i := 12) rfl rfl
theorem tw_3_13 : Cond.methodLink RL 102 yX10_harm ∈ allW := tw_of tw_in3 (i := 13) rfl rfl
theorem tw_3_14 : Cond.instanceMethod yX10_harm ∈ allW := tw_of tw_in3 (i := 14) rfl rfl
theorem tw_3_15 : Cond.selects RX10 yX10_harm yX10_harm ∈ allW := tw_of tw_in3 (i := 15) rfl rfl
theorem tw_3_16 : Cond.code yX10_harm cX10_harm 5 (some .int) ∈ allW := tw_of tw_in3 (i := 16) rfl rfl
theorem tw_3_17 : Cond.methodLink RL 106 yX10_seek ∈ allW := tw_of tw_in3 (i := 17) rfl rfl
theorem tw_3_18 : Cond.instanceMethod yX10_seek ∈ allW := tw_of tw_in3 (i := 18) rfl rfl
theorem tw_3_19 : Cond.selects RX10 yX10_seek yX10_seek ∈ allW := tw_of tw_in3 (i := 19) rfl rfl
theorem tw_3_20 : Cond.code yX10_seek cX10_seek 5 (some .int) ∈ allW := tw_of tw_in3 (i := 20) rfl rfl
theorem tw_3_21 : Cond.methodLink RL 110 yX10_read ∈ allW := tw_of tw_in3 (i := 21) rfl rfl
theorem tw_3_22 : Cond.instanceMethod yX10_read ∈ allW := tw_of tw_in3 (i := 22) rfl rfl
theorem tw_3_23 : Cond.selects RX10 yX10_read yX10_read ∈ allW := tw_of tw_in3 (i := 23) rfl rfl
theorem tw_3_24 : Cond.code yX10_read cX10_read 5 (some .int) ∈ allW := tw_of tw_in3 (i := 24) rfl rfl
theorem tw_3_25 : Cond.methodLink RX10 185 yX6_examine ∈ allW := tw_of tw_in3 (i := 25) rfl rfl
theorem tw_3_26 : Cond.instanceMethod yX6_examine ∈ allW := tw_of tw_in3 (i := 26) rfl rfl
theorem tw_3_27 : Cond.selects RX6 yX6_examine yX6_examine ∈ allW := tw_of tw_in3 (i := 27) rfl rfl
theorem tw_3_28 : Cond.code yX6_examine cX6_examine 9 (some .int) ∈ allW := tw_of tw_in3 (i := 28) rfl rfl
theorem tw_3_29 : Cond.methodLink RX6 15 yX9_pairAt ∈ allW := tw_of tw_in3 (i := 29) rfl rfl
theorem tw_3_30 : Cond.instanceMethod yX9_pairAt ∈ allW := tw_of tw_in3 (i := 30) rfl rfl
theorem tw_3_31 : Cond.selects RX9 yX9_pairAt yX9_pairAt ∈ allW := tw_of tw_in3 (i := 31) rfl rfl
theorem tw_3_32 : Cond.code yX9_pairAt cX9_pairAt 2 (some .int) ∈ allW := tw_of tw_in3 (i := 32) rfl rfl
theorem tw_3_33 : Cond.methodLink RX9 33 yX9_byteAt ∈ allW := tw_of tw_in3 (i := 33) rfl rfl
theorem tw_3_34 : Cond.methodLink RX6 19 yX9_byteAt ∈ allW := tw_of tw_in3 (i := 34) rfl rfl
theorem tw_3_37 : Cond.methodLink RX6 37 yX9_sum ∈ allW := tw_of tw_in3 (i := 37) rfl rfl
theorem tw_3_38 : Cond.methodLink RX6 41 yX5_unpack ∈ allW := tw_of tw_in3 (i := 38) rfl rfl
theorem tw_3_39 : Cond.instanceMethod yX5_unpack ∈ allW := tw_of tw_in3 (i := 39) rfl rfl
theorem tw_3_40 : Cond.selects RX5 yX5_unpack yX5_unpack ∈ allW := tw_of tw_in3 (i := 40) rfl rfl
theorem tw_3_41 : Cond.code yX5_unpack cX5_unpack 8 (some .boolean) ∈ allW := tw_of tw_in3 (i := 41) rfl rfl
theorem tw_3_42 : Cond.methodLink RX5 79 yX5_openRuns ∈ allW := tw_of tw_in3 (i := 42) rfl rfl
theorem tw_3_44 : Cond.instanceMethod yX5_openRuns ∈ allW := tw_of tw_in3 (i := 44) rfl rfl
theorem tw_3_45 : Cond.code yX5_openRuns cX5_openRuns 8 (none : Option Jvm.ClassFile.FieldType) ∈ allW := tw_of tw_in3 (i := 45) rfl rfl
theorem tw_3_46 : Cond.methodLink RX5 85 yX5_openPlain ∈ allW := tw_of tw_in3 (i := 46) rfl rfl
theorem tw_3_48 : Cond.instanceMethod yX5_openPlain ∈ allW := tw_of tw_in3 (i := 48) rfl rfl
theorem tw_3_49 : Cond.code yX5_openPlain cX5_openPlain 5 (some .long) ∈ allW := tw_of tw_in3 (i := 49) rfl rfl
theorem tw_3_50 : Cond.methodLink RX5 116 yX5_openByte ∈ allW := tw_of tw_in3 (i := 50) rfl rfl
theorem tw_3_52 : Cond.instanceMethod yX5_openByte ∈ allW := tw_of tw_in3 (i := 52) rfl rfl
theorem tw_3_53 : Cond.code yX5_openByte cX5_openByte 1 (some .int) ∈ allW := tw_of tw_in3 (i := 53) rfl rfl
theorem tw_3_54 : Cond.methodLink RX5 112 yX9_byteAt ∈ allW := tw_of tw_in3 (i := 54) rfl rfl
theorem tw_3_55 : Cond.methodLink RX5 82 yX5_openWide ∈ allW := tw_of tw_in3 (i := 55) rfl rfl
theorem tw_3_57 : Cond.instanceMethod yX5_openWide ∈ allW := tw_of tw_in3 (i := 57) rfl rfl
theorem tw_3_58 : Cond.code yX5_openWide cX5_openWide 7 (none : Option Jvm.ClassFile.FieldType) ∈ allW := tw_of tw_in3 (i := 58) rfl rfl
theorem tw_3_59 : Cond.methodLink RX5 89 yX5_undoSteps ∈ allW := tw_of tw_in3 (i := 59) rfl rfl
theorem tw_3_61 : Cond.instanceMethod yX5_undoSteps ∈ allW := tw_of tw_in3 (i := 61) rfl rfl
theorem tw_3_62 : Cond.code yX5_undoSteps cX5_undoSteps 3 (none : Option Jvm.ClassFile.FieldType) ∈ allW := tw_of tw_in3 (i := 62) rfl rfl
theorem tw_3_63 : Cond.methodLink RX5 92 yX5_areTold ∈ allW := tw_of tw_in3 (i := 63) rfl rfl
theorem tw_3_65 : Cond.instanceMethod yX5_areTold ∈ allW := tw_of tw_in3 (i := 65) rfl rfl
theorem tw_3_66 : Cond.code yX5_areTold cX5_areTold 4 (some .boolean) ∈ allW := tw_of tw_in3 (i := 66) rfl rfl
theorem tw_3_67 : Cond.methodLink RX5 106 yX4_told ∈ allW := tw_of tw_in3 (i := 67) rfl rfl
theorem tw_3_68 : Cond.methodLink RX5 96 yX5_pack ∈ allW := tw_of tw_in3 (i := 68) rfl rfl
theorem tw_3_69 : Cond.methodLink RX5 100 yX9_hasAt ∈ allW := tw_of tw_in3 (i := 69) rfl rfl
theorem tw_3_70 : Cond.instanceMethod yX9_hasAt ∈ allW := tw_of tw_in3 (i := 70) rfl rfl
theorem tw_3_71 : Cond.selects RX9 yX9_hasAt yX9_hasAt ∈ allW := tw_of tw_in3 (i := 71) rfl rfl
theorem tw_3_72 : Cond.code yX9_hasAt cX9_hasAt 6 (some .boolean) ∈ allW := tw_of tw_in3 (i := 72) rfl rfl
theorem tw_3_73 : Cond.methodLink RL 114 yX10_pieces ∈ allW := tw_of tw_in3 (i := 73) rfl rfl
theorem tw_3_74 : Cond.instanceMethod yX10_pieces ∈ allW := tw_of tw_in3 (i := 74) rfl rfl
theorem tw_3_75 : Cond.selects RX10 yX10_pieces yX10_pieces ∈ allW := tw_of tw_in3 (i := 75) rfl rfl
theorem tw_3_76 : Cond.code yX10_pieces cX10_pieces 5 (some .int) ∈ allW := tw_of tw_in3 (i := 76) rfl rfl
theorem tw_3_77 : Cond.methodLink RL 118 yX10_house ∈ allW := tw_of tw_in3 (i := 77) rfl rfl
theorem tw_3_78 : Cond.instanceMethod yX10_house ∈ allW := tw_of tw_in3 (i := 78) rfl rfl
theorem tw_3_79 : Cond.selects RX10 yX10_house yX10_house ∈ allW := tw_of tw_in3 (i := 79) rfl rfl
theorem tw_3_80 : Cond.code yX10_house cX10_house 1 (some .int) ∈ allW := tw_of tw_in3 (i := 80) rfl rfl
theorem tw_3_81 : Cond.instantiable RX3 3 ∈ allW := tw_of tw_in3 (i := 81) rfl rfl
theorem tw_3_83 : Cond.instanceMethod yX3_init ∈ allW := tw_of tw_in3 (i := 83) rfl rfl
theorem tw_3_84 : Cond.code yX3_init cX3_init 1 (none : Option Jvm.ClassFile.FieldType) ∈ allW := tw_of tw_in3 (i := 84) rfl rfl
theorem tw_3_85 : Cond.methodLink RX3 3 objectInit ∈ allW := tw_of tw_in3 (i := 85) rfl rfl
theorem tw_3_86 : Cond.classLink RX3 15 RX0 ∈ allW := tw_of tw_in3 (i := 86) rfl rfl
theorem tw_3_87 : Cond.fieldLink RX3 9 "PackDesk$House" "paths" "[J" ∈ allW := tw_of tw_in3 (i := 87) rfl rfl
theorem tw_3_88 : Cond.fieldLink RX10 244 "PackDesk$House" "paths" "[J" ∈ allW := tw_of tw_in3 (i := 88) rfl rfl
theorem tw_3_89 : Cond.fieldLink RX3 17 "PackDesk$House" "bodies" "[LPackDesk$Body;" ∈ allW := tw_of tw_in3 (i := 89) rfl rfl
theorem tw_3_90 : Cond.fieldLink RX10 230 "PackDesk$House" "bodies" "[LPackDesk$Body;" ∈ allW := tw_of tw_in3 (i := 90) rfl rfl
theorem tw_3_91 : Cond.fieldLink RX3 21 "PackDesk$House" "entries" "I" ∈ allW := tw_of tw_in3 (i := 91) rfl rfl
theorem tw_3_92 : Cond.fieldLink RX10 211 "PackDesk$House" "entries" "I" ∈ allW := tw_of tw_in3 (i := 92) rfl rfl
theorem tw_3_93 : Cond.laysFinal RX3 "PackDesk$House" "paths" "[J" ∈ allW := tw_of tw_in3 (i := 93) rfl rfl
theorem tw_3_95 : Cond.laysFinal RX3 "PackDesk$House" "bodies" "[LPackDesk$Body;" ∈ allW := tw_of tw_in3 (i := 95) rfl rfl
theorem tw_3_97 : Cond.lays RX3 "PackDesk$House" "entries" "I" ∈ allW := tw_of tw_in3 (i := 97) rfl rfl
theorem tw_3_100 : Cond.methodLink RL 122 yX10_keep ∈ allW := tw_of tw_in3 (i := 100) rfl rfl
theorem tw_3_101 : Cond.instanceMethod yX10_keep ∈ allW := tw_of tw_in3 (i := 101) rfl rfl
theorem tw_3_102 : Cond.selects RX10 yX10_keep yX10_keep ∈ allW := tw_of tw_in3 (i := 102) rfl rfl
theorem tw_3_103 : Cond.code yX10_keep cX10_keep 9 (some .int) ∈ allW := tw_of tw_in3 (i := 103) rfl rfl
theorem tw_3_104 : Cond.methodLink RX10 203 yX10_houseNumbered ∈ allW := tw_of tw_in3 (i := 104) rfl rfl
theorem tw_3_106 : Cond.instanceMethod yX10_houseNumbered ∈ allW := tw_of tw_in3 (i := 106) rfl rfl
theorem tw_3_107 : Cond.code yX10_houseNumbered cX10_houseNumbered 2 (some (.object "PackDesk$House")) ∈ allW := tw_of tw_in3 (i := 107) rfl rfl
theorem tw_3_108 : Cond.methodLink RX10 207 yX3_entryOf ∈ allW := tw_of tw_in3 (i := 108) rfl rfl
theorem tw_3_109 : Cond.instanceMethod yX3_entryOf ∈ allW := tw_of tw_in3 (i := 109) rfl rfl
theorem tw_3_110 : Cond.selects RX3 yX3_entryOf yX3_entryOf ∈ allW := tw_of tw_in3 (i := 110) rfl rfl
theorem tw_3_111 : Cond.code yX3_entryOf cX3_entryOf 4 (some .int) ∈ allW := tw_of tw_in3 (i := 111) rfl rfl
theorem tw_3_112 : Cond.methodLink RX10 214 yX8_bodyLike ∈ allW := tw_of tw_in3 (i := 112) rfl rfl
theorem tw_3_113 : Cond.instanceMethod yX8_bodyLike ∈ allW := tw_of tw_in3 (i := 113) rfl rfl
theorem tw_3_114 : Cond.selects RX8 yX8_bodyLike yX8_bodyLike ∈ allW := tw_of tw_in3 (i := 114) rfl rfl
theorem tw_3_115 : Cond.code yX8_bodyLike cX8_bodyLike 6 (some (.object "PackDesk$Body")) ∈ allW := tw_of tw_in3 (i := 115) rfl rfl
theorem tw_3_116 : Cond.methodLink RX8 31 yX9_hasAt ∈ allW := tw_of tw_in3 (i := 116) rfl rfl
theorem tw_3_117 : Cond.methodLink RX10 218 yX8_newBody ∈ allW := tw_of tw_in3 (i := 117) rfl rfl
theorem tw_3_118 : Cond.instanceMethod yX8_newBody ∈ allW := tw_of tw_in3 (i := 118) rfl rfl
theorem tw_3_119 : Cond.selects RX8 yX8_newBody yX8_newBody ∈ allW := tw_of tw_in3 (i := 119) rfl rfl
theorem tw_3_120 : Cond.code yX8_newBody cX8_newBody 4 (some (.object "PackDesk$Body")) ∈ allW := tw_of tw_in3 (i := 120) rfl rfl
theorem tw_3_121 : Cond.instantiable RX0 4 ∈ allW := tw_of tw_in3 (i := 121) rfl rfl
theorem tw_3_123 : Cond.instanceMethod yX0_init ∈ allW := tw_of tw_in3 (i := 123) rfl rfl
theorem tw_3_124 : Cond.code yX0_init cX0_init 1 (none : Option Jvm.ClassFile.FieldType) ∈ allW := tw_of tw_in3 (i := 124) rfl rfl
theorem tw_3_125 : Cond.methodLink RX0 3 objectInit ∈ allW := tw_of tw_in3 (i := 125) rfl rfl
theorem tw_3_126 : Cond.fieldLink RX0 9 "PackDesk$Body" "bytes" "[B" ∈ allW := tw_of tw_in3 (i := 126) rfl rfl
theorem tw_3_127 : Cond.fieldLink RX8 26 "PackDesk$Body" "bytes" "[B" ∈ allW := tw_of tw_in3 (i := 127) rfl rfl
theorem tw_3_128 : Cond.fieldLink RX10 247 "PackDesk$Body" "bytes" "[B" ∈ allW := tw_of tw_in3 (i := 128) rfl rfl
theorem tw_3_129 : Cond.fieldLink RX8 30 "PackDesk$Body" "size" "I" ∈ allW := tw_of tw_in3 (i := 129) rfl rfl
theorem tw_3_130 : Cond.fieldLink RX10 248 "PackDesk$Body" "size" "I" ∈ allW := tw_of tw_in3 (i := 130) rfl rfl
theorem tw_3_131 : Cond.fieldLink RX8 46 "PackDesk$Body" "number" "I" ∈ allW := tw_of tw_in3 (i := 131) rfl rfl
theorem tw_3_132 : Cond.fieldLink RX10 238 "PackDesk$Body" "number" "I" ∈ allW := tw_of tw_in3 (i := 132) rfl rfl
theorem tw_3_133 : Cond.fieldLink RX8 17 "PackDesk$Body" "users" "I" ∈ allW := tw_of tw_in3 (i := 133) rfl rfl
theorem tw_3_134 : Cond.fieldLink RX10 221 "PackDesk$Body" "users" "I" ∈ allW := tw_of tw_in3 (i := 134) rfl rfl
theorem tw_3_135 : Cond.laysFinal RX0 "PackDesk$Body" "bytes" "[B" ∈ allW := tw_of tw_in3 (i := 135) rfl rfl
theorem tw_3_137 : Cond.lays RX0 "PackDesk$Body" "size" "I" ∈ allW := tw_of tw_in3 (i := 137) rfl rfl
theorem tw_3_139 : Cond.lays RX0 "PackDesk$Body" "number" "I" ∈ allW := tw_of tw_in3 (i := 139) rfl rfl
theorem tw_3_141 : Cond.lays RX0 "PackDesk$Body" "users" "I" ∈ allW := tw_of tw_in3 (i := 141) rfl rfl
theorem tw_3_144 : Cond.methodLink RX8 37 arraycopyName ∈ allW := tw_of tw_in3 (i := 144) rfl rfl
theorem tw_3_145 : Cond.methodLink RX10 226 yX3_insert ∈ allW := tw_of tw_in3 (i := 145) rfl rfl
theorem tw_3_146 : Cond.instanceMethod yX3_insert ∈ allW := tw_of tw_in3 (i := 146) rfl rfl
theorem tw_3_147 : Cond.selects RX3 yX3_insert yX3_insert ∈ allW := tw_of tw_in3 (i := 147) rfl rfl
theorem tw_3_148 : Cond.code yX3_insert cX3_insert 5 (none : Option Jvm.ClassFile.FieldType) ∈ allW := tw_of tw_in3 (i := 148) rfl rfl
theorem tw_3_149 : Cond.methodLink RX10 234 yX8_release ∈ allW := tw_of tw_in3 (i := 149) rfl rfl
theorem tw_3_150 : Cond.instanceMethod yX8_release ∈ allW := tw_of tw_in3 (i := 150) rfl rfl
theorem tw_3_151 : Cond.selects RX8 yX8_release yX8_release ∈ allW := tw_of tw_in3 (i := 151) rfl rfl
theorem tw_3_152 : Cond.code yX8_release cX8_release 2 (none : Option Jvm.ClassFile.FieldType) ∈ allW := tw_of tw_in3 (i := 152) rfl rfl
theorem tw_3_153 : Cond.methodLink RL 127 yX10_find ∈ allW := tw_of tw_in3 (i := 153) rfl rfl
theorem tw_3_154 : Cond.instanceMethod yX10_find ∈ allW := tw_of tw_in3 (i := 154) rfl rfl
theorem tw_3_155 : Cond.selects RX10 yX10_find yX10_find ∈ allW := tw_of tw_in3 (i := 155) rfl rfl
theorem tw_3_156 : Cond.code yX10_find cX10_find 6 (some .int) ∈ allW := tw_of tw_in3 (i := 156) rfl rfl
theorem tw_3_157 : Cond.methodLink RL 132 yX10_drop ∈ allW := tw_of tw_in3 (i := 157) rfl rfl
theorem tw_3_158 : Cond.instanceMethod yX10_drop ∈ allW := tw_of tw_in3 (i := 158) rfl rfl
theorem tw_3_159 : Cond.selects RX10 yX10_drop yX10_drop ∈ allW := tw_of tw_in3 (i := 159) rfl rfl
theorem tw_3_160 : Cond.code yX10_drop cX10_drop 7 (some .int) ∈ allW := tw_of tw_in3 (i := 160) rfl rfl
theorem tw_3_161 : Cond.methodLink RX10 241 yX3_remove ∈ allW := tw_of tw_in3 (i := 161) rfl rfl
theorem tw_3_162 : Cond.instanceMethod yX3_remove ∈ allW := tw_of tw_in3 (i := 162) rfl rfl
theorem tw_3_163 : Cond.selects RX3 yX3_remove yX3_remove ∈ allW := tw_of tw_in3 (i := 163) rfl rfl
theorem tw_3_164 : Cond.code yX3_remove cX3_remove 3 (none : Option Jvm.ClassFile.FieldType) ∈ allW := tw_of tw_in3 (i := 164) rfl rfl
theorem tw_3_165 : Cond.methodLink RL 136 yX10_list ∈ allW := tw_of tw_in3 (i := 165) rfl rfl
theorem tw_3_166 : Cond.instanceMethod yX10_list ∈ allW := tw_of tw_in3 (i := 166) rfl rfl
theorem tw_3_167 : Cond.selects RX10 yX10_list yX10_list ∈ allW := tw_of tw_in3 (i := 167) rfl rfl
theorem tw_3_168 : Cond.code yX10_list cX10_list 4 (some .int) ∈ allW := tw_of tw_in3 (i := 168) rfl rfl
theorem tw_3_169 : Cond.methodLink RL 140 yX10_take ∈ allW := tw_of tw_in3 (i := 169) rfl rfl
theorem tw_3_170 : Cond.instanceMethod yX10_take ∈ allW := tw_of tw_in3 (i := 170) rfl rfl
theorem tw_3_171 : Cond.selects RX10 yX10_take yX10_take ∈ allW := tw_of tw_in3 (i := 171) rfl rfl
theorem tw_3_172 : Cond.code yX10_take cX10_take 8 (some .int) ∈ allW := tw_of tw_in3 (i := 172) rfl rfl
theorem tw_3_173 : Cond.methodLink RL 144 yX10_uses ∈ allW := tw_of tw_in3 (i := 173) rfl rfl
theorem tw_3_174 : Cond.instanceMethod yX10_uses ∈ allW := tw_of tw_in3 (i := 174) rfl rfl
theorem tw_3_175 : Cond.selects RX10 yX10_uses yX10_uses ∈ allW := tw_of tw_in3 (i := 175) rfl rfl
theorem tw_3_176 : Cond.code yX10_uses cX10_uses 2 (some .int) ∈ allW := tw_of tw_in3 (i := 176) rfl rfl
theorem tw_3_177 : Cond.methodLink RX10 253 yX8_usersOf ∈ allW := tw_of tw_in3 (i := 177) rfl rfl
theorem tw_3_178 : Cond.instanceMethod yX8_usersOf ∈ allW := tw_of tw_in3 (i := 178) rfl rfl
theorem tw_3_179 : Cond.selects RX8 yX8_usersOf yX8_usersOf ∈ allW := tw_of tw_in3 (i := 179) rfl rfl
theorem tw_3_180 : Cond.code yX8_usersOf cX8_usersOf 6 (some .int) ∈ allW := tw_of tw_in3 (i := 180) rfl rfl
theorem tw_3_181 : Cond.methodLink RL 148 yX10_delta ∈ allW := tw_of tw_in3 (i := 181) rfl rfl
theorem tw_3_182 : Cond.instanceMethod yX10_delta ∈ allW := tw_of tw_in3 (i := 182) rfl rfl
theorem tw_3_183 : Cond.selects RX10 yX10_delta yX10_delta ∈ allW := tw_of tw_in3 (i := 183) rfl rfl
theorem tw_3_184 : Cond.code yX10_delta cX10_delta 5 (some .int) ∈ allW := tw_of tw_in3 (i := 184) rfl rfl
theorem tw_3_185 : Cond.instantiable RX1 8 ∈ allW := tw_of tw_in3 (i := 185) rfl rfl
theorem tw_3_186 : Cond.methodLink RX10 259 yX1_init ∈ allW := tw_of tw_in3 (i := 186) rfl rfl
theorem tw_3_187 : Cond.instanceMethod yX1_init ∈ allW := tw_of tw_in3 (i := 187) rfl rfl
theorem tw_3_188 : Cond.code yX1_init cX1_init 3 (none : Option Jvm.ClassFile.FieldType) ∈ allW := tw_of tw_in3 (i := 188) rfl rfl
theorem tw_3_189 : Cond.methodLink RX1 3 objectInit ∈ allW := tw_of tw_in3 (i := 189) rfl rfl
theorem tw_3_190 : Cond.methodLink RX1 20 yX9_sum ∈ allW := tw_of tw_in3 (i := 190) rfl rfl
theorem tw_3_191 : Cond.fieldLink RX1 15 "PackDesk$Delta" "fromSize" "I" ∈ allW := tw_of tw_in3 (i := 191) rfl rfl
theorem tw_3_192 : Cond.fieldLink RX1 24 "PackDesk$Delta" "fromSum" "I" ∈ allW := tw_of tw_in3 (i := 192) rfl rfl
theorem tw_3_193 : Cond.fieldLink RX1 27 "PackDesk$Delta" "places" "[I" ∈ allW := tw_of tw_in3 (i := 193) rfl rfl
theorem tw_3_194 : Cond.fieldLink RX1 31 "PackDesk$Delta" "lengths" "[I" ∈ allW := tw_of tw_in3 (i := 194) rfl rfl
theorem tw_3_195 : Cond.fieldLink RX1 34 "PackDesk$Delta" "added" "[B" ∈ allW := tw_of tw_in3 (i := 195) rfl rfl
theorem tw_3_196 : Cond.fieldLink RX1 69 "PackDesk$Delta" "acts" "I" ∈ allW := tw_of tw_in3 (i := 196) rfl rfl
theorem tw_3_197 : Cond.fieldLink RX10 269 "PackDesk$Delta" "acts" "I" ∈ allW := tw_of tw_in3 (i := 197) rfl rfl
theorem tw_3_198 : Cond.fieldLink RX1 72 "PackDesk$Delta" "bytesAdded" "I" ∈ allW := tw_of tw_in3 (i := 198) rfl rfl
theorem tw_3_199 : Cond.fieldLink RX1 58 "PackDesk$Delta" "bytesCopied" "I" ∈ allW := tw_of tw_in3 (i := 199) rfl rfl
theorem tw_3_200 : Cond.laysFinal RX1 "PackDesk$Delta" "fromSize" "I" ∈ allW := tw_of tw_in3 (i := 200) rfl rfl
theorem tw_3_202 : Cond.laysFinal RX1 "PackDesk$Delta" "fromSum" "I" ∈ allW := tw_of tw_in3 (i := 202) rfl rfl
theorem tw_3_204 : Cond.laysFinal RX1 "PackDesk$Delta" "places" "[I" ∈ allW := tw_of tw_in3 (i := 204) rfl rfl
theorem tw_3_206 : Cond.laysFinal RX1 "PackDesk$Delta" "lengths" "[I" ∈ allW := tw_of tw_in3 (i := 206) rfl rfl
theorem tw_3_208 : Cond.laysFinal RX1 "PackDesk$Delta" "added" "[B" ∈ allW := tw_of tw_in3 (i := 208) rfl rfl
theorem tw_3_210 : Cond.lays RX1 "PackDesk$Delta" "acts" "I" ∈ allW := tw_of tw_in3 (i := 210) rfl rfl
theorem tw_3_212 : Cond.lays RX1 "PackDesk$Delta" "bytesAdded" "I" ∈ allW := tw_of tw_in3 (i := 212) rfl rfl
theorem tw_3_214 : Cond.lays RX1 "PackDesk$Delta" "bytesCopied" "I" ∈ allW := tw_of tw_in3 (i := 214) rfl rfl
theorem tw_3_217 : Cond.methodLink RX10 262 yX1_fill ∈ allW := tw_of tw_in3 (i := 217) rfl rfl
theorem tw_3_218 : Cond.instanceMethod yX1_fill ∈ allW := tw_of tw_in3 (i := 218) rfl rfl
theorem tw_3_219 : Cond.selects RX1 yX1_fill yX1_fill ∈ allW := tw_of tw_in3 (i := 219) rfl rfl
theorem tw_3_220 : Cond.code yX1_fill cX1_fill 7 (none : Option Jvm.ClassFile.FieldType) ∈ allW := tw_of tw_in3 (i := 220) rfl rfl
theorem tw_3_221 : Cond.methodLink RX1 38 yX1_longestLike ∈ allW := tw_of tw_in3 (i := 221) rfl rfl
theorem tw_3_222 : Cond.static yX1_longestLike ∈ allW := tw_of tw_in3 (i := 222) rfl rfl
theorem tw_3_223 : Cond.code yX1_longestLike cX1_longestLike 7 (some .int) ∈ allW := tw_of tw_in3 (i := 223) rfl rfl
theorem tw_3_224 : Cond.methodLink RX1 50 yX1_likeBytes ∈ allW := tw_of tw_in3 (i := 224) rfl rfl
theorem tw_3_225 : Cond.static yX1_likeBytes ∈ allW := tw_of tw_in3 (i := 225) rfl rfl
theorem tw_3_226 : Cond.code yX1_likeBytes cX1_likeBytes 6 (some .int) ∈ allW := tw_of tw_in3 (i := 226) rfl rfl
theorem tw_3_227 : Cond.methodLink RX1 61 yJ9_min_7cf53 ∈ allW := tw_of tw_in3 (i := 227) rfl rfl
theorem tw_3_228 : Cond.methodLink RX1 42 yX9_byteAt ∈ allW := tw_of tw_in3 (i := 228) rfl rfl
theorem tw_3_229 : Cond.methodLink RX1 46 yX1_addByte ∈ allW := tw_of tw_in3 (i := 229) rfl rfl
theorem tw_3_231 : Cond.instanceMethod yX1_addByte ∈ allW := tw_of tw_in3 (i := 231) rfl rfl
theorem tw_3_232 : Cond.code yX1_addByte cX1_addByte 2 (none : Option Jvm.ClassFile.FieldType) ∈ allW := tw_of tw_in3 (i := 232) rfl rfl
theorem tw_3_233 : Cond.methodLink RX1 54 yX1_newAct ∈ allW := tw_of tw_in3 (i := 233) rfl rfl
theorem tw_3_235 : Cond.instanceMethod yX1_newAct ∈ allW := tw_of tw_in3 (i := 235) rfl rfl
theorem tw_3_236 : Cond.code yX1_newAct cX1_newAct 3 (none : Option Jvm.ClassFile.FieldType) ∈ allW := tw_of tw_in3 (i := 236) rfl rfl
theorem tw_3_237 : Cond.methodLink RL 152 yX10_act ∈ allW := tw_of tw_in3 (i := 237) rfl rfl
theorem tw_3_238 : Cond.instanceMethod yX10_act ∈ allW := tw_of tw_in3 (i := 238) rfl rfl
theorem tw_3_239 : Cond.selects RX10 yX10_act yX10_act ∈ allW := tw_of tw_in3 (i := 239) rfl rfl
theorem tw_4_0 : Cond.code yX10_act cX10_act 5 (some .int) ∈ allW := tw_of tw_in4 (i := 0) rfl rfl
theorem tw_4_1 : Cond.methodLink RX10 265 yX10_deltaNumbered ∈ allW := tw_of tw_in4 (i := 1) rfl rfl
theorem tw_4_3 : Cond.instanceMethod yX10_deltaNumbered ∈ allW := tw_of tw_in4 (i := 3) rfl rfl
theorem tw_4_4 : Cond.code yX10_deltaNumbered cX10_deltaNumbered 2 (some (.object "PackDesk$Delta")) ∈ allW := tw_of tw_in4 (i := 4) rfl rfl
theorem tw_4_5 : Cond.methodLink RX10 272 yX1_told ∈ allW := tw_of tw_in4 (i := 5) rfl rfl
theorem tw_4_6 : Cond.instanceMethod yX1_told ∈ allW := tw_of tw_in4 (i := 6) rfl rfl
theorem tw_4_7 : Cond.selects RX1 yX1_told yX1_told ∈ allW := tw_of tw_in4 (i := 7) rfl rfl
theorem tw_4_8 : Cond.code yX1_told cX1_told 2 (some .int) ∈ allW := tw_of tw_in4 (i := 8) rfl rfl
theorem tw_4_9 : Cond.methodLink RX10 274 yX1_toldOfAct ∈ allW := tw_of tw_in4 (i := 9) rfl rfl
theorem tw_4_10 : Cond.instanceMethod yX1_toldOfAct ∈ allW := tw_of tw_in4 (i := 10) rfl rfl
theorem tw_4_11 : Cond.selects RX1 yX1_toldOfAct yX1_toldOfAct ∈ allW := tw_of tw_in4 (i := 11) rfl rfl
theorem tw_4_12 : Cond.code yX1_toldOfAct cX1_toldOfAct 3 (some .int) ∈ allW := tw_of tw_in4 (i := 12) rfl rfl
theorem tw_4_13 : Cond.methodLink RL 156 yX10_apply ∈ allW := tw_of tw_in4 (i := 13) rfl rfl
theorem tw_4_14 : Cond.instanceMethod yX10_apply ∈ allW := tw_of tw_in4 (i := 14) rfl rfl
theorem tw_4_15 : Cond.selects RX10 yX10_apply yX10_apply ∈ allW := tw_of tw_in4 (i := 15) rfl rfl
theorem tw_4_16 : Cond.code yX10_apply cX10_apply 6 (some .int) ∈ allW := tw_of tw_in4 (i := 16) rfl rfl
theorem tw_4_17 : Cond.methodLink RX10 277 yX1_fits ∈ allW := tw_of tw_in4 (i := 17) rfl rfl
theorem tw_4_18 : Cond.instanceMethod yX1_fits ∈ allW := tw_of tw_in4 (i := 18) rfl rfl
theorem tw_4_19 : Cond.selects RX1 yX1_fits yX1_fits ∈ allW := tw_of tw_in4 (i := 19) rfl rfl
theorem tw_4_20 : Cond.code yX1_fits cX1_fits 2 (some .boolean) ∈ allW := tw_of tw_in4 (i := 20) rfl rfl
theorem tw_4_21 : Cond.methodLink RX10 281 yX1_make ∈ allW := tw_of tw_in4 (i := 21) rfl rfl
theorem tw_4_22 : Cond.instanceMethod yX1_make ∈ allW := tw_of tw_in4 (i := 22) rfl rfl
theorem tw_4_23 : Cond.selects RX1 yX1_make yX1_make ∈ allW := tw_of tw_in4 (i := 23) rfl rfl
theorem tw_4_24 : Cond.code yX1_make cX1_make 5 (none : Option Jvm.ClassFile.FieldType) ∈ allW := tw_of tw_in4 (i := 24) rfl rfl
theorem tw_4_25 : Cond.methodLink RX1 75 yX9_appendAll ∈ allW := tw_of tw_in4 (i := 25) rfl rfl
theorem tw_4_26 : Cond.methodLink RL 160 yX10_finding ∈ allW := tw_of tw_in4 (i := 26) rfl rfl
theorem tw_4_27 : Cond.instanceMethod yX10_finding ∈ allW := tw_of tw_in4 (i := 27) rfl rfl
theorem tw_4_28 : Cond.selects RX10 yX10_finding yX10_finding ∈ allW := tw_of tw_in4 (i := 28) rfl rfl
theorem tw_4_29 : Cond.code yX10_finding cX10_finding 1 (some .int) ∈ allW := tw_of tw_in4 (i := 29) rfl rfl
theorem tw_4_30 : Cond.methodLink RL 164 yX10_findings ∈ allW := tw_of tw_in4 (i := 30) rfl rfl
theorem tw_4_31 : Cond.instanceMethod yX10_findings ∈ allW := tw_of tw_in4 (i := 31) rfl rfl
theorem tw_4_32 : Cond.selects RX10 yX10_findings yX10_findings ∈ allW := tw_of tw_in4 (i := 32) rfl rfl
theorem tw_4_33 : Cond.code yX10_findings cX10_findings 2 (some .int) ∈ allW := tw_of tw_in4 (i := 33) rfl rfl
theorem tw_4_34 : Cond.methodLink RL 168 yX10_count ∈ allW := tw_of tw_in4 (i := 34) rfl rfl
theorem tw_4_35 : Cond.instanceMethod yX10_count ∈ allW := tw_of tw_in4 (i := 35) rfl rfl
theorem tw_4_36 : Cond.selects RX10 yX10_count yX10_count ∈ allW := tw_of tw_in4 (i := 36) rfl rfl
theorem tw_4_37 : Cond.code yX10_count cX10_count 2 (some .int) ∈ allW := tw_of tw_in4 (i := 37) rfl rfl
theorem tw_4_38 : Cond.methodLink RL 172 yX10_digest ∈ allW := tw_of tw_in4 (i := 38) rfl rfl
theorem tw_4_39 : Cond.instanceMethod yX10_digest ∈ allW := tw_of tw_in4 (i := 39) rfl rfl
theorem tw_4_40 : Cond.selects RX10 yX10_digest yX10_digest ∈ allW := tw_of tw_in4 (i := 40) rfl rfl
theorem tw_4_41 : Cond.code yX10_digest cX10_digest 4 (some .long) ∈ allW := tw_of tw_in4 (i := 41) rfl rfl
theorem tw_4_42 : Cond.constantLong RX10 293 (19 : Int64) ∈ allW := tw_of tw_in4 (i := 42) rfl rfl
theorem tw_4_43 : Cond.methodLink RX10 295 yX10_mixed ∈ allW := tw_of tw_in4 (i := 43) rfl rfl
theorem tw_4_44 : Cond.static yX10_mixed ∈ allW := tw_of tw_in4 (i := 44) rfl rfl
theorem tw_4_45 : Cond.code yX10_mixed cX10_mixed 4 (some .long) ∈ allW := tw_of tw_in4 (i := 45) rfl rfl
theorem tw_4_46 : Cond.constantLong RX10 321 (31 : Int64) ∈ allW := tw_of tw_in4 (i := 46) rfl rfl
theorem tw_4_47 : Cond.methodLink RX10 299 yX10_mixedWithRow ∈ allW := tw_of tw_in4 (i := 47) rfl rfl
theorem tw_4_48 : Cond.static yX10_mixedWithRow ∈ allW := tw_of tw_in4 (i := 48) rfl rfl
theorem tw_4_49 : Cond.code yX10_mixedWithRow cX10_mixedWithRow 8 (some .long) ∈ allW := tw_of tw_in4 (i := 49) rfl rfl
theorem tw_4_50 : Cond.constantLong RX10 323 (-1 : Int64) ∈ allW := tw_of tw_in4 (i := 50) rfl rfl
theorem tw_4_51 : Cond.methodLink RX10 303 yX10_mixedWithStream ∈ allW := tw_of tw_in4 (i := 51) rfl rfl
theorem tw_4_52 : Cond.static yX10_mixedWithStream ∈ allW := tw_of tw_in4 (i := 52) rfl rfl
theorem tw_4_53 : Cond.code yX10_mixedWithStream cX10_mixedWithStream 3 (some .long) ∈ allW := tw_of tw_in4 (i := 53) rfl rfl
theorem tw_4_54 : Cond.methodLink RX10 307 yX10_mixedWithHouse ∈ allW := tw_of tw_in4 (i := 54) rfl rfl
theorem tw_4_55 : Cond.static yX10_mixedWithHouse ∈ allW := tw_of tw_in4 (i := 55) rfl rfl
theorem tw_4_56 : Cond.code yX10_mixedWithHouse cX10_mixedWithHouse 4 (some .long) ∈ allW := tw_of tw_in4 (i := 56) rfl rfl
theorem tw_4_57 : Cond.classLink RL 10 RX11 ∈ allW := tw_of tw_in4 (i := 57) rfl rfl
theorem tw_4_58 : Cond.instantiable RX11 37 ∈ allW := tw_of tw_in4 (i := 58) rfl rfl
theorem tw_4_59 : Cond.methodLink RL 12 yX11_init ∈ allW := tw_of tw_in4 (i := 59) rfl rfl
theorem tw_4_60 : Cond.instanceMethod yX11_init ∈ allW := tw_of tw_in4 (i := 60) rfl rfl
theorem tw_4_61 : Cond.code yX11_init cX11_init 2 (none : Option Jvm.ClassFile.FieldType) ∈ allW := tw_of tw_in4 (i := 61) rfl rfl
theorem tw_4_62 : Cond.methodLink RX11 1 objectInit ∈ allW := tw_of tw_in4 (i := 62) rfl rfl
theorem tw_4_63 : Cond.fieldLink RX11 87 "PackDeskModel" "latest" "I" ∈ allW := tw_of tw_in4 (i := 63) rfl rfl
theorem tw_4_64 : Cond.fieldLink RX11 7 "PackDeskModel" "came" "[I" ∈ allW := tw_of tw_in4 (i := 64) rfl rfl
theorem tw_4_65 : Cond.fieldLink RX11 161 "PackDeskModel" "seen" "J" ∈ allW := tw_of tw_in4 (i := 65) rfl rfl
theorem tw_4_66 : Cond.fieldLink RX11 137 "PackDeskModel" "rows" "I" ∈ allW := tw_of tw_in4 (i := 66) rfl rfl
theorem tw_4_67 : Cond.fieldLink RX11 13 "PackDeskModel" "rKind" "[I" ∈ allW := tw_of tw_in4 (i := 67) rfl rfl
theorem tw_4_68 : Cond.fieldLink RX11 16 "PackDeskModel" "rSize" "[I" ∈ allW := tw_of tw_in4 (i := 68) rfl rfl
theorem tw_4_69 : Cond.fieldLink RX11 19 "PackDeskModel" "rLost" "[Z" ∈ allW := tw_of tw_in4 (i := 69) rfl rfl
theorem tw_4_70 : Cond.fieldLink RX11 23 "PackDeskModel" "words" "[J" ∈ allW := tw_of tw_in4 (i := 70) rfl rfl
theorem tw_4_71 : Cond.fieldLink RX11 27 "PackDeskModel" "held" "[J" ∈ allW := tw_of tw_in4 (i := 71) rfl rfl
theorem tw_4_72 : Cond.fieldLink RX11 30 "PackDeskModel" "value" "[J" ∈ allW := tw_of tw_in4 (i := 72) rfl rfl
theorem tw_4_73 : Cond.fieldLink RX11 219 "PackDeskModel" "values" "I" ∈ allW := tw_of tw_in4 (i := 73) rfl rfl
theorem tw_4_74 : Cond.fieldLink RX11 33 "PackDeskModel" "made" "[I" ∈ allW := tw_of tw_in4 (i := 74) rfl rfl
theorem tw_4_75 : Cond.fieldLink RX11 214 "PackDeskModel" "madeSize" "I" ∈ allW := tw_of tw_in4 (i := 75) rfl rfl
theorem tw_4_76 : Cond.fieldLink RX11 239 "PackDeskModel" "streams" "I" ∈ allW := tw_of tw_in4 (i := 76) rfl rfl
theorem tw_4_77 : Cond.fieldLink RX11 36 "PackDeskModel" "bytes" "[I" ∈ allW := tw_of tw_in4 (i := 77) rfl rfl
theorem tw_4_78 : Cond.fieldLink RX11 39 "PackDeskModel" "sSize" "[I" ∈ allW := tw_of tw_in4 (i := 78) rfl rfl
theorem tw_4_79 : Cond.fieldLink RX11 42 "PackDeskModel" "sPlace" "[I" ∈ allW := tw_of tw_in4 (i := 79) rfl rfl
theorem tw_4_80 : Cond.fieldLink RX11 45 "PackDeskModel" "sEnded" "[Z" ∈ allW := tw_of tw_in4 (i := 80) rfl rfl
theorem tw_4_81 : Cond.fieldLink RX11 263 "PackDeskModel" "from" "I" ∈ allW := tw_of tw_in4 (i := 81) rfl rfl
theorem tw_4_82 : Cond.fieldLink RX11 266 "PackDeskModel" "to" "I" ∈ allW := tw_of tw_in4 (i := 82) rfl rfl
theorem tw_4_83 : Cond.fieldLink RX11 269 "PackDeskModel" "taken" "J" ∈ allW := tw_of tw_in4 (i := 83) rfl rfl
theorem tw_4_84 : Cond.fieldLink RX11 48 "PackDeskModel" "bodyNumber" "[I" ∈ allW := tw_of tw_in4 (i := 84) rfl rfl
theorem tw_4_85 : Cond.fieldLink RX11 51 "PackDeskModel" "bodySize" "[I" ∈ allW := tw_of tw_in4 (i := 85) rfl rfl
theorem tw_4_86 : Cond.fieldLink RX11 54 "PackDeskModel" "bodyUses" "[I" ∈ allW := tw_of tw_in4 (i := 86) rfl rfl
theorem tw_4_87 : Cond.fieldLink RX11 57 "PackDeskModel" "body" "[I" ∈ allW := tw_of tw_in4 (i := 87) rfl rfl
theorem tw_4_88 : Cond.fieldLink RX11 300 "PackDeskModel" "bodiesEver" "I" ∈ allW := tw_of tw_in4 (i := 88) rfl rfl
theorem tw_4_89 : Cond.fieldLink RX11 284 "PackDeskModel" "houses" "I" ∈ allW := tw_of tw_in4 (i := 89) rfl rfl
theorem tw_4_90 : Cond.fieldLink RX11 60 "PackDeskModel" "entries" "[I" ∈ allW := tw_of tw_in4 (i := 90) rfl rfl
theorem tw_4_91 : Cond.fieldLink RX11 63 "PackDeskModel" "paths" "[J" ∈ allW := tw_of tw_in4 (i := 91) rfl rfl
theorem tw_4_92 : Cond.fieldLink RX11 66 "PackDeskModel" "bodyOf" "[I" ∈ allW := tw_of tw_in4 (i := 92) rfl rfl
theorem tw_4_93 : Cond.fieldLink RX11 306 "PackDeskModel" "deltas" "I" ∈ allW := tw_of tw_in4 (i := 93) rfl rfl
theorem tw_4_94 : Cond.fieldLink RX11 69 "PackDeskModel" "dFrom" "[I" ∈ allW := tw_of tw_in4 (i := 94) rfl rfl
theorem tw_4_95 : Cond.fieldLink RX11 72 "PackDeskModel" "dSum" "[I" ∈ allW := tw_of tw_in4 (i := 95) rfl rfl
theorem tw_4_96 : Cond.fieldLink RX11 75 "PackDeskModel" "dActs" "[I" ∈ allW := tw_of tw_in4 (i := 96) rfl rfl
theorem tw_4_97 : Cond.fieldLink RX11 78 "PackDeskModel" "actPlace" "[I" ∈ allW := tw_of tw_in4 (i := 97) rfl rfl
theorem tw_4_98 : Cond.fieldLink RX11 81 "PackDeskModel" "actSize" "[I" ∈ allW := tw_of tw_in4 (i := 98) rfl rfl
theorem tw_4_99 : Cond.fieldLink RX11 84 "PackDeskModel" "added" "[I" ∈ allW := tw_of tw_in4 (i := 99) rfl rfl
theorem tw_4_100 : Cond.lays RX11 "PackDeskModel" "latest" "I" ∈ allW := tw_of tw_in4 (i := 100) rfl rfl
theorem tw_4_102 : Cond.laysFinal RX11 "PackDeskModel" "came" "[I" ∈ allW := tw_of tw_in4 (i := 102) rfl rfl
theorem tw_4_104 : Cond.lays RX11 "PackDeskModel" "seen" "J" ∈ allW := tw_of tw_in4 (i := 104) rfl rfl
theorem tw_4_106 : Cond.lays RX11 "PackDeskModel" "rows" "I" ∈ allW := tw_of tw_in4 (i := 106) rfl rfl
theorem tw_4_108 : Cond.laysFinal RX11 "PackDeskModel" "rKind" "[I" ∈ allW := tw_of tw_in4 (i := 108) rfl rfl
theorem tw_4_110 : Cond.laysFinal RX11 "PackDeskModel" "rSize" "[I" ∈ allW := tw_of tw_in4 (i := 110) rfl rfl
theorem tw_4_112 : Cond.laysFinal RX11 "PackDeskModel" "rLost" "[Z" ∈ allW := tw_of tw_in4 (i := 112) rfl rfl
theorem tw_4_114 : Cond.laysFinal RX11 "PackDeskModel" "words" "[J" ∈ allW := tw_of tw_in4 (i := 114) rfl rfl
theorem tw_4_116 : Cond.laysFinal RX11 "PackDeskModel" "held" "[J" ∈ allW := tw_of tw_in4 (i := 116) rfl rfl
theorem tw_4_118 : Cond.laysFinal RX11 "PackDeskModel" "value" "[J" ∈ allW := tw_of tw_in4 (i := 118) rfl rfl
theorem tw_4_120 : Cond.lays RX11 "PackDeskModel" "values" "I" ∈ allW := tw_of tw_in4 (i := 120) rfl rfl
theorem tw_4_122 : Cond.laysFinal RX11 "PackDeskModel" "made" "[I" ∈ allW := tw_of tw_in4 (i := 122) rfl rfl
theorem tw_4_124 : Cond.lays RX11 "PackDeskModel" "madeSize" "I" ∈ allW := tw_of tw_in4 (i := 124) rfl rfl
theorem tw_4_126 : Cond.lays RX11 "PackDeskModel" "streams" "I" ∈ allW := tw_of tw_in4 (i := 126) rfl rfl
theorem tw_4_128 : Cond.laysFinal RX11 "PackDeskModel" "bytes" "[I" ∈ allW := tw_of tw_in4 (i := 128) rfl rfl
theorem tw_4_130 : Cond.laysFinal RX11 "PackDeskModel" "sSize" "[I" ∈ allW := tw_of tw_in4 (i := 130) rfl rfl
theorem tw_4_132 : Cond.laysFinal RX11 "PackDeskModel" "sPlace" "[I" ∈ allW := tw_of tw_in4 (i := 132) rfl rfl
theorem tw_4_134 : Cond.laysFinal RX11 "PackDeskModel" "sEnded" "[Z" ∈ allW := tw_of tw_in4 (i := 134) rfl rfl
theorem tw_4_136 : Cond.lays RX11 "PackDeskModel" "from" "I" ∈ allW := tw_of tw_in4 (i := 136) rfl rfl
theorem tw_4_138 : Cond.lays RX11 "PackDeskModel" "to" "I" ∈ allW := tw_of tw_in4 (i := 138) rfl rfl
theorem tw_4_140 : Cond.lays RX11 "PackDeskModel" "taken" "J" ∈ allW := tw_of tw_in4 (i := 140) rfl rfl
theorem tw_4_142 : Cond.laysFinal RX11 "PackDeskModel" "bodyNumber" "[I" ∈ allW := tw_of tw_in4 (i := 142) rfl rfl
theorem tw_4_144 : Cond.laysFinal RX11 "PackDeskModel" "bodySize" "[I" ∈ allW := tw_of tw_in4 (i := 144) rfl rfl
theorem tw_4_146 : Cond.laysFinal RX11 "PackDeskModel" "bodyUses" "[I" ∈ allW := tw_of tw_in4 (i := 146) rfl rfl
theorem tw_4_148 : Cond.laysFinal RX11 "PackDeskModel" "body" "[I" ∈ allW := tw_of tw_in4 (i := 148) rfl rfl
theorem tw_4_150 : Cond.lays RX11 "PackDeskModel" "bodiesEver" "I" ∈ allW := tw_of tw_in4 (i := 150) rfl rfl
theorem tw_4_152 : Cond.lays RX11 "PackDeskModel" "houses" "I" ∈ allW := tw_of tw_in4 (i := 152) rfl rfl
theorem tw_4_154 : Cond.laysFinal RX11 "PackDeskModel" "entries" "[I" ∈ allW := tw_of tw_in4 (i := 154) rfl rfl
theorem tw_4_156 : Cond.laysFinal RX11 "PackDeskModel" "paths" "[J" ∈ allW := tw_of tw_in4 (i := 156) rfl rfl
theorem tw_4_158 : Cond.laysFinal RX11 "PackDeskModel" "bodyOf" "[I" ∈ allW := tw_of tw_in4 (i := 158) rfl rfl
theorem tw_4_160 : Cond.lays RX11 "PackDeskModel" "deltas" "I" ∈ allW := tw_of tw_in4 (i := 160) rfl rfl
theorem tw_4_162 : Cond.laysFinal RX11 "PackDeskModel" "dFrom" "[I" ∈ allW := tw_of tw_in4 (i := 162) rfl rfl
theorem tw_4_164 : Cond.laysFinal RX11 "PackDeskModel" "dSum" "[I" ∈ allW := tw_of tw_in4 (i := 164) rfl rfl
theorem tw_4_166 : Cond.laysFinal RX11 "PackDeskModel" "dActs" "[I" ∈ allW := tw_of tw_in4 (i := 166) rfl rfl
theorem tw_4_168 : Cond.laysFinal RX11 "PackDeskModel" "actPlace" "[I" ∈ allW := tw_of tw_in4 (i := 168) rfl rfl
theorem tw_4_170 : Cond.laysFinal RX11 "PackDeskModel" "actSize" "[I" ∈ allW := tw_of tw_in4 (i := 170) rfl rfl
theorem tw_4_172 : Cond.laysFinal RX11 "PackDeskModel" "added" "[I" ∈ allW := tw_of tw_in4 (i := 172) rfl rfl
theorem tw_4_175 : Cond.arrayClass .boolean ∈ allW := tw_of tw_in4 (i := 175) rfl rfl
theorem tw_4_176 : Cond.methodLink RL 17 yX11_row ∈ allW := tw_of tw_in4 (i := 176) rfl rfl
theorem tw_4_177 : Cond.instanceMethod yX11_row ∈ allW := tw_of tw_in4 (i := 177) rfl rfl
theorem tw_4_178 : Cond.selects RX11 yX11_row yX11_row ∈ allW := tw_of tw_in4 (i := 178) rfl rfl
theorem tw_4_179 : Cond.code yX11_row cX11_row 3 (some .int) ∈ allW := tw_of tw_in4 (i := 179) rfl rfl
theorem tw_4_180 : Cond.constantLong RX11 144 (7 : Int64) ∈ allW := tw_of tw_in4 (i := 180) rfl rfl
theorem tw_4_181 : Cond.methodLink RX11 140 yX11_in ∈ allW := tw_of tw_in4 (i := 181) rfl rfl
theorem tw_4_182 : Cond.static yX11_in ∈ allW := tw_of tw_in4 (i := 182) rfl rfl
theorem tw_4_183 : Cond.code yX11_in cX11_in 6 (some .boolean) ∈ allW := tw_of tw_in4 (i := 183) rfl rfl
theorem tw_4_184 : Cond.methodLink RX11 146 yX11_meets ∈ allW := tw_of tw_in4 (i := 184) rfl rfl
theorem tw_4_186 : Cond.instanceMethod yX11_meets ∈ allW := tw_of tw_in4 (i := 186) rfl rfl
theorem tw_4_187 : Cond.code yX11_meets cX11_meets 2 (some .int) ∈ allW := tw_of tw_in4 (i := 187) rfl rfl
theorem tw_4_188 : Cond.methodLink RX11 150 yX11_newRow ∈ allW := tw_of tw_in4 (i := 188) rfl rfl
theorem tw_4_190 : Cond.instanceMethod yX11_newRow ∈ allW := tw_of tw_in4 (i := 190) rfl rfl
theorem tw_4_191 : Cond.code yX11_newRow cX11_newRow 4 (some .int) ∈ allW := tw_of tw_in4 (i := 191) rfl rfl
theorem tw_4_192 : Cond.methodLink RL 22 yX11_lose ∈ allW := tw_of tw_in4 (i := 192) rfl rfl
theorem tw_4_193 : Cond.instanceMethod yX11_lose ∈ allW := tw_of tw_in4 (i := 193) rfl rfl
theorem tw_4_194 : Cond.selects RX11 yX11_lose yX11_lose ∈ allW := tw_of tw_in4 (i := 194) rfl rfl
theorem tw_4_195 : Cond.code yX11_lose cX11_lose 2 (some .int) ∈ allW := tw_of tw_in4 (i := 195) rfl rfl
theorem tw_4_196 : Cond.methodLink RX11 154 yX11_isRow ∈ allW := tw_of tw_in4 (i := 196) rfl rfl
theorem tw_4_198 : Cond.instanceMethod yX11_isRow ∈ allW := tw_of tw_in4 (i := 198) rfl rfl
theorem tw_4_199 : Cond.code yX11_isRow cX11_isRow 2 (some .boolean) ∈ allW := tw_of tw_in4 (i := 199) rfl rfl
theorem tw_4_200 : Cond.methodLink RL 26 yX11_kind ∈ allW := tw_of tw_in4 (i := 200) rfl rfl
theorem tw_4_201 : Cond.instanceMethod yX11_kind ∈ allW := tw_of tw_in4 (i := 201) rfl rfl
theorem tw_4_202 : Cond.selects RX11 yX11_kind yX11_kind ∈ allW := tw_of tw_in4 (i := 202) rfl rfl
theorem tw_4_203 : Cond.code yX11_kind cX11_kind 2 (some .int) ∈ allW := tw_of tw_in4 (i := 203) rfl rfl
theorem tw_4_204 : Cond.methodLink RL 30 yX11_length ∈ allW := tw_of tw_in4 (i := 204) rfl rfl
theorem tw_4_205 : Cond.instanceMethod yX11_length ∈ allW := tw_of tw_in4 (i := 205) rfl rfl
theorem tw_4_206 : Cond.selects RX11 yX11_length yX11_length ∈ allW := tw_of tw_in4 (i := 206) rfl rfl
theorem tw_4_207 : Cond.code yX11_length cX11_length 2 (some .int) ∈ allW := tw_of tw_in4 (i := 207) rfl rfl
theorem tw_4_208 : Cond.methodLink RL 37 yX11_put ∈ allW := tw_of tw_in4 (i := 208) rfl rfl
theorem tw_4_209 : Cond.instanceMethod yX11_put ∈ allW := tw_of tw_in4 (i := 209) rfl rfl
theorem tw_4_210 : Cond.selects RX11 yX11_put yX11_put ∈ allW := tw_of tw_in4 (i := 210) rfl rfl
theorem tw_4_211 : Cond.code yX11_put cX11_put 6 (some .int) ∈ allW := tw_of tw_in4 (i := 211) rfl rfl
theorem tw_4_212 : Cond.methodLink RX11 158 yX11_against ∈ allW := tw_of tw_in4 (i := 212) rfl rfl
theorem tw_4_214 : Cond.instanceMethod yX11_against ∈ allW := tw_of tw_in4 (i := 214) rfl rfl
theorem tw_4_215 : Cond.code yX11_against cX11_against 3 (some .int) ∈ allW := tw_of tw_in4 (i := 215) rfl rfl
theorem tw_4_216 : Cond.methodLink RX11 127 yX11_cut ∈ allW := tw_of tw_in4 (i := 216) rfl rfl
theorem tw_4_217 : Cond.static yX11_cut ∈ allW := tw_of tw_in4 (i := 217) rfl rfl
theorem tw_4_218 : Cond.code yX11_cut cX11_cut 3 (some .long) ∈ allW := tw_of tw_in4 (i := 218) rfl rfl
theorem tw_4_219 : Cond.methodLink RX11 99 yX11_isGap ∈ allW := tw_of tw_in4 (i := 219) rfl rfl
theorem tw_4_220 : Cond.static yX11_isGap ∈ allW := tw_of tw_in4 (i := 220) rfl rfl
theorem tw_4_221 : Cond.code yX11_isGap cX11_isGap 3 (some .boolean) ∈ allW := tw_of tw_in4 (i := 221) rfl rfl
theorem tw_4_222 : Cond.constantLong RX11 91 (2147483647 : Int64) ∈ allW := tw_of tw_in4 (i := 222) rfl rfl
theorem tw_4_223 : Cond.constantLong RX11 93 (2139095040 : Int64) ∈ allW := tw_of tw_in4 (i := 223) rfl rfl
theorem tw_4_224 : Cond.constantLong RX11 95 (9223372036854775807 : Int64) ∈ allW := tw_of tw_in4 (i := 224) rfl rfl
theorem tw_4_225 : Cond.constantLong RX11 97 (9218868437227405312 : Int64) ∈ allW := tw_of tw_in4 (i := 225) rfl rfl
theorem tw_4_226 : Cond.constantLong RX11 103 (2143289344 : Int64) ∈ allW := tw_of tw_in4 (i := 226) rfl rfl
theorem tw_4_227 : Cond.constantLong RX11 105 (9221120237041090560 : Int64) ∈ allW := tw_of tw_in4 (i := 227) rfl rfl
theorem tw_4_228 : Cond.methodLink RL 41 yX11_get ∈ allW := tw_of tw_in4 (i := 228) rfl rfl
theorem tw_4_229 : Cond.instanceMethod yX11_get ∈ allW := tw_of tw_in4 (i := 229) rfl rfl
theorem tw_4_230 : Cond.selects RX11 yX11_get yX11_get ∈ allW := tw_of tw_in4 (i := 230) rfl rfl
theorem tw_4_231 : Cond.code yX11_get cX11_get 4 (some .int) ∈ allW := tw_of tw_in4 (i := 231) rfl rfl
theorem tw_4_232 : Cond.methodLink RL 46 yX11_copy ∈ allW := tw_of tw_in4 (i := 232) rfl rfl
theorem tw_4_233 : Cond.instanceMethod yX11_copy ∈ allW := tw_of tw_in4 (i := 233) rfl rfl
theorem tw_4_234 : Cond.selects RX11 yX11_copy yX11_copy ∈ allW := tw_of tw_in4 (i := 234) rfl rfl
theorem tw_4_235 : Cond.code yX11_copy cX11_copy 7 (some .int) ∈ allW := tw_of tw_in4 (i := 235) rfl rfl
theorem tw_4_236 : Cond.methodLink RL 51 yX11_compare ∈ allW := tw_of tw_in4 (i := 236) rfl rfl
theorem tw_4_237 : Cond.instanceMethod yX11_compare ∈ allW := tw_of tw_in4 (i := 237) rfl rfl
theorem tw_4_238 : Cond.selects RX11 yX11_compare yX11_compare ∈ allW := tw_of tw_in4 (i := 238) rfl rfl
theorem tw_4_239 : Cond.code yX11_compare cX11_compare 10 (some .int) ∈ allW := tw_of tw_in4 (i := 239) rfl rfl
theorem tw_5_0 : Cond.methodLink RX11 165 yX11_isLike ∈ allW := tw_of tw_in5 (i := 0) rfl rfl
theorem tw_5_1 : Cond.static yX11_isLike ∈ allW := tw_of tw_in5 (i := 1) rfl rfl
theorem tw_5_2 : Cond.code yX11_isLike cX11_isLike 5 (some .boolean) ∈ allW := tw_of tw_in5 (i := 2) rfl rfl
theorem tw_5_3 : Cond.methodLink RX11 131 yX11_real ∈ allW := tw_of tw_in5 (i := 3) rfl rfl
theorem tw_5_4 : Cond.static yX11_real ∈ allW := tw_of tw_in5 (i := 4) rfl rfl
theorem tw_5_5 : Cond.code yX11_real cX11_real 3 (some .double) ∈ allW := tw_of tw_in5 (i := 5) rfl rfl
theorem tw_5_6 : Cond.methodLink RX11 107 ⟨"java/lang/Float", "intBitsToFloat", "(I)F"⟩ ∈ allW := tw_of tw_in5 (i := 6) rfl rfl
theorem tw_5_7 : Cond.static ⟨"java/lang/Float", "intBitsToFloat", "(I)F"⟩ ∈ allW := tw_of tw_in5 (i := 7) rfl rfl
theorem tw_5_8 : Cond.native ⟨"java/lang/Float", "intBitsToFloat", "(I)F"⟩ ∈ allW := tw_of tw_in5 (i := 8) rfl rfl
theorem tw_5_9 : Cond.methodLink RX11 113 ⟨"java/lang/Double", "longBitsToDouble", "(J)D"⟩ ∈ allW := tw_of tw_in5 (i := 9) rfl rfl
theorem tw_5_10 : Cond.static ⟨"java/lang/Double", "longBitsToDouble", "(J)D"⟩ ∈ allW := tw_of tw_in5 (i := 10) rfl rfl
theorem tw_5_11 : Cond.native ⟨"java/lang/Double", "longBitsToDouble", "(J)D"⟩ ∈ allW := tw_of tw_in5 (i := 11) rfl rfl
theorem tw_5_12 : Cond.methodLink RX11 169 yX11_isBelow ∈ allW := tw_of tw_in5 (i := 12) rfl rfl
theorem tw_5_13 : Cond.static yX11_isBelow ∈ allW := tw_of tw_in5 (i := 13) rfl rfl
theorem tw_5_14 : Cond.code yX11_isBelow cX11_isBelow 5 (some .boolean) ∈ allW := tw_of tw_in5 (i := 14) rfl rfl
theorem tw_5_15 : Cond.methodLink RL 55 yX11_shape ∈ allW := tw_of tw_in5 (i := 15) rfl rfl
theorem tw_5_16 : Cond.instanceMethod yX11_shape ∈ allW := tw_of tw_in5 (i := 16) rfl rfl
theorem tw_5_17 : Cond.selects RX11 yX11_shape yX11_shape ∈ allW := tw_of tw_in5 (i := 17) rfl rfl
theorem tw_5_18 : Cond.code yX11_shape cX11_shape 8 (some .int) ∈ allW := tw_of tw_in5 (i := 18) rfl rfl
theorem tw_5_19 : Cond.constantLong RX11 196 (5 : Int64) ∈ allW := tw_of tw_in5 (i := 19) rfl rfl
theorem tw_5_20 : Cond.methodLink RX11 198 yX11_shapedReal ∈ allW := tw_of tw_in5 (i := 20) rfl rfl
theorem tw_5_21 : Cond.static yX11_shapedReal ∈ allW := tw_of tw_in5 (i := 21) rfl rfl
theorem tw_5_22 : Cond.code yX11_shapedReal cX11_shapedReal 4 (some .long) ∈ allW := tw_of tw_in5 (i := 22) rfl rfl
theorem tw_5_23 : Cond.methodLink RX11 182 yX11_signOf ∈ allW := tw_of tw_in5 (i := 23) rfl rfl
theorem tw_5_24 : Cond.static yX11_signOf ∈ allW := tw_of tw_in5 (i := 24) rfl rfl
theorem tw_5_25 : Cond.code yX11_signOf cX11_signOf 1 (some .long) ∈ allW := tw_of tw_in5 (i := 25) rfl rfl
theorem tw_5_26 : Cond.constantLong RX11 172 (-2147483648 : Int64) ∈ allW := tw_of tw_in5 (i := 26) rfl rfl
theorem tw_5_27 : Cond.constantLong RX11 174 (-9223372036854775808 : Int64) ∈ allW := tw_of tw_in5 (i := 27) rfl rfl
theorem tw_5_28 : Cond.constantDouble RX11 190 (13830554455654793216 : UInt64) ∈ allW := tw_of tw_in5 (i := 28) rfl rfl
theorem tw_5_29 : Cond.methodLink RX11 186 yX11_wordOf ∈ allW := tw_of tw_in5 (i := 29) rfl rfl
theorem tw_5_30 : Cond.static yX11_wordOf ∈ allW := tw_of tw_in5 (i := 30) rfl rfl
theorem tw_5_31 : Cond.code yX11_wordOf cX11_wordOf 3 (some .long) ∈ allW := tw_of tw_in5 (i := 31) rfl rfl
theorem tw_5_32 : Cond.methodLink RX11 119 yJxf58ca_floatToIntBits_5c35a ∈ allW := tw_of tw_in5 (i := 32) rfl rfl
theorem tw_5_33 : Cond.static yJxf58ca_floatToIntBits_5c35a ∈ allW := tw_of tw_in5 (i := 33) rfl rfl
theorem tw_5_34 : Cond.code yJxf58ca_floatToIntBits_5c35a cJxf58ca_floatToIntBits_5c35a 1 (some .int) ∈ allW := tw_of tw_in5 (i := 34) rfl rfl
theorem tw_5_35 : Cond.methodLink RJxf58ca 59 yJxf58ca_isNaN_12338 ∈ allW := tw_of tw_in5 (i := 35) rfl rfl
theorem tw_5_36 : Cond.static yJxf58ca_isNaN_12338 ∈ allW := tw_of tw_in5 (i := 36) rfl rfl
theorem tw_5_37 : Cond.code yJxf58ca_isNaN_12338 cJxf58ca_isNaN_12338 1 (some .boolean) ∈ allW := tw_of tw_in5 (i := 37) rfl rfl
theorem tw_5_38 : Cond.methodLink RJxf58ca 74 ⟨"java/lang/Float", "floatToRawIntBits", "(F)I"⟩ ∈ allW := tw_of tw_in5 (i := 38) rfl rfl
theorem tw_5_39 : Cond.static ⟨"java/lang/Float", "floatToRawIntBits", "(F)I"⟩ ∈ allW := tw_of tw_in5 (i := 39) rfl rfl
theorem tw_5_40 : Cond.native ⟨"java/lang/Float", "floatToRawIntBits", "(F)I"⟩ ∈ allW := tw_of tw_in5 (i := 40) rfl rfl
theorem tw_5_41 : Cond.constant RJxf58ca 77 (2143289344 : Int32) ∈ allW := tw_of tw_in5 (i := 41) rfl rfl
theorem tw_5_42 : Cond.methodLink RX11 123 yJxe99ae_doubleToLongBits_ccdee ∈ allW := tw_of tw_in5 (i := 42) rfl rfl
theorem tw_5_43 : Cond.static yJxe99ae_doubleToLongBits_ccdee ∈ allW := tw_of tw_in5 (i := 43) rfl rfl
theorem tw_5_44 : Cond.code yJxe99ae_doubleToLongBits_ccdee cJxe99ae_doubleToLongBits_ccdee 2 (some .long) ∈ allW := tw_of tw_in5 (i := 44) rfl rfl
theorem tw_5_45 : Cond.methodLink RJxe99ae 122 yJxe99ae_isNaN_b9ae7 ∈ allW := tw_of tw_in5 (i := 45) rfl rfl
theorem tw_5_46 : Cond.static yJxe99ae_isNaN_b9ae7 ∈ allW := tw_of tw_in5 (i := 46) rfl rfl
theorem tw_5_47 : Cond.code yJxe99ae_isNaN_b9ae7 cJxe99ae_isNaN_b9ae7 2 (some .boolean) ∈ allW := tw_of tw_in5 (i := 47) rfl rfl
theorem tw_5_48 : Cond.methodLink RJxe99ae 134 ⟨"java/lang/Double", "doubleToRawLongBits", "(D)J"⟩ ∈ allW := tw_of tw_in5 (i := 48) rfl rfl
theorem tw_5_49 : Cond.static ⟨"java/lang/Double", "doubleToRawLongBits", "(D)J"⟩ ∈ allW := tw_of tw_in5 (i := 49) rfl rfl
theorem tw_5_50 : Cond.native ⟨"java/lang/Double", "doubleToRawLongBits", "(D)J"⟩ ∈ allW := tw_of tw_in5 (i := 50) rfl rfl
theorem tw_5_51 : Cond.constantLong RJxe99ae 137 (9221120237041090560 : Int64) ∈ allW := tw_of tw_in5 (i := 51) rfl rfl
theorem tw_5_52 : Cond.methodLink RX11 192 yX11_rounded ∈ allW := tw_of tw_in5 (i := 52) rfl rfl
theorem tw_5_53 : Cond.static yX11_rounded ∈ allW := tw_of tw_in5 (i := 53) rfl rfl
theorem tw_5_54 : Cond.code yX11_rounded cX11_rounded 14 (some .long) ∈ allW := tw_of tw_in5 (i := 54) rfl rfl
theorem tw_5_55 : Cond.constantDouble RX11 176 (4841369599423283200 : UInt64) ∈ allW := tw_of tw_in5 (i := 55) rfl rfl
theorem tw_5_56 : Cond.constantDouble RX11 178 (14064741636278059008 : UInt64) ∈ allW := tw_of tw_in5 (i := 56) rfl rfl
theorem tw_5_57 : Cond.constantDouble RX11 180 (4602678819172646912 : UInt64) ∈ allW := tw_of tw_in5 (i := 57) rfl rfl
theorem tw_5_58 : Cond.methodLink RL 59 yX11_rest ∈ allW := tw_of tw_in5 (i := 58) rfl rfl
theorem tw_5_59 : Cond.instanceMethod yX11_rest ∈ allW := tw_of tw_in5 (i := 59) rfl rfl
theorem tw_5_60 : Cond.selects RX11 yX11_rest yX11_rest ∈ allW := tw_of tw_in5 (i := 60) rfl rfl
theorem tw_5_61 : Cond.code yX11_rest cX11_rest 11 (some .int) ∈ allW := tw_of tw_in5 (i := 61) rfl rfl
theorem tw_5_62 : Cond.methodLink RX11 201 yX11_kMask ∈ allW := tw_of tw_in5 (i := 62) rfl rfl
theorem tw_5_63 : Cond.static yX11_kMask ∈ allW := tw_of tw_in5 (i := 63) rfl rfl
theorem tw_5_64 : Cond.code yX11_kMask cX11_kMask 1 (some .long) ∈ allW := tw_of tw_in5 (i := 64) rfl rfl
theorem tw_5_65 : Cond.methodLink RX11 204 yX11_kEndless ∈ allW := tw_of tw_in5 (i := 65) rfl rfl
theorem tw_5_66 : Cond.static yX11_kEndless ∈ allW := tw_of tw_in5 (i := 66) rfl rfl
theorem tw_5_67 : Cond.code yX11_kEndless cX11_kEndless 1 (some .long) ∈ allW := tw_of tw_in5 (i := 67) rfl rfl
theorem tw_5_68 : Cond.methodLink RL 63 yX11_most ∈ allW := tw_of tw_in5 (i := 68) rfl rfl
theorem tw_5_69 : Cond.instanceMethod yX11_most ∈ allW := tw_of tw_in5 (i := 69) rfl rfl
theorem tw_5_70 : Cond.selects RX11 yX11_most yX11_most ∈ allW := tw_of tw_in5 (i := 70) rfl rfl
theorem tw_5_71 : Cond.code yX11_most cX11_most 9 (some .int) ∈ allW := tw_of tw_in5 (i := 71) rfl rfl
theorem tw_5_72 : Cond.constantLong RX11 207 (2 : Int64) ∈ allW := tw_of tw_in5 (i := 72) rfl rfl
theorem tw_5_73 : Cond.methodLink RX11 209 yX11_rank ∈ allW := tw_of tw_in5 (i := 73) rfl rfl
theorem tw_5_74 : Cond.static yX11_rank ∈ allW := tw_of tw_in5 (i := 74) rfl rfl
theorem tw_5_75 : Cond.code yX11_rank cX11_rank 3 (some .long) ∈ allW := tw_of tw_in5 (i := 75) rfl rfl
theorem tw_5_76 : Cond.constantLong RX11 135 (-1 : Int64) ∈ allW := tw_of tw_in5 (i := 76) rfl rfl
theorem tw_5_77 : Cond.methodLink RL 68 yX11_seen ∈ allW := tw_of tw_in5 (i := 77) rfl rfl
theorem tw_5_78 : Cond.instanceMethod yX11_seen ∈ allW := tw_of tw_in5 (i := 78) rfl rfl
theorem tw_5_79 : Cond.selects RX11 yX11_seen yX11_seen ∈ allW := tw_of tw_in5 (i := 79) rfl rfl
theorem tw_5_80 : Cond.code yX11_seen cX11_seen 1 (some .long) ∈ allW := tw_of tw_in5 (i := 80) rfl rfl
theorem tw_5_81 : Cond.methodLink RL 73 yX11_stream ∈ allW := tw_of tw_in5 (i := 81) rfl rfl
theorem tw_5_82 : Cond.instanceMethod yX11_stream ∈ allW := tw_of tw_in5 (i := 82) rfl rfl
theorem tw_5_83 : Cond.selects RX11 yX11_stream yX11_stream ∈ allW := tw_of tw_in5 (i := 83) rfl rfl
theorem tw_5_84 : Cond.code yX11_stream cX11_stream 1 (some .int) ∈ allW := tw_of tw_in5 (i := 84) rfl rfl
theorem tw_5_85 : Cond.methodLink RX11 243 yX11_newStream ∈ allW := tw_of tw_in5 (i := 85) rfl rfl
theorem tw_5_87 : Cond.instanceMethod yX11_newStream ∈ allW := tw_of tw_in5 (i := 87) rfl rfl
theorem tw_5_88 : Cond.code yX11_newStream cX11_newStream 1 (some .int) ∈ allW := tw_of tw_in5 (i := 88) rfl rfl
theorem tw_5_89 : Cond.methodLink RL 77 yX11_write ∈ allW := tw_of tw_in5 (i := 89) rfl rfl
theorem tw_5_90 : Cond.instanceMethod yX11_write ∈ allW := tw_of tw_in5 (i := 90) rfl rfl
theorem tw_5_91 : Cond.selects RX11 yX11_write yX11_write ∈ allW := tw_of tw_in5 (i := 91) rfl rfl
theorem tw_5_92 : Cond.code yX11_write cX11_write 6 (some .int) ∈ allW := tw_of tw_in5 (i := 92) rfl rfl
theorem tw_5_93 : Cond.methodLink RX11 247 yX11_isStream ∈ allW := tw_of tw_in5 (i := 93) rfl rfl
theorem tw_5_95 : Cond.instanceMethod yX11_isStream ∈ allW := tw_of tw_in5 (i := 95) rfl rfl
theorem tw_5_96 : Cond.code yX11_isStream cX11_isStream 2 (some .boolean) ∈ allW := tw_of tw_in5 (i := 96) rfl rfl
theorem tw_5_97 : Cond.constantLong RX11 250 (4 : Int64) ∈ allW := tw_of tw_in5 (i := 97) rfl rfl
theorem tw_5_98 : Cond.methodLink RX11 252 yX11_codeRow ∈ allW := tw_of tw_in5 (i := 98) rfl rfl
theorem tw_5_100 : Cond.instanceMethod yX11_codeRow ∈ allW := tw_of tw_in5 (i := 100) rfl rfl
theorem tw_5_101 : Cond.code yX11_codeRow cX11_codeRow 4 (none : Option Jvm.ClassFile.FieldType) ∈ allW := tw_of tw_in5 (i := 101) rfl rfl
theorem tw_5_102 : Cond.methodLink RX11 235 yX11_code ∈ allW := tw_of tw_in5 (i := 102) rfl rfl
theorem tw_5_104 : Cond.instanceMethod yX11_code ∈ allW := tw_of tw_in5 (i := 104) rfl rfl
theorem tw_5_105 : Cond.code yX11_code cX11_code 4 (none : Option Jvm.ClassFile.FieldType) ∈ allW := tw_of tw_in5 (i := 105) rfl rfl
theorem tw_5_106 : Cond.methodLink RX11 222 yX11_plain ∈ allW := tw_of tw_in5 (i := 106) rfl rfl
theorem tw_5_108 : Cond.instanceMethod yX11_plain ∈ allW := tw_of tw_in5 (i := 108) rfl rfl
theorem tw_5_109 : Cond.code yX11_plain cX11_plain 5 (none : Option Jvm.ClassFile.FieldType) ∈ allW := tw_of tw_in5 (i := 109) rfl rfl
theorem tw_5_110 : Cond.constantLong RX11 212 (-128 : Int64) ∈ allW := tw_of tw_in5 (i := 110) rfl rfl
theorem tw_5_111 : Cond.constantLong RX11 217 (127 : Int64) ∈ allW := tw_of tw_in5 (i := 111) rfl rfl
theorem tw_5_112 : Cond.methodLink RX11 226 yX11_differences ∈ allW := tw_of tw_in5 (i := 112) rfl rfl
theorem tw_5_114 : Cond.instanceMethod yX11_differences ∈ allW := tw_of tw_in5 (i := 114) rfl rfl
theorem tw_5_115 : Cond.code yX11_differences cX11_differences 2 (none : Option Jvm.ClassFile.FieldType) ∈ allW := tw_of tw_in5 (i := 115) rfl rfl
theorem tw_5_116 : Cond.methodLink RX11 229 yX11_wide ∈ allW := tw_of tw_in5 (i := 116) rfl rfl
theorem tw_5_118 : Cond.instanceMethod yX11_wide ∈ allW := tw_of tw_in5 (i := 118) rfl rfl
theorem tw_5_119 : Cond.code yX11_wide cX11_wide 4 (none : Option Jvm.ClassFile.FieldType) ∈ allW := tw_of tw_in5 (i := 119) rfl rfl
theorem tw_5_120 : Cond.methodLink RX11 232 yX11_sums ∈ allW := tw_of tw_in5 (i := 120) rfl rfl
theorem tw_5_122 : Cond.instanceMethod yX11_sums ∈ allW := tw_of tw_in5 (i := 122) rfl rfl
theorem tw_5_123 : Cond.code yX11_sums cX11_sums 2 (none : Option Jvm.ClassFile.FieldType) ∈ allW := tw_of tw_in5 (i := 123) rfl rfl
theorem tw_5_124 : Cond.methodLink RX11 256 yX11_lay ∈ allW := tw_of tw_in5 (i := 124) rfl rfl
theorem tw_5_126 : Cond.instanceMethod yX11_lay ∈ allW := tw_of tw_in5 (i := 126) rfl rfl
theorem tw_5_127 : Cond.code yX11_lay cX11_lay 3 (none : Option Jvm.ClassFile.FieldType) ∈ allW := tw_of tw_in5 (i := 127) rfl rfl
theorem tw_5_128 : Cond.methodLink RX11 259 yX11_sumOf ∈ allW := tw_of tw_in5 (i := 128) rfl rfl
theorem tw_5_130 : Cond.instanceMethod yX11_sumOf ∈ allW := tw_of tw_in5 (i := 130) rfl rfl
theorem tw_5_131 : Cond.code yX11_sumOf cX11_sumOf 6 (some .int) ∈ allW := tw_of tw_in5 (i := 131) rfl rfl
theorem tw_5_132 : Cond.constant RX11 242 (65535 : Int32) ∈ allW := tw_of tw_in5 (i := 132) rfl rfl
theorem tw_5_133 : Cond.methodLink RL 81 yX11_cost ∈ allW := tw_of tw_in5 (i := 133) rfl rfl
theorem tw_5_134 : Cond.instanceMethod yX11_cost ∈ allW := tw_of tw_in5 (i := 134) rfl rfl
theorem tw_5_135 : Cond.selects RX11 yX11_cost yX11_cost ∈ allW := tw_of tw_in5 (i := 135) rfl rfl
theorem tw_5_136 : Cond.code yX11_cost cX11_cost 3 (some .int) ∈ allW := tw_of tw_in5 (i := 136) rfl rfl
theorem tw_5_137 : Cond.methodLink RL 85 yX11_best ∈ allW := tw_of tw_in5 (i := 137) rfl rfl
theorem tw_5_138 : Cond.instanceMethod yX11_best ∈ allW := tw_of tw_in5 (i := 138) rfl rfl
theorem tw_5_139 : Cond.selects RX11 yX11_best yX11_best ∈ allW := tw_of tw_in5 (i := 139) rfl rfl
theorem tw_5_140 : Cond.code yX11_best cX11_best 5 (some .int) ∈ allW := tw_of tw_in5 (i := 140) rfl rfl
theorem tw_5_141 : Cond.methodLink RL 89 yX11_add ∈ allW := tw_of tw_in5 (i := 141) rfl rfl
theorem tw_5_142 : Cond.instanceMethod yX11_add ∈ allW := tw_of tw_in5 (i := 142) rfl rfl
theorem tw_5_143 : Cond.selects RX11 yX11_add yX11_add ∈ allW := tw_of tw_in5 (i := 143) rfl rfl
theorem tw_5_144 : Cond.code yX11_add cX11_add 3 (some .int) ∈ allW := tw_of tw_in5 (i := 144) rfl rfl
theorem tw_5_145 : Cond.methodLink RL 93 yX11_end ∈ allW := tw_of tw_in5 (i := 145) rfl rfl
theorem tw_5_146 : Cond.instanceMethod yX11_end ∈ allW := tw_of tw_in5 (i := 146) rfl rfl
theorem tw_5_147 : Cond.selects RX11 yX11_end yX11_end ∈ allW := tw_of tw_in5 (i := 147) rfl rfl
theorem tw_5_148 : Cond.code yX11_end cX11_end 2 (some .int) ∈ allW := tw_of tw_in5 (i := 148) rfl rfl
theorem tw_5_149 : Cond.methodLink RL 97 yX11_about ∈ allW := tw_of tw_in5 (i := 149) rfl rfl
theorem tw_5_150 : Cond.instanceMethod yX11_about ∈ allW := tw_of tw_in5 (i := 150) rfl rfl
theorem tw_5_151 : Cond.selects RX11 yX11_about yX11_about ∈ allW := tw_of tw_in5 (i := 151) rfl rfl
theorem tw_5_152 : Cond.code yX11_about cX11_about 3 (some .int) ∈ allW := tw_of tw_in5 (i := 152) rfl rfl
theorem tw_5_153 : Cond.methodLink RL 101 yX11_at ∈ allW := tw_of tw_in5 (i := 153) rfl rfl
theorem tw_5_154 : Cond.instanceMethod yX11_at ∈ allW := tw_of tw_in5 (i := 154) rfl rfl
theorem tw_5_155 : Cond.selects RX11 yX11_at yX11_at ∈ allW := tw_of tw_in5 (i := 155) rfl rfl
theorem tw_5_156 : Cond.code yX11_at cX11_at 3 (some .int) ∈ allW := tw_of tw_in5 (i := 156) rfl rfl
theorem tw_5_157 : Cond.methodLink RL 105 yX11_harm ∈ allW := tw_of tw_in5 (i := 157) rfl rfl
theorem tw_5_158 : Cond.instanceMethod yX11_harm ∈ allW := tw_of tw_in5 (i := 158) rfl rfl
theorem tw_5_159 : Cond.selects RX11 yX11_harm yX11_harm ∈ allW := tw_of tw_in5 (i := 159) rfl rfl
theorem tw_5_160 : Cond.code yX11_harm cX11_harm 4 (some .int) ∈ allW := tw_of tw_in5 (i := 160) rfl rfl
theorem tw_5_161 : Cond.methodLink RL 109 yX11_seek ∈ allW := tw_of tw_in5 (i := 161) rfl rfl
theorem tw_5_162 : Cond.instanceMethod yX11_seek ∈ allW := tw_of tw_in5 (i := 162) rfl rfl
theorem tw_5_163 : Cond.selects RX11 yX11_seek yX11_seek ∈ allW := tw_of tw_in5 (i := 163) rfl rfl
theorem tw_5_164 : Cond.code yX11_seek cX11_seek 4 (some .int) ∈ allW := tw_of tw_in5 (i := 164) rfl rfl
theorem tw_5_165 : Cond.methodLink RL 113 yX11_read ∈ allW := tw_of tw_in5 (i := 165) rfl rfl
theorem tw_5_166 : Cond.instanceMethod yX11_read ∈ allW := tw_of tw_in5 (i := 166) rfl rfl
theorem tw_5_167 : Cond.selects RX11 yX11_read yX11_read ∈ allW := tw_of tw_in5 (i := 167) rfl rfl
theorem tw_5_168 : Cond.code yX11_read cX11_read 5 (some .int) ∈ allW := tw_of tw_in5 (i := 168) rfl rfl
theorem tw_5_169 : Cond.methodLink RX11 281 yX11_piece ∈ allW := tw_of tw_in5 (i := 169) rfl rfl
theorem tw_5_171 : Cond.instanceMethod yX11_piece ∈ allW := tw_of tw_in5 (i := 171) rfl rfl
theorem tw_5_172 : Cond.code yX11_piece cX11_piece 11 (some .int) ∈ allW := tw_of tw_in5 (i := 172) rfl rfl
theorem tw_5_173 : Cond.methodLink RX11 277 yX11_decode ∈ allW := tw_of tw_in5 (i := 173) rfl rfl
theorem tw_5_175 : Cond.instanceMethod yX11_decode ∈ allW := tw_of tw_in5 (i := 175) rfl rfl
theorem tw_5_176 : Cond.code yX11_decode cX11_decode 8 (some .boolean) ∈ allW := tw_of tw_in5 (i := 176) rfl rfl
theorem tw_5_177 : Cond.constantLong RX11 272 (8 : Int64) ∈ allW := tw_of tw_in5 (i := 177) rfl rfl
theorem tw_5_178 : Cond.methodLink RX11 274 yX11_takes ∈ allW := tw_of tw_in5 (i := 178) rfl rfl
theorem tw_5_180 : Cond.instanceMethod yX11_takes ∈ allW := tw_of tw_in5 (i := 180) rfl rfl
theorem tw_5_181 : Cond.code yX11_takes cX11_takes 6 (some .boolean) ∈ allW := tw_of tw_in5 (i := 181) rfl rfl
theorem tw_5_182 : Cond.methodLink RL 117 yX11_pieces ∈ allW := tw_of tw_in5 (i := 182) rfl rfl
theorem tw_5_183 : Cond.instanceMethod yX11_pieces ∈ allW := tw_of tw_in5 (i := 183) rfl rfl
theorem tw_5_184 : Cond.selects RX11 yX11_pieces yX11_pieces ∈ allW := tw_of tw_in5 (i := 184) rfl rfl
theorem tw_5_185 : Cond.code yX11_pieces cX11_pieces 4 (some .int) ∈ allW := tw_of tw_in5 (i := 185) rfl rfl
theorem tw_5_186 : Cond.methodLink RL 121 yX11_house ∈ allW := tw_of tw_in5 (i := 186) rfl rfl
theorem tw_5_187 : Cond.instanceMethod yX11_house ∈ allW := tw_of tw_in5 (i := 187) rfl rfl
theorem tw_5_188 : Cond.selects RX11 yX11_house yX11_house ∈ allW := tw_of tw_in5 (i := 188) rfl rfl
theorem tw_5_189 : Cond.code yX11_house cX11_house 1 (some .int) ∈ allW := tw_of tw_in5 (i := 189) rfl rfl
theorem tw_5_190 : Cond.methodLink RL 126 yX11_keep ∈ allW := tw_of tw_in5 (i := 190) rfl rfl
theorem tw_5_191 : Cond.instanceMethod yX11_keep ∈ allW := tw_of tw_in5 (i := 191) rfl rfl
theorem tw_5_192 : Cond.selects RX11 yX11_keep yX11_keep ∈ allW := tw_of tw_in5 (i := 192) rfl rfl
theorem tw_5_193 : Cond.code yX11_keep cX11_keep 8 (some .int) ∈ allW := tw_of tw_in5 (i := 193) rfl rfl
theorem tw_5_194 : Cond.methodLink RX11 287 yX11_isHouse ∈ allW := tw_of tw_in5 (i := 194) rfl rfl
theorem tw_5_196 : Cond.instanceMethod yX11_isHouse ∈ allW := tw_of tw_in5 (i := 196) rfl rfl
theorem tw_5_197 : Cond.code yX11_isHouse cX11_isHouse 2 (some .boolean) ∈ allW := tw_of tw_in5 (i := 197) rfl rfl
theorem tw_5_198 : Cond.methodLink RX11 290 yX11_entry ∈ allW := tw_of tw_in5 (i := 198) rfl rfl
theorem tw_5_200 : Cond.instanceMethod yX11_entry ∈ allW := tw_of tw_in5 (i := 200) rfl rfl
theorem tw_5_201 : Cond.code yX11_entry cX11_entry 5 (some .int) ∈ allW := tw_of tw_in5 (i := 201) rfl rfl
theorem tw_5_202 : Cond.methodLink RX11 294 yX11_likeBody ∈ allW := tw_of tw_in5 (i := 202) rfl rfl
theorem tw_5_204 : Cond.instanceMethod yX11_likeBody ∈ allW := tw_of tw_in5 (i := 204) rfl rfl
theorem tw_5_205 : Cond.code yX11_likeBody cX11_likeBody 5 (some .int) ∈ allW := tw_of tw_in5 (i := 205) rfl rfl
theorem tw_5_206 : Cond.methodLink RX11 297 yX11_freeBody ∈ allW := tw_of tw_in5 (i := 206) rfl rfl
theorem tw_5_208 : Cond.instanceMethod yX11_freeBody ∈ allW := tw_of tw_in5 (i := 208) rfl rfl
theorem tw_5_209 : Cond.code yX11_freeBody cX11_freeBody 2 (some .int) ∈ allW := tw_of tw_in5 (i := 209) rfl rfl
theorem tw_5_210 : Cond.methodLink RX11 303 yX11_leave ∈ allW := tw_of tw_in5 (i := 210) rfl rfl
theorem tw_5_212 : Cond.instanceMethod yX11_leave ∈ allW := tw_of tw_in5 (i := 212) rfl rfl
theorem tw_5_213 : Cond.code yX11_leave cX11_leave 2 (none : Option Jvm.ClassFile.FieldType) ∈ allW := tw_of tw_in5 (i := 213) rfl rfl
theorem tw_5_214 : Cond.methodLink RL 131 yX11_find ∈ allW := tw_of tw_in5 (i := 214) rfl rfl
theorem tw_5_215 : Cond.instanceMethod yX11_find ∈ allW := tw_of tw_in5 (i := 215) rfl rfl
theorem tw_5_216 : Cond.selects RX11 yX11_find yX11_find ∈ allW := tw_of tw_in5 (i := 216) rfl rfl
theorem tw_5_217 : Cond.code yX11_find cX11_find 5 (some .int) ∈ allW := tw_of tw_in5 (i := 217) rfl rfl
theorem tw_5_218 : Cond.methodLink RL 135 yX11_drop ∈ allW := tw_of tw_in5 (i := 218) rfl rfl
theorem tw_5_219 : Cond.instanceMethod yX11_drop ∈ allW := tw_of tw_in5 (i := 219) rfl rfl
theorem tw_5_220 : Cond.selects RX11 yX11_drop yX11_drop ∈ allW := tw_of tw_in5 (i := 220) rfl rfl
theorem tw_5_221 : Cond.code yX11_drop cX11_drop 7 (some .int) ∈ allW := tw_of tw_in5 (i := 221) rfl rfl
theorem tw_5_222 : Cond.methodLink RL 139 yX11_list ∈ allW := tw_of tw_in5 (i := 222) rfl rfl
theorem tw_5_223 : Cond.instanceMethod yX11_list ∈ allW := tw_of tw_in5 (i := 223) rfl rfl
theorem tw_5_224 : Cond.selects RX11 yX11_list yX11_list ∈ allW := tw_of tw_in5 (i := 224) rfl rfl
theorem tw_5_225 : Cond.code yX11_list cX11_list 3 (some .int) ∈ allW := tw_of tw_in5 (i := 225) rfl rfl
theorem tw_5_226 : Cond.methodLink RL 143 yX11_take ∈ allW := tw_of tw_in5 (i := 226) rfl rfl
theorem tw_5_227 : Cond.instanceMethod yX11_take ∈ allW := tw_of tw_in5 (i := 227) rfl rfl
theorem tw_5_228 : Cond.selects RX11 yX11_take yX11_take ∈ allW := tw_of tw_in5 (i := 228) rfl rfl
theorem tw_5_229 : Cond.code yX11_take cX11_take 8 (some .int) ∈ allW := tw_of tw_in5 (i := 229) rfl rfl
theorem tw_5_230 : Cond.methodLink RL 147 yX11_uses ∈ allW := tw_of tw_in5 (i := 230) rfl rfl
theorem tw_5_231 : Cond.instanceMethod yX11_uses ∈ allW := tw_of tw_in5 (i := 231) rfl rfl
theorem tw_5_232 : Cond.selects RX11 yX11_uses yX11_uses ∈ allW := tw_of tw_in5 (i := 232) rfl rfl
theorem tw_5_233 : Cond.code yX11_uses cX11_uses 4 (some .int) ∈ allW := tw_of tw_in5 (i := 233) rfl rfl
theorem tw_5_234 : Cond.methodLink RL 151 yX11_delta ∈ allW := tw_of tw_in5 (i := 234) rfl rfl
theorem tw_5_235 : Cond.instanceMethod yX11_delta ∈ allW := tw_of tw_in5 (i := 235) rfl rfl
theorem tw_5_236 : Cond.selects RX11 yX11_delta yX11_delta ∈ allW := tw_of tw_in5 (i := 236) rfl rfl
theorem tw_5_237 : Cond.code yX11_delta cX11_delta 11 (some .int) ∈ allW := tw_of tw_in5 (i := 237) rfl rfl
theorem tw_5_238 : Cond.methodLink RX11 309 yX11_matching ∈ allW := tw_of tw_in5 (i := 238) rfl rfl
theorem tw_6_0 : Cond.instanceMethod yX11_matching ∈ allW := tw_of tw_in6 (i := 0) rfl rfl
theorem tw_6_1 : Cond.code yX11_matching cX11_matching 6 (some .int) ∈ allW := tw_of tw_in6 (i := 1) rfl rfl
theorem tw_6_2 : Cond.methodLink RL 155 yX11_act ∈ allW := tw_of tw_in6 (i := 2) rfl rfl
theorem tw_6_3 : Cond.instanceMethod yX11_act ∈ allW := tw_of tw_in6 (i := 3) rfl rfl
theorem tw_6_4 : Cond.selects RX11 yX11_act yX11_act ∈ allW := tw_of tw_in6 (i := 4) rfl rfl
theorem tw_6_5 : Cond.code yX11_act cX11_act 5 (some .int) ∈ allW := tw_of tw_in6 (i := 5) rfl rfl
theorem tw_6_6 : Cond.methodLink RX11 313 yX11_isDelta ∈ allW := tw_of tw_in6 (i := 6) rfl rfl
theorem tw_6_8 : Cond.instanceMethod yX11_isDelta ∈ allW := tw_of tw_in6 (i := 8) rfl rfl
theorem tw_6_9 : Cond.code yX11_isDelta cX11_isDelta 2 (some .boolean) ∈ allW := tw_of tw_in6 (i := 9) rfl rfl
theorem tw_6_10 : Cond.methodLink RX11 316 yX11_total ∈ allW := tw_of tw_in6 (i := 10) rfl rfl
theorem tw_6_12 : Cond.instanceMethod yX11_total ∈ allW := tw_of tw_in6 (i := 12) rfl rfl
theorem tw_6_13 : Cond.code yX11_total cX11_total 5 (some .int) ∈ allW := tw_of tw_in6 (i := 13) rfl rfl
theorem tw_6_14 : Cond.methodLink RL 159 yX11_apply ∈ allW := tw_of tw_in6 (i := 14) rfl rfl
theorem tw_6_15 : Cond.instanceMethod yX11_apply ∈ allW := tw_of tw_in6 (i := 15) rfl rfl
theorem tw_6_16 : Cond.selects RX11 yX11_apply yX11_apply ∈ allW := tw_of tw_in6 (i := 16) rfl rfl
theorem tw_6_17 : Cond.code yX11_apply cX11_apply 8 (some .int) ∈ allW := tw_of tw_in6 (i := 17) rfl rfl
theorem tw_6_18 : Cond.methodLink RL 163 yX11_finding ∈ allW := tw_of tw_in6 (i := 18) rfl rfl
theorem tw_6_19 : Cond.instanceMethod yX11_finding ∈ allW := tw_of tw_in6 (i := 19) rfl rfl
theorem tw_6_20 : Cond.selects RX11 yX11_finding yX11_finding ∈ allW := tw_of tw_in6 (i := 20) rfl rfl
theorem tw_6_21 : Cond.code yX11_finding cX11_finding 1 (some .int) ∈ allW := tw_of tw_in6 (i := 21) rfl rfl
theorem tw_6_22 : Cond.methodLink RL 167 yX11_findings ∈ allW := tw_of tw_in6 (i := 22) rfl rfl
theorem tw_6_23 : Cond.instanceMethod yX11_findings ∈ allW := tw_of tw_in6 (i := 23) rfl rfl
theorem tw_6_24 : Cond.selects RX11 yX11_findings yX11_findings ∈ allW := tw_of tw_in6 (i := 24) rfl rfl
theorem tw_6_25 : Cond.code yX11_findings cX11_findings 2 (some .int) ∈ allW := tw_of tw_in6 (i := 25) rfl rfl
theorem tw_6_26 : Cond.constantLong RX11 320 (9 : Int64) ∈ allW := tw_of tw_in6 (i := 26) rfl rfl
theorem tw_6_27 : Cond.methodLink RL 171 yX11_count ∈ allW := tw_of tw_in6 (i := 27) rfl rfl
theorem tw_6_28 : Cond.instanceMethod yX11_count ∈ allW := tw_of tw_in6 (i := 28) rfl rfl
theorem tw_6_29 : Cond.selects RX11 yX11_count yX11_count ∈ allW := tw_of tw_in6 (i := 29) rfl rfl
theorem tw_6_30 : Cond.code yX11_count cX11_count 2 (some .int) ∈ allW := tw_of tw_in6 (i := 30) rfl rfl
theorem tw_6_31 : Cond.methodLink RX11 322 yX11_bodiesNow ∈ allW := tw_of tw_in6 (i := 31) rfl rfl
theorem tw_6_33 : Cond.instanceMethod yX11_bodiesNow ∈ allW := tw_of tw_in6 (i := 33) rfl rfl
theorem tw_6_34 : Cond.code yX11_bodiesNow cX11_bodiesNow 3 (some .int) ∈ allW := tw_of tw_in6 (i := 34) rfl rfl
theorem tw_6_35 : Cond.methodLink RL 175 yX11_digest ∈ allW := tw_of tw_in6 (i := 35) rfl rfl
theorem tw_6_36 : Cond.instanceMethod yX11_digest ∈ allW := tw_of tw_in6 (i := 36) rfl rfl
theorem tw_6_37 : Cond.selects RX11 yX11_digest yX11_digest ∈ allW := tw_of tw_in6 (i := 37) rfl rfl
theorem tw_6_38 : Cond.code yX11_digest cX11_digest 5 (some .long) ∈ allW := tw_of tw_in6 (i := 38) rfl rfl
theorem tw_6_39 : Cond.constantLong RX11 325 (589 : Int64) ∈ allW := tw_of tw_in6 (i := 39) rfl rfl
theorem tw_6_40 : Cond.constantLong RX11 327 (31 : Int64) ∈ allW := tw_of tw_in6 (i := 40) rfl rfl
theorem tw_6_41 : Cond.constantLong RL 31 (4294967295 : Int64) ∈ allW := tw_of tw_in6 (i := 41) rfl rfl
theorem tw_p0 : Cond.selects RX10 yX10_found yX10_found ∈ allW := tw_of (fun w h => List.mem_append_left _ h) (l := k2_sels lw_privs) (i := 0) rfl rfl
theorem tw_p1 : Cond.selects RX10 yX10_newRow yX10_newRow ∈ allW := tw_of (fun w h => List.mem_append_left _ h) (l := k2_sels lw_privs) (i := 1) rfl rfl
theorem tw_p2 : Cond.selects RX10 yX10_rowNumbered yX10_rowNumbered ∈ allW := tw_of (fun w h => List.mem_append_left _ h) (l := k2_sels lw_privs) (i := 2) rfl rfl
theorem tw_p3 : Cond.selects RX10 yX10_newStream yX10_newStream ∈ allW := tw_of (fun w h => List.mem_append_left _ h) (l := k2_sels lw_privs) (i := 3) rfl rfl
theorem tw_p4 : Cond.selects RX10 yX10_streamNumbered yX10_streamNumbered ∈ allW := tw_of (fun w h => List.mem_append_left _ h) (l := k2_sels lw_privs) (i := 4) rfl rfl
theorem tw_p5 : Cond.selects RX5 yX5_makeSteps yX5_makeSteps ∈ allW := tw_of (fun w h => List.mem_append_left _ h) (l := k2_sels lw_privs) (i := 5) rfl rfl
theorem tw_p6 : Cond.selects RX5 yX5_packRuns yX5_packRuns ∈ allW := tw_of (fun w h => List.mem_append_left _ h) (l := k2_sels lw_privs) (i := 6) rfl rfl
theorem tw_p7 : Cond.selects RX5 yX5_packPlain yX5_packPlain ∈ allW := tw_of (fun w h => List.mem_append_left _ h) (l := k2_sels lw_privs) (i := 7) rfl rfl
theorem tw_p8 : Cond.selects RX5 yX5_packByte yX5_packByte ∈ allW := tw_of (fun w h => List.mem_append_left _ h) (l := k2_sels lw_privs) (i := 8) rfl rfl
theorem tw_p9 : Cond.selects RX5 yX5_packWide yX5_packWide ∈ allW := tw_of (fun w h => List.mem_append_left _ h) (l := k2_sels lw_privs) (i := 9) rfl rfl
theorem tw_p10 : Cond.selects RX10 yX10_appendPiece yX10_appendPiece ∈ allW := tw_of (fun w h => List.mem_append_left _ h) (l := k2_sels lw_privs) (i := 10) rfl rfl
theorem tw_p11 : Cond.selects RX5 yX5_openRuns yX5_openRuns ∈ allW := tw_of (fun w h => List.mem_append_left _ h) (l := k2_sels lw_privs) (i := 11) rfl rfl
theorem tw_p12 : Cond.selects RX5 yX5_openPlain yX5_openPlain ∈ allW := tw_of (fun w h => List.mem_append_left _ h) (l := k2_sels lw_privs) (i := 12) rfl rfl
theorem tw_p13 : Cond.selects RX5 yX5_openByte yX5_openByte ∈ allW := tw_of (fun w h => List.mem_append_left _ h) (l := k2_sels lw_privs) (i := 13) rfl rfl
theorem tw_p14 : Cond.selects RX5 yX5_openWide yX5_openWide ∈ allW := tw_of (fun w h => List.mem_append_left _ h) (l := k2_sels lw_privs) (i := 14) rfl rfl
theorem tw_p15 : Cond.selects RX5 yX5_undoSteps yX5_undoSteps ∈ allW := tw_of (fun w h => List.mem_append_left _ h) (l := k2_sels lw_privs) (i := 15) rfl rfl
theorem tw_p16 : Cond.selects RX5 yX5_areTold yX5_areTold ∈ allW := tw_of (fun w h => List.mem_append_left _ h) (l := k2_sels lw_privs) (i := 16) rfl rfl
theorem tw_p17 : Cond.selects RX10 yX10_houseNumbered yX10_houseNumbered ∈ allW := tw_of (fun w h => List.mem_append_left _ h) (l := k2_sels lw_privs) (i := 17) rfl rfl
theorem tw_p18 : Cond.selects RX1 yX1_addByte yX1_addByte ∈ allW := tw_of (fun w h => List.mem_append_left _ h) (l := k2_sels lw_privs) (i := 18) rfl rfl
theorem tw_p19 : Cond.selects RX1 yX1_newAct yX1_newAct ∈ allW := tw_of (fun w h => List.mem_append_left _ h) (l := k2_sels lw_privs) (i := 19) rfl rfl
theorem tw_p20 : Cond.selects RX10 yX10_deltaNumbered yX10_deltaNumbered ∈ allW := tw_of (fun w h => List.mem_append_left _ h) (l := k2_sels lw_privs) (i := 20) rfl rfl
theorem tw_p21 : Cond.selects RX11 yX11_meets yX11_meets ∈ allW := tw_of (fun w h => List.mem_append_left _ h) (l := k2_sels lw_privs) (i := 21) rfl rfl
theorem tw_p22 : Cond.selects RX11 yX11_newRow yX11_newRow ∈ allW := tw_of (fun w h => List.mem_append_left _ h) (l := k2_sels lw_privs) (i := 22) rfl rfl
theorem tw_p23 : Cond.selects RX11 yX11_isRow yX11_isRow ∈ allW := tw_of (fun w h => List.mem_append_left _ h) (l := k2_sels lw_privs) (i := 23) rfl rfl
theorem tw_p24 : Cond.selects RX11 yX11_against yX11_against ∈ allW := tw_of (fun w h => List.mem_append_left _ h) (l := k2_sels lw_privs) (i := 24) rfl rfl
theorem tw_p25 : Cond.selects RX11 yX11_newStream yX11_newStream ∈ allW := tw_of (fun w h => List.mem_append_left _ h) (l := k2_sels lw_privs) (i := 25) rfl rfl
theorem tw_p26 : Cond.selects RX11 yX11_isStream yX11_isStream ∈ allW := tw_of (fun w h => List.mem_append_left _ h) (l := k2_sels lw_privs) (i := 26) rfl rfl
theorem tw_p27 : Cond.selects RX11 yX11_codeRow yX11_codeRow ∈ allW := tw_of (fun w h => List.mem_append_left _ h) (l := k2_sels lw_privs) (i := 27) rfl rfl
theorem tw_p28 : Cond.selects RX11 yX11_code yX11_code ∈ allW := tw_of (fun w h => List.mem_append_left _ h) (l := k2_sels lw_privs) (i := 28) rfl rfl
theorem tw_p29 : Cond.selects RX11 yX11_plain yX11_plain ∈ allW := tw_of (fun w h => List.mem_append_left _ h) (l := k2_sels lw_privs) (i := 29) rfl rfl
theorem tw_p30 : Cond.selects RX11 yX11_differences yX11_differences ∈ allW := tw_of (fun w h => List.mem_append_left _ h) (l := k2_sels lw_privs) (i := 30) rfl rfl
theorem tw_p31 : Cond.selects RX11 yX11_wide yX11_wide ∈ allW := tw_of (fun w h => List.mem_append_left _ h) (l := k2_sels lw_privs) (i := 31) rfl rfl
theorem tw_p32 : Cond.selects RX11 yX11_sums yX11_sums ∈ allW := tw_of (fun w h => List.mem_append_left _ h) (l := k2_sels lw_privs) (i := 32) rfl rfl
theorem tw_p33 : Cond.selects RX11 yX11_lay yX11_lay ∈ allW := tw_of (fun w h => List.mem_append_left _ h) (l := k2_sels lw_privs) (i := 33) rfl rfl
theorem tw_p34 : Cond.selects RX11 yX11_sumOf yX11_sumOf ∈ allW := tw_of (fun w h => List.mem_append_left _ h) (l := k2_sels lw_privs) (i := 34) rfl rfl
theorem tw_p35 : Cond.selects RX11 yX11_piece yX11_piece ∈ allW := tw_of (fun w h => List.mem_append_left _ h) (l := k2_sels lw_privs) (i := 35) rfl rfl
theorem tw_p36 : Cond.selects RX11 yX11_decode yX11_decode ∈ allW := tw_of (fun w h => List.mem_append_left _ h) (l := k2_sels lw_privs) (i := 36) rfl rfl
theorem tw_p37 : Cond.selects RX11 yX11_takes yX11_takes ∈ allW := tw_of (fun w h => List.mem_append_left _ h) (l := k2_sels lw_privs) (i := 37) rfl rfl
theorem tw_p38 : Cond.selects RX11 yX11_isHouse yX11_isHouse ∈ allW := tw_of (fun w h => List.mem_append_left _ h) (l := k2_sels lw_privs) (i := 38) rfl rfl
theorem tw_p39 : Cond.selects RX11 yX11_entry yX11_entry ∈ allW := tw_of (fun w h => List.mem_append_left _ h) (l := k2_sels lw_privs) (i := 39) rfl rfl
theorem tw_p40 : Cond.selects RX11 yX11_likeBody yX11_likeBody ∈ allW := tw_of (fun w h => List.mem_append_left _ h) (l := k2_sels lw_privs) (i := 40) rfl rfl
theorem tw_p41 : Cond.selects RX11 yX11_freeBody yX11_freeBody ∈ allW := tw_of (fun w h => List.mem_append_left _ h) (l := k2_sels lw_privs) (i := 41) rfl rfl
theorem tw_p42 : Cond.selects RX11 yX11_leave yX11_leave ∈ allW := tw_of (fun w h => List.mem_append_left _ h) (l := k2_sels lw_privs) (i := 42) rfl rfl
theorem tw_p43 : Cond.selects RX11 yX11_matching yX11_matching ∈ allW := tw_of (fun w h => List.mem_append_left _ h) (l := k2_sels lw_privs) (i := 43) rfl rfl
theorem tw_p44 : Cond.selects RX11 yX11_isDelta yX11_isDelta ∈ allW := tw_of (fun w h => List.mem_append_left _ h) (l := k2_sels lw_privs) (i := 44) rfl rfl
theorem tw_p45 : Cond.selects RX11 yX11_total yX11_total ∈ allW := tw_of (fun w h => List.mem_append_left _ h) (l := k2_sels lw_privs) (i := 45) rfl rfl
theorem tw_p46 : Cond.selects RX11 yX11_bodiesNow yX11_bodiesNow ∈ allW := tw_of (fun w h => List.mem_append_left _ h) (l := k2_sels lw_privs) (i := 46) rfl rfl
theorem uwX0 : ∀ w ∈ u_ws RX0 TX0 4, w ∈ allW := List.forall_mem_cons.mpr ⟨tw_3_135, List.forall_mem_cons.mpr ⟨tw_3_137, List.forall_mem_cons.mpr ⟨tw_3_139, List.forall_mem_cons.mpr ⟨tw_3_141, fun _ h => absurd h List.not_mem_nil⟩⟩⟩⟩
theorem uwX1 : ∀ w ∈ u_ws RX1 TX1 8, w ∈ allW := List.forall_mem_cons.mpr ⟨tw_3_200, List.forall_mem_cons.mpr ⟨tw_3_202, List.forall_mem_cons.mpr ⟨tw_3_204, List.forall_mem_cons.mpr ⟨tw_3_206, List.forall_mem_cons.mpr ⟨tw_3_208, List.forall_mem_cons.mpr ⟨tw_3_210, List.forall_mem_cons.mpr ⟨tw_3_212, List.forall_mem_cons.mpr ⟨tw_3_214, fun _ h => absurd h List.not_mem_nil⟩⟩⟩⟩⟩⟩⟩⟩
theorem uwX3 : ∀ w ∈ u_ws RX3 TX3 3, w ∈ allW := List.forall_mem_cons.mpr ⟨tw_3_93, List.forall_mem_cons.mpr ⟨tw_3_95, List.forall_mem_cons.mpr ⟨tw_3_97, fun _ h => absurd h List.not_mem_nil⟩⟩⟩
theorem uwX5 : ∀ w ∈ u_ws RX5 TX5 8, w ∈ allW := List.forall_mem_cons.mpr ⟨tw_1_71, List.forall_mem_cons.mpr ⟨tw_1_73, List.forall_mem_cons.mpr ⟨tw_1_75, List.forall_mem_cons.mpr ⟨tw_1_77, List.forall_mem_cons.mpr ⟨tw_1_79, List.forall_mem_cons.mpr ⟨tw_1_81, List.forall_mem_cons.mpr ⟨tw_1_83, List.forall_mem_cons.mpr ⟨tw_1_85, fun _ h => absurd h List.not_mem_nil⟩⟩⟩⟩⟩⟩⟩⟩
theorem uwX6 : ∀ w ∈ u_ws RX6 TX6 3, w ∈ allW := List.forall_mem_cons.mpr ⟨tw_1_102, List.forall_mem_cons.mpr ⟨tw_1_104, List.forall_mem_cons.mpr ⟨tw_1_106, fun _ h => absurd h List.not_mem_nil⟩⟩⟩
theorem uwX7 : ∀ w ∈ u_ws RX7 TX7 3, w ∈ allW := List.forall_mem_cons.mpr ⟨tw_1_178, List.forall_mem_cons.mpr ⟨tw_1_180, List.forall_mem_cons.mpr ⟨tw_1_182, fun _ h => absurd h List.not_mem_nil⟩⟩⟩
theorem uwX8 : ∀ w ∈ u_ws RX8 TX8 3, w ∈ allW := List.forall_mem_cons.mpr ⟨tw_1_47, List.forall_mem_cons.mpr ⟨tw_1_49, List.forall_mem_cons.mpr ⟨tw_1_51, fun _ h => absurd h List.not_mem_nil⟩⟩⟩
theorem uwX9 : ∀ w ∈ u_ws RX9 TX9 4, w ∈ allW := List.forall_mem_cons.mpr ⟨tw_2_145, List.forall_mem_cons.mpr ⟨tw_2_147, List.forall_mem_cons.mpr ⟨tw_2_149, List.forall_mem_cons.mpr ⟨tw_2_151, fun _ h => absurd h List.not_mem_nil⟩⟩⟩⟩
theorem uwX10 : ∀ w ∈ u_ws RX10 TX10 14, w ∈ allW := List.forall_mem_cons.mpr ⟨tw_1_123, List.forall_mem_cons.mpr ⟨tw_1_125, List.forall_mem_cons.mpr ⟨tw_1_127, List.forall_mem_cons.mpr ⟨tw_1_129, List.forall_mem_cons.mpr ⟨tw_1_131, List.forall_mem_cons.mpr ⟨tw_1_133, List.forall_mem_cons.mpr ⟨tw_1_135, List.forall_mem_cons.mpr ⟨tw_1_137, List.forall_mem_cons.mpr ⟨tw_1_139, List.forall_mem_cons.mpr ⟨tw_1_141, List.forall_mem_cons.mpr ⟨tw_1_143, List.forall_mem_cons.mpr ⟨tw_1_145, List.forall_mem_cons.mpr ⟨tw_1_147, List.forall_mem_cons.mpr ⟨tw_1_149, fun _ h => absurd h List.not_mem_nil⟩⟩⟩⟩⟩⟩⟩⟩⟩⟩⟩⟩⟩⟩
theorem uwX11 : ∀ w ∈ u_ws RX11 TX11 37, w ∈ allW := List.forall_mem_cons.mpr ⟨tw_4_100, List.forall_mem_cons.mpr ⟨tw_4_102, List.forall_mem_cons.mpr ⟨tw_4_104, List.forall_mem_cons.mpr ⟨tw_4_106, List.forall_mem_cons.mpr ⟨tw_4_108, List.forall_mem_cons.mpr ⟨tw_4_110, List.forall_mem_cons.mpr ⟨tw_4_112, List.forall_mem_cons.mpr ⟨tw_4_114, List.forall_mem_cons.mpr ⟨tw_4_116, List.forall_mem_cons.mpr ⟨tw_4_118, List.forall_mem_cons.mpr ⟨tw_4_120, List.forall_mem_cons.mpr ⟨tw_4_122, List.forall_mem_cons.mpr ⟨tw_4_124, List.forall_mem_cons.mpr ⟨tw_4_126, List.forall_mem_cons.mpr ⟨tw_4_128, List.forall_mem_cons.mpr ⟨tw_4_130, List.forall_mem_cons.mpr ⟨tw_4_132, List.forall_mem_cons.mpr ⟨tw_4_134, List.forall_mem_cons.mpr ⟨tw_4_136, List.forall_mem_cons.mpr ⟨tw_4_138, List.forall_mem_cons.mpr ⟨tw_4_140, List.forall_mem_cons.mpr ⟨tw_4_142, List.forall_mem_cons.mpr ⟨tw_4_144, List.forall_mem_cons.mpr ⟨tw_4_146, List.forall_mem_cons.mpr ⟨tw_4_148, List.forall_mem_cons.mpr ⟨tw_4_150, List.forall_mem_cons.mpr ⟨tw_4_152, List.forall_mem_cons.mpr ⟨tw_4_154, List.forall_mem_cons.mpr ⟨tw_4_156, List.forall_mem_cons.mpr ⟨tw_4_158, List.forall_mem_cons.mpr ⟨tw_4_160, List.forall_mem_cons.mpr ⟨tw_4_162, List.forall_mem_cons.mpr ⟨tw_4_164, List.forall_mem_cons.mpr ⟨tw_4_166, List.forall_mem_cons.mpr ⟨tw_4_168, List.forall_mem_cons.mpr ⟨tw_4_170, List.forall_mem_cons.mpr ⟨tw_4_172, fun _ h => absurd h List.not_mem_nil⟩⟩⟩⟩⟩⟩⟩⟩⟩⟩⟩⟩⟩⟩⟩⟩⟩⟩⟩⟩⟩⟩⟩⟩⟩⟩⟩⟩⟩⟩⟩⟩⟩⟩⟩⟩⟩
