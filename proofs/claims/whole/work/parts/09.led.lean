theorem t_104 : (Cond.code ⟨"ShopLedger", "partOf", "(JJJJ)J"⟩ prog_1_method_21_code 8 (some .long) : Cond) ∈ zALL := List.mem_filter.mpr ⟨List.mem_append_right _ (List.mem_append_right _ (List.mem_append_left _ (List.mem_of_getElem? (l := tables_1_2) (i := 191) (by decide +kernel)))), by decide +kernel⟩
theorem t_105 : (Cond.methodLink "ShopLedger" 164 ⟨"ShopLedger", "partOf", "(JJJJ)J"⟩ : Cond) ∈ zALL := List.mem_filter.mpr ⟨List.mem_append_right _ (List.mem_append_right _ (List.mem_append_left _ (List.mem_of_getElem? (l := tables_1_2) (i := 189) (by decide +kernel)))), by decide +kernel⟩
theorem t_106 : (Cond.static ⟨"ShopLedger", "partOf", "(JJJJ)J"⟩ : Cond) ∈ zALL := List.mem_filter.mpr ⟨List.mem_append_right _ (List.mem_append_right _ (List.mem_append_left _ (List.mem_of_getElem? (l := tables_1_2) (i := 190) (by decide +kernel)))), by decide +kernel⟩
theorem t_107 : (Cond.fieldLink "ShopLedger" 29 "ShopLedger" "stocks" "[LShopLedger$Stock;" : Cond) ∈ zALL := List.mem_filter.mpr ⟨List.mem_append_right _ (List.mem_append_left _ (List.mem_of_getElem? (l := tables_1_1) (i := 163) (by decide +kernel))), by decide +kernel⟩
theorem t_108 : (Cond.fieldLink "ShopLedger" 168 "ShopLedger$Stock" "layers" "I" : Cond) ∈ zALL := List.mem_filter.mpr ⟨List.mem_append_right _ (List.mem_append_left _ (List.mem_of_getElem? (l := tables_1_1) (i := 115) (by decide +kernel))), by decide +kernel⟩
theorem t_109 : (Cond.code ⟨"ShopLedger$Stock", "addLayer", "(II)I"⟩ prog_6_method_2_code 3 (some .int) : Cond) ∈ zALL := List.mem_filter.mpr ⟨List.mem_append_right _ (List.mem_append_right _ (List.mem_append_left _ (List.mem_of_getElem? (l := tables_1_2) (i := 202) (by decide +kernel)))), by decide +kernel⟩
theorem t_110 : (Cond.methodLink "ShopLedger" 171 ⟨"ShopLedger$Stock", "addLayer", "(II)I"⟩ : Cond) ∈ zALL := List.mem_filter.mpr ⟨List.mem_append_right _ (List.mem_append_right _ (List.mem_append_left _ (List.mem_of_getElem? (l := tables_1_2) (i := 199) (by decide +kernel)))), by decide +kernel⟩
theorem t_111 : (Cond.instanceMethod ⟨"ShopLedger$Stock", "addLayer", "(II)I"⟩ : Cond) ∈ zALL := List.mem_filter.mpr ⟨List.mem_append_right _ (List.mem_append_right _ (List.mem_append_left _ (List.mem_of_getElem? (l := tables_1_2) (i := 200) (by decide +kernel)))), by decide +kernel⟩
theorem t_112 : (Cond.selects "ShopLedger$Stock" ⟨"ShopLedger$Stock", "addLayer", "(II)I"⟩ ⟨"ShopLedger$Stock", "addLayer", "(II)I"⟩ : Cond) ∈ zALL := List.mem_filter.mpr ⟨List.mem_append_right _ (List.mem_append_right _ (List.mem_append_left _ (List.mem_of_getElem? (l := tables_1_2) (i := 201) (by decide +kernel)))), by decide +kernel⟩
theorem t_113 : (Cond.code ⟨"ShopLedger$Stock", "allPieces", "()I"⟩ prog_6_method_3_code 3 (some .int) : Cond) ∈ zALL := List.mem_filter.mpr ⟨List.mem_append_right _ (List.mem_append_right _ (List.mem_append_left _ (List.mem_of_getElem? (l := tables_1_2) (i := 213) (by decide +kernel)))), by decide +kernel⟩
theorem t_114 : (Cond.methodLink "ShopLedger" 174 ⟨"ShopLedger$Stock", "allPieces", "()I"⟩ : Cond) ∈ zALL := List.mem_filter.mpr ⟨List.mem_append_right _ (List.mem_append_right _ (List.mem_append_left _ (List.mem_of_getElem? (l := tables_1_2) (i := 210) (by decide +kernel)))), by decide +kernel⟩
theorem t_115 : (Cond.instanceMethod ⟨"ShopLedger$Stock", "allPieces", "()I"⟩ : Cond) ∈ zALL := List.mem_filter.mpr ⟨List.mem_append_right _ (List.mem_append_right _ (List.mem_append_left _ (List.mem_of_getElem? (l := tables_1_2) (i := 211) (by decide +kernel)))), by decide +kernel⟩
theorem t_116 : (Cond.selects "ShopLedger$Stock" ⟨"ShopLedger$Stock", "allPieces", "()I"⟩ ⟨"ShopLedger$Stock", "allPieces", "()I"⟩ : Cond) ∈ zALL := List.mem_filter.mpr ⟨List.mem_append_right _ (List.mem_append_right _ (List.mem_append_left _ (List.mem_of_getElem? (l := tables_1_2) (i := 212) (by decide +kernel)))), by decide +kernel⟩
theorem t_117 : (Cond.code ⟨"ShopLedger$Stock", "takeOut", "(I)J"⟩ prog_6_method_5_code 8 (some .long) : Cond) ∈ zALL := List.mem_filter.mpr ⟨List.mem_append_right _ (List.mem_append_right _ (List.mem_append_left _ (List.mem_of_getElem? (l := tables_1_2) (i := 218) (by decide +kernel)))), by decide +kernel⟩
theorem t_118 : (Cond.methodLink "ShopLedger" 179 ⟨"ShopLedger$Stock", "takeOut", "(I)J"⟩ : Cond) ∈ zALL := List.mem_filter.mpr ⟨List.mem_append_right _ (List.mem_append_right _ (List.mem_append_left _ (List.mem_of_getElem? (l := tables_1_2) (i := 215) (by decide +kernel)))), by decide +kernel⟩
theorem t_119 : (Cond.instanceMethod ⟨"ShopLedger$Stock", "takeOut", "(I)J"⟩ : Cond) ∈ zALL := List.mem_filter.mpr ⟨List.mem_append_right _ (List.mem_append_right _ (List.mem_append_left _ (List.mem_of_getElem? (l := tables_1_2) (i := 216) (by decide +kernel)))), by decide +kernel⟩
theorem t_120 : (Cond.selects "ShopLedger$Stock" ⟨"ShopLedger$Stock", "takeOut", "(I)J"⟩ ⟨"ShopLedger$Stock", "takeOut", "(I)J"⟩ : Cond) ∈ zALL := List.mem_filter.mpr ⟨List.mem_append_right _ (List.mem_append_right _ (List.mem_append_left _ (List.mem_of_getElem? (l := tables_1_2) (i := 217) (by decide +kernel)))), by decide +kernel⟩
theorem t_121 : (Cond.code ⟨"ShopLedger$Stock", "worth", "()J"⟩ prog_6_method_4_code 4 (some .long) : Cond) ∈ zALL := List.mem_filter.mpr ⟨List.mem_append_right _ (List.mem_append_right _ (List.mem_append_left _ (List.mem_of_getElem? (l := tables_1_2) (i := 236) (by decide +kernel)))), by decide +kernel⟩
theorem t_122 : (Cond.methodLink "ShopLedger" 182 ⟨"ShopLedger$Stock", "worth", "()J"⟩ : Cond) ∈ zALL := List.mem_filter.mpr ⟨List.mem_append_right _ (List.mem_append_right _ (List.mem_append_left _ (List.mem_of_getElem? (l := tables_1_2) (i := 233) (by decide +kernel)))), by decide +kernel⟩
theorem t_123 : (Cond.instanceMethod ⟨"ShopLedger$Stock", "worth", "()J"⟩ : Cond) ∈ zALL := List.mem_filter.mpr ⟨List.mem_append_right _ (List.mem_append_right _ (List.mem_append_left _ (List.mem_of_getElem? (l := tables_1_2) (i := 234) (by decide +kernel)))), by decide +kernel⟩
theorem t_124 : (Cond.selects "ShopLedger$Stock" ⟨"ShopLedger$Stock", "worth", "()J"⟩ ⟨"ShopLedger$Stock", "worth", "()J"⟩ : Cond) ∈ zALL := List.mem_filter.mpr ⟨List.mem_append_right _ (List.mem_append_right _ (List.mem_append_left _ (List.mem_of_getElem? (l := tables_1_2) (i := 235) (by decide +kernel)))), by decide +kernel⟩
theorem t_125 : (Cond.fieldLink "ShopLedger" 36 "ShopLedger" "moneys" "[LShopLedger$Money;" : Cond) ∈ zALL := List.mem_filter.mpr ⟨List.mem_append_right _ (List.mem_append_left _ (List.mem_of_getElem? (l := tables_1_1) (i := 164) (by decide +kernel))), by decide +kernel⟩
theorem t_126 : (Cond.fieldLink "ShopLedger" 186 "ShopLedger$Money" "count" "I" : Cond) ∈ zALL := List.mem_filter.mpr ⟨List.mem_append_right _ (List.mem_append_left _ (List.mem_of_getElem? (l := tables_1_1) (i := 133) (by decide +kernel))), by decide +kernel⟩
theorem t_127 : (Cond.constant "ShopLedger" 187 100000000 : Cond) ∈ zALL := List.mem_filter.mpr ⟨List.mem_append_right _ (List.mem_append_right _ (List.mem_append_right _ (List.mem_of_getElem? (l := tables_1_3) (i := 4) (by decide +kernel)))), by decide +kernel⟩
theorem t_128 : (Cond.code ⟨"ShopLedger$Money", "latestDay", "()I"⟩ prog_4_method_2_code 1 (some .int) : Cond) ∈ zALL := List.mem_filter.mpr ⟨List.mem_append_right _ (List.mem_append_right _ (List.mem_append_right _ (List.mem_of_getElem? (l := tables_1_3) (i := 8) (by decide +kernel)))), by decide +kernel⟩
theorem t_129 : (Cond.initialized "ShopLedger$Money" : Cond) ∈ zALL := List.mem_filter.mpr ⟨List.mem_append_right _ (List.mem_append_left _ (List.mem_of_getElem? (l := tables_1_1) (i := 5) (by decide +kernel))), by decide +kernel⟩
theorem t_130 : (Cond.methodLink "ShopLedger" 188 ⟨"ShopLedger$Money", "latestDay", "()I"⟩ : Cond) ∈ zALL := List.mem_filter.mpr ⟨List.mem_append_right _ (List.mem_append_right _ (List.mem_append_right _ (List.mem_of_getElem? (l := tables_1_3) (i := 5) (by decide +kernel)))), by decide +kernel⟩
theorem t_131 : (Cond.instanceMethod ⟨"ShopLedger$Money", "latestDay", "()I"⟩ : Cond) ∈ zALL := List.mem_filter.mpr ⟨List.mem_append_right _ (List.mem_append_right _ (List.mem_append_right _ (List.mem_of_getElem? (l := tables_1_3) (i := 6) (by decide +kernel)))), by decide +kernel⟩
theorem t_132 : (Cond.selects "ShopLedger$Money" ⟨"ShopLedger$Money", "latestDay", "()I"⟩ ⟨"ShopLedger$Money", "latestDay", "()I"⟩ : Cond) ∈ zALL := List.mem_filter.mpr ⟨List.mem_append_right _ (List.mem_append_right _ (List.mem_append_right _ (List.mem_of_getElem? (l := tables_1_3) (i := 7) (by decide +kernel)))), by decide +kernel⟩
theorem t_133 : (Cond.code ⟨"ShopLedger$Money", "add", "(II)I"⟩ prog_4_method_3_code 3 (some .int) : Cond) ∈ zALL := List.mem_filter.mpr ⟨List.mem_append_right _ (List.mem_append_right _ (List.mem_append_right _ (List.mem_of_getElem? (l := tables_1_3) (i := 13) (by decide +kernel)))), by decide +kernel⟩
theorem t_134 : (Cond.methodLink "ShopLedger" 193 ⟨"ShopLedger$Money", "add", "(II)I"⟩ : Cond) ∈ zALL := List.mem_filter.mpr ⟨List.mem_append_right _ (List.mem_append_right _ (List.mem_append_right _ (List.mem_of_getElem? (l := tables_1_3) (i := 10) (by decide +kernel)))), by decide +kernel⟩
theorem t_135 : (Cond.instanceMethod ⟨"ShopLedger$Money", "add", "(II)I"⟩ : Cond) ∈ zALL := List.mem_filter.mpr ⟨List.mem_append_right _ (List.mem_append_right _ (List.mem_append_right _ (List.mem_of_getElem? (l := tables_1_3) (i := 11) (by decide +kernel)))), by decide +kernel⟩
theorem t_136 : (Cond.selects "ShopLedger$Money" ⟨"ShopLedger$Money", "add", "(II)I"⟩ ⟨"ShopLedger$Money", "add", "(II)I"⟩ : Cond) ∈ zALL := List.mem_filter.mpr ⟨List.mem_append_right _ (List.mem_append_right _ (List.mem_append_right _ (List.mem_of_getElem? (l := tables_1_3) (i := 12) (by decide +kernel)))), by decide +kernel⟩
theorem t_137 : (Cond.code ⟨"ShopLedger$Money", "rateOn", "(I)I"⟩ prog_4_method_4_code 4 (some .int) : Cond) ∈ zALL := List.mem_filter.mpr ⟨List.mem_append_right _ (List.mem_append_right _ (List.mem_append_right _ (List.mem_of_getElem? (l := tables_1_3) (i := 24) (by decide +kernel)))), by decide +kernel⟩
theorem t_138 : (Cond.methodLink "ShopLedger" 195 ⟨"ShopLedger$Money", "rateOn", "(I)I"⟩ : Cond) ∈ zALL := List.mem_filter.mpr ⟨List.mem_append_right _ (List.mem_append_right _ (List.mem_append_right _ (List.mem_of_getElem? (l := tables_1_3) (i := 21) (by decide +kernel)))), by decide +kernel⟩
theorem t_139 : (Cond.instanceMethod ⟨"ShopLedger$Money", "rateOn", "(I)I"⟩ : Cond) ∈ zALL := List.mem_filter.mpr ⟨List.mem_append_right _ (List.mem_append_right _ (List.mem_append_right _ (List.mem_of_getElem? (l := tables_1_3) (i := 22) (by decide +kernel)))), by decide +kernel⟩
theorem t_140 : (Cond.selects "ShopLedger$Money" ⟨"ShopLedger$Money", "rateOn", "(I)I"⟩ ⟨"ShopLedger$Money", "rateOn", "(I)I"⟩ : Cond) ∈ zALL := List.mem_filter.mpr ⟨List.mem_append_right _ (List.mem_append_right _ (List.mem_append_right _ (List.mem_of_getElem? (l := tables_1_3) (i := 23) (by decide +kernel)))), by decide +kernel⟩
theorem t_141 : (Cond.constantLong "ShopLedger" 200 5000 : Cond) ∈ zALL := List.mem_filter.mpr ⟨List.mem_append_right _ (List.mem_append_right _ (List.mem_append_right _ (List.mem_of_getElem? (l := tables_1_3) (i := 26) (by decide +kernel)))), by decide +kernel⟩
theorem t_142 : (Cond.constantLong "ShopLedger" 202 10000 : Cond) ∈ zALL := List.mem_filter.mpr ⟨List.mem_append_right _ (List.mem_append_right _ (List.mem_append_right _ (List.mem_of_getElem? (l := tables_1_3) (i := 27) (by decide +kernel)))), by decide +kernel⟩
theorem t_143 : (Cond.fieldLink "ShopLedger" 44 "ShopLedger" "pieces" "LShopLedger$Pieces;" : Cond) ∈ zALL := List.mem_filter.mpr ⟨List.mem_append_right _ (List.mem_append_left _ (List.mem_of_getElem? (l := tables_1_1) (i := 165) (by decide +kernel))), by decide +kernel⟩
theorem t_144 : (Cond.fieldLink "ShopLedger" 158 "ShopLedger$Pieces" "count" "I" : Cond) ∈ zALL := List.mem_filter.mpr ⟨List.mem_append_right _ (List.mem_append_left _ (List.mem_of_getElem? (l := tables_1_1) (i := 152) (by decide +kernel))), by decide +kernel⟩
theorem t_145 : (Cond.code ⟨"ShopLedger$Pieces", "add", "(II)I"⟩ prog_5_method_2_code 3 (some .int) : Cond) ∈ zALL := List.mem_filter.mpr ⟨List.mem_append_right _ (List.mem_append_right _ (List.mem_append_right _ (List.mem_of_getElem? (l := tables_1_3) (i := 38) (by decide +kernel)))), by decide +kernel⟩
theorem t_146 : (Cond.initialized "ShopLedger$Pieces" : Cond) ∈ zALL := List.mem_filter.mpr ⟨List.mem_append_right _ (List.mem_append_left _ (List.mem_of_getElem? (l := tables_1_1) (i := 6) (by decide +kernel))), by decide +kernel⟩
theorem t_147 : (Cond.methodLink "ShopLedger" 204 ⟨"ShopLedger$Pieces", "add", "(II)I"⟩ : Cond) ∈ zALL := List.mem_filter.mpr ⟨List.mem_append_right _ (List.mem_append_right _ (List.mem_append_right _ (List.mem_of_getElem? (l := tables_1_3) (i := 35) (by decide +kernel)))), by decide +kernel⟩
theorem t_148 : (Cond.instanceMethod ⟨"ShopLedger$Pieces", "add", "(II)I"⟩ : Cond) ∈ zALL := List.mem_filter.mpr ⟨List.mem_append_right _ (List.mem_append_right _ (List.mem_append_right _ (List.mem_of_getElem? (l := tables_1_3) (i := 36) (by decide +kernel)))), by decide +kernel⟩
theorem t_149 : (Cond.selects "ShopLedger$Pieces" ⟨"ShopLedger$Pieces", "add", "(II)I"⟩ ⟨"ShopLedger$Pieces", "add", "(II)I"⟩ : Cond) ∈ zALL := List.mem_filter.mpr ⟨List.mem_append_right _ (List.mem_append_right _ (List.mem_append_right _ (List.mem_of_getElem? (l := tables_1_3) (i := 37) (by decide +kernel)))), by decide +kernel⟩
theorem t_150 : (Cond.fieldLink "ShopLedger" 147 "ShopLedger$Books" "orderBalance" "[J" : Cond) ∈ zALL := List.mem_filter.mpr ⟨List.mem_append_right _ (List.mem_append_left _ (List.mem_of_getElem? (l := tables_1_1) (i := 73) (by decide +kernel))), by decide +kernel⟩
theorem t_151 : (Cond.fieldLink "ShopLedger" 205 "ShopLedger$Pieces" "order" "[I" : Cond) ∈ zALL := List.mem_filter.mpr ⟨List.mem_append_right _ (List.mem_append_left _ (List.mem_of_getElem? (l := tables_1_1) (i := 148) (by decide +kernel))), by decide +kernel⟩
theorem t_152 : (Cond.code ⟨"ShopLedger$Pieces", "weightOfOrder", "(II)J"⟩ prog_5_method_3_code 6 (some .long) : Cond) ∈ zALL := List.mem_filter.mpr ⟨List.mem_append_right _ (List.mem_append_right _ (List.mem_append_right _ (List.mem_of_getElem? (l := tables_1_3) (i := 49) (by decide +kernel)))), by decide +kernel⟩
theorem t_153 : (Cond.methodLink "ShopLedger" 206 ⟨"ShopLedger$Pieces", "weightOfOrder", "(II)J"⟩ : Cond) ∈ zALL := List.mem_filter.mpr ⟨List.mem_append_right _ (List.mem_append_right _ (List.mem_append_right _ (List.mem_of_getElem? (l := tables_1_3) (i := 46) (by decide +kernel)))), by decide +kernel⟩
theorem t_154 : (Cond.instanceMethod ⟨"ShopLedger$Pieces", "weightOfOrder", "(II)J"⟩ : Cond) ∈ zALL := List.mem_filter.mpr ⟨List.mem_append_right _ (List.mem_append_right _ (List.mem_append_right _ (List.mem_of_getElem? (l := tables_1_3) (i := 47) (by decide +kernel)))), by decide +kernel⟩
theorem t_155 : (Cond.selects "ShopLedger$Pieces" ⟨"ShopLedger$Pieces", "weightOfOrder", "(II)J"⟩ ⟨"ShopLedger$Pieces", "weightOfOrder", "(II)J"⟩ : Cond) ∈ zALL := List.mem_filter.mpr ⟨List.mem_append_right _ (List.mem_append_right _ (List.mem_append_right _ (List.mem_of_getElem? (l := tables_1_3) (i := 48) (by decide +kernel)))), by decide +kernel⟩
theorem t_156 : (Cond.fieldLink "ShopLedger" 209 "ShopLedger$Pieces" "weight" "[I" : Cond) ∈ zALL := List.mem_filter.mpr ⟨List.mem_append_right _ (List.mem_append_left _ (List.mem_of_getElem? (l := tables_1_1) (i := 150) (by decide +kernel))), by decide +kernel⟩
theorem t_157 : (Cond.fieldLink "ShopLedger" 212 "ShopLedger$Books" "cents" "[I" : Cond) ∈ zALL := List.mem_filter.mpr ⟨List.mem_append_right _ (List.mem_append_left _ (List.mem_of_getElem? (l := tables_1_1) (i := 65) (by decide +kernel))), by decide +kernel⟩
theorem t_158 : (Cond.fieldLink "ShopLedger" 213 "ShopLedger$Books" "account" "[I" : Cond) ∈ zALL := List.mem_filter.mpr ⟨List.mem_append_right _ (List.mem_append_left _ (List.mem_of_getElem? (l := tables_1_1) (i := 59) (by decide +kernel))), by decide +kernel⟩
theorem t_159 : (Cond.fieldLink "ShopLedger" 214 "ShopLedger$Books" "order" "[I" : Cond) ∈ zALL := List.mem_filter.mpr ⟨List.mem_append_right _ (List.mem_append_left _ (List.mem_of_getElem? (l := tables_1_1) (i := 61) (by decide +kernel))), by decide +kernel⟩
theorem t_160 : (Cond.fieldLink "ShopLedger" 215 "ShopLedger$Books" "month" "[I" : Cond) ∈ zALL := List.mem_filter.mpr ⟨List.mem_append_right _ (List.mem_append_left _ (List.mem_of_getElem? (l := tables_1_1) (i := 63) (by decide +kernel))), by decide +kernel⟩
theorem t_161 : (Cond.fieldLink "ShopLedger" 216 "ShopLedger$Books" "batch" "[I" : Cond) ∈ zALL := List.mem_filter.mpr ⟨List.mem_append_right _ (List.mem_append_left _ (List.mem_of_getElem? (l := tables_1_1) (i := 67) (by decide +kernel))), by decide +kernel⟩
theorem t_162 : (Cond.fieldLink "ShopLedger" 139 "ShopLedger$Books" "accountBalance" "[J" : Cond) ∈ zALL := List.mem_filter.mpr ⟨List.mem_append_right _ (List.mem_append_left _ (List.mem_of_getElem? (l := tables_1_1) (i := 71) (by decide +kernel))), by decide +kernel⟩
theorem t_163 : (Cond.code ⟨"ShopLedger", "at", "([JI)J"⟩ prog_1_method_20_code 2 (some .long) : Cond) ∈ zALL := List.mem_filter.mpr ⟨List.mem_append_right _ (List.mem_append_right _ (List.mem_append_left _ (List.mem_of_getElem? (l := tables_1_2) (i := 160) (by decide +kernel)))), by decide +kernel⟩
theorem t_164 : (Cond.methodLink "ShopLedger" 143 ⟨"ShopLedger", "at", "([JI)J"⟩ : Cond) ∈ zALL := List.mem_filter.mpr ⟨List.mem_append_right _ (List.mem_append_right _ (List.mem_append_left _ (List.mem_of_getElem? (l := tables_1_2) (i := 158) (by decide +kernel)))), by decide +kernel⟩
theorem t_165 : (Cond.static ⟨"ShopLedger", "at", "([JI)J"⟩ : Cond) ∈ zALL := List.mem_filter.mpr ⟨List.mem_append_right _ (List.mem_append_right _ (List.mem_append_left _ (List.mem_of_getElem? (l := tables_1_2) (i := 159) (by decide +kernel)))), by decide +kernel⟩
theorem t_166 : (Cond.fieldLink "ShopLedger" 150 "ShopLedger$Books" "monthBalance" "[J" : Cond) ∈ zALL := List.mem_filter.mpr ⟨List.mem_append_right _ (List.mem_append_left _ (List.mem_of_getElem? (l := tables_1_1) (i := 75) (by decide +kernel))), by decide +kernel⟩
theorem t_167 : (Cond.code ⟨"ShopLedger", "entryFact", "(II)J"⟩ prog_1_method_19_code 3 (some .long) : Cond) ∈ zALL := List.mem_filter.mpr ⟨List.mem_append_right _ (List.mem_append_right _ (List.mem_append_left _ (List.mem_of_getElem? (l := tables_1_2) (i := 164) (by decide +kernel)))), by decide +kernel⟩
theorem t_168 : (Cond.methodLink "ShopLedger" 153 ⟨"ShopLedger", "entryFact", "(II)J"⟩ : Cond) ∈ zALL := List.mem_filter.mpr ⟨List.mem_append_right _ (List.mem_append_right _ (List.mem_append_left _ (List.mem_of_getElem? (l := tables_1_2) (i := 161) (by decide +kernel)))), by decide +kernel⟩
theorem t_169 : (Cond.instanceMethod ⟨"ShopLedger", "entryFact", "(II)J"⟩ : Cond) ∈ zALL := List.mem_filter.mpr ⟨List.mem_append_right _ (List.mem_append_right _ (List.mem_append_left _ (List.mem_of_getElem? (l := tables_1_2) (i := 163) (by decide +kernel)))), by decide +kernel⟩
theorem t_170 : (Cond.selects "ShopLedger" ⟨"ShopLedger", "entryFact", "(II)J"⟩ ⟨"ShopLedger", "entryFact", "(II)J"⟩ : Cond) ∈ zALL := List.mem_filter.mpr ⟨List.mem_append_left _ (by decide +kernel), by decide +kernel⟩
set_option maxHeartbeats 4000000 in
set_option maxRecDepth 100000 in
/-- share, of an order -/
theorem c_share {l : Launch} (hl9 : l.stackTraces = false) (D : zD) (x0 h0 b0 w0 s0 m0 g0 cl : Nat) (fw : Nat → Int32) (j : Nat) (p2 : Int32) (sz : Nat) (hj : j < 8) : vx_Met l yX5_share wsX5_share ({ frames := 7, cells := 3, slots := 18, locals := 112 }) (va_Pc [.ref x0, .int (nI j), .int p2] (zp D sz [(x0, .inr (5, [.ref h0, .ref b0, .ref w0, .ref s0, .ref m0, .ref g0, .int (nI cl)])), (w0, .inl (D.2 0, 8, .inl fw))])) (va_Ql (fun r (_ : Unit) => (¬ p2 < 0 ∧ p2 ≤ 1000000000) ∧ (¬ zs_lsum fw 8 = 0) ∧ r = zs_part p2.toInt64 (zs_lsum fw j) (fw j).toInt64 (zs_lsum fw 8)) (zq D (va_A [(x0, .inr (5, [.ref h0, .ref b0, .ref w0, .ref s0, .ref m0, .ref g0, .int (nI cl)])), (w0, .inl (D.2 0, 8, .inl fw))] sz) (fun (_ : Unit) => ([(x0, .inr (5, [.ref h0, .ref b0, .ref w0, .ref s0, .ref m0, .ref g0, .int (nI cl)])), (w0, .inl (D.2 0, 8, .inl fw))] : va_W))) (va_A [(x0, .inr (5, [.ref h0, .ref b0, .ref w0, .ref s0, .ref m0, .ref g0, .int (nI cl)])), (w0, .inl (D.2 0, 8, .inl fw))] sz)) (vx_X (fun _ : Unit => True) (zx D (va_A [(x0, .inr (5, [.ref h0, .ref b0, .ref w0, .ref s0, .ref m0, .ref g0, .int (nI cl)])), (w0, .inl (D.2 0, 8, .inl fw))] sz) [(x0, .inr (5, [.ref h0, .ref b0, .ref w0, .ref s0, .ref m0, .ref g0, .int (nI cl)])), (w0, .inl (D.2 0, 8, .inl fw))] (fun E => (E = "java/lang/IllegalArgumentException" ∧ ¬ (¬ p2 < 0 ∧ p2 ≤ 1000000000)) ∨ (E = "java/lang/UnsupportedOperationException" ∧ (¬ p2 < 0 ∧ p2 ≤ 1000000000) ∧ ¬ (¬ zs_lsum fw 8 = 0)))) (va_A [(x0, .inr (5, [.ref h0, .ref b0, .ref w0, .ref s0, .ref m0, .ref g0, .int (nI cl)])), (w0, .inl (D.2 0, 8, .inl fw))] sz)) 3 18 (va_A [(x0, .inr (5, [.ref h0, .ref b0, .ref w0, .ref s0, .ref m0, .ref g0, .int (nI cl)])), (w0, .inl (D.2 0, 8, .inl fw))] sz) := by
  refine vx_ofW (cc := cX5_share) (maxL := 8) (ret := (some .long)) (by decide) rfl ?_
  intro p e s m args below meth c s₁ B hml hnx hv
  obtain ⟨rfl, hsz, hP, hK, hD0, hB⟩ := hv
  have hx := B.exec
  have hb := B.bytes
  have hr := B.returns
  have hts := atoms_spec (ws := wsX5_share) B.pre
  have hown : s.vm.findClass "ShopLedger" = some m.cls := findClass_of_methodNamed B.named
  have hlocks := B.notSynchronized
  subst hsz
  have hD := hD0.self (sz := s.heap.size)
  generalize hAe : va_A [(x0, .inr (5, [.ref h0, .ref b0, .ref w0, .ref s0, .ref m0, .ref g0, .int (nI cl)])), (w0, .inl (D.2 0, 8, .inl fw))] s.heap.size = A at hD hB ⊢
  have hA : ∀ q : Nat, s.heap.size ≤ q → A q := fun q h => by rw [← hAe]; exact Or.inr h
  have hS : va_S A s.heap s.heap [] := va_S.rf
  have hZ : ∀ w ∈ zALL, w.before _ s = true := fun w h => hts w (List.mem_cons_of_mem _ h)
  have hF : CallFix p m c cX5_share 8 s _ zALL "ShopLedger" := ⟨hx, hb, hml, hown, hZ⟩
  have hl := lv_entry ([.ref x0, .int (nI j), .int p2]) (n := 8) (Nat.le_of_ble_eq_true rfl)
  rw [lg_entry_eq]
  generalize (lg_sl ([.ref x0, .int (nI j), .int p2]) ++ List.replicate (8 - (lg_sl ([.ref x0, .int (nI j), .int p2])).length) Slot.unset).toArray = ls at hl ⊢
  have hl : lv_has ls 8 [(0, .ref x0), (1, .int (nI j)), (2, .int p2)] := hl
  refine lv_iload_n hx hb dX5_share_0 rfl (lv_at hl 1 rfl) ?_
  refine lv_bipush (v := 8) hx hb dX5_share_1 (by decide) ?_
  have J := zJ.mk (wc := []) (wr := [(x0, .inr (5, [.ref h0, .ref b0, .ref w0, .ref s0, .ref m0, .ref g0, .int (nI cl)])), (w0, .inl (D.2 0, 8, .inl fw))]) hA hB hK hP hD hS [] [0, 1] rfl rfl (by decide)
  refine z_xgov (z_xrunS (As := [.int (nI j), .int 8]) (rest := []) hF (c_cI hl9 D (nI j) 8 s.heap.size) (va_cwS 2 hZ (z_gS t_56 t_57 t_55 t_54) rfl rfl rfl (by decide +kernel) ⟨Nat.le_of_ble_eq_true rfl, Nat.le_of_ble_eq_true rfl⟩) J rfl hl.1 (Nat.le_of_ble_eq_true rfl) dX5_share_3 ⟨Nat.le_of_ble_eq_true rfl, Nat.le_of_ble_eq_true rfl⟩) J (fun EX ce q9 H locs w1 hP hD hS hce hcv hcl => ?_) (fun _ H locs w1 hP hD hS => ?_)
  · have hP : va_P D.1 vwCl [(x0, .inr (5, [.ref h0, .ref b0, .ref w0, .ref s0, .ref m0, .ref g0, .int (nI cl)])), (w0, .inl (D.2 0, 8, .inl fw))] H := hP
    have hD : va_D A [(x0, .inr (5, [.ref h0, .ref b0, .ref w0, .ref s0, .ref m0, .ref g0, .int (nI cl)])), (w0, .inl (D.2 0, 8, .inl fw))] := hD
    exact z_out hnx hlocks hce hcv hcl ((z_no hj (by decide) w1.2).elim) hP hD hS [0, 1] rfl (by decide) (Nat.le_of_ble_eq_true rfl) (Nat.le_of_ble_eq_true rfl)
  have hP : va_P D.1 vwCl [(x0, .inr (5, [.ref h0, .ref b0, .ref w0, .ref s0, .ref m0, .ref g0, .int (nI cl)])), (w0, .inl (D.2 0, 8, .inl fw))] H := hP
  have hD : va_D A [(x0, .inr (5, [.ref h0, .ref b0, .ref w0, .ref s0, .ref m0, .ref g0, .int (nI cl)])), (w0, .inl (D.2 0, 8, .inl fw))] := hD
  refine lv_iload_n hx hb dX5_share_6 rfl (lv_at hl 2 rfl) ?_
  refine lv_iconst (v := 0) hx hb dX5_share_7 (by decide) ?_
  refine lv_ldc (v := 1000000000) hx hb hown (hZ _ t_64) dX5_share_8 ?_
  have J := zJ.mk (wc := []) (wr := [(x0, .inr (5, [.ref h0, .ref b0, .ref w0, .ref s0, .ref m0, .ref g0, .int (nI cl)])), (w0, .inl (D.2 0, 8, .inl fw))]) hA hB hK hP hD hS [] [0, 1] rfl rfl (by decide)
  refine z_xgov (z_xrunS (As := [.int p2, .int 0, .int 1000000000]) (rest := []) hF (c_cR hl9 D p2 0 1000000000 H.size) (va_cwS 3 hZ (z_gS t_66 t_67 t_55 t_65) rfl rfl rfl (by decide +kernel) ⟨Nat.le_of_ble_eq_true rfl, Nat.le_of_ble_eq_true rfl⟩) J rfl hl.1 (Nat.le_of_ble_eq_true rfl) dX5_share_10 ⟨Nat.le_of_ble_eq_true rfl, Nat.le_of_ble_eq_true rfl⟩) J (fun EX ce q9 H locs w2 hP hD hS hce hcv hcl => ?_) (fun _ H locs w2 hP hD hS => ?_)
  · have hP : va_P D.1 vwCl [(x0, .inr (5, [.ref h0, .ref b0, .ref w0, .ref s0, .ref m0, .ref g0, .int (nI cl)])), (w0, .inl (D.2 0, 8, .inl fw))] H := hP
    have hD : va_D A [(x0, .inr (5, [.ref h0, .ref b0, .ref w0, .ref s0, .ref m0, .ref g0, .int (nI cl)])), (w0, .inl (D.2 0, 8, .inl fw))] := hD
    exact z_out hnx hlocks hce hcv hcl (Or.inl ⟨w2.1, fun h => w2.2.elim h.1 (fun g => g h.2)⟩) hP hD hS [0, 1] rfl (by decide) (Nat.le_of_ble_eq_true rfl) (Nat.le_of_ble_eq_true rfl)
  have hP : va_P D.1 vwCl [(x0, .inr (5, [.ref h0, .ref b0, .ref w0, .ref s0, .ref m0, .ref g0, .int (nI cl)])), (w0, .inl (D.2 0, 8, .inl fw))] H := hP
  have hD : va_D A [(x0, .inr (5, [.ref h0, .ref b0, .ref w0, .ref s0, .ref m0, .ref g0, .int (nI cl)])), (w0, .inl (D.2 0, 8, .inl fw))] := hD
  refine lv_lconst (v := 0) hx hb dX5_share_13 (by decide) ?_
  refine lv_lstore_n (lv' := [(3, .long 0), (0, .ref x0), (1, .int (nI j)), (2, .int p2)]) hx hb dX5_share_14 rfl hl (by decide) rfl (fun ls hl => ?_)
  refine lv_lconst (v := 0) hx hb dX5_share_15 (by decide) ?_
  refine lv_lstore (lv' := [(5, .long 0), (3, .long 0), (0, .ref x0), (1, .int (nI j)), (2, .int p2)]) hx hb dX5_share_16 hl (by decide) rfl (fun ls hl => ?_)
  refine lv_iconst (v := 0) hx hb dX5_share_18 (by decide) ?_
  refine lv_istore (lv' := [(7, .int 0), (5, .long 0), (3, .long 0), (0, .ref x0), (1, .int (nI j)), (2, .int p2)]) hx hb dX5_share_19 hl (by decide) rfl (fun ls hl => ?_)
  have lo1 : ∀ (nn : Nat) (k : Nat), k ≤ 8 → 8 + 1 ≤ k + nn → ∀ (H : Heap) (locs : List Loc), va_P D.1 vwCl [(x0, .inr (5, [.ref h0, .ref b0, .ref w0, .ref s0, .ref m0, .ref g0, .int (nI cl)])), (w0, .inl (D.2 0, 8, .inl fw))] H → va_D A [(x0, .inr (5, [.ref h0, .ref b0, .ref w0, .ref s0, .ref m0, .ref g0, .int (nI cl)])), (w0, .inl (D.2 0, 8, .inl fw))] → va_S A s.heap H locs → ∀ (ls : Array Slot), lv_has ls 8 [(0, .ref x0), (1, .int (nI j)), (2, .int p2), (3, .long (zs_lsum fw (min k j))), (5, .long (zs_lsum fw k)), (7, .int (nI k))] → W p l e (headSpec wsX5_share ({ frames := 7, cells := 3, slots := 18, locals := 112 })).room s m [.ref x0, .int (nI j), .int p2].toArray below meth c H locs 2 12 (vx_MQ below (va_Ql (fun r (_ : Unit) => (¬ p2 < 0 ∧ p2 ≤ 1000000000) ∧ (¬ zs_lsum fw 8 = 0) ∧ r = zs_part p2.toInt64 (zs_lsum fw j) (fw j).toInt64 (zs_lsum fw 8)) (zq D A (fun (_ : Unit) => ([(x0, .inr (5, [.ref h0, .ref b0, .ref w0, .ref s0, .ref m0, .ref g0, .int (nI cl)])), (w0, .inl (D.2 0, 8, .inl fw))] : va_W))) A) (vx_X (fun _ : Unit => True) (zx D A [(x0, .inr (5, [.ref h0, .ref b0, .ref w0, .ref s0, .ref m0, .ref g0, .int (nI cl)])), (w0, .inl (D.2 0, 8, .inl fw))] (fun E => (E = "java/lang/IllegalArgumentException" ∧ ¬ (¬ p2 < 0 ∧ p2 ≤ 1000000000)) ∨ (E = "java/lang/UnsupportedOperationException" ∧ (¬ p2 < 0 ∧ p2 ≤ 1000000000) ∧ ¬ (¬ zs_lsum fw 8 = 0)))) A) [.ref x0, .int (nI j), .int p2].toArray s 3 18 A) (F0 m 21 ls []) := by
    intro nn
    induction nn with
    | zero =>
      intro k q1 q2
      exfalso
      omega
    | succ nn ih_lo1 =>
      intro k q1 q2 H locs hP hD hS ls hl
      refine lv_iload hx hb dX5_share_21 (lv_at hl 5 rfl) ?_
      refine lv_bipush (v := 8) hx hb dX5_share_23 (by decide) ?_
      refine lv_icmp_ge (tgt := 64) hx hb dX5_share_25 (by decide) (fun c1 => ?_) (fun c1 => ?_)
      · skip
        have e9 : 8 = k := (z_ge q1 (by decide) c1).symm
        subst e9
        rw [Nat.min_eq_right (Nat.le_of_lt hj)] at hl
        refine lv_lload hx hb dX5_share_64 (lv_at hl 4 rfl) ?_
        refine lv_lconst (v := 0) hx hb dX5_share_66 (by decide) ?_
        refine W.lcmp hx hb dX5_share_67 ?_
        refine lv_if_ne (tgt := 81) hx hb dX5_share_68 (by decide) (fun c3 => ?_) (fun c3 => ?_)
        · skip
          have e3 : ¬ zs_lsum fw 8 = 0 := fun h => c3 ((lg_cmp_eq _ _).mpr h)
          refine lv_iload_n hx hb dX5_share_81 rfl (lv_at hl 2 rfl) ?_
          refine lv_i2l (v := p2.toInt64) hx hb dX5_share_82 rfl ?_
          refine lv_lload_n hx hb dX5_share_83 rfl (lv_at hl 3 rfl) ?_
          refine lv_aload_n hx hb dX5_share_84 rfl (lv_at hl 0 rfl) ?_
          refine va_get (D := D.1) (ci := 5) (v := .ref w0) (C := "ShopLedger") (T := TX5) (N := 7) hx hb hZ inX5 hown hK hP 0 rfl rfl 2 (by decide) (hZ _ t_103) (fun _ h9 => h9) rfl dX5_share_85 ?_
          refine lv_iload_n hx hb dX5_share_88 rfl (lv_at hl 1 rfl) ?_
          refine z_iald (k := j) hx hb hK hP 1 rfl (hj) (by decide) dX5_share_89 ?_
          refine lv_i2l (v := (fw j).toInt64) hx hb dX5_share_90 rfl ?_
          refine lv_lload hx hb dX5_share_91 (lv_at hl 4 rfl) ?_
          have J := zJ.mk (wc := []) (wr := [(x0, .inr (5, [.ref h0, .ref b0, .ref w0, .ref s0, .ref m0, .ref g0, .int (nI cl)])), (w0, .inl (D.2 0, 8, .inl fw))]) hA hB hK hP hD hS [] [0, 1] rfl rfl (by decide)
          refine z_gol (z_runS (As := [.long p2.toInt64, .long (zs_lsum fw j), .long ((fw j).toInt64), .long (zs_lsum fw 8)]) (rest := []) hF (c_part D p2.toInt64 (zs_lsum fw j) (fw j).toInt64 (zs_lsum fw 8) H.size) (va_cwS 4 hZ (z_gS t_105 t_106 t_55 t_104) rfl rfl rfl (by decide +kernel) ⟨Nat.le_of_ble_eq_true rfl, Nat.le_of_ble_eq_true rfl⟩) J rfl hl.1 (Nat.le_of_ble_eq_true rfl) dX5_share_93 ⟨Nat.le_of_ble_eq_true rfl, Nat.le_of_ble_eq_true rfl⟩) J (fun r3 _ H locs w3 hP hD hS => ?_)
          have hP : va_P D.1 vwCl [(x0, .inr (5, [.ref h0, .ref b0, .ref w0, .ref s0, .ref m0, .ref g0, .int (nI cl)])), (w0, .inl (D.2 0, 8, .inl fw))] H := hP
          have hD : va_D A [(x0, .inr (5, [.ref h0, .ref b0, .ref w0, .ref s0, .ref m0, .ref g0, .int (nI cl)])), (w0, .inl (D.2 0, 8, .inl fw))] := hD
          subst w3
          refine vx_ret ?_
          exact z_lret (v := zs_part p2.toInt64 (zs_lsum fw j) (fw j).toInt64 (zs_lsum fw 8)) hx hb hr hlocks hP hD hS () (⟨w2, e3, rfl⟩) [0, 1] rfl (by decide) (Nat.le_of_ble_eq_true rfl) (Nat.le_of_ble_eq_true rfl) dX5_share_96
        have e3 : zs_lsum fw 8 = 0 := (lg_cmp_eq _ _).mp c3
        exact z_throw (own := "ShopLedger") "java/lang/UnsupportedOperationException" "all weights are 0" ["java/lang/RuntimeException", "java/lang/Exception"] hx hb hl9 hnx hlocks hown (by decide +kernel) (by decide +kernel) (hZ _ t_52) (hZ _ t_53) hB (by decide +kernel) (vx_hat (L := vx_atS "ShopLedger" 92 "java/lang/UnsupportedOperationException" ["java/lang/RuntimeException", "java/lang/Exception"]) (B := [.castable "java/lang/UnsupportedOperationException" "java/lang/UnsupportedOperationException", .declares ⟨"java/lang/RuntimeException", "<init>", "(Ljava/lang/String;)V"⟩, .declares ⟨"java/lang/Exception", "<init>", "(Ljava/lang/String;)V"⟩, .declares ⟨"java/lang/Throwable", "<init>", "(Ljava/lang/String;)V"⟩]) (fun w hw => hZ w (t_at3 w hw)) (by decide +kernel) (vx_c (va_Nw.use rfl (hB.2.2.2.1 ("java/lang/UnsupportedOperationException", "java/lang/UnsupportedOperationException") (by decide +kernel))) (vx_c (va_Nw.use rfl (hB.2.2.2.2.1 ⟨"java/lang/RuntimeException", "<init>", "(Ljava/lang/String;)V"⟩ (by decide +kernel))) (vx_c (va_Nw.use rfl (hB.2.2.2.2.1 ⟨"java/lang/Exception", "<init>", "(Ljava/lang/String;)V"⟩ (by decide +kernel))) (vx_c (va_Nw.use rfl (hB.2.2.2.2.1 ⟨"java/lang/Throwable", "<init>", "(Ljava/lang/String;)V"⟩ (by decide +kernel))) (vx_n)))))) (by decide +kernel) (hl.1.trans hml.symm) dX5_share_71 dX5_share_74 dX5_share_75 dX5_share_77 dX5_share_80 (Nat.le_of_ble_eq_true rfl) (Nat.le_of_ble_eq_true rfl) (Nat.le_of_ble_eq_true rfl) (Nat.le_of_ble_eq_true rfl) (Or.inr (⟨rfl, w2, fun h => h e3⟩)) hP hD hS [0, 1] rfl (by decide) (Nat.le_of_ble_eq_true rfl) (Nat.le_of_ble_eq_true rfl)
      have hk : k < 8 := z_lt q1 (by decide) c1
      refine lv_iload hx hb dX5_share_28 (lv_at hl 5 rfl) ?_
      refine lv_iload_n hx hb dX5_share_30 rfl (lv_at hl 1 rfl) ?_
      refine lv_icmp_ge (tgt := 45) hx hb dX5_share_31 (by decide) (fun c2 => ?_) (fun c2 => ?_)
      · skip
        have hm : zs_lsum fw (min (k + 1) j) = zs_lsum fw (min k j) := by rw [Nat.min_eq_right (b := j) (by have := (nI_leI (a := j) (b := k) (by omega) (by omega)).mp c2; omega), Nat.min_eq_right (b := j) ((nI_leI (a := j) (b := k) (by omega) (by omega)).mp c2)]
        rw [← hm] at hl
        refine lv_lload hx hb dX5_share_45 (lv_at hl 4 rfl) ?_
        refine lv_aload_n hx hb dX5_share_47 rfl (lv_at hl 0 rfl) ?_
        refine va_get (D := D.1) (ci := 5) (v := .ref w0) (C := "ShopLedger") (T := TX5) (N := 7) hx hb hZ inX5 hown hK hP 0 rfl rfl 2 (by decide) (hZ _ t_103) (fun _ h9 => h9) rfl dX5_share_48 ?_
        refine lv_iload hx hb dX5_share_51 (lv_at hl 5 rfl) ?_
        refine z_iald (k := k) hx hb hK hP 1 rfl (hk) (by decide) dX5_share_53 ?_
        refine lv_i2l (v := (fw k).toInt64) hx hb dX5_share_54 rfl ?_
        refine lv_ladd hx hb dX5_share_55 ?_
        rw [show ((zs_lsum fw k) + ((fw k).toInt64)) = zs_lsum fw (k + 1) from rfl]
        refine lv_lstore (lv' := [(5, .long (zs_lsum fw (k + 1))), (0, .ref x0), (1, .int (nI j)), (2, .int p2), (3, .long (zs_lsum fw (min (k + 1) j))), (7, .int (nI k))]) hx hb dX5_share_56 hl (by decide) rfl (fun ls hl => ?_)
        refine lv_iinc (v := nI (k + 1)) (lv' := [(7, .int (nI (k + 1))), (5, .long (zs_lsum fw (k + 1))), (0, .ref x0), (1, .int (nI j)), (2, .int p2), (3, .long (zs_lsum fw (min (k + 1) j)))]) hx hb dX5_share_58 hl (k := 5) rfl (nI_1 k) (by decide) rfl (fun ls hl => ?_)
        refine lv_goto (tgt := 21) hx hb dX5_share_61 (by decide) ?_
        exact ih_lo1 (k + 1) (Nat.succ_le_of_lt hk) (by omega)  _ _ (hP.sub [0, 1] rfl) (hD.sub [0, 1] (by decide) rfl) hS ls (lv_sub hl [2, 3, 4, 5, 1, 0] rfl)
      have hm : zs_lsum fw (min (k + 1) j) = zs_lsum fw (min k j) + (fw k).toInt64 := by have h9 : k < j := Nat.lt_of_not_le (fun h => c2 ((nI_leI (by omega) (by omega)).mpr h)); rw [Nat.min_eq_left (a := k + 1) h9, Nat.min_eq_left (a := k) (by omega)]; rfl
      refine lv_lload_n hx hb dX5_share_34 rfl (lv_at hl 3 rfl) ?_
      refine lv_aload_n hx hb dX5_share_35 rfl (lv_at hl 0 rfl) ?_
      refine va_get (D := D.1) (ci := 5) (v := .ref w0) (C := "ShopLedger") (T := TX5) (N := 7) hx hb hZ inX5 hown hK hP 0 rfl rfl 2 (by decide) (hZ _ t_103) (fun _ h9 => h9) rfl dX5_share_36 ?_
      refine lv_iload hx hb dX5_share_39 (lv_at hl 5 rfl) ?_
      refine z_iald (k := k) hx hb hK hP 1 rfl (hk) (by decide) dX5_share_41 ?_
      refine lv_i2l (v := (fw k).toInt64) hx hb dX5_share_42 rfl ?_
      refine lv_ladd hx hb dX5_share_43 ?_
      rw [show ((zs_lsum fw (min k j)) + ((fw k).toInt64)) = zs_lsum fw (min (k + 1) j) from hm.symm]
      refine lv_lstore_n (lv' := [(3, .long (zs_lsum fw (min (k + 1) j))), (0, .ref x0), (1, .int (nI j)), (2, .int p2), (5, .long (zs_lsum fw k)), (7, .int (nI k))]) hx hb dX5_share_44 rfl hl (by decide) rfl (fun ls hl => ?_)
      refine lv_lload hx hb dX5_share_45 (lv_at hl 4 rfl) ?_
      refine lv_aload_n hx hb dX5_share_47 rfl (lv_at hl 1 rfl) ?_
      refine va_get (D := D.1) (ci := 5) (v := .ref w0) (C := "ShopLedger") (T := TX5) (N := 7) hx hb hZ inX5 hown hK hP 0 rfl rfl 2 (by decide) (hZ _ t_103) (fun _ h9 => h9) rfl dX5_share_48 ?_
      refine lv_iload hx hb dX5_share_51 (lv_at hl 5 rfl) ?_
      refine z_iald (k := k) hx hb hK hP 1 rfl (hk) (by decide) dX5_share_53 ?_
      refine lv_i2l (v := (fw k).toInt64) hx hb dX5_share_54 rfl ?_
      refine lv_ladd hx hb dX5_share_55 ?_
      rw [show ((zs_lsum fw k) + ((fw k).toInt64)) = zs_lsum fw (k + 1) from rfl]
      refine lv_lstore (lv' := [(5, .long (zs_lsum fw (k + 1))), (3, .long (zs_lsum fw (min (k + 1) j))), (0, .ref x0), (1, .int (nI j)), (2, .int p2), (7, .int (nI k))]) hx hb dX5_share_56 hl (by decide) rfl (fun ls hl => ?_)
      refine lv_iinc (v := nI (k + 1)) (lv' := [(7, .int (nI (k + 1))), (5, .long (zs_lsum fw (k + 1))), (3, .long (zs_lsum fw (min (k + 1) j))), (0, .ref x0), (1, .int (nI j)), (2, .int p2)]) hx hb dX5_share_58 hl (k := 5) rfl (nI_1 k) (by decide) rfl (fun ls hl => ?_)
      refine lv_goto (tgt := 21) hx hb dX5_share_61 (by decide) ?_
      exact ih_lo1 (k + 1) (Nat.succ_le_of_lt hk) (by omega)  _ _ (hP.sub [0, 1] rfl) (hD.sub [0, 1] (by decide) rfl) hS ls (lv_sub hl [3, 4, 5, 2, 1, 0] rfl)
  exact lo1 (8 + 1) 0 (Nat.zero_le _) (by omega)  _ _ (hP.sub [0, 1] rfl) (hD.sub [0, 1] (by decide) rfl) hS ls (lv_sub hl [3, 4, 5, 2, 1, 0] rfl)
set_option maxHeartbeats 4000000 in
set_option maxRecDepth 100000 in
/-- share, of what is not there -/
theorem c_shareX {l : Launch} (hl9 : l.stackTraces = false) (D : zD) (x0 h0 b0 w0 s0 m0 g0 cl : Nat) (p1 p2 : Int32) (sz : Nat) (hp : ¬ zin p1 8) : vx_Met l yX5_share wsX5_share ({ frames := 7, cells := 1, slots := 6, locals := 111 }) (va_Pc [.ref x0, .int p1, .int p2] (zp D sz [(x0, .inr (5, [.ref h0, .ref b0, .ref w0, .ref s0, .ref m0, .ref g0, .int (nI cl)]))])) (va_Ql (fun r (_ : Unit) => False) (zq D (va_A [(x0, .inr (5, [.ref h0, .ref b0, .ref w0, .ref s0, .ref m0, .ref g0, .int (nI cl)]))] sz) (fun (_ : Unit) => ([(x0, .inr (5, [.ref h0, .ref b0, .ref w0, .ref s0, .ref m0, .ref g0, .int (nI cl)]))] : va_W))) (va_A [(x0, .inr (5, [.ref h0, .ref b0, .ref w0, .ref s0, .ref m0, .ref g0, .int (nI cl)]))] sz)) (vx_X (fun _ : Unit => True) (zx D (va_A [(x0, .inr (5, [.ref h0, .ref b0, .ref w0, .ref s0, .ref m0, .ref g0, .int (nI cl)]))] sz) [(x0, .inr (5, [.ref h0, .ref b0, .ref w0, .ref s0, .ref m0, .ref g0, .int (nI cl)]))] (fun E9 => E9 = "java/lang/IndexOutOfBoundsException")) (va_A [(x0, .inr (5, [.ref h0, .ref b0, .ref w0, .ref s0, .ref m0, .ref g0, .int (nI cl)]))] sz)) 1 6 (va_A [(x0, .inr (5, [.ref h0, .ref b0, .ref w0, .ref s0, .ref m0, .ref g0, .int (nI cl)]))] sz) := by
  refine vx_ofW (cc := cX5_share) (maxL := 8) (ret := (some .long)) (by decide) rfl ?_
  intro p e s m args below meth c s₁ B hml hnx hv
  obtain ⟨rfl, hsz, hP, hK, hD0, hB⟩ := hv
  have hx := B.exec
  have hb := B.bytes
  have hr := B.returns
  have hts := atoms_spec (ws := wsX5_share) B.pre
  have hown : s.vm.findClass "ShopLedger" = some m.cls := findClass_of_methodNamed B.named
  have hlocks := B.notSynchronized
  subst hsz
  have hD := hD0.self (sz := s.heap.size)
  generalize hAe : va_A [(x0, .inr (5, [.ref h0, .ref b0, .ref w0, .ref s0, .ref m0, .ref g0, .int (nI cl)]))] s.heap.size = A at hD hB ⊢
  have hA : ∀ q : Nat, s.heap.size ≤ q → A q := fun q h => by rw [← hAe]; exact Or.inr h
  have hS : va_S A s.heap s.heap [] := va_S.rf
  have hZ : ∀ w ∈ zALL, w.before _ s = true := fun w h => hts w (List.mem_cons_of_mem _ h)
  have hF : CallFix p m c cX5_share 8 s _ zALL "ShopLedger" := ⟨hx, hb, hml, hown, hZ⟩
  have hl := lv_entry ([.ref x0, .int p1, .int p2]) (n := 8) (Nat.le_of_ble_eq_true rfl)
  rw [lg_entry_eq]
  generalize (lg_sl ([.ref x0, .int p1, .int p2]) ++ List.replicate (8 - (lg_sl ([.ref x0, .int p1, .int p2])).length) Slot.unset).toArray = ls at hl ⊢
  have hl : lv_has ls 8 [(0, .ref x0), (1, .int p1), (2, .int p2)] := hl
  refine lv_iload_n hx hb dX5_share_0 rfl (lv_at hl 1 rfl) ?_
  refine lv_bipush (v := 8) hx hb dX5_share_1 (by decide) ?_
  have J := zJ.mk (wc := []) (wr := [(x0, .inr (5, [.ref h0, .ref b0, .ref w0, .ref s0, .ref m0, .ref g0, .int (nI cl)]))]) hA hB hK hP hD hS [] [0] rfl rfl (by decide)
  refine z_xgov (z_xrunS (As := [.int p1, .int 8]) (rest := []) hF (c_cI hl9 D p1 8 s.heap.size) (va_cwS 2 hZ (z_gS t_56 t_57 t_55 t_54) rfl rfl rfl (by decide +kernel) ⟨Nat.le_of_ble_eq_true rfl, Nat.le_of_ble_eq_true rfl⟩) J rfl hl.1 (Nat.le_of_ble_eq_true rfl) dX5_share_3 ⟨Nat.le_of_ble_eq_true rfl, Nat.le_of_ble_eq_true rfl⟩) J (fun EX ce q9 H locs w1 hP hD hS hce hcv hcl => ?_) (fun _ H locs w1 hP hD hS => ?_)
  · have hP : va_P D.1 vwCl [(x0, .inr (5, [.ref h0, .ref b0, .ref w0, .ref s0, .ref m0, .ref g0, .int (nI cl)]))] H := hP
    have hD : va_D A [(x0, .inr (5, [.ref h0, .ref b0, .ref w0, .ref s0, .ref m0, .ref g0, .int (nI cl)]))] := hD
    exact z_out hnx hlocks hce hcv hcl (w1.1) hP hD hS [0] rfl (by decide) (Nat.le_of_ble_eq_true rfl) (Nat.le_of_ble_eq_true rfl)
  have hP : va_P D.1 vwCl [(x0, .inr (5, [.ref h0, .ref b0, .ref w0, .ref s0, .ref m0, .ref g0, .int (nI cl)]))] H := hP
  have hD : va_D A [(x0, .inr (5, [.ref h0, .ref b0, .ref w0, .ref s0, .ref m0, .ref g0, .int (nI cl)]))] := hD
  exact absurd w1 hp
set_option maxHeartbeats 4000000 in
set_option maxRecDepth 100000 in
/-- stock -/
theorem c_stock {l : Launch} (hl9 : l.stackTraces = false) (D : zD) (x0 h0 b0 w0 m0 g0 cl : Nat) (s0 t0 t1 t2 n : Nat) (fs : Nat → Option Nat) (fp fc : Nat → Int32) (j : Nat) (p2 p3 : Int32) (sz : Nat) (hj : j < 4) (hf : fs j = some t0) (hn : n ≤ 12) : vx_Met l yX5_stock wsX5_stock ({ frames := 7, cells := 4, slots := 24, locals := 112 }) (va_Pc [.ref x0, .int (nI j), .int p2, .int p3] (zp D sz [(x0, .inr (5, [.ref h0, .ref b0, .ref w0, .ref s0, .ref m0, .ref g0, .int (nI cl)])), (s0, .inl (D.2 3, 4, .inr (.inr (.inr (.inr fs))))), (t0, .inr (4, [.ref t1, .ref t2, .int (nI n)])), (t1, .inl (D.2 0, 12, .inl fp)), (t2, .inl (D.2 0, 12, .inl fc))])) (va_Qi (fun r (_ : Unit) => (¬ 12 ≤ nI n) ∧ (¬ p2 < 1 ∧ p2 ≤ 1000000 ∧ ¬ p3 < 0 ∧ p3 ≤ 1000000) ∧ r = nI (n + 1)) (zq D (va_A [(x0, .inr (5, [.ref h0, .ref b0, .ref w0, .ref s0, .ref m0, .ref g0, .int (nI cl)])), (s0, .inl (D.2 3, 4, .inr (.inr (.inr (.inr fs))))), (t0, .inr (4, [.ref t1, .ref t2, .int (nI n)])), (t1, .inl (D.2 0, 12, .inl fp)), (t2, .inl (D.2 0, 12, .inl fc))] sz) (fun (_ : Unit) => ([(x0, .inr (5, [.ref h0, .ref b0, .ref w0, .ref s0, .ref m0, .ref g0, .int (nI cl)])), (s0, .inl (D.2 3, 4, .inr (.inr (.inr (.inr fs))))), (t0, .inr (4, [.ref t1, .ref t2, .int (nI (n + 1))])), (t1, .inl (D.2 0, 12, .inl (upd fp n p2))), (t2, .inl (D.2 0, 12, .inl (upd fc n p3)))] : va_W))) (va_A [(x0, .inr (5, [.ref h0, .ref b0, .ref w0, .ref s0, .ref m0, .ref g0, .int (nI cl)])), (s0, .inl (D.2 3, 4, .inr (.inr (.inr (.inr fs))))), (t0, .inr (4, [.ref t1, .ref t2, .int (nI n)])), (t1, .inl (D.2 0, 12, .inl fp)), (t2, .inl (D.2 0, 12, .inl fc))] sz)) (vx_X (fun _ : Unit => True) (zx D (va_A [(x0, .inr (5, [.ref h0, .ref b0, .ref w0, .ref s0, .ref m0, .ref g0, .int (nI cl)])), (s0, .inl (D.2 3, 4, .inr (.inr (.inr (.inr fs))))), (t0, .inr (4, [.ref t1, .ref t2, .int (nI n)])), (t1, .inl (D.2 0, 12, .inl fp)), (t2, .inl (D.2 0, 12, .inl fc))] sz) [(x0, .inr (5, [.ref h0, .ref b0, .ref w0, .ref s0, .ref m0, .ref g0, .int (nI cl)])), (s0, .inl (D.2 3, 4, .inr (.inr (.inr (.inr fs))))), (t0, .inr (4, [.ref t1, .ref t2, .int (nI n)])), (t1, .inl (D.2 0, 12, .inl fp)), (t2, .inl (D.2 0, 12, .inl fc))] (fun E => (E = "java/lang/IllegalStateException" ∧ ¬ (¬ 12 ≤ nI n)) ∨ (E = "java/lang/IllegalArgumentException" ∧ (¬ 12 ≤ nI n) ∧ ¬ (¬ p2 < 1 ∧ p2 ≤ 1000000 ∧ ¬ p3 < 0 ∧ p3 ≤ 1000000)))) (va_A [(x0, .inr (5, [.ref h0, .ref b0, .ref w0, .ref s0, .ref m0, .ref g0, .int (nI cl)])), (s0, .inl (D.2 3, 4, .inr (.inr (.inr (.inr fs))))), (t0, .inr (4, [.ref t1, .ref t2, .int (nI n)])), (t1, .inl (D.2 0, 12, .inl fp)), (t2, .inl (D.2 0, 12, .inl fc))] sz)) 4 24 (va_A [(x0, .inr (5, [.ref h0, .ref b0, .ref w0, .ref s0, .ref m0, .ref g0, .int (nI cl)])), (s0, .inl (D.2 3, 4, .inr (.inr (.inr (.inr fs))))), (t0, .inr (4, [.ref t1, .ref t2, .int (nI n)])), (t1, .inl (D.2 0, 12, .inl fp)), (t2, .inl (D.2 0, 12, .inl fc))] sz) := by
  refine vx_ofW (cc := cX5_stock) (maxL := 4) (ret := (some .int)) (by decide) rfl ?_
  intro p e s m args below meth c s₁ B hml hnx hv
  obtain ⟨rfl, hsz, hP, hK, hD0, hB⟩ := hv
  have hx := B.exec
  have hb := B.bytes
  have hr := B.returns
  have hts := atoms_spec (ws := wsX5_stock) B.pre
  have hown : s.vm.findClass "ShopLedger" = some m.cls := findClass_of_methodNamed B.named
  have hlocks := B.notSynchronized
  subst hsz
  have hD := hD0.self (sz := s.heap.size)
  generalize hAe : va_A [(x0, .inr (5, [.ref h0, .ref b0, .ref w0, .ref s0, .ref m0, .ref g0, .int (nI cl)])), (s0, .inl (D.2 3, 4, .inr (.inr (.inr (.inr fs))))), (t0, .inr (4, [.ref t1, .ref t2, .int (nI n)])), (t1, .inl (D.2 0, 12, .inl fp)), (t2, .inl (D.2 0, 12, .inl fc))] s.heap.size = A at hD hB ⊢
  have hA : ∀ q : Nat, s.heap.size ≤ q → A q := fun q h => by rw [← hAe]; exact Or.inr h
  have hS : va_S A s.heap s.heap [] := va_S.rf
  have hZ : ∀ w ∈ zALL, w.before _ s = true := fun w h => hts w (List.mem_cons_of_mem _ h)
  have hF : CallFix p m c cX5_stock 4 s _ zALL "ShopLedger" := ⟨hx, hb, hml, hown, hZ⟩
  have hl := lv_entry ([.ref x0, .int (nI j), .int p2, .int p3]) (n := 4) (Nat.le_of_ble_eq_true rfl)
  rw [lg_entry_eq]
  generalize (lg_sl ([.ref x0, .int (nI j), .int p2, .int p3]) ++ List.replicate (4 - (lg_sl ([.ref x0, .int (nI j), .int p2, .int p3])).length) Slot.unset).toArray = ls at hl ⊢
  have hl : lv_has ls 4 [(0, .ref x0), (1, .int (nI j)), (2, .int p2), (3, .int p3)] := hl
  refine lv_iload_n hx hb dX5_stock_0 rfl (lv_at hl 1 rfl) ?_
  refine lv_iconst (v := 4) hx hb dX5_stock_1 (by decide) ?_
  have J := zJ.mk (wc := []) (wr := [(x0, .inr (5, [.ref h0, .ref b0, .ref w0, .ref s0, .ref m0, .ref g0, .int (nI cl)])), (s0, .inl (D.2 3, 4, .inr (.inr (.inr (.inr fs))))), (t0, .inr (4, [.ref t1, .ref t2, .int (nI n)])), (t1, .inl (D.2 0, 12, .inl fp)), (t2, .inl (D.2 0, 12, .inl fc))]) hA hB hK hP hD hS [] [0, 1, 2, 3, 4] rfl rfl (by decide)
  refine z_xgov (z_xrunS (As := [.int (nI j), .int 4]) (rest := []) hF (c_cI hl9 D (nI j) 4 s.heap.size) (va_cwS 2 hZ (z_gS t_56 t_57 t_55 t_54) rfl rfl rfl (by decide +kernel) ⟨Nat.le_of_ble_eq_true rfl, Nat.le_of_ble_eq_true rfl⟩) J rfl hl.1 (Nat.le_of_ble_eq_true rfl) dX5_stock_2 ⟨Nat.le_of_ble_eq_true rfl, Nat.le_of_ble_eq_true rfl⟩) J (fun EX ce q9 H locs w1 hP hD hS hce hcv hcl => ?_) (fun _ H locs w1 hP hD hS => ?_)
  · have hP : va_P D.1 vwCl [(x0, .inr (5, [.ref h0, .ref b0, .ref w0, .ref s0, .ref m0, .ref g0, .int (nI cl)])), (s0, .inl (D.2 3, 4, .inr (.inr (.inr (.inr fs))))), (t0, .inr (4, [.ref t1, .ref t2, .int (nI n)])), (t1, .inl (D.2 0, 12, .inl fp)), (t2, .inl (D.2 0, 12, .inl fc))] H := hP
    have hD : va_D A [(x0, .inr (5, [.ref h0, .ref b0, .ref w0, .ref s0, .ref m0, .ref g0, .int (nI cl)])), (s0, .inl (D.2 3, 4, .inr (.inr (.inr (.inr fs))))), (t0, .inr (4, [.ref t1, .ref t2, .int (nI n)])), (t1, .inl (D.2 0, 12, .inl fp)), (t2, .inl (D.2 0, 12, .inl fc))] := hD
    exact z_out hnx hlocks hce hcv hcl ((z_no hj (by decide) w1.2).elim) hP hD hS [0, 1, 2, 3, 4] rfl (by decide) (Nat.le_of_ble_eq_true rfl) (Nat.le_of_ble_eq_true rfl)
  have hP : va_P D.1 vwCl [(x0, .inr (5, [.ref h0, .ref b0, .ref w0, .ref s0, .ref m0, .ref g0, .int (nI cl)])), (s0, .inl (D.2 3, 4, .inr (.inr (.inr (.inr fs))))), (t0, .inr (4, [.ref t1, .ref t2, .int (nI n)])), (t1, .inl (D.2 0, 12, .inl fp)), (t2, .inl (D.2 0, 12, .inl fc))] H := hP
  have hD : va_D A [(x0, .inr (5, [.ref h0, .ref b0, .ref w0, .ref s0, .ref m0, .ref g0, .int (nI cl)])), (s0, .inl (D.2 3, 4, .inr (.inr (.inr (.inr fs))))), (t0, .inr (4, [.ref t1, .ref t2, .int (nI n)])), (t1, .inl (D.2 0, 12, .inl fp)), (t2, .inl (D.2 0, 12, .inl fc))] := hD
  refine lv_aload_n hx hb dX5_stock_5 rfl (lv_at hl 0 rfl) ?_
  refine va_get (D := D.1) (ci := 5) (v := .ref s0) (C := "ShopLedger") (T := TX5) (N := 7) hx hb hZ inX5 hown hK hP 0 rfl rfl 3 (by decide) (hZ _ t_107) (fun _ h9 => h9) rfl dX5_stock_6 ?_
  refine lv_iload_n hx hb dX5_stock_9 rfl (lv_at hl 1 rfl) ?_
  refine z_aldq (q := t0) hx hb hK hP 1 3 rfl rfl (hj) (by decide) (hf) dX5_stock_10 ?_
  refine va_get (D := D.1) (ci := 4) (v := .int (nI n)) (C := "ShopLedger$Stock") (T := TX4) (N := 3) hx hb hZ inX4 hown hK hP 2 rfl rfl 2 (by decide) (hZ _ t_108) (fun _ h9 => h9) rfl dX5_stock_11 ?_
  refine lv_bipush (v := 12) hx hb dX5_stock_14 (by decide) ?_
  refine lv_icmp_ge (tgt := 23) hx hb dX5_stock_16 (by decide) (fun c1 => ?_) (fun c1 => ?_)
  · skip
    refine lv_iconst (v := 0) hx hb dX5_stock_23 (by decide) ?_
    have J := zJ.mk (wc := []) (wr := [(x0, .inr (5, [.ref h0, .ref b0, .ref w0, .ref s0, .ref m0, .ref g0, .int (nI cl)])), (s0, .inl (D.2 3, 4, .inr (.inr (.inr (.inr fs))))), (t0, .inr (4, [.ref t1, .ref t2, .int (nI n)])), (t1, .inl (D.2 0, 12, .inl fp)), (t2, .inl (D.2 0, 12, .inl fc))]) hA hB hK hP hD hS [] [0, 1, 2, 3, 4] rfl rfl (by decide)
    refine z_xgov (z_xrunS (As := [.int 0]) (rest := []) hF (c_cT hl9 D 0 H.size) (va_cwS 1 hZ (z_gS t_61 t_62 t_55 t_60) rfl rfl rfl (by decide +kernel) ⟨Nat.le_of_ble_eq_true rfl, Nat.le_of_ble_eq_true rfl⟩) J rfl hl.1 (Nat.le_of_ble_eq_true rfl) dX5_stock_24 ⟨Nat.le_of_ble_eq_true rfl, Nat.le_of_ble_eq_true rfl⟩) J (fun EX ce q9 H locs w2 hP hD hS hce hcv hcl => ?_) (fun _ H locs w2 hP hD hS => ?_)
    · have hP : va_P D.1 vwCl [(x0, .inr (5, [.ref h0, .ref b0, .ref w0, .ref s0, .ref m0, .ref g0, .int (nI cl)])), (s0, .inl (D.2 3, 4, .inr (.inr (.inr (.inr fs))))), (t0, .inr (4, [.ref t1, .ref t2, .int (nI n)])), (t1, .inl (D.2 0, 12, .inl fp)), (t2, .inl (D.2 0, 12, .inl fc))] H := hP
      have hD : va_D A [(x0, .inr (5, [.ref h0, .ref b0, .ref w0, .ref s0, .ref m0, .ref g0, .int (nI cl)])), (s0, .inl (D.2 3, 4, .inr (.inr (.inr (.inr fs))))), (t0, .inr (4, [.ref t1, .ref t2, .int (nI n)])), (t1, .inl (D.2 0, 12, .inl fp)), (t2, .inl (D.2 0, 12, .inl fc))] := hD
      exact z_out hnx hlocks hce hcv hcl (Or.inl ⟨w2.1, fun h => h c1⟩) hP hD hS [0, 1, 2, 3, 4] rfl (by decide) (Nat.le_of_ble_eq_true rfl) (Nat.le_of_ble_eq_true rfl)
    have hP : va_P D.1 vwCl [(x0, .inr (5, [.ref h0, .ref b0, .ref w0, .ref s0, .ref m0, .ref g0, .int (nI cl)])), (s0, .inl (D.2 3, 4, .inr (.inr (.inr (.inr fs))))), (t0, .inr (4, [.ref t1, .ref t2, .int (nI n)])), (t1, .inl (D.2 0, 12, .inl fp)), (t2, .inl (D.2 0, 12, .inl fc))] H := hP
    have hD : va_D A [(x0, .inr (5, [.ref h0, .ref b0, .ref w0, .ref s0, .ref m0, .ref g0, .int (nI cl)])), (s0, .inl (D.2 3, 4, .inr (.inr (.inr (.inr fs))))), (t0, .inr (4, [.ref t1, .ref t2, .int (nI n)])), (t1, .inl (D.2 0, 12, .inl fp)), (t2, .inl (D.2 0, 12, .inl fc))] := hD
    exact absurd rfl w2
  refine lv_iconst (v := 1) hx hb dX5_stock_19 (by decide) ?_
  refine lv_goto (tgt := 24) hx hb dX5_stock_20 (by decide) ?_
  have J := zJ.mk (wc := []) (wr := [(x0, .inr (5, [.ref h0, .ref b0, .ref w0, .ref s0, .ref m0, .ref g0, .int (nI cl)])), (s0, .inl (D.2 3, 4, .inr (.inr (.inr (.inr fs))))), (t0, .inr (4, [.ref t1, .ref t2, .int (nI n)])), (t1, .inl (D.2 0, 12, .inl fp)), (t2, .inl (D.2 0, 12, .inl fc))]) hA hB hK hP hD hS [] [0, 1, 2, 3, 4] rfl rfl (by decide)
  refine z_xgov (z_xrunS (As := [.int 1]) (rest := []) hF (c_cT hl9 D 1 H.size) (va_cwS 1 hZ (z_gS t_61 t_62 t_55 t_60) rfl rfl rfl (by decide +kernel) ⟨Nat.le_of_ble_eq_true rfl, Nat.le_of_ble_eq_true rfl⟩) J rfl hl.1 (Nat.le_of_ble_eq_true rfl) dX5_stock_24 ⟨Nat.le_of_ble_eq_true rfl, Nat.le_of_ble_eq_true rfl⟩) J (fun EX ce q9 H locs w2 hP hD hS hce hcv hcl => ?_) (fun _ H locs w2 hP hD hS => ?_)
  · have hP : va_P D.1 vwCl [(x0, .inr (5, [.ref h0, .ref b0, .ref w0, .ref s0, .ref m0, .ref g0, .int (nI cl)])), (s0, .inl (D.2 3, 4, .inr (.inr (.inr (.inr fs))))), (t0, .inr (4, [.ref t1, .ref t2, .int (nI n)])), (t1, .inl (D.2 0, 12, .inl fp)), (t2, .inl (D.2 0, 12, .inl fc))] H := hP
    have hD : va_D A [(x0, .inr (5, [.ref h0, .ref b0, .ref w0, .ref s0, .ref m0, .ref g0, .int (nI cl)])), (s0, .inl (D.2 3, 4, .inr (.inr (.inr (.inr fs))))), (t0, .inr (4, [.ref t1, .ref t2, .int (nI n)])), (t1, .inl (D.2 0, 12, .inl fp)), (t2, .inl (D.2 0, 12, .inl fc))] := hD
    exact z_out hnx hlocks hce hcv hcl (absurd w2.2 (by decide)) hP hD hS [0, 1, 2, 3, 4] rfl (by decide) (Nat.le_of_ble_eq_true rfl) (Nat.le_of_ble_eq_true rfl)
  have hP : va_P D.1 vwCl [(x0, .inr (5, [.ref h0, .ref b0, .ref w0, .ref s0, .ref m0, .ref g0, .int (nI cl)])), (s0, .inl (D.2 3, 4, .inr (.inr (.inr (.inr fs))))), (t0, .inr (4, [.ref t1, .ref t2, .int (nI n)])), (t1, .inl (D.2 0, 12, .inl fp)), (t2, .inl (D.2 0, 12, .inl fc))] H := hP
  have hD : va_D A [(x0, .inr (5, [.ref h0, .ref b0, .ref w0, .ref s0, .ref m0, .ref g0, .int (nI cl)])), (s0, .inl (D.2 3, 4, .inr (.inr (.inr (.inr fs))))), (t0, .inr (4, [.ref t1, .ref t2, .int (nI n)])), (t1, .inl (D.2 0, 12, .inl fp)), (t2, .inl (D.2 0, 12, .inl fc))] := hD
  refine lv_iload_n hx hb dX5_stock_27 rfl (lv_at hl 2 rfl) ?_
  refine lv_iconst (v := 1) hx hb dX5_stock_28 (by decide) ?_
  refine lv_ldc (v := 1000000) hx hb hown (hZ _ t_102) dX5_stock_29 ?_
  have J := zJ.mk (wc := []) (wr := [(x0, .inr (5, [.ref h0, .ref b0, .ref w0, .ref s0, .ref m0, .ref g0, .int (nI cl)])), (s0, .inl (D.2 3, 4, .inr (.inr (.inr (.inr fs))))), (t0, .inr (4, [.ref t1, .ref t2, .int (nI n)])), (t1, .inl (D.2 0, 12, .inl fp)), (t2, .inl (D.2 0, 12, .inl fc))]) hA hB hK hP hD hS [] [0, 1, 2, 3, 4] rfl rfl (by decide)
  refine z_xgov (z_xrunS (As := [.int p2, .int 1, .int 1000000]) (rest := []) hF (c_cR hl9 D p2 1 1000000 H.size) (va_cwS 3 hZ (z_gS t_66 t_67 t_55 t_65) rfl rfl rfl (by decide +kernel) ⟨Nat.le_of_ble_eq_true rfl, Nat.le_of_ble_eq_true rfl⟩) J rfl hl.1 (Nat.le_of_ble_eq_true rfl) dX5_stock_31 ⟨Nat.le_of_ble_eq_true rfl, Nat.le_of_ble_eq_true rfl⟩) J (fun EX ce q9 H locs w3 hP hD hS hce hcv hcl => ?_) (fun _ H locs w3 hP hD hS => ?_)
  · have hP : va_P D.1 vwCl [(x0, .inr (5, [.ref h0, .ref b0, .ref w0, .ref s0, .ref m0, .ref g0, .int (nI cl)])), (s0, .inl (D.2 3, 4, .inr (.inr (.inr (.inr fs))))), (t0, .inr (4, [.ref t1, .ref t2, .int (nI n)])), (t1, .inl (D.2 0, 12, .inl fp)), (t2, .inl (D.2 0, 12, .inl fc))] H := hP
    have hD : va_D A [(x0, .inr (5, [.ref h0, .ref b0, .ref w0, .ref s0, .ref m0, .ref g0, .int (nI cl)])), (s0, .inl (D.2 3, 4, .inr (.inr (.inr (.inr fs))))), (t0, .inr (4, [.ref t1, .ref t2, .int (nI n)])), (t1, .inl (D.2 0, 12, .inl fp)), (t2, .inl (D.2 0, 12, .inl fc))] := hD
    exact z_out hnx hlocks hce hcv hcl (Or.inr (⟨w3.1, c1, fun h => w3.2.elim h.1 (fun g => g h.2.1)⟩)) hP hD hS [0, 1, 2, 3, 4] rfl (by decide) (Nat.le_of_ble_eq_true rfl) (Nat.le_of_ble_eq_true rfl)
  have hP : va_P D.1 vwCl [(x0, .inr (5, [.ref h0, .ref b0, .ref w0, .ref s0, .ref m0, .ref g0, .int (nI cl)])), (s0, .inl (D.2 3, 4, .inr (.inr (.inr (.inr fs))))), (t0, .inr (4, [.ref t1, .ref t2, .int (nI n)])), (t1, .inl (D.2 0, 12, .inl fp)), (t2, .inl (D.2 0, 12, .inl fc))] H := hP
  have hD : va_D A [(x0, .inr (5, [.ref h0, .ref b0, .ref w0, .ref s0, .ref m0, .ref g0, .int (nI cl)])), (s0, .inl (D.2 3, 4, .inr (.inr (.inr (.inr fs))))), (t0, .inr (4, [.ref t1, .ref t2, .int (nI n)])), (t1, .inl (D.2 0, 12, .inl fp)), (t2, .inl (D.2 0, 12, .inl fc))] := hD
  refine lv_iload_n hx hb dX5_stock_34 rfl (lv_at hl 3 rfl) ?_
  refine lv_iconst (v := 0) hx hb dX5_stock_35 (by decide) ?_
  refine lv_ldc (v := 1000000) hx hb hown (hZ _ t_102) dX5_stock_36 ?_
  have J := zJ.mk (wc := []) (wr := [(x0, .inr (5, [.ref h0, .ref b0, .ref w0, .ref s0, .ref m0, .ref g0, .int (nI cl)])), (s0, .inl (D.2 3, 4, .inr (.inr (.inr (.inr fs))))), (t0, .inr (4, [.ref t1, .ref t2, .int (nI n)])), (t1, .inl (D.2 0, 12, .inl fp)), (t2, .inl (D.2 0, 12, .inl fc))]) hA hB hK hP hD hS [] [0, 1, 2, 3, 4] rfl rfl (by decide)
  refine z_xgov (z_xrunS (As := [.int p3, .int 0, .int 1000000]) (rest := []) hF (c_cR hl9 D p3 0 1000000 H.size) (va_cwS 3 hZ (z_gS t_66 t_67 t_55 t_65) rfl rfl rfl (by decide +kernel) ⟨Nat.le_of_ble_eq_true rfl, Nat.le_of_ble_eq_true rfl⟩) J rfl hl.1 (Nat.le_of_ble_eq_true rfl) dX5_stock_38 ⟨Nat.le_of_ble_eq_true rfl, Nat.le_of_ble_eq_true rfl⟩) J (fun EX ce q9 H locs w4 hP hD hS hce hcv hcl => ?_) (fun _ H locs w4 hP hD hS => ?_)
  · have hP : va_P D.1 vwCl [(x0, .inr (5, [.ref h0, .ref b0, .ref w0, .ref s0, .ref m0, .ref g0, .int (nI cl)])), (s0, .inl (D.2 3, 4, .inr (.inr (.inr (.inr fs))))), (t0, .inr (4, [.ref t1, .ref t2, .int (nI n)])), (t1, .inl (D.2 0, 12, .inl fp)), (t2, .inl (D.2 0, 12, .inl fc))] H := hP
    have hD : va_D A [(x0, .inr (5, [.ref h0, .ref b0, .ref w0, .ref s0, .ref m0, .ref g0, .int (nI cl)])), (s0, .inl (D.2 3, 4, .inr (.inr (.inr (.inr fs))))), (t0, .inr (4, [.ref t1, .ref t2, .int (nI n)])), (t1, .inl (D.2 0, 12, .inl fp)), (t2, .inl (D.2 0, 12, .inl fc))] := hD
    exact z_out hnx hlocks hce hcv hcl (Or.inr (⟨w4.1, c1, fun h => w4.2.elim h.2.2.1 (fun g => g h.2.2.2)⟩)) hP hD hS [0, 1, 2, 3, 4] rfl (by decide) (Nat.le_of_ble_eq_true rfl) (Nat.le_of_ble_eq_true rfl)
  have hP : va_P D.1 vwCl [(x0, .inr (5, [.ref h0, .ref b0, .ref w0, .ref s0, .ref m0, .ref g0, .int (nI cl)])), (s0, .inl (D.2 3, 4, .inr (.inr (.inr (.inr fs))))), (t0, .inr (4, [.ref t1, .ref t2, .int (nI n)])), (t1, .inl (D.2 0, 12, .inl fp)), (t2, .inl (D.2 0, 12, .inl fc))] H := hP
  have hD : va_D A [(x0, .inr (5, [.ref h0, .ref b0, .ref w0, .ref s0, .ref m0, .ref g0, .int (nI cl)])), (s0, .inl (D.2 3, 4, .inr (.inr (.inr (.inr fs))))), (t0, .inr (4, [.ref t1, .ref t2, .int (nI n)])), (t1, .inl (D.2 0, 12, .inl fp)), (t2, .inl (D.2 0, 12, .inl fc))] := hD
  refine lv_aload_n hx hb dX5_stock_41 rfl (lv_at hl 0 rfl) ?_
  refine va_get (D := D.1) (ci := 5) (v := .ref s0) (C := "ShopLedger") (T := TX5) (N := 7) hx hb hZ inX5 hown hK hP 0 rfl rfl 3 (by decide) (hZ _ t_107) (fun _ h9 => h9) rfl dX5_stock_42 ?_
  refine lv_iload_n hx hb dX5_stock_45 rfl (lv_at hl 1 rfl) ?_
  refine z_aldq (q := t0) hx hb hK hP 1 3 rfl rfl (hj) (by decide) (hf) dX5_stock_46 ?_
  refine lv_iload_n hx hb dX5_stock_47 rfl (lv_at hl 2 rfl) ?_
  refine lv_iload_n hx hb dX5_stock_48 rfl (lv_at hl 3 rfl) ?_
  have J := zJ.mk (wc := [(t0, .inr (4, [.ref t1, .ref t2, .int (nI n)])), (t1, .inl (D.2 0, 12, .inl fp)), (t2, .inl (D.2 0, 12, .inl fc))]) (wr := [(x0, .inr (5, [.ref h0, .ref b0, .ref w0, .ref s0, .ref m0, .ref g0, .int (nI cl)])), (s0, .inl (D.2 3, 4, .inr (.inr (.inr (.inr fs)))))]) hA hB hK hP hD hS [2, 3, 4] [0, 1] rfl rfl (by decide)
  refine z_goi (z_runV (As := [.int p2, .int p3]) (rest := []) (b := t0) hF (c_Stock_add D t0 t1 t2 n fp fc p2 p3 H.size (z_lt (t := 12) hn (by decide) c1)) (cwV 2 hZ (z_gV t_110 t_111 t_112 t_31 t_109) rfl rfl rfl (by decide +kernel) ⟨Nat.le_of_ble_eq_true rfl, Nat.le_of_ble_eq_true rfl⟩) J 0 4 rfl rfl rfl rfl hl.1 (Nat.le_of_ble_eq_true rfl) dX5_stock_49 ⟨Nat.le_of_ble_eq_true rfl, Nat.le_of_ble_eq_true rfl⟩) J (fun r5 _ H locs w5 hP hD hS => ?_)
  have hP : va_P D.1 vwCl [(x0, .inr (5, [.ref h0, .ref b0, .ref w0, .ref s0, .ref m0, .ref g0, .int (nI cl)])), (s0, .inl (D.2 3, 4, .inr (.inr (.inr (.inr fs))))), (t0, .inr (4, [.ref t1, .ref t2, .int (nI (n + 1))])), (t1, .inl (D.2 0, 12, .inl (upd fp n p2))), (t2, .inl (D.2 0, 12, .inl (upd fc n p3)))] H := hP
  have hD : va_D A [(x0, .inr (5, [.ref h0, .ref b0, .ref w0, .ref s0, .ref m0, .ref g0, .int (nI cl)])), (s0, .inl (D.2 3, 4, .inr (.inr (.inr (.inr fs))))), (t0, .inr (4, [.ref t1, .ref t2, .int (nI (n + 1))])), (t1, .inl (D.2 0, 12, .inl (upd fp n p2))), (t2, .inl (D.2 0, 12, .inl (upd fc n p3)))] := hD
  subst w5
  refine vx_ret ?_
  exact z_iret (v := nI (n + 1)) hx hb hr hlocks hP hD hS () (⟨c1, ⟨w3.1, w3.2, w4.1, w4.2⟩, rfl⟩) [0, 1, 2, 3, 4] rfl (by decide) (Nat.le_of_ble_eq_true rfl) (Nat.le_of_ble_eq_true rfl) dX5_stock_52
set_option maxHeartbeats 4000000 in
set_option maxRecDepth 100000 in
/-- stock, of what is not there -/
theorem c_stockX {l : Launch} (hl9 : l.stackTraces = false) (D : zD) (x0 h0 b0 w0 s0 m0 g0 cl : Nat) (p1 p2 p3 : Int32) (sz : Nat) (hp : ¬ zin p1 4) : vx_Met l yX5_stock wsX5_stock ({ frames := 7, cells := 1, slots := 6, locals := 111 }) (va_Pc [.ref x0, .int p1, .int p2, .int p3] (zp D sz [(x0, .inr (5, [.ref h0, .ref b0, .ref w0, .ref s0, .ref m0, .ref g0, .int (nI cl)]))])) (va_Qi (fun r (_ : Unit) => False) (zq D (va_A [(x0, .inr (5, [.ref h0, .ref b0, .ref w0, .ref s0, .ref m0, .ref g0, .int (nI cl)]))] sz) (fun (_ : Unit) => ([(x0, .inr (5, [.ref h0, .ref b0, .ref w0, .ref s0, .ref m0, .ref g0, .int (nI cl)]))] : va_W))) (va_A [(x0, .inr (5, [.ref h0, .ref b0, .ref w0, .ref s0, .ref m0, .ref g0, .int (nI cl)]))] sz)) (vx_X (fun _ : Unit => True) (zx D (va_A [(x0, .inr (5, [.ref h0, .ref b0, .ref w0, .ref s0, .ref m0, .ref g0, .int (nI cl)]))] sz) [(x0, .inr (5, [.ref h0, .ref b0, .ref w0, .ref s0, .ref m0, .ref g0, .int (nI cl)]))] (fun E9 => E9 = "java/lang/IndexOutOfBoundsException")) (va_A [(x0, .inr (5, [.ref h0, .ref b0, .ref w0, .ref s0, .ref m0, .ref g0, .int (nI cl)]))] sz)) 1 6 (va_A [(x0, .inr (5, [.ref h0, .ref b0, .ref w0, .ref s0, .ref m0, .ref g0, .int (nI cl)]))] sz) := by
  refine vx_ofW (cc := cX5_stock) (maxL := 4) (ret := (some .int)) (by decide) rfl ?_
  intro p e s m args below meth c s₁ B hml hnx hv
  obtain ⟨rfl, hsz, hP, hK, hD0, hB⟩ := hv
  have hx := B.exec
  have hb := B.bytes
  have hr := B.returns
  have hts := atoms_spec (ws := wsX5_stock) B.pre
  have hown : s.vm.findClass "ShopLedger" = some m.cls := findClass_of_methodNamed B.named
  have hlocks := B.notSynchronized
  subst hsz
  have hD := hD0.self (sz := s.heap.size)
  generalize hAe : va_A [(x0, .inr (5, [.ref h0, .ref b0, .ref w0, .ref s0, .ref m0, .ref g0, .int (nI cl)]))] s.heap.size = A at hD hB ⊢
  have hA : ∀ q : Nat, s.heap.size ≤ q → A q := fun q h => by rw [← hAe]; exact Or.inr h
  have hS : va_S A s.heap s.heap [] := va_S.rf
  have hZ : ∀ w ∈ zALL, w.before _ s = true := fun w h => hts w (List.mem_cons_of_mem _ h)
  have hF : CallFix p m c cX5_stock 4 s _ zALL "ShopLedger" := ⟨hx, hb, hml, hown, hZ⟩
  have hl := lv_entry ([.ref x0, .int p1, .int p2, .int p3]) (n := 4) (Nat.le_of_ble_eq_true rfl)
  rw [lg_entry_eq]
  generalize (lg_sl ([.ref x0, .int p1, .int p2, .int p3]) ++ List.replicate (4 - (lg_sl ([.ref x0, .int p1, .int p2, .int p3])).length) Slot.unset).toArray = ls at hl ⊢
  have hl : lv_has ls 4 [(0, .ref x0), (1, .int p1), (2, .int p2), (3, .int p3)] := hl
  refine lv_iload_n hx hb dX5_stock_0 rfl (lv_at hl 1 rfl) ?_
  refine lv_iconst (v := 4) hx hb dX5_stock_1 (by decide) ?_
  have J := zJ.mk (wc := []) (wr := [(x0, .inr (5, [.ref h0, .ref b0, .ref w0, .ref s0, .ref m0, .ref g0, .int (nI cl)]))]) hA hB hK hP hD hS [] [0] rfl rfl (by decide)
  refine z_xgov (z_xrunS (As := [.int p1, .int 4]) (rest := []) hF (c_cI hl9 D p1 4 s.heap.size) (va_cwS 2 hZ (z_gS t_56 t_57 t_55 t_54) rfl rfl rfl (by decide +kernel) ⟨Nat.le_of_ble_eq_true rfl, Nat.le_of_ble_eq_true rfl⟩) J rfl hl.1 (Nat.le_of_ble_eq_true rfl) dX5_stock_2 ⟨Nat.le_of_ble_eq_true rfl, Nat.le_of_ble_eq_true rfl⟩) J (fun EX ce q9 H locs w1 hP hD hS hce hcv hcl => ?_) (fun _ H locs w1 hP hD hS => ?_)
  · have hP : va_P D.1 vwCl [(x0, .inr (5, [.ref h0, .ref b0, .ref w0, .ref s0, .ref m0, .ref g0, .int (nI cl)]))] H := hP
    have hD : va_D A [(x0, .inr (5, [.ref h0, .ref b0, .ref w0, .ref s0, .ref m0, .ref g0, .int (nI cl)]))] := hD
    exact z_out hnx hlocks hce hcv hcl (w1.1) hP hD hS [0] rfl (by decide) (Nat.le_of_ble_eq_true rfl) (Nat.le_of_ble_eq_true rfl)
  have hP : va_P D.1 vwCl [(x0, .inr (5, [.ref h0, .ref b0, .ref w0, .ref s0, .ref m0, .ref g0, .int (nI cl)]))] H := hP
  have hD : va_D A [(x0, .inr (5, [.ref h0, .ref b0, .ref w0, .ref s0, .ref m0, .ref g0, .int (nI cl)]))] := hD
  exact absurd w1 hp
set_option maxHeartbeats 4000000 in
set_option maxRecDepth 100000 in
/-- take -/
theorem c_take {l : Launch} (hl9 : l.stackTraces = false) (D : zD) (x0 h0 b0 w0 m0 g0 cl : Nat) (s0 t0 t1 t2 n : Nat) (fs : Nat → Option Nat) (fp fc : Nat → Int32) (j : Nat) (p2 : Int32) (sz : Nat) (hj : j < 4) (hf : fs j = some t0) (hn : n ≤ 12) : vx_Met l yX5_take wsX5_take ({ frames := 7, cells := 3, slots := 18, locals := 112 }) (va_Pc [.ref x0, .int (nI j), .int p2] (zp D sz [(x0, .inr (5, [.ref h0, .ref b0, .ref w0, .ref s0, .ref m0, .ref g0, .int (nI cl)])), (s0, .inl (D.2 3, 4, .inr (.inr (.inr (.inr fs))))), (t0, .inr (4, [.ref t1, .ref t2, .int (nI n)])), (t1, .inl (D.2 0, 12, .inl fp)), (t2, .inl (D.2 0, 12, .inl fc))])) (va_Ql (fun r (_ : Unit) => (¬ p2 < 1 ∧ p2 ≤ 1000000) ∧ (p2 ≤ zs_isum fp n) ∧ r = (zs_take fp fc p2 n).2.1) (zq D (va_A [(x0, .inr (5, [.ref h0, .ref b0, .ref w0, .ref s0, .ref m0, .ref g0, .int (nI cl)])), (s0, .inl (D.2 3, 4, .inr (.inr (.inr (.inr fs))))), (t0, .inr (4, [.ref t1, .ref t2, .int (nI n)])), (t1, .inl (D.2 0, 12, .inl fp)), (t2, .inl (D.2 0, 12, .inl fc))] sz) (fun (_ : Unit) => ([(x0, .inr (5, [.ref h0, .ref b0, .ref w0, .ref s0, .ref m0, .ref g0, .int (nI cl)])), (s0, .inl (D.2 3, 4, .inr (.inr (.inr (.inr fs))))), (t0, .inr (4, [.ref t1, .ref t2, .int (nI (n - (zs_take fp fc p2 n).2.2.1))])), (t1, .inl (D.2 0, 12, .inl (zs_mv (zs_take fp fc p2 n).2.2.2 (zs_take fp fc p2 n).2.2.1 (n - (zs_take fp fc p2 n).2.2.1)))), (t2, .inl (D.2 0, 12, .inl (zs_mv fc (zs_take fp fc p2 n).2.2.1 (n - (zs_take fp fc p2 n).2.2.1))))] : va_W))) (va_A [(x0, .inr (5, [.ref h0, .ref b0, .ref w0, .ref s0, .ref m0, .ref g0, .int (nI cl)])), (s0, .inl (D.2 3, 4, .inr (.inr (.inr (.inr fs))))), (t0, .inr (4, [.ref t1, .ref t2, .int (nI n)])), (t1, .inl (D.2 0, 12, .inl fp)), (t2, .inl (D.2 0, 12, .inl fc))] sz)) (vx_X (fun _ : Unit => True) (zx D (va_A [(x0, .inr (5, [.ref h0, .ref b0, .ref w0, .ref s0, .ref m0, .ref g0, .int (nI cl)])), (s0, .inl (D.2 3, 4, .inr (.inr (.inr (.inr fs))))), (t0, .inr (4, [.ref t1, .ref t2, .int (nI n)])), (t1, .inl (D.2 0, 12, .inl fp)), (t2, .inl (D.2 0, 12, .inl fc))] sz) [(x0, .inr (5, [.ref h0, .ref b0, .ref w0, .ref s0, .ref m0, .ref g0, .int (nI cl)])), (s0, .inl (D.2 3, 4, .inr (.inr (.inr (.inr fs))))), (t0, .inr (4, [.ref t1, .ref t2, .int (nI n)])), (t1, .inl (D.2 0, 12, .inl fp)), (t2, .inl (D.2 0, 12, .inl fc))] (fun E => (E = "java/lang/IllegalArgumentException" ∧ ¬ (¬ p2 < 1 ∧ p2 ≤ 1000000)) ∨ (E = "java/lang/UnsupportedOperationException" ∧ (¬ p2 < 1 ∧ p2 ≤ 1000000) ∧ ¬ (p2 ≤ zs_isum fp n)))) (va_A [(x0, .inr (5, [.ref h0, .ref b0, .ref w0, .ref s0, .ref m0, .ref g0, .int (nI cl)])), (s0, .inl (D.2 3, 4, .inr (.inr (.inr (.inr fs))))), (t0, .inr (4, [.ref t1, .ref t2, .int (nI n)])), (t1, .inl (D.2 0, 12, .inl fp)), (t2, .inl (D.2 0, 12, .inl fc))] sz)) 3 18 (va_A [(x0, .inr (5, [.ref h0, .ref b0, .ref w0, .ref s0, .ref m0, .ref g0, .int (nI cl)])), (s0, .inl (D.2 3, 4, .inr (.inr (.inr (.inr fs))))), (t0, .inr (4, [.ref t1, .ref t2, .int (nI n)])), (t1, .inl (D.2 0, 12, .inl fp)), (t2, .inl (D.2 0, 12, .inl fc))] sz) := by
  refine vx_ofW (cc := cX5_take) (maxL := 3) (ret := (some .long)) (by decide) rfl ?_
  intro p e s m args below meth c s₁ B hml hnx hv
  obtain ⟨rfl, hsz, hP, hK, hD0, hB⟩ := hv
  have hx := B.exec
  have hb := B.bytes
  have hr := B.returns
  have hts := atoms_spec (ws := wsX5_take) B.pre
  have hown : s.vm.findClass "ShopLedger" = some m.cls := findClass_of_methodNamed B.named
  have hlocks := B.notSynchronized
  subst hsz
  have hD := hD0.self (sz := s.heap.size)
  generalize hAe : va_A [(x0, .inr (5, [.ref h0, .ref b0, .ref w0, .ref s0, .ref m0, .ref g0, .int (nI cl)])), (s0, .inl (D.2 3, 4, .inr (.inr (.inr (.inr fs))))), (t0, .inr (4, [.ref t1, .ref t2, .int (nI n)])), (t1, .inl (D.2 0, 12, .inl fp)), (t2, .inl (D.2 0, 12, .inl fc))] s.heap.size = A at hD hB ⊢
  have hA : ∀ q : Nat, s.heap.size ≤ q → A q := fun q h => by rw [← hAe]; exact Or.inr h
  have hS : va_S A s.heap s.heap [] := va_S.rf
  have hZ : ∀ w ∈ zALL, w.before _ s = true := fun w h => hts w (List.mem_cons_of_mem _ h)
  have hF : CallFix p m c cX5_take 3 s _ zALL "ShopLedger" := ⟨hx, hb, hml, hown, hZ⟩
  have hl := lv_entry ([.ref x0, .int (nI j), .int p2]) (n := 3) (Nat.le_of_ble_eq_true rfl)
  rw [lg_entry_eq]
  generalize (lg_sl ([.ref x0, .int (nI j), .int p2]) ++ List.replicate (3 - (lg_sl ([.ref x0, .int (nI j), .int p2])).length) Slot.unset).toArray = ls at hl ⊢
  have hl : lv_has ls 3 [(0, .ref x0), (1, .int (nI j)), (2, .int p2)] := hl
  refine lv_iload_n hx hb dX5_take_0 rfl (lv_at hl 1 rfl) ?_
  refine lv_iconst (v := 4) hx hb dX5_take_1 (by decide) ?_
  have J := zJ.mk (wc := []) (wr := [(x0, .inr (5, [.ref h0, .ref b0, .ref w0, .ref s0, .ref m0, .ref g0, .int (nI cl)])), (s0, .inl (D.2 3, 4, .inr (.inr (.inr (.inr fs))))), (t0, .inr (4, [.ref t1, .ref t2, .int (nI n)])), (t1, .inl (D.2 0, 12, .inl fp)), (t2, .inl (D.2 0, 12, .inl fc))]) hA hB hK hP hD hS [] [0, 1, 2, 3, 4] rfl rfl (by decide)
  refine z_xgov (z_xrunS (As := [.int (nI j), .int 4]) (rest := []) hF (c_cI hl9 D (nI j) 4 s.heap.size) (va_cwS 2 hZ (z_gS t_56 t_57 t_55 t_54) rfl rfl rfl (by decide +kernel) ⟨Nat.le_of_ble_eq_true rfl, Nat.le_of_ble_eq_true rfl⟩) J rfl hl.1 (Nat.le_of_ble_eq_true rfl) dX5_take_2 ⟨Nat.le_of_ble_eq_true rfl, Nat.le_of_ble_eq_true rfl⟩) J (fun EX ce q9 H locs w1 hP hD hS hce hcv hcl => ?_) (fun _ H locs w1 hP hD hS => ?_)
  · have hP : va_P D.1 vwCl [(x0, .inr (5, [.ref h0, .ref b0, .ref w0, .ref s0, .ref m0, .ref g0, .int (nI cl)])), (s0, .inl (D.2 3, 4, .inr (.inr (.inr (.inr fs))))), (t0, .inr (4, [.ref t1, .ref t2, .int (nI n)])), (t1, .inl (D.2 0, 12, .inl fp)), (t2, .inl (D.2 0, 12, .inl fc))] H := hP
    have hD : va_D A [(x0, .inr (5, [.ref h0, .ref b0, .ref w0, .ref s0, .ref m0, .ref g0, .int (nI cl)])), (s0, .inl (D.2 3, 4, .inr (.inr (.inr (.inr fs))))), (t0, .inr (4, [.ref t1, .ref t2, .int (nI n)])), (t1, .inl (D.2 0, 12, .inl fp)), (t2, .inl (D.2 0, 12, .inl fc))] := hD
    exact z_out hnx hlocks hce hcv hcl ((z_no hj (by decide) w1.2).elim) hP hD hS [0, 1, 2, 3, 4] rfl (by decide) (Nat.le_of_ble_eq_true rfl) (Nat.le_of_ble_eq_true rfl)
  have hP : va_P D.1 vwCl [(x0, .inr (5, [.ref h0, .ref b0, .ref w0, .ref s0, .ref m0, .ref g0, .int (nI cl)])), (s0, .inl (D.2 3, 4, .inr (.inr (.inr (.inr fs))))), (t0, .inr (4, [.ref t1, .ref t2, .int (nI n)])), (t1, .inl (D.2 0, 12, .inl fp)), (t2, .inl (D.2 0, 12, .inl fc))] H := hP
  have hD : va_D A [(x0, .inr (5, [.ref h0, .ref b0, .ref w0, .ref s0, .ref m0, .ref g0, .int (nI cl)])), (s0, .inl (D.2 3, 4, .inr (.inr (.inr (.inr fs))))), (t0, .inr (4, [.ref t1, .ref t2, .int (nI n)])), (t1, .inl (D.2 0, 12, .inl fp)), (t2, .inl (D.2 0, 12, .inl fc))] := hD
  refine lv_iload_n hx hb dX5_take_5 rfl (lv_at hl 2 rfl) ?_
  refine lv_iconst (v := 1) hx hb dX5_take_6 (by decide) ?_
  refine lv_ldc (v := 1000000) hx hb hown (hZ _ t_102) dX5_take_7 ?_
  have J := zJ.mk (wc := []) (wr := [(x0, .inr (5, [.ref h0, .ref b0, .ref w0, .ref s0, .ref m0, .ref g0, .int (nI cl)])), (s0, .inl (D.2 3, 4, .inr (.inr (.inr (.inr fs))))), (t0, .inr (4, [.ref t1, .ref t2, .int (nI n)])), (t1, .inl (D.2 0, 12, .inl fp)), (t2, .inl (D.2 0, 12, .inl fc))]) hA hB hK hP hD hS [] [0, 1, 2, 3, 4] rfl rfl (by decide)
  refine z_xgov (z_xrunS (As := [.int p2, .int 1, .int 1000000]) (rest := []) hF (c_cR hl9 D p2 1 1000000 H.size) (va_cwS 3 hZ (z_gS t_66 t_67 t_55 t_65) rfl rfl rfl (by decide +kernel) ⟨Nat.le_of_ble_eq_true rfl, Nat.le_of_ble_eq_true rfl⟩) J rfl hl.1 (Nat.le_of_ble_eq_true rfl) dX5_take_9 ⟨Nat.le_of_ble_eq_true rfl, Nat.le_of_ble_eq_true rfl⟩) J (fun EX ce q9 H locs w2 hP hD hS hce hcv hcl => ?_) (fun _ H locs w2 hP hD hS => ?_)
  · have hP : va_P D.1 vwCl [(x0, .inr (5, [.ref h0, .ref b0, .ref w0, .ref s0, .ref m0, .ref g0, .int (nI cl)])), (s0, .inl (D.2 3, 4, .inr (.inr (.inr (.inr fs))))), (t0, .inr (4, [.ref t1, .ref t2, .int (nI n)])), (t1, .inl (D.2 0, 12, .inl fp)), (t2, .inl (D.2 0, 12, .inl fc))] H := hP
    have hD : va_D A [(x0, .inr (5, [.ref h0, .ref b0, .ref w0, .ref s0, .ref m0, .ref g0, .int (nI cl)])), (s0, .inl (D.2 3, 4, .inr (.inr (.inr (.inr fs))))), (t0, .inr (4, [.ref t1, .ref t2, .int (nI n)])), (t1, .inl (D.2 0, 12, .inl fp)), (t2, .inl (D.2 0, 12, .inl fc))] := hD
    exact z_out hnx hlocks hce hcv hcl (Or.inl ⟨w2.1, fun h => w2.2.elim h.1 (fun g => g h.2)⟩) hP hD hS [0, 1, 2, 3, 4] rfl (by decide) (Nat.le_of_ble_eq_true rfl) (Nat.le_of_ble_eq_true rfl)
  have hP : va_P D.1 vwCl [(x0, .inr (5, [.ref h0, .ref b0, .ref w0, .ref s0, .ref m0, .ref g0, .int (nI cl)])), (s0, .inl (D.2 3, 4, .inr (.inr (.inr (.inr fs))))), (t0, .inr (4, [.ref t1, .ref t2, .int (nI n)])), (t1, .inl (D.2 0, 12, .inl fp)), (t2, .inl (D.2 0, 12, .inl fc))] H := hP
  have hD : va_D A [(x0, .inr (5, [.ref h0, .ref b0, .ref w0, .ref s0, .ref m0, .ref g0, .int (nI cl)])), (s0, .inl (D.2 3, 4, .inr (.inr (.inr (.inr fs))))), (t0, .inr (4, [.ref t1, .ref t2, .int (nI n)])), (t1, .inl (D.2 0, 12, .inl fp)), (t2, .inl (D.2 0, 12, .inl fc))] := hD
  refine lv_iload_n hx hb dX5_take_12 rfl (lv_at hl 2 rfl) ?_
  refine lv_aload_n hx hb dX5_take_13 rfl (lv_at hl 0 rfl) ?_
  refine va_get (D := D.1) (ci := 5) (v := .ref s0) (C := "ShopLedger") (T := TX5) (N := 7) hx hb hZ inX5 hown hK hP 0 rfl rfl 3 (by decide) (hZ _ t_107) (fun _ h9 => h9) rfl dX5_take_14 ?_
  refine lv_iload_n hx hb dX5_take_17 rfl (lv_at hl 1 rfl) ?_
  refine z_aldq (q := t0) hx hb hK hP 1 3 rfl rfl (hj) (by decide) (hf) dX5_take_18 ?_
  have J := zJ.mk (wc := [(t0, .inr (4, [.ref t1, .ref t2, .int (nI n)])), (t1, .inl (D.2 0, 12, .inl fp))]) (wr := [(x0, .inr (5, [.ref h0, .ref b0, .ref w0, .ref s0, .ref m0, .ref g0, .int (nI cl)])), (s0, .inl (D.2 3, 4, .inr (.inr (.inr (.inr fs))))), (t2, .inl (D.2 0, 12, .inl fc))]) hA hB hK hP hD hS [2, 3] [0, 1, 4] rfl rfl (by decide)
  refine z_goi (z_runV (As := []) (rest := [.int p2]) (b := t0) hF (c_Stock_all D t0 t1 t2 n fp fc H.size hn) (cwV 0 hZ (z_gV t_114 t_115 t_116 t_31 t_113) rfl rfl rfl (by decide +kernel) ⟨Nat.le_of_ble_eq_true rfl, Nat.le_of_ble_eq_true rfl⟩) J 0 4 rfl rfl rfl rfl hl.1 (Nat.le_of_ble_eq_true rfl) dX5_take_19 ⟨Nat.le_of_ble_eq_true rfl, Nat.le_of_ble_eq_true rfl⟩) J (fun r3 _ H locs w3 hP hD hS => ?_)
  have hP : va_P D.1 vwCl [(x0, .inr (5, [.ref h0, .ref b0, .ref w0, .ref s0, .ref m0, .ref g0, .int (nI cl)])), (s0, .inl (D.2 3, 4, .inr (.inr (.inr (.inr fs))))), (t2, .inl (D.2 0, 12, .inl fc)), (t0, .inr (4, [.ref t1, .ref t2, .int (nI n)])), (t1, .inl (D.2 0, 12, .inl fp))] H := hP
  have hD : va_D A [(x0, .inr (5, [.ref h0, .ref b0, .ref w0, .ref s0, .ref m0, .ref g0, .int (nI cl)])), (s0, .inl (D.2 3, 4, .inr (.inr (.inr (.inr fs))))), (t2, .inl (D.2 0, 12, .inl fc)), (t0, .inr (4, [.ref t1, .ref t2, .int (nI n)])), (t1, .inl (D.2 0, 12, .inl fp))] := hD
  subst w3
  refine lv_icmp_le (tgt := 35) hx hb dX5_take_22 (by decide) (fun c1 => ?_) (fun c1 => ?_)
  · skip
    refine lv_aload_n hx hb dX5_take_35 rfl (lv_at hl 0 rfl) ?_
    refine va_get (D := D.1) (ci := 5) (v := .ref s0) (C := "ShopLedger") (T := TX5) (N := 7) hx hb hZ inX5 hown hK hP 0 rfl rfl 3 (by decide) (hZ _ t_107) (fun _ h9 => h9) rfl dX5_take_36 ?_
    refine lv_iload_n hx hb dX5_take_39 rfl (lv_at hl 1 rfl) ?_
    refine z_aldq (q := t0) hx hb hK hP 1 3 rfl rfl (hj) (by decide) (hf) dX5_take_40 ?_
    refine lv_iload_n hx hb dX5_take_41 rfl (lv_at hl 2 rfl) ?_
    have J := zJ.mk (wc := [(t0, .inr (4, [.ref t1, .ref t2, .int (nI n)])), (t1, .inl (D.2 0, 12, .inl fp)), (t2, .inl (D.2 0, 12, .inl fc))]) (wr := [(x0, .inr (5, [.ref h0, .ref b0, .ref w0, .ref s0, .ref m0, .ref g0, .int (nI cl)])), (s0, .inl (D.2 3, 4, .inr (.inr (.inr (.inr fs)))))]) hA hB hK hP hD hS [3, 4, 2] [0, 1] rfl rfl (by decide)
    refine z_gol (z_runV (As := [.int p2]) (rest := []) (b := t0) hF (c_Stock_take D t0 t1 t2 n fp fc p2 H.size hn (zs_take_le fp fc p2 n)) (cwV 1 hZ (z_gV t_118 t_119 t_120 t_31 t_117) rfl rfl rfl (by decide +kernel) ⟨Nat.le_of_ble_eq_true rfl, Nat.le_of_ble_eq_true rfl⟩) J 0 4 rfl rfl rfl rfl hl.1 (Nat.le_of_ble_eq_true rfl) dX5_take_42 ⟨Nat.le_of_ble_eq_true rfl, Nat.le_of_ble_eq_true rfl⟩) J (fun r4 _ H locs w4 hP hD hS => ?_)
    have hP : va_P D.1 vwCl [(x0, .inr (5, [.ref h0, .ref b0, .ref w0, .ref s0, .ref m0, .ref g0, .int (nI cl)])), (s0, .inl (D.2 3, 4, .inr (.inr (.inr (.inr fs))))), (t0, .inr (4, [.ref t1, .ref t2, .int (nI (n - (zs_take fp fc p2 n).2.2.1))])), (t1, .inl (D.2 0, 12, .inl (zs_mv (zs_take fp fc p2 n).2.2.2 (zs_take fp fc p2 n).2.2.1 (n - (zs_take fp fc p2 n).2.2.1)))), (t2, .inl (D.2 0, 12, .inl (zs_mv fc (zs_take fp fc p2 n).2.2.1 (n - (zs_take fp fc p2 n).2.2.1))))] H := hP
    have hD : va_D A [(x0, .inr (5, [.ref h0, .ref b0, .ref w0, .ref s0, .ref m0, .ref g0, .int (nI cl)])), (s0, .inl (D.2 3, 4, .inr (.inr (.inr (.inr fs))))), (t0, .inr (4, [.ref t1, .ref t2, .int (nI (n - (zs_take fp fc p2 n).2.2.1))])), (t1, .inl (D.2 0, 12, .inl (zs_mv (zs_take fp fc p2 n).2.2.2 (zs_take fp fc p2 n).2.2.1 (n - (zs_take fp fc p2 n).2.2.1)))), (t2, .inl (D.2 0, 12, .inl (zs_mv fc (zs_take fp fc p2 n).2.2.1 (n - (zs_take fp fc p2 n).2.2.1))))] := hD
    subst w4
    refine vx_ret ?_
    exact z_lret (v := (zs_take fp fc p2 n).2.1) hx hb hr hlocks hP hD hS () (⟨w2, c1, rfl⟩) [0, 1, 2, 3, 4] rfl (by decide) (Nat.le_of_ble_eq_true rfl) (Nat.le_of_ble_eq_true rfl) dX5_take_45
  exact z_throw (own := "ShopLedger") "java/lang/UnsupportedOperationException" "there are not so many pieces" ["java/lang/RuntimeException", "java/lang/Exception"] hx hb hl9 hnx hlocks hown (by decide +kernel) (by decide +kernel) (hZ _ t_52) (hZ _ t_53) hB (by decide +kernel) (vx_hat (L := vx_atS "ShopLedger" 92 "java/lang/UnsupportedOperationException" ["java/lang/RuntimeException", "java/lang/Exception"]) (B := [.castable "java/lang/UnsupportedOperationException" "java/lang/UnsupportedOperationException", .declares ⟨"java/lang/RuntimeException", "<init>", "(Ljava/lang/String;)V"⟩, .declares ⟨"java/lang/Exception", "<init>", "(Ljava/lang/String;)V"⟩, .declares ⟨"java/lang/Throwable", "<init>", "(Ljava/lang/String;)V"⟩]) (fun w hw => hZ w (t_at3 w hw)) (by decide +kernel) (vx_c (va_Nw.use rfl (hB.2.2.2.1 ("java/lang/UnsupportedOperationException", "java/lang/UnsupportedOperationException") (by decide +kernel))) (vx_c (va_Nw.use rfl (hB.2.2.2.2.1 ⟨"java/lang/RuntimeException", "<init>", "(Ljava/lang/String;)V"⟩ (by decide +kernel))) (vx_c (va_Nw.use rfl (hB.2.2.2.2.1 ⟨"java/lang/Exception", "<init>", "(Ljava/lang/String;)V"⟩ (by decide +kernel))) (vx_c (va_Nw.use rfl (hB.2.2.2.2.1 ⟨"java/lang/Throwable", "<init>", "(Ljava/lang/String;)V"⟩ (by decide +kernel))) (vx_n)))))) (by decide +kernel) (hl.1.trans hml.symm) dX5_take_25 dX5_take_28 dX5_take_29 dX5_take_31 dX5_take_34 (Nat.le_of_ble_eq_true rfl) (Nat.le_of_ble_eq_true rfl) (Nat.le_of_ble_eq_true rfl) (Nat.le_of_ble_eq_true rfl) (Or.inr (⟨rfl, w2, fun h => c1 h⟩)) hP hD hS [0, 1, 3, 4, 2] rfl (by decide) (Nat.le_of_ble_eq_true rfl) (Nat.le_of_ble_eq_true rfl)
set_option maxHeartbeats 4000000 in
set_option maxRecDepth 100000 in
/-- take, of what is not there -/
theorem c_takeX {l : Launch} (hl9 : l.stackTraces = false) (D : zD) (x0 h0 b0 w0 s0 m0 g0 cl : Nat) (p1 p2 : Int32) (sz : Nat) (hp : ¬ zin p1 4) : vx_Met l yX5_take wsX5_take ({ frames := 7, cells := 1, slots := 6, locals := 111 }) (va_Pc [.ref x0, .int p1, .int p2] (zp D sz [(x0, .inr (5, [.ref h0, .ref b0, .ref w0, .ref s0, .ref m0, .ref g0, .int (nI cl)]))])) (va_Ql (fun r (_ : Unit) => False) (zq D (va_A [(x0, .inr (5, [.ref h0, .ref b0, .ref w0, .ref s0, .ref m0, .ref g0, .int (nI cl)]))] sz) (fun (_ : Unit) => ([(x0, .inr (5, [.ref h0, .ref b0, .ref w0, .ref s0, .ref m0, .ref g0, .int (nI cl)]))] : va_W))) (va_A [(x0, .inr (5, [.ref h0, .ref b0, .ref w0, .ref s0, .ref m0, .ref g0, .int (nI cl)]))] sz)) (vx_X (fun _ : Unit => True) (zx D (va_A [(x0, .inr (5, [.ref h0, .ref b0, .ref w0, .ref s0, .ref m0, .ref g0, .int (nI cl)]))] sz) [(x0, .inr (5, [.ref h0, .ref b0, .ref w0, .ref s0, .ref m0, .ref g0, .int (nI cl)]))] (fun E9 => E9 = "java/lang/IndexOutOfBoundsException")) (va_A [(x0, .inr (5, [.ref h0, .ref b0, .ref w0, .ref s0, .ref m0, .ref g0, .int (nI cl)]))] sz)) 1 6 (va_A [(x0, .inr (5, [.ref h0, .ref b0, .ref w0, .ref s0, .ref m0, .ref g0, .int (nI cl)]))] sz) := by
  refine vx_ofW (cc := cX5_take) (maxL := 3) (ret := (some .long)) (by decide) rfl ?_
  intro p e s m args below meth c s₁ B hml hnx hv
  obtain ⟨rfl, hsz, hP, hK, hD0, hB⟩ := hv
  have hx := B.exec
  have hb := B.bytes
  have hr := B.returns
  have hts := atoms_spec (ws := wsX5_take) B.pre
  have hown : s.vm.findClass "ShopLedger" = some m.cls := findClass_of_methodNamed B.named
  have hlocks := B.notSynchronized
  subst hsz
  have hD := hD0.self (sz := s.heap.size)
  generalize hAe : va_A [(x0, .inr (5, [.ref h0, .ref b0, .ref w0, .ref s0, .ref m0, .ref g0, .int (nI cl)]))] s.heap.size = A at hD hB ⊢
  have hA : ∀ q : Nat, s.heap.size ≤ q → A q := fun q h => by rw [← hAe]; exact Or.inr h
  have hS : va_S A s.heap s.heap [] := va_S.rf
  have hZ : ∀ w ∈ zALL, w.before _ s = true := fun w h => hts w (List.mem_cons_of_mem _ h)
  have hF : CallFix p m c cX5_take 3 s _ zALL "ShopLedger" := ⟨hx, hb, hml, hown, hZ⟩
  have hl := lv_entry ([.ref x0, .int p1, .int p2]) (n := 3) (Nat.le_of_ble_eq_true rfl)
  rw [lg_entry_eq]
  generalize (lg_sl ([.ref x0, .int p1, .int p2]) ++ List.replicate (3 - (lg_sl ([.ref x0, .int p1, .int p2])).length) Slot.unset).toArray = ls at hl ⊢
  have hl : lv_has ls 3 [(0, .ref x0), (1, .int p1), (2, .int p2)] := hl
  refine lv_iload_n hx hb dX5_take_0 rfl (lv_at hl 1 rfl) ?_
  refine lv_iconst (v := 4) hx hb dX5_take_1 (by decide) ?_
  have J := zJ.mk (wc := []) (wr := [(x0, .inr (5, [.ref h0, .ref b0, .ref w0, .ref s0, .ref m0, .ref g0, .int (nI cl)]))]) hA hB hK hP hD hS [] [0] rfl rfl (by decide)
  refine z_xgov (z_xrunS (As := [.int p1, .int 4]) (rest := []) hF (c_cI hl9 D p1 4 s.heap.size) (va_cwS 2 hZ (z_gS t_56 t_57 t_55 t_54) rfl rfl rfl (by decide +kernel) ⟨Nat.le_of_ble_eq_true rfl, Nat.le_of_ble_eq_true rfl⟩) J rfl hl.1 (Nat.le_of_ble_eq_true rfl) dX5_take_2 ⟨Nat.le_of_ble_eq_true rfl, Nat.le_of_ble_eq_true rfl⟩) J (fun EX ce q9 H locs w1 hP hD hS hce hcv hcl => ?_) (fun _ H locs w1 hP hD hS => ?_)
  · have hP : va_P D.1 vwCl [(x0, .inr (5, [.ref h0, .ref b0, .ref w0, .ref s0, .ref m0, .ref g0, .int (nI cl)]))] H := hP
    have hD : va_D A [(x0, .inr (5, [.ref h0, .ref b0, .ref w0, .ref s0, .ref m0, .ref g0, .int (nI cl)]))] := hD
    exact z_out hnx hlocks hce hcv hcl (w1.1) hP hD hS [0] rfl (by decide) (Nat.le_of_ble_eq_true rfl) (Nat.le_of_ble_eq_true rfl)
  have hP : va_P D.1 vwCl [(x0, .inr (5, [.ref h0, .ref b0, .ref w0, .ref s0, .ref m0, .ref g0, .int (nI cl)]))] H := hP
  have hD : va_D A [(x0, .inr (5, [.ref h0, .ref b0, .ref w0, .ref s0, .ref m0, .ref g0, .int (nI cl)]))] := hD
  exact absurd w1 hp
set_option maxHeartbeats 4000000 in
set_option maxRecDepth 100000 in
/-- in -/
theorem c_in {l : Launch} (hl9 : l.stackTraces = false) (D : zD) (x0 h0 b0 w0 m0 g0 cl : Nat) (s0 t0 t1 t2 n : Nat) (fs : Nat → Option Nat) (fp fc : Nat → Int32) (j : Nat) (p2 : Int32) (sz : Nat) (hj : j < 4) (hf : fs j = some t0) (hn : n ≤ 12) : vx_Met l yX5_in wsX5_in ({ frames := 7, cells := 2, slots := 12, locals := 111 }) (va_Pc [.ref x0, .int (nI j), .int p2] (zp D sz [(x0, .inr (5, [.ref h0, .ref b0, .ref w0, .ref s0, .ref m0, .ref g0, .int (nI cl)])), (s0, .inl (D.2 3, 4, .inr (.inr (.inr (.inr fs))))), (t0, .inr (4, [.ref t1, .ref t2, .int (nI n)])), (t1, .inl (D.2 0, 12, .inl fp)), (t2, .inl (D.2 0, 12, .inl fc))])) (va_Ql (fun r (_ : Unit) => (p2 = 0 ∧ r = (zs_isum fp n).toInt64) ∨ (p2 = 1 ∧ r = zs_worth fp fc n) ∨ (p2 = 2 ∧ r = (nI n).toInt64)) (zq D (va_A [(x0, .inr (5, [.ref h0, .ref b0, .ref w0, .ref s0, .ref m0, .ref g0, .int (nI cl)])), (s0, .inl (D.2 3, 4, .inr (.inr (.inr (.inr fs))))), (t0, .inr (4, [.ref t1, .ref t2, .int (nI n)])), (t1, .inl (D.2 0, 12, .inl fp)), (t2, .inl (D.2 0, 12, .inl fc))] sz) (fun (_ : Unit) => ([(x0, .inr (5, [.ref h0, .ref b0, .ref w0, .ref s0, .ref m0, .ref g0, .int (nI cl)])), (s0, .inl (D.2 3, 4, .inr (.inr (.inr (.inr fs))))), (t0, .inr (4, [.ref t1, .ref t2, .int (nI n)])), (t1, .inl (D.2 0, 12, .inl fp)), (t2, .inl (D.2 0, 12, .inl fc))] : va_W))) (va_A [(x0, .inr (5, [.ref h0, .ref b0, .ref w0, .ref s0, .ref m0, .ref g0, .int (nI cl)])), (s0, .inl (D.2 3, 4, .inr (.inr (.inr (.inr fs))))), (t0, .inr (4, [.ref t1, .ref t2, .int (nI n)])), (t1, .inl (D.2 0, 12, .inl fp)), (t2, .inl (D.2 0, 12, .inl fc))] sz)) (vx_X (fun _ : Unit => True) (zx D (va_A [(x0, .inr (5, [.ref h0, .ref b0, .ref w0, .ref s0, .ref m0, .ref g0, .int (nI cl)])), (s0, .inl (D.2 3, 4, .inr (.inr (.inr (.inr fs))))), (t0, .inr (4, [.ref t1, .ref t2, .int (nI n)])), (t1, .inl (D.2 0, 12, .inl fp)), (t2, .inl (D.2 0, 12, .inl fc))] sz) [(x0, .inr (5, [.ref h0, .ref b0, .ref w0, .ref s0, .ref m0, .ref g0, .int (nI cl)])), (s0, .inl (D.2 3, 4, .inr (.inr (.inr (.inr fs))))), (t0, .inr (4, [.ref t1, .ref t2, .int (nI n)])), (t1, .inl (D.2 0, 12, .inl fp)), (t2, .inl (D.2 0, 12, .inl fc))] (fun E => E = "java/lang/IndexOutOfBoundsException" ∧ ¬ p2 = 0 ∧ ¬ p2 = 1 ∧ ¬ p2 = 2)) (va_A [(x0, .inr (5, [.ref h0, .ref b0, .ref w0, .ref s0, .ref m0, .ref g0, .int (nI cl)])), (s0, .inl (D.2 3, 4, .inr (.inr (.inr (.inr fs))))), (t0, .inr (4, [.ref t1, .ref t2, .int (nI n)])), (t1, .inl (D.2 0, 12, .inl fp)), (t2, .inl (D.2 0, 12, .inl fc))] sz)) 2 12 (va_A [(x0, .inr (5, [.ref h0, .ref b0, .ref w0, .ref s0, .ref m0, .ref g0, .int (nI cl)])), (s0, .inl (D.2 3, 4, .inr (.inr (.inr (.inr fs))))), (t0, .inr (4, [.ref t1, .ref t2, .int (nI n)])), (t1, .inl (D.2 0, 12, .inl fp)), (t2, .inl (D.2 0, 12, .inl fc))] sz) := by
  refine vx_ofW (cc := cX5_in) (maxL := 3) (ret := (some .long)) (by decide) rfl ?_
  intro p e s m args below meth c s₁ B hml hnx hv
  obtain ⟨rfl, hsz, hP, hK, hD0, hB⟩ := hv
  have hx := B.exec
  have hb := B.bytes
  have hr := B.returns
  have hts := atoms_spec (ws := wsX5_in) B.pre
  have hown : s.vm.findClass "ShopLedger" = some m.cls := findClass_of_methodNamed B.named
  have hlocks := B.notSynchronized
  subst hsz
  have hD := hD0.self (sz := s.heap.size)
  generalize hAe : va_A [(x0, .inr (5, [.ref h0, .ref b0, .ref w0, .ref s0, .ref m0, .ref g0, .int (nI cl)])), (s0, .inl (D.2 3, 4, .inr (.inr (.inr (.inr fs))))), (t0, .inr (4, [.ref t1, .ref t2, .int (nI n)])), (t1, .inl (D.2 0, 12, .inl fp)), (t2, .inl (D.2 0, 12, .inl fc))] s.heap.size = A at hD hB ⊢
  have hA : ∀ q : Nat, s.heap.size ≤ q → A q := fun q h => by rw [← hAe]; exact Or.inr h
  have hS : va_S A s.heap s.heap [] := va_S.rf
  have hZ : ∀ w ∈ zALL, w.before _ s = true := fun w h => hts w (List.mem_cons_of_mem _ h)
  have hF : CallFix p m c cX5_in 3 s _ zALL "ShopLedger" := ⟨hx, hb, hml, hown, hZ⟩
  have hl := lv_entry ([.ref x0, .int (nI j), .int p2]) (n := 3) (Nat.le_of_ble_eq_true rfl)
  rw [lg_entry_eq]
  generalize (lg_sl ([.ref x0, .int (nI j), .int p2]) ++ List.replicate (3 - (lg_sl ([.ref x0, .int (nI j), .int p2])).length) Slot.unset).toArray = ls at hl ⊢
  have hl : lv_has ls 3 [(0, .ref x0), (1, .int (nI j)), (2, .int p2)] := hl
  refine lv_iload_n hx hb dX5_in_0 rfl (lv_at hl 1 rfl) ?_
  refine lv_iconst (v := 4) hx hb dX5_in_1 (by decide) ?_
  have J := zJ.mk (wc := []) (wr := [(x0, .inr (5, [.ref h0, .ref b0, .ref w0, .ref s0, .ref m0, .ref g0, .int (nI cl)])), (s0, .inl (D.2 3, 4, .inr (.inr (.inr (.inr fs))))), (t0, .inr (4, [.ref t1, .ref t2, .int (nI n)])), (t1, .inl (D.2 0, 12, .inl fp)), (t2, .inl (D.2 0, 12, .inl fc))]) hA hB hK hP hD hS [] [0, 1, 2, 3, 4] rfl rfl (by decide)
  refine z_xgov (z_xrunS (As := [.int (nI j), .int 4]) (rest := []) hF (c_cI hl9 D (nI j) 4 s.heap.size) (va_cwS 2 hZ (z_gS t_56 t_57 t_55 t_54) rfl rfl rfl (by decide +kernel) ⟨Nat.le_of_ble_eq_true rfl, Nat.le_of_ble_eq_true rfl⟩) J rfl hl.1 (Nat.le_of_ble_eq_true rfl) dX5_in_2 ⟨Nat.le_of_ble_eq_true rfl, Nat.le_of_ble_eq_true rfl⟩) J (fun EX ce q9 H locs w1 hP hD hS hce hcv hcl => ?_) (fun _ H locs w1 hP hD hS => ?_)
  · have hP : va_P D.1 vwCl [(x0, .inr (5, [.ref h0, .ref b0, .ref w0, .ref s0, .ref m0, .ref g0, .int (nI cl)])), (s0, .inl (D.2 3, 4, .inr (.inr (.inr (.inr fs))))), (t0, .inr (4, [.ref t1, .ref t2, .int (nI n)])), (t1, .inl (D.2 0, 12, .inl fp)), (t2, .inl (D.2 0, 12, .inl fc))] H := hP
    have hD : va_D A [(x0, .inr (5, [.ref h0, .ref b0, .ref w0, .ref s0, .ref m0, .ref g0, .int (nI cl)])), (s0, .inl (D.2 3, 4, .inr (.inr (.inr (.inr fs))))), (t0, .inr (4, [.ref t1, .ref t2, .int (nI n)])), (t1, .inl (D.2 0, 12, .inl fp)), (t2, .inl (D.2 0, 12, .inl fc))] := hD
    exact z_out hnx hlocks hce hcv hcl ((z_no hj (by decide) w1.2).elim) hP hD hS [0, 1, 2, 3, 4] rfl (by decide) (Nat.le_of_ble_eq_true rfl) (Nat.le_of_ble_eq_true rfl)
  have hP : va_P D.1 vwCl [(x0, .inr (5, [.ref h0, .ref b0, .ref w0, .ref s0, .ref m0, .ref g0, .int (nI cl)])), (s0, .inl (D.2 3, 4, .inr (.inr (.inr (.inr fs))))), (t0, .inr (4, [.ref t1, .ref t2, .int (nI n)])), (t1, .inl (D.2 0, 12, .inl fp)), (t2, .inl (D.2 0, 12, .inl fc))] H := hP
  have hD : va_D A [(x0, .inr (5, [.ref h0, .ref b0, .ref w0, .ref s0, .ref m0, .ref g0, .int (nI cl)])), (s0, .inl (D.2 3, 4, .inr (.inr (.inr (.inr fs))))), (t0, .inr (4, [.ref t1, .ref t2, .int (nI n)])), (t1, .inl (D.2 0, 12, .inl fp)), (t2, .inl (D.2 0, 12, .inl fc))] := hD
  refine lv_iload_n hx hb dX5_in_5 rfl (lv_at hl 2 rfl) ?_
  rcases Classical.em (p2 = 0) with s0_ | s0_
  · refine lv_tableIn (tgt := 32) hx hb dX5_in_6 (by rw [s0_]; decide) (by rw [s0_]; decide) (by rw [s0_]; rfl) (by decide) ?_
    refine lv_aload_n hx hb dX5_in_32 rfl (lv_at hl 0 rfl) ?_
    refine va_get (D := D.1) (ci := 5) (v := .ref s0) (C := "ShopLedger") (T := TX5) (N := 7) hx hb hZ inX5 hown hK hP 0 rfl rfl 3 (by decide) (hZ _ t_107) (fun _ h9 => h9) rfl dX5_in_33 ?_
    refine lv_iload_n hx hb dX5_in_36 rfl (lv_at hl 1 rfl) ?_
    refine z_aldq (q := t0) hx hb hK hP 1 3 rfl rfl (hj) (by decide) (hf) dX5_in_37 ?_
    have J := zJ.mk (wc := [(t0, .inr (4, [.ref t1, .ref t2, .int (nI n)])), (t1, .inl (D.2 0, 12, .inl fp))]) (wr := [(x0, .inr (5, [.ref h0, .ref b0, .ref w0, .ref s0, .ref m0, .ref g0, .int (nI cl)])), (s0, .inl (D.2 3, 4, .inr (.inr (.inr (.inr fs))))), (t2, .inl (D.2 0, 12, .inl fc))]) hA hB hK hP hD hS [2, 3] [0, 1, 4] rfl rfl (by decide)
    refine z_goi (z_runV (As := []) (rest := []) (b := t0) hF (c_Stock_all D t0 t1 t2 n fp fc H.size hn) (cwV 0 hZ (z_gV t_114 t_115 t_116 t_31 t_113) rfl rfl rfl (by decide +kernel) ⟨Nat.le_of_ble_eq_true rfl, Nat.le_of_ble_eq_true rfl⟩) J 0 4 rfl rfl rfl rfl hl.1 (Nat.le_of_ble_eq_true rfl) dX5_in_38 ⟨Nat.le_of_ble_eq_true rfl, Nat.le_of_ble_eq_true rfl⟩) J (fun r2 _ H locs w2 hP hD hS => ?_)
    have hP : va_P D.1 vwCl [(x0, .inr (5, [.ref h0, .ref b0, .ref w0, .ref s0, .ref m0, .ref g0, .int (nI cl)])), (s0, .inl (D.2 3, 4, .inr (.inr (.inr (.inr fs))))), (t2, .inl (D.2 0, 12, .inl fc)), (t0, .inr (4, [.ref t1, .ref t2, .int (nI n)])), (t1, .inl (D.2 0, 12, .inl fp))] H := hP
    have hD : va_D A [(x0, .inr (5, [.ref h0, .ref b0, .ref w0, .ref s0, .ref m0, .ref g0, .int (nI cl)])), (s0, .inl (D.2 3, 4, .inr (.inr (.inr (.inr fs))))), (t2, .inl (D.2 0, 12, .inl fc)), (t0, .inr (4, [.ref t1, .ref t2, .int (nI n)])), (t1, .inl (D.2 0, 12, .inl fp))] := hD
    subst w2
    refine lv_i2l (v := (zs_isum fp n).toInt64) hx hb dX5_in_41 rfl ?_
    refine vx_ret ?_
    exact z_lret (v := (zs_isum fp n).toInt64) hx hb hr hlocks hP hD hS () (Or.inl ⟨s0_, rfl⟩) [0, 1, 3, 4, 2] rfl (by decide) (Nat.le_of_ble_eq_true rfl) (Nat.le_of_ble_eq_true rfl) dX5_in_42
  rcases Classical.em (p2 = 1) with s1_ | s1_
  · refine lv_tableIn (tgt := 43) hx hb dX5_in_6 (by rw [s1_]; decide) (by rw [s1_]; decide) (by rw [s1_]; rfl) (by decide) ?_
    refine lv_aload_n hx hb dX5_in_43 rfl (lv_at hl 0 rfl) ?_
    refine va_get (D := D.1) (ci := 5) (v := .ref s0) (C := "ShopLedger") (T := TX5) (N := 7) hx hb hZ inX5 hown hK hP 0 rfl rfl 3 (by decide) (hZ _ t_107) (fun _ h9 => h9) rfl dX5_in_44 ?_
    refine lv_iload_n hx hb dX5_in_47 rfl (lv_at hl 1 rfl) ?_
    refine z_aldq (q := t0) hx hb hK hP 1 3 rfl rfl (hj) (by decide) (hf) dX5_in_48 ?_
    have J := zJ.mk (wc := [(t0, .inr (4, [.ref t1, .ref t2, .int (nI n)])), (t1, .inl (D.2 0, 12, .inl fp)), (t2, .inl (D.2 0, 12, .inl fc))]) (wr := [(x0, .inr (5, [.ref h0, .ref b0, .ref w0, .ref s0, .ref m0, .ref g0, .int (nI cl)])), (s0, .inl (D.2 3, 4, .inr (.inr (.inr (.inr fs)))))]) hA hB hK hP hD hS [2, 3, 4] [0, 1] rfl rfl (by decide)
    refine z_gol (z_runV (As := []) (rest := []) (b := t0) hF (c_Stock_worth D t0 t1 t2 n fp fc H.size hn) (cwV 0 hZ (z_gV t_122 t_123 t_124 t_31 t_121) rfl rfl rfl (by decide +kernel) ⟨Nat.le_of_ble_eq_true rfl, Nat.le_of_ble_eq_true rfl⟩) J 0 4 rfl rfl rfl rfl hl.1 (Nat.le_of_ble_eq_true rfl) dX5_in_49 ⟨Nat.le_of_ble_eq_true rfl, Nat.le_of_ble_eq_true rfl⟩) J (fun r3 _ H locs w3 hP hD hS => ?_)
    have hP : va_P D.1 vwCl [(x0, .inr (5, [.ref h0, .ref b0, .ref w0, .ref s0, .ref m0, .ref g0, .int (nI cl)])), (s0, .inl (D.2 3, 4, .inr (.inr (.inr (.inr fs))))), (t0, .inr (4, [.ref t1, .ref t2, .int (nI n)])), (t1, .inl (D.2 0, 12, .inl fp)), (t2, .inl (D.2 0, 12, .inl fc))] H := hP
    have hD : va_D A [(x0, .inr (5, [.ref h0, .ref b0, .ref w0, .ref s0, .ref m0, .ref g0, .int (nI cl)])), (s0, .inl (D.2 3, 4, .inr (.inr (.inr (.inr fs))))), (t0, .inr (4, [.ref t1, .ref t2, .int (nI n)])), (t1, .inl (D.2 0, 12, .inl fp)), (t2, .inl (D.2 0, 12, .inl fc))] := hD
    subst w3
    refine vx_ret ?_
    exact z_lret (v := zs_worth fp fc n) hx hb hr hlocks hP hD hS () (Or.inr (Or.inl ⟨s1_, rfl⟩)) [0, 1, 2, 3, 4] rfl (by decide) (Nat.le_of_ble_eq_true rfl) (Nat.le_of_ble_eq_true rfl) dX5_in_52
  rcases Classical.em (p2 = 2) with s2_ | s2_
  · refine lv_tableIn (tgt := 53) hx hb dX5_in_6 (by rw [s2_]; decide) (by rw [s2_]; decide) (by rw [s2_]; rfl) (by decide) ?_
    refine lv_aload_n hx hb dX5_in_53 rfl (lv_at hl 0 rfl) ?_
    refine va_get (D := D.1) (ci := 5) (v := .ref s0) (C := "ShopLedger") (T := TX5) (N := 7) hx hb hZ inX5 hown hK hP 0 rfl rfl 3 (by decide) (hZ _ t_107) (fun _ h9 => h9) rfl dX5_in_54 ?_
    refine lv_iload_n hx hb dX5_in_57 rfl (lv_at hl 1 rfl) ?_
    refine z_aldq (q := t0) hx hb hK hP 1 3 rfl rfl (hj) (by decide) (hf) dX5_in_58 ?_
    refine va_get (D := D.1) (ci := 4) (v := .int (nI n)) (C := "ShopLedger$Stock") (T := TX4) (N := 3) hx hb hZ inX4 hown hK hP 2 rfl rfl 2 (by decide) (hZ _ t_108) (fun _ h9 => h9) rfl dX5_in_59 ?_
    refine lv_i2l (v := (nI n).toInt64) hx hb dX5_in_62 rfl ?_
    refine vx_ret ?_
    exact z_lret (v := (nI n).toInt64) hx hb hr hlocks hP hD hS () (Or.inr (Or.inr ⟨s2_, rfl⟩)) [0, 1, 2, 3, 4] rfl (by decide) (Nat.le_of_ble_eq_true rfl) (Nat.le_of_ble_eq_true rfl) dX5_in_63
  refine lv_tableOut (tgt := 64) hx hb dX5_in_6 (by have h0 := lv_neT s0_ (show (0 : Int32).toInt = 0 from rfl); have h1 := lv_neT s1_ (show (1 : Int32).toInt = 1 from rfl); have h2 := lv_neT s2_ (show (2 : Int32).toInt = 2 from rfl); omega) (by decide) ?_
  exact z_throw (own := "ShopLedger") "java/lang/IndexOutOfBoundsException" "no such what" ["java/lang/RuntimeException", "java/lang/Exception"] hx hb hl9 hnx hlocks hown (by decide +kernel) (by decide +kernel) (hZ _ t_44) (hZ _ t_45) hB (by decide +kernel) (vx_hat (L := vx_atS "ShopLedger" 121 "java/lang/IndexOutOfBoundsException" ["java/lang/RuntimeException", "java/lang/Exception"]) (B := [.castable "java/lang/IndexOutOfBoundsException" "java/lang/IndexOutOfBoundsException", .declares ⟨"java/lang/RuntimeException", "<init>", "(Ljava/lang/String;)V"⟩, .declares ⟨"java/lang/Exception", "<init>", "(Ljava/lang/String;)V"⟩, .declares ⟨"java/lang/Throwable", "<init>", "(Ljava/lang/String;)V"⟩]) (fun w hw => hZ w (t_at0 w hw)) (by decide +kernel) (vx_c (va_Nw.use rfl (hB.2.2.2.1 ("java/lang/IndexOutOfBoundsException", "java/lang/IndexOutOfBoundsException") (by decide +kernel))) (vx_c (va_Nw.use rfl (hB.2.2.2.2.1 ⟨"java/lang/RuntimeException", "<init>", "(Ljava/lang/String;)V"⟩ (by decide +kernel))) (vx_c (va_Nw.use rfl (hB.2.2.2.2.1 ⟨"java/lang/Exception", "<init>", "(Ljava/lang/String;)V"⟩ (by decide +kernel))) (vx_c (va_Nw.use rfl (hB.2.2.2.2.1 ⟨"java/lang/Throwable", "<init>", "(Ljava/lang/String;)V"⟩ (by decide +kernel))) (vx_n)))))) (by decide +kernel) (hl.1.trans hml.symm) dX5_in_64 dX5_in_67 dX5_in_68 dX5_in_70 dX5_in_73 (Nat.le_of_ble_eq_true rfl) (Nat.le_of_ble_eq_true rfl) (Nat.le_of_ble_eq_true rfl) (Nat.le_of_ble_eq_true rfl) (⟨rfl, s0_, s1_, s2_⟩) hP hD hS [0, 1, 2, 3, 4] rfl (by decide) (Nat.le_of_ble_eq_true rfl) (Nat.le_of_ble_eq_true rfl)
set_option maxHeartbeats 4000000 in
set_option maxRecDepth 100000 in
/-- in, of what is not there -/
theorem c_inX {l : Launch} (hl9 : l.stackTraces = false) (D : zD) (x0 h0 b0 w0 s0 m0 g0 cl : Nat) (p1 p2 : Int32) (sz : Nat) (hp : ¬ zin p1 4) : vx_Met l yX5_in wsX5_in ({ frames := 7, cells := 1, slots := 6, locals := 111 }) (va_Pc [.ref x0, .int p1, .int p2] (zp D sz [(x0, .inr (5, [.ref h0, .ref b0, .ref w0, .ref s0, .ref m0, .ref g0, .int (nI cl)]))])) (va_Ql (fun r (_ : Unit) => False) (zq D (va_A [(x0, .inr (5, [.ref h0, .ref b0, .ref w0, .ref s0, .ref m0, .ref g0, .int (nI cl)]))] sz) (fun (_ : Unit) => ([(x0, .inr (5, [.ref h0, .ref b0, .ref w0, .ref s0, .ref m0, .ref g0, .int (nI cl)]))] : va_W))) (va_A [(x0, .inr (5, [.ref h0, .ref b0, .ref w0, .ref s0, .ref m0, .ref g0, .int (nI cl)]))] sz)) (vx_X (fun _ : Unit => True) (zx D (va_A [(x0, .inr (5, [.ref h0, .ref b0, .ref w0, .ref s0, .ref m0, .ref g0, .int (nI cl)]))] sz) [(x0, .inr (5, [.ref h0, .ref b0, .ref w0, .ref s0, .ref m0, .ref g0, .int (nI cl)]))] (fun E9 => E9 = "java/lang/IndexOutOfBoundsException")) (va_A [(x0, .inr (5, [.ref h0, .ref b0, .ref w0, .ref s0, .ref m0, .ref g0, .int (nI cl)]))] sz)) 1 6 (va_A [(x0, .inr (5, [.ref h0, .ref b0, .ref w0, .ref s0, .ref m0, .ref g0, .int (nI cl)]))] sz) := by
  refine vx_ofW (cc := cX5_in) (maxL := 3) (ret := (some .long)) (by decide) rfl ?_
  intro p e s m args below meth c s₁ B hml hnx hv
  obtain ⟨rfl, hsz, hP, hK, hD0, hB⟩ := hv
  have hx := B.exec
  have hb := B.bytes
  have hr := B.returns
  have hts := atoms_spec (ws := wsX5_in) B.pre
  have hown : s.vm.findClass "ShopLedger" = some m.cls := findClass_of_methodNamed B.named
  have hlocks := B.notSynchronized
  subst hsz
  have hD := hD0.self (sz := s.heap.size)
  generalize hAe : va_A [(x0, .inr (5, [.ref h0, .ref b0, .ref w0, .ref s0, .ref m0, .ref g0, .int (nI cl)]))] s.heap.size = A at hD hB ⊢
  have hA : ∀ q : Nat, s.heap.size ≤ q → A q := fun q h => by rw [← hAe]; exact Or.inr h
  have hS : va_S A s.heap s.heap [] := va_S.rf
  have hZ : ∀ w ∈ zALL, w.before _ s = true := fun w h => hts w (List.mem_cons_of_mem _ h)
  have hF : CallFix p m c cX5_in 3 s _ zALL "ShopLedger" := ⟨hx, hb, hml, hown, hZ⟩
  have hl := lv_entry ([.ref x0, .int p1, .int p2]) (n := 3) (Nat.le_of_ble_eq_true rfl)
  rw [lg_entry_eq]
  generalize (lg_sl ([.ref x0, .int p1, .int p2]) ++ List.replicate (3 - (lg_sl ([.ref x0, .int p1, .int p2])).length) Slot.unset).toArray = ls at hl ⊢
  have hl : lv_has ls 3 [(0, .ref x0), (1, .int p1), (2, .int p2)] := hl
  refine lv_iload_n hx hb dX5_in_0 rfl (lv_at hl 1 rfl) ?_
  refine lv_iconst (v := 4) hx hb dX5_in_1 (by decide) ?_
  have J := zJ.mk (wc := []) (wr := [(x0, .inr (5, [.ref h0, .ref b0, .ref w0, .ref s0, .ref m0, .ref g0, .int (nI cl)]))]) hA hB hK hP hD hS [] [0] rfl rfl (by decide)
  refine z_xgov (z_xrunS (As := [.int p1, .int 4]) (rest := []) hF (c_cI hl9 D p1 4 s.heap.size) (va_cwS 2 hZ (z_gS t_56 t_57 t_55 t_54) rfl rfl rfl (by decide +kernel) ⟨Nat.le_of_ble_eq_true rfl, Nat.le_of_ble_eq_true rfl⟩) J rfl hl.1 (Nat.le_of_ble_eq_true rfl) dX5_in_2 ⟨Nat.le_of_ble_eq_true rfl, Nat.le_of_ble_eq_true rfl⟩) J (fun EX ce q9 H locs w1 hP hD hS hce hcv hcl => ?_) (fun _ H locs w1 hP hD hS => ?_)
  · have hP : va_P D.1 vwCl [(x0, .inr (5, [.ref h0, .ref b0, .ref w0, .ref s0, .ref m0, .ref g0, .int (nI cl)]))] H := hP
    have hD : va_D A [(x0, .inr (5, [.ref h0, .ref b0, .ref w0, .ref s0, .ref m0, .ref g0, .int (nI cl)]))] := hD
    exact z_out hnx hlocks hce hcv hcl (w1.1) hP hD hS [0] rfl (by decide) (Nat.le_of_ble_eq_true rfl) (Nat.le_of_ble_eq_true rfl)
  have hP : va_P D.1 vwCl [(x0, .inr (5, [.ref h0, .ref b0, .ref w0, .ref s0, .ref m0, .ref g0, .int (nI cl)]))] H := hP
  have hD : va_D A [(x0, .inr (5, [.ref h0, .ref b0, .ref w0, .ref s0, .ref m0, .ref g0, .int (nI cl)]))] := hD
  exact absurd w1 hp
set_option maxHeartbeats 4000000 in
set_option maxRecDepth 100000 in
/-- rate -/
theorem c_rate {l : Launch} (hl9 : l.stackTraces = false) (D : zD) (x0 h0 b0 w0 s0 g0 cl : Nat) (m0 t0 t1 t2 n : Nat) (fs : Nat → Option Nat) (fd fc : Nat → Int32) (j : Nat) (p2 p3 : Int32) (sz : Nat) (hj : j < 3) (hf : fs j = some t0) (hn : n ≤ 10) : vx_Met l yX5_rate wsX5_rate ({ frames := 7, cells := 5, slots := 30, locals := 112 }) (va_Pc [.ref x0, .int (nI j), .int p2, .int p3] (zp D sz [(x0, .inr (5, [.ref h0, .ref b0, .ref w0, .ref s0, .ref m0, .ref g0, .int (nI cl)])), (m0, .inl (D.2 4, 3, .inr (.inr (.inr (.inr fs))))), (t0, .inr (2, [.ref t1, .ref t2, .int (nI n)])), (t1, .inl (D.2 0, 10, .inl fd)), (t2, .inl (D.2 0, 10, .inl fc))])) (va_Qi (fun r (_ : Unit) => (¬ 10 ≤ nI n) ∧ (¬ p2 < 0 ∧ p2 ≤ 365 ∧ ¬ p3 < 1 ∧ p3 ≤ 100000000 ∧ (if n = 0 then -1 else fd (n - 1)) < p2) ∧ r = nI (n + 1)) (zq D (va_A [(x0, .inr (5, [.ref h0, .ref b0, .ref w0, .ref s0, .ref m0, .ref g0, .int (nI cl)])), (m0, .inl (D.2 4, 3, .inr (.inr (.inr (.inr fs))))), (t0, .inr (2, [.ref t1, .ref t2, .int (nI n)])), (t1, .inl (D.2 0, 10, .inl fd)), (t2, .inl (D.2 0, 10, .inl fc))] sz) (fun (_ : Unit) => ([(x0, .inr (5, [.ref h0, .ref b0, .ref w0, .ref s0, .ref m0, .ref g0, .int (nI cl)])), (m0, .inl (D.2 4, 3, .inr (.inr (.inr (.inr fs))))), (t0, .inr (2, [.ref t1, .ref t2, .int (nI (n + 1))])), (t1, .inl (D.2 0, 10, .inl (upd fd n p2))), (t2, .inl (D.2 0, 10, .inl (upd fc n p3)))] : va_W))) (va_A [(x0, .inr (5, [.ref h0, .ref b0, .ref w0, .ref s0, .ref m0, .ref g0, .int (nI cl)])), (m0, .inl (D.2 4, 3, .inr (.inr (.inr (.inr fs))))), (t0, .inr (2, [.ref t1, .ref t2, .int (nI n)])), (t1, .inl (D.2 0, 10, .inl fd)), (t2, .inl (D.2 0, 10, .inl fc))] sz)) (vx_X (fun _ : Unit => True) (zx D (va_A [(x0, .inr (5, [.ref h0, .ref b0, .ref w0, .ref s0, .ref m0, .ref g0, .int (nI cl)])), (m0, .inl (D.2 4, 3, .inr (.inr (.inr (.inr fs))))), (t0, .inr (2, [.ref t1, .ref t2, .int (nI n)])), (t1, .inl (D.2 0, 10, .inl fd)), (t2, .inl (D.2 0, 10, .inl fc))] sz) [(x0, .inr (5, [.ref h0, .ref b0, .ref w0, .ref s0, .ref m0, .ref g0, .int (nI cl)])), (m0, .inl (D.2 4, 3, .inr (.inr (.inr (.inr fs))))), (t0, .inr (2, [.ref t1, .ref t2, .int (nI n)])), (t1, .inl (D.2 0, 10, .inl fd)), (t2, .inl (D.2 0, 10, .inl fc))] (fun E => (E = "java/lang/IllegalStateException" ∧ ¬ (¬ 10 ≤ nI n)) ∨ (E = "java/lang/IllegalArgumentException" ∧ (¬ 10 ≤ nI n) ∧ ¬ (¬ p2 < 0 ∧ p2 ≤ 365 ∧ ¬ p3 < 1 ∧ p3 ≤ 100000000 ∧ (if n = 0 then -1 else fd (n - 1)) < p2)))) (va_A [(x0, .inr (5, [.ref h0, .ref b0, .ref w0, .ref s0, .ref m0, .ref g0, .int (nI cl)])), (m0, .inl (D.2 4, 3, .inr (.inr (.inr (.inr fs))))), (t0, .inr (2, [.ref t1, .ref t2, .int (nI n)])), (t1, .inl (D.2 0, 10, .inl fd)), (t2, .inl (D.2 0, 10, .inl fc))] sz)) 5 30 (va_A [(x0, .inr (5, [.ref h0, .ref b0, .ref w0, .ref s0, .ref m0, .ref g0, .int (nI cl)])), (m0, .inl (D.2 4, 3, .inr (.inr (.inr (.inr fs))))), (t0, .inr (2, [.ref t1, .ref t2, .int (nI n)])), (t1, .inl (D.2 0, 10, .inl fd)), (t2, .inl (D.2 0, 10, .inl fc))] sz) := by
  refine vx_ofW (cc := cX5_rate) (maxL := 4) (ret := (some .int)) (by decide) rfl ?_
  intro p e s m args below meth c s₁ B hml hnx hv
  obtain ⟨rfl, hsz, hP, hK, hD0, hB⟩ := hv
  have hx := B.exec
  have hb := B.bytes
  have hr := B.returns
  have hts := atoms_spec (ws := wsX5_rate) B.pre
  have hown : s.vm.findClass "ShopLedger" = some m.cls := findClass_of_methodNamed B.named
  have hlocks := B.notSynchronized
  subst hsz
  have hD := hD0.self (sz := s.heap.size)
  generalize hAe : va_A [(x0, .inr (5, [.ref h0, .ref b0, .ref w0, .ref s0, .ref m0, .ref g0, .int (nI cl)])), (m0, .inl (D.2 4, 3, .inr (.inr (.inr (.inr fs))))), (t0, .inr (2, [.ref t1, .ref t2, .int (nI n)])), (t1, .inl (D.2 0, 10, .inl fd)), (t2, .inl (D.2 0, 10, .inl fc))] s.heap.size = A at hD hB ⊢
  have hA : ∀ q : Nat, s.heap.size ≤ q → A q := fun q h => by rw [← hAe]; exact Or.inr h
  have hS : va_S A s.heap s.heap [] := va_S.rf
  have hZ : ∀ w ∈ zALL, w.before _ s = true := fun w h => hts w (List.mem_cons_of_mem _ h)
  have hF : CallFix p m c cX5_rate 4 s _ zALL "ShopLedger" := ⟨hx, hb, hml, hown, hZ⟩
  have hl := lv_entry ([.ref x0, .int (nI j), .int p2, .int p3]) (n := 4) (Nat.le_of_ble_eq_true rfl)
  rw [lg_entry_eq]
  generalize (lg_sl ([.ref x0, .int (nI j), .int p2, .int p3]) ++ List.replicate (4 - (lg_sl ([.ref x0, .int (nI j), .int p2, .int p3])).length) Slot.unset).toArray = ls at hl ⊢
  have hl : lv_has ls 4 [(0, .ref x0), (1, .int (nI j)), (2, .int p2), (3, .int p3)] := hl
  refine lv_iload_n hx hb dX5_rate_0 rfl (lv_at hl 1 rfl) ?_
  refine lv_iconst (v := 3) hx hb dX5_rate_1 (by decide) ?_
  have J := zJ.mk (wc := []) (wr := [(x0, .inr (5, [.ref h0, .ref b0, .ref w0, .ref s0, .ref m0, .ref g0, .int (nI cl)])), (m0, .inl (D.2 4, 3, .inr (.inr (.inr (.inr fs))))), (t0, .inr (2, [.ref t1, .ref t2, .int (nI n)])), (t1, .inl (D.2 0, 10, .inl fd)), (t2, .inl (D.2 0, 10, .inl fc))]) hA hB hK hP hD hS [] [0, 1, 2, 3, 4] rfl rfl (by decide)
  refine z_xgov (z_xrunS (As := [.int (nI j), .int 3]) (rest := []) hF (c_cI hl9 D (nI j) 3 s.heap.size) (va_cwS 2 hZ (z_gS t_56 t_57 t_55 t_54) rfl rfl rfl (by decide +kernel) ⟨Nat.le_of_ble_eq_true rfl, Nat.le_of_ble_eq_true rfl⟩) J rfl hl.1 (Nat.le_of_ble_eq_true rfl) dX5_rate_2 ⟨Nat.le_of_ble_eq_true rfl, Nat.le_of_ble_eq_true rfl⟩) J (fun EX ce q9 H locs w1 hP hD hS hce hcv hcl => ?_) (fun _ H locs w1 hP hD hS => ?_)
  · have hP : va_P D.1 vwCl [(x0, .inr (5, [.ref h0, .ref b0, .ref w0, .ref s0, .ref m0, .ref g0, .int (nI cl)])), (m0, .inl (D.2 4, 3, .inr (.inr (.inr (.inr fs))))), (t0, .inr (2, [.ref t1, .ref t2, .int (nI n)])), (t1, .inl (D.2 0, 10, .inl fd)), (t2, .inl (D.2 0, 10, .inl fc))] H := hP
    have hD : va_D A [(x0, .inr (5, [.ref h0, .ref b0, .ref w0, .ref s0, .ref m0, .ref g0, .int (nI cl)])), (m0, .inl (D.2 4, 3, .inr (.inr (.inr (.inr fs))))), (t0, .inr (2, [.ref t1, .ref t2, .int (nI n)])), (t1, .inl (D.2 0, 10, .inl fd)), (t2, .inl (D.2 0, 10, .inl fc))] := hD
    exact z_out hnx hlocks hce hcv hcl ((z_no hj (by decide) w1.2).elim) hP hD hS [0, 1, 2, 3, 4] rfl (by decide) (Nat.le_of_ble_eq_true rfl) (Nat.le_of_ble_eq_true rfl)
  have hP : va_P D.1 vwCl [(x0, .inr (5, [.ref h0, .ref b0, .ref w0, .ref s0, .ref m0, .ref g0, .int (nI cl)])), (m0, .inl (D.2 4, 3, .inr (.inr (.inr (.inr fs))))), (t0, .inr (2, [.ref t1, .ref t2, .int (nI n)])), (t1, .inl (D.2 0, 10, .inl fd)), (t2, .inl (D.2 0, 10, .inl fc))] H := hP
  have hD : va_D A [(x0, .inr (5, [.ref h0, .ref b0, .ref w0, .ref s0, .ref m0, .ref g0, .int (nI cl)])), (m0, .inl (D.2 4, 3, .inr (.inr (.inr (.inr fs))))), (t0, .inr (2, [.ref t1, .ref t2, .int (nI n)])), (t1, .inl (D.2 0, 10, .inl fd)), (t2, .inl (D.2 0, 10, .inl fc))] := hD
  refine lv_aload_n hx hb dX5_rate_5 rfl (lv_at hl 0 rfl) ?_
  refine va_get (D := D.1) (ci := 5) (v := .ref m0) (C := "ShopLedger") (T := TX5) (N := 7) hx hb hZ inX5 hown hK hP 0 rfl rfl 4 (by decide) (hZ _ t_125) (fun _ h9 => h9) rfl dX5_rate_6 ?_
  refine lv_iload_n hx hb dX5_rate_9 rfl (lv_at hl 1 rfl) ?_
  refine z_aldq (q := t0) hx hb hK hP 1 4 rfl rfl (hj) (by decide) (hf) dX5_rate_10 ?_
  refine va_get (D := D.1) (ci := 2) (v := .int (nI n)) (C := "ShopLedger$Money") (T := TX2) (N := 3) hx hb hZ inX2 hown hK hP 2 rfl rfl 2 (by decide) (hZ _ t_126) (fun _ h9 => h9) rfl dX5_rate_11 ?_
  refine lv_bipush (v := 10) hx hb dX5_rate_14 (by decide) ?_
  refine lv_icmp_ge (tgt := 23) hx hb dX5_rate_16 (by decide) (fun c1 => ?_) (fun c1 => ?_)
  · skip
    refine lv_iconst (v := 0) hx hb dX5_rate_23 (by decide) ?_
    have J := zJ.mk (wc := []) (wr := [(x0, .inr (5, [.ref h0, .ref b0, .ref w0, .ref s0, .ref m0, .ref g0, .int (nI cl)])), (m0, .inl (D.2 4, 3, .inr (.inr (.inr (.inr fs))))), (t0, .inr (2, [.ref t1, .ref t2, .int (nI n)])), (t1, .inl (D.2 0, 10, .inl fd)), (t2, .inl (D.2 0, 10, .inl fc))]) hA hB hK hP hD hS [] [0, 1, 2, 3, 4] rfl rfl (by decide)
    refine z_xgov (z_xrunS (As := [.int 0]) (rest := []) hF (c_cT hl9 D 0 H.size) (va_cwS 1 hZ (z_gS t_61 t_62 t_55 t_60) rfl rfl rfl (by decide +kernel) ⟨Nat.le_of_ble_eq_true rfl, Nat.le_of_ble_eq_true rfl⟩) J rfl hl.1 (Nat.le_of_ble_eq_true rfl) dX5_rate_24 ⟨Nat.le_of_ble_eq_true rfl, Nat.le_of_ble_eq_true rfl⟩) J (fun EX ce q9 H locs w2 hP hD hS hce hcv hcl => ?_) (fun _ H locs w2 hP hD hS => ?_)
    · have hP : va_P D.1 vwCl [(x0, .inr (5, [.ref h0, .ref b0, .ref w0, .ref s0, .ref m0, .ref g0, .int (nI cl)])), (m0, .inl (D.2 4, 3, .inr (.inr (.inr (.inr fs))))), (t0, .inr (2, [.ref t1, .ref t2, .int (nI n)])), (t1, .inl (D.2 0, 10, .inl fd)), (t2, .inl (D.2 0, 10, .inl fc))] H := hP
      have hD : va_D A [(x0, .inr (5, [.ref h0, .ref b0, .ref w0, .ref s0, .ref m0, .ref g0, .int (nI cl)])), (m0, .inl (D.2 4, 3, .inr (.inr (.inr (.inr fs))))), (t0, .inr (2, [.ref t1, .ref t2, .int (nI n)])), (t1, .inl (D.2 0, 10, .inl fd)), (t2, .inl (D.2 0, 10, .inl fc))] := hD
      exact z_out hnx hlocks hce hcv hcl (Or.inl ⟨w2.1, fun h => h c1⟩) hP hD hS [0, 1, 2, 3, 4] rfl (by decide) (Nat.le_of_ble_eq_true rfl) (Nat.le_of_ble_eq_true rfl)
    have hP : va_P D.1 vwCl [(x0, .inr (5, [.ref h0, .ref b0, .ref w0, .ref s0, .ref m0, .ref g0, .int (nI cl)])), (m0, .inl (D.2 4, 3, .inr (.inr (.inr (.inr fs))))), (t0, .inr (2, [.ref t1, .ref t2, .int (nI n)])), (t1, .inl (D.2 0, 10, .inl fd)), (t2, .inl (D.2 0, 10, .inl fc))] H := hP
    have hD : va_D A [(x0, .inr (5, [.ref h0, .ref b0, .ref w0, .ref s0, .ref m0, .ref g0, .int (nI cl)])), (m0, .inl (D.2 4, 3, .inr (.inr (.inr (.inr fs))))), (t0, .inr (2, [.ref t1, .ref t2, .int (nI n)])), (t1, .inl (D.2 0, 10, .inl fd)), (t2, .inl (D.2 0, 10, .inl fc))] := hD
    exact absurd rfl w2
  refine lv_iconst (v := 1) hx hb dX5_rate_19 (by decide) ?_
  refine lv_goto (tgt := 24) hx hb dX5_rate_20 (by decide) ?_
  have J := zJ.mk (wc := []) (wr := [(x0, .inr (5, [.ref h0, .ref b0, .ref w0, .ref s0, .ref m0, .ref g0, .int (nI cl)])), (m0, .inl (D.2 4, 3, .inr (.inr (.inr (.inr fs))))), (t0, .inr (2, [.ref t1, .ref t2, .int (nI n)])), (t1, .inl (D.2 0, 10, .inl fd)), (t2, .inl (D.2 0, 10, .inl fc))]) hA hB hK hP hD hS [] [0, 1, 2, 3, 4] rfl rfl (by decide)
  refine z_xgov (z_xrunS (As := [.int 1]) (rest := []) hF (c_cT hl9 D 1 H.size) (va_cwS 1 hZ (z_gS t_61 t_62 t_55 t_60) rfl rfl rfl (by decide +kernel) ⟨Nat.le_of_ble_eq_true rfl, Nat.le_of_ble_eq_true rfl⟩) J rfl hl.1 (Nat.le_of_ble_eq_true rfl) dX5_rate_24 ⟨Nat.le_of_ble_eq_true rfl, Nat.le_of_ble_eq_true rfl⟩) J (fun EX ce q9 H locs w2 hP hD hS hce hcv hcl => ?_) (fun _ H locs w2 hP hD hS => ?_)
  · have hP : va_P D.1 vwCl [(x0, .inr (5, [.ref h0, .ref b0, .ref w0, .ref s0, .ref m0, .ref g0, .int (nI cl)])), (m0, .inl (D.2 4, 3, .inr (.inr (.inr (.inr fs))))), (t0, .inr (2, [.ref t1, .ref t2, .int (nI n)])), (t1, .inl (D.2 0, 10, .inl fd)), (t2, .inl (D.2 0, 10, .inl fc))] H := hP
    have hD : va_D A [(x0, .inr (5, [.ref h0, .ref b0, .ref w0, .ref s0, .ref m0, .ref g0, .int (nI cl)])), (m0, .inl (D.2 4, 3, .inr (.inr (.inr (.inr fs))))), (t0, .inr (2, [.ref t1, .ref t2, .int (nI n)])), (t1, .inl (D.2 0, 10, .inl fd)), (t2, .inl (D.2 0, 10, .inl fc))] := hD
    exact z_out hnx hlocks hce hcv hcl (absurd w2.2 (by decide)) hP hD hS [0, 1, 2, 3, 4] rfl (by decide) (Nat.le_of_ble_eq_true rfl) (Nat.le_of_ble_eq_true rfl)
  have hP : va_P D.1 vwCl [(x0, .inr (5, [.ref h0, .ref b0, .ref w0, .ref s0, .ref m0, .ref g0, .int (nI cl)])), (m0, .inl (D.2 4, 3, .inr (.inr (.inr (.inr fs))))), (t0, .inr (2, [.ref t1, .ref t2, .int (nI n)])), (t1, .inl (D.2 0, 10, .inl fd)), (t2, .inl (D.2 0, 10, .inl fc))] H := hP
  have hD : va_D A [(x0, .inr (5, [.ref h0, .ref b0, .ref w0, .ref s0, .ref m0, .ref g0, .int (nI cl)])), (m0, .inl (D.2 4, 3, .inr (.inr (.inr (.inr fs))))), (t0, .inr (2, [.ref t1, .ref t2, .int (nI n)])), (t1, .inl (D.2 0, 10, .inl fd)), (t2, .inl (D.2 0, 10, .inl fc))] := hD
  refine lv_iload_n hx hb dX5_rate_27 rfl (lv_at hl 2 rfl) ?_
  refine lv_iconst (v := 0) hx hb dX5_rate_28 (by decide) ?_
  refine lv_sipush (v := 365) hx hb dX5_rate_29 (by decide) ?_
  have J := zJ.mk (wc := []) (wr := [(x0, .inr (5, [.ref h0, .ref b0, .ref w0, .ref s0, .ref m0, .ref g0, .int (nI cl)])), (m0, .inl (D.2 4, 3, .inr (.inr (.inr (.inr fs))))), (t0, .inr (2, [.ref t1, .ref t2, .int (nI n)])), (t1, .inl (D.2 0, 10, .inl fd)), (t2, .inl (D.2 0, 10, .inl fc))]) hA hB hK hP hD hS [] [0, 1, 2, 3, 4] rfl rfl (by decide)
  refine z_xgov (z_xrunS (As := [.int p2, .int 0, .int 365]) (rest := []) hF (c_cR hl9 D p2 0 365 H.size) (va_cwS 3 hZ (z_gS t_66 t_67 t_55 t_65) rfl rfl rfl (by decide +kernel) ⟨Nat.le_of_ble_eq_true rfl, Nat.le_of_ble_eq_true rfl⟩) J rfl hl.1 (Nat.le_of_ble_eq_true rfl) dX5_rate_32 ⟨Nat.le_of_ble_eq_true rfl, Nat.le_of_ble_eq_true rfl⟩) J (fun EX ce q9 H locs w3 hP hD hS hce hcv hcl => ?_) (fun _ H locs w3 hP hD hS => ?_)
  · have hP : va_P D.1 vwCl [(x0, .inr (5, [.ref h0, .ref b0, .ref w0, .ref s0, .ref m0, .ref g0, .int (nI cl)])), (m0, .inl (D.2 4, 3, .inr (.inr (.inr (.inr fs))))), (t0, .inr (2, [.ref t1, .ref t2, .int (nI n)])), (t1, .inl (D.2 0, 10, .inl fd)), (t2, .inl (D.2 0, 10, .inl fc))] H := hP
    have hD : va_D A [(x0, .inr (5, [.ref h0, .ref b0, .ref w0, .ref s0, .ref m0, .ref g0, .int (nI cl)])), (m0, .inl (D.2 4, 3, .inr (.inr (.inr (.inr fs))))), (t0, .inr (2, [.ref t1, .ref t2, .int (nI n)])), (t1, .inl (D.2 0, 10, .inl fd)), (t2, .inl (D.2 0, 10, .inl fc))] := hD
    exact z_out hnx hlocks hce hcv hcl (Or.inr (⟨w3.1, c1, fun h => w3.2.elim h.1 (fun g => g h.2.1)⟩)) hP hD hS [0, 1, 2, 3, 4] rfl (by decide) (Nat.le_of_ble_eq_true rfl) (Nat.le_of_ble_eq_true rfl)
  have hP : va_P D.1 vwCl [(x0, .inr (5, [.ref h0, .ref b0, .ref w0, .ref s0, .ref m0, .ref g0, .int (nI cl)])), (m0, .inl (D.2 4, 3, .inr (.inr (.inr (.inr fs))))), (t0, .inr (2, [.ref t1, .ref t2, .int (nI n)])), (t1, .inl (D.2 0, 10, .inl fd)), (t2, .inl (D.2 0, 10, .inl fc))] H := hP
  have hD : va_D A [(x0, .inr (5, [.ref h0, .ref b0, .ref w0, .ref s0, .ref m0, .ref g0, .int (nI cl)])), (m0, .inl (D.2 4, 3, .inr (.inr (.inr (.inr fs))))), (t0, .inr (2, [.ref t1, .ref t2, .int (nI n)])), (t1, .inl (D.2 0, 10, .inl fd)), (t2, .inl (D.2 0, 10, .inl fc))] := hD
  refine lv_iload_n hx hb dX5_rate_35 rfl (lv_at hl 3 rfl) ?_
  refine lv_iconst (v := 1) hx hb dX5_rate_36 (by decide) ?_
  refine lv_ldc (v := 100000000) hx hb hown (hZ _ t_127) dX5_rate_37 ?_
  have J := zJ.mk (wc := []) (wr := [(x0, .inr (5, [.ref h0, .ref b0, .ref w0, .ref s0, .ref m0, .ref g0, .int (nI cl)])), (m0, .inl (D.2 4, 3, .inr (.inr (.inr (.inr fs))))), (t0, .inr (2, [.ref t1, .ref t2, .int (nI n)])), (t1, .inl (D.2 0, 10, .inl fd)), (t2, .inl (D.2 0, 10, .inl fc))]) hA hB hK hP hD hS [] [0, 1, 2, 3, 4] rfl rfl (by decide)
  refine z_xgov (z_xrunS (As := [.int p3, .int 1, .int 100000000]) (rest := []) hF (c_cR hl9 D p3 1 100000000 H.size) (va_cwS 3 hZ (z_gS t_66 t_67 t_55 t_65) rfl rfl rfl (by decide +kernel) ⟨Nat.le_of_ble_eq_true rfl, Nat.le_of_ble_eq_true rfl⟩) J rfl hl.1 (Nat.le_of_ble_eq_true rfl) dX5_rate_39 ⟨Nat.le_of_ble_eq_true rfl, Nat.le_of_ble_eq_true rfl⟩) J (fun EX ce q9 H locs w4 hP hD hS hce hcv hcl => ?_) (fun _ H locs w4 hP hD hS => ?_)
  · have hP : va_P D.1 vwCl [(x0, .inr (5, [.ref h0, .ref b0, .ref w0, .ref s0, .ref m0, .ref g0, .int (nI cl)])), (m0, .inl (D.2 4, 3, .inr (.inr (.inr (.inr fs))))), (t0, .inr (2, [.ref t1, .ref t2, .int (nI n)])), (t1, .inl (D.2 0, 10, .inl fd)), (t2, .inl (D.2 0, 10, .inl fc))] H := hP
    have hD : va_D A [(x0, .inr (5, [.ref h0, .ref b0, .ref w0, .ref s0, .ref m0, .ref g0, .int (nI cl)])), (m0, .inl (D.2 4, 3, .inr (.inr (.inr (.inr fs))))), (t0, .inr (2, [.ref t1, .ref t2, .int (nI n)])), (t1, .inl (D.2 0, 10, .inl fd)), (t2, .inl (D.2 0, 10, .inl fc))] := hD
    exact z_out hnx hlocks hce hcv hcl (Or.inr (⟨w4.1, c1, fun h => w4.2.elim h.2.2.1 (fun g => g h.2.2.2.1)⟩)) hP hD hS [0, 1, 2, 3, 4] rfl (by decide) (Nat.le_of_ble_eq_true rfl) (Nat.le_of_ble_eq_true rfl)
  have hP : va_P D.1 vwCl [(x0, .inr (5, [.ref h0, .ref b0, .ref w0, .ref s0, .ref m0, .ref g0, .int (nI cl)])), (m0, .inl (D.2 4, 3, .inr (.inr (.inr (.inr fs))))), (t0, .inr (2, [.ref t1, .ref t2, .int (nI n)])), (t1, .inl (D.2 0, 10, .inl fd)), (t2, .inl (D.2 0, 10, .inl fc))] H := hP
  have hD : va_D A [(x0, .inr (5, [.ref h0, .ref b0, .ref w0, .ref s0, .ref m0, .ref g0, .int (nI cl)])), (m0, .inl (D.2 4, 3, .inr (.inr (.inr (.inr fs))))), (t0, .inr (2, [.ref t1, .ref t2, .int (nI n)])), (t1, .inl (D.2 0, 10, .inl fd)), (t2, .inl (D.2 0, 10, .inl fc))] := hD
  refine lv_iload_n hx hb dX5_rate_42 rfl (lv_at hl 2 rfl) ?_
  refine lv_aload_n hx hb dX5_rate_43 rfl (lv_at hl 0 rfl) ?_
  refine va_get (D := D.1) (ci := 5) (v := .ref m0) (C := "ShopLedger") (T := TX5) (N := 7) hx hb hZ inX5 hown hK hP 0 rfl rfl 4 (by decide) (hZ _ t_125) (fun _ h9 => h9) rfl dX5_rate_44 ?_
  refine lv_iload_n hx hb dX5_rate_47 rfl (lv_at hl 1 rfl) ?_
  refine z_aldq (q := t0) hx hb hK hP 1 4 rfl rfl (hj) (by decide) (hf) dX5_rate_48 ?_
  have J := zJ.mk (wc := [(t0, .inr (2, [.ref t1, .ref t2, .int (nI n)])), (t1, .inl (D.2 0, 10, .inl fd))]) (wr := [(x0, .inr (5, [.ref h0, .ref b0, .ref w0, .ref s0, .ref m0, .ref g0, .int (nI cl)])), (m0, .inl (D.2 4, 3, .inr (.inr (.inr (.inr fs))))), (t2, .inl (D.2 0, 10, .inl fc))]) hA hB hK hP hD hS [2, 3] [0, 1, 4] rfl rfl (by decide)
  refine z_goi (z_runV (As := []) (rest := [.int p2]) (b := t0) hF (c_Money_last D t0 t1 t2 n fd fc H.size hn) (cwV 0 hZ (z_gV t_130 t_131 t_132 t_129 t_128) rfl rfl rfl (by decide +kernel) ⟨Nat.le_of_ble_eq_true rfl, Nat.le_of_ble_eq_true rfl⟩) J 0 2 rfl rfl rfl rfl hl.1 (Nat.le_of_ble_eq_true rfl) dX5_rate_49 ⟨Nat.le_of_ble_eq_true rfl, Nat.le_of_ble_eq_true rfl⟩) J (fun r5 _ H locs w5 hP hD hS => ?_)
  have hP : va_P D.1 vwCl [(x0, .inr (5, [.ref h0, .ref b0, .ref w0, .ref s0, .ref m0, .ref g0, .int (nI cl)])), (m0, .inl (D.2 4, 3, .inr (.inr (.inr (.inr fs))))), (t2, .inl (D.2 0, 10, .inl fc)), (t0, .inr (2, [.ref t1, .ref t2, .int (nI n)])), (t1, .inl (D.2 0, 10, .inl fd))] H := hP
  have hD : va_D A [(x0, .inr (5, [.ref h0, .ref b0, .ref w0, .ref s0, .ref m0, .ref g0, .int (nI cl)])), (m0, .inl (D.2 4, 3, .inr (.inr (.inr (.inr fs))))), (t2, .inl (D.2 0, 10, .inl fc)), (t0, .inr (2, [.ref t1, .ref t2, .int (nI n)])), (t1, .inl (D.2 0, 10, .inl fd))] := hD
  subst w5
  refine lv_icmp_gt (tgt := 65) hx hb dX5_rate_52 (by decide) (fun c2 => ?_) (fun c2 => ?_)
  · skip
    refine lv_aload_n hx hb dX5_rate_65 rfl (lv_at hl 0 rfl) ?_
    refine va_get (D := D.1) (ci := 5) (v := .ref m0) (C := "ShopLedger") (T := TX5) (N := 7) hx hb hZ inX5 hown hK hP 0 rfl rfl 4 (by decide) (hZ _ t_125) (fun _ h9 => h9) rfl dX5_rate_66 ?_
    refine lv_iload_n hx hb dX5_rate_69 rfl (lv_at hl 1 rfl) ?_
    refine z_aldq (q := t0) hx hb hK hP 1 4 rfl rfl (hj) (by decide) (hf) dX5_rate_70 ?_
    refine lv_iload_n hx hb dX5_rate_71 rfl (lv_at hl 2 rfl) ?_
    refine lv_iload_n hx hb dX5_rate_72 rfl (lv_at hl 3 rfl) ?_
    have J := zJ.mk (wc := [(t0, .inr (2, [.ref t1, .ref t2, .int (nI n)])), (t1, .inl (D.2 0, 10, .inl fd)), (t2, .inl (D.2 0, 10, .inl fc))]) (wr := [(x0, .inr (5, [.ref h0, .ref b0, .ref w0, .ref s0, .ref m0, .ref g0, .int (nI cl)])), (m0, .inl (D.2 4, 3, .inr (.inr (.inr (.inr fs)))))]) hA hB hK hP hD hS [3, 4, 2] [0, 1] rfl rfl (by decide)
    refine z_goi (z_runV (As := [.int p2, .int p3]) (rest := []) (b := t0) hF (c_Money_add D t0 t1 t2 n fd fc p2 p3 H.size (z_lt (t := 10) hn (by decide) c1)) (cwV 2 hZ (z_gV t_134 t_135 t_136 t_129 t_133) rfl rfl rfl (by decide +kernel) ⟨Nat.le_of_ble_eq_true rfl, Nat.le_of_ble_eq_true rfl⟩) J 0 2 rfl rfl rfl rfl hl.1 (Nat.le_of_ble_eq_true rfl) dX5_rate_73 ⟨Nat.le_of_ble_eq_true rfl, Nat.le_of_ble_eq_true rfl⟩) J (fun r6 _ H locs w6 hP hD hS => ?_)
    have hP : va_P D.1 vwCl [(x0, .inr (5, [.ref h0, .ref b0, .ref w0, .ref s0, .ref m0, .ref g0, .int (nI cl)])), (m0, .inl (D.2 4, 3, .inr (.inr (.inr (.inr fs))))), (t0, .inr (2, [.ref t1, .ref t2, .int (nI (n + 1))])), (t1, .inl (D.2 0, 10, .inl (upd fd n p2))), (t2, .inl (D.2 0, 10, .inl (upd fc n p3)))] H := hP
    have hD : va_D A [(x0, .inr (5, [.ref h0, .ref b0, .ref w0, .ref s0, .ref m0, .ref g0, .int (nI cl)])), (m0, .inl (D.2 4, 3, .inr (.inr (.inr (.inr fs))))), (t0, .inr (2, [.ref t1, .ref t2, .int (nI (n + 1))])), (t1, .inl (D.2 0, 10, .inl (upd fd n p2))), (t2, .inl (D.2 0, 10, .inl (upd fc n p3)))] := hD
    subst w6
    refine vx_ret ?_
    exact z_iret (v := nI (n + 1)) hx hb hr hlocks hP hD hS () (⟨c1, ⟨w3.1, w3.2, w4.1, w4.2, c2⟩, rfl⟩) [0, 1, 2, 3, 4] rfl (by decide) (Nat.le_of_ble_eq_true rfl) (Nat.le_of_ble_eq_true rfl) dX5_rate_76
  exact z_throw (own := "ShopLedger") "java/lang/IllegalArgumentException" "the day does not rise" ["java/lang/RuntimeException", "java/lang/Exception"] hx hb hl9 hnx hlocks hown (by decide +kernel) (by decide +kernel) (hZ _ t_48) (hZ _ t_49) hB (by decide +kernel) (vx_hat (L := vx_atS "ShopLedger" 73 "java/lang/IllegalArgumentException" ["java/lang/RuntimeException", "java/lang/Exception"]) (B := [.castable "java/lang/IllegalArgumentException" "java/lang/IllegalArgumentException", .declares ⟨"java/lang/RuntimeException", "<init>", "(Ljava/lang/String;)V"⟩, .declares ⟨"java/lang/Exception", "<init>", "(Ljava/lang/String;)V"⟩, .declares ⟨"java/lang/Throwable", "<init>", "(Ljava/lang/String;)V"⟩]) (fun w hw => hZ w (t_at2 w hw)) (by decide +kernel) (vx_c (va_Nw.use rfl (hB.2.2.2.1 ("java/lang/IllegalArgumentException", "java/lang/IllegalArgumentException") (by decide +kernel))) (vx_c (va_Nw.use rfl (hB.2.2.2.2.1 ⟨"java/lang/RuntimeException", "<init>", "(Ljava/lang/String;)V"⟩ (by decide +kernel))) (vx_c (va_Nw.use rfl (hB.2.2.2.2.1 ⟨"java/lang/Exception", "<init>", "(Ljava/lang/String;)V"⟩ (by decide +kernel))) (vx_c (va_Nw.use rfl (hB.2.2.2.2.1 ⟨"java/lang/Throwable", "<init>", "(Ljava/lang/String;)V"⟩ (by decide +kernel))) (vx_n)))))) (by decide +kernel) (hl.1.trans hml.symm) dX5_rate_55 dX5_rate_58 dX5_rate_59 dX5_rate_61 dX5_rate_64 (Nat.le_of_ble_eq_true rfl) (Nat.le_of_ble_eq_true rfl) (Nat.le_of_ble_eq_true rfl) (Nat.le_of_ble_eq_true rfl) (Or.inr (⟨rfl, c1, fun h => c2 h.2.2.2.2⟩)) hP hD hS [0, 1, 3, 4, 2] rfl (by decide) (Nat.le_of_ble_eq_true rfl) (Nat.le_of_ble_eq_true rfl)
set_option maxHeartbeats 4000000 in
set_option maxRecDepth 100000 in
/-- rate, of what is not there -/
theorem c_rateX {l : Launch} (hl9 : l.stackTraces = false) (D : zD) (x0 h0 b0 w0 s0 m0 g0 cl : Nat) (p1 p2 p3 : Int32) (sz : Nat) (hp : ¬ zin p1 3) : vx_Met l yX5_rate wsX5_rate ({ frames := 7, cells := 1, slots := 6, locals := 111 }) (va_Pc [.ref x0, .int p1, .int p2, .int p3] (zp D sz [(x0, .inr (5, [.ref h0, .ref b0, .ref w0, .ref s0, .ref m0, .ref g0, .int (nI cl)]))])) (va_Qi (fun r (_ : Unit) => False) (zq D (va_A [(x0, .inr (5, [.ref h0, .ref b0, .ref w0, .ref s0, .ref m0, .ref g0, .int (nI cl)]))] sz) (fun (_ : Unit) => ([(x0, .inr (5, [.ref h0, .ref b0, .ref w0, .ref s0, .ref m0, .ref g0, .int (nI cl)]))] : va_W))) (va_A [(x0, .inr (5, [.ref h0, .ref b0, .ref w0, .ref s0, .ref m0, .ref g0, .int (nI cl)]))] sz)) (vx_X (fun _ : Unit => True) (zx D (va_A [(x0, .inr (5, [.ref h0, .ref b0, .ref w0, .ref s0, .ref m0, .ref g0, .int (nI cl)]))] sz) [(x0, .inr (5, [.ref h0, .ref b0, .ref w0, .ref s0, .ref m0, .ref g0, .int (nI cl)]))] (fun E9 => E9 = "java/lang/IndexOutOfBoundsException")) (va_A [(x0, .inr (5, [.ref h0, .ref b0, .ref w0, .ref s0, .ref m0, .ref g0, .int (nI cl)]))] sz)) 1 6 (va_A [(x0, .inr (5, [.ref h0, .ref b0, .ref w0, .ref s0, .ref m0, .ref g0, .int (nI cl)]))] sz) := by
  refine vx_ofW (cc := cX5_rate) (maxL := 4) (ret := (some .int)) (by decide) rfl ?_
  intro p e s m args below meth c s₁ B hml hnx hv
  obtain ⟨rfl, hsz, hP, hK, hD0, hB⟩ := hv
  have hx := B.exec
  have hb := B.bytes
  have hr := B.returns
  have hts := atoms_spec (ws := wsX5_rate) B.pre
  have hown : s.vm.findClass "ShopLedger" = some m.cls := findClass_of_methodNamed B.named
  have hlocks := B.notSynchronized
  subst hsz
  have hD := hD0.self (sz := s.heap.size)
  generalize hAe : va_A [(x0, .inr (5, [.ref h0, .ref b0, .ref w0, .ref s0, .ref m0, .ref g0, .int (nI cl)]))] s.heap.size = A at hD hB ⊢
  have hA : ∀ q : Nat, s.heap.size ≤ q → A q := fun q h => by rw [← hAe]; exact Or.inr h
  have hS : va_S A s.heap s.heap [] := va_S.rf
  have hZ : ∀ w ∈ zALL, w.before _ s = true := fun w h => hts w (List.mem_cons_of_mem _ h)
  have hF : CallFix p m c cX5_rate 4 s _ zALL "ShopLedger" := ⟨hx, hb, hml, hown, hZ⟩
  have hl := lv_entry ([.ref x0, .int p1, .int p2, .int p3]) (n := 4) (Nat.le_of_ble_eq_true rfl)
  rw [lg_entry_eq]
  generalize (lg_sl ([.ref x0, .int p1, .int p2, .int p3]) ++ List.replicate (4 - (lg_sl ([.ref x0, .int p1, .int p2, .int p3])).length) Slot.unset).toArray = ls at hl ⊢
  have hl : lv_has ls 4 [(0, .ref x0), (1, .int p1), (2, .int p2), (3, .int p3)] := hl
  refine lv_iload_n hx hb dX5_rate_0 rfl (lv_at hl 1 rfl) ?_
  refine lv_iconst (v := 3) hx hb dX5_rate_1 (by decide) ?_
  have J := zJ.mk (wc := []) (wr := [(x0, .inr (5, [.ref h0, .ref b0, .ref w0, .ref s0, .ref m0, .ref g0, .int (nI cl)]))]) hA hB hK hP hD hS [] [0] rfl rfl (by decide)
  refine z_xgov (z_xrunS (As := [.int p1, .int 3]) (rest := []) hF (c_cI hl9 D p1 3 s.heap.size) (va_cwS 2 hZ (z_gS t_56 t_57 t_55 t_54) rfl rfl rfl (by decide +kernel) ⟨Nat.le_of_ble_eq_true rfl, Nat.le_of_ble_eq_true rfl⟩) J rfl hl.1 (Nat.le_of_ble_eq_true rfl) dX5_rate_2 ⟨Nat.le_of_ble_eq_true rfl, Nat.le_of_ble_eq_true rfl⟩) J (fun EX ce q9 H locs w1 hP hD hS hce hcv hcl => ?_) (fun _ H locs w1 hP hD hS => ?_)
  · have hP : va_P D.1 vwCl [(x0, .inr (5, [.ref h0, .ref b0, .ref w0, .ref s0, .ref m0, .ref g0, .int (nI cl)]))] H := hP
    have hD : va_D A [(x0, .inr (5, [.ref h0, .ref b0, .ref w0, .ref s0, .ref m0, .ref g0, .int (nI cl)]))] := hD
    exact z_out hnx hlocks hce hcv hcl (w1.1) hP hD hS [0] rfl (by decide) (Nat.le_of_ble_eq_true rfl) (Nat.le_of_ble_eq_true rfl)
  have hP : va_P D.1 vwCl [(x0, .inr (5, [.ref h0, .ref b0, .ref w0, .ref s0, .ref m0, .ref g0, .int (nI cl)]))] H := hP
  have hD : va_D A [(x0, .inr (5, [.ref h0, .ref b0, .ref w0, .ref s0, .ref m0, .ref g0, .int (nI cl)]))] := hD
  exact absurd w1 hp
set_option maxHeartbeats 4000000 in
set_option maxRecDepth 100000 in
/-- foreign -/
theorem c_foreign {l : Launch} (hl9 : l.stackTraces = false) (D : zD) (x0 h0 b0 w0 s0 g0 cl : Nat) (m0 t0 t1 t2 n : Nat) (fs : Nat → Option Nat) (fd fc : Nat → Int32) (j : Nat) (p2 p3 : Int32) (sz : Nat) (hj : j < 3) (hf : fs j = some t0) (hn : n ≤ 10) : vx_Met l yX5_foreign wsX5_foreign ({ frames := 7, cells := 4, slots := 24, locals := 112 }) (va_Pc [.ref x0, .int (nI j), .int p2, .int p3] (zp D sz [(x0, .inr (5, [.ref h0, .ref b0, .ref w0, .ref s0, .ref m0, .ref g0, .int (nI cl)])), (m0, .inl (D.2 4, 3, .inr (.inr (.inr (.inr fs))))), (t0, .inr (2, [.ref t1, .ref t2, .int (nI n)])), (t1, .inl (D.2 0, 10, .inl fd)), (t2, .inl (D.2 0, 10, .inl fc))])) (va_Ql (fun r (_ : Unit) => (¬ p2 < 0 ∧ p2 ≤ 365 ∧ ¬ p3 < 0 ∧ p3 ≤ 1000000000) ∧ (¬ (zs_rate fd fc p2 n).toInt64 = 0) ∧ r = (p3.toInt64 * (zs_rate fd fc p2 n).toInt64 + 5000) / 10000) (zq D (va_A [(x0, .inr (5, [.ref h0, .ref b0, .ref w0, .ref s0, .ref m0, .ref g0, .int (nI cl)])), (m0, .inl (D.2 4, 3, .inr (.inr (.inr (.inr fs))))), (t0, .inr (2, [.ref t1, .ref t2, .int (nI n)])), (t1, .inl (D.2 0, 10, .inl fd)), (t2, .inl (D.2 0, 10, .inl fc))] sz) (fun (_ : Unit) => ([(x0, .inr (5, [.ref h0, .ref b0, .ref w0, .ref s0, .ref m0, .ref g0, .int (nI cl)])), (m0, .inl (D.2 4, 3, .inr (.inr (.inr (.inr fs))))), (t0, .inr (2, [.ref t1, .ref t2, .int (nI n)])), (t1, .inl (D.2 0, 10, .inl fd)), (t2, .inl (D.2 0, 10, .inl fc))] : va_W))) (va_A [(x0, .inr (5, [.ref h0, .ref b0, .ref w0, .ref s0, .ref m0, .ref g0, .int (nI cl)])), (m0, .inl (D.2 4, 3, .inr (.inr (.inr (.inr fs))))), (t0, .inr (2, [.ref t1, .ref t2, .int (nI n)])), (t1, .inl (D.2 0, 10, .inl fd)), (t2, .inl (D.2 0, 10, .inl fc))] sz)) (vx_X (fun _ : Unit => True) (zx D (va_A [(x0, .inr (5, [.ref h0, .ref b0, .ref w0, .ref s0, .ref m0, .ref g0, .int (nI cl)])), (m0, .inl (D.2 4, 3, .inr (.inr (.inr (.inr fs))))), (t0, .inr (2, [.ref t1, .ref t2, .int (nI n)])), (t1, .inl (D.2 0, 10, .inl fd)), (t2, .inl (D.2 0, 10, .inl fc))] sz) [(x0, .inr (5, [.ref h0, .ref b0, .ref w0, .ref s0, .ref m0, .ref g0, .int (nI cl)])), (m0, .inl (D.2 4, 3, .inr (.inr (.inr (.inr fs))))), (t0, .inr (2, [.ref t1, .ref t2, .int (nI n)])), (t1, .inl (D.2 0, 10, .inl fd)), (t2, .inl (D.2 0, 10, .inl fc))] (fun E => (E = "java/lang/IllegalArgumentException" ∧ ¬ (¬ p2 < 0 ∧ p2 ≤ 365 ∧ ¬ p3 < 0 ∧ p3 ≤ 1000000000)) ∨ (E = "java/lang/UnsupportedOperationException" ∧ (¬ p2 < 0 ∧ p2 ≤ 365 ∧ ¬ p3 < 0 ∧ p3 ≤ 1000000000) ∧ ¬ (¬ (zs_rate fd fc p2 n).toInt64 = 0)))) (va_A [(x0, .inr (5, [.ref h0, .ref b0, .ref w0, .ref s0, .ref m0, .ref g0, .int (nI cl)])), (m0, .inl (D.2 4, 3, .inr (.inr (.inr (.inr fs))))), (t0, .inr (2, [.ref t1, .ref t2, .int (nI n)])), (t1, .inl (D.2 0, 10, .inl fd)), (t2, .inl (D.2 0, 10, .inl fc))] sz)) 4 24 (va_A [(x0, .inr (5, [.ref h0, .ref b0, .ref w0, .ref s0, .ref m0, .ref g0, .int (nI cl)])), (m0, .inl (D.2 4, 3, .inr (.inr (.inr (.inr fs))))), (t0, .inr (2, [.ref t1, .ref t2, .int (nI n)])), (t1, .inl (D.2 0, 10, .inl fd)), (t2, .inl (D.2 0, 10, .inl fc))] sz) := by
  refine vx_ofW (cc := cX5_foreign) (maxL := 6) (ret := (some .long)) (by decide) rfl ?_
  intro p e s m args below meth c s₁ B hml hnx hv
  obtain ⟨rfl, hsz, hP, hK, hD0, hB⟩ := hv
  have hx := B.exec
  have hb := B.bytes
  have hr := B.returns
  have hts := atoms_spec (ws := wsX5_foreign) B.pre
  have hown : s.vm.findClass "ShopLedger" = some m.cls := findClass_of_methodNamed B.named
  have hlocks := B.notSynchronized
  subst hsz
  have hD := hD0.self (sz := s.heap.size)
  generalize hAe : va_A [(x0, .inr (5, [.ref h0, .ref b0, .ref w0, .ref s0, .ref m0, .ref g0, .int (nI cl)])), (m0, .inl (D.2 4, 3, .inr (.inr (.inr (.inr fs))))), (t0, .inr (2, [.ref t1, .ref t2, .int (nI n)])), (t1, .inl (D.2 0, 10, .inl fd)), (t2, .inl (D.2 0, 10, .inl fc))] s.heap.size = A at hD hB ⊢
  have hA : ∀ q : Nat, s.heap.size ≤ q → A q := fun q h => by rw [← hAe]; exact Or.inr h
  have hS : va_S A s.heap s.heap [] := va_S.rf
  have hZ : ∀ w ∈ zALL, w.before _ s = true := fun w h => hts w (List.mem_cons_of_mem _ h)
  have hF : CallFix p m c cX5_foreign 6 s _ zALL "ShopLedger" := ⟨hx, hb, hml, hown, hZ⟩
  have hl := lv_entry ([.ref x0, .int (nI j), .int p2, .int p3]) (n := 6) (Nat.le_of_ble_eq_true rfl)
  rw [lg_entry_eq]
  generalize (lg_sl ([.ref x0, .int (nI j), .int p2, .int p3]) ++ List.replicate (6 - (lg_sl ([.ref x0, .int (nI j), .int p2, .int p3])).length) Slot.unset).toArray = ls at hl ⊢
  have hl : lv_has ls 6 [(0, .ref x0), (1, .int (nI j)), (2, .int p2), (3, .int p3)] := hl
  refine lv_iload_n hx hb dX5_foreign_0 rfl (lv_at hl 1 rfl) ?_
  refine lv_iconst (v := 3) hx hb dX5_foreign_1 (by decide) ?_
  have J := zJ.mk (wc := []) (wr := [(x0, .inr (5, [.ref h0, .ref b0, .ref w0, .ref s0, .ref m0, .ref g0, .int (nI cl)])), (m0, .inl (D.2 4, 3, .inr (.inr (.inr (.inr fs))))), (t0, .inr (2, [.ref t1, .ref t2, .int (nI n)])), (t1, .inl (D.2 0, 10, .inl fd)), (t2, .inl (D.2 0, 10, .inl fc))]) hA hB hK hP hD hS [] [0, 1, 2, 3, 4] rfl rfl (by decide)
  refine z_xgov (z_xrunS (As := [.int (nI j), .int 3]) (rest := []) hF (c_cI hl9 D (nI j) 3 s.heap.size) (va_cwS 2 hZ (z_gS t_56 t_57 t_55 t_54) rfl rfl rfl (by decide +kernel) ⟨Nat.le_of_ble_eq_true rfl, Nat.le_of_ble_eq_true rfl⟩) J rfl hl.1 (Nat.le_of_ble_eq_true rfl) dX5_foreign_2 ⟨Nat.le_of_ble_eq_true rfl, Nat.le_of_ble_eq_true rfl⟩) J (fun EX ce q9 H locs w1 hP hD hS hce hcv hcl => ?_) (fun _ H locs w1 hP hD hS => ?_)
  · have hP : va_P D.1 vwCl [(x0, .inr (5, [.ref h0, .ref b0, .ref w0, .ref s0, .ref m0, .ref g0, .int (nI cl)])), (m0, .inl (D.2 4, 3, .inr (.inr (.inr (.inr fs))))), (t0, .inr (2, [.ref t1, .ref t2, .int (nI n)])), (t1, .inl (D.2 0, 10, .inl fd)), (t2, .inl (D.2 0, 10, .inl fc))] H := hP
    have hD : va_D A [(x0, .inr (5, [.ref h0, .ref b0, .ref w0, .ref s0, .ref m0, .ref g0, .int (nI cl)])), (m0, .inl (D.2 4, 3, .inr (.inr (.inr (.inr fs))))), (t0, .inr (2, [.ref t1, .ref t2, .int (nI n)])), (t1, .inl (D.2 0, 10, .inl fd)), (t2, .inl (D.2 0, 10, .inl fc))] := hD
    exact z_out hnx hlocks hce hcv hcl ((z_no hj (by decide) w1.2).elim) hP hD hS [0, 1, 2, 3, 4] rfl (by decide) (Nat.le_of_ble_eq_true rfl) (Nat.le_of_ble_eq_true rfl)
  have hP : va_P D.1 vwCl [(x0, .inr (5, [.ref h0, .ref b0, .ref w0, .ref s0, .ref m0, .ref g0, .int (nI cl)])), (m0, .inl (D.2 4, 3, .inr (.inr (.inr (.inr fs))))), (t0, .inr (2, [.ref t1, .ref t2, .int (nI n)])), (t1, .inl (D.2 0, 10, .inl fd)), (t2, .inl (D.2 0, 10, .inl fc))] H := hP
  have hD : va_D A [(x0, .inr (5, [.ref h0, .ref b0, .ref w0, .ref s0, .ref m0, .ref g0, .int (nI cl)])), (m0, .inl (D.2 4, 3, .inr (.inr (.inr (.inr fs))))), (t0, .inr (2, [.ref t1, .ref t2, .int (nI n)])), (t1, .inl (D.2 0, 10, .inl fd)), (t2, .inl (D.2 0, 10, .inl fc))] := hD
  refine lv_iload_n hx hb dX5_foreign_5 rfl (lv_at hl 2 rfl) ?_
  refine lv_iconst (v := 0) hx hb dX5_foreign_6 (by decide) ?_
  refine lv_sipush (v := 365) hx hb dX5_foreign_7 (by decide) ?_
  have J := zJ.mk (wc := []) (wr := [(x0, .inr (5, [.ref h0, .ref b0, .ref w0, .ref s0, .ref m0, .ref g0, .int (nI cl)])), (m0, .inl (D.2 4, 3, .inr (.inr (.inr (.inr fs))))), (t0, .inr (2, [.ref t1, .ref t2, .int (nI n)])), (t1, .inl (D.2 0, 10, .inl fd)), (t2, .inl (D.2 0, 10, .inl fc))]) hA hB hK hP hD hS [] [0, 1, 2, 3, 4] rfl rfl (by decide)
  refine z_xgov (z_xrunS (As := [.int p2, .int 0, .int 365]) (rest := []) hF (c_cR hl9 D p2 0 365 H.size) (va_cwS 3 hZ (z_gS t_66 t_67 t_55 t_65) rfl rfl rfl (by decide +kernel) ⟨Nat.le_of_ble_eq_true rfl, Nat.le_of_ble_eq_true rfl⟩) J rfl hl.1 (Nat.le_of_ble_eq_true rfl) dX5_foreign_10 ⟨Nat.le_of_ble_eq_true rfl, Nat.le_of_ble_eq_true rfl⟩) J (fun EX ce q9 H locs w2 hP hD hS hce hcv hcl => ?_) (fun _ H locs w2 hP hD hS => ?_)
  · have hP : va_P D.1 vwCl [(x0, .inr (5, [.ref h0, .ref b0, .ref w0, .ref s0, .ref m0, .ref g0, .int (nI cl)])), (m0, .inl (D.2 4, 3, .inr (.inr (.inr (.inr fs))))), (t0, .inr (2, [.ref t1, .ref t2, .int (nI n)])), (t1, .inl (D.2 0, 10, .inl fd)), (t2, .inl (D.2 0, 10, .inl fc))] H := hP
    have hD : va_D A [(x0, .inr (5, [.ref h0, .ref b0, .ref w0, .ref s0, .ref m0, .ref g0, .int (nI cl)])), (m0, .inl (D.2 4, 3, .inr (.inr (.inr (.inr fs))))), (t0, .inr (2, [.ref t1, .ref t2, .int (nI n)])), (t1, .inl (D.2 0, 10, .inl fd)), (t2, .inl (D.2 0, 10, .inl fc))] := hD
    exact z_out hnx hlocks hce hcv hcl (Or.inl ⟨w2.1, fun h => w2.2.elim h.1 (fun g => g h.2.1)⟩) hP hD hS [0, 1, 2, 3, 4] rfl (by decide) (Nat.le_of_ble_eq_true rfl) (Nat.le_of_ble_eq_true rfl)
  have hP : va_P D.1 vwCl [(x0, .inr (5, [.ref h0, .ref b0, .ref w0, .ref s0, .ref m0, .ref g0, .int (nI cl)])), (m0, .inl (D.2 4, 3, .inr (.inr (.inr (.inr fs))))), (t0, .inr (2, [.ref t1, .ref t2, .int (nI n)])), (t1, .inl (D.2 0, 10, .inl fd)), (t2, .inl (D.2 0, 10, .inl fc))] H := hP
  have hD : va_D A [(x0, .inr (5, [.ref h0, .ref b0, .ref w0, .ref s0, .ref m0, .ref g0, .int (nI cl)])), (m0, .inl (D.2 4, 3, .inr (.inr (.inr (.inr fs))))), (t0, .inr (2, [.ref t1, .ref t2, .int (nI n)])), (t1, .inl (D.2 0, 10, .inl fd)), (t2, .inl (D.2 0, 10, .inl fc))] := hD
  refine lv_iload_n hx hb dX5_foreign_13 rfl (lv_at hl 3 rfl) ?_
  refine lv_iconst (v := 0) hx hb dX5_foreign_14 (by decide) ?_
  refine lv_ldc (v := 1000000000) hx hb hown (hZ _ t_64) dX5_foreign_15 ?_
  have J := zJ.mk (wc := []) (wr := [(x0, .inr (5, [.ref h0, .ref b0, .ref w0, .ref s0, .ref m0, .ref g0, .int (nI cl)])), (m0, .inl (D.2 4, 3, .inr (.inr (.inr (.inr fs))))), (t0, .inr (2, [.ref t1, .ref t2, .int (nI n)])), (t1, .inl (D.2 0, 10, .inl fd)), (t2, .inl (D.2 0, 10, .inl fc))]) hA hB hK hP hD hS [] [0, 1, 2, 3, 4] rfl rfl (by decide)
  refine z_xgov (z_xrunS (As := [.int p3, .int 0, .int 1000000000]) (rest := []) hF (c_cR hl9 D p3 0 1000000000 H.size) (va_cwS 3 hZ (z_gS t_66 t_67 t_55 t_65) rfl rfl rfl (by decide +kernel) ⟨Nat.le_of_ble_eq_true rfl, Nat.le_of_ble_eq_true rfl⟩) J rfl hl.1 (Nat.le_of_ble_eq_true rfl) dX5_foreign_17 ⟨Nat.le_of_ble_eq_true rfl, Nat.le_of_ble_eq_true rfl⟩) J (fun EX ce q9 H locs w3 hP hD hS hce hcv hcl => ?_) (fun _ H locs w3 hP hD hS => ?_)
  · have hP : va_P D.1 vwCl [(x0, .inr (5, [.ref h0, .ref b0, .ref w0, .ref s0, .ref m0, .ref g0, .int (nI cl)])), (m0, .inl (D.2 4, 3, .inr (.inr (.inr (.inr fs))))), (t0, .inr (2, [.ref t1, .ref t2, .int (nI n)])), (t1, .inl (D.2 0, 10, .inl fd)), (t2, .inl (D.2 0, 10, .inl fc))] H := hP
    have hD : va_D A [(x0, .inr (5, [.ref h0, .ref b0, .ref w0, .ref s0, .ref m0, .ref g0, .int (nI cl)])), (m0, .inl (D.2 4, 3, .inr (.inr (.inr (.inr fs))))), (t0, .inr (2, [.ref t1, .ref t2, .int (nI n)])), (t1, .inl (D.2 0, 10, .inl fd)), (t2, .inl (D.2 0, 10, .inl fc))] := hD
    exact z_out hnx hlocks hce hcv hcl (Or.inl ⟨w3.1, fun h => w3.2.elim h.2.2.1 (fun g => g h.2.2.2)⟩) hP hD hS [0, 1, 2, 3, 4] rfl (by decide) (Nat.le_of_ble_eq_true rfl) (Nat.le_of_ble_eq_true rfl)
  have hP : va_P D.1 vwCl [(x0, .inr (5, [.ref h0, .ref b0, .ref w0, .ref s0, .ref m0, .ref g0, .int (nI cl)])), (m0, .inl (D.2 4, 3, .inr (.inr (.inr (.inr fs))))), (t0, .inr (2, [.ref t1, .ref t2, .int (nI n)])), (t1, .inl (D.2 0, 10, .inl fd)), (t2, .inl (D.2 0, 10, .inl fc))] H := hP
  have hD : va_D A [(x0, .inr (5, [.ref h0, .ref b0, .ref w0, .ref s0, .ref m0, .ref g0, .int (nI cl)])), (m0, .inl (D.2 4, 3, .inr (.inr (.inr (.inr fs))))), (t0, .inr (2, [.ref t1, .ref t2, .int (nI n)])), (t1, .inl (D.2 0, 10, .inl fd)), (t2, .inl (D.2 0, 10, .inl fc))] := hD
  refine lv_aload_n hx hb dX5_foreign_20 rfl (lv_at hl 0 rfl) ?_
  refine va_get (D := D.1) (ci := 5) (v := .ref m0) (C := "ShopLedger") (T := TX5) (N := 7) hx hb hZ inX5 hown hK hP 0 rfl rfl 4 (by decide) (hZ _ t_125) (fun _ h9 => h9) rfl dX5_foreign_21 ?_
  refine lv_iload_n hx hb dX5_foreign_24 rfl (lv_at hl 1 rfl) ?_
  refine z_aldq (q := t0) hx hb hK hP 1 4 rfl rfl (hj) (by decide) (hf) dX5_foreign_25 ?_
  refine lv_iload_n hx hb dX5_foreign_26 rfl (lv_at hl 2 rfl) ?_
  have J := zJ.mk (wc := [(t0, .inr (2, [.ref t1, .ref t2, .int (nI n)])), (t1, .inl (D.2 0, 10, .inl fd)), (t2, .inl (D.2 0, 10, .inl fc))]) (wr := [(x0, .inr (5, [.ref h0, .ref b0, .ref w0, .ref s0, .ref m0, .ref g0, .int (nI cl)])), (m0, .inl (D.2 4, 3, .inr (.inr (.inr (.inr fs)))))]) hA hB hK hP hD hS [2, 3, 4] [0, 1] rfl rfl (by decide)
  refine z_goi (z_runV (As := [.int p2]) (rest := []) (b := t0) hF (c_Money_rate D t0 t1 t2 n fd fc p2 H.size hn) (cwV 1 hZ (z_gV t_138 t_139 t_140 t_129 t_137) rfl rfl rfl (by decide +kernel) ⟨Nat.le_of_ble_eq_true rfl, Nat.le_of_ble_eq_true rfl⟩) J 0 2 rfl rfl rfl rfl hl.1 (Nat.le_of_ble_eq_true rfl) dX5_foreign_27 ⟨Nat.le_of_ble_eq_true rfl, Nat.le_of_ble_eq_true rfl⟩) J (fun r4 _ H locs w4 hP hD hS => ?_)
  have hP : va_P D.1 vwCl [(x0, .inr (5, [.ref h0, .ref b0, .ref w0, .ref s0, .ref m0, .ref g0, .int (nI cl)])), (m0, .inl (D.2 4, 3, .inr (.inr (.inr (.inr fs))))), (t0, .inr (2, [.ref t1, .ref t2, .int (nI n)])), (t1, .inl (D.2 0, 10, .inl fd)), (t2, .inl (D.2 0, 10, .inl fc))] H := hP
  have hD : va_D A [(x0, .inr (5, [.ref h0, .ref b0, .ref w0, .ref s0, .ref m0, .ref g0, .int (nI cl)])), (m0, .inl (D.2 4, 3, .inr (.inr (.inr (.inr fs))))), (t0, .inr (2, [.ref t1, .ref t2, .int (nI n)])), (t1, .inl (D.2 0, 10, .inl fd)), (t2, .inl (D.2 0, 10, .inl fc))] := hD
  subst w4
  refine lv_i2l (v := (zs_rate fd fc p2 n).toInt64) hx hb dX5_foreign_30 rfl ?_
  refine lv_lstore (lv' := [(4, .long ((zs_rate fd fc p2 n).toInt64)), (0, .ref x0), (1, .int (nI j)), (2, .int p2), (3, .int p3)]) hx hb dX5_foreign_31 hl (by decide) rfl (fun ls hl => ?_)
  refine lv_lload hx hb dX5_foreign_33 (lv_at hl 0 rfl) ?_
  refine lv_lconst (v := 0) hx hb dX5_foreign_35 (by decide) ?_
  refine W.lcmp hx hb dX5_foreign_36 ?_
  refine lv_if_ne (tgt := 50) hx hb dX5_foreign_37 (by decide) (fun c1 => ?_) (fun c1 => ?_)
  · skip
    have e3 : ¬ (zs_rate fd fc p2 n).toInt64 = 0 := fun h => c1 ((lg_cmp_eq _ _).mpr h)
    refine lv_iload_n hx hb dX5_foreign_50 rfl (lv_at hl 4 rfl) ?_
    refine lv_i2l (v := p3.toInt64) hx hb dX5_foreign_51 rfl ?_
    refine lv_lload hx hb dX5_foreign_52 (lv_at hl 0 rfl) ?_
    refine lv_lmul hx hb dX5_foreign_54 ?_
    refine lv_ldc2 (v := 5000) hx hb hown (hZ _ t_141) dX5_foreign_55 ?_
    refine lv_ladd hx hb dX5_foreign_58 ?_
    refine lv_ldc2 (v := 10000) hx hb hown (hZ _ t_142) dX5_foreign_59 ?_
    refine lv_ldiv hx hb dX5_foreign_62 (by decide) ?_
    refine vx_ret ?_
    exact z_lret (v := ((p3.toInt64 * ((zs_rate fd fc p2 n).toInt64)) + 5000) / 10000) hx hb hr hlocks hP hD hS () (⟨⟨w2.1, w2.2, w3.1, w3.2⟩, e3, rfl⟩) [0, 1, 2, 3, 4] rfl (by decide) (Nat.le_of_ble_eq_true rfl) (Nat.le_of_ble_eq_true rfl) dX5_foreign_63
  have e3 : (zs_rate fd fc p2 n).toInt64 = 0 := (lg_cmp_eq _ _).mp c1
  exact z_throw (own := "ShopLedger") "java/lang/UnsupportedOperationException" "no rate yet on that day" ["java/lang/RuntimeException", "java/lang/Exception"] hx hb hl9 hnx hlocks hown (by decide +kernel) (by decide +kernel) (hZ _ t_52) (hZ _ t_53) hB (by decide +kernel) (vx_hat (L := vx_atS "ShopLedger" 92 "java/lang/UnsupportedOperationException" ["java/lang/RuntimeException", "java/lang/Exception"]) (B := [.castable "java/lang/UnsupportedOperationException" "java/lang/UnsupportedOperationException", .declares ⟨"java/lang/RuntimeException", "<init>", "(Ljava/lang/String;)V"⟩, .declares ⟨"java/lang/Exception", "<init>", "(Ljava/lang/String;)V"⟩, .declares ⟨"java/lang/Throwable", "<init>", "(Ljava/lang/String;)V"⟩]) (fun w hw => hZ w (t_at3 w hw)) (by decide +kernel) (vx_c (va_Nw.use rfl (hB.2.2.2.1 ("java/lang/UnsupportedOperationException", "java/lang/UnsupportedOperationException") (by decide +kernel))) (vx_c (va_Nw.use rfl (hB.2.2.2.2.1 ⟨"java/lang/RuntimeException", "<init>", "(Ljava/lang/String;)V"⟩ (by decide +kernel))) (vx_c (va_Nw.use rfl (hB.2.2.2.2.1 ⟨"java/lang/Exception", "<init>", "(Ljava/lang/String;)V"⟩ (by decide +kernel))) (vx_c (va_Nw.use rfl (hB.2.2.2.2.1 ⟨"java/lang/Throwable", "<init>", "(Ljava/lang/String;)V"⟩ (by decide +kernel))) (vx_n)))))) (by decide +kernel) (hl.1.trans hml.symm) dX5_foreign_40 dX5_foreign_43 dX5_foreign_44 dX5_foreign_46 dX5_foreign_49 (Nat.le_of_ble_eq_true rfl) (Nat.le_of_ble_eq_true rfl) (Nat.le_of_ble_eq_true rfl) (Nat.le_of_ble_eq_true rfl) (Or.inr (⟨rfl, ⟨w2.1, w2.2, w3.1, w3.2⟩, fun h => h e3⟩)) hP hD hS [0, 1, 2, 3, 4] rfl (by decide) (Nat.le_of_ble_eq_true rfl) (Nat.le_of_ble_eq_true rfl)
set_option maxHeartbeats 4000000 in
set_option maxRecDepth 100000 in
/-- foreign, of what is not there -/
theorem c_foreignX {l : Launch} (hl9 : l.stackTraces = false) (D : zD) (x0 h0 b0 w0 s0 m0 g0 cl : Nat) (p1 p2 p3 : Int32) (sz : Nat) (hp : ¬ zin p1 3) : vx_Met l yX5_foreign wsX5_foreign ({ frames := 7, cells := 1, slots := 6, locals := 111 }) (va_Pc [.ref x0, .int p1, .int p2, .int p3] (zp D sz [(x0, .inr (5, [.ref h0, .ref b0, .ref w0, .ref s0, .ref m0, .ref g0, .int (nI cl)]))])) (va_Ql (fun r (_ : Unit) => False) (zq D (va_A [(x0, .inr (5, [.ref h0, .ref b0, .ref w0, .ref s0, .ref m0, .ref g0, .int (nI cl)]))] sz) (fun (_ : Unit) => ([(x0, .inr (5, [.ref h0, .ref b0, .ref w0, .ref s0, .ref m0, .ref g0, .int (nI cl)]))] : va_W))) (va_A [(x0, .inr (5, [.ref h0, .ref b0, .ref w0, .ref s0, .ref m0, .ref g0, .int (nI cl)]))] sz)) (vx_X (fun _ : Unit => True) (zx D (va_A [(x0, .inr (5, [.ref h0, .ref b0, .ref w0, .ref s0, .ref m0, .ref g0, .int (nI cl)]))] sz) [(x0, .inr (5, [.ref h0, .ref b0, .ref w0, .ref s0, .ref m0, .ref g0, .int (nI cl)]))] (fun E9 => E9 = "java/lang/IndexOutOfBoundsException")) (va_A [(x0, .inr (5, [.ref h0, .ref b0, .ref w0, .ref s0, .ref m0, .ref g0, .int (nI cl)]))] sz)) 1 6 (va_A [(x0, .inr (5, [.ref h0, .ref b0, .ref w0, .ref s0, .ref m0, .ref g0, .int (nI cl)]))] sz) := by
  refine vx_ofW (cc := cX5_foreign) (maxL := 6) (ret := (some .long)) (by decide) rfl ?_
  intro p e s m args below meth c s₁ B hml hnx hv
  obtain ⟨rfl, hsz, hP, hK, hD0, hB⟩ := hv
  have hx := B.exec
  have hb := B.bytes
  have hr := B.returns
  have hts := atoms_spec (ws := wsX5_foreign) B.pre
  have hown : s.vm.findClass "ShopLedger" = some m.cls := findClass_of_methodNamed B.named
  have hlocks := B.notSynchronized
  subst hsz
  have hD := hD0.self (sz := s.heap.size)
  generalize hAe : va_A [(x0, .inr (5, [.ref h0, .ref b0, .ref w0, .ref s0, .ref m0, .ref g0, .int (nI cl)]))] s.heap.size = A at hD hB ⊢
  have hA : ∀ q : Nat, s.heap.size ≤ q → A q := fun q h => by rw [← hAe]; exact Or.inr h
  have hS : va_S A s.heap s.heap [] := va_S.rf
  have hZ : ∀ w ∈ zALL, w.before _ s = true := fun w h => hts w (List.mem_cons_of_mem _ h)
  have hF : CallFix p m c cX5_foreign 6 s _ zALL "ShopLedger" := ⟨hx, hb, hml, hown, hZ⟩
  have hl := lv_entry ([.ref x0, .int p1, .int p2, .int p3]) (n := 6) (Nat.le_of_ble_eq_true rfl)
  rw [lg_entry_eq]
  generalize (lg_sl ([.ref x0, .int p1, .int p2, .int p3]) ++ List.replicate (6 - (lg_sl ([.ref x0, .int p1, .int p2, .int p3])).length) Slot.unset).toArray = ls at hl ⊢
  have hl : lv_has ls 6 [(0, .ref x0), (1, .int p1), (2, .int p2), (3, .int p3)] := hl
  refine lv_iload_n hx hb dX5_foreign_0 rfl (lv_at hl 1 rfl) ?_
  refine lv_iconst (v := 3) hx hb dX5_foreign_1 (by decide) ?_
  have J := zJ.mk (wc := []) (wr := [(x0, .inr (5, [.ref h0, .ref b0, .ref w0, .ref s0, .ref m0, .ref g0, .int (nI cl)]))]) hA hB hK hP hD hS [] [0] rfl rfl (by decide)
  refine z_xgov (z_xrunS (As := [.int p1, .int 3]) (rest := []) hF (c_cI hl9 D p1 3 s.heap.size) (va_cwS 2 hZ (z_gS t_56 t_57 t_55 t_54) rfl rfl rfl (by decide +kernel) ⟨Nat.le_of_ble_eq_true rfl, Nat.le_of_ble_eq_true rfl⟩) J rfl hl.1 (Nat.le_of_ble_eq_true rfl) dX5_foreign_2 ⟨Nat.le_of_ble_eq_true rfl, Nat.le_of_ble_eq_true rfl⟩) J (fun EX ce q9 H locs w1 hP hD hS hce hcv hcl => ?_) (fun _ H locs w1 hP hD hS => ?_)
  · have hP : va_P D.1 vwCl [(x0, .inr (5, [.ref h0, .ref b0, .ref w0, .ref s0, .ref m0, .ref g0, .int (nI cl)]))] H := hP
    have hD : va_D A [(x0, .inr (5, [.ref h0, .ref b0, .ref w0, .ref s0, .ref m0, .ref g0, .int (nI cl)]))] := hD
    exact z_out hnx hlocks hce hcv hcl (w1.1) hP hD hS [0] rfl (by decide) (Nat.le_of_ble_eq_true rfl) (Nat.le_of_ble_eq_true rfl)
  have hP : va_P D.1 vwCl [(x0, .inr (5, [.ref h0, .ref b0, .ref w0, .ref s0, .ref m0, .ref g0, .int (nI cl)]))] H := hP
  have hD : va_D A [(x0, .inr (5, [.ref h0, .ref b0, .ref w0, .ref s0, .ref m0, .ref g0, .int (nI cl)]))] := hD
  exact absurd w1 hp
set_option maxHeartbeats 4000000 in
set_option maxRecDepth 100000 in
/-- piece -/
theorem c_piece {l : Launch} (hl9 : l.stackTraces = false) (D : zD) (x0 h0 b0 w0 s0 m0 cl : Nat) (g0 g1 g2 n : Nat) (fo fw : Nat → Int32) (p1 p2 : Int32) (sz : Nat) (hn : n ≤ 10) : vx_Met l yX5_piece wsX5_piece ({ frames := 7, cells := 3, slots := 18, locals := 112 }) (va_Pc [.ref x0, .int p1, .int p2] (zp D sz [(x0, .inr (5, [.ref h0, .ref b0, .ref w0, .ref s0, .ref m0, .ref g0, .int (nI cl)])), (g0, .inr (3, [.ref g1, .ref g2, .int (nI n)])), (g1, .inl (D.2 0, 10, .inl fo)), (g2, .inl (D.2 0, 10, .inl fw))])) (va_Qi (fun r (_ : Unit) => (zin p1 8) ∧ (¬ 10 ≤ nI n) ∧ (¬ p2 < 1 ∧ p2 ≤ 1000000) ∧ r = nI n) (zq D (va_A [(x0, .inr (5, [.ref h0, .ref b0, .ref w0, .ref s0, .ref m0, .ref g0, .int (nI cl)])), (g0, .inr (3, [.ref g1, .ref g2, .int (nI n)])), (g1, .inl (D.2 0, 10, .inl fo)), (g2, .inl (D.2 0, 10, .inl fw))] sz) (fun (_ : Unit) => ([(x0, .inr (5, [.ref h0, .ref b0, .ref w0, .ref s0, .ref m0, .ref g0, .int (nI cl)])), (g0, .inr (3, [.ref g1, .ref g2, .int (nI (n + 1))])), (g1, .inl (D.2 0, 10, .inl (upd fo n p1))), (g2, .inl (D.2 0, 10, .inl (upd fw n p2)))] : va_W))) (va_A [(x0, .inr (5, [.ref h0, .ref b0, .ref w0, .ref s0, .ref m0, .ref g0, .int (nI cl)])), (g0, .inr (3, [.ref g1, .ref g2, .int (nI n)])), (g1, .inl (D.2 0, 10, .inl fo)), (g2, .inl (D.2 0, 10, .inl fw))] sz)) (vx_X (fun _ : Unit => True) (zx D (va_A [(x0, .inr (5, [.ref h0, .ref b0, .ref w0, .ref s0, .ref m0, .ref g0, .int (nI cl)])), (g0, .inr (3, [.ref g1, .ref g2, .int (nI n)])), (g1, .inl (D.2 0, 10, .inl fo)), (g2, .inl (D.2 0, 10, .inl fw))] sz) [(x0, .inr (5, [.ref h0, .ref b0, .ref w0, .ref s0, .ref m0, .ref g0, .int (nI cl)])), (g0, .inr (3, [.ref g1, .ref g2, .int (nI n)])), (g1, .inl (D.2 0, 10, .inl fo)), (g2, .inl (D.2 0, 10, .inl fw))] (fun E => (E = "java/lang/IndexOutOfBoundsException" ∧ ¬ (zin p1 8)) ∨ (E = "java/lang/IllegalStateException" ∧ (zin p1 8) ∧ ¬ (¬ 10 ≤ nI n)) ∨ (E = "java/lang/IllegalArgumentException" ∧ (zin p1 8) ∧ (¬ 10 ≤ nI n) ∧ ¬ (¬ p2 < 1 ∧ p2 ≤ 1000000)))) (va_A [(x0, .inr (5, [.ref h0, .ref b0, .ref w0, .ref s0, .ref m0, .ref g0, .int (nI cl)])), (g0, .inr (3, [.ref g1, .ref g2, .int (nI n)])), (g1, .inl (D.2 0, 10, .inl fo)), (g2, .inl (D.2 0, 10, .inl fw))] sz)) 3 18 (va_A [(x0, .inr (5, [.ref h0, .ref b0, .ref w0, .ref s0, .ref m0, .ref g0, .int (nI cl)])), (g0, .inr (3, [.ref g1, .ref g2, .int (nI n)])), (g1, .inl (D.2 0, 10, .inl fo)), (g2, .inl (D.2 0, 10, .inl fw))] sz) := by
  refine vx_ofW (cc := cX5_piece) (maxL := 3) (ret := (some .int)) (by decide) rfl ?_
  intro p e s m args below meth c s₁ B hml hnx hv
  obtain ⟨rfl, hsz, hP, hK, hD0, hB⟩ := hv
  have hx := B.exec
  have hb := B.bytes
  have hr := B.returns
  have hts := atoms_spec (ws := wsX5_piece) B.pre
  have hown : s.vm.findClass "ShopLedger" = some m.cls := findClass_of_methodNamed B.named
  have hlocks := B.notSynchronized
  subst hsz
  have hD := hD0.self (sz := s.heap.size)
  generalize hAe : va_A [(x0, .inr (5, [.ref h0, .ref b0, .ref w0, .ref s0, .ref m0, .ref g0, .int (nI cl)])), (g0, .inr (3, [.ref g1, .ref g2, .int (nI n)])), (g1, .inl (D.2 0, 10, .inl fo)), (g2, .inl (D.2 0, 10, .inl fw))] s.heap.size = A at hD hB ⊢
  have hA : ∀ q : Nat, s.heap.size ≤ q → A q := fun q h => by rw [← hAe]; exact Or.inr h
  have hS : va_S A s.heap s.heap [] := va_S.rf
  have hZ : ∀ w ∈ zALL, w.before _ s = true := fun w h => hts w (List.mem_cons_of_mem _ h)
  have hF : CallFix p m c cX5_piece 3 s _ zALL "ShopLedger" := ⟨hx, hb, hml, hown, hZ⟩
  have hl := lv_entry ([.ref x0, .int p1, .int p2]) (n := 3) (Nat.le_of_ble_eq_true rfl)
  rw [lg_entry_eq]
  generalize (lg_sl ([.ref x0, .int p1, .int p2]) ++ List.replicate (3 - (lg_sl ([.ref x0, .int p1, .int p2])).length) Slot.unset).toArray = ls at hl ⊢
  have hl : lv_has ls 3 [(0, .ref x0), (1, .int p1), (2, .int p2)] := hl
  refine lv_iload_n hx hb dX5_piece_0 rfl (lv_at hl 1 rfl) ?_
  refine lv_bipush (v := 8) hx hb dX5_piece_1 (by decide) ?_
  have J := zJ.mk (wc := []) (wr := [(x0, .inr (5, [.ref h0, .ref b0, .ref w0, .ref s0, .ref m0, .ref g0, .int (nI cl)])), (g0, .inr (3, [.ref g1, .ref g2, .int (nI n)])), (g1, .inl (D.2 0, 10, .inl fo)), (g2, .inl (D.2 0, 10, .inl fw))]) hA hB hK hP hD hS [] [0, 1, 2, 3] rfl rfl (by decide)
  refine z_xgov (z_xrunS (As := [.int p1, .int 8]) (rest := []) hF (c_cI hl9 D p1 8 s.heap.size) (va_cwS 2 hZ (z_gS t_56 t_57 t_55 t_54) rfl rfl rfl (by decide +kernel) ⟨Nat.le_of_ble_eq_true rfl, Nat.le_of_ble_eq_true rfl⟩) J rfl hl.1 (Nat.le_of_ble_eq_true rfl) dX5_piece_3 ⟨Nat.le_of_ble_eq_true rfl, Nat.le_of_ble_eq_true rfl⟩) J (fun EX ce q9 H locs w1 hP hD hS hce hcv hcl => ?_) (fun _ H locs w1 hP hD hS => ?_)
  · have hP : va_P D.1 vwCl [(x0, .inr (5, [.ref h0, .ref b0, .ref w0, .ref s0, .ref m0, .ref g0, .int (nI cl)])), (g0, .inr (3, [.ref g1, .ref g2, .int (nI n)])), (g1, .inl (D.2 0, 10, .inl fo)), (g2, .inl (D.2 0, 10, .inl fw))] H := hP
    have hD : va_D A [(x0, .inr (5, [.ref h0, .ref b0, .ref w0, .ref s0, .ref m0, .ref g0, .int (nI cl)])), (g0, .inr (3, [.ref g1, .ref g2, .int (nI n)])), (g1, .inl (D.2 0, 10, .inl fo)), (g2, .inl (D.2 0, 10, .inl fw))] := hD
    exact z_out hnx hlocks hce hcv hcl (Or.inl ⟨w1.1, fun h => w1.2.elim h.1 h.2⟩) hP hD hS [0, 1, 2, 3] rfl (by decide) (Nat.le_of_ble_eq_true rfl) (Nat.le_of_ble_eq_true rfl)
  have hP : va_P D.1 vwCl [(x0, .inr (5, [.ref h0, .ref b0, .ref w0, .ref s0, .ref m0, .ref g0, .int (nI cl)])), (g0, .inr (3, [.ref g1, .ref g2, .int (nI n)])), (g1, .inl (D.2 0, 10, .inl fo)), (g2, .inl (D.2 0, 10, .inl fw))] H := hP
  have hD : va_D A [(x0, .inr (5, [.ref h0, .ref b0, .ref w0, .ref s0, .ref m0, .ref g0, .int (nI cl)])), (g0, .inr (3, [.ref g1, .ref g2, .int (nI n)])), (g1, .inl (D.2 0, 10, .inl fo)), (g2, .inl (D.2 0, 10, .inl fw))] := hD
  refine lv_aload_n hx hb dX5_piece_6 rfl (lv_at hl 0 rfl) ?_
  refine va_get (D := D.1) (ci := 5) (v := .ref g0) (C := "ShopLedger") (T := TX5) (N := 7) hx hb hZ inX5 hown hK hP 0 rfl rfl 5 (by decide) (hZ _ t_143) (fun _ h9 => h9) rfl dX5_piece_7 ?_
  refine va_get (D := D.1) (ci := 3) (v := .int (nI n)) (C := "ShopLedger$Pieces") (T := TX3) (N := 3) hx hb hZ inX3 hown hK hP 1 rfl rfl 2 (by decide) (hZ _ t_144) (fun _ h9 => h9) rfl dX5_piece_10 ?_
  refine lv_bipush (v := 10) hx hb dX5_piece_13 (by decide) ?_
  refine lv_icmp_ge (tgt := 22) hx hb dX5_piece_15 (by decide) (fun c1 => ?_) (fun c1 => ?_)
  · skip
    refine lv_iconst (v := 0) hx hb dX5_piece_22 (by decide) ?_
    have J := zJ.mk (wc := []) (wr := [(x0, .inr (5, [.ref h0, .ref b0, .ref w0, .ref s0, .ref m0, .ref g0, .int (nI cl)])), (g0, .inr (3, [.ref g1, .ref g2, .int (nI n)])), (g1, .inl (D.2 0, 10, .inl fo)), (g2, .inl (D.2 0, 10, .inl fw))]) hA hB hK hP hD hS [] [0, 1, 2, 3] rfl rfl (by decide)
    refine z_xgov (z_xrunS (As := [.int 0]) (rest := []) hF (c_cT hl9 D 0 H.size) (va_cwS 1 hZ (z_gS t_61 t_62 t_55 t_60) rfl rfl rfl (by decide +kernel) ⟨Nat.le_of_ble_eq_true rfl, Nat.le_of_ble_eq_true rfl⟩) J rfl hl.1 (Nat.le_of_ble_eq_true rfl) dX5_piece_23 ⟨Nat.le_of_ble_eq_true rfl, Nat.le_of_ble_eq_true rfl⟩) J (fun EX ce q9 H locs w2 hP hD hS hce hcv hcl => ?_) (fun _ H locs w2 hP hD hS => ?_)
    · have hP : va_P D.1 vwCl [(x0, .inr (5, [.ref h0, .ref b0, .ref w0, .ref s0, .ref m0, .ref g0, .int (nI cl)])), (g0, .inr (3, [.ref g1, .ref g2, .int (nI n)])), (g1, .inl (D.2 0, 10, .inl fo)), (g2, .inl (D.2 0, 10, .inl fw))] H := hP
      have hD : va_D A [(x0, .inr (5, [.ref h0, .ref b0, .ref w0, .ref s0, .ref m0, .ref g0, .int (nI cl)])), (g0, .inr (3, [.ref g1, .ref g2, .int (nI n)])), (g1, .inl (D.2 0, 10, .inl fo)), (g2, .inl (D.2 0, 10, .inl fw))] := hD
      exact z_out hnx hlocks hce hcv hcl (Or.inr (Or.inl ⟨w2.1, w1, fun h => h c1⟩)) hP hD hS [0, 1, 2, 3] rfl (by decide) (Nat.le_of_ble_eq_true rfl) (Nat.le_of_ble_eq_true rfl)
    have hP : va_P D.1 vwCl [(x0, .inr (5, [.ref h0, .ref b0, .ref w0, .ref s0, .ref m0, .ref g0, .int (nI cl)])), (g0, .inr (3, [.ref g1, .ref g2, .int (nI n)])), (g1, .inl (D.2 0, 10, .inl fo)), (g2, .inl (D.2 0, 10, .inl fw))] H := hP
    have hD : va_D A [(x0, .inr (5, [.ref h0, .ref b0, .ref w0, .ref s0, .ref m0, .ref g0, .int (nI cl)])), (g0, .inr (3, [.ref g1, .ref g2, .int (nI n)])), (g1, .inl (D.2 0, 10, .inl fo)), (g2, .inl (D.2 0, 10, .inl fw))] := hD
    exact absurd rfl w2
  refine lv_iconst (v := 1) hx hb dX5_piece_18 (by decide) ?_
  refine lv_goto (tgt := 23) hx hb dX5_piece_19 (by decide) ?_
  have J := zJ.mk (wc := []) (wr := [(x0, .inr (5, [.ref h0, .ref b0, .ref w0, .ref s0, .ref m0, .ref g0, .int (nI cl)])), (g0, .inr (3, [.ref g1, .ref g2, .int (nI n)])), (g1, .inl (D.2 0, 10, .inl fo)), (g2, .inl (D.2 0, 10, .inl fw))]) hA hB hK hP hD hS [] [0, 1, 2, 3] rfl rfl (by decide)
  refine z_xgov (z_xrunS (As := [.int 1]) (rest := []) hF (c_cT hl9 D 1 H.size) (va_cwS 1 hZ (z_gS t_61 t_62 t_55 t_60) rfl rfl rfl (by decide +kernel) ⟨Nat.le_of_ble_eq_true rfl, Nat.le_of_ble_eq_true rfl⟩) J rfl hl.1 (Nat.le_of_ble_eq_true rfl) dX5_piece_23 ⟨Nat.le_of_ble_eq_true rfl, Nat.le_of_ble_eq_true rfl⟩) J (fun EX ce q9 H locs w2 hP hD hS hce hcv hcl => ?_) (fun _ H locs w2 hP hD hS => ?_)
  · have hP : va_P D.1 vwCl [(x0, .inr (5, [.ref h0, .ref b0, .ref w0, .ref s0, .ref m0, .ref g0, .int (nI cl)])), (g0, .inr (3, [.ref g1, .ref g2, .int (nI n)])), (g1, .inl (D.2 0, 10, .inl fo)), (g2, .inl (D.2 0, 10, .inl fw))] H := hP
    have hD : va_D A [(x0, .inr (5, [.ref h0, .ref b0, .ref w0, .ref s0, .ref m0, .ref g0, .int (nI cl)])), (g0, .inr (3, [.ref g1, .ref g2, .int (nI n)])), (g1, .inl (D.2 0, 10, .inl fo)), (g2, .inl (D.2 0, 10, .inl fw))] := hD
    exact z_out hnx hlocks hce hcv hcl (absurd w2.2 (by decide)) hP hD hS [0, 1, 2, 3] rfl (by decide) (Nat.le_of_ble_eq_true rfl) (Nat.le_of_ble_eq_true rfl)
  have hP : va_P D.1 vwCl [(x0, .inr (5, [.ref h0, .ref b0, .ref w0, .ref s0, .ref m0, .ref g0, .int (nI cl)])), (g0, .inr (3, [.ref g1, .ref g2, .int (nI n)])), (g1, .inl (D.2 0, 10, .inl fo)), (g2, .inl (D.2 0, 10, .inl fw))] H := hP
  have hD : va_D A [(x0, .inr (5, [.ref h0, .ref b0, .ref w0, .ref s0, .ref m0, .ref g0, .int (nI cl)])), (g0, .inr (3, [.ref g1, .ref g2, .int (nI n)])), (g1, .inl (D.2 0, 10, .inl fo)), (g2, .inl (D.2 0, 10, .inl fw))] := hD
  refine lv_iload_n hx hb dX5_piece_26 rfl (lv_at hl 2 rfl) ?_
  refine lv_iconst (v := 1) hx hb dX5_piece_27 (by decide) ?_
  refine lv_ldc (v := 1000000) hx hb hown (hZ _ t_102) dX5_piece_28 ?_
  have J := zJ.mk (wc := []) (wr := [(x0, .inr (5, [.ref h0, .ref b0, .ref w0, .ref s0, .ref m0, .ref g0, .int (nI cl)])), (g0, .inr (3, [.ref g1, .ref g2, .int (nI n)])), (g1, .inl (D.2 0, 10, .inl fo)), (g2, .inl (D.2 0, 10, .inl fw))]) hA hB hK hP hD hS [] [0, 1, 2, 3] rfl rfl (by decide)
  refine z_xgov (z_xrunS (As := [.int p2, .int 1, .int 1000000]) (rest := []) hF (c_cR hl9 D p2 1 1000000 H.size) (va_cwS 3 hZ (z_gS t_66 t_67 t_55 t_65) rfl rfl rfl (by decide +kernel) ⟨Nat.le_of_ble_eq_true rfl, Nat.le_of_ble_eq_true rfl⟩) J rfl hl.1 (Nat.le_of_ble_eq_true rfl) dX5_piece_30 ⟨Nat.le_of_ble_eq_true rfl, Nat.le_of_ble_eq_true rfl⟩) J (fun EX ce q9 H locs w3 hP hD hS hce hcv hcl => ?_) (fun _ H locs w3 hP hD hS => ?_)
  · have hP : va_P D.1 vwCl [(x0, .inr (5, [.ref h0, .ref b0, .ref w0, .ref s0, .ref m0, .ref g0, .int (nI cl)])), (g0, .inr (3, [.ref g1, .ref g2, .int (nI n)])), (g1, .inl (D.2 0, 10, .inl fo)), (g2, .inl (D.2 0, 10, .inl fw))] H := hP
    have hD : va_D A [(x0, .inr (5, [.ref h0, .ref b0, .ref w0, .ref s0, .ref m0, .ref g0, .int (nI cl)])), (g0, .inr (3, [.ref g1, .ref g2, .int (nI n)])), (g1, .inl (D.2 0, 10, .inl fo)), (g2, .inl (D.2 0, 10, .inl fw))] := hD
    exact z_out hnx hlocks hce hcv hcl (Or.inr (Or.inr (⟨w3.1, w1, c1, fun h => w3.2.elim h.1 (fun g => g h.2)⟩))) hP hD hS [0, 1, 2, 3] rfl (by decide) (Nat.le_of_ble_eq_true rfl) (Nat.le_of_ble_eq_true rfl)
  have hP : va_P D.1 vwCl [(x0, .inr (5, [.ref h0, .ref b0, .ref w0, .ref s0, .ref m0, .ref g0, .int (nI cl)])), (g0, .inr (3, [.ref g1, .ref g2, .int (nI n)])), (g1, .inl (D.2 0, 10, .inl fo)), (g2, .inl (D.2 0, 10, .inl fw))] H := hP
  have hD : va_D A [(x0, .inr (5, [.ref h0, .ref b0, .ref w0, .ref s0, .ref m0, .ref g0, .int (nI cl)])), (g0, .inr (3, [.ref g1, .ref g2, .int (nI n)])), (g1, .inl (D.2 0, 10, .inl fo)), (g2, .inl (D.2 0, 10, .inl fw))] := hD
  refine lv_aload_n hx hb dX5_piece_33 rfl (lv_at hl 0 rfl) ?_
  refine va_get (D := D.1) (ci := 5) (v := .ref g0) (C := "ShopLedger") (T := TX5) (N := 7) hx hb hZ inX5 hown hK hP 0 rfl rfl 5 (by decide) (hZ _ t_143) (fun _ h9 => h9) rfl dX5_piece_34 ?_
  refine lv_iload_n hx hb dX5_piece_37 rfl (lv_at hl 1 rfl) ?_
  refine lv_iload_n hx hb dX5_piece_38 rfl (lv_at hl 2 rfl) ?_
  have J := zJ.mk (wc := [(g0, .inr (3, [.ref g1, .ref g2, .int (nI n)])), (g1, .inl (D.2 0, 10, .inl fo)), (g2, .inl (D.2 0, 10, .inl fw))]) (wr := [(x0, .inr (5, [.ref h0, .ref b0, .ref w0, .ref s0, .ref m0, .ref g0, .int (nI cl)]))]) hA hB hK hP hD hS [1, 2, 3] [0] rfl rfl (by decide)
  refine z_goi (z_runV (As := [.int p1, .int p2]) (rest := []) (b := g0) hF (c_Pieces_add D g0 g1 g2 n fo fw p1 p2 H.size (z_lt (t := 10) hn (by decide) c1)) (cwV 2 hZ (z_gV t_147 t_148 t_149 t_146 t_145) rfl rfl rfl (by decide +kernel) ⟨Nat.le_of_ble_eq_true rfl, Nat.le_of_ble_eq_true rfl⟩) J 0 3 rfl rfl rfl rfl hl.1 (Nat.le_of_ble_eq_true rfl) dX5_piece_39 ⟨Nat.le_of_ble_eq_true rfl, Nat.le_of_ble_eq_true rfl⟩) J (fun r4 _ H locs w4 hP hD hS => ?_)
  have hP : va_P D.1 vwCl [(x0, .inr (5, [.ref h0, .ref b0, .ref w0, .ref s0, .ref m0, .ref g0, .int (nI cl)])), (g0, .inr (3, [.ref g1, .ref g2, .int (nI (n + 1))])), (g1, .inl (D.2 0, 10, .inl (upd fo n p1))), (g2, .inl (D.2 0, 10, .inl (upd fw n p2)))] H := hP
  have hD : va_D A [(x0, .inr (5, [.ref h0, .ref b0, .ref w0, .ref s0, .ref m0, .ref g0, .int (nI cl)])), (g0, .inr (3, [.ref g1, .ref g2, .int (nI (n + 1))])), (g1, .inl (D.2 0, 10, .inl (upd fo n p1))), (g2, .inl (D.2 0, 10, .inl (upd fw n p2)))] := hD
  subst w4
  refine vx_ret ?_
  exact z_iret (v := nI n) hx hb hr hlocks hP hD hS () (⟨w1, c1, w3, rfl⟩) [0, 1, 2, 3] rfl (by decide) (Nat.le_of_ble_eq_true rfl) (Nat.le_of_ble_eq_true rfl) dX5_piece_42
set_option maxHeartbeats 4000000 in
set_option maxRecDepth 100000 in
/-- opened -/
theorem c_opened {l : Launch} (hl9 : l.stackTraces = false) (D : zD) (x0 h0 w0 s0 m0 cl : Nat) (g0 g1 g2 n : Nat) (fo fw : Nat → Int32) (b0 b1 b2 b3 b4 b5 b6 b7 b8 b9 : Nat) (E : zE) (bt : Nat) (j : Nat) (sz : Nat) (hj : j < n) (hn : n ≤ 10) (h1 : vp_in (fo j) 8) : vx_Met l yX5_opened wsX5_opened ({ frames := 7, cells := 1, slots := 6, locals := 111 }) (va_Pc [.ref x0, .int (nI j)] (zp D sz [(x0, .inr (5, [.ref h0, .ref b0, .ref w0, .ref s0, .ref m0, .ref g0, .int (nI cl)])), (g0, .inr (3, [.ref g1, .ref g2, .int (nI n)])), (g1, .inl (D.2 0, 10, .inl fo)), (g2, .inl (D.2 0, 10, .inl fw)), (b0, .inr (0, [.ref b1, .ref b2, .ref b3, .ref b4, .ref b5, .int (nI E.1), .ref b6, .ref b7, .ref b8, .ref b9, .int (nI bt)])), (b7, .inl (D.2 1, 8, .inr (.inl E.2.2.2.2.2.2.2.1)))])) (va_Ql (fun r (_ : Unit) => r = zs_part (E.2.2.2.2.2.2.2.1 (fo j).toNatClampNeg) (zs_wof fo fw (fo j) j) (fw j).toInt64 (zs_wof fo fw (fo j) n)) (zq D (va_A [(x0, .inr (5, [.ref h0, .ref b0, .ref w0, .ref s0, .ref m0, .ref g0, .int (nI cl)])), (g0, .inr (3, [.ref g1, .ref g2, .int (nI n)])), (g1, .inl (D.2 0, 10, .inl fo)), (g2, .inl (D.2 0, 10, .inl fw)), (b0, .inr (0, [.ref b1, .ref b2, .ref b3, .ref b4, .ref b5, .int (nI E.1), .ref b6, .ref b7, .ref b8, .ref b9, .int (nI bt)])), (b7, .inl (D.2 1, 8, .inr (.inl E.2.2.2.2.2.2.2.1)))] sz) (fun (_ : Unit) => ([(x0, .inr (5, [.ref h0, .ref b0, .ref w0, .ref s0, .ref m0, .ref g0, .int (nI cl)])), (g0, .inr (3, [.ref g1, .ref g2, .int (nI n)])), (g1, .inl (D.2 0, 10, .inl fo)), (g2, .inl (D.2 0, 10, .inl fw)), (b0, .inr (0, [.ref b1, .ref b2, .ref b3, .ref b4, .ref b5, .int (nI E.1), .ref b6, .ref b7, .ref b8, .ref b9, .int (nI bt)])), (b7, .inl (D.2 1, 8, .inr (.inl E.2.2.2.2.2.2.2.1)))] : va_W))) (va_A [(x0, .inr (5, [.ref h0, .ref b0, .ref w0, .ref s0, .ref m0, .ref g0, .int (nI cl)])), (g0, .inr (3, [.ref g1, .ref g2, .int (nI n)])), (g1, .inl (D.2 0, 10, .inl fo)), (g2, .inl (D.2 0, 10, .inl fw)), (b0, .inr (0, [.ref b1, .ref b2, .ref b3, .ref b4, .ref b5, .int (nI E.1), .ref b6, .ref b7, .ref b8, .ref b9, .int (nI bt)])), (b7, .inl (D.2 1, 8, .inr (.inl E.2.2.2.2.2.2.2.1)))] sz)) (vx_X (fun _ : Unit => True) (zx D (va_A [(x0, .inr (5, [.ref h0, .ref b0, .ref w0, .ref s0, .ref m0, .ref g0, .int (nI cl)])), (g0, .inr (3, [.ref g1, .ref g2, .int (nI n)])), (g1, .inl (D.2 0, 10, .inl fo)), (g2, .inl (D.2 0, 10, .inl fw)), (b0, .inr (0, [.ref b1, .ref b2, .ref b3, .ref b4, .ref b5, .int (nI E.1), .ref b6, .ref b7, .ref b8, .ref b9, .int (nI bt)])), (b7, .inl (D.2 1, 8, .inr (.inl E.2.2.2.2.2.2.2.1)))] sz) [(x0, .inr (5, [.ref h0, .ref b0, .ref w0, .ref s0, .ref m0, .ref g0, .int (nI cl)])), (g0, .inr (3, [.ref g1, .ref g2, .int (nI n)])), (g1, .inl (D.2 0, 10, .inl fo)), (g2, .inl (D.2 0, 10, .inl fw)), (b0, .inr (0, [.ref b1, .ref b2, .ref b3, .ref b4, .ref b5, .int (nI E.1), .ref b6, .ref b7, .ref b8, .ref b9, .int (nI bt)])), (b7, .inl (D.2 1, 8, .inr (.inl E.2.2.2.2.2.2.2.1)))] (fun E9 => False)) (va_A [(x0, .inr (5, [.ref h0, .ref b0, .ref w0, .ref s0, .ref m0, .ref g0, .int (nI cl)])), (g0, .inr (3, [.ref g1, .ref g2, .int (nI n)])), (g1, .inl (D.2 0, 10, .inl fo)), (g2, .inl (D.2 0, 10, .inl fw)), (b0, .inr (0, [.ref b1, .ref b2, .ref b3, .ref b4, .ref b5, .int (nI E.1), .ref b6, .ref b7, .ref b8, .ref b9, .int (nI bt)])), (b7, .inl (D.2 1, 8, .inr (.inl E.2.2.2.2.2.2.2.1)))] sz)) 1 6 (va_A [(x0, .inr (5, [.ref h0, .ref b0, .ref w0, .ref s0, .ref m0, .ref g0, .int (nI cl)])), (g0, .inr (3, [.ref g1, .ref g2, .int (nI n)])), (g1, .inl (D.2 0, 10, .inl fo)), (g2, .inl (D.2 0, 10, .inl fw)), (b0, .inr (0, [.ref b1, .ref b2, .ref b3, .ref b4, .ref b5, .int (nI E.1), .ref b6, .ref b7, .ref b8, .ref b9, .int (nI bt)])), (b7, .inl (D.2 1, 8, .inr (.inl E.2.2.2.2.2.2.2.1)))] sz) := by
  refine vx_ofW (cc := cX5_opened) (maxL := 8) (ret := (some .long)) (by decide) rfl ?_
  intro p e s m args below meth c s₁ B hml hnx hv
  obtain ⟨rfl, hsz, hP, hK, hD0, hB⟩ := hv
  have hx := B.exec
  have hb := B.bytes
  have hr := B.returns
  have hts := atoms_spec (ws := wsX5_opened) B.pre
  have hown : s.vm.findClass "ShopLedger" = some m.cls := findClass_of_methodNamed B.named
  have hlocks := B.notSynchronized
  subst hsz
  have hD := hD0.self (sz := s.heap.size)
  generalize hAe : va_A [(x0, .inr (5, [.ref h0, .ref b0, .ref w0, .ref s0, .ref m0, .ref g0, .int (nI cl)])), (g0, .inr (3, [.ref g1, .ref g2, .int (nI n)])), (g1, .inl (D.2 0, 10, .inl fo)), (g2, .inl (D.2 0, 10, .inl fw)), (b0, .inr (0, [.ref b1, .ref b2, .ref b3, .ref b4, .ref b5, .int (nI E.1), .ref b6, .ref b7, .ref b8, .ref b9, .int (nI bt)])), (b7, .inl (D.2 1, 8, .inr (.inl E.2.2.2.2.2.2.2.1)))] s.heap.size = A at hD hB ⊢
  have hA : ∀ q : Nat, s.heap.size ≤ q → A q := fun q h => by rw [← hAe]; exact Or.inr h
  have hS : va_S A s.heap s.heap [] := va_S.rf
  have hZ : ∀ w ∈ zALL, w.before _ s = true := fun w h => hts w (List.mem_cons_of_mem _ h)
  have hF : CallFix p m c cX5_opened 8 s _ zALL "ShopLedger" := ⟨hx, hb, hml, hown, hZ⟩
  have hl := lv_entry ([.ref x0, .int (nI j)]) (n := 8) (Nat.le_of_ble_eq_true rfl)
  rw [lg_entry_eq]
  generalize (lg_sl ([.ref x0, .int (nI j)]) ++ List.replicate (8 - (lg_sl ([.ref x0, .int (nI j)])).length) Slot.unset).toArray = ls at hl ⊢
  have hl : lv_has ls 8 [(0, .ref x0), (1, .int (nI j))] := hl
  refine lv_iload_n hx hb dX5_opened_0 rfl (lv_at hl 1 rfl) ?_
  refine lv_aload_n hx hb dX5_opened_1 rfl (lv_at hl 0 rfl) ?_
  refine va_get (D := D.1) (ci := 5) (v := .ref g0) (C := "ShopLedger") (T := TX5) (N := 7) hx hb hZ inX5 hown hK hP 0 rfl rfl 5 (by decide) (hZ _ t_143) (fun _ h9 => h9) rfl dX5_opened_2 ?_
  refine va_get (D := D.1) (ci := 3) (v := .int (nI n)) (C := "ShopLedger$Pieces") (T := TX3) (N := 3) hx hb hZ inX3 hown hK hP 1 rfl rfl 2 (by decide) (hZ _ t_144) (fun _ h9 => h9) rfl dX5_opened_5 ?_
  have J := zJ.mk (wc := []) (wr := [(x0, .inr (5, [.ref h0, .ref b0, .ref w0, .ref s0, .ref m0, .ref g0, .int (nI cl)])), (g0, .inr (3, [.ref g1, .ref g2, .int (nI n)])), (g1, .inl (D.2 0, 10, .inl fo)), (g2, .inl (D.2 0, 10, .inl fw)), (b0, .inr (0, [.ref b1, .ref b2, .ref b3, .ref b4, .ref b5, .int (nI E.1), .ref b6, .ref b7, .ref b8, .ref b9, .int (nI bt)])), (b7, .inl (D.2 1, 8, .inr (.inl E.2.2.2.2.2.2.2.1)))]) hA hB hK hP hD hS [] [0, 1, 2, 3, 4, 5] rfl rfl (by decide)
  refine z_xgov (z_xrunS (As := [.int (nI j), .int (nI n)]) (rest := []) hF (c_cI hl9 D (nI j) (nI n) s.heap.size) (va_cwS 2 hZ (z_gS t_56 t_57 t_55 t_54) rfl rfl rfl (by decide +kernel) ⟨Nat.le_of_ble_eq_true rfl, Nat.le_of_ble_eq_true rfl⟩) J rfl hl.1 (Nat.le_of_ble_eq_true rfl) dX5_opened_8 ⟨Nat.le_of_ble_eq_true rfl, Nat.le_of_ble_eq_true rfl⟩) J (fun EX ce q9 H locs w1 hP hD hS hce hcv hcl => ?_) (fun _ H locs w1 hP hD hS => ?_)
  · have hP : va_P D.1 vwCl [(x0, .inr (5, [.ref h0, .ref b0, .ref w0, .ref s0, .ref m0, .ref g0, .int (nI cl)])), (g0, .inr (3, [.ref g1, .ref g2, .int (nI n)])), (g1, .inl (D.2 0, 10, .inl fo)), (g2, .inl (D.2 0, 10, .inl fw)), (b0, .inr (0, [.ref b1, .ref b2, .ref b3, .ref b4, .ref b5, .int (nI E.1), .ref b6, .ref b7, .ref b8, .ref b9, .int (nI bt)])), (b7, .inl (D.2 1, 8, .inr (.inl E.2.2.2.2.2.2.2.1)))] H := hP
    have hD : va_D A [(x0, .inr (5, [.ref h0, .ref b0, .ref w0, .ref s0, .ref m0, .ref g0, .int (nI cl)])), (g0, .inr (3, [.ref g1, .ref g2, .int (nI n)])), (g1, .inl (D.2 0, 10, .inl fo)), (g2, .inl (D.2 0, 10, .inl fw)), (b0, .inr (0, [.ref b1, .ref b2, .ref b3, .ref b4, .ref b5, .int (nI E.1), .ref b6, .ref b7, .ref b8, .ref b9, .int (nI bt)])), (b7, .inl (D.2 1, 8, .inr (.inl E.2.2.2.2.2.2.2.1)))] := hD
    exact z_out hnx hlocks hce hcv hcl ((z_no hj (by omega) w1.2).elim) hP hD hS [0, 1, 2, 3, 4, 5] rfl (by decide) (Nat.le_of_ble_eq_true rfl) (Nat.le_of_ble_eq_true rfl)
  have hP : va_P D.1 vwCl [(x0, .inr (5, [.ref h0, .ref b0, .ref w0, .ref s0, .ref m0, .ref g0, .int (nI cl)])), (g0, .inr (3, [.ref g1, .ref g2, .int (nI n)])), (g1, .inl (D.2 0, 10, .inl fo)), (g2, .inl (D.2 0, 10, .inl fw)), (b0, .inr (0, [.ref b1, .ref b2, .ref b3, .ref b4, .ref b5, .int (nI E.1), .ref b6, .ref b7, .ref b8, .ref b9, .int (nI bt)])), (b7, .inl (D.2 1, 8, .inr (.inl E.2.2.2.2.2.2.2.1)))] H := hP
  have hD : va_D A [(x0, .inr (5, [.ref h0, .ref b0, .ref w0, .ref s0, .ref m0, .ref g0, .int (nI cl)])), (g0, .inr (3, [.ref g1, .ref g2, .int (nI n)])), (g1, .inl (D.2 0, 10, .inl fo)), (g2, .inl (D.2 0, 10, .inl fw)), (b0, .inr (0, [.ref b1, .ref b2, .ref b3, .ref b4, .ref b5, .int (nI E.1), .ref b6, .ref b7, .ref b8, .ref b9, .int (nI bt)])), (b7, .inl (D.2 1, 8, .inr (.inl E.2.2.2.2.2.2.2.1)))] := hD
  refine lv_aload_n hx hb dX5_opened_11 rfl (lv_at hl 0 rfl) ?_
  refine va_get (D := D.1) (ci := 5) (v := .ref b0) (C := "ShopLedger") (T := TX5) (N := 7) hx hb hZ inX5 hown hK hP 0 rfl rfl 1 (by decide) (hZ _ t_50) (fun _ h9 => h9) rfl dX5_opened_12 ?_
  refine va_get (D := D.1) (ci := 0) (v := .ref b7) (C := "ShopLedger$Books") (T := TX0) (N := 11) hx hb hZ inX0 hown hK hP 4 rfl rfl 7 (by decide) (hZ _ t_150) (fun _ h9 => h9) rfl dX5_opened_15 ?_
  refine lv_aload_n hx hb dX5_opened_18 rfl (lv_at hl 0 rfl) ?_
  refine va_get (D := D.1) (ci := 5) (v := .ref g0) (C := "ShopLedger") (T := TX5) (N := 7) hx hb hZ inX5 hown hK hP 0 rfl rfl 5 (by decide) (hZ _ t_143) (fun _ h9 => h9) rfl dX5_opened_19 ?_
  refine va_get (D := D.1) (ci := 3) (v := .ref g1) (C := "ShopLedger$Pieces") (T := TX3) (N := 3) hx hb hZ inX3 hown hK hP 1 rfl rfl 0 (by decide) (hZ _ t_151) (fun _ h9 => h9) rfl dX5_opened_22 ?_
  refine lv_iload_n hx hb dX5_opened_25 rfl (lv_at hl 1 rfl) ?_
  refine z_iald (k := j) hx hb hK hP 2 rfl (by omega) (by decide) dX5_opened_26 ?_
  refine va_lald hx hb hK hP 5 1 rfl rfl (h1) dX5_opened_27 ?_
  refine lv_lstore_n (lv' := [(2, .long (E.2.2.2.2.2.2.2.1 (fo j).toNatClampNeg)), (0, .ref x0), (1, .int (nI j))]) hx hb dX5_opened_28 rfl hl (by decide) rfl (fun ls hl => ?_)
  refine lv_aload_n hx hb dX5_opened_29 rfl (lv_at hl 1 rfl) ?_
  refine va_get (D := D.1) (ci := 5) (v := .ref g0) (C := "ShopLedger") (T := TX5) (N := 7) hx hb hZ inX5 hown hK hP 0 rfl rfl 5 (by decide) (hZ _ t_143) (fun _ h9 => h9) rfl dX5_opened_30 ?_
  refine lv_iload_n hx hb dX5_opened_33 rfl (lv_at hl 2 rfl) ?_
  refine lv_iload_n hx hb dX5_opened_34 rfl (lv_at hl 2 rfl) ?_
  have J := zJ.mk (wc := [(g0, .inr (3, [.ref g1, .ref g2, .int (nI n)])), (g1, .inl (D.2 0, 10, .inl fo)), (g2, .inl (D.2 0, 10, .inl fw))]) (wr := [(x0, .inr (5, [.ref h0, .ref b0, .ref w0, .ref s0, .ref m0, .ref g0, .int (nI cl)])), (b0, .inr (0, [.ref b1, .ref b2, .ref b3, .ref b4, .ref b5, .int (nI E.1), .ref b6, .ref b7, .ref b8, .ref b9, .int (nI bt)])), (b7, .inl (D.2 1, 8, .inr (.inl E.2.2.2.2.2.2.2.1)))]) hA hB hK hP hD hS [1, 2, 3] [0, 4, 5] rfl rfl (by decide)
  refine z_gol (z_runV (As := [.int (nI j), .int (nI j)]) (rest := []) (b := g0) hF (c_Pieces_wof D g0 g1 g2 n fo fw j j H.size (by omega) (by omega)) (cwV 2 hZ (z_gV t_153 t_154 t_155 t_146 t_152) rfl rfl rfl (by decide +kernel) ⟨Nat.le_of_ble_eq_true rfl, Nat.le_of_ble_eq_true rfl⟩) J 0 3 rfl rfl rfl rfl hl.1 (Nat.le_of_ble_eq_true rfl) dX5_opened_35 ⟨Nat.le_of_ble_eq_true rfl, Nat.le_of_ble_eq_true rfl⟩) J (fun r2 _ H locs w2 hP hD hS => ?_)
  have hP : va_P D.1 vwCl [(x0, .inr (5, [.ref h0, .ref b0, .ref w0, .ref s0, .ref m0, .ref g0, .int (nI cl)])), (b0, .inr (0, [.ref b1, .ref b2, .ref b3, .ref b4, .ref b5, .int (nI E.1), .ref b6, .ref b7, .ref b8, .ref b9, .int (nI bt)])), (b7, .inl (D.2 1, 8, .inr (.inl E.2.2.2.2.2.2.2.1))), (g0, .inr (3, [.ref g1, .ref g2, .int (nI n)])), (g1, .inl (D.2 0, 10, .inl fo)), (g2, .inl (D.2 0, 10, .inl fw))] H := hP
  have hD : va_D A [(x0, .inr (5, [.ref h0, .ref b0, .ref w0, .ref s0, .ref m0, .ref g0, .int (nI cl)])), (b0, .inr (0, [.ref b1, .ref b2, .ref b3, .ref b4, .ref b5, .int (nI E.1), .ref b6, .ref b7, .ref b8, .ref b9, .int (nI bt)])), (b7, .inl (D.2 1, 8, .inr (.inl E.2.2.2.2.2.2.2.1))), (g0, .inr (3, [.ref g1, .ref g2, .int (nI n)])), (g1, .inl (D.2 0, 10, .inl fo)), (g2, .inl (D.2 0, 10, .inl fw))] := hD
  subst w2
  refine lv_lstore (lv' := [(4, .long (zs_wof fo fw (fo j) j)), (2, .long (E.2.2.2.2.2.2.2.1 (fo j).toNatClampNeg)), (0, .ref x0), (1, .int (nI j))]) hx hb dX5_opened_38 hl (by decide) rfl (fun ls hl => ?_)
  refine lv_aload_n hx hb dX5_opened_40 rfl (lv_at hl 2 rfl) ?_
  refine va_get (D := D.1) (ci := 5) (v := .ref g0) (C := "ShopLedger") (T := TX5) (N := 7) hx hb hZ inX5 hown hK hP 0 rfl rfl 5 (by decide) (hZ _ t_143) (fun _ h9 => h9) rfl dX5_opened_41 ?_
  refine lv_iload_n hx hb dX5_opened_44 rfl (lv_at hl 3 rfl) ?_
  refine lv_aload_n hx hb dX5_opened_45 rfl (lv_at hl 2 rfl) ?_
  refine va_get (D := D.1) (ci := 5) (v := .ref g0) (C := "ShopLedger") (T := TX5) (N := 7) hx hb hZ inX5 hown hK hP 0 rfl rfl 5 (by decide) (hZ _ t_143) (fun _ h9 => h9) rfl dX5_opened_46 ?_
  refine va_get (D := D.1) (ci := 3) (v := .int (nI n)) (C := "ShopLedger$Pieces") (T := TX3) (N := 3) hx hb hZ inX3 hown hK hP 3 rfl rfl 2 (by decide) (hZ _ t_144) (fun _ h9 => h9) rfl dX5_opened_49 ?_
  have J := zJ.mk (wc := [(g0, .inr (3, [.ref g1, .ref g2, .int (nI n)])), (g1, .inl (D.2 0, 10, .inl fo)), (g2, .inl (D.2 0, 10, .inl fw))]) (wr := [(x0, .inr (5, [.ref h0, .ref b0, .ref w0, .ref s0, .ref m0, .ref g0, .int (nI cl)])), (b0, .inr (0, [.ref b1, .ref b2, .ref b3, .ref b4, .ref b5, .int (nI E.1), .ref b6, .ref b7, .ref b8, .ref b9, .int (nI bt)])), (b7, .inl (D.2 1, 8, .inr (.inl E.2.2.2.2.2.2.2.1)))]) hA hB hK hP hD hS [3, 4, 5] [0, 1, 2] rfl rfl (by decide)
  refine z_gol (z_runV (As := [.int (nI j), .int (nI n)]) (rest := []) (b := g0) hF (c_Pieces_wof D g0 g1 g2 n fo fw j n H.size (by omega) hn) (cwV 2 hZ (z_gV t_153 t_154 t_155 t_146 t_152) rfl rfl rfl (by decide +kernel) ⟨Nat.le_of_ble_eq_true rfl, Nat.le_of_ble_eq_true rfl⟩) J 0 3 rfl rfl rfl rfl hl.1 (Nat.le_of_ble_eq_true rfl) dX5_opened_52 ⟨Nat.le_of_ble_eq_true rfl, Nat.le_of_ble_eq_true rfl⟩) J (fun r3 _ H locs w3 hP hD hS => ?_)
  have hP : va_P D.1 vwCl [(x0, .inr (5, [.ref h0, .ref b0, .ref w0, .ref s0, .ref m0, .ref g0, .int (nI cl)])), (b0, .inr (0, [.ref b1, .ref b2, .ref b3, .ref b4, .ref b5, .int (nI E.1), .ref b6, .ref b7, .ref b8, .ref b9, .int (nI bt)])), (b7, .inl (D.2 1, 8, .inr (.inl E.2.2.2.2.2.2.2.1))), (g0, .inr (3, [.ref g1, .ref g2, .int (nI n)])), (g1, .inl (D.2 0, 10, .inl fo)), (g2, .inl (D.2 0, 10, .inl fw))] H := hP
  have hD : va_D A [(x0, .inr (5, [.ref h0, .ref b0, .ref w0, .ref s0, .ref m0, .ref g0, .int (nI cl)])), (b0, .inr (0, [.ref b1, .ref b2, .ref b3, .ref b4, .ref b5, .int (nI E.1), .ref b6, .ref b7, .ref b8, .ref b9, .int (nI bt)])), (b7, .inl (D.2 1, 8, .inr (.inl E.2.2.2.2.2.2.2.1))), (g0, .inr (3, [.ref g1, .ref g2, .int (nI n)])), (g1, .inl (D.2 0, 10, .inl fo)), (g2, .inl (D.2 0, 10, .inl fw))] := hD
  subst w3
  refine lv_lstore (lv' := [(6, .long (zs_wof fo fw (fo j) n)), (4, .long (zs_wof fo fw (fo j) j)), (2, .long (E.2.2.2.2.2.2.2.1 (fo j).toNatClampNeg)), (0, .ref x0), (1, .int (nI j))]) hx hb dX5_opened_55 hl (by decide) rfl (fun ls hl => ?_)
  refine lv_lload_n hx hb dX5_opened_57 rfl (lv_at hl 2 rfl) ?_
  refine lv_lload hx hb dX5_opened_58 (lv_at hl 1 rfl) ?_
  refine lv_aload_n hx hb dX5_opened_60 rfl (lv_at hl 3 rfl) ?_
  refine va_get (D := D.1) (ci := 5) (v := .ref g0) (C := "ShopLedger") (T := TX5) (N := 7) hx hb hZ inX5 hown hK hP 0 rfl rfl 5 (by decide) (hZ _ t_143) (fun _ h9 => h9) rfl dX5_opened_61 ?_
  refine va_get (D := D.1) (ci := 3) (v := .ref g2) (C := "ShopLedger$Pieces") (T := TX3) (N := 3) hx hb hZ inX3 hown hK hP 3 rfl rfl 1 (by decide) (hZ _ t_156) (fun _ h9 => h9) rfl dX5_opened_64 ?_
  refine lv_iload_n hx hb dX5_opened_67 rfl (lv_at hl 4 rfl) ?_
  refine z_iald (k := j) hx hb hK hP 5 rfl (by omega) (by decide) dX5_opened_68 ?_
  refine lv_i2l (v := (fw j).toInt64) hx hb dX5_opened_69 rfl ?_
  refine lv_lload hx hb dX5_opened_70 (lv_at hl 0 rfl) ?_
  have J := zJ.mk (wc := []) (wr := [(x0, .inr (5, [.ref h0, .ref b0, .ref w0, .ref s0, .ref m0, .ref g0, .int (nI cl)])), (b0, .inr (0, [.ref b1, .ref b2, .ref b3, .ref b4, .ref b5, .int (nI E.1), .ref b6, .ref b7, .ref b8, .ref b9, .int (nI bt)])), (b7, .inl (D.2 1, 8, .inr (.inl E.2.2.2.2.2.2.2.1))), (g0, .inr (3, [.ref g1, .ref g2, .int (nI n)])), (g1, .inl (D.2 0, 10, .inl fo)), (g2, .inl (D.2 0, 10, .inl fw))]) hA hB hK hP hD hS [] [0, 1, 2, 3, 4, 5] rfl rfl (by decide)
  refine z_gol (z_runS (As := [.long (E.2.2.2.2.2.2.2.1 (fo j).toNatClampNeg), .long (zs_wof fo fw (fo j) j), .long ((fw j).toInt64), .long (zs_wof fo fw (fo j) n)]) (rest := []) hF (c_part D (E.2.2.2.2.2.2.2.1 (fo j).toNatClampNeg) (zs_wof fo fw (fo j) j) (fw j).toInt64 (zs_wof fo fw (fo j) n) H.size) (va_cwS 4 hZ (z_gS t_105 t_106 t_55 t_104) rfl rfl rfl (by decide +kernel) ⟨Nat.le_of_ble_eq_true rfl, Nat.le_of_ble_eq_true rfl⟩) J rfl hl.1 (Nat.le_of_ble_eq_true rfl) dX5_opened_72 ⟨Nat.le_of_ble_eq_true rfl, Nat.le_of_ble_eq_true rfl⟩) J (fun r4 _ H locs w4 hP hD hS => ?_)
  have hP : va_P D.1 vwCl [(x0, .inr (5, [.ref h0, .ref b0, .ref w0, .ref s0, .ref m0, .ref g0, .int (nI cl)])), (b0, .inr (0, [.ref b1, .ref b2, .ref b3, .ref b4, .ref b5, .int (nI E.1), .ref b6, .ref b7, .ref b8, .ref b9, .int (nI bt)])), (b7, .inl (D.2 1, 8, .inr (.inl E.2.2.2.2.2.2.2.1))), (g0, .inr (3, [.ref g1, .ref g2, .int (nI n)])), (g1, .inl (D.2 0, 10, .inl fo)), (g2, .inl (D.2 0, 10, .inl fw))] H := hP
  have hD : va_D A [(x0, .inr (5, [.ref h0, .ref b0, .ref w0, .ref s0, .ref m0, .ref g0, .int (nI cl)])), (b0, .inr (0, [.ref b1, .ref b2, .ref b3, .ref b4, .ref b5, .int (nI E.1), .ref b6, .ref b7, .ref b8, .ref b9, .int (nI bt)])), (b7, .inl (D.2 1, 8, .inr (.inl E.2.2.2.2.2.2.2.1))), (g0, .inr (3, [.ref g1, .ref g2, .int (nI n)])), (g1, .inl (D.2 0, 10, .inl fo)), (g2, .inl (D.2 0, 10, .inl fw))] := hD
  subst w4
  refine vx_ret ?_
  exact z_lret (v := zs_part (E.2.2.2.2.2.2.2.1 (fo j).toNatClampNeg) (zs_wof fo fw (fo j) j) (fw j).toInt64 (zs_wof fo fw (fo j) n)) hx hb hr hlocks hP hD hS () (rfl) [0, 3, 4, 5, 1, 2] rfl (by decide) (Nat.le_of_ble_eq_true rfl) (Nat.le_of_ble_eq_true rfl) dX5_opened_75
set_option maxHeartbeats 4000000 in
set_option maxRecDepth 100000 in
/-- opened, of what is not there -/
theorem c_openedX {l : Launch} (hl9 : l.stackTraces = false) (D : zD) (x0 h0 b0 w0 s0 m0 cl : Nat) (g0 g1 g2 n : Nat) (p1 : Int32) (sz : Nat) (hp : ¬ zin p1 (nI n)) : vx_Met l yX5_opened wsX5_opened ({ frames := 7, cells := 1, slots := 6, locals := 111 }) (va_Pc [.ref x0, .int p1] (zp D sz [(x0, .inr (5, [.ref h0, .ref b0, .ref w0, .ref s0, .ref m0, .ref g0, .int (nI cl)])), (g0, .inr (3, [.ref g1, .ref g2, .int (nI n)]))])) (va_Ql (fun r (_ : Unit) => False) (zq D (va_A [(x0, .inr (5, [.ref h0, .ref b0, .ref w0, .ref s0, .ref m0, .ref g0, .int (nI cl)])), (g0, .inr (3, [.ref g1, .ref g2, .int (nI n)]))] sz) (fun (_ : Unit) => ([(x0, .inr (5, [.ref h0, .ref b0, .ref w0, .ref s0, .ref m0, .ref g0, .int (nI cl)])), (g0, .inr (3, [.ref g1, .ref g2, .int (nI n)]))] : va_W))) (va_A [(x0, .inr (5, [.ref h0, .ref b0, .ref w0, .ref s0, .ref m0, .ref g0, .int (nI cl)])), (g0, .inr (3, [.ref g1, .ref g2, .int (nI n)]))] sz)) (vx_X (fun _ : Unit => True) (zx D (va_A [(x0, .inr (5, [.ref h0, .ref b0, .ref w0, .ref s0, .ref m0, .ref g0, .int (nI cl)])), (g0, .inr (3, [.ref g1, .ref g2, .int (nI n)]))] sz) [(x0, .inr (5, [.ref h0, .ref b0, .ref w0, .ref s0, .ref m0, .ref g0, .int (nI cl)])), (g0, .inr (3, [.ref g1, .ref g2, .int (nI n)]))] (fun E9 => E9 = "java/lang/IndexOutOfBoundsException")) (va_A [(x0, .inr (5, [.ref h0, .ref b0, .ref w0, .ref s0, .ref m0, .ref g0, .int (nI cl)])), (g0, .inr (3, [.ref g1, .ref g2, .int (nI n)]))] sz)) 1 6 (va_A [(x0, .inr (5, [.ref h0, .ref b0, .ref w0, .ref s0, .ref m0, .ref g0, .int (nI cl)])), (g0, .inr (3, [.ref g1, .ref g2, .int (nI n)]))] sz) := by
  refine vx_ofW (cc := cX5_opened) (maxL := 8) (ret := (some .long)) (by decide) rfl ?_
  intro p e s m args below meth c s₁ B hml hnx hv
  obtain ⟨rfl, hsz, hP, hK, hD0, hB⟩ := hv
  have hx := B.exec
  have hb := B.bytes
  have hr := B.returns
  have hts := atoms_spec (ws := wsX5_opened) B.pre
  have hown : s.vm.findClass "ShopLedger" = some m.cls := findClass_of_methodNamed B.named
  have hlocks := B.notSynchronized
  subst hsz
  have hD := hD0.self (sz := s.heap.size)
  generalize hAe : va_A [(x0, .inr (5, [.ref h0, .ref b0, .ref w0, .ref s0, .ref m0, .ref g0, .int (nI cl)])), (g0, .inr (3, [.ref g1, .ref g2, .int (nI n)]))] s.heap.size = A at hD hB ⊢
  have hA : ∀ q : Nat, s.heap.size ≤ q → A q := fun q h => by rw [← hAe]; exact Or.inr h
  have hS : va_S A s.heap s.heap [] := va_S.rf
  have hZ : ∀ w ∈ zALL, w.before _ s = true := fun w h => hts w (List.mem_cons_of_mem _ h)
  have hF : CallFix p m c cX5_opened 8 s _ zALL "ShopLedger" := ⟨hx, hb, hml, hown, hZ⟩
  have hl := lv_entry ([.ref x0, .int p1]) (n := 8) (Nat.le_of_ble_eq_true rfl)
  rw [lg_entry_eq]
  generalize (lg_sl ([.ref x0, .int p1]) ++ List.replicate (8 - (lg_sl ([.ref x0, .int p1])).length) Slot.unset).toArray = ls at hl ⊢
  have hl : lv_has ls 8 [(0, .ref x0), (1, .int p1)] := hl
  refine lv_iload_n hx hb dX5_opened_0 rfl (lv_at hl 1 rfl) ?_
  refine lv_aload_n hx hb dX5_opened_1 rfl (lv_at hl 0 rfl) ?_
  refine va_get (D := D.1) (ci := 5) (v := .ref g0) (C := "ShopLedger") (T := TX5) (N := 7) hx hb hZ inX5 hown hK hP 0 rfl rfl 5 (by decide) (hZ _ t_143) (fun _ h9 => h9) rfl dX5_opened_2 ?_
  refine va_get (D := D.1) (ci := 3) (v := .int (nI n)) (C := "ShopLedger$Pieces") (T := TX3) (N := 3) hx hb hZ inX3 hown hK hP 1 rfl rfl 2 (by decide) (hZ _ t_144) (fun _ h9 => h9) rfl dX5_opened_5 ?_
  have J := zJ.mk (wc := []) (wr := [(x0, .inr (5, [.ref h0, .ref b0, .ref w0, .ref s0, .ref m0, .ref g0, .int (nI cl)])), (g0, .inr (3, [.ref g1, .ref g2, .int (nI n)]))]) hA hB hK hP hD hS [] [0, 1] rfl rfl (by decide)
  refine z_xgov (z_xrunS (As := [.int p1, .int (nI n)]) (rest := []) hF (c_cI hl9 D p1 (nI n) s.heap.size) (va_cwS 2 hZ (z_gS t_56 t_57 t_55 t_54) rfl rfl rfl (by decide +kernel) ⟨Nat.le_of_ble_eq_true rfl, Nat.le_of_ble_eq_true rfl⟩) J rfl hl.1 (Nat.le_of_ble_eq_true rfl) dX5_opened_8 ⟨Nat.le_of_ble_eq_true rfl, Nat.le_of_ble_eq_true rfl⟩) J (fun EX ce q9 H locs w1 hP hD hS hce hcv hcl => ?_) (fun _ H locs w1 hP hD hS => ?_)
  · have hP : va_P D.1 vwCl [(x0, .inr (5, [.ref h0, .ref b0, .ref w0, .ref s0, .ref m0, .ref g0, .int (nI cl)])), (g0, .inr (3, [.ref g1, .ref g2, .int (nI n)]))] H := hP
    have hD : va_D A [(x0, .inr (5, [.ref h0, .ref b0, .ref w0, .ref s0, .ref m0, .ref g0, .int (nI cl)])), (g0, .inr (3, [.ref g1, .ref g2, .int (nI n)]))] := hD
    exact z_out hnx hlocks hce hcv hcl (w1.1) hP hD hS [0, 1] rfl (by decide) (Nat.le_of_ble_eq_true rfl) (Nat.le_of_ble_eq_true rfl)
  have hP : va_P D.1 vwCl [(x0, .inr (5, [.ref h0, .ref b0, .ref w0, .ref s0, .ref m0, .ref g0, .int (nI cl)])), (g0, .inr (3, [.ref g1, .ref g2, .int (nI n)]))] H := hP
  have hD : va_D A [(x0, .inr (5, [.ref h0, .ref b0, .ref w0, .ref s0, .ref m0, .ref g0, .int (nI cl)])), (g0, .inr (3, [.ref g1, .ref g2, .int (nI n)]))] := hD
  exact absurd w1 hp
set_option maxHeartbeats 4000000 in
set_option maxRecDepth 100000 in
/-- many -/
theorem c_many {l : Launch} (hl9 : l.stackTraces = false) (D : zD) (x0 w0 s0 m0 cl h0 h1 h2 h3 h4 n g0 g1 g2 pn : Nat) (b0 b1 b2 b3 b4 b5 b6 b7 b8 b9 : Nat) (E : zE) (bt : Nat) (p1 : Int32) (sz : Nat) : vx_Met l yX5_many wsX5_many ({ frames := 6, cells := 1, slots := 6, locals := 90 }) (va_Pc [.ref x0, .int p1] (zp D sz [(x0, .inr (5, [.ref h0, .ref b0, .ref w0, .ref s0, .ref m0, .ref g0, .int (nI cl)])), (h0, .inr (1, [.ref h1, .ref h2, .ref h3, .ref h4, .int (nI n)])), (b0, .inr (0, [.ref b1, .ref b2, .ref b3, .ref b4, .ref b5, .int (nI E.1), .ref b6, .ref b7, .ref b8, .ref b9, .int (nI bt)])), (g0, .inr (3, [.ref g1, .ref g2, .int (nI pn)]))])) (va_Qi (fun r (_ : Unit) => (p1 = 0 ∧ r = nI E.1) ∨ (p1 = 1 ∧ r = nI bt) ∨ (p1 = 2 ∧ r = nI n) ∨ (p1 = 3 ∧ r = nI cl) ∨ (p1 = 4 ∧ r = nI pn)) (zq D (va_A [(x0, .inr (5, [.ref h0, .ref b0, .ref w0, .ref s0, .ref m0, .ref g0, .int (nI cl)])), (h0, .inr (1, [.ref h1, .ref h2, .ref h3, .ref h4, .int (nI n)])), (b0, .inr (0, [.ref b1, .ref b2, .ref b3, .ref b4, .ref b5, .int (nI E.1), .ref b6, .ref b7, .ref b8, .ref b9, .int (nI bt)])), (g0, .inr (3, [.ref g1, .ref g2, .int (nI pn)]))] sz) (fun (_ : Unit) => ([(x0, .inr (5, [.ref h0, .ref b0, .ref w0, .ref s0, .ref m0, .ref g0, .int (nI cl)])), (h0, .inr (1, [.ref h1, .ref h2, .ref h3, .ref h4, .int (nI n)])), (b0, .inr (0, [.ref b1, .ref b2, .ref b3, .ref b4, .ref b5, .int (nI E.1), .ref b6, .ref b7, .ref b8, .ref b9, .int (nI bt)])), (g0, .inr (3, [.ref g1, .ref g2, .int (nI pn)]))] : va_W))) (va_A [(x0, .inr (5, [.ref h0, .ref b0, .ref w0, .ref s0, .ref m0, .ref g0, .int (nI cl)])), (h0, .inr (1, [.ref h1, .ref h2, .ref h3, .ref h4, .int (nI n)])), (b0, .inr (0, [.ref b1, .ref b2, .ref b3, .ref b4, .ref b5, .int (nI E.1), .ref b6, .ref b7, .ref b8, .ref b9, .int (nI bt)])), (g0, .inr (3, [.ref g1, .ref g2, .int (nI pn)]))] sz)) (vx_X (fun _ : Unit => True) (zx D (va_A [(x0, .inr (5, [.ref h0, .ref b0, .ref w0, .ref s0, .ref m0, .ref g0, .int (nI cl)])), (h0, .inr (1, [.ref h1, .ref h2, .ref h3, .ref h4, .int (nI n)])), (b0, .inr (0, [.ref b1, .ref b2, .ref b3, .ref b4, .ref b5, .int (nI E.1), .ref b6, .ref b7, .ref b8, .ref b9, .int (nI bt)])), (g0, .inr (3, [.ref g1, .ref g2, .int (nI pn)]))] sz) [(x0, .inr (5, [.ref h0, .ref b0, .ref w0, .ref s0, .ref m0, .ref g0, .int (nI cl)])), (h0, .inr (1, [.ref h1, .ref h2, .ref h3, .ref h4, .int (nI n)])), (b0, .inr (0, [.ref b1, .ref b2, .ref b3, .ref b4, .ref b5, .int (nI E.1), .ref b6, .ref b7, .ref b8, .ref b9, .int (nI bt)])), (g0, .inr (3, [.ref g1, .ref g2, .int (nI pn)]))] (fun E9 => E9 = "java/lang/IndexOutOfBoundsException" ∧ ¬ p1 = 0 ∧ ¬ p1 = 1 ∧ ¬ p1 = 2 ∧ ¬ p1 = 3 ∧ ¬ p1 = 4)) (va_A [(x0, .inr (5, [.ref h0, .ref b0, .ref w0, .ref s0, .ref m0, .ref g0, .int (nI cl)])), (h0, .inr (1, [.ref h1, .ref h2, .ref h3, .ref h4, .int (nI n)])), (b0, .inr (0, [.ref b1, .ref b2, .ref b3, .ref b4, .ref b5, .int (nI E.1), .ref b6, .ref b7, .ref b8, .ref b9, .int (nI bt)])), (g0, .inr (3, [.ref g1, .ref g2, .int (nI pn)]))] sz)) 1 6 (va_A [(x0, .inr (5, [.ref h0, .ref b0, .ref w0, .ref s0, .ref m0, .ref g0, .int (nI cl)])), (h0, .inr (1, [.ref h1, .ref h2, .ref h3, .ref h4, .int (nI n)])), (b0, .inr (0, [.ref b1, .ref b2, .ref b3, .ref b4, .ref b5, .int (nI E.1), .ref b6, .ref b7, .ref b8, .ref b9, .int (nI bt)])), (g0, .inr (3, [.ref g1, .ref g2, .int (nI pn)]))] sz) := by
  refine vx_ofW (cc := cX5_many) (maxL := 2) (ret := (some .int)) (by decide) rfl ?_
  intro p e s m args below meth c s₁ B hml hnx hv
  obtain ⟨rfl, hsz, hP, hK, hD0, hB⟩ := hv
  have hx := B.exec
  have hb := B.bytes
  have hr := B.returns
  have hts := atoms_spec (ws := wsX5_many) B.pre
  have hown : s.vm.findClass "ShopLedger" = some m.cls := findClass_of_methodNamed B.named
  have hlocks := B.notSynchronized
  subst hsz
  have hD := hD0.self (sz := s.heap.size)
  generalize hAe : va_A [(x0, .inr (5, [.ref h0, .ref b0, .ref w0, .ref s0, .ref m0, .ref g0, .int (nI cl)])), (h0, .inr (1, [.ref h1, .ref h2, .ref h3, .ref h4, .int (nI n)])), (b0, .inr (0, [.ref b1, .ref b2, .ref b3, .ref b4, .ref b5, .int (nI E.1), .ref b6, .ref b7, .ref b8, .ref b9, .int (nI bt)])), (g0, .inr (3, [.ref g1, .ref g2, .int (nI pn)]))] s.heap.size = A at hD hB ⊢
  have hA : ∀ q : Nat, s.heap.size ≤ q → A q := fun q h => by rw [← hAe]; exact Or.inr h
  have hS : va_S A s.heap s.heap [] := va_S.rf
  have hZ : ∀ w ∈ zALL, w.before _ s = true := fun w h => hts w (List.mem_cons_of_mem _ h)
  have hF : CallFix p m c cX5_many 2 s _ zALL "ShopLedger" := ⟨hx, hb, hml, hown, hZ⟩
  have hl := lv_entry ([.ref x0, .int p1]) (n := 2) (Nat.le_of_ble_eq_true rfl)
  rw [lg_entry_eq]
  generalize (lg_sl ([.ref x0, .int p1]) ++ List.replicate (2 - (lg_sl ([.ref x0, .int p1])).length) Slot.unset).toArray = ls at hl ⊢
  have hl : lv_has ls 2 [(0, .ref x0), (1, .int p1)] := hl
  refine lv_iload_n hx hb dX5_many_0 rfl (lv_at hl 1 rfl) ?_
  rcases Classical.em (p1 = 0) with s0_ | s0_
  · refine lv_tableIn (tgt := 36) hx hb dX5_many_1 (by rw [s0_]; decide) (by rw [s0_]; decide) (by rw [s0_]; rfl) (by decide) ?_
    refine lv_aload_n hx hb dX5_many_36 rfl (lv_at hl 0 rfl) ?_
    refine va_get (D := D.1) (ci := 5) (v := .ref b0) (C := "ShopLedger") (T := TX5) (N := 7) hx hb hZ inX5 hown hK hP 0 rfl rfl 1 (by decide) (hZ _ t_50) (fun _ h9 => h9) rfl dX5_many_37 ?_
    refine va_get (D := D.1) (ci := 0) (v := .int (nI E.1)) (C := "ShopLedger$Books") (T := TX0) (N := 11) hx hb hZ inX0 hown hK hP 2 rfl rfl 5 (by decide) (hZ _ t_51) (fun _ h9 => h9) rfl dX5_many_40 ?_
    refine vx_ret ?_
    exact z_iret (v := nI E.1) hx hb hr hlocks hP hD hS () (Or.inl ⟨s0_, rfl⟩) [0, 1, 2, 3] rfl (by decide) (Nat.le_of_ble_eq_true rfl) (Nat.le_of_ble_eq_true rfl) dX5_many_43
  rcases Classical.em (p1 = 1) with s1_ | s1_
  · refine lv_tableIn (tgt := 44) hx hb dX5_many_1 (by rw [s1_]; decide) (by rw [s1_]; decide) (by rw [s1_]; rfl) (by decide) ?_
    refine lv_aload_n hx hb dX5_many_44 rfl (lv_at hl 0 rfl) ?_
    refine va_get (D := D.1) (ci := 5) (v := .ref b0) (C := "ShopLedger") (T := TX5) (N := 7) hx hb hZ inX5 hown hK hP 0 rfl rfl 1 (by decide) (hZ _ t_50) (fun _ h9 => h9) rfl dX5_many_45 ?_
    refine va_get (D := D.1) (ci := 0) (v := .int (nI bt)) (C := "ShopLedger$Books") (T := TX0) (N := 11) hx hb hZ inX0 hown hK hP 2 rfl rfl 10 (by decide) (hZ _ t_92) (fun _ h9 => h9) rfl dX5_many_48 ?_
    refine vx_ret ?_
    exact z_iret (v := nI bt) hx hb hr hlocks hP hD hS () (Or.inr (Or.inl ⟨s1_, rfl⟩)) [0, 1, 2, 3] rfl (by decide) (Nat.le_of_ble_eq_true rfl) (Nat.le_of_ble_eq_true rfl) dX5_many_51
  rcases Classical.em (p1 = 2) with s2_ | s2_
  · refine lv_tableIn (tgt := 52) hx hb dX5_many_1 (by rw [s2_]; decide) (by rw [s2_]; decide) (by rw [s2_]; rfl) (by decide) ?_
    refine lv_aload_n hx hb dX5_many_52 rfl (lv_at hl 0 rfl) ?_
    refine va_get (D := D.1) (ci := 5) (v := .ref h0) (C := "ShopLedger") (T := TX5) (N := 7) hx hb hZ inX5 hown hK hP 0 rfl rfl 0 (by decide) (hZ _ t_58) (fun _ h9 => h9) rfl dX5_many_53 ?_
    refine va_get (D := D.1) (ci := 1) (v := .int (nI n)) (C := "ShopLedger$Lines") (T := TX1) (N := 5) hx hb hZ inX1 hown hK hP 1 rfl rfl 4 (by decide) (hZ _ t_59) (fun _ h9 => h9) rfl dX5_many_56 ?_
    refine vx_ret ?_
    exact z_iret (v := nI n) hx hb hr hlocks hP hD hS () (Or.inr (Or.inr (Or.inl ⟨s2_, rfl⟩))) [0, 1, 2, 3] rfl (by decide) (Nat.le_of_ble_eq_true rfl) (Nat.le_of_ble_eq_true rfl) dX5_many_59
  rcases Classical.em (p1 = 3) with s3_ | s3_
  · refine lv_tableIn (tgt := 60) hx hb dX5_many_1 (by rw [s3_]; decide) (by rw [s3_]; decide) (by rw [s3_]; rfl) (by decide) ?_
    refine lv_aload_n hx hb dX5_many_60 rfl (lv_at hl 0 rfl) ?_
    refine va_get (D := D.1) (ci := 5) (v := .int (nI cl)) (C := "ShopLedger") (T := TX5) (N := 7) hx hb hZ inX5 hown hK hP 0 rfl rfl 6 (by decide) (hZ _ t_73) (fun _ h9 => h9) rfl dX5_many_61 ?_
    refine vx_ret ?_
    exact z_iret (v := nI cl) hx hb hr hlocks hP hD hS () (Or.inr (Or.inr (Or.inr (Or.inl ⟨s3_, rfl⟩)))) [0, 1, 2, 3] rfl (by decide) (Nat.le_of_ble_eq_true rfl) (Nat.le_of_ble_eq_true rfl) dX5_many_64
  rcases Classical.em (p1 = 4) with s4_ | s4_
  · refine lv_tableIn (tgt := 65) hx hb dX5_many_1 (by rw [s4_]; decide) (by rw [s4_]; decide) (by rw [s4_]; rfl) (by decide) ?_
    refine lv_aload_n hx hb dX5_many_65 rfl (lv_at hl 0 rfl) ?_
    refine va_get (D := D.1) (ci := 5) (v := .ref g0) (C := "ShopLedger") (T := TX5) (N := 7) hx hb hZ inX5 hown hK hP 0 rfl rfl 5 (by decide) (hZ _ t_143) (fun _ h9 => h9) rfl dX5_many_66 ?_
    refine va_get (D := D.1) (ci := 3) (v := .int (nI pn)) (C := "ShopLedger$Pieces") (T := TX3) (N := 3) hx hb hZ inX3 hown hK hP 3 rfl rfl 2 (by decide) (hZ _ t_144) (fun _ h9 => h9) rfl dX5_many_69 ?_
    refine vx_ret ?_
    exact z_iret (v := nI pn) hx hb hr hlocks hP hD hS () (Or.inr (Or.inr (Or.inr (Or.inr ⟨s4_, rfl⟩)))) [0, 1, 2, 3] rfl (by decide) (Nat.le_of_ble_eq_true rfl) (Nat.le_of_ble_eq_true rfl) dX5_many_72
  refine lv_tableOut (tgt := 73) hx hb dX5_many_1 (by have h0 := lv_neT s0_ (show (0 : Int32).toInt = 0 from rfl); have h1 := lv_neT s1_ (show (1 : Int32).toInt = 1 from rfl); have h2 := lv_neT s2_ (show (2 : Int32).toInt = 2 from rfl); have h3 := lv_neT s3_ (show (3 : Int32).toInt = 3 from rfl); have h4 := lv_neT s4_ (show (4 : Int32).toInt = 4 from rfl); omega) (by decide) ?_
  exact z_throw (own := "ShopLedger") "java/lang/IndexOutOfBoundsException" "no such what" ["java/lang/RuntimeException", "java/lang/Exception"] hx hb hl9 hnx hlocks hown (by decide +kernel) (by decide +kernel) (hZ _ t_44) (hZ _ t_45) hB (by decide +kernel) (vx_hat (L := vx_atS "ShopLedger" 121 "java/lang/IndexOutOfBoundsException" ["java/lang/RuntimeException", "java/lang/Exception"]) (B := [.castable "java/lang/IndexOutOfBoundsException" "java/lang/IndexOutOfBoundsException", .declares ⟨"java/lang/RuntimeException", "<init>", "(Ljava/lang/String;)V"⟩, .declares ⟨"java/lang/Exception", "<init>", "(Ljava/lang/String;)V"⟩, .declares ⟨"java/lang/Throwable", "<init>", "(Ljava/lang/String;)V"⟩]) (fun w hw => hZ w (t_at0 w hw)) (by decide +kernel) (vx_c (va_Nw.use rfl (hB.2.2.2.1 ("java/lang/IndexOutOfBoundsException", "java/lang/IndexOutOfBoundsException") (by decide +kernel))) (vx_c (va_Nw.use rfl (hB.2.2.2.2.1 ⟨"java/lang/RuntimeException", "<init>", "(Ljava/lang/String;)V"⟩ (by decide +kernel))) (vx_c (va_Nw.use rfl (hB.2.2.2.2.1 ⟨"java/lang/Exception", "<init>", "(Ljava/lang/String;)V"⟩ (by decide +kernel))) (vx_c (va_Nw.use rfl (hB.2.2.2.2.1 ⟨"java/lang/Throwable", "<init>", "(Ljava/lang/String;)V"⟩ (by decide +kernel))) (vx_n)))))) (by decide +kernel) (hl.1.trans hml.symm) dX5_many_73 dX5_many_76 dX5_many_77 dX5_many_79 dX5_many_82 (Nat.le_of_ble_eq_true rfl) (Nat.le_of_ble_eq_true rfl) (Nat.le_of_ble_eq_true rfl) (Nat.le_of_ble_eq_true rfl) (⟨rfl, s0_, s1_, s2_, s3_, s4_⟩) hP hD hS [0, 1, 2, 3] rfl (by decide) (Nat.le_of_ble_eq_true rfl) (Nat.le_of_ble_eq_true rfl)
set_option maxHeartbeats 4000000 in
set_option maxRecDepth 100000 in
/-- entryFact -/
theorem c_fact {l : Launch} (hl9 : l.stackTraces = false) (D : zD) (x0 h0 w0 s0 m0 g0 cl : Nat) (b0 b1 b2 b3 b4 b5 b6 b7 b8 b9 : Nat) (E : zE) (bt : Nat) (p1 p2 : Int32) (sz : Nat) (hE : E.1 ≤ 200) : vx_Met l yX5_entryFact wsX5_entryFact ({ frames := 7, cells := 2, slots := 12, locals := 111 }) (va_Pc [.ref x0, .int p1, .int p2] (zp D sz [(x0, .inr (5, [.ref h0, .ref b0, .ref w0, .ref s0, .ref m0, .ref g0, .int (nI cl)])), (b0, .inr (0, [.ref b1, .ref b2, .ref b3, .ref b4, .ref b5, .int (nI E.1), .ref b6, .ref b7, .ref b8, .ref b9, .int (nI bt)])), (b1, .inl (D.2 0, 200, .inl E.2.1)), (b2, .inl (D.2 0, 200, .inl E.2.2.1)), (b3, .inl (D.2 0, 200, .inl E.2.2.2.1)), (b4, .inl (D.2 0, 200, .inl E.2.2.2.2.1)), (b5, .inl (D.2 0, 200, .inl E.2.2.2.2.2.1))])) (va_Ql (fun r (_ : Unit) => zin p2 (nI E.1) ∧ ((p1 = 3 ∧ r = (E.2.2.2.2.1 p2.toNatClampNeg).toInt64) ∨ (p1 = 4 ∧ r = (E.2.1 p2.toNatClampNeg).toInt64) ∨ (p1 = 5 ∧ r = (E.2.2.1 p2.toNatClampNeg).toInt64) ∨ (p1 = 6 ∧ r = (E.2.2.2.1 p2.toNatClampNeg).toInt64) ∨ (p1 = 7 ∧ r = (E.2.2.2.2.2.1 p2.toNatClampNeg).toInt64))) (zq D (va_A [(x0, .inr (5, [.ref h0, .ref b0, .ref w0, .ref s0, .ref m0, .ref g0, .int (nI cl)])), (b0, .inr (0, [.ref b1, .ref b2, .ref b3, .ref b4, .ref b5, .int (nI E.1), .ref b6, .ref b7, .ref b8, .ref b9, .int (nI bt)])), (b1, .inl (D.2 0, 200, .inl E.2.1)), (b2, .inl (D.2 0, 200, .inl E.2.2.1)), (b3, .inl (D.2 0, 200, .inl E.2.2.2.1)), (b4, .inl (D.2 0, 200, .inl E.2.2.2.2.1)), (b5, .inl (D.2 0, 200, .inl E.2.2.2.2.2.1))] sz) (fun (_ : Unit) => ([(x0, .inr (5, [.ref h0, .ref b0, .ref w0, .ref s0, .ref m0, .ref g0, .int (nI cl)])), (b0, .inr (0, [.ref b1, .ref b2, .ref b3, .ref b4, .ref b5, .int (nI E.1), .ref b6, .ref b7, .ref b8, .ref b9, .int (nI bt)])), (b1, .inl (D.2 0, 200, .inl E.2.1)), (b2, .inl (D.2 0, 200, .inl E.2.2.1)), (b3, .inl (D.2 0, 200, .inl E.2.2.2.1)), (b4, .inl (D.2 0, 200, .inl E.2.2.2.2.1)), (b5, .inl (D.2 0, 200, .inl E.2.2.2.2.2.1))] : va_W))) (va_A [(x0, .inr (5, [.ref h0, .ref b0, .ref w0, .ref s0, .ref m0, .ref g0, .int (nI cl)])), (b0, .inr (0, [.ref b1, .ref b2, .ref b3, .ref b4, .ref b5, .int (nI E.1), .ref b6, .ref b7, .ref b8, .ref b9, .int (nI bt)])), (b1, .inl (D.2 0, 200, .inl E.2.1)), (b2, .inl (D.2 0, 200, .inl E.2.2.1)), (b3, .inl (D.2 0, 200, .inl E.2.2.2.1)), (b4, .inl (D.2 0, 200, .inl E.2.2.2.2.1)), (b5, .inl (D.2 0, 200, .inl E.2.2.2.2.2.1))] sz)) (vx_X (fun _ : Unit => True) (zx D (va_A [(x0, .inr (5, [.ref h0, .ref b0, .ref w0, .ref s0, .ref m0, .ref g0, .int (nI cl)])), (b0, .inr (0, [.ref b1, .ref b2, .ref b3, .ref b4, .ref b5, .int (nI E.1), .ref b6, .ref b7, .ref b8, .ref b9, .int (nI bt)])), (b1, .inl (D.2 0, 200, .inl E.2.1)), (b2, .inl (D.2 0, 200, .inl E.2.2.1)), (b3, .inl (D.2 0, 200, .inl E.2.2.2.1)), (b4, .inl (D.2 0, 200, .inl E.2.2.2.2.1)), (b5, .inl (D.2 0, 200, .inl E.2.2.2.2.2.1))] sz) [(x0, .inr (5, [.ref h0, .ref b0, .ref w0, .ref s0, .ref m0, .ref g0, .int (nI cl)])), (b0, .inr (0, [.ref b1, .ref b2, .ref b3, .ref b4, .ref b5, .int (nI E.1), .ref b6, .ref b7, .ref b8, .ref b9, .int (nI bt)])), (b1, .inl (D.2 0, 200, .inl E.2.1)), (b2, .inl (D.2 0, 200, .inl E.2.2.1)), (b3, .inl (D.2 0, 200, .inl E.2.2.2.1)), (b4, .inl (D.2 0, 200, .inl E.2.2.2.2.1)), (b5, .inl (D.2 0, 200, .inl E.2.2.2.2.2.1))] (fun E9 => E9 = "java/lang/IndexOutOfBoundsException" ∧ ¬ (zin p2 (nI E.1) ∧ (p1 = 3 ∨ p1 = 4 ∨ p1 = 5 ∨ p1 = 6 ∨ p1 = 7)))) (va_A [(x0, .inr (5, [.ref h0, .ref b0, .ref w0, .ref s0, .ref m0, .ref g0, .int (nI cl)])), (b0, .inr (0, [.ref b1, .ref b2, .ref b3, .ref b4, .ref b5, .int (nI E.1), .ref b6, .ref b7, .ref b8, .ref b9, .int (nI bt)])), (b1, .inl (D.2 0, 200, .inl E.2.1)), (b2, .inl (D.2 0, 200, .inl E.2.2.1)), (b3, .inl (D.2 0, 200, .inl E.2.2.2.1)), (b4, .inl (D.2 0, 200, .inl E.2.2.2.2.1)), (b5, .inl (D.2 0, 200, .inl E.2.2.2.2.2.1))] sz)) 2 12 (va_A [(x0, .inr (5, [.ref h0, .ref b0, .ref w0, .ref s0, .ref m0, .ref g0, .int (nI cl)])), (b0, .inr (0, [.ref b1, .ref b2, .ref b3, .ref b4, .ref b5, .int (nI E.1), .ref b6, .ref b7, .ref b8, .ref b9, .int (nI bt)])), (b1, .inl (D.2 0, 200, .inl E.2.1)), (b2, .inl (D.2 0, 200, .inl E.2.2.1)), (b3, .inl (D.2 0, 200, .inl E.2.2.2.1)), (b4, .inl (D.2 0, 200, .inl E.2.2.2.2.1)), (b5, .inl (D.2 0, 200, .inl E.2.2.2.2.2.1))] sz) := by
  refine vx_ofW (cc := cX5_entryFact) (maxL := 3) (ret := (some .long)) (by decide) rfl ?_
  intro p e s m args below meth c s₁ B hml hnx hv
  obtain ⟨rfl, hsz, hP, hK, hD0, hB⟩ := hv
  have hx := B.exec
  have hb := B.bytes
  have hr := B.returns
  have hts := atoms_spec (ws := wsX5_entryFact) B.pre
  have hown : s.vm.findClass "ShopLedger" = some m.cls := findClass_of_methodNamed B.named
  have hlocks := B.notSynchronized
  subst hsz
  have hD := hD0.self (sz := s.heap.size)
  generalize hAe : va_A [(x0, .inr (5, [.ref h0, .ref b0, .ref w0, .ref s0, .ref m0, .ref g0, .int (nI cl)])), (b0, .inr (0, [.ref b1, .ref b2, .ref b3, .ref b4, .ref b5, .int (nI E.1), .ref b6, .ref b7, .ref b8, .ref b9, .int (nI bt)])), (b1, .inl (D.2 0, 200, .inl E.2.1)), (b2, .inl (D.2 0, 200, .inl E.2.2.1)), (b3, .inl (D.2 0, 200, .inl E.2.2.2.1)), (b4, .inl (D.2 0, 200, .inl E.2.2.2.2.1)), (b5, .inl (D.2 0, 200, .inl E.2.2.2.2.2.1))] s.heap.size = A at hD hB ⊢
  have hA : ∀ q : Nat, s.heap.size ≤ q → A q := fun q h => by rw [← hAe]; exact Or.inr h
  have hS : va_S A s.heap s.heap [] := va_S.rf
  have hZ : ∀ w ∈ zALL, w.before _ s = true := fun w h => hts w (List.mem_cons_of_mem _ h)
  have hF : CallFix p m c cX5_entryFact 3 s _ zALL "ShopLedger" := ⟨hx, hb, hml, hown, hZ⟩
  have hl := lv_entry ([.ref x0, .int p1, .int p2]) (n := 3) (Nat.le_of_ble_eq_true rfl)
  rw [lg_entry_eq]
  generalize (lg_sl ([.ref x0, .int p1, .int p2]) ++ List.replicate (3 - (lg_sl ([.ref x0, .int p1, .int p2])).length) Slot.unset).toArray = ls at hl ⊢
  have hl : lv_has ls 3 [(0, .ref x0), (1, .int p1), (2, .int p2)] := hl
  refine lv_iload_n hx hb dX5_entryFact_0 rfl (lv_at hl 2 rfl) ?_
  refine lv_aload_n hx hb dX5_entryFact_1 rfl (lv_at hl 0 rfl) ?_
  refine va_get (D := D.1) (ci := 5) (v := .ref b0) (C := "ShopLedger") (T := TX5) (N := 7) hx hb hZ inX5 hown hK hP 0 rfl rfl 1 (by decide) (hZ _ t_50) (fun _ h9 => h9) rfl dX5_entryFact_2 ?_
  refine va_get (D := D.1) (ci := 0) (v := .int (nI E.1)) (C := "ShopLedger$Books") (T := TX0) (N := 11) hx hb hZ inX0 hown hK hP 1 rfl rfl 5 (by decide) (hZ _ t_51) (fun _ h9 => h9) rfl dX5_entryFact_5 ?_
  have J := zJ.mk (wc := []) (wr := [(x0, .inr (5, [.ref h0, .ref b0, .ref w0, .ref s0, .ref m0, .ref g0, .int (nI cl)])), (b0, .inr (0, [.ref b1, .ref b2, .ref b3, .ref b4, .ref b5, .int (nI E.1), .ref b6, .ref b7, .ref b8, .ref b9, .int (nI bt)])), (b1, .inl (D.2 0, 200, .inl E.2.1)), (b2, .inl (D.2 0, 200, .inl E.2.2.1)), (b3, .inl (D.2 0, 200, .inl E.2.2.2.1)), (b4, .inl (D.2 0, 200, .inl E.2.2.2.2.1)), (b5, .inl (D.2 0, 200, .inl E.2.2.2.2.2.1))]) hA hB hK hP hD hS [] [0, 1, 2, 3, 4, 5, 6] rfl rfl (by decide)
  refine z_xgov (z_xrunS (As := [.int p2, .int (nI E.1)]) (rest := []) hF (c_cI hl9 D p2 (nI E.1) s.heap.size) (va_cwS 2 hZ (z_gS t_56 t_57 t_55 t_54) rfl rfl rfl (by decide +kernel) ⟨Nat.le_of_ble_eq_true rfl, Nat.le_of_ble_eq_true rfl⟩) J rfl hl.1 (Nat.le_of_ble_eq_true rfl) dX5_entryFact_8 ⟨Nat.le_of_ble_eq_true rfl, Nat.le_of_ble_eq_true rfl⟩) J (fun EX ce q9 H locs w1 hP hD hS hce hcv hcl => ?_) (fun _ H locs w1 hP hD hS => ?_)
  · have hP : va_P D.1 vwCl [(x0, .inr (5, [.ref h0, .ref b0, .ref w0, .ref s0, .ref m0, .ref g0, .int (nI cl)])), (b0, .inr (0, [.ref b1, .ref b2, .ref b3, .ref b4, .ref b5, .int (nI E.1), .ref b6, .ref b7, .ref b8, .ref b9, .int (nI bt)])), (b1, .inl (D.2 0, 200, .inl E.2.1)), (b2, .inl (D.2 0, 200, .inl E.2.2.1)), (b3, .inl (D.2 0, 200, .inl E.2.2.2.1)), (b4, .inl (D.2 0, 200, .inl E.2.2.2.2.1)), (b5, .inl (D.2 0, 200, .inl E.2.2.2.2.2.1))] H := hP
    have hD : va_D A [(x0, .inr (5, [.ref h0, .ref b0, .ref w0, .ref s0, .ref m0, .ref g0, .int (nI cl)])), (b0, .inr (0, [.ref b1, .ref b2, .ref b3, .ref b4, .ref b5, .int (nI E.1), .ref b6, .ref b7, .ref b8, .ref b9, .int (nI bt)])), (b1, .inl (D.2 0, 200, .inl E.2.1)), (b2, .inl (D.2 0, 200, .inl E.2.2.1)), (b3, .inl (D.2 0, 200, .inl E.2.2.2.1)), (b4, .inl (D.2 0, 200, .inl E.2.2.2.2.1)), (b5, .inl (D.2 0, 200, .inl E.2.2.2.2.2.1))] := hD
    exact z_out hnx hlocks hce hcv hcl (⟨w1.1, fun h => w1.2.elim h.1.1 h.1.2⟩) hP hD hS [0, 1, 2, 3, 4, 5, 6] rfl (by decide) (Nat.le_of_ble_eq_true rfl) (Nat.le_of_ble_eq_true rfl)
  have hP : va_P D.1 vwCl [(x0, .inr (5, [.ref h0, .ref b0, .ref w0, .ref s0, .ref m0, .ref g0, .int (nI cl)])), (b0, .inr (0, [.ref b1, .ref b2, .ref b3, .ref b4, .ref b5, .int (nI E.1), .ref b6, .ref b7, .ref b8, .ref b9, .int (nI bt)])), (b1, .inl (D.2 0, 200, .inl E.2.1)), (b2, .inl (D.2 0, 200, .inl E.2.2.1)), (b3, .inl (D.2 0, 200, .inl E.2.2.2.1)), (b4, .inl (D.2 0, 200, .inl E.2.2.2.2.1)), (b5, .inl (D.2 0, 200, .inl E.2.2.2.2.2.1))] H := hP
  have hD : va_D A [(x0, .inr (5, [.ref h0, .ref b0, .ref w0, .ref s0, .ref m0, .ref g0, .int (nI cl)])), (b0, .inr (0, [.ref b1, .ref b2, .ref b3, .ref b4, .ref b5, .int (nI E.1), .ref b6, .ref b7, .ref b8, .ref b9, .int (nI bt)])), (b1, .inl (D.2 0, 200, .inl E.2.1)), (b2, .inl (D.2 0, 200, .inl E.2.2.1)), (b3, .inl (D.2 0, 200, .inl E.2.2.2.1)), (b4, .inl (D.2 0, 200, .inl E.2.2.2.2.1)), (b5, .inl (D.2 0, 200, .inl E.2.2.2.2.2.1))] := hD
  refine lv_iload_n hx hb dX5_entryFact_11 rfl (lv_at hl 1 rfl) ?_
  rcases Classical.em (p1 = 3) with s3_ | s3_
  · refine lv_tableIn (tgt := 48) hx hb dX5_entryFact_12 (by rw [s3_]; decide) (by rw [s3_]; decide) (by rw [s3_]; rfl) (by decide) ?_
    refine lv_aload_n hx hb dX5_entryFact_48 rfl (lv_at hl 0 rfl) ?_
    refine va_get (D := D.1) (ci := 5) (v := .ref b0) (C := "ShopLedger") (T := TX5) (N := 7) hx hb hZ inX5 hown hK hP 0 rfl rfl 1 (by decide) (hZ _ t_50) (fun _ h9 => h9) rfl dX5_entryFact_49 ?_
    refine va_get (D := D.1) (ci := 0) (v := .ref b4) (C := "ShopLedger$Books") (T := TX0) (N := 11) hx hb hZ inX0 hown hK hP 1 rfl rfl 3 (by decide) (hZ _ t_157) (fun _ h9 => h9) rfl dX5_entryFact_52 ?_
    refine lv_iload_n hx hb dX5_entryFact_55 rfl (lv_at hl 2 rfl) ?_
    refine va_iald hx hb hK hP 5 0 rfl rfl (z_vle (z_viN (by omega) w1) hE) dX5_entryFact_56 ?_
    refine lv_i2l (v := (E.2.2.2.2.1 p2.toNatClampNeg).toInt64) hx hb dX5_entryFact_57 rfl ?_
    refine vx_ret ?_
    exact z_lret (v := (E.2.2.2.2.1 p2.toNatClampNeg).toInt64) hx hb hr hlocks hP hD hS () (⟨w1, Or.inl ⟨s3_, rfl⟩⟩) [0, 1, 2, 3, 4, 5, 6] rfl (by decide) (Nat.le_of_ble_eq_true rfl) (Nat.le_of_ble_eq_true rfl) dX5_entryFact_58
  rcases Classical.em (p1 = 4) with s4_ | s4_
  · refine lv_tableIn (tgt := 59) hx hb dX5_entryFact_12 (by rw [s4_]; decide) (by rw [s4_]; decide) (by rw [s4_]; rfl) (by decide) ?_
    refine lv_aload_n hx hb dX5_entryFact_59 rfl (lv_at hl 0 rfl) ?_
    refine va_get (D := D.1) (ci := 5) (v := .ref b0) (C := "ShopLedger") (T := TX5) (N := 7) hx hb hZ inX5 hown hK hP 0 rfl rfl 1 (by decide) (hZ _ t_50) (fun _ h9 => h9) rfl dX5_entryFact_60 ?_
    refine va_get (D := D.1) (ci := 0) (v := .ref b1) (C := "ShopLedger$Books") (T := TX0) (N := 11) hx hb hZ inX0 hown hK hP 1 rfl rfl 0 (by decide) (hZ _ t_158) (fun _ h9 => h9) rfl dX5_entryFact_63 ?_
    refine lv_iload_n hx hb dX5_entryFact_66 rfl (lv_at hl 2 rfl) ?_
    refine va_iald hx hb hK hP 2 0 rfl rfl (z_vle (z_viN (by omega) w1) hE) dX5_entryFact_67 ?_
    refine lv_i2l (v := (E.2.1 p2.toNatClampNeg).toInt64) hx hb dX5_entryFact_68 rfl ?_
    refine vx_ret ?_
    exact z_lret (v := (E.2.1 p2.toNatClampNeg).toInt64) hx hb hr hlocks hP hD hS () (⟨w1, Or.inr (Or.inl ⟨s4_, rfl⟩)⟩) [0, 1, 2, 3, 4, 5, 6] rfl (by decide) (Nat.le_of_ble_eq_true rfl) (Nat.le_of_ble_eq_true rfl) dX5_entryFact_69
  rcases Classical.em (p1 = 5) with s5_ | s5_
  · refine lv_tableIn (tgt := 70) hx hb dX5_entryFact_12 (by rw [s5_]; decide) (by rw [s5_]; decide) (by rw [s5_]; rfl) (by decide) ?_
    refine lv_aload_n hx hb dX5_entryFact_70 rfl (lv_at hl 0 rfl) ?_
    refine va_get (D := D.1) (ci := 5) (v := .ref b0) (C := "ShopLedger") (T := TX5) (N := 7) hx hb hZ inX5 hown hK hP 0 rfl rfl 1 (by decide) (hZ _ t_50) (fun _ h9 => h9) rfl dX5_entryFact_71 ?_
    refine va_get (D := D.1) (ci := 0) (v := .ref b2) (C := "ShopLedger$Books") (T := TX0) (N := 11) hx hb hZ inX0 hown hK hP 1 rfl rfl 1 (by decide) (hZ _ t_159) (fun _ h9 => h9) rfl dX5_entryFact_74 ?_
    refine lv_iload_n hx hb dX5_entryFact_77 rfl (lv_at hl 2 rfl) ?_
    refine va_iald hx hb hK hP 3 0 rfl rfl (z_vle (z_viN (by omega) w1) hE) dX5_entryFact_78 ?_
    refine lv_i2l (v := (E.2.2.1 p2.toNatClampNeg).toInt64) hx hb dX5_entryFact_79 rfl ?_
    refine vx_ret ?_
    exact z_lret (v := (E.2.2.1 p2.toNatClampNeg).toInt64) hx hb hr hlocks hP hD hS () (⟨w1, Or.inr (Or.inr (Or.inl ⟨s5_, rfl⟩))⟩) [0, 1, 2, 3, 4, 5, 6] rfl (by decide) (Nat.le_of_ble_eq_true rfl) (Nat.le_of_ble_eq_true rfl) dX5_entryFact_80
  rcases Classical.em (p1 = 6) with s6_ | s6_
  · refine lv_tableIn (tgt := 81) hx hb dX5_entryFact_12 (by rw [s6_]; decide) (by rw [s6_]; decide) (by rw [s6_]; rfl) (by decide) ?_
    refine lv_aload_n hx hb dX5_entryFact_81 rfl (lv_at hl 0 rfl) ?_
    refine va_get (D := D.1) (ci := 5) (v := .ref b0) (C := "ShopLedger") (T := TX5) (N := 7) hx hb hZ inX5 hown hK hP 0 rfl rfl 1 (by decide) (hZ _ t_50) (fun _ h9 => h9) rfl dX5_entryFact_82 ?_
    refine va_get (D := D.1) (ci := 0) (v := .ref b3) (C := "ShopLedger$Books") (T := TX0) (N := 11) hx hb hZ inX0 hown hK hP 1 rfl rfl 2 (by decide) (hZ _ t_160) (fun _ h9 => h9) rfl dX5_entryFact_85 ?_
    refine lv_iload_n hx hb dX5_entryFact_88 rfl (lv_at hl 2 rfl) ?_
    refine va_iald hx hb hK hP 4 0 rfl rfl (z_vle (z_viN (by omega) w1) hE) dX5_entryFact_89 ?_
    refine lv_i2l (v := (E.2.2.2.1 p2.toNatClampNeg).toInt64) hx hb dX5_entryFact_90 rfl ?_
    refine vx_ret ?_
    exact z_lret (v := (E.2.2.2.1 p2.toNatClampNeg).toInt64) hx hb hr hlocks hP hD hS () (⟨w1, Or.inr (Or.inr (Or.inr (Or.inl ⟨s6_, rfl⟩)))⟩) [0, 1, 2, 3, 4, 5, 6] rfl (by decide) (Nat.le_of_ble_eq_true rfl) (Nat.le_of_ble_eq_true rfl) dX5_entryFact_91
  rcases Classical.em (p1 = 7) with s7_ | s7_
  · refine lv_tableIn (tgt := 92) hx hb dX5_entryFact_12 (by rw [s7_]; decide) (by rw [s7_]; decide) (by rw [s7_]; rfl) (by decide) ?_
    refine lv_aload_n hx hb dX5_entryFact_92 rfl (lv_at hl 0 rfl) ?_
    refine va_get (D := D.1) (ci := 5) (v := .ref b0) (C := "ShopLedger") (T := TX5) (N := 7) hx hb hZ inX5 hown hK hP 0 rfl rfl 1 (by decide) (hZ _ t_50) (fun _ h9 => h9) rfl dX5_entryFact_93 ?_
    refine va_get (D := D.1) (ci := 0) (v := .ref b5) (C := "ShopLedger$Books") (T := TX0) (N := 11) hx hb hZ inX0 hown hK hP 1 rfl rfl 4 (by decide) (hZ _ t_161) (fun _ h9 => h9) rfl dX5_entryFact_96 ?_
    refine lv_iload_n hx hb dX5_entryFact_99 rfl (lv_at hl 2 rfl) ?_
    refine va_iald hx hb hK hP 6 0 rfl rfl (z_vle (z_viN (by omega) w1) hE) dX5_entryFact_100 ?_
    refine lv_i2l (v := (E.2.2.2.2.2.1 p2.toNatClampNeg).toInt64) hx hb dX5_entryFact_101 rfl ?_
    refine vx_ret ?_
    exact z_lret (v := (E.2.2.2.2.2.1 p2.toNatClampNeg).toInt64) hx hb hr hlocks hP hD hS () (⟨w1, Or.inr (Or.inr (Or.inr (Or.inr (⟨s7_, rfl⟩))))⟩) [0, 1, 2, 3, 4, 5, 6] rfl (by decide) (Nat.le_of_ble_eq_true rfl) (Nat.le_of_ble_eq_true rfl) dX5_entryFact_102
  refine lv_tableOut (tgt := 103) hx hb dX5_entryFact_12 (by have h3 := lv_neT s3_ (show (3 : Int32).toInt = 3 from rfl); have h4 := lv_neT s4_ (show (4 : Int32).toInt = 4 from rfl); have h5 := lv_neT s5_ (show (5 : Int32).toInt = 5 from rfl); have h6 := lv_neT s6_ (show (6 : Int32).toInt = 6 from rfl); have h7 := lv_neT s7_ (show (7 : Int32).toInt = 7 from rfl); omega) (by decide) ?_
  exact z_throw (own := "ShopLedger") "java/lang/IndexOutOfBoundsException" "no such what" ["java/lang/RuntimeException", "java/lang/Exception"] hx hb hl9 hnx hlocks hown (by decide +kernel) (by decide +kernel) (hZ _ t_44) (hZ _ t_45) hB (by decide +kernel) (vx_hat (L := vx_atS "ShopLedger" 121 "java/lang/IndexOutOfBoundsException" ["java/lang/RuntimeException", "java/lang/Exception"]) (B := [.castable "java/lang/IndexOutOfBoundsException" "java/lang/IndexOutOfBoundsException", .declares ⟨"java/lang/RuntimeException", "<init>", "(Ljava/lang/String;)V"⟩, .declares ⟨"java/lang/Exception", "<init>", "(Ljava/lang/String;)V"⟩, .declares ⟨"java/lang/Throwable", "<init>", "(Ljava/lang/String;)V"⟩]) (fun w hw => hZ w (t_at0 w hw)) (by decide +kernel) (vx_c (va_Nw.use rfl (hB.2.2.2.1 ("java/lang/IndexOutOfBoundsException", "java/lang/IndexOutOfBoundsException") (by decide +kernel))) (vx_c (va_Nw.use rfl (hB.2.2.2.2.1 ⟨"java/lang/RuntimeException", "<init>", "(Ljava/lang/String;)V"⟩ (by decide +kernel))) (vx_c (va_Nw.use rfl (hB.2.2.2.2.1 ⟨"java/lang/Exception", "<init>", "(Ljava/lang/String;)V"⟩ (by decide +kernel))) (vx_c (va_Nw.use rfl (hB.2.2.2.2.1 ⟨"java/lang/Throwable", "<init>", "(Ljava/lang/String;)V"⟩ (by decide +kernel))) (vx_n)))))) (by decide +kernel) (hl.1.trans hml.symm) dX5_entryFact_103 dX5_entryFact_106 dX5_entryFact_107 dX5_entryFact_109 dX5_entryFact_112 (Nat.le_of_ble_eq_true rfl) (Nat.le_of_ble_eq_true rfl) (Nat.le_of_ble_eq_true rfl) (Nat.le_of_ble_eq_true rfl) (⟨rfl, fun h => h.2.elim s3_ (fun h => h.elim s4_ (fun h => h.elim s5_ (fun h => h.elim s6_ s7_)))⟩) hP hD hS [0, 1, 2, 3, 4, 5, 6] rfl (by decide) (Nat.le_of_ble_eq_true rfl) (Nat.le_of_ble_eq_true rfl)
set_option maxHeartbeats 4000000 in
set_option maxRecDepth 100000 in
/-- told -/
theorem c_told {l : Launch} (hl9 : l.stackTraces = false) (D : zD) (x0 h0 w0 s0 m0 g0 cl : Nat) (b0 b1 b2 b3 b4 b5 b6 b7 b8 b9 : Nat) (E : zE) (bt : Nat) (p1 p2 : Int32) (sz : Nat) (hE : E.1 ≤ 200) : vx_Met l yX5_told wsX5_told ({ frames := 8, cells := 2, slots := 12, locals := 133 }) (va_Pc [.ref x0, .int p1, .int p2] (zp D sz [(x0, .inr (5, [.ref h0, .ref b0, .ref w0, .ref s0, .ref m0, .ref g0, .int (nI cl)])), (b0, .inr (0, [.ref b1, .ref b2, .ref b3, .ref b4, .ref b5, .int (nI E.1), .ref b6, .ref b7, .ref b8, .ref b9, .int (nI bt)])), (b1, .inl (D.2 0, 200, .inl E.2.1)), (b2, .inl (D.2 0, 200, .inl E.2.2.1)), (b3, .inl (D.2 0, 200, .inl E.2.2.2.1)), (b4, .inl (D.2 0, 200, .inl E.2.2.2.2.1)), (b5, .inl (D.2 0, 200, .inl E.2.2.2.2.2.1)), (b6, .inl (D.2 1, 8, .inr (.inl E.2.2.2.2.2.2.1))), (b7, .inl (D.2 1, 8, .inr (.inl E.2.2.2.2.2.2.2.1))), (b8, .inl (D.2 1, 12, .inr (.inl E.2.2.2.2.2.2.2.2)))])) (va_Ql (fun r (_ : Unit) => (p1 = 0 ∧ zin p2 8 ∧ r = E.2.2.2.2.2.2.1 p2.toNatClampNeg) ∨ (p1 = 1 ∧ zin p2 8 ∧ r = E.2.2.2.2.2.2.2.1 p2.toNatClampNeg) ∨ (p1 = 2 ∧ zin p2 12 ∧ r = E.2.2.2.2.2.2.2.2 p2.toNatClampNeg) ∨ (zin p2 (nI E.1) ∧ ((p1 = 3 ∧ r = (E.2.2.2.2.1 p2.toNatClampNeg).toInt64) ∨ (p1 = 4 ∧ r = (E.2.1 p2.toNatClampNeg).toInt64) ∨ (p1 = 5 ∧ r = (E.2.2.1 p2.toNatClampNeg).toInt64) ∨ (p1 = 6 ∧ r = (E.2.2.2.1 p2.toNatClampNeg).toInt64) ∨ (p1 = 7 ∧ r = (E.2.2.2.2.2.1 p2.toNatClampNeg).toInt64)))) (zq D (va_A [(x0, .inr (5, [.ref h0, .ref b0, .ref w0, .ref s0, .ref m0, .ref g0, .int (nI cl)])), (b0, .inr (0, [.ref b1, .ref b2, .ref b3, .ref b4, .ref b5, .int (nI E.1), .ref b6, .ref b7, .ref b8, .ref b9, .int (nI bt)])), (b1, .inl (D.2 0, 200, .inl E.2.1)), (b2, .inl (D.2 0, 200, .inl E.2.2.1)), (b3, .inl (D.2 0, 200, .inl E.2.2.2.1)), (b4, .inl (D.2 0, 200, .inl E.2.2.2.2.1)), (b5, .inl (D.2 0, 200, .inl E.2.2.2.2.2.1)), (b6, .inl (D.2 1, 8, .inr (.inl E.2.2.2.2.2.2.1))), (b7, .inl (D.2 1, 8, .inr (.inl E.2.2.2.2.2.2.2.1))), (b8, .inl (D.2 1, 12, .inr (.inl E.2.2.2.2.2.2.2.2)))] sz) (fun (_ : Unit) => ([(x0, .inr (5, [.ref h0, .ref b0, .ref w0, .ref s0, .ref m0, .ref g0, .int (nI cl)])), (b0, .inr (0, [.ref b1, .ref b2, .ref b3, .ref b4, .ref b5, .int (nI E.1), .ref b6, .ref b7, .ref b8, .ref b9, .int (nI bt)])), (b1, .inl (D.2 0, 200, .inl E.2.1)), (b2, .inl (D.2 0, 200, .inl E.2.2.1)), (b3, .inl (D.2 0, 200, .inl E.2.2.2.1)), (b4, .inl (D.2 0, 200, .inl E.2.2.2.2.1)), (b5, .inl (D.2 0, 200, .inl E.2.2.2.2.2.1)), (b6, .inl (D.2 1, 8, .inr (.inl E.2.2.2.2.2.2.1))), (b7, .inl (D.2 1, 8, .inr (.inl E.2.2.2.2.2.2.2.1))), (b8, .inl (D.2 1, 12, .inr (.inl E.2.2.2.2.2.2.2.2)))] : va_W))) (va_A [(x0, .inr (5, [.ref h0, .ref b0, .ref w0, .ref s0, .ref m0, .ref g0, .int (nI cl)])), (b0, .inr (0, [.ref b1, .ref b2, .ref b3, .ref b4, .ref b5, .int (nI E.1), .ref b6, .ref b7, .ref b8, .ref b9, .int (nI bt)])), (b1, .inl (D.2 0, 200, .inl E.2.1)), (b2, .inl (D.2 0, 200, .inl E.2.2.1)), (b3, .inl (D.2 0, 200, .inl E.2.2.2.1)), (b4, .inl (D.2 0, 200, .inl E.2.2.2.2.1)), (b5, .inl (D.2 0, 200, .inl E.2.2.2.2.2.1)), (b6, .inl (D.2 1, 8, .inr (.inl E.2.2.2.2.2.2.1))), (b7, .inl (D.2 1, 8, .inr (.inl E.2.2.2.2.2.2.2.1))), (b8, .inl (D.2 1, 12, .inr (.inl E.2.2.2.2.2.2.2.2)))] sz)) (vx_X (fun _ : Unit => True) (zx D (va_A [(x0, .inr (5, [.ref h0, .ref b0, .ref w0, .ref s0, .ref m0, .ref g0, .int (nI cl)])), (b0, .inr (0, [.ref b1, .ref b2, .ref b3, .ref b4, .ref b5, .int (nI E.1), .ref b6, .ref b7, .ref b8, .ref b9, .int (nI bt)])), (b1, .inl (D.2 0, 200, .inl E.2.1)), (b2, .inl (D.2 0, 200, .inl E.2.2.1)), (b3, .inl (D.2 0, 200, .inl E.2.2.2.1)), (b4, .inl (D.2 0, 200, .inl E.2.2.2.2.1)), (b5, .inl (D.2 0, 200, .inl E.2.2.2.2.2.1)), (b6, .inl (D.2 1, 8, .inr (.inl E.2.2.2.2.2.2.1))), (b7, .inl (D.2 1, 8, .inr (.inl E.2.2.2.2.2.2.2.1))), (b8, .inl (D.2 1, 12, .inr (.inl E.2.2.2.2.2.2.2.2)))] sz) [(x0, .inr (5, [.ref h0, .ref b0, .ref w0, .ref s0, .ref m0, .ref g0, .int (nI cl)])), (b0, .inr (0, [.ref b1, .ref b2, .ref b3, .ref b4, .ref b5, .int (nI E.1), .ref b6, .ref b7, .ref b8, .ref b9, .int (nI bt)])), (b1, .inl (D.2 0, 200, .inl E.2.1)), (b2, .inl (D.2 0, 200, .inl E.2.2.1)), (b3, .inl (D.2 0, 200, .inl E.2.2.2.1)), (b4, .inl (D.2 0, 200, .inl E.2.2.2.2.1)), (b5, .inl (D.2 0, 200, .inl E.2.2.2.2.2.1)), (b6, .inl (D.2 1, 8, .inr (.inl E.2.2.2.2.2.2.1))), (b7, .inl (D.2 1, 8, .inr (.inl E.2.2.2.2.2.2.2.1))), (b8, .inl (D.2 1, 12, .inr (.inl E.2.2.2.2.2.2.2.2)))] (fun E9 => E9 = "java/lang/IndexOutOfBoundsException" ∧ ¬ (p1 = 0 ∧ zin p2 8) ∧ ¬ (p1 = 1 ∧ zin p2 8) ∧ ¬ (p1 = 2 ∧ zin p2 12) ∧ ¬ (zin p2 (nI E.1) ∧ (p1 = 3 ∨ p1 = 4 ∨ p1 = 5 ∨ p1 = 6 ∨ p1 = 7)))) (va_A [(x0, .inr (5, [.ref h0, .ref b0, .ref w0, .ref s0, .ref m0, .ref g0, .int (nI cl)])), (b0, .inr (0, [.ref b1, .ref b2, .ref b3, .ref b4, .ref b5, .int (nI E.1), .ref b6, .ref b7, .ref b8, .ref b9, .int (nI bt)])), (b1, .inl (D.2 0, 200, .inl E.2.1)), (b2, .inl (D.2 0, 200, .inl E.2.2.1)), (b3, .inl (D.2 0, 200, .inl E.2.2.2.1)), (b4, .inl (D.2 0, 200, .inl E.2.2.2.2.1)), (b5, .inl (D.2 0, 200, .inl E.2.2.2.2.2.1)), (b6, .inl (D.2 1, 8, .inr (.inl E.2.2.2.2.2.2.1))), (b7, .inl (D.2 1, 8, .inr (.inl E.2.2.2.2.2.2.2.1))), (b8, .inl (D.2 1, 12, .inr (.inl E.2.2.2.2.2.2.2.2)))] sz)) 2 12 (va_A [(x0, .inr (5, [.ref h0, .ref b0, .ref w0, .ref s0, .ref m0, .ref g0, .int (nI cl)])), (b0, .inr (0, [.ref b1, .ref b2, .ref b3, .ref b4, .ref b5, .int (nI E.1), .ref b6, .ref b7, .ref b8, .ref b9, .int (nI bt)])), (b1, .inl (D.2 0, 200, .inl E.2.1)), (b2, .inl (D.2 0, 200, .inl E.2.2.1)), (b3, .inl (D.2 0, 200, .inl E.2.2.2.1)), (b4, .inl (D.2 0, 200, .inl E.2.2.2.2.1)), (b5, .inl (D.2 0, 200, .inl E.2.2.2.2.2.1)), (b6, .inl (D.2 1, 8, .inr (.inl E.2.2.2.2.2.2.1))), (b7, .inl (D.2 1, 8, .inr (.inl E.2.2.2.2.2.2.2.1))), (b8, .inl (D.2 1, 12, .inr (.inl E.2.2.2.2.2.2.2.2)))] sz) := by
  refine vx_ofW (cc := cX5_told) (maxL := 3) (ret := (some .long)) (by decide) rfl ?_
  intro p e s m args below meth c s₁ B hml hnx hv
  obtain ⟨rfl, hsz, hP, hK, hD0, hB⟩ := hv
  have hx := B.exec
  have hb := B.bytes
  have hr := B.returns
  have hts := atoms_spec (ws := wsX5_told) B.pre
  have hown : s.vm.findClass "ShopLedger" = some m.cls := findClass_of_methodNamed B.named
  have hlocks := B.notSynchronized
  subst hsz
  have hD := hD0.self (sz := s.heap.size)
  generalize hAe : va_A [(x0, .inr (5, [.ref h0, .ref b0, .ref w0, .ref s0, .ref m0, .ref g0, .int (nI cl)])), (b0, .inr (0, [.ref b1, .ref b2, .ref b3, .ref b4, .ref b5, .int (nI E.1), .ref b6, .ref b7, .ref b8, .ref b9, .int (nI bt)])), (b1, .inl (D.2 0, 200, .inl E.2.1)), (b2, .inl (D.2 0, 200, .inl E.2.2.1)), (b3, .inl (D.2 0, 200, .inl E.2.2.2.1)), (b4, .inl (D.2 0, 200, .inl E.2.2.2.2.1)), (b5, .inl (D.2 0, 200, .inl E.2.2.2.2.2.1)), (b6, .inl (D.2 1, 8, .inr (.inl E.2.2.2.2.2.2.1))), (b7, .inl (D.2 1, 8, .inr (.inl E.2.2.2.2.2.2.2.1))), (b8, .inl (D.2 1, 12, .inr (.inl E.2.2.2.2.2.2.2.2)))] s.heap.size = A at hD hB ⊢
  have hA : ∀ q : Nat, s.heap.size ≤ q → A q := fun q h => by rw [← hAe]; exact Or.inr h
  have hS : va_S A s.heap s.heap [] := va_S.rf
  have hZ : ∀ w ∈ zALL, w.before _ s = true := fun w h => hts w (List.mem_cons_of_mem _ h)
  have hF : CallFix p m c cX5_told 3 s _ zALL "ShopLedger" := ⟨hx, hb, hml, hown, hZ⟩
  have hl := lv_entry ([.ref x0, .int p1, .int p2]) (n := 3) (Nat.le_of_ble_eq_true rfl)
  rw [lg_entry_eq]
  generalize (lg_sl ([.ref x0, .int p1, .int p2]) ++ List.replicate (3 - (lg_sl ([.ref x0, .int p1, .int p2])).length) Slot.unset).toArray = ls at hl ⊢
  have hl : lv_has ls 3 [(0, .ref x0), (1, .int p1), (2, .int p2)] := hl
  refine lv_iload_n hx hb dX5_told_0 rfl (lv_at hl 1 rfl) ?_
  rcases Classical.em (p1 = 0) with s0_ | s0_
  · refine lv_tableIn (tgt := 28) hx hb dX5_told_1 (by rw [s0_]; decide) (by rw [s0_]; decide) (by rw [s0_]; rfl) (by decide) ?_
    refine lv_aload_n hx hb dX5_told_28 rfl (lv_at hl 0 rfl) ?_
    refine va_get (D := D.1) (ci := 5) (v := .ref b0) (C := "ShopLedger") (T := TX5) (N := 7) hx hb hZ inX5 hown hK hP 0 rfl rfl 1 (by decide) (hZ _ t_50) (fun _ h9 => h9) rfl dX5_told_29 ?_
    refine va_get (D := D.1) (ci := 0) (v := .ref b6) (C := "ShopLedger$Books") (T := TX0) (N := 11) hx hb hZ inX0 hown hK hP 1 rfl rfl 6 (by decide) (hZ _ t_162) (fun _ h9 => h9) rfl dX5_told_32 ?_
    refine lv_iload_n hx hb dX5_told_35 rfl (lv_at hl 2 rfl) ?_
    have J := zJ.mk (wc := [(b6, .inl (D.2 1, 8, .inr (.inl E.2.2.2.2.2.2.1)))]) (wr := [(x0, .inr (5, [.ref h0, .ref b0, .ref w0, .ref s0, .ref m0, .ref g0, .int (nI cl)])), (b0, .inr (0, [.ref b1, .ref b2, .ref b3, .ref b4, .ref b5, .int (nI E.1), .ref b6, .ref b7, .ref b8, .ref b9, .int (nI bt)])), (b1, .inl (D.2 0, 200, .inl E.2.1)), (b2, .inl (D.2 0, 200, .inl E.2.2.1)), (b3, .inl (D.2 0, 200, .inl E.2.2.2.1)), (b4, .inl (D.2 0, 200, .inl E.2.2.2.2.1)), (b5, .inl (D.2 0, 200, .inl E.2.2.2.2.2.1)), (b7, .inl (D.2 1, 8, .inr (.inl E.2.2.2.2.2.2.2.1))), (b8, .inl (D.2 1, 12, .inr (.inl E.2.2.2.2.2.2.2.2)))]) hA hB hK hP hD hS [7] [0, 1, 2, 3, 4, 5, 6, 8, 9] rfl rfl (by decide)
    refine z_xgol (z_xrunS (As := [.ref b6, .int p2]) (rest := []) hF (c_at hl9 D b6 8 E.2.2.2.2.2.2.1 p2 s.heap.size (by decide)) (va_cwS 2 hZ (z_gS t_164 t_165 t_55 t_163) rfl rfl rfl (by decide +kernel) ⟨Nat.le_of_ble_eq_true rfl, Nat.le_of_ble_eq_true rfl⟩) J rfl hl.1 (Nat.le_of_ble_eq_true rfl) dX5_told_36 ⟨Nat.le_of_ble_eq_true rfl, Nat.le_of_ble_eq_true rfl⟩) J (fun EX ce q9 H locs w1 hP hD hS hce hcv hcl => ?_) (fun r1 _ H locs w1 hP hD hS => ?_)
    · have hP : va_P D.1 vwCl [(x0, .inr (5, [.ref h0, .ref b0, .ref w0, .ref s0, .ref m0, .ref g0, .int (nI cl)])), (b0, .inr (0, [.ref b1, .ref b2, .ref b3, .ref b4, .ref b5, .int (nI E.1), .ref b6, .ref b7, .ref b8, .ref b9, .int (nI bt)])), (b1, .inl (D.2 0, 200, .inl E.2.1)), (b2, .inl (D.2 0, 200, .inl E.2.2.1)), (b3, .inl (D.2 0, 200, .inl E.2.2.2.1)), (b4, .inl (D.2 0, 200, .inl E.2.2.2.2.1)), (b5, .inl (D.2 0, 200, .inl E.2.2.2.2.2.1)), (b7, .inl (D.2 1, 8, .inr (.inl E.2.2.2.2.2.2.2.1))), (b8, .inl (D.2 1, 12, .inr (.inl E.2.2.2.2.2.2.2.2))), (b6, .inl (D.2 1, 8, .inr (.inl E.2.2.2.2.2.2.1)))] H := hP
      have hD : va_D A [(x0, .inr (5, [.ref h0, .ref b0, .ref w0, .ref s0, .ref m0, .ref g0, .int (nI cl)])), (b0, .inr (0, [.ref b1, .ref b2, .ref b3, .ref b4, .ref b5, .int (nI E.1), .ref b6, .ref b7, .ref b8, .ref b9, .int (nI bt)])), (b1, .inl (D.2 0, 200, .inl E.2.1)), (b2, .inl (D.2 0, 200, .inl E.2.2.1)), (b3, .inl (D.2 0, 200, .inl E.2.2.2.1)), (b4, .inl (D.2 0, 200, .inl E.2.2.2.2.1)), (b5, .inl (D.2 0, 200, .inl E.2.2.2.2.2.1)), (b7, .inl (D.2 1, 8, .inr (.inl E.2.2.2.2.2.2.2.1))), (b8, .inl (D.2 1, 12, .inr (.inl E.2.2.2.2.2.2.2.2))), (b6, .inl (D.2 1, 8, .inr (.inl E.2.2.2.2.2.2.1)))] := hD
      exact z_out hnx hlocks hce hcv hcl (z_tx0 s0_ w1.1 w1.2) hP hD hS [0, 1, 2, 3, 4, 5, 6, 9, 7, 8] rfl (by decide) (Nat.le_of_ble_eq_true rfl) (Nat.le_of_ble_eq_true rfl)
    have hP : va_P D.1 vwCl [(x0, .inr (5, [.ref h0, .ref b0, .ref w0, .ref s0, .ref m0, .ref g0, .int (nI cl)])), (b0, .inr (0, [.ref b1, .ref b2, .ref b3, .ref b4, .ref b5, .int (nI E.1), .ref b6, .ref b7, .ref b8, .ref b9, .int (nI bt)])), (b1, .inl (D.2 0, 200, .inl E.2.1)), (b2, .inl (D.2 0, 200, .inl E.2.2.1)), (b3, .inl (D.2 0, 200, .inl E.2.2.2.1)), (b4, .inl (D.2 0, 200, .inl E.2.2.2.2.1)), (b5, .inl (D.2 0, 200, .inl E.2.2.2.2.2.1)), (b7, .inl (D.2 1, 8, .inr (.inl E.2.2.2.2.2.2.2.1))), (b8, .inl (D.2 1, 12, .inr (.inl E.2.2.2.2.2.2.2.2))), (b6, .inl (D.2 1, 8, .inr (.inl E.2.2.2.2.2.2.1)))] H := hP
    have hD : va_D A [(x0, .inr (5, [.ref h0, .ref b0, .ref w0, .ref s0, .ref m0, .ref g0, .int (nI cl)])), (b0, .inr (0, [.ref b1, .ref b2, .ref b3, .ref b4, .ref b5, .int (nI E.1), .ref b6, .ref b7, .ref b8, .ref b9, .int (nI bt)])), (b1, .inl (D.2 0, 200, .inl E.2.1)), (b2, .inl (D.2 0, 200, .inl E.2.2.1)), (b3, .inl (D.2 0, 200, .inl E.2.2.2.1)), (b4, .inl (D.2 0, 200, .inl E.2.2.2.2.1)), (b5, .inl (D.2 0, 200, .inl E.2.2.2.2.2.1)), (b7, .inl (D.2 1, 8, .inr (.inl E.2.2.2.2.2.2.2.1))), (b8, .inl (D.2 1, 12, .inr (.inl E.2.2.2.2.2.2.2.2))), (b6, .inl (D.2 1, 8, .inr (.inl E.2.2.2.2.2.2.1)))] := hD
    refine vx_ret ?_
    exact z_lret (v := r1) hx hb hr hlocks hP hD hS () (Or.inl ⟨s0_, w1.1, w1.2⟩) [0, 1, 2, 3, 4, 5, 6, 9, 7, 8] rfl (by decide) (Nat.le_of_ble_eq_true rfl) (Nat.le_of_ble_eq_true rfl) dX5_told_39
  rcases Classical.em (p1 = 1) with s1_ | s1_
  · refine lv_tableIn (tgt := 40) hx hb dX5_told_1 (by rw [s1_]; decide) (by rw [s1_]; decide) (by rw [s1_]; rfl) (by decide) ?_
    refine lv_aload_n hx hb dX5_told_40 rfl (lv_at hl 0 rfl) ?_
    refine va_get (D := D.1) (ci := 5) (v := .ref b0) (C := "ShopLedger") (T := TX5) (N := 7) hx hb hZ inX5 hown hK hP 0 rfl rfl 1 (by decide) (hZ _ t_50) (fun _ h9 => h9) rfl dX5_told_41 ?_
    refine va_get (D := D.1) (ci := 0) (v := .ref b7) (C := "ShopLedger$Books") (T := TX0) (N := 11) hx hb hZ inX0 hown hK hP 1 rfl rfl 7 (by decide) (hZ _ t_150) (fun _ h9 => h9) rfl dX5_told_44 ?_
    refine lv_iload_n hx hb dX5_told_47 rfl (lv_at hl 2 rfl) ?_
    have J := zJ.mk (wc := [(b7, .inl (D.2 1, 8, .inr (.inl E.2.2.2.2.2.2.2.1)))]) (wr := [(x0, .inr (5, [.ref h0, .ref b0, .ref w0, .ref s0, .ref m0, .ref g0, .int (nI cl)])), (b0, .inr (0, [.ref b1, .ref b2, .ref b3, .ref b4, .ref b5, .int (nI E.1), .ref b6, .ref b7, .ref b8, .ref b9, .int (nI bt)])), (b1, .inl (D.2 0, 200, .inl E.2.1)), (b2, .inl (D.2 0, 200, .inl E.2.2.1)), (b3, .inl (D.2 0, 200, .inl E.2.2.2.1)), (b4, .inl (D.2 0, 200, .inl E.2.2.2.2.1)), (b5, .inl (D.2 0, 200, .inl E.2.2.2.2.2.1)), (b6, .inl (D.2 1, 8, .inr (.inl E.2.2.2.2.2.2.1))), (b8, .inl (D.2 1, 12, .inr (.inl E.2.2.2.2.2.2.2.2)))]) hA hB hK hP hD hS [8] [0, 1, 2, 3, 4, 5, 6, 7, 9] rfl rfl (by decide)
    refine z_xgol (z_xrunS (As := [.ref b7, .int p2]) (rest := []) hF (c_at hl9 D b7 8 E.2.2.2.2.2.2.2.1 p2 s.heap.size (by decide)) (va_cwS 2 hZ (z_gS t_164 t_165 t_55 t_163) rfl rfl rfl (by decide +kernel) ⟨Nat.le_of_ble_eq_true rfl, Nat.le_of_ble_eq_true rfl⟩) J rfl hl.1 (Nat.le_of_ble_eq_true rfl) dX5_told_48 ⟨Nat.le_of_ble_eq_true rfl, Nat.le_of_ble_eq_true rfl⟩) J (fun EX ce q9 H locs w2 hP hD hS hce hcv hcl => ?_) (fun r2 _ H locs w2 hP hD hS => ?_)
    · have hP : va_P D.1 vwCl [(x0, .inr (5, [.ref h0, .ref b0, .ref w0, .ref s0, .ref m0, .ref g0, .int (nI cl)])), (b0, .inr (0, [.ref b1, .ref b2, .ref b3, .ref b4, .ref b5, .int (nI E.1), .ref b6, .ref b7, .ref b8, .ref b9, .int (nI bt)])), (b1, .inl (D.2 0, 200, .inl E.2.1)), (b2, .inl (D.2 0, 200, .inl E.2.2.1)), (b3, .inl (D.2 0, 200, .inl E.2.2.2.1)), (b4, .inl (D.2 0, 200, .inl E.2.2.2.2.1)), (b5, .inl (D.2 0, 200, .inl E.2.2.2.2.2.1)), (b6, .inl (D.2 1, 8, .inr (.inl E.2.2.2.2.2.2.1))), (b8, .inl (D.2 1, 12, .inr (.inl E.2.2.2.2.2.2.2.2))), (b7, .inl (D.2 1, 8, .inr (.inl E.2.2.2.2.2.2.2.1)))] H := hP
      have hD : va_D A [(x0, .inr (5, [.ref h0, .ref b0, .ref w0, .ref s0, .ref m0, .ref g0, .int (nI cl)])), (b0, .inr (0, [.ref b1, .ref b2, .ref b3, .ref b4, .ref b5, .int (nI E.1), .ref b6, .ref b7, .ref b8, .ref b9, .int (nI bt)])), (b1, .inl (D.2 0, 200, .inl E.2.1)), (b2, .inl (D.2 0, 200, .inl E.2.2.1)), (b3, .inl (D.2 0, 200, .inl E.2.2.2.1)), (b4, .inl (D.2 0, 200, .inl E.2.2.2.2.1)), (b5, .inl (D.2 0, 200, .inl E.2.2.2.2.2.1)), (b6, .inl (D.2 1, 8, .inr (.inl E.2.2.2.2.2.2.1))), (b8, .inl (D.2 1, 12, .inr (.inl E.2.2.2.2.2.2.2.2))), (b7, .inl (D.2 1, 8, .inr (.inl E.2.2.2.2.2.2.2.1)))] := hD
      exact z_out hnx hlocks hce hcv hcl (z_tx1 s1_ w2.1 w2.2) hP hD hS [0, 1, 2, 3, 4, 5, 6, 7, 9, 8] rfl (by decide) (Nat.le_of_ble_eq_true rfl) (Nat.le_of_ble_eq_true rfl)
    have hP : va_P D.1 vwCl [(x0, .inr (5, [.ref h0, .ref b0, .ref w0, .ref s0, .ref m0, .ref g0, .int (nI cl)])), (b0, .inr (0, [.ref b1, .ref b2, .ref b3, .ref b4, .ref b5, .int (nI E.1), .ref b6, .ref b7, .ref b8, .ref b9, .int (nI bt)])), (b1, .inl (D.2 0, 200, .inl E.2.1)), (b2, .inl (D.2 0, 200, .inl E.2.2.1)), (b3, .inl (D.2 0, 200, .inl E.2.2.2.1)), (b4, .inl (D.2 0, 200, .inl E.2.2.2.2.1)), (b5, .inl (D.2 0, 200, .inl E.2.2.2.2.2.1)), (b6, .inl (D.2 1, 8, .inr (.inl E.2.2.2.2.2.2.1))), (b8, .inl (D.2 1, 12, .inr (.inl E.2.2.2.2.2.2.2.2))), (b7, .inl (D.2 1, 8, .inr (.inl E.2.2.2.2.2.2.2.1)))] H := hP
    have hD : va_D A [(x0, .inr (5, [.ref h0, .ref b0, .ref w0, .ref s0, .ref m0, .ref g0, .int (nI cl)])), (b0, .inr (0, [.ref b1, .ref b2, .ref b3, .ref b4, .ref b5, .int (nI E.1), .ref b6, .ref b7, .ref b8, .ref b9, .int (nI bt)])), (b1, .inl (D.2 0, 200, .inl E.2.1)), (b2, .inl (D.2 0, 200, .inl E.2.2.1)), (b3, .inl (D.2 0, 200, .inl E.2.2.2.1)), (b4, .inl (D.2 0, 200, .inl E.2.2.2.2.1)), (b5, .inl (D.2 0, 200, .inl E.2.2.2.2.2.1)), (b6, .inl (D.2 1, 8, .inr (.inl E.2.2.2.2.2.2.1))), (b8, .inl (D.2 1, 12, .inr (.inl E.2.2.2.2.2.2.2.2))), (b7, .inl (D.2 1, 8, .inr (.inl E.2.2.2.2.2.2.2.1)))] := hD
    refine vx_ret ?_
    exact z_lret (v := r2) hx hb hr hlocks hP hD hS () (Or.inr (Or.inl ⟨s1_, w2.1, w2.2⟩)) [0, 1, 2, 3, 4, 5, 6, 7, 9, 8] rfl (by decide) (Nat.le_of_ble_eq_true rfl) (Nat.le_of_ble_eq_true rfl) dX5_told_51
  rcases Classical.em (p1 = 2) with s2_ | s2_
  · refine lv_tableIn (tgt := 52) hx hb dX5_told_1 (by rw [s2_]; decide) (by rw [s2_]; decide) (by rw [s2_]; rfl) (by decide) ?_
    refine lv_aload_n hx hb dX5_told_52 rfl (lv_at hl 0 rfl) ?_
    refine va_get (D := D.1) (ci := 5) (v := .ref b0) (C := "ShopLedger") (T := TX5) (N := 7) hx hb hZ inX5 hown hK hP 0 rfl rfl 1 (by decide) (hZ _ t_50) (fun _ h9 => h9) rfl dX5_told_53 ?_
    refine va_get (D := D.1) (ci := 0) (v := .ref b8) (C := "ShopLedger$Books") (T := TX0) (N := 11) hx hb hZ inX0 hown hK hP 1 rfl rfl 8 (by decide) (hZ _ t_166) (fun _ h9 => h9) rfl dX5_told_56 ?_
    refine lv_iload_n hx hb dX5_told_59 rfl (lv_at hl 2 rfl) ?_
    have J := zJ.mk (wc := [(b8, .inl (D.2 1, 12, .inr (.inl E.2.2.2.2.2.2.2.2)))]) (wr := [(x0, .inr (5, [.ref h0, .ref b0, .ref w0, .ref s0, .ref m0, .ref g0, .int (nI cl)])), (b0, .inr (0, [.ref b1, .ref b2, .ref b3, .ref b4, .ref b5, .int (nI E.1), .ref b6, .ref b7, .ref b8, .ref b9, .int (nI bt)])), (b1, .inl (D.2 0, 200, .inl E.2.1)), (b2, .inl (D.2 0, 200, .inl E.2.2.1)), (b3, .inl (D.2 0, 200, .inl E.2.2.2.1)), (b4, .inl (D.2 0, 200, .inl E.2.2.2.2.1)), (b5, .inl (D.2 0, 200, .inl E.2.2.2.2.2.1)), (b6, .inl (D.2 1, 8, .inr (.inl E.2.2.2.2.2.2.1))), (b7, .inl (D.2 1, 8, .inr (.inl E.2.2.2.2.2.2.2.1)))]) hA hB hK hP hD hS [9] [0, 1, 2, 3, 4, 5, 6, 7, 8] rfl rfl (by decide)
    refine z_xgol (z_xrunS (As := [.ref b8, .int p2]) (rest := []) hF (c_at hl9 D b8 12 E.2.2.2.2.2.2.2.2 p2 s.heap.size (by decide)) (va_cwS 2 hZ (z_gS t_164 t_165 t_55 t_163) rfl rfl rfl (by decide +kernel) ⟨Nat.le_of_ble_eq_true rfl, Nat.le_of_ble_eq_true rfl⟩) J rfl hl.1 (Nat.le_of_ble_eq_true rfl) dX5_told_60 ⟨Nat.le_of_ble_eq_true rfl, Nat.le_of_ble_eq_true rfl⟩) J (fun EX ce q9 H locs w3 hP hD hS hce hcv hcl => ?_) (fun r3 _ H locs w3 hP hD hS => ?_)
    · have hP : va_P D.1 vwCl [(x0, .inr (5, [.ref h0, .ref b0, .ref w0, .ref s0, .ref m0, .ref g0, .int (nI cl)])), (b0, .inr (0, [.ref b1, .ref b2, .ref b3, .ref b4, .ref b5, .int (nI E.1), .ref b6, .ref b7, .ref b8, .ref b9, .int (nI bt)])), (b1, .inl (D.2 0, 200, .inl E.2.1)), (b2, .inl (D.2 0, 200, .inl E.2.2.1)), (b3, .inl (D.2 0, 200, .inl E.2.2.2.1)), (b4, .inl (D.2 0, 200, .inl E.2.2.2.2.1)), (b5, .inl (D.2 0, 200, .inl E.2.2.2.2.2.1)), (b6, .inl (D.2 1, 8, .inr (.inl E.2.2.2.2.2.2.1))), (b7, .inl (D.2 1, 8, .inr (.inl E.2.2.2.2.2.2.2.1))), (b8, .inl (D.2 1, 12, .inr (.inl E.2.2.2.2.2.2.2.2)))] H := hP
      have hD : va_D A [(x0, .inr (5, [.ref h0, .ref b0, .ref w0, .ref s0, .ref m0, .ref g0, .int (nI cl)])), (b0, .inr (0, [.ref b1, .ref b2, .ref b3, .ref b4, .ref b5, .int (nI E.1), .ref b6, .ref b7, .ref b8, .ref b9, .int (nI bt)])), (b1, .inl (D.2 0, 200, .inl E.2.1)), (b2, .inl (D.2 0, 200, .inl E.2.2.1)), (b3, .inl (D.2 0, 200, .inl E.2.2.2.1)), (b4, .inl (D.2 0, 200, .inl E.2.2.2.2.1)), (b5, .inl (D.2 0, 200, .inl E.2.2.2.2.2.1)), (b6, .inl (D.2 1, 8, .inr (.inl E.2.2.2.2.2.2.1))), (b7, .inl (D.2 1, 8, .inr (.inl E.2.2.2.2.2.2.2.1))), (b8, .inl (D.2 1, 12, .inr (.inl E.2.2.2.2.2.2.2.2)))] := hD
      exact z_out hnx hlocks hce hcv hcl (z_tx2 s2_ w3.1 w3.2) hP hD hS [0, 1, 2, 3, 4, 5, 6, 7, 8, 9] rfl (by decide) (Nat.le_of_ble_eq_true rfl) (Nat.le_of_ble_eq_true rfl)
    have hP : va_P D.1 vwCl [(x0, .inr (5, [.ref h0, .ref b0, .ref w0, .ref s0, .ref m0, .ref g0, .int (nI cl)])), (b0, .inr (0, [.ref b1, .ref b2, .ref b3, .ref b4, .ref b5, .int (nI E.1), .ref b6, .ref b7, .ref b8, .ref b9, .int (nI bt)])), (b1, .inl (D.2 0, 200, .inl E.2.1)), (b2, .inl (D.2 0, 200, .inl E.2.2.1)), (b3, .inl (D.2 0, 200, .inl E.2.2.2.1)), (b4, .inl (D.2 0, 200, .inl E.2.2.2.2.1)), (b5, .inl (D.2 0, 200, .inl E.2.2.2.2.2.1)), (b6, .inl (D.2 1, 8, .inr (.inl E.2.2.2.2.2.2.1))), (b7, .inl (D.2 1, 8, .inr (.inl E.2.2.2.2.2.2.2.1))), (b8, .inl (D.2 1, 12, .inr (.inl E.2.2.2.2.2.2.2.2)))] H := hP
    have hD : va_D A [(x0, .inr (5, [.ref h0, .ref b0, .ref w0, .ref s0, .ref m0, .ref g0, .int (nI cl)])), (b0, .inr (0, [.ref b1, .ref b2, .ref b3, .ref b4, .ref b5, .int (nI E.1), .ref b6, .ref b7, .ref b8, .ref b9, .int (nI bt)])), (b1, .inl (D.2 0, 200, .inl E.2.1)), (b2, .inl (D.2 0, 200, .inl E.2.2.1)), (b3, .inl (D.2 0, 200, .inl E.2.2.2.1)), (b4, .inl (D.2 0, 200, .inl E.2.2.2.2.1)), (b5, .inl (D.2 0, 200, .inl E.2.2.2.2.2.1)), (b6, .inl (D.2 1, 8, .inr (.inl E.2.2.2.2.2.2.1))), (b7, .inl (D.2 1, 8, .inr (.inl E.2.2.2.2.2.2.2.1))), (b8, .inl (D.2 1, 12, .inr (.inl E.2.2.2.2.2.2.2.2)))] := hD
    refine vx_ret ?_
    exact z_lret (v := r3) hx hb hr hlocks hP hD hS () (Or.inr (Or.inr (Or.inl ⟨s2_, w3.1, w3.2⟩))) [0, 1, 2, 3, 4, 5, 6, 7, 8, 9] rfl (by decide) (Nat.le_of_ble_eq_true rfl) (Nat.le_of_ble_eq_true rfl) dX5_told_63
  refine lv_tableOut (tgt := 64) hx hb dX5_told_1 (by have h0 := lv_neT s0_ (show (0 : Int32).toInt = 0 from rfl); have h1 := lv_neT s1_ (show (1 : Int32).toInt = 1 from rfl); have h2 := lv_neT s2_ (show (2 : Int32).toInt = 2 from rfl); omega) (by decide) ?_
  refine lv_aload_n hx hb dX5_told_64 rfl (lv_at hl 0 rfl) ?_
  refine lv_iload_n hx hb dX5_told_65 rfl (lv_at hl 1 rfl) ?_
  refine lv_iload_n hx hb dX5_told_66 rfl (lv_at hl 2 rfl) ?_
  have J := zJ.mk (wc := [(x0, .inr (5, [.ref h0, .ref b0, .ref w0, .ref s0, .ref m0, .ref g0, .int (nI cl)])), (b0, .inr (0, [.ref b1, .ref b2, .ref b3, .ref b4, .ref b5, .int (nI E.1), .ref b6, .ref b7, .ref b8, .ref b9, .int (nI bt)])), (b1, .inl (D.2 0, 200, .inl E.2.1)), (b2, .inl (D.2 0, 200, .inl E.2.2.1)), (b3, .inl (D.2 0, 200, .inl E.2.2.2.1)), (b4, .inl (D.2 0, 200, .inl E.2.2.2.2.1)), (b5, .inl (D.2 0, 200, .inl E.2.2.2.2.2.1))]) (wr := [(b6, .inl (D.2 1, 8, .inr (.inl E.2.2.2.2.2.2.1))), (b7, .inl (D.2 1, 8, .inr (.inl E.2.2.2.2.2.2.2.1))), (b8, .inl (D.2 1, 12, .inr (.inl E.2.2.2.2.2.2.2.2)))]) hA hB hK hP hD hS [0, 1, 2, 3, 4, 5, 6] [7, 8, 9] rfl rfl (by decide)
  refine z_xgol (z_xrunV (As := [.int p1, .int p2]) (rest := []) (b := x0) hF (c_fact hl9 D x0 h0 w0 s0 m0 g0 cl b0 b1 b2 b3 b4 b5 b6 b7 b8 b9 E bt p1 p2 s.heap.size hE) (cwV 2 hZ (z_gV t_168 t_169 t_170 t_55 t_167) rfl rfl rfl (by decide +kernel) ⟨Nat.le_of_ble_eq_true rfl, Nat.le_of_ble_eq_true rfl⟩) J 0 5 rfl rfl rfl rfl hl.1 (Nat.le_of_ble_eq_true rfl) dX5_told_67 ⟨Nat.le_of_ble_eq_true rfl, Nat.le_of_ble_eq_true rfl⟩) J (fun EX ce q9 H locs w4 hP hD hS hce hcv hcl => ?_) (fun r4 _ H locs w4 hP hD hS => ?_)
  · have hP : va_P D.1 vwCl [(b6, .inl (D.2 1, 8, .inr (.inl E.2.2.2.2.2.2.1))), (b7, .inl (D.2 1, 8, .inr (.inl E.2.2.2.2.2.2.2.1))), (b8, .inl (D.2 1, 12, .inr (.inl E.2.2.2.2.2.2.2.2))), (x0, .inr (5, [.ref h0, .ref b0, .ref w0, .ref s0, .ref m0, .ref g0, .int (nI cl)])), (b0, .inr (0, [.ref b1, .ref b2, .ref b3, .ref b4, .ref b5, .int (nI E.1), .ref b6, .ref b7, .ref b8, .ref b9, .int (nI bt)])), (b1, .inl (D.2 0, 200, .inl E.2.1)), (b2, .inl (D.2 0, 200, .inl E.2.2.1)), (b3, .inl (D.2 0, 200, .inl E.2.2.2.1)), (b4, .inl (D.2 0, 200, .inl E.2.2.2.2.1)), (b5, .inl (D.2 0, 200, .inl E.2.2.2.2.2.1))] H := hP
    have hD : va_D A [(b6, .inl (D.2 1, 8, .inr (.inl E.2.2.2.2.2.2.1))), (b7, .inl (D.2 1, 8, .inr (.inl E.2.2.2.2.2.2.2.1))), (b8, .inl (D.2 1, 12, .inr (.inl E.2.2.2.2.2.2.2.2))), (x0, .inr (5, [.ref h0, .ref b0, .ref w0, .ref s0, .ref m0, .ref g0, .int (nI cl)])), (b0, .inr (0, [.ref b1, .ref b2, .ref b3, .ref b4, .ref b5, .int (nI E.1), .ref b6, .ref b7, .ref b8, .ref b9, .int (nI bt)])), (b1, .inl (D.2 0, 200, .inl E.2.1)), (b2, .inl (D.2 0, 200, .inl E.2.2.1)), (b3, .inl (D.2 0, 200, .inl E.2.2.2.1)), (b4, .inl (D.2 0, 200, .inl E.2.2.2.2.1)), (b5, .inl (D.2 0, 200, .inl E.2.2.2.2.2.1))] := hD
    exact z_out hnx hlocks hce hcv hcl (⟨w4.1, fun h => s0_ h.1, fun h => s1_ h.1, fun h => s2_ h.1, w4.2⟩) hP hD hS [3, 4, 5, 6, 7, 8, 9, 0, 1, 2] rfl (by decide) (Nat.le_of_ble_eq_true rfl) (Nat.le_of_ble_eq_true rfl)
  have hP : va_P D.1 vwCl [(b6, .inl (D.2 1, 8, .inr (.inl E.2.2.2.2.2.2.1))), (b7, .inl (D.2 1, 8, .inr (.inl E.2.2.2.2.2.2.2.1))), (b8, .inl (D.2 1, 12, .inr (.inl E.2.2.2.2.2.2.2.2))), (x0, .inr (5, [.ref h0, .ref b0, .ref w0, .ref s0, .ref m0, .ref g0, .int (nI cl)])), (b0, .inr (0, [.ref b1, .ref b2, .ref b3, .ref b4, .ref b5, .int (nI E.1), .ref b6, .ref b7, .ref b8, .ref b9, .int (nI bt)])), (b1, .inl (D.2 0, 200, .inl E.2.1)), (b2, .inl (D.2 0, 200, .inl E.2.2.1)), (b3, .inl (D.2 0, 200, .inl E.2.2.2.1)), (b4, .inl (D.2 0, 200, .inl E.2.2.2.2.1)), (b5, .inl (D.2 0, 200, .inl E.2.2.2.2.2.1))] H := hP
  have hD : va_D A [(b6, .inl (D.2 1, 8, .inr (.inl E.2.2.2.2.2.2.1))), (b7, .inl (D.2 1, 8, .inr (.inl E.2.2.2.2.2.2.2.1))), (b8, .inl (D.2 1, 12, .inr (.inl E.2.2.2.2.2.2.2.2))), (x0, .inr (5, [.ref h0, .ref b0, .ref w0, .ref s0, .ref m0, .ref g0, .int (nI cl)])), (b0, .inr (0, [.ref b1, .ref b2, .ref b3, .ref b4, .ref b5, .int (nI E.1), .ref b6, .ref b7, .ref b8, .ref b9, .int (nI bt)])), (b1, .inl (D.2 0, 200, .inl E.2.1)), (b2, .inl (D.2 0, 200, .inl E.2.2.1)), (b3, .inl (D.2 0, 200, .inl E.2.2.2.1)), (b4, .inl (D.2 0, 200, .inl E.2.2.2.2.1)), (b5, .inl (D.2 0, 200, .inl E.2.2.2.2.2.1))] := hD
  refine vx_ret ?_
  exact z_lret (v := r4) hx hb hr hlocks hP hD hS () (Or.inr (Or.inr (Or.inr w4))) [3, 4, 5, 6, 7, 8, 9, 0, 1, 2] rfl (by decide) (Nat.le_of_ble_eq_true rfl) (Nat.le_of_ble_eq_true rfl) dX5_told_70
