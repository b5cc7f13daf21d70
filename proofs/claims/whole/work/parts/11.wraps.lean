/-- which number the law gives to an exception -/
def zcd (l : List String) (E : String) : Int32 := nI (l.findIdx (fun x => x == E) + 1)
theorem t_201 : (Cond.code ⟨"ShopLedger", "line", "(IIII)I"⟩ prog_1_method_2_code 5 (some .int) : Cond) ∈ zALL := List.mem_filter.mpr ⟨List.mem_append_right _ (List.mem_append_left _ (List.mem_of_getElem? (l := tables_1_1) (i := 195) (by decide +kernel))), by decide +kernel⟩
theorem t_202 : (Cond.methodLink "ShopLedgerLaw" 7 ⟨"ShopLedger", "line", "(IIII)I"⟩ : Cond) ∈ zALL := List.mem_filter.mpr ⟨List.mem_append_right _ (List.mem_append_left _ (List.mem_of_getElem? (l := tables_1_1) (i := 192) (by decide +kernel))), by decide +kernel⟩
theorem t_203 : (Cond.instanceMethod ⟨"ShopLedger", "line", "(IIII)I"⟩ : Cond) ∈ zALL := List.mem_filter.mpr ⟨List.mem_append_right _ (List.mem_append_left _ (List.mem_of_getElem? (l := tables_1_1) (i := 193) (by decide +kernel))), by decide +kernel⟩
theorem t_204 : (Cond.selects "ShopLedger" ⟨"ShopLedger", "line", "(IIII)I"⟩ ⟨"ShopLedger", "line", "(IIII)I"⟩ : Cond) ∈ zALL := List.mem_filter.mpr ⟨List.mem_append_right _ (List.mem_append_left _ (List.mem_of_getElem? (l := tables_1_1) (i := 194) (by decide +kernel))), by decide +kernel⟩
theorem t_205 : (Cond.classLink "ShopLedgerLaw" 13 "java/lang/IndexOutOfBoundsException" : Cond) ∈ zALL := List.mem_filter.mpr ⟨List.mem_append_right _ (List.mem_append_left _ (List.mem_of_getElem? (l := tables_1_1) (i := 189) (by decide +kernel))), by decide +kernel⟩
theorem t_206 : (Cond.classLink "ShopLedgerLaw" 15 "java/lang/IllegalStateException" : Cond) ∈ zALL := List.mem_filter.mpr ⟨List.mem_append_right _ (List.mem_append_left _ (List.mem_of_getElem? (l := tables_1_1) (i := 190) (by decide +kernel))), by decide +kernel⟩
theorem t_207 : (Cond.classLink "ShopLedgerLaw" 17 "java/lang/IllegalArgumentException" : Cond) ∈ zALL := List.mem_filter.mpr ⟨List.mem_append_right _ (List.mem_append_left _ (List.mem_of_getElem? (l := tables_1_1) (i := 191) (by decide +kernel))), by decide +kernel⟩
theorem t_208 : (Cond.code ⟨"ShopLedger", "put", "()I"⟩ prog_1_method_3_code 3 (some .int) : Cond) ∈ zALL := List.mem_filter.mpr ⟨List.mem_append_right _ (List.mem_append_right _ (List.mem_append_left _ (List.mem_of_getElem? (l := tables_1_2) (i := 80) (by decide +kernel)))), by decide +kernel⟩
theorem t_209 : (Cond.methodLink "ShopLedgerLaw" 19 ⟨"ShopLedger", "put", "()I"⟩ : Cond) ∈ zALL := List.mem_filter.mpr ⟨List.mem_append_right _ (List.mem_append_right _ (List.mem_append_left _ (List.mem_of_getElem? (l := tables_1_2) (i := 77) (by decide +kernel)))), by decide +kernel⟩
theorem t_210 : (Cond.instanceMethod ⟨"ShopLedger", "put", "()I"⟩ : Cond) ∈ zALL := List.mem_filter.mpr ⟨List.mem_append_right _ (List.mem_append_right _ (List.mem_append_left _ (List.mem_of_getElem? (l := tables_1_2) (i := 78) (by decide +kernel)))), by decide +kernel⟩
theorem t_211 : (Cond.selects "ShopLedger" ⟨"ShopLedger", "put", "()I"⟩ ⟨"ShopLedger", "put", "()I"⟩ : Cond) ∈ zALL := List.mem_filter.mpr ⟨List.mem_append_right _ (List.mem_append_right _ (List.mem_append_left _ (List.mem_of_getElem? (l := tables_1_2) (i := 79) (by decide +kernel)))), by decide +kernel⟩
theorem t_212 : (Cond.classLink "ShopLedgerLaw" 23 "java/lang/UnsupportedOperationException" : Cond) ∈ zALL := List.mem_filter.mpr ⟨List.mem_append_right _ (List.mem_append_right _ (List.mem_append_left _ (List.mem_of_getElem? (l := tables_1_2) (i := 76) (by decide +kernel)))), by decide +kernel⟩
theorem t_213 : (Cond.code ⟨"ShopLedger", "correct", "(IIIII)I"⟩ prog_1_method_5_code 6 (some .int) : Cond) ∈ zALL := List.mem_filter.mpr ⟨List.mem_append_right _ (List.mem_append_right _ (List.mem_append_left _ (List.mem_of_getElem? (l := tables_1_2) (i := 124) (by decide +kernel)))), by decide +kernel⟩
theorem t_214 : (Cond.methodLink "ShopLedgerLaw" 25 ⟨"ShopLedger", "correct", "(IIIII)I"⟩ : Cond) ∈ zALL := List.mem_filter.mpr ⟨List.mem_append_right _ (List.mem_append_right _ (List.mem_append_left _ (List.mem_of_getElem? (l := tables_1_2) (i := 121) (by decide +kernel)))), by decide +kernel⟩
theorem t_215 : (Cond.instanceMethod ⟨"ShopLedger", "correct", "(IIIII)I"⟩ : Cond) ∈ zALL := List.mem_filter.mpr ⟨List.mem_append_right _ (List.mem_append_right _ (List.mem_append_left _ (List.mem_of_getElem? (l := tables_1_2) (i := 122) (by decide +kernel)))), by decide +kernel⟩
theorem t_216 : (Cond.selects "ShopLedger" ⟨"ShopLedger", "correct", "(IIIII)I"⟩ ⟨"ShopLedger", "correct", "(IIIII)I"⟩ : Cond) ∈ zALL := List.mem_filter.mpr ⟨List.mem_append_right _ (List.mem_append_right _ (List.mem_append_left _ (List.mem_of_getElem? (l := tables_1_2) (i := 123) (by decide +kernel)))), by decide +kernel⟩
theorem t_217 : (Cond.code ⟨"ShopLedger", "reverse", "(II)I"⟩ prog_1_method_6_code 3 (some .int) : Cond) ∈ zALL := List.mem_filter.mpr ⟨List.mem_append_right _ (List.mem_append_right _ (List.mem_append_left _ (List.mem_of_getElem? (l := tables_1_2) (i := 132) (by decide +kernel)))), by decide +kernel⟩
theorem t_218 : (Cond.methodLink "ShopLedgerLaw" 29 ⟨"ShopLedger", "reverse", "(II)I"⟩ : Cond) ∈ zALL := List.mem_filter.mpr ⟨List.mem_append_right _ (List.mem_append_right _ (List.mem_append_left _ (List.mem_of_getElem? (l := tables_1_2) (i := 129) (by decide +kernel)))), by decide +kernel⟩
theorem t_219 : (Cond.instanceMethod ⟨"ShopLedger", "reverse", "(II)I"⟩ : Cond) ∈ zALL := List.mem_filter.mpr ⟨List.mem_append_right _ (List.mem_append_right _ (List.mem_append_left _ (List.mem_of_getElem? (l := tables_1_2) (i := 130) (by decide +kernel)))), by decide +kernel⟩
theorem t_220 : (Cond.selects "ShopLedger" ⟨"ShopLedger", "reverse", "(II)I"⟩ ⟨"ShopLedger", "reverse", "(II)I"⟩ : Cond) ∈ zALL := List.mem_filter.mpr ⟨List.mem_append_right _ (List.mem_append_right _ (List.mem_append_left _ (List.mem_of_getElem? (l := tables_1_2) (i := 131) (by decide +kernel)))), by decide +kernel⟩
theorem t_221 : (Cond.code ⟨"ShopLedger", "close", "()I"⟩ prog_1_method_7_code 1 (some .int) : Cond) ∈ zALL := List.mem_filter.mpr ⟨List.mem_append_right _ (List.mem_append_right _ (List.mem_append_left _ (List.mem_of_getElem? (l := tables_1_2) (i := 150) (by decide +kernel)))), by decide +kernel⟩
theorem t_222 : (Cond.methodLink "ShopLedgerLaw" 33 ⟨"ShopLedger", "close", "()I"⟩ : Cond) ∈ zALL := List.mem_filter.mpr ⟨List.mem_append_right _ (List.mem_append_right _ (List.mem_append_left _ (List.mem_of_getElem? (l := tables_1_2) (i := 147) (by decide +kernel)))), by decide +kernel⟩
theorem t_223 : (Cond.instanceMethod ⟨"ShopLedger", "close", "()I"⟩ : Cond) ∈ zALL := List.mem_filter.mpr ⟨List.mem_append_right _ (List.mem_append_right _ (List.mem_append_left _ (List.mem_of_getElem? (l := tables_1_2) (i := 148) (by decide +kernel)))), by decide +kernel⟩
theorem t_224 : (Cond.selects "ShopLedger" ⟨"ShopLedger", "close", "()I"⟩ ⟨"ShopLedger", "close", "()I"⟩ : Cond) ∈ zALL := List.mem_filter.mpr ⟨List.mem_append_right _ (List.mem_append_right _ (List.mem_append_left _ (List.mem_of_getElem? (l := tables_1_2) (i := 149) (by decide +kernel)))), by decide +kernel⟩
theorem t_225 : (Cond.code ⟨"ShopLedger", "told", "(II)J"⟩ prog_1_method_8_code 3 (some .long) : Cond) ∈ zALL := List.mem_filter.mpr ⟨List.mem_append_right _ (List.mem_append_right _ (List.mem_append_left _ (List.mem_of_getElem? (l := tables_1_2) (i := 157) (by decide +kernel)))), by decide +kernel⟩
theorem t_226 : (Cond.methodLink "ShopLedgerLaw" 36 ⟨"ShopLedger", "told", "(II)J"⟩ : Cond) ∈ zALL := List.mem_filter.mpr ⟨List.mem_append_right _ (List.mem_append_right _ (List.mem_append_left _ (List.mem_of_getElem? (l := tables_1_2) (i := 154) (by decide +kernel)))), by decide +kernel⟩
theorem t_227 : (Cond.instanceMethod ⟨"ShopLedger", "told", "(II)J"⟩ : Cond) ∈ zALL := List.mem_filter.mpr ⟨List.mem_append_right _ (List.mem_append_right _ (List.mem_append_left _ (List.mem_of_getElem? (l := tables_1_2) (i := 155) (by decide +kernel)))), by decide +kernel⟩
theorem t_228 : (Cond.selects "ShopLedger" ⟨"ShopLedger", "told", "(II)J"⟩ ⟨"ShopLedger", "told", "(II)J"⟩ : Cond) ∈ zALL := List.mem_filter.mpr ⟨List.mem_append_right _ (List.mem_append_right _ (List.mem_append_left _ (List.mem_of_getElem? (l := tables_1_2) (i := 156) (by decide +kernel)))), by decide +kernel⟩
theorem t_229 : (Cond.code ⟨"ShopLedger", "many", "(I)I"⟩ prog_1_method_9_code 2 (some .int) : Cond) ∈ zALL := List.mem_filter.mpr ⟨List.mem_append_right _ (List.mem_append_right _ (List.mem_append_left _ (List.mem_of_getElem? (l := tables_1_2) (i := 172) (by decide +kernel)))), by decide +kernel⟩
theorem t_230 : (Cond.methodLink "ShopLedgerLaw" 40 ⟨"ShopLedger", "many", "(I)I"⟩ : Cond) ∈ zALL := List.mem_filter.mpr ⟨List.mem_append_right _ (List.mem_append_right _ (List.mem_append_left _ (List.mem_of_getElem? (l := tables_1_2) (i := 169) (by decide +kernel)))), by decide +kernel⟩
theorem t_231 : (Cond.instanceMethod ⟨"ShopLedger", "many", "(I)I"⟩ : Cond) ∈ zALL := List.mem_filter.mpr ⟨List.mem_append_right _ (List.mem_append_right _ (List.mem_append_left _ (List.mem_of_getElem? (l := tables_1_2) (i := 170) (by decide +kernel)))), by decide +kernel⟩
theorem t_232 : (Cond.selects "ShopLedger" ⟨"ShopLedger", "many", "(I)I"⟩ ⟨"ShopLedger", "many", "(I)I"⟩ : Cond) ∈ zALL := List.mem_filter.mpr ⟨List.mem_append_right _ (List.mem_append_right _ (List.mem_append_left _ (List.mem_of_getElem? (l := tables_1_2) (i := 171) (by decide +kernel)))), by decide +kernel⟩
theorem t_233 : (Cond.code ⟨"ShopLedger", "weight", "(II)V"⟩ prog_1_method_10_code 3 none : Cond) ∈ zALL := List.mem_filter.mpr ⟨List.mem_append_right _ (List.mem_append_right _ (List.mem_append_left _ (List.mem_of_getElem? (l := tables_1_2) (i := 179) (by decide +kernel)))), by decide +kernel⟩
theorem t_234 : (Cond.methodLink "ShopLedgerLaw" 44 ⟨"ShopLedger", "weight", "(II)V"⟩ : Cond) ∈ zALL := List.mem_filter.mpr ⟨List.mem_append_right _ (List.mem_append_right _ (List.mem_append_left _ (List.mem_of_getElem? (l := tables_1_2) (i := 176) (by decide +kernel)))), by decide +kernel⟩
theorem t_235 : (Cond.instanceMethod ⟨"ShopLedger", "weight", "(II)V"⟩ : Cond) ∈ zALL := List.mem_filter.mpr ⟨List.mem_append_right _ (List.mem_append_right _ (List.mem_append_left _ (List.mem_of_getElem? (l := tables_1_2) (i := 177) (by decide +kernel)))), by decide +kernel⟩
theorem t_236 : (Cond.selects "ShopLedger" ⟨"ShopLedger", "weight", "(II)V"⟩ ⟨"ShopLedger", "weight", "(II)V"⟩ : Cond) ∈ zALL := List.mem_filter.mpr ⟨List.mem_append_right _ (List.mem_append_right _ (List.mem_append_left _ (List.mem_of_getElem? (l := tables_1_2) (i := 178) (by decide +kernel)))), by decide +kernel⟩
theorem t_237 : (Cond.code ⟨"ShopLedger", "share", "(II)J"⟩ prog_1_method_11_code 8 (some .long) : Cond) ∈ zALL := List.mem_filter.mpr ⟨List.mem_append_right _ (List.mem_append_right _ (List.mem_append_left _ (List.mem_of_getElem? (l := tables_1_2) (i := 187) (by decide +kernel)))), by decide +kernel⟩
theorem t_238 : (Cond.methodLink "ShopLedgerLaw" 48 ⟨"ShopLedger", "share", "(II)J"⟩ : Cond) ∈ zALL := List.mem_filter.mpr ⟨List.mem_append_right _ (List.mem_append_right _ (List.mem_append_left _ (List.mem_of_getElem? (l := tables_1_2) (i := 184) (by decide +kernel)))), by decide +kernel⟩
theorem t_239 : (Cond.instanceMethod ⟨"ShopLedger", "share", "(II)J"⟩ : Cond) ∈ zALL := List.mem_filter.mpr ⟨List.mem_append_right _ (List.mem_append_right _ (List.mem_append_left _ (List.mem_of_getElem? (l := tables_1_2) (i := 185) (by decide +kernel)))), by decide +kernel⟩
theorem t_240 : (Cond.selects "ShopLedger" ⟨"ShopLedger", "share", "(II)J"⟩ ⟨"ShopLedger", "share", "(II)J"⟩ : Cond) ∈ zALL := List.mem_filter.mpr ⟨List.mem_append_right _ (List.mem_append_right _ (List.mem_append_left _ (List.mem_of_getElem? (l := tables_1_2) (i := 186) (by decide +kernel)))), by decide +kernel⟩
theorem t_241 : (Cond.code ⟨"ShopLedger", "stock", "(III)I"⟩ prog_1_method_12_code 4 (some .int) : Cond) ∈ zALL := List.mem_filter.mpr ⟨List.mem_append_right _ (List.mem_append_right _ (List.mem_append_left _ (List.mem_of_getElem? (l := tables_1_2) (i := 198) (by decide +kernel)))), by decide +kernel⟩
theorem t_242 : (Cond.methodLink "ShopLedgerLaw" 51 ⟨"ShopLedger", "stock", "(III)I"⟩ : Cond) ∈ zALL := List.mem_filter.mpr ⟨List.mem_append_right _ (List.mem_append_right _ (List.mem_append_left _ (List.mem_of_getElem? (l := tables_1_2) (i := 195) (by decide +kernel)))), by decide +kernel⟩
theorem t_243 : (Cond.instanceMethod ⟨"ShopLedger", "stock", "(III)I"⟩ : Cond) ∈ zALL := List.mem_filter.mpr ⟨List.mem_append_right _ (List.mem_append_right _ (List.mem_append_left _ (List.mem_of_getElem? (l := tables_1_2) (i := 196) (by decide +kernel)))), by decide +kernel⟩
theorem t_244 : (Cond.selects "ShopLedger" ⟨"ShopLedger", "stock", "(III)I"⟩ ⟨"ShopLedger", "stock", "(III)I"⟩ : Cond) ∈ zALL := List.mem_filter.mpr ⟨List.mem_append_right _ (List.mem_append_right _ (List.mem_append_left _ (List.mem_of_getElem? (l := tables_1_2) (i := 197) (by decide +kernel)))), by decide +kernel⟩
theorem t_245 : (Cond.code ⟨"ShopLedger", "take", "(II)J"⟩ prog_1_method_13_code 3 (some .long) : Cond) ∈ zALL := List.mem_filter.mpr ⟨List.mem_append_right _ (List.mem_append_right _ (List.mem_append_left _ (List.mem_of_getElem? (l := tables_1_2) (i := 209) (by decide +kernel)))), by decide +kernel⟩
theorem t_246 : (Cond.methodLink "ShopLedgerLaw" 55 ⟨"ShopLedger", "take", "(II)J"⟩ : Cond) ∈ zALL := List.mem_filter.mpr ⟨List.mem_append_right _ (List.mem_append_right _ (List.mem_append_left _ (List.mem_of_getElem? (l := tables_1_2) (i := 206) (by decide +kernel)))), by decide +kernel⟩
theorem t_247 : (Cond.instanceMethod ⟨"ShopLedger", "take", "(II)J"⟩ : Cond) ∈ zALL := List.mem_filter.mpr ⟨List.mem_append_right _ (List.mem_append_right _ (List.mem_append_left _ (List.mem_of_getElem? (l := tables_1_2) (i := 207) (by decide +kernel)))), by decide +kernel⟩
theorem t_248 : (Cond.selects "ShopLedger" ⟨"ShopLedger", "take", "(II)J"⟩ ⟨"ShopLedger", "take", "(II)J"⟩ : Cond) ∈ zALL := List.mem_filter.mpr ⟨List.mem_append_right _ (List.mem_append_right _ (List.mem_append_left _ (List.mem_of_getElem? (l := tables_1_2) (i := 208) (by decide +kernel)))), by decide +kernel⟩
theorem t_249 : (Cond.code ⟨"ShopLedger", "in", "(II)J"⟩ prog_1_method_14_code 3 (some .long) : Cond) ∈ zALL := List.mem_filter.mpr ⟨List.mem_append_right _ (List.mem_append_right _ (List.mem_append_left _ (List.mem_of_getElem? (l := tables_1_2) (i := 232) (by decide +kernel)))), by decide +kernel⟩
theorem t_250 : (Cond.methodLink "ShopLedgerLaw" 58 ⟨"ShopLedger", "in", "(II)J"⟩ : Cond) ∈ zALL := List.mem_filter.mpr ⟨List.mem_append_right _ (List.mem_append_right _ (List.mem_append_left _ (List.mem_of_getElem? (l := tables_1_2) (i := 229) (by decide +kernel)))), by decide +kernel⟩
theorem t_251 : (Cond.instanceMethod ⟨"ShopLedger", "in", "(II)J"⟩ : Cond) ∈ zALL := List.mem_filter.mpr ⟨List.mem_append_right _ (List.mem_append_right _ (List.mem_append_left _ (List.mem_of_getElem? (l := tables_1_2) (i := 230) (by decide +kernel)))), by decide +kernel⟩
theorem t_252 : (Cond.selects "ShopLedger" ⟨"ShopLedger", "in", "(II)J"⟩ ⟨"ShopLedger", "in", "(II)J"⟩ : Cond) ∈ zALL := List.mem_filter.mpr ⟨List.mem_append_right _ (List.mem_append_right _ (List.mem_append_left _ (List.mem_of_getElem? (l := tables_1_2) (i := 231) (by decide +kernel)))), by decide +kernel⟩
theorem t_253 : (Cond.code ⟨"ShopLedger", "rate", "(III)I"⟩ prog_1_method_15_code 4 (some .int) : Cond) ∈ zALL := List.mem_filter.mpr ⟨List.mem_append_right _ (List.mem_append_right _ (List.mem_append_right _ (List.mem_of_getElem? (l := tables_1_3) (i := 3) (by decide +kernel)))), by decide +kernel⟩
theorem t_254 : (Cond.methodLink "ShopLedgerLaw" 61 ⟨"ShopLedger", "rate", "(III)I"⟩ : Cond) ∈ zALL := List.mem_filter.mpr ⟨List.mem_append_right _ (List.mem_append_right _ (List.mem_append_right _ (List.mem_of_getElem? (l := tables_1_3) (i := 0) (by decide +kernel)))), by decide +kernel⟩
theorem t_255 : (Cond.instanceMethod ⟨"ShopLedger", "rate", "(III)I"⟩ : Cond) ∈ zALL := List.mem_filter.mpr ⟨List.mem_append_right _ (List.mem_append_right _ (List.mem_append_right _ (List.mem_of_getElem? (l := tables_1_3) (i := 1) (by decide +kernel)))), by decide +kernel⟩
theorem t_256 : (Cond.selects "ShopLedger" ⟨"ShopLedger", "rate", "(III)I"⟩ ⟨"ShopLedger", "rate", "(III)I"⟩ : Cond) ∈ zALL := List.mem_filter.mpr ⟨List.mem_append_right _ (List.mem_append_right _ (List.mem_append_right _ (List.mem_of_getElem? (l := tables_1_3) (i := 2) (by decide +kernel)))), by decide +kernel⟩
theorem t_257 : (Cond.code ⟨"ShopLedger", "foreign", "(III)J"⟩ prog_1_method_16_code 6 (some .long) : Cond) ∈ zALL := List.mem_filter.mpr ⟨List.mem_append_right _ (List.mem_append_right _ (List.mem_append_right _ (List.mem_of_getElem? (l := tables_1_3) (i := 20) (by decide +kernel)))), by decide +kernel⟩
theorem t_258 : (Cond.methodLink "ShopLedgerLaw" 64 ⟨"ShopLedger", "foreign", "(III)J"⟩ : Cond) ∈ zALL := List.mem_filter.mpr ⟨List.mem_append_right _ (List.mem_append_right _ (List.mem_append_right _ (List.mem_of_getElem? (l := tables_1_3) (i := 17) (by decide +kernel)))), by decide +kernel⟩
theorem t_259 : (Cond.instanceMethod ⟨"ShopLedger", "foreign", "(III)J"⟩ : Cond) ∈ zALL := List.mem_filter.mpr ⟨List.mem_append_right _ (List.mem_append_right _ (List.mem_append_right _ (List.mem_of_getElem? (l := tables_1_3) (i := 18) (by decide +kernel)))), by decide +kernel⟩
theorem t_260 : (Cond.selects "ShopLedger" ⟨"ShopLedger", "foreign", "(III)J"⟩ ⟨"ShopLedger", "foreign", "(III)J"⟩ : Cond) ∈ zALL := List.mem_filter.mpr ⟨List.mem_append_right _ (List.mem_append_right _ (List.mem_append_right _ (List.mem_of_getElem? (l := tables_1_3) (i := 19) (by decide +kernel)))), by decide +kernel⟩
theorem t_261 : (Cond.code ⟨"ShopLedger", "piece", "(II)I"⟩ prog_1_method_17_code 3 (some .int) : Cond) ∈ zALL := List.mem_filter.mpr ⟨List.mem_append_right _ (List.mem_append_right _ (List.mem_append_right _ (List.mem_of_getElem? (l := tables_1_3) (i := 34) (by decide +kernel)))), by decide +kernel⟩
theorem t_262 : (Cond.methodLink "ShopLedgerLaw" 68 ⟨"ShopLedger", "piece", "(II)I"⟩ : Cond) ∈ zALL := List.mem_filter.mpr ⟨List.mem_append_right _ (List.mem_append_right _ (List.mem_append_right _ (List.mem_of_getElem? (l := tables_1_3) (i := 31) (by decide +kernel)))), by decide +kernel⟩
theorem t_263 : (Cond.instanceMethod ⟨"ShopLedger", "piece", "(II)I"⟩ : Cond) ∈ zALL := List.mem_filter.mpr ⟨List.mem_append_right _ (List.mem_append_right _ (List.mem_append_right _ (List.mem_of_getElem? (l := tables_1_3) (i := 32) (by decide +kernel)))), by decide +kernel⟩
theorem t_264 : (Cond.selects "ShopLedger" ⟨"ShopLedger", "piece", "(II)I"⟩ ⟨"ShopLedger", "piece", "(II)I"⟩ : Cond) ∈ zALL := List.mem_filter.mpr ⟨List.mem_append_right _ (List.mem_append_right _ (List.mem_append_right _ (List.mem_of_getElem? (l := tables_1_3) (i := 33) (by decide +kernel)))), by decide +kernel⟩
theorem t_265 : (Cond.code ⟨"ShopLedger", "opened", "(I)J"⟩ prog_1_method_18_code 8 (some .long) : Cond) ∈ zALL := List.mem_filter.mpr ⟨List.mem_append_right _ (List.mem_append_right _ (List.mem_append_right _ (List.mem_of_getElem? (l := tables_1_3) (i := 45) (by decide +kernel)))), by decide +kernel⟩
theorem t_266 : (Cond.methodLink "ShopLedgerLaw" 71 ⟨"ShopLedger", "opened", "(I)J"⟩ : Cond) ∈ zALL := List.mem_filter.mpr ⟨List.mem_append_right _ (List.mem_append_right _ (List.mem_append_right _ (List.mem_of_getElem? (l := tables_1_3) (i := 42) (by decide +kernel)))), by decide +kernel⟩
theorem t_267 : (Cond.instanceMethod ⟨"ShopLedger", "opened", "(I)J"⟩ : Cond) ∈ zALL := List.mem_filter.mpr ⟨List.mem_append_right _ (List.mem_append_right _ (List.mem_append_right _ (List.mem_of_getElem? (l := tables_1_3) (i := 43) (by decide +kernel)))), by decide +kernel⟩
theorem t_268 : (Cond.selects "ShopLedger" ⟨"ShopLedger", "opened", "(I)J"⟩ ⟨"ShopLedger", "opened", "(I)J"⟩ : Cond) ∈ zALL := List.mem_filter.mpr ⟨List.mem_append_right _ (List.mem_append_right _ (List.mem_append_right _ (List.mem_of_getElem? (l := tables_1_3) (i := 44) (by decide +kernel)))), by decide +kernel⟩
set_option maxHeartbeats 4000000 in
set_option maxRecDepth 100000 in
/-- the law calls line -/
theorem w_line {l : Launch} (D : zD) (x0 b0 w0 s0 m0 g0 cl : Nat) (h0 h1 h2 h3 h4 n : Nat) (fa fo fm fc : Nat → Int32) (p1 p2 p3 p4 : Int32) (o0 : Nat) (ou : Nat → Int64) (sz : Nat) (hl9 : l.stackTraces = false) (hn : n ≤ 16) : Met l yL_line wsL_line ({ frames := 8, cells := 6, slots := 36, locals := 136 }) (va_Pc [.ref x0, .int p1, .int p2, .int p3, .int p4, .ref o0] (zp D sz [(o0, .inl (D.2 1, 1, .inr (.inl ou))), (x0, .inr (5, [.ref h0, .ref b0, .ref w0, .ref s0, .ref m0, .ref g0, .int (nI cl)])), (h0, .inr (1, [.ref h1, .ref h2, .ref h3, .ref h4, .int (nI n)])), (h1, .inl (D.2 0, 16, .inl fa)), (h2, .inl (D.2 0, 16, .inl fo)), (h3, .inl (D.2 0, 16, .inl fm)), (h4, .inl (D.2 0, 16, .inl fc))])) (va_Qi (fun r (u : Option Int64) => (∃ r9 : Int32, u = some r9.toInt64 ∧ r = 0 ∧ (fun r (_ : Unit) => (zin p1 8 ∧ zin p2 8 ∧ zin p3 12) ∧ (¬ 16 ≤ nI n) ∧ (¬ p4 < (-1000000000) ∧ p4 ≤ 1000000000 ∧ ¬ p4 = 0) ∧ r = nI (n + 1)) r9 ()) ∨ (u = none ∧ ∃ E9, (fun E => (E = "java/lang/IndexOutOfBoundsException" ∧ ¬ (zin p1 8 ∧ zin p2 8 ∧ zin p3 12)) ∨ (E = "java/lang/IllegalStateException" ∧ (zin p1 8 ∧ zin p2 8 ∧ zin p3 12) ∧ ¬ (¬ 16 ≤ nI n)) ∨ (E = "java/lang/IllegalArgumentException" ∧ (zin p1 8 ∧ zin p2 8 ∧ zin p3 12) ∧ (¬ 16 ≤ nI n) ∧ ¬ (¬ p4 < (-1000000000) ∧ p4 ≤ 1000000000 ∧ ¬ p4 = 0))) E9 ∧ r = zcd ["java/lang/IndexOutOfBoundsException", "java/lang/IllegalStateException", "java/lang/IllegalArgumentException"] E9)) (zq D (va_A [(o0, .inl (D.2 1, 1, .inr (.inl ou))), (x0, .inr (5, [.ref h0, .ref b0, .ref w0, .ref s0, .ref m0, .ref g0, .int (nI cl)])), (h0, .inr (1, [.ref h1, .ref h2, .ref h3, .ref h4, .int (nI n)])), (h1, .inl (D.2 0, 16, .inl fa)), (h2, .inl (D.2 0, 16, .inl fo)), (h3, .inl (D.2 0, 16, .inl fm)), (h4, .inl (D.2 0, 16, .inl fc))] sz) (fun (u : Option Int64) => (u.elim [(o0, .inl (D.2 1, 1, .inr (.inl ou))), (x0, .inr (5, [.ref h0, .ref b0, .ref w0, .ref s0, .ref m0, .ref g0, .int (nI cl)])), (h0, .inr (1, [.ref h1, .ref h2, .ref h3, .ref h4, .int (nI n)])), (h1, .inl (D.2 0, 16, .inl fa)), (h2, .inl (D.2 0, 16, .inl fo)), (h3, .inl (D.2 0, 16, .inl fm)), (h4, .inl (D.2 0, 16, .inl fc))] (fun v => [(o0, .inl (D.2 1, 1, .inr (.inl (vp_updL ou 0 v)))), (x0, .inr (5, [.ref h0, .ref b0, .ref w0, .ref s0, .ref m0, .ref g0, .int (nI cl)])), (h0, .inr (1, [.ref h1, .ref h2, .ref h3, .ref h4, .int (nI (n + 1))])), (h1, .inl (D.2 0, 16, .inl (upd fa n p1))), (h2, .inl (D.2 0, 16, .inl (upd fo n p2))), (h3, .inl (D.2 0, 16, .inl (upd fm n p3))), (h4, .inl (D.2 0, 16, .inl (upd fc n p4)))]) : va_W))) (va_A [(o0, .inl (D.2 1, 1, .inr (.inl ou))), (x0, .inr (5, [.ref h0, .ref b0, .ref w0, .ref s0, .ref m0, .ref g0, .int (nI cl)])), (h0, .inr (1, [.ref h1, .ref h2, .ref h3, .ref h4, .int (nI n)])), (h1, .inl (D.2 0, 16, .inl fa)), (h2, .inl (D.2 0, 16, .inl fo)), (h3, .inl (D.2 0, 16, .inl fm)), (h4, .inl (D.2 0, 16, .inl fc))] sz)) 6 36 (va_A [(o0, .inl (D.2 1, 1, .inr (.inl ou))), (x0, .inr (5, [.ref h0, .ref b0, .ref w0, .ref s0, .ref m0, .ref g0, .int (nI cl)])), (h0, .inr (1, [.ref h1, .ref h2, .ref h3, .ref h4, .int (nI n)])), (h1, .inl (D.2 0, 16, .inl fa)), (h2, .inl (D.2 0, 16, .inl fo)), (h3, .inl (D.2 0, 16, .inl fm)), (h4, .inl (D.2 0, 16, .inl fc))] sz) := by
  refine va_MetW (cc := cL_line) (maxL := 7) (ret := (some .int)) (hh := [(0, 14, 17, 13), (0, 14, 21, 15), (0, 14, 25, 17)]) (by decide) rfl ?_
  intro p e s m args below meth c s₁ B hml hv
  obtain ⟨rfl, hsz, hP, hK, hD0, hB⟩ := hv
  have hx := B.exec
  have hb := B.bytes
  have hr := B.returns
  have hts := atoms_spec (ws := wsL_line) B.pre
  have hown : s.vm.findClass "ShopLedgerLaw" = some m.cls := findClass_of_methodNamed B.named
  have hlocks := B.notSynchronized
  have hTab : c.exceptionTable.toList = tableOf [(0, 14, 17, 13), (0, 14, 21, 15), (0, 14, 25, 17)] := vx_table (x := yL_line) B (hts _ List.mem_cons_self)
  subst hsz
  have hD := hD0.self (sz := s.heap.size)
  generalize hAe : va_A [(o0, .inl (D.2 1, 1, .inr (.inl ou))), (x0, .inr (5, [.ref h0, .ref b0, .ref w0, .ref s0, .ref m0, .ref g0, .int (nI cl)])), (h0, .inr (1, [.ref h1, .ref h2, .ref h3, .ref h4, .int (nI n)])), (h1, .inl (D.2 0, 16, .inl fa)), (h2, .inl (D.2 0, 16, .inl fo)), (h3, .inl (D.2 0, 16, .inl fm)), (h4, .inl (D.2 0, 16, .inl fc))] s.heap.size = A at hD hB ⊢
  have hA : ∀ q : Nat, s.heap.size ≤ q → A q := fun q h => by rw [← hAe]; exact Or.inr h
  have hS : va_S A s.heap s.heap [] := va_S.rf
  have hZ : ∀ w ∈ zALL, w.before _ s = true := fun w h => hts w (List.mem_cons_of_mem _ h)
  have hF : CallFix p m c cL_line 7 s _ zALL "ShopLedgerLaw" := ⟨hx, hb, hml, hown, hZ⟩
  have hl := lv_entry ([.ref x0, .int p1, .int p2, .int p3, .int p4, .ref o0]) (n := 7) (Nat.le_of_ble_eq_true rfl)
  rw [lg_entry_eq]
  generalize (lg_sl ([.ref x0, .int p1, .int p2, .int p3, .int p4, .ref o0]) ++ List.replicate (7 - (lg_sl ([.ref x0, .int p1, .int p2, .int p3, .int p4, .ref o0])).length) Slot.unset).toArray = ls at hl ⊢
  have hl : lv_has ls 7 [(0, .ref x0), (1, .int p1), (2, .int p2), (3, .int p3), (4, .int p4), (5, .ref o0)] := hl
  refine lv_aload hx hb dL_line_0 (lv_at hl 5 rfl) ?_
  refine lv_iconst (v := 0) hx hb dL_line_2 (by decide) ?_
  refine lv_aload_n hx hb dL_line_3 rfl (lv_at hl 0 rfl) ?_
  refine lv_iload_n hx hb dL_line_4 rfl (lv_at hl 1 rfl) ?_
  refine lv_iload_n hx hb dL_line_5 rfl (lv_at hl 2 rfl) ?_
  refine lv_iload_n hx hb dL_line_6 rfl (lv_at hl 3 rfl) ?_
  refine lv_iload hx hb dL_line_7 (lv_at hl 4 rfl) ?_
  have J := zJ.mk (wc := [(x0, .inr (5, [.ref h0, .ref b0, .ref w0, .ref s0, .ref m0, .ref g0, .int (nI cl)])), (h0, .inr (1, [.ref h1, .ref h2, .ref h3, .ref h4, .int (nI n)])), (h1, .inl (D.2 0, 16, .inl fa)), (h2, .inl (D.2 0, 16, .inl fo)), (h3, .inl (D.2 0, 16, .inl fm)), (h4, .inl (D.2 0, 16, .inl fc))]) (wr := [(o0, .inl (D.2 1, 1, .inr (.inl ou)))]) hA hB hK hP hD hS [1, 2, 3, 4, 5, 6] [0] rfl rfl (by decide)
  refine z_xgoi (z_xrunV (As := [.int p1, .int p2, .int p3, .int p4]) (rest := [.int 0, .ref o0]) (b := x0) hF (c_line hl9 D x0 b0 w0 s0 m0 g0 cl h0 h1 h2 h3 h4 n fa fo fm fc p1 p2 p3 p4 s.heap.size hn) (cwV 4 hZ (z_gV t_202 t_203 t_204 t_55 t_201) rfl rfl rfl (by decide +kernel) ⟨Nat.le_of_ble_eq_true rfl, Nat.le_of_ble_eq_true rfl⟩) J 0 5 rfl rfl rfl rfl hl.1 (Nat.le_of_ble_eq_true rfl) dL_line_9 ⟨Nat.le_of_ble_eq_true rfl, Nat.le_of_ble_eq_true rfl⟩) J (fun EX ce q9 H locs w1 hP hD hS hce hcv hcl => ?_) (fun r1 _ H locs w1 hP hD hS => ?_)
  · have hP : va_P D.1 vwCl [(o0, .inl (D.2 1, 1, .inr (.inl ou))), (x0, .inr (5, [.ref h0, .ref b0, .ref w0, .ref s0, .ref m0, .ref g0, .int (nI cl)])), (h0, .inr (1, [.ref h1, .ref h2, .ref h3, .ref h4, .int (nI n)])), (h1, .inl (D.2 0, 16, .inl fa)), (h2, .inl (D.2 0, 16, .inl fo)), (h3, .inl (D.2 0, 16, .inl fm)), (h4, .inl (D.2 0, 16, .inl fc))] H := hP
    have hD : va_D A [(o0, .inl (D.2 1, 1, .inr (.inl ou))), (x0, .inr (5, [.ref h0, .ref b0, .ref w0, .ref s0, .ref m0, .ref g0, .int (nI cl)])), (h0, .inr (1, [.ref h1, .ref h2, .ref h3, .ref h4, .int (nI n)])), (h1, .inl (D.2 0, 16, .inl fa)), (h2, .inl (D.2 0, 16, .inl fo)), (h3, .inl (D.2 0, 16, .inl fm)), (h4, .inl (D.2 0, 16, .inl fc))] := hD
    have wE := w1
    rcases w1 with ⟨rfl, -⟩ | ⟨rfl, -⟩ | ⟨rfl, -⟩
    · skip
      refine vx_catch (own := "ShopLedgerLaw") (name := "java/lang/IndexOutOfBoundsException") (E := "java/lang/IndexOutOfBoundsException") hown [] ⟨0, 14, 17, 13⟩ [⟨0, 14, 21, 15⟩, ⟨0, 14, 25, 17⟩] (by rw [hTab]; rfl) (fun z hz => nomatch hz) (by decide) (by decide) (hZ _ t_205) (va_Nw.use rfl (hB.2.2.2.1 ("java/lang/IndexOutOfBoundsException", "java/lang/IndexOutOfBoundsException") (by decide +kernel))) hce hcv hcl ?_
      refine lv_astore (lv' := [(6, .ref q9), (0, .ref x0), (1, .int p1), (2, .int p2), (3, .int p3), (4, .int p4), (5, .ref o0)]) hx hb dL_line_17 hl (by decide) rfl (fun ls hl => ?_)
      refine lv_iconst (v := 1) hx hb dL_line_19 (by decide) ?_
      exact z_iret (v := 1) hx hb hr hlocks hP hD hS none (Or.inr ⟨rfl, _, wE, by decide +kernel⟩) [0, 1, 2, 3, 4, 5, 6] rfl (by decide) (Nat.le_of_ble_eq_true rfl) (Nat.le_of_ble_eq_true rfl) dL_line_20
    · skip
      refine vx_catch (own := "ShopLedgerLaw") (name := "java/lang/IllegalStateException") (E := "java/lang/IllegalStateException") hown [⟨0, 14, 17, 13⟩] ⟨0, 14, 21, 15⟩ [⟨0, 14, 25, 17⟩] (by rw [hTab]; rfl) (by
          intro z hz
          rcases List.mem_cons.mp hz with rfl | hz
          · exact Or.inr ⟨by decide, "java/lang/IndexOutOfBoundsException", (hZ _ t_205), hB.2.2.2.2.2.2.1 ("java/lang/IllegalStateException", "java/lang/IndexOutOfBoundsException") (by decide +kernel)⟩
          cases hz) (by decide) (by decide) (hZ _ t_206) (va_Nw.use rfl (hB.2.2.2.1 ("java/lang/IllegalStateException", "java/lang/IllegalStateException") (by decide +kernel))) hce hcv hcl ?_
      refine lv_astore (lv' := [(6, .ref q9), (0, .ref x0), (1, .int p1), (2, .int p2), (3, .int p3), (4, .int p4), (5, .ref o0)]) hx hb dL_line_21 hl (by decide) rfl (fun ls hl => ?_)
      refine lv_iconst (v := 2) hx hb dL_line_23 (by decide) ?_
      exact z_iret (v := 2) hx hb hr hlocks hP hD hS none (Or.inr ⟨rfl, _, wE, by decide +kernel⟩) [0, 1, 2, 3, 4, 5, 6] rfl (by decide) (Nat.le_of_ble_eq_true rfl) (Nat.le_of_ble_eq_true rfl) dL_line_24
    · skip
      refine vx_catch (own := "ShopLedgerLaw") (name := "java/lang/IllegalArgumentException") (E := "java/lang/IllegalArgumentException") hown [⟨0, 14, 17, 13⟩, ⟨0, 14, 21, 15⟩] ⟨0, 14, 25, 17⟩ [] (by rw [hTab]; rfl) (by
          intro z hz
          rcases List.mem_cons.mp hz with rfl | hz
          · exact Or.inr ⟨by decide, "java/lang/IndexOutOfBoundsException", (hZ _ t_205), hB.2.2.2.2.2.2.1 ("java/lang/IllegalArgumentException", "java/lang/IndexOutOfBoundsException") (by decide +kernel)⟩
          rcases List.mem_cons.mp hz with rfl | hz
          · exact Or.inr ⟨by decide, "java/lang/IllegalStateException", (hZ _ t_206), hB.2.2.2.2.2.2.1 ("java/lang/IllegalArgumentException", "java/lang/IllegalStateException") (by decide +kernel)⟩
          cases hz) (by decide) (by decide) (hZ _ t_207) (va_Nw.use rfl (hB.2.2.2.1 ("java/lang/IllegalArgumentException", "java/lang/IllegalArgumentException") (by decide +kernel))) hce hcv hcl ?_
      refine lv_astore (lv' := [(6, .ref q9), (0, .ref x0), (1, .int p1), (2, .int p2), (3, .int p3), (4, .int p4), (5, .ref o0)]) hx hb dL_line_25 hl (by decide) rfl (fun ls hl => ?_)
      refine lv_iconst (v := 3) hx hb dL_line_27 (by decide) ?_
      exact z_iret (v := 3) hx hb hr hlocks hP hD hS none (Or.inr ⟨rfl, _, wE, by decide +kernel⟩) [0, 1, 2, 3, 4, 5, 6] rfl (by decide) (Nat.le_of_ble_eq_true rfl) (Nat.le_of_ble_eq_true rfl) dL_line_28
  have hP : va_P D.1 vwCl [(o0, .inl (D.2 1, 1, .inr (.inl ou))), (x0, .inr (5, [.ref h0, .ref b0, .ref w0, .ref s0, .ref m0, .ref g0, .int (nI cl)])), (h0, .inr (1, [.ref h1, .ref h2, .ref h3, .ref h4, .int (nI (n + 1))])), (h1, .inl (D.2 0, 16, .inl (upd fa n p1))), (h2, .inl (D.2 0, 16, .inl (upd fo n p2))), (h3, .inl (D.2 0, 16, .inl (upd fm n p3))), (h4, .inl (D.2 0, 16, .inl (upd fc n p4)))] H := hP
  have hD : va_D A [(o0, .inl (D.2 1, 1, .inr (.inl ou))), (x0, .inr (5, [.ref h0, .ref b0, .ref w0, .ref s0, .ref m0, .ref g0, .int (nI cl)])), (h0, .inr (1, [.ref h1, .ref h2, .ref h3, .ref h4, .int (nI (n + 1))])), (h1, .inl (D.2 0, 16, .inl (upd fa n p1))), (h2, .inl (D.2 0, 16, .inl (upd fo n p2))), (h3, .inl (D.2 0, 16, .inl (upd fm n p3))), (h4, .inl (D.2 0, 16, .inl (upd fc n p4)))] := hD
  refine lv_i2l (v := r1.toInt64) hx hb dL_line_12 rfl ?_
  refine z_last (k := 0) hx hb hK hP hD hS 0 rfl (by decide) (by decide) dL_line_13 (fun H locs hP hD hS => ?_)
  have hP : va_P D.1 vwCl [(o0, .inl (D.2 1, 1, .inr (.inl (vp_updL ou 0 r1.toInt64)))), (x0, .inr (5, [.ref h0, .ref b0, .ref w0, .ref s0, .ref m0, .ref g0, .int (nI cl)])), (h0, .inr (1, [.ref h1, .ref h2, .ref h3, .ref h4, .int (nI (n + 1))])), (h1, .inl (D.2 0, 16, .inl (upd fa n p1))), (h2, .inl (D.2 0, 16, .inl (upd fo n p2))), (h3, .inl (D.2 0, 16, .inl (upd fm n p3))), (h4, .inl (D.2 0, 16, .inl (upd fc n p4)))] H := hP
  have hD : va_D A [(o0, .inl (D.2 1, 1, .inr (.inl (vp_updL ou 0 r1.toInt64)))), (x0, .inr (5, [.ref h0, .ref b0, .ref w0, .ref s0, .ref m0, .ref g0, .int (nI cl)])), (h0, .inr (1, [.ref h1, .ref h2, .ref h3, .ref h4, .int (nI (n + 1))])), (h1, .inl (D.2 0, 16, .inl (upd fa n p1))), (h2, .inl (D.2 0, 16, .inl (upd fo n p2))), (h3, .inl (D.2 0, 16, .inl (upd fm n p3))), (h4, .inl (D.2 0, 16, .inl (upd fc n p4)))] := hD
  refine lv_goto (tgt := 29) hx hb dL_line_14 (by decide) ?_
  refine lv_iconst (v := 0) hx hb dL_line_29 (by decide) ?_
  exact z_iret (v := 0) hx hb hr hlocks hP hD hS (some r1.toInt64) (Or.inl ⟨r1, rfl, rfl, w1⟩) [0, 1, 2, 3, 4, 5, 6] rfl (by decide) (Nat.le_of_ble_eq_true rfl) (Nat.le_of_ble_eq_true rfl) dL_line_30
set_option maxHeartbeats 4000000 in
set_option maxRecDepth 100000 in
/-- the law calls put -/
theorem w_put {l : Launch} (D : zD) (x0 w0 s0 m0 g0 cl : Nat) (h0 h1 h2 h3 h4 n : Nat) (fa fo fm fc : Nat → Int32) (b0 b1 b2 b3 b4 b5 b6 b7 b8 b9 : Nat) (E : zE) (bt : Nat) (o0 : Nat) (ou : Nat → Int64) (sz : Nat) (hl9 : l.stackTraces = false) (hn : n ≤ 16) (hE : E.1 ≤ 200) (v1 : ∀ i, i < n → vp_in (fa i) 8) (v2 : ∀ i, i < n → vp_in (fo i) 8) (v3 : ∀ i, i < n → vp_in (fm i) 12) : Met l yL_put wsL_put ({ frames := 8, cells := 2, slots := 12, locals := 133 }) (va_Pc [.ref x0, .ref o0] (zp D sz [(o0, .inl (D.2 1, 1, .inr (.inl ou))), (x0, .inr (5, [.ref h0, .ref b0, .ref w0, .ref s0, .ref m0, .ref g0, .int (nI cl)])), (h0, .inr (1, [.ref h1, .ref h2, .ref h3, .ref h4, .int (nI n)])), (h1, .inl (D.2 0, 16, .inl fa)), (h2, .inl (D.2 0, 16, .inl fo)), (h3, .inl (D.2 0, 16, .inl fm)), (h4, .inl (D.2 0, 16, .inl fc)), (b0, .inr (0, [.ref b1, .ref b2, .ref b3, .ref b4, .ref b5, .int (nI E.1), .ref b6, .ref b7, .ref b8, .ref b9, .int (nI bt)])), (b1, .inl (D.2 0, 200, .inl E.2.1)), (b2, .inl (D.2 0, 200, .inl E.2.2.1)), (b3, .inl (D.2 0, 200, .inl E.2.2.2.1)), (b4, .inl (D.2 0, 200, .inl E.2.2.2.2.1)), (b5, .inl (D.2 0, 200, .inl E.2.2.2.2.2.1)), (b6, .inl (D.2 1, 8, .inr (.inl E.2.2.2.2.2.2.1))), (b7, .inl (D.2 1, 8, .inr (.inl E.2.2.2.2.2.2.2.1))), (b8, .inl (D.2 1, 12, .inr (.inl E.2.2.2.2.2.2.2.2)))])) (va_Qi (fun r (u : Option Int64) => (∃ r9 : Int32, u = some r9.toInt64 ∧ r = 0 ∧ (fun r (_ : Unit) => (¬ ∃ i, i < n ∧ fm i < nI cl) ∧ (¬ nI n = 0 ∧ zs_lsum fc n = 0 ∧ nI n ≤ 200 - nI E.1) ∧ r = nI bt) r9 ()) ∨ (u = none ∧ ∃ E9, (fun E9 => (E9 = "java/lang/IllegalStateException" ∧ ¬ (¬ ∃ i, i < n ∧ fm i < nI cl)) ∨ (E9 = "java/lang/UnsupportedOperationException" ∧ (¬ ∃ i, i < n ∧ fm i < nI cl) ∧ ¬ (¬ nI n = 0 ∧ zs_lsum fc n = 0 ∧ nI n ≤ 200 - nI E.1))) E9 ∧ r = zcd ["java/lang/IllegalStateException", "java/lang/UnsupportedOperationException"] E9)) (zq D (va_A [(o0, .inl (D.2 1, 1, .inr (.inl ou))), (x0, .inr (5, [.ref h0, .ref b0, .ref w0, .ref s0, .ref m0, .ref g0, .int (nI cl)])), (h0, .inr (1, [.ref h1, .ref h2, .ref h3, .ref h4, .int (nI n)])), (h1, .inl (D.2 0, 16, .inl fa)), (h2, .inl (D.2 0, 16, .inl fo)), (h3, .inl (D.2 0, 16, .inl fm)), (h4, .inl (D.2 0, 16, .inl fc)), (b0, .inr (0, [.ref b1, .ref b2, .ref b3, .ref b4, .ref b5, .int (nI E.1), .ref b6, .ref b7, .ref b8, .ref b9, .int (nI bt)])), (b1, .inl (D.2 0, 200, .inl E.2.1)), (b2, .inl (D.2 0, 200, .inl E.2.2.1)), (b3, .inl (D.2 0, 200, .inl E.2.2.2.1)), (b4, .inl (D.2 0, 200, .inl E.2.2.2.2.1)), (b5, .inl (D.2 0, 200, .inl E.2.2.2.2.2.1)), (b6, .inl (D.2 1, 8, .inr (.inl E.2.2.2.2.2.2.1))), (b7, .inl (D.2 1, 8, .inr (.inl E.2.2.2.2.2.2.2.1))), (b8, .inl (D.2 1, 12, .inr (.inl E.2.2.2.2.2.2.2.2)))] sz) (fun (u : Option Int64) => (u.elim [(o0, .inl (D.2 1, 1, .inr (.inl ou))), (x0, .inr (5, [.ref h0, .ref b0, .ref w0, .ref s0, .ref m0, .ref g0, .int (nI cl)])), (h0, .inr (1, [.ref h1, .ref h2, .ref h3, .ref h4, .int 0])), (h1, .inl (D.2 0, 16, .inl fa)), (h2, .inl (D.2 0, 16, .inl fo)), (h3, .inl (D.2 0, 16, .inl fm)), (h4, .inl (D.2 0, 16, .inl fc)), (b0, .inr (0, [.ref b1, .ref b2, .ref b3, .ref b4, .ref b5, .int (nI E.1), .ref b6, .ref b7, .ref b8, .ref b9, .int (nI bt)])), (b1, .inl (D.2 0, 200, .inl E.2.1)), (b2, .inl (D.2 0, 200, .inl E.2.2.1)), (b3, .inl (D.2 0, 200, .inl E.2.2.2.1)), (b4, .inl (D.2 0, 200, .inl E.2.2.2.2.1)), (b5, .inl (D.2 0, 200, .inl E.2.2.2.2.2.1)), (b6, .inl (D.2 1, 8, .inr (.inl E.2.2.2.2.2.2.1))), (b7, .inl (D.2 1, 8, .inr (.inl E.2.2.2.2.2.2.2.1))), (b8, .inl (D.2 1, 12, .inr (.inl E.2.2.2.2.2.2.2.2)))] (fun v => [(o0, .inl (D.2 1, 1, .inr (.inl (vp_updL ou 0 v)))), (x0, .inr (5, [.ref h0, .ref b0, .ref w0, .ref s0, .ref m0, .ref g0, .int (nI cl)])), (h0, .inr (1, [.ref h1, .ref h2, .ref h3, .ref h4, .int 0])), (h1, .inl (D.2 0, 16, .inl fa)), (h2, .inl (D.2 0, 16, .inl fo)), (h3, .inl (D.2 0, 16, .inl fm)), (h4, .inl (D.2 0, 16, .inl fc)), (b0, .inr (0, [.ref b1, .ref b2, .ref b3, .ref b4, .ref b5, .int (nI (zs_put E (nI bt) fa fo fm fc n).1), .ref b6, .ref b7, .ref b8, .ref b9, .int (nI (bt + 1))])), (b1, .inl (D.2 0, 200, .inl ((zs_put E (nI bt) fa fo fm fc n).2.1))), (b2, .inl (D.2 0, 200, .inl ((zs_put E (nI bt) fa fo fm fc n).2.2.1))), (b3, .inl (D.2 0, 200, .inl ((zs_put E (nI bt) fa fo fm fc n).2.2.2.1))), (b4, .inl (D.2 0, 200, .inl ((zs_put E (nI bt) fa fo fm fc n).2.2.2.2.1))), (b5, .inl (D.2 0, 200, .inl ((zs_put E (nI bt) fa fo fm fc n).2.2.2.2.2.1))), (b6, .inl (D.2 1, 8, .inr (.inl ((zs_put E (nI bt) fa fo fm fc n).2.2.2.2.2.2.1)))), (b7, .inl (D.2 1, 8, .inr (.inl ((zs_put E (nI bt) fa fo fm fc n).2.2.2.2.2.2.2.1)))), (b8, .inl (D.2 1, 12, .inr (.inl ((zs_put E (nI bt) fa fo fm fc n).2.2.2.2.2.2.2.2))))]) : va_W))) (va_A [(o0, .inl (D.2 1, 1, .inr (.inl ou))), (x0, .inr (5, [.ref h0, .ref b0, .ref w0, .ref s0, .ref m0, .ref g0, .int (nI cl)])), (h0, .inr (1, [.ref h1, .ref h2, .ref h3, .ref h4, .int (nI n)])), (h1, .inl (D.2 0, 16, .inl fa)), (h2, .inl (D.2 0, 16, .inl fo)), (h3, .inl (D.2 0, 16, .inl fm)), (h4, .inl (D.2 0, 16, .inl fc)), (b0, .inr (0, [.ref b1, .ref b2, .ref b3, .ref b4, .ref b5, .int (nI E.1), .ref b6, .ref b7, .ref b8, .ref b9, .int (nI bt)])), (b1, .inl (D.2 0, 200, .inl E.2.1)), (b2, .inl (D.2 0, 200, .inl E.2.2.1)), (b3, .inl (D.2 0, 200, .inl E.2.2.2.1)), (b4, .inl (D.2 0, 200, .inl E.2.2.2.2.1)), (b5, .inl (D.2 0, 200, .inl E.2.2.2.2.2.1)), (b6, .inl (D.2 1, 8, .inr (.inl E.2.2.2.2.2.2.1))), (b7, .inl (D.2 1, 8, .inr (.inl E.2.2.2.2.2.2.2.1))), (b8, .inl (D.2 1, 12, .inr (.inl E.2.2.2.2.2.2.2.2)))] sz)) 2 12 (va_A [(o0, .inl (D.2 1, 1, .inr (.inl ou))), (x0, .inr (5, [.ref h0, .ref b0, .ref w0, .ref s0, .ref m0, .ref g0, .int (nI cl)])), (h0, .inr (1, [.ref h1, .ref h2, .ref h3, .ref h4, .int (nI n)])), (h1, .inl (D.2 0, 16, .inl fa)), (h2, .inl (D.2 0, 16, .inl fo)), (h3, .inl (D.2 0, 16, .inl fm)), (h4, .inl (D.2 0, 16, .inl fc)), (b0, .inr (0, [.ref b1, .ref b2, .ref b3, .ref b4, .ref b5, .int (nI E.1), .ref b6, .ref b7, .ref b8, .ref b9, .int (nI bt)])), (b1, .inl (D.2 0, 200, .inl E.2.1)), (b2, .inl (D.2 0, 200, .inl E.2.2.1)), (b3, .inl (D.2 0, 200, .inl E.2.2.2.1)), (b4, .inl (D.2 0, 200, .inl E.2.2.2.2.1)), (b5, .inl (D.2 0, 200, .inl E.2.2.2.2.2.1)), (b6, .inl (D.2 1, 8, .inr (.inl E.2.2.2.2.2.2.1))), (b7, .inl (D.2 1, 8, .inr (.inl E.2.2.2.2.2.2.2.1))), (b8, .inl (D.2 1, 12, .inr (.inl E.2.2.2.2.2.2.2.2)))] sz) := by
  refine va_MetW (cc := cL_put) (maxL := 3) (ret := (some .int)) (hh := [(0, 8, 11, 15), (0, 8, 14, 23)]) (by decide) rfl ?_
  intro p e s m args below meth c s₁ B hml hv
  obtain ⟨rfl, hsz, hP, hK, hD0, hB⟩ := hv
  have hx := B.exec
  have hb := B.bytes
  have hr := B.returns
  have hts := atoms_spec (ws := wsL_put) B.pre
  have hown : s.vm.findClass "ShopLedgerLaw" = some m.cls := findClass_of_methodNamed B.named
  have hlocks := B.notSynchronized
  have hTab : c.exceptionTable.toList = tableOf [(0, 8, 11, 15), (0, 8, 14, 23)] := vx_table (x := yL_put) B (hts _ List.mem_cons_self)
  subst hsz
  have hD := hD0.self (sz := s.heap.size)
  generalize hAe : va_A [(o0, .inl (D.2 1, 1, .inr (.inl ou))), (x0, .inr (5, [.ref h0, .ref b0, .ref w0, .ref s0, .ref m0, .ref g0, .int (nI cl)])), (h0, .inr (1, [.ref h1, .ref h2, .ref h3, .ref h4, .int (nI n)])), (h1, .inl (D.2 0, 16, .inl fa)), (h2, .inl (D.2 0, 16, .inl fo)), (h3, .inl (D.2 0, 16, .inl fm)), (h4, .inl (D.2 0, 16, .inl fc)), (b0, .inr (0, [.ref b1, .ref b2, .ref b3, .ref b4, .ref b5, .int (nI E.1), .ref b6, .ref b7, .ref b8, .ref b9, .int (nI bt)])), (b1, .inl (D.2 0, 200, .inl E.2.1)), (b2, .inl (D.2 0, 200, .inl E.2.2.1)), (b3, .inl (D.2 0, 200, .inl E.2.2.2.1)), (b4, .inl (D.2 0, 200, .inl E.2.2.2.2.1)), (b5, .inl (D.2 0, 200, .inl E.2.2.2.2.2.1)), (b6, .inl (D.2 1, 8, .inr (.inl E.2.2.2.2.2.2.1))), (b7, .inl (D.2 1, 8, .inr (.inl E.2.2.2.2.2.2.2.1))), (b8, .inl (D.2 1, 12, .inr (.inl E.2.2.2.2.2.2.2.2)))] s.heap.size = A at hD hB ⊢
  have hA : ∀ q : Nat, s.heap.size ≤ q → A q := fun q h => by rw [← hAe]; exact Or.inr h
  have hS : va_S A s.heap s.heap [] := va_S.rf
  have hZ : ∀ w ∈ zALL, w.before _ s = true := fun w h => hts w (List.mem_cons_of_mem _ h)
  have hF : CallFix p m c cL_put 3 s _ zALL "ShopLedgerLaw" := ⟨hx, hb, hml, hown, hZ⟩
  have hl := lv_entry ([.ref x0, .ref o0]) (n := 3) (Nat.le_of_ble_eq_true rfl)
  rw [lg_entry_eq]
  generalize (lg_sl ([.ref x0, .ref o0]) ++ List.replicate (3 - (lg_sl ([.ref x0, .ref o0])).length) Slot.unset).toArray = ls at hl ⊢
  have hl : lv_has ls 3 [(0, .ref x0), (1, .ref o0)] := hl
  refine lv_aload_n hx hb dL_put_0 rfl (lv_at hl 1 rfl) ?_
  refine lv_iconst (v := 0) hx hb dL_put_1 (by decide) ?_
  refine lv_aload_n hx hb dL_put_2 rfl (lv_at hl 0 rfl) ?_
  have J := zJ.mk (wc := [(x0, .inr (5, [.ref h0, .ref b0, .ref w0, .ref s0, .ref m0, .ref g0, .int (nI cl)])), (h0, .inr (1, [.ref h1, .ref h2, .ref h3, .ref h4, .int (nI n)])), (h1, .inl (D.2 0, 16, .inl fa)), (h2, .inl (D.2 0, 16, .inl fo)), (h3, .inl (D.2 0, 16, .inl fm)), (h4, .inl (D.2 0, 16, .inl fc)), (b0, .inr (0, [.ref b1, .ref b2, .ref b3, .ref b4, .ref b5, .int (nI E.1), .ref b6, .ref b7, .ref b8, .ref b9, .int (nI bt)])), (b1, .inl (D.2 0, 200, .inl E.2.1)), (b2, .inl (D.2 0, 200, .inl E.2.2.1)), (b3, .inl (D.2 0, 200, .inl E.2.2.2.1)), (b4, .inl (D.2 0, 200, .inl E.2.2.2.2.1)), (b5, .inl (D.2 0, 200, .inl E.2.2.2.2.2.1)), (b6, .inl (D.2 1, 8, .inr (.inl E.2.2.2.2.2.2.1))), (b7, .inl (D.2 1, 8, .inr (.inl E.2.2.2.2.2.2.2.1))), (b8, .inl (D.2 1, 12, .inr (.inl E.2.2.2.2.2.2.2.2)))]) (wr := [(o0, .inl (D.2 1, 1, .inr (.inl ou)))]) hA hB hK hP hD hS [1, 2, 3, 4, 5, 6, 7, 8, 9, 10, 11, 12, 13, 14, 15] [0] rfl rfl (by decide)
  refine z_xgoi (z_xrunV (As := []) (rest := [.int 0, .ref o0]) (b := x0) hF (c_put hl9 D x0 w0 s0 m0 g0 cl h0 h1 h2 h3 h4 n fa fo fm fc b0 b1 b2 b3 b4 b5 b6 b7 b8 b9 E bt s.heap.size hn hE v1 v2 v3) (cwV 0 hZ (z_gV t_209 t_210 t_211 t_55 t_208) rfl rfl rfl (by decide +kernel) ⟨Nat.le_of_ble_eq_true rfl, Nat.le_of_ble_eq_true rfl⟩) J 0 5 rfl rfl rfl rfl hl.1 (Nat.le_of_ble_eq_true rfl) dL_put_3 ⟨Nat.le_of_ble_eq_true rfl, Nat.le_of_ble_eq_true rfl⟩) J (fun EX ce q9 H locs w1 hP hD hS hce hcv hcl => ?_) (fun r1 _ H locs w1 hP hD hS => ?_)
  · have hP : va_P D.1 vwCl [(o0, .inl (D.2 1, 1, .inr (.inl ou))), (x0, .inr (5, [.ref h0, .ref b0, .ref w0, .ref s0, .ref m0, .ref g0, .int (nI cl)])), (h0, .inr (1, [.ref h1, .ref h2, .ref h3, .ref h4, .int 0])), (h1, .inl (D.2 0, 16, .inl fa)), (h2, .inl (D.2 0, 16, .inl fo)), (h3, .inl (D.2 0, 16, .inl fm)), (h4, .inl (D.2 0, 16, .inl fc)), (b0, .inr (0, [.ref b1, .ref b2, .ref b3, .ref b4, .ref b5, .int (nI E.1), .ref b6, .ref b7, .ref b8, .ref b9, .int (nI bt)])), (b1, .inl (D.2 0, 200, .inl E.2.1)), (b2, .inl (D.2 0, 200, .inl E.2.2.1)), (b3, .inl (D.2 0, 200, .inl E.2.2.2.1)), (b4, .inl (D.2 0, 200, .inl E.2.2.2.2.1)), (b5, .inl (D.2 0, 200, .inl E.2.2.2.2.2.1)), (b6, .inl (D.2 1, 8, .inr (.inl E.2.2.2.2.2.2.1))), (b7, .inl (D.2 1, 8, .inr (.inl E.2.2.2.2.2.2.2.1))), (b8, .inl (D.2 1, 12, .inr (.inl E.2.2.2.2.2.2.2.2)))] H := hP
    have hD : va_D A [(o0, .inl (D.2 1, 1, .inr (.inl ou))), (x0, .inr (5, [.ref h0, .ref b0, .ref w0, .ref s0, .ref m0, .ref g0, .int (nI cl)])), (h0, .inr (1, [.ref h1, .ref h2, .ref h3, .ref h4, .int 0])), (h1, .inl (D.2 0, 16, .inl fa)), (h2, .inl (D.2 0, 16, .inl fo)), (h3, .inl (D.2 0, 16, .inl fm)), (h4, .inl (D.2 0, 16, .inl fc)), (b0, .inr (0, [.ref b1, .ref b2, .ref b3, .ref b4, .ref b5, .int (nI E.1), .ref b6, .ref b7, .ref b8, .ref b9, .int (nI bt)])), (b1, .inl (D.2 0, 200, .inl E.2.1)), (b2, .inl (D.2 0, 200, .inl E.2.2.1)), (b3, .inl (D.2 0, 200, .inl E.2.2.2.1)), (b4, .inl (D.2 0, 200, .inl E.2.2.2.2.1)), (b5, .inl (D.2 0, 200, .inl E.2.2.2.2.2.1)), (b6, .inl (D.2 1, 8, .inr (.inl E.2.2.2.2.2.2.1))), (b7, .inl (D.2 1, 8, .inr (.inl E.2.2.2.2.2.2.2.1))), (b8, .inl (D.2 1, 12, .inr (.inl E.2.2.2.2.2.2.2.2)))] := hD
    have wE := w1
    rcases w1 with ⟨rfl, -⟩ | ⟨rfl, -⟩
    · skip
      refine vx_catch (own := "ShopLedgerLaw") (name := "java/lang/IllegalStateException") (E := "java/lang/IllegalStateException") hown [] ⟨0, 8, 11, 15⟩ [⟨0, 8, 14, 23⟩] (by rw [hTab]; rfl) (fun z hz => nomatch hz) (by decide) (by decide) (hZ _ t_206) (va_Nw.use rfl (hB.2.2.2.1 ("java/lang/IllegalStateException", "java/lang/IllegalStateException") (by decide +kernel))) hce hcv hcl ?_
      refine lv_astore_n (lv' := [(2, .ref q9), (0, .ref x0), (1, .ref o0)]) hx hb dL_put_11 rfl hl (by decide) rfl (fun ls hl => ?_)
      refine lv_iconst (v := 1) hx hb dL_put_12 (by decide) ?_
      exact z_iret (v := 1) hx hb hr hlocks hP hD hS none (Or.inr ⟨rfl, _, wE, by decide +kernel⟩) [0, 1, 2, 3, 4, 5, 6, 7, 8, 9, 10, 11, 12, 13, 14, 15] rfl (by decide) (Nat.le_of_ble_eq_true rfl) (Nat.le_of_ble_eq_true rfl) dL_put_13
    · skip
      refine vx_catch (own := "ShopLedgerLaw") (name := "java/lang/UnsupportedOperationException") (E := "java/lang/UnsupportedOperationException") hown [⟨0, 8, 11, 15⟩] ⟨0, 8, 14, 23⟩ [] (by rw [hTab]; rfl) (by
          intro z hz
          rcases List.mem_cons.mp hz with rfl | hz
          · exact Or.inr ⟨by decide, "java/lang/IllegalStateException", (hZ _ t_206), hB.2.2.2.2.2.2.1 ("java/lang/UnsupportedOperationException", "java/lang/IllegalStateException") (by decide +kernel)⟩
          cases hz) (by decide) (by decide) (hZ _ t_212) (va_Nw.use rfl (hB.2.2.2.1 ("java/lang/UnsupportedOperationException", "java/lang/UnsupportedOperationException") (by decide +kernel))) hce hcv hcl ?_
      refine lv_astore_n (lv' := [(2, .ref q9), (0, .ref x0), (1, .ref o0)]) hx hb dL_put_14 rfl hl (by decide) rfl (fun ls hl => ?_)
      refine lv_iconst (v := 2) hx hb dL_put_15 (by decide) ?_
      exact z_iret (v := 2) hx hb hr hlocks hP hD hS none (Or.inr ⟨rfl, _, wE, by decide +kernel⟩) [0, 1, 2, 3, 4, 5, 6, 7, 8, 9, 10, 11, 12, 13, 14, 15] rfl (by decide) (Nat.le_of_ble_eq_true rfl) (Nat.le_of_ble_eq_true rfl) dL_put_16
  have hP : va_P D.1 vwCl [(o0, .inl (D.2 1, 1, .inr (.inl ou))), (x0, .inr (5, [.ref h0, .ref b0, .ref w0, .ref s0, .ref m0, .ref g0, .int (nI cl)])), (h0, .inr (1, [.ref h1, .ref h2, .ref h3, .ref h4, .int 0])), (h1, .inl (D.2 0, 16, .inl fa)), (h2, .inl (D.2 0, 16, .inl fo)), (h3, .inl (D.2 0, 16, .inl fm)), (h4, .inl (D.2 0, 16, .inl fc)), (b0, .inr (0, [.ref b1, .ref b2, .ref b3, .ref b4, .ref b5, .int (nI (zs_put E (nI bt) fa fo fm fc n).1), .ref b6, .ref b7, .ref b8, .ref b9, .int (nI (bt + 1))])), (b1, .inl (D.2 0, 200, .inl ((zs_put E (nI bt) fa fo fm fc n).2.1))), (b2, .inl (D.2 0, 200, .inl ((zs_put E (nI bt) fa fo fm fc n).2.2.1))), (b3, .inl (D.2 0, 200, .inl ((zs_put E (nI bt) fa fo fm fc n).2.2.2.1))), (b4, .inl (D.2 0, 200, .inl ((zs_put E (nI bt) fa fo fm fc n).2.2.2.2.1))), (b5, .inl (D.2 0, 200, .inl ((zs_put E (nI bt) fa fo fm fc n).2.2.2.2.2.1))), (b6, .inl (D.2 1, 8, .inr (.inl ((zs_put E (nI bt) fa fo fm fc n).2.2.2.2.2.2.1)))), (b7, .inl (D.2 1, 8, .inr (.inl ((zs_put E (nI bt) fa fo fm fc n).2.2.2.2.2.2.2.1)))), (b8, .inl (D.2 1, 12, .inr (.inl ((zs_put E (nI bt) fa fo fm fc n).2.2.2.2.2.2.2.2))))] H := hP
  have hD : va_D A [(o0, .inl (D.2 1, 1, .inr (.inl ou))), (x0, .inr (5, [.ref h0, .ref b0, .ref w0, .ref s0, .ref m0, .ref g0, .int (nI cl)])), (h0, .inr (1, [.ref h1, .ref h2, .ref h3, .ref h4, .int 0])), (h1, .inl (D.2 0, 16, .inl fa)), (h2, .inl (D.2 0, 16, .inl fo)), (h3, .inl (D.2 0, 16, .inl fm)), (h4, .inl (D.2 0, 16, .inl fc)), (b0, .inr (0, [.ref b1, .ref b2, .ref b3, .ref b4, .ref b5, .int (nI (zs_put E (nI bt) fa fo fm fc n).1), .ref b6, .ref b7, .ref b8, .ref b9, .int (nI (bt + 1))])), (b1, .inl (D.2 0, 200, .inl ((zs_put E (nI bt) fa fo fm fc n).2.1))), (b2, .inl (D.2 0, 200, .inl ((zs_put E (nI bt) fa fo fm fc n).2.2.1))), (b3, .inl (D.2 0, 200, .inl ((zs_put E (nI bt) fa fo fm fc n).2.2.2.1))), (b4, .inl (D.2 0, 200, .inl ((zs_put E (nI bt) fa fo fm fc n).2.2.2.2.1))), (b5, .inl (D.2 0, 200, .inl ((zs_put E (nI bt) fa fo fm fc n).2.2.2.2.2.1))), (b6, .inl (D.2 1, 8, .inr (.inl ((zs_put E (nI bt) fa fo fm fc n).2.2.2.2.2.2.1)))), (b7, .inl (D.2 1, 8, .inr (.inl ((zs_put E (nI bt) fa fo fm fc n).2.2.2.2.2.2.2.1)))), (b8, .inl (D.2 1, 12, .inr (.inl ((zs_put E (nI bt) fa fo fm fc n).2.2.2.2.2.2.2.2))))] := hD
  refine lv_i2l (v := r1.toInt64) hx hb dL_put_6 rfl ?_
  refine z_last (k := 0) hx hb hK hP hD hS 0 rfl (by decide) (by decide) dL_put_7 (fun H locs hP hD hS => ?_)
  have hP : va_P D.1 vwCl [(o0, .inl (D.2 1, 1, .inr (.inl (vp_updL ou 0 r1.toInt64)))), (x0, .inr (5, [.ref h0, .ref b0, .ref w0, .ref s0, .ref m0, .ref g0, .int (nI cl)])), (h0, .inr (1, [.ref h1, .ref h2, .ref h3, .ref h4, .int 0])), (h1, .inl (D.2 0, 16, .inl fa)), (h2, .inl (D.2 0, 16, .inl fo)), (h3, .inl (D.2 0, 16, .inl fm)), (h4, .inl (D.2 0, 16, .inl fc)), (b0, .inr (0, [.ref b1, .ref b2, .ref b3, .ref b4, .ref b5, .int (nI (zs_put E (nI bt) fa fo fm fc n).1), .ref b6, .ref b7, .ref b8, .ref b9, .int (nI (bt + 1))])), (b1, .inl (D.2 0, 200, .inl ((zs_put E (nI bt) fa fo fm fc n).2.1))), (b2, .inl (D.2 0, 200, .inl ((zs_put E (nI bt) fa fo fm fc n).2.2.1))), (b3, .inl (D.2 0, 200, .inl ((zs_put E (nI bt) fa fo fm fc n).2.2.2.1))), (b4, .inl (D.2 0, 200, .inl ((zs_put E (nI bt) fa fo fm fc n).2.2.2.2.1))), (b5, .inl (D.2 0, 200, .inl ((zs_put E (nI bt) fa fo fm fc n).2.2.2.2.2.1))), (b6, .inl (D.2 1, 8, .inr (.inl ((zs_put E (nI bt) fa fo fm fc n).2.2.2.2.2.2.1)))), (b7, .inl (D.2 1, 8, .inr (.inl ((zs_put E (nI bt) fa fo fm fc n).2.2.2.2.2.2.2.1)))), (b8, .inl (D.2 1, 12, .inr (.inl ((zs_put E (nI bt) fa fo fm fc n).2.2.2.2.2.2.2.2))))] H := hP
  have hD : va_D A [(o0, .inl (D.2 1, 1, .inr (.inl (vp_updL ou 0 r1.toInt64)))), (x0, .inr (5, [.ref h0, .ref b0, .ref w0, .ref s0, .ref m0, .ref g0, .int (nI cl)])), (h0, .inr (1, [.ref h1, .ref h2, .ref h3, .ref h4, .int 0])), (h1, .inl (D.2 0, 16, .inl fa)), (h2, .inl (D.2 0, 16, .inl fo)), (h3, .inl (D.2 0, 16, .inl fm)), (h4, .inl (D.2 0, 16, .inl fc)), (b0, .inr (0, [.ref b1, .ref b2, .ref b3, .ref b4, .ref b5, .int (nI (zs_put E (nI bt) fa fo fm fc n).1), .ref b6, .ref b7, .ref b8, .ref b9, .int (nI (bt + 1))])), (b1, .inl (D.2 0, 200, .inl ((zs_put E (nI bt) fa fo fm fc n).2.1))), (b2, .inl (D.2 0, 200, .inl ((zs_put E (nI bt) fa fo fm fc n).2.2.1))), (b3, .inl (D.2 0, 200, .inl ((zs_put E (nI bt) fa fo fm fc n).2.2.2.1))), (b4, .inl (D.2 0, 200, .inl ((zs_put E (nI bt) fa fo fm fc n).2.2.2.2.1))), (b5, .inl (D.2 0, 200, .inl ((zs_put E (nI bt) fa fo fm fc n).2.2.2.2.2.1))), (b6, .inl (D.2 1, 8, .inr (.inl ((zs_put E (nI bt) fa fo fm fc n).2.2.2.2.2.2.1)))), (b7, .inl (D.2 1, 8, .inr (.inl ((zs_put E (nI bt) fa fo fm fc n).2.2.2.2.2.2.2.1)))), (b8, .inl (D.2 1, 12, .inr (.inl ((zs_put E (nI bt) fa fo fm fc n).2.2.2.2.2.2.2.2))))] := hD
  refine lv_goto (tgt := 17) hx hb dL_put_8 (by decide) ?_
  refine lv_iconst (v := 0) hx hb dL_put_17 (by decide) ?_
  exact z_iret (v := 0) hx hb hr hlocks hP hD hS (some r1.toInt64) (Or.inl ⟨r1, rfl, rfl, w1⟩) [0, 1, 2, 3, 4, 5, 6, 7, 8, 9, 10, 11, 12, 13, 14, 15] rfl (by decide) (Nat.le_of_ble_eq_true rfl) (Nat.le_of_ble_eq_true rfl) dL_put_18
set_option maxHeartbeats 4000000 in
set_option maxRecDepth 100000 in
/-- the law calls correct -/
theorem w_correct {l : Launch} (D : zD) (x0 h0 w0 s0 m0 g0 cl : Nat) (b0 b1 b2 b3 b4 b5 b6 b7 b8 b9 : Nat) (E : zE) (bt : Nat) (p1 p2 p3 p4 p5 : Int32) (o0 : Nat) (ou : Nat → Int64) (sz : Nat) (hl9 : l.stackTraces = false) (hE : E.1 ≤ 200) : Met l yL_correct wsL_correct ({ frames := 8, cells := 7, slots := 42, locals := 137 }) (va_Pc [.ref x0, .int p1, .int p2, .int p3, .int p4, .int p5, .ref o0] (zp D sz [(o0, .inl (D.2 1, 1, .inr (.inl ou))), (x0, .inr (5, [.ref h0, .ref b0, .ref w0, .ref s0, .ref m0, .ref g0, .int (nI cl)])), (b0, .inr (0, [.ref b1, .ref b2, .ref b3, .ref b4, .ref b5, .int (nI E.1), .ref b6, .ref b7, .ref b8, .ref b9, .int (nI bt)])), (b1, .inl (D.2 0, 200, .inl E.2.1)), (b2, .inl (D.2 0, 200, .inl E.2.2.1)), (b3, .inl (D.2 0, 200, .inl E.2.2.2.1)), (b4, .inl (D.2 0, 200, .inl E.2.2.2.2.1)), (b5, .inl (D.2 0, 200, .inl E.2.2.2.2.2.1)), (b6, .inl (D.2 1, 8, .inr (.inl E.2.2.2.2.2.2.1))), (b7, .inl (D.2 1, 8, .inr (.inl E.2.2.2.2.2.2.2.1))), (b8, .inl (D.2 1, 12, .inr (.inl E.2.2.2.2.2.2.2.2)))])) (va_Qi (fun r (u : Option Int64) => (∃ r9 : Int32, u = some r9.toInt64 ∧ r = 0 ∧ (fun r (_ : Unit) => (zin p1 8 ∧ zin p2 8 ∧ ¬ p1 = p2 ∧ zin p3 8 ∧ zin p4 12) ∧ (¬ p4 < nI cl - 1) ∧ (¬ p5 < 1 ∧ p5 ≤ 1000000000) ∧ (2 ≤ 200 - nI E.1) ∧ r = nI bt) r9 ()) ∨ (u = none ∧ ∃ E9, (fun E9 => (E9 = "java/lang/IndexOutOfBoundsException" ∧ ¬ (zin p1 8 ∧ zin p2 8 ∧ ¬ p1 = p2 ∧ zin p3 8 ∧ zin p4 12)) ∨ (E9 = "java/lang/IllegalStateException" ∧ (zin p1 8 ∧ zin p2 8 ∧ ¬ p1 = p2 ∧ zin p3 8 ∧ zin p4 12) ∧ ¬ (¬ p4 < nI cl - 1)) ∨ (E9 = "java/lang/IllegalArgumentException" ∧ (zin p1 8 ∧ zin p2 8 ∧ ¬ p1 = p2 ∧ zin p3 8 ∧ zin p4 12) ∧ (¬ p4 < nI cl - 1) ∧ ¬ (¬ p5 < 1 ∧ p5 ≤ 1000000000)) ∨ (E9 = "java/lang/UnsupportedOperationException" ∧ (zin p1 8 ∧ zin p2 8 ∧ ¬ p1 = p2 ∧ zin p3 8 ∧ zin p4 12) ∧ (¬ p4 < nI cl - 1) ∧ (¬ p5 < 1 ∧ p5 ≤ 1000000000) ∧ ¬ (2 ≤ 200 - nI E.1))) E9 ∧ r = zcd ["java/lang/IndexOutOfBoundsException", "java/lang/IllegalStateException", "java/lang/IllegalArgumentException", "java/lang/UnsupportedOperationException"] E9)) (zq D (va_A [(o0, .inl (D.2 1, 1, .inr (.inl ou))), (x0, .inr (5, [.ref h0, .ref b0, .ref w0, .ref s0, .ref m0, .ref g0, .int (nI cl)])), (b0, .inr (0, [.ref b1, .ref b2, .ref b3, .ref b4, .ref b5, .int (nI E.1), .ref b6, .ref b7, .ref b8, .ref b9, .int (nI bt)])), (b1, .inl (D.2 0, 200, .inl E.2.1)), (b2, .inl (D.2 0, 200, .inl E.2.2.1)), (b3, .inl (D.2 0, 200, .inl E.2.2.2.1)), (b4, .inl (D.2 0, 200, .inl E.2.2.2.2.1)), (b5, .inl (D.2 0, 200, .inl E.2.2.2.2.2.1)), (b6, .inl (D.2 1, 8, .inr (.inl E.2.2.2.2.2.2.1))), (b7, .inl (D.2 1, 8, .inr (.inl E.2.2.2.2.2.2.2.1))), (b8, .inl (D.2 1, 12, .inr (.inl E.2.2.2.2.2.2.2.2)))] sz) (fun (u : Option Int64) => (u.elim [(o0, .inl (D.2 1, 1, .inr (.inl ou))), (x0, .inr (5, [.ref h0, .ref b0, .ref w0, .ref s0, .ref m0, .ref g0, .int (nI cl)])), (b0, .inr (0, [.ref b1, .ref b2, .ref b3, .ref b4, .ref b5, .int (nI E.1), .ref b6, .ref b7, .ref b8, .ref b9, .int (nI bt)])), (b1, .inl (D.2 0, 200, .inl E.2.1)), (b2, .inl (D.2 0, 200, .inl E.2.2.1)), (b3, .inl (D.2 0, 200, .inl E.2.2.2.1)), (b4, .inl (D.2 0, 200, .inl E.2.2.2.2.1)), (b5, .inl (D.2 0, 200, .inl E.2.2.2.2.2.1)), (b6, .inl (D.2 1, 8, .inr (.inl E.2.2.2.2.2.2.1))), (b7, .inl (D.2 1, 8, .inr (.inl E.2.2.2.2.2.2.2.1))), (b8, .inl (D.2 1, 12, .inr (.inl E.2.2.2.2.2.2.2.2)))] (fun v => [(o0, .inl (D.2 1, 1, .inr (.inl (vp_updL ou 0 v)))), (x0, .inr (5, [.ref h0, .ref b0, .ref w0, .ref s0, .ref m0, .ref g0, .int (nI cl)])), (b0, .inr (0, [.ref b1, .ref b2, .ref b3, .ref b4, .ref b5, .int (nI (zs_enter (zs_enter E (nI bt) p1 p3 p4 (-p5)) (nI bt) p2 p3 p4 p5).1), .ref b6, .ref b7, .ref b8, .ref b9, .int (nI (bt + 1))])), (b1, .inl (D.2 0, 200, .inl ((zs_enter (zs_enter E (nI bt) p1 p3 p4 (-p5)) (nI bt) p2 p3 p4 p5).2.1))), (b2, .inl (D.2 0, 200, .inl ((zs_enter (zs_enter E (nI bt) p1 p3 p4 (-p5)) (nI bt) p2 p3 p4 p5).2.2.1))), (b3, .inl (D.2 0, 200, .inl ((zs_enter (zs_enter E (nI bt) p1 p3 p4 (-p5)) (nI bt) p2 p3 p4 p5).2.2.2.1))), (b4, .inl (D.2 0, 200, .inl ((zs_enter (zs_enter E (nI bt) p1 p3 p4 (-p5)) (nI bt) p2 p3 p4 p5).2.2.2.2.1))), (b5, .inl (D.2 0, 200, .inl ((zs_enter (zs_enter E (nI bt) p1 p3 p4 (-p5)) (nI bt) p2 p3 p4 p5).2.2.2.2.2.1))), (b6, .inl (D.2 1, 8, .inr (.inl ((zs_enter (zs_enter E (nI bt) p1 p3 p4 (-p5)) (nI bt) p2 p3 p4 p5).2.2.2.2.2.2.1)))), (b7, .inl (D.2 1, 8, .inr (.inl ((zs_enter (zs_enter E (nI bt) p1 p3 p4 (-p5)) (nI bt) p2 p3 p4 p5).2.2.2.2.2.2.2.1)))), (b8, .inl (D.2 1, 12, .inr (.inl ((zs_enter (zs_enter E (nI bt) p1 p3 p4 (-p5)) (nI bt) p2 p3 p4 p5).2.2.2.2.2.2.2.2))))]) : va_W))) (va_A [(o0, .inl (D.2 1, 1, .inr (.inl ou))), (x0, .inr (5, [.ref h0, .ref b0, .ref w0, .ref s0, .ref m0, .ref g0, .int (nI cl)])), (b0, .inr (0, [.ref b1, .ref b2, .ref b3, .ref b4, .ref b5, .int (nI E.1), .ref b6, .ref b7, .ref b8, .ref b9, .int (nI bt)])), (b1, .inl (D.2 0, 200, .inl E.2.1)), (b2, .inl (D.2 0, 200, .inl E.2.2.1)), (b3, .inl (D.2 0, 200, .inl E.2.2.2.1)), (b4, .inl (D.2 0, 200, .inl E.2.2.2.2.1)), (b5, .inl (D.2 0, 200, .inl E.2.2.2.2.2.1)), (b6, .inl (D.2 1, 8, .inr (.inl E.2.2.2.2.2.2.1))), (b7, .inl (D.2 1, 8, .inr (.inl E.2.2.2.2.2.2.2.1))), (b8, .inl (D.2 1, 12, .inr (.inl E.2.2.2.2.2.2.2.2)))] sz)) 7 42 (va_A [(o0, .inl (D.2 1, 1, .inr (.inl ou))), (x0, .inr (5, [.ref h0, .ref b0, .ref w0, .ref s0, .ref m0, .ref g0, .int (nI cl)])), (b0, .inr (0, [.ref b1, .ref b2, .ref b3, .ref b4, .ref b5, .int (nI E.1), .ref b6, .ref b7, .ref b8, .ref b9, .int (nI bt)])), (b1, .inl (D.2 0, 200, .inl E.2.1)), (b2, .inl (D.2 0, 200, .inl E.2.2.1)), (b3, .inl (D.2 0, 200, .inl E.2.2.2.1)), (b4, .inl (D.2 0, 200, .inl E.2.2.2.2.1)), (b5, .inl (D.2 0, 200, .inl E.2.2.2.2.2.1)), (b6, .inl (D.2 1, 8, .inr (.inl E.2.2.2.2.2.2.1))), (b7, .inl (D.2 1, 8, .inr (.inl E.2.2.2.2.2.2.2.1))), (b8, .inl (D.2 1, 12, .inr (.inl E.2.2.2.2.2.2.2.2)))] sz) := by
  refine va_MetW (cc := cL_correct) (maxL := 8) (ret := (some .int)) (hh := [(0, 16, 19, 13), (0, 16, 23, 15), (0, 16, 27, 17), (0, 16, 31, 23)]) (by decide) rfl ?_
  intro p e s m args below meth c s₁ B hml hv
  obtain ⟨rfl, hsz, hP, hK, hD0, hB⟩ := hv
  have hx := B.exec
  have hb := B.bytes
  have hr := B.returns
  have hts := atoms_spec (ws := wsL_correct) B.pre
  have hown : s.vm.findClass "ShopLedgerLaw" = some m.cls := findClass_of_methodNamed B.named
  have hlocks := B.notSynchronized
  have hTab : c.exceptionTable.toList = tableOf [(0, 16, 19, 13), (0, 16, 23, 15), (0, 16, 27, 17), (0, 16, 31, 23)] := vx_table (x := yL_correct) B (hts _ List.mem_cons_self)
  subst hsz
  have hD := hD0.self (sz := s.heap.size)
  generalize hAe : va_A [(o0, .inl (D.2 1, 1, .inr (.inl ou))), (x0, .inr (5, [.ref h0, .ref b0, .ref w0, .ref s0, .ref m0, .ref g0, .int (nI cl)])), (b0, .inr (0, [.ref b1, .ref b2, .ref b3, .ref b4, .ref b5, .int (nI E.1), .ref b6, .ref b7, .ref b8, .ref b9, .int (nI bt)])), (b1, .inl (D.2 0, 200, .inl E.2.1)), (b2, .inl (D.2 0, 200, .inl E.2.2.1)), (b3, .inl (D.2 0, 200, .inl E.2.2.2.1)), (b4, .inl (D.2 0, 200, .inl E.2.2.2.2.1)), (b5, .inl (D.2 0, 200, .inl E.2.2.2.2.2.1)), (b6, .inl (D.2 1, 8, .inr (.inl E.2.2.2.2.2.2.1))), (b7, .inl (D.2 1, 8, .inr (.inl E.2.2.2.2.2.2.2.1))), (b8, .inl (D.2 1, 12, .inr (.inl E.2.2.2.2.2.2.2.2)))] s.heap.size = A at hD hB ⊢
  have hA : ∀ q : Nat, s.heap.size ≤ q → A q := fun q h => by rw [← hAe]; exact Or.inr h
  have hS : va_S A s.heap s.heap [] := va_S.rf
  have hZ : ∀ w ∈ zALL, w.before _ s = true := fun w h => hts w (List.mem_cons_of_mem _ h)
  have hF : CallFix p m c cL_correct 8 s _ zALL "ShopLedgerLaw" := ⟨hx, hb, hml, hown, hZ⟩
  have hl := lv_entry ([.ref x0, .int p1, .int p2, .int p3, .int p4, .int p5, .ref o0]) (n := 8) (Nat.le_of_ble_eq_true rfl)
  rw [lg_entry_eq]
  generalize (lg_sl ([.ref x0, .int p1, .int p2, .int p3, .int p4, .int p5, .ref o0]) ++ List.replicate (8 - (lg_sl ([.ref x0, .int p1, .int p2, .int p3, .int p4, .int p5, .ref o0])).length) Slot.unset).toArray = ls at hl ⊢
  have hl : lv_has ls 8 [(0, .ref x0), (1, .int p1), (2, .int p2), (3, .int p3), (4, .int p4), (5, .int p5), (6, .ref o0)] := hl
  refine lv_aload hx hb dL_correct_0 (lv_at hl 6 rfl) ?_
  refine lv_iconst (v := 0) hx hb dL_correct_2 (by decide) ?_
  refine lv_aload_n hx hb dL_correct_3 rfl (lv_at hl 0 rfl) ?_
  refine lv_iload_n hx hb dL_correct_4 rfl (lv_at hl 1 rfl) ?_
  refine lv_iload_n hx hb dL_correct_5 rfl (lv_at hl 2 rfl) ?_
  refine lv_iload_n hx hb dL_correct_6 rfl (lv_at hl 3 rfl) ?_
  refine lv_iload hx hb dL_correct_7 (lv_at hl 4 rfl) ?_
  refine lv_iload hx hb dL_correct_9 (lv_at hl 5 rfl) ?_
  have J := zJ.mk (wc := [(x0, .inr (5, [.ref h0, .ref b0, .ref w0, .ref s0, .ref m0, .ref g0, .int (nI cl)])), (b0, .inr (0, [.ref b1, .ref b2, .ref b3, .ref b4, .ref b5, .int (nI E.1), .ref b6, .ref b7, .ref b8, .ref b9, .int (nI bt)])), (b1, .inl (D.2 0, 200, .inl E.2.1)), (b2, .inl (D.2 0, 200, .inl E.2.2.1)), (b3, .inl (D.2 0, 200, .inl E.2.2.2.1)), (b4, .inl (D.2 0, 200, .inl E.2.2.2.2.1)), (b5, .inl (D.2 0, 200, .inl E.2.2.2.2.2.1)), (b6, .inl (D.2 1, 8, .inr (.inl E.2.2.2.2.2.2.1))), (b7, .inl (D.2 1, 8, .inr (.inl E.2.2.2.2.2.2.2.1))), (b8, .inl (D.2 1, 12, .inr (.inl E.2.2.2.2.2.2.2.2)))]) (wr := [(o0, .inl (D.2 1, 1, .inr (.inl ou)))]) hA hB hK hP hD hS [1, 2, 3, 4, 5, 6, 7, 8, 9, 10] [0] rfl rfl (by decide)
  refine z_xgoi (z_xrunV (As := [.int p1, .int p2, .int p3, .int p4, .int p5]) (rest := [.int 0, .ref o0]) (b := x0) hF (c_correct hl9 D x0 h0 w0 s0 m0 g0 cl b0 b1 b2 b3 b4 b5 b6 b7 b8 b9 E bt p1 p2 p3 p4 p5 s.heap.size hE) (cwV 5 hZ (z_gV t_214 t_215 t_216 t_55 t_213) rfl rfl rfl (by decide +kernel) ⟨Nat.le_of_ble_eq_true rfl, Nat.le_of_ble_eq_true rfl⟩) J 0 5 rfl rfl rfl rfl hl.1 (Nat.le_of_ble_eq_true rfl) dL_correct_11 ⟨Nat.le_of_ble_eq_true rfl, Nat.le_of_ble_eq_true rfl⟩) J (fun EX ce q9 H locs w1 hP hD hS hce hcv hcl => ?_) (fun r1 _ H locs w1 hP hD hS => ?_)
  · have hP : va_P D.1 vwCl [(o0, .inl (D.2 1, 1, .inr (.inl ou))), (x0, .inr (5, [.ref h0, .ref b0, .ref w0, .ref s0, .ref m0, .ref g0, .int (nI cl)])), (b0, .inr (0, [.ref b1, .ref b2, .ref b3, .ref b4, .ref b5, .int (nI E.1), .ref b6, .ref b7, .ref b8, .ref b9, .int (nI bt)])), (b1, .inl (D.2 0, 200, .inl E.2.1)), (b2, .inl (D.2 0, 200, .inl E.2.2.1)), (b3, .inl (D.2 0, 200, .inl E.2.2.2.1)), (b4, .inl (D.2 0, 200, .inl E.2.2.2.2.1)), (b5, .inl (D.2 0, 200, .inl E.2.2.2.2.2.1)), (b6, .inl (D.2 1, 8, .inr (.inl E.2.2.2.2.2.2.1))), (b7, .inl (D.2 1, 8, .inr (.inl E.2.2.2.2.2.2.2.1))), (b8, .inl (D.2 1, 12, .inr (.inl E.2.2.2.2.2.2.2.2)))] H := hP
    have hD : va_D A [(o0, .inl (D.2 1, 1, .inr (.inl ou))), (x0, .inr (5, [.ref h0, .ref b0, .ref w0, .ref s0, .ref m0, .ref g0, .int (nI cl)])), (b0, .inr (0, [.ref b1, .ref b2, .ref b3, .ref b4, .ref b5, .int (nI E.1), .ref b6, .ref b7, .ref b8, .ref b9, .int (nI bt)])), (b1, .inl (D.2 0, 200, .inl E.2.1)), (b2, .inl (D.2 0, 200, .inl E.2.2.1)), (b3, .inl (D.2 0, 200, .inl E.2.2.2.1)), (b4, .inl (D.2 0, 200, .inl E.2.2.2.2.1)), (b5, .inl (D.2 0, 200, .inl E.2.2.2.2.2.1)), (b6, .inl (D.2 1, 8, .inr (.inl E.2.2.2.2.2.2.1))), (b7, .inl (D.2 1, 8, .inr (.inl E.2.2.2.2.2.2.2.1))), (b8, .inl (D.2 1, 12, .inr (.inl E.2.2.2.2.2.2.2.2)))] := hD
    have wE := w1
    rcases w1 with ⟨rfl, -⟩ | ⟨rfl, -⟩ | ⟨rfl, -⟩ | ⟨rfl, -⟩
    · skip
      refine vx_catch (own := "ShopLedgerLaw") (name := "java/lang/IndexOutOfBoundsException") (E := "java/lang/IndexOutOfBoundsException") hown [] ⟨0, 16, 19, 13⟩ [⟨0, 16, 23, 15⟩, ⟨0, 16, 27, 17⟩, ⟨0, 16, 31, 23⟩] (by rw [hTab]; rfl) (fun z hz => nomatch hz) (by decide) (by decide) (hZ _ t_205) (va_Nw.use rfl (hB.2.2.2.1 ("java/lang/IndexOutOfBoundsException", "java/lang/IndexOutOfBoundsException") (by decide +kernel))) hce hcv hcl ?_
      refine lv_astore (lv' := [(7, .ref q9), (0, .ref x0), (1, .int p1), (2, .int p2), (3, .int p3), (4, .int p4), (5, .int p5), (6, .ref o0)]) hx hb dL_correct_19 hl (by decide) rfl (fun ls hl => ?_)
      refine lv_iconst (v := 1) hx hb dL_correct_21 (by decide) ?_
      exact z_iret (v := 1) hx hb hr hlocks hP hD hS none (Or.inr ⟨rfl, _, wE, by decide +kernel⟩) [0, 1, 2, 3, 4, 5, 6, 7, 8, 9, 10] rfl (by decide) (Nat.le_of_ble_eq_true rfl) (Nat.le_of_ble_eq_true rfl) dL_correct_22
    · skip
      refine vx_catch (own := "ShopLedgerLaw") (name := "java/lang/IllegalStateException") (E := "java/lang/IllegalStateException") hown [⟨0, 16, 19, 13⟩] ⟨0, 16, 23, 15⟩ [⟨0, 16, 27, 17⟩, ⟨0, 16, 31, 23⟩] (by rw [hTab]; rfl) (by
          intro z hz
          rcases List.mem_cons.mp hz with rfl | hz
          · exact Or.inr ⟨by decide, "java/lang/IndexOutOfBoundsException", (hZ _ t_205), hB.2.2.2.2.2.2.1 ("java/lang/IllegalStateException", "java/lang/IndexOutOfBoundsException") (by decide +kernel)⟩
          cases hz) (by decide) (by decide) (hZ _ t_206) (va_Nw.use rfl (hB.2.2.2.1 ("java/lang/IllegalStateException", "java/lang/IllegalStateException") (by decide +kernel))) hce hcv hcl ?_
      refine lv_astore (lv' := [(7, .ref q9), (0, .ref x0), (1, .int p1), (2, .int p2), (3, .int p3), (4, .int p4), (5, .int p5), (6, .ref o0)]) hx hb dL_correct_23 hl (by decide) rfl (fun ls hl => ?_)
      refine lv_iconst (v := 2) hx hb dL_correct_25 (by decide) ?_
      exact z_iret (v := 2) hx hb hr hlocks hP hD hS none (Or.inr ⟨rfl, _, wE, by decide +kernel⟩) [0, 1, 2, 3, 4, 5, 6, 7, 8, 9, 10] rfl (by decide) (Nat.le_of_ble_eq_true rfl) (Nat.le_of_ble_eq_true rfl) dL_correct_26
    · skip
      refine vx_catch (own := "ShopLedgerLaw") (name := "java/lang/IllegalArgumentException") (E := "java/lang/IllegalArgumentException") hown [⟨0, 16, 19, 13⟩, ⟨0, 16, 23, 15⟩] ⟨0, 16, 27, 17⟩ [⟨0, 16, 31, 23⟩] (by rw [hTab]; rfl) (by
          intro z hz
          rcases List.mem_cons.mp hz with rfl | hz
          · exact Or.inr ⟨by decide, "java/lang/IndexOutOfBoundsException", (hZ _ t_205), hB.2.2.2.2.2.2.1 ("java/lang/IllegalArgumentException", "java/lang/IndexOutOfBoundsException") (by decide +kernel)⟩
          rcases List.mem_cons.mp hz with rfl | hz
          · exact Or.inr ⟨by decide, "java/lang/IllegalStateException", (hZ _ t_206), hB.2.2.2.2.2.2.1 ("java/lang/IllegalArgumentException", "java/lang/IllegalStateException") (by decide +kernel)⟩
          cases hz) (by decide) (by decide) (hZ _ t_207) (va_Nw.use rfl (hB.2.2.2.1 ("java/lang/IllegalArgumentException", "java/lang/IllegalArgumentException") (by decide +kernel))) hce hcv hcl ?_
      refine lv_astore (lv' := [(7, .ref q9), (0, .ref x0), (1, .int p1), (2, .int p2), (3, .int p3), (4, .int p4), (5, .int p5), (6, .ref o0)]) hx hb dL_correct_27 hl (by decide) rfl (fun ls hl => ?_)
      refine lv_iconst (v := 3) hx hb dL_correct_29 (by decide) ?_
      exact z_iret (v := 3) hx hb hr hlocks hP hD hS none (Or.inr ⟨rfl, _, wE, by decide +kernel⟩) [0, 1, 2, 3, 4, 5, 6, 7, 8, 9, 10] rfl (by decide) (Nat.le_of_ble_eq_true rfl) (Nat.le_of_ble_eq_true rfl) dL_correct_30
    · skip
      refine vx_catch (own := "ShopLedgerLaw") (name := "java/lang/UnsupportedOperationException") (E := "java/lang/UnsupportedOperationException") hown [⟨0, 16, 19, 13⟩, ⟨0, 16, 23, 15⟩, ⟨0, 16, 27, 17⟩] ⟨0, 16, 31, 23⟩ [] (by rw [hTab]; rfl) (by
          intro z hz
          rcases List.mem_cons.mp hz with rfl | hz
          · exact Or.inr ⟨by decide, "java/lang/IndexOutOfBoundsException", (hZ _ t_205), hB.2.2.2.2.2.2.1 ("java/lang/UnsupportedOperationException", "java/lang/IndexOutOfBoundsException") (by decide +kernel)⟩
          rcases List.mem_cons.mp hz with rfl | hz
          · exact Or.inr ⟨by decide, "java/lang/IllegalStateException", (hZ _ t_206), hB.2.2.2.2.2.2.1 ("java/lang/UnsupportedOperationException", "java/lang/IllegalStateException") (by decide +kernel)⟩
          rcases List.mem_cons.mp hz with rfl | hz
          · exact Or.inr ⟨by decide, "java/lang/IllegalArgumentException", (hZ _ t_207), hB.2.2.2.2.2.2.1 ("java/lang/UnsupportedOperationException", "java/lang/IllegalArgumentException") (by decide +kernel)⟩
          cases hz) (by decide) (by decide) (hZ _ t_212) (va_Nw.use rfl (hB.2.2.2.1 ("java/lang/UnsupportedOperationException", "java/lang/UnsupportedOperationException") (by decide +kernel))) hce hcv hcl ?_
      refine lv_astore (lv' := [(7, .ref q9), (0, .ref x0), (1, .int p1), (2, .int p2), (3, .int p3), (4, .int p4), (5, .int p5), (6, .ref o0)]) hx hb dL_correct_31 hl (by decide) rfl (fun ls hl => ?_)
      refine lv_iconst (v := 4) hx hb dL_correct_33 (by decide) ?_
      exact z_iret (v := 4) hx hb hr hlocks hP hD hS none (Or.inr ⟨rfl, _, wE, by decide +kernel⟩) [0, 1, 2, 3, 4, 5, 6, 7, 8, 9, 10] rfl (by decide) (Nat.le_of_ble_eq_true rfl) (Nat.le_of_ble_eq_true rfl) dL_correct_34
  have hP : va_P D.1 vwCl [(o0, .inl (D.2 1, 1, .inr (.inl ou))), (x0, .inr (5, [.ref h0, .ref b0, .ref w0, .ref s0, .ref m0, .ref g0, .int (nI cl)])), (b0, .inr (0, [.ref b1, .ref b2, .ref b3, .ref b4, .ref b5, .int (nI (zs_enter (zs_enter E (nI bt) p1 p3 p4 (-p5)) (nI bt) p2 p3 p4 p5).1), .ref b6, .ref b7, .ref b8, .ref b9, .int (nI (bt + 1))])), (b1, .inl (D.2 0, 200, .inl ((zs_enter (zs_enter E (nI bt) p1 p3 p4 (-p5)) (nI bt) p2 p3 p4 p5).2.1))), (b2, .inl (D.2 0, 200, .inl ((zs_enter (zs_enter E (nI bt) p1 p3 p4 (-p5)) (nI bt) p2 p3 p4 p5).2.2.1))), (b3, .inl (D.2 0, 200, .inl ((zs_enter (zs_enter E (nI bt) p1 p3 p4 (-p5)) (nI bt) p2 p3 p4 p5).2.2.2.1))), (b4, .inl (D.2 0, 200, .inl ((zs_enter (zs_enter E (nI bt) p1 p3 p4 (-p5)) (nI bt) p2 p3 p4 p5).2.2.2.2.1))), (b5, .inl (D.2 0, 200, .inl ((zs_enter (zs_enter E (nI bt) p1 p3 p4 (-p5)) (nI bt) p2 p3 p4 p5).2.2.2.2.2.1))), (b6, .inl (D.2 1, 8, .inr (.inl ((zs_enter (zs_enter E (nI bt) p1 p3 p4 (-p5)) (nI bt) p2 p3 p4 p5).2.2.2.2.2.2.1)))), (b7, .inl (D.2 1, 8, .inr (.inl ((zs_enter (zs_enter E (nI bt) p1 p3 p4 (-p5)) (nI bt) p2 p3 p4 p5).2.2.2.2.2.2.2.1)))), (b8, .inl (D.2 1, 12, .inr (.inl ((zs_enter (zs_enter E (nI bt) p1 p3 p4 (-p5)) (nI bt) p2 p3 p4 p5).2.2.2.2.2.2.2.2))))] H := hP
  have hD : va_D A [(o0, .inl (D.2 1, 1, .inr (.inl ou))), (x0, .inr (5, [.ref h0, .ref b0, .ref w0, .ref s0, .ref m0, .ref g0, .int (nI cl)])), (b0, .inr (0, [.ref b1, .ref b2, .ref b3, .ref b4, .ref b5, .int (nI (zs_enter (zs_enter E (nI bt) p1 p3 p4 (-p5)) (nI bt) p2 p3 p4 p5).1), .ref b6, .ref b7, .ref b8, .ref b9, .int (nI (bt + 1))])), (b1, .inl (D.2 0, 200, .inl ((zs_enter (zs_enter E (nI bt) p1 p3 p4 (-p5)) (nI bt) p2 p3 p4 p5).2.1))), (b2, .inl (D.2 0, 200, .inl ((zs_enter (zs_enter E (nI bt) p1 p3 p4 (-p5)) (nI bt) p2 p3 p4 p5).2.2.1))), (b3, .inl (D.2 0, 200, .inl ((zs_enter (zs_enter E (nI bt) p1 p3 p4 (-p5)) (nI bt) p2 p3 p4 p5).2.2.2.1))), (b4, .inl (D.2 0, 200, .inl ((zs_enter (zs_enter E (nI bt) p1 p3 p4 (-p5)) (nI bt) p2 p3 p4 p5).2.2.2.2.1))), (b5, .inl (D.2 0, 200, .inl ((zs_enter (zs_enter E (nI bt) p1 p3 p4 (-p5)) (nI bt) p2 p3 p4 p5).2.2.2.2.2.1))), (b6, .inl (D.2 1, 8, .inr (.inl ((zs_enter (zs_enter E (nI bt) p1 p3 p4 (-p5)) (nI bt) p2 p3 p4 p5).2.2.2.2.2.2.1)))), (b7, .inl (D.2 1, 8, .inr (.inl ((zs_enter (zs_enter E (nI bt) p1 p3 p4 (-p5)) (nI bt) p2 p3 p4 p5).2.2.2.2.2.2.2.1)))), (b8, .inl (D.2 1, 12, .inr (.inl ((zs_enter (zs_enter E (nI bt) p1 p3 p4 (-p5)) (nI bt) p2 p3 p4 p5).2.2.2.2.2.2.2.2))))] := hD
  refine lv_i2l (v := r1.toInt64) hx hb dL_correct_14 rfl ?_
  refine z_last (k := 0) hx hb hK hP hD hS 0 rfl (by decide) (by decide) dL_correct_15 (fun H locs hP hD hS => ?_)
  have hP : va_P D.1 vwCl [(o0, .inl (D.2 1, 1, .inr (.inl (vp_updL ou 0 r1.toInt64)))), (x0, .inr (5, [.ref h0, .ref b0, .ref w0, .ref s0, .ref m0, .ref g0, .int (nI cl)])), (b0, .inr (0, [.ref b1, .ref b2, .ref b3, .ref b4, .ref b5, .int (nI (zs_enter (zs_enter E (nI bt) p1 p3 p4 (-p5)) (nI bt) p2 p3 p4 p5).1), .ref b6, .ref b7, .ref b8, .ref b9, .int (nI (bt + 1))])), (b1, .inl (D.2 0, 200, .inl ((zs_enter (zs_enter E (nI bt) p1 p3 p4 (-p5)) (nI bt) p2 p3 p4 p5).2.1))), (b2, .inl (D.2 0, 200, .inl ((zs_enter (zs_enter E (nI bt) p1 p3 p4 (-p5)) (nI bt) p2 p3 p4 p5).2.2.1))), (b3, .inl (D.2 0, 200, .inl ((zs_enter (zs_enter E (nI bt) p1 p3 p4 (-p5)) (nI bt) p2 p3 p4 p5).2.2.2.1))), (b4, .inl (D.2 0, 200, .inl ((zs_enter (zs_enter E (nI bt) p1 p3 p4 (-p5)) (nI bt) p2 p3 p4 p5).2.2.2.2.1))), (b5, .inl (D.2 0, 200, .inl ((zs_enter (zs_enter E (nI bt) p1 p3 p4 (-p5)) (nI bt) p2 p3 p4 p5).2.2.2.2.2.1))), (b6, .inl (D.2 1, 8, .inr (.inl ((zs_enter (zs_enter E (nI bt) p1 p3 p4 (-p5)) (nI bt) p2 p3 p4 p5).2.2.2.2.2.2.1)))), (b7, .inl (D.2 1, 8, .inr (.inl ((zs_enter (zs_enter E (nI bt) p1 p3 p4 (-p5)) (nI bt) p2 p3 p4 p5).2.2.2.2.2.2.2.1)))), (b8, .inl (D.2 1, 12, .inr (.inl ((zs_enter (zs_enter E (nI bt) p1 p3 p4 (-p5)) (nI bt) p2 p3 p4 p5).2.2.2.2.2.2.2.2))))] H := hP
  have hD : va_D A [(o0, .inl (D.2 1, 1, .inr (.inl (vp_updL ou 0 r1.toInt64)))), (x0, .inr (5, [.ref h0, .ref b0, .ref w0, .ref s0, .ref m0, .ref g0, .int (nI cl)])), (b0, .inr (0, [.ref b1, .ref b2, .ref b3, .ref b4, .ref b5, .int (nI (zs_enter (zs_enter E (nI bt) p1 p3 p4 (-p5)) (nI bt) p2 p3 p4 p5).1), .ref b6, .ref b7, .ref b8, .ref b9, .int (nI (bt + 1))])), (b1, .inl (D.2 0, 200, .inl ((zs_enter (zs_enter E (nI bt) p1 p3 p4 (-p5)) (nI bt) p2 p3 p4 p5).2.1))), (b2, .inl (D.2 0, 200, .inl ((zs_enter (zs_enter E (nI bt) p1 p3 p4 (-p5)) (nI bt) p2 p3 p4 p5).2.2.1))), (b3, .inl (D.2 0, 200, .inl ((zs_enter (zs_enter E (nI bt) p1 p3 p4 (-p5)) (nI bt) p2 p3 p4 p5).2.2.2.1))), (b4, .inl (D.2 0, 200, .inl ((zs_enter (zs_enter E (nI bt) p1 p3 p4 (-p5)) (nI bt) p2 p3 p4 p5).2.2.2.2.1))), (b5, .inl (D.2 0, 200, .inl ((zs_enter (zs_enter E (nI bt) p1 p3 p4 (-p5)) (nI bt) p2 p3 p4 p5).2.2.2.2.2.1))), (b6, .inl (D.2 1, 8, .inr (.inl ((zs_enter (zs_enter E (nI bt) p1 p3 p4 (-p5)) (nI bt) p2 p3 p4 p5).2.2.2.2.2.2.1)))), (b7, .inl (D.2 1, 8, .inr (.inl ((zs_enter (zs_enter E (nI bt) p1 p3 p4 (-p5)) (nI bt) p2 p3 p4 p5).2.2.2.2.2.2.2.1)))), (b8, .inl (D.2 1, 12, .inr (.inl ((zs_enter (zs_enter E (nI bt) p1 p3 p4 (-p5)) (nI bt) p2 p3 p4 p5).2.2.2.2.2.2.2.2))))] := hD
  refine lv_goto (tgt := 35) hx hb dL_correct_16 (by decide) ?_
  refine lv_iconst (v := 0) hx hb dL_correct_35 (by decide) ?_
  exact z_iret (v := 0) hx hb hr hlocks hP hD hS (some r1.toInt64) (Or.inl ⟨r1, rfl, rfl, w1⟩) [0, 1, 2, 3, 4, 5, 6, 7, 8, 9, 10] rfl (by decide) (Nat.le_of_ble_eq_true rfl) (Nat.le_of_ble_eq_true rfl) dL_correct_36
set_option maxHeartbeats 4000000 in
set_option maxRecDepth 100000 in
/-- the law calls reverse -/
theorem w_reverse {l : Launch} (D : zD) (x0 h0 w0 s0 m0 g0 cl : Nat) (b0 b1 b2 b3 b4 b5 b6 b7 b8 b9 : Nat) (E : zE) (bt : Nat) (fx : Nat → Int32) (j : Nat) (p2 : Int32) (o0 : Nat) (ou : Nat → Int64) (sz : Nat) (hl9 : l.stackTraces = false) (hj : j < bt) (hbt : bt ≤ E.1) (hE : E.1 ≤ 200) (hcnt : 0 < zs_cnt E.2.2.2.2.2.1 (nI j) E.1) (h1 : ∀ i, i < E.1 → vp_in (E.2.1 i) 8) (h2 : ∀ i, i < E.1 → vp_in (E.2.2.1 i) 8) : Met l yL_reverse wsL_reverse ({ frames := 8, cells := 4, slots := 24, locals := 133 }) (va_Pc [.ref x0, .int (nI j), .int p2, .ref o0] (zp D sz [(o0, .inl (D.2 1, 1, .inr (.inl ou))), (x0, .inr (5, [.ref h0, .ref b0, .ref w0, .ref s0, .ref m0, .ref g0, .int (nI cl)])), (b0, .inr (0, [.ref b1, .ref b2, .ref b3, .ref b4, .ref b5, .int (nI E.1), .ref b6, .ref b7, .ref b8, .ref b9, .int (nI bt)])), (b1, .inl (D.2 0, 200, .inl E.2.1)), (b2, .inl (D.2 0, 200, .inl E.2.2.1)), (b3, .inl (D.2 0, 200, .inl E.2.2.2.1)), (b4, .inl (D.2 0, 200, .inl E.2.2.2.2.1)), (b5, .inl (D.2 0, 200, .inl E.2.2.2.2.2.1)), (b6, .inl (D.2 1, 8, .inr (.inl E.2.2.2.2.2.2.1))), (b7, .inl (D.2 1, 8, .inr (.inl E.2.2.2.2.2.2.2.1))), (b8, .inl (D.2 1, 12, .inr (.inl E.2.2.2.2.2.2.2.2))), (b9, .inl (D.2 2, 200, .inl fx))])) (va_Qi (fun r (u : Option Int64) => (∃ r9 : Int32, u = some r9.toInt64 ∧ r = 0 ∧ (fun r (_ : Unit) => (zin p2 12) ∧ (¬ p2 < nI cl) ∧ (fx j = 0 ∧ nI (zs_cnt E.2.2.2.2.2.1 (nI j) E.1) ≤ 200 - nI E.1) ∧ r = nI bt) r9 ()) ∨ (u = none ∧ ∃ E9, (fun E9 => (E9 = "java/lang/IndexOutOfBoundsException" ∧ ¬ (zin p2 12)) ∨ (E9 = "java/lang/IllegalStateException" ∧ (zin p2 12) ∧ ¬ (¬ p2 < nI cl)) ∨ (E9 = "java/lang/UnsupportedOperationException" ∧ (zin p2 12) ∧ (¬ p2 < nI cl) ∧ ¬ (fx j = 0 ∧ nI (zs_cnt E.2.2.2.2.2.1 (nI j) E.1) ≤ 200 - nI E.1))) E9 ∧ r = zcd ["java/lang/IndexOutOfBoundsException", "java/lang/IllegalStateException", "java/lang/UnsupportedOperationException"] E9)) (zq D (va_A [(o0, .inl (D.2 1, 1, .inr (.inl ou))), (x0, .inr (5, [.ref h0, .ref b0, .ref w0, .ref s0, .ref m0, .ref g0, .int (nI cl)])), (b0, .inr (0, [.ref b1, .ref b2, .ref b3, .ref b4, .ref b5, .int (nI E.1), .ref b6, .ref b7, .ref b8, .ref b9, .int (nI bt)])), (b1, .inl (D.2 0, 200, .inl E.2.1)), (b2, .inl (D.2 0, 200, .inl E.2.2.1)), (b3, .inl (D.2 0, 200, .inl E.2.2.2.1)), (b4, .inl (D.2 0, 200, .inl E.2.2.2.2.1)), (b5, .inl (D.2 0, 200, .inl E.2.2.2.2.2.1)), (b6, .inl (D.2 1, 8, .inr (.inl E.2.2.2.2.2.2.1))), (b7, .inl (D.2 1, 8, .inr (.inl E.2.2.2.2.2.2.2.1))), (b8, .inl (D.2 1, 12, .inr (.inl E.2.2.2.2.2.2.2.2))), (b9, .inl (D.2 2, 200, .inl fx))] sz) (fun (u : Option Int64) => (u.elim [(o0, .inl (D.2 1, 1, .inr (.inl ou))), (x0, .inr (5, [.ref h0, .ref b0, .ref w0, .ref s0, .ref m0, .ref g0, .int (nI cl)])), (b0, .inr (0, [.ref b1, .ref b2, .ref b3, .ref b4, .ref b5, .int (nI E.1), .ref b6, .ref b7, .ref b8, .ref b9, .int (nI bt)])), (b1, .inl (D.2 0, 200, .inl E.2.1)), (b2, .inl (D.2 0, 200, .inl E.2.2.1)), (b3, .inl (D.2 0, 200, .inl E.2.2.2.1)), (b4, .inl (D.2 0, 200, .inl E.2.2.2.2.1)), (b5, .inl (D.2 0, 200, .inl E.2.2.2.2.2.1)), (b6, .inl (D.2 1, 8, .inr (.inl E.2.2.2.2.2.2.1))), (b7, .inl (D.2 1, 8, .inr (.inl E.2.2.2.2.2.2.2.1))), (b8, .inl (D.2 1, 12, .inr (.inl E.2.2.2.2.2.2.2.2))), (b9, .inl (D.2 2, 200, .inl fx))] (fun v => [(o0, .inl (D.2 1, 1, .inr (.inl (vp_updL ou 0 v)))), (x0, .inr (5, [.ref h0, .ref b0, .ref w0, .ref s0, .ref m0, .ref g0, .int (nI cl)])), (b0, .inr (0, [.ref b1, .ref b2, .ref b3, .ref b4, .ref b5, .int (nI (zs_turn E (nI bt) (nI j) p2 E.1).1), .ref b6, .ref b7, .ref b8, .ref b9, .int (nI (bt + 1))])), (b1, .inl (D.2 0, 200, .inl ((zs_turn E (nI bt) (nI j) p2 E.1).2.1))), (b2, .inl (D.2 0, 200, .inl ((zs_turn E (nI bt) (nI j) p2 E.1).2.2.1))), (b3, .inl (D.2 0, 200, .inl ((zs_turn E (nI bt) (nI j) p2 E.1).2.2.2.1))), (b4, .inl (D.2 0, 200, .inl ((zs_turn E (nI bt) (nI j) p2 E.1).2.2.2.2.1))), (b5, .inl (D.2 0, 200, .inl ((zs_turn E (nI bt) (nI j) p2 E.1).2.2.2.2.2.1))), (b6, .inl (D.2 1, 8, .inr (.inl ((zs_turn E (nI bt) (nI j) p2 E.1).2.2.2.2.2.2.1)))), (b7, .inl (D.2 1, 8, .inr (.inl ((zs_turn E (nI bt) (nI j) p2 E.1).2.2.2.2.2.2.2.1)))), (b8, .inl (D.2 1, 12, .inr (.inl ((zs_turn E (nI bt) (nI j) p2 E.1).2.2.2.2.2.2.2.2)))), (b9, .inl (D.2 2, 200, .inl (upd (upd fx j 1) bt 1)))]) : va_W))) (va_A [(o0, .inl (D.2 1, 1, .inr (.inl ou))), (x0, .inr (5, [.ref h0, .ref b0, .ref w0, .ref s0, .ref m0, .ref g0, .int (nI cl)])), (b0, .inr (0, [.ref b1, .ref b2, .ref b3, .ref b4, .ref b5, .int (nI E.1), .ref b6, .ref b7, .ref b8, .ref b9, .int (nI bt)])), (b1, .inl (D.2 0, 200, .inl E.2.1)), (b2, .inl (D.2 0, 200, .inl E.2.2.1)), (b3, .inl (D.2 0, 200, .inl E.2.2.2.1)), (b4, .inl (D.2 0, 200, .inl E.2.2.2.2.1)), (b5, .inl (D.2 0, 200, .inl E.2.2.2.2.2.1)), (b6, .inl (D.2 1, 8, .inr (.inl E.2.2.2.2.2.2.1))), (b7, .inl (D.2 1, 8, .inr (.inl E.2.2.2.2.2.2.2.1))), (b8, .inl (D.2 1, 12, .inr (.inl E.2.2.2.2.2.2.2.2))), (b9, .inl (D.2 2, 200, .inl fx))] sz)) 4 24 (va_A [(o0, .inl (D.2 1, 1, .inr (.inl ou))), (x0, .inr (5, [.ref h0, .ref b0, .ref w0, .ref s0, .ref m0, .ref g0, .int (nI cl)])), (b0, .inr (0, [.ref b1, .ref b2, .ref b3, .ref b4, .ref b5, .int (nI E.1), .ref b6, .ref b7, .ref b8, .ref b9, .int (nI bt)])), (b1, .inl (D.2 0, 200, .inl E.2.1)), (b2, .inl (D.2 0, 200, .inl E.2.2.1)), (b3, .inl (D.2 0, 200, .inl E.2.2.2.1)), (b4, .inl (D.2 0, 200, .inl E.2.2.2.2.1)), (b5, .inl (D.2 0, 200, .inl E.2.2.2.2.2.1)), (b6, .inl (D.2 1, 8, .inr (.inl E.2.2.2.2.2.2.1))), (b7, .inl (D.2 1, 8, .inr (.inl E.2.2.2.2.2.2.2.1))), (b8, .inl (D.2 1, 12, .inr (.inl E.2.2.2.2.2.2.2.2))), (b9, .inl (D.2 2, 200, .inl fx))] sz) := by
  refine va_MetW (cc := cL_reverse) (maxL := 5) (ret := (some .int)) (hh := [(0, 10, 13, 13), (0, 10, 17, 15), (0, 10, 21, 23)]) (by decide) rfl ?_
  intro p e s m args below meth c s₁ B hml hv
  obtain ⟨rfl, hsz, hP, hK, hD0, hB⟩ := hv
  have hx := B.exec
  have hb := B.bytes
  have hr := B.returns
  have hts := atoms_spec (ws := wsL_reverse) B.pre
  have hown : s.vm.findClass "ShopLedgerLaw" = some m.cls := findClass_of_methodNamed B.named
  have hlocks := B.notSynchronized
  have hTab : c.exceptionTable.toList = tableOf [(0, 10, 13, 13), (0, 10, 17, 15), (0, 10, 21, 23)] := vx_table (x := yL_reverse) B (hts _ List.mem_cons_self)
  subst hsz
  have hD := hD0.self (sz := s.heap.size)
  generalize hAe : va_A [(o0, .inl (D.2 1, 1, .inr (.inl ou))), (x0, .inr (5, [.ref h0, .ref b0, .ref w0, .ref s0, .ref m0, .ref g0, .int (nI cl)])), (b0, .inr (0, [.ref b1, .ref b2, .ref b3, .ref b4, .ref b5, .int (nI E.1), .ref b6, .ref b7, .ref b8, .ref b9, .int (nI bt)])), (b1, .inl (D.2 0, 200, .inl E.2.1)), (b2, .inl (D.2 0, 200, .inl E.2.2.1)), (b3, .inl (D.2 0, 200, .inl E.2.2.2.1)), (b4, .inl (D.2 0, 200, .inl E.2.2.2.2.1)), (b5, .inl (D.2 0, 200, .inl E.2.2.2.2.2.1)), (b6, .inl (D.2 1, 8, .inr (.inl E.2.2.2.2.2.2.1))), (b7, .inl (D.2 1, 8, .inr (.inl E.2.2.2.2.2.2.2.1))), (b8, .inl (D.2 1, 12, .inr (.inl E.2.2.2.2.2.2.2.2))), (b9, .inl (D.2 2, 200, .inl fx))] s.heap.size = A at hD hB ⊢
  have hA : ∀ q : Nat, s.heap.size ≤ q → A q := fun q h => by rw [← hAe]; exact Or.inr h
  have hS : va_S A s.heap s.heap [] := va_S.rf
  have hZ : ∀ w ∈ zALL, w.before _ s = true := fun w h => hts w (List.mem_cons_of_mem _ h)
  have hF : CallFix p m c cL_reverse 5 s _ zALL "ShopLedgerLaw" := ⟨hx, hb, hml, hown, hZ⟩
  have hl := lv_entry ([.ref x0, .int (nI j), .int p2, .ref o0]) (n := 5) (Nat.le_of_ble_eq_true rfl)
  rw [lg_entry_eq]
  generalize (lg_sl ([.ref x0, .int (nI j), .int p2, .ref o0]) ++ List.replicate (5 - (lg_sl ([.ref x0, .int (nI j), .int p2, .ref o0])).length) Slot.unset).toArray = ls at hl ⊢
  have hl : lv_has ls 5 [(0, .ref x0), (1, .int (nI j)), (2, .int p2), (3, .ref o0)] := hl
  refine lv_aload_n hx hb dL_reverse_0 rfl (lv_at hl 3 rfl) ?_
  refine lv_iconst (v := 0) hx hb dL_reverse_1 (by decide) ?_
  refine lv_aload_n hx hb dL_reverse_2 rfl (lv_at hl 0 rfl) ?_
  refine lv_iload_n hx hb dL_reverse_3 rfl (lv_at hl 1 rfl) ?_
  refine lv_iload_n hx hb dL_reverse_4 rfl (lv_at hl 2 rfl) ?_
  have J := zJ.mk (wc := [(x0, .inr (5, [.ref h0, .ref b0, .ref w0, .ref s0, .ref m0, .ref g0, .int (nI cl)])), (b0, .inr (0, [.ref b1, .ref b2, .ref b3, .ref b4, .ref b5, .int (nI E.1), .ref b6, .ref b7, .ref b8, .ref b9, .int (nI bt)])), (b1, .inl (D.2 0, 200, .inl E.2.1)), (b2, .inl (D.2 0, 200, .inl E.2.2.1)), (b3, .inl (D.2 0, 200, .inl E.2.2.2.1)), (b4, .inl (D.2 0, 200, .inl E.2.2.2.2.1)), (b5, .inl (D.2 0, 200, .inl E.2.2.2.2.2.1)), (b6, .inl (D.2 1, 8, .inr (.inl E.2.2.2.2.2.2.1))), (b7, .inl (D.2 1, 8, .inr (.inl E.2.2.2.2.2.2.2.1))), (b8, .inl (D.2 1, 12, .inr (.inl E.2.2.2.2.2.2.2.2))), (b9, .inl (D.2 2, 200, .inl fx))]) (wr := [(o0, .inl (D.2 1, 1, .inr (.inl ou)))]) hA hB hK hP hD hS [1, 2, 3, 4, 5, 6, 7, 8, 9, 10, 11] [0] rfl rfl (by decide)
  refine z_xgoi (z_xrunV (As := [.int (nI j), .int p2]) (rest := [.int 0, .ref o0]) (b := x0) hF (c_reverse hl9 D x0 h0 w0 s0 m0 g0 cl b0 b1 b2 b3 b4 b5 b6 b7 b8 b9 E bt fx j p2 s.heap.size hj hbt hE hcnt h1 h2) (cwV 2 hZ (z_gV t_218 t_219 t_220 t_55 t_217) rfl rfl rfl (by decide +kernel) ⟨Nat.le_of_ble_eq_true rfl, Nat.le_of_ble_eq_true rfl⟩) J 0 5 rfl rfl rfl rfl hl.1 (Nat.le_of_ble_eq_true rfl) dL_reverse_5 ⟨Nat.le_of_ble_eq_true rfl, Nat.le_of_ble_eq_true rfl⟩) J (fun EX ce q9 H locs w1 hP hD hS hce hcv hcl => ?_) (fun r1 _ H locs w1 hP hD hS => ?_)
  · have hP : va_P D.1 vwCl [(o0, .inl (D.2 1, 1, .inr (.inl ou))), (x0, .inr (5, [.ref h0, .ref b0, .ref w0, .ref s0, .ref m0, .ref g0, .int (nI cl)])), (b0, .inr (0, [.ref b1, .ref b2, .ref b3, .ref b4, .ref b5, .int (nI E.1), .ref b6, .ref b7, .ref b8, .ref b9, .int (nI bt)])), (b1, .inl (D.2 0, 200, .inl E.2.1)), (b2, .inl (D.2 0, 200, .inl E.2.2.1)), (b3, .inl (D.2 0, 200, .inl E.2.2.2.1)), (b4, .inl (D.2 0, 200, .inl E.2.2.2.2.1)), (b5, .inl (D.2 0, 200, .inl E.2.2.2.2.2.1)), (b6, .inl (D.2 1, 8, .inr (.inl E.2.2.2.2.2.2.1))), (b7, .inl (D.2 1, 8, .inr (.inl E.2.2.2.2.2.2.2.1))), (b8, .inl (D.2 1, 12, .inr (.inl E.2.2.2.2.2.2.2.2))), (b9, .inl (D.2 2, 200, .inl fx))] H := hP
    have hD : va_D A [(o0, .inl (D.2 1, 1, .inr (.inl ou))), (x0, .inr (5, [.ref h0, .ref b0, .ref w0, .ref s0, .ref m0, .ref g0, .int (nI cl)])), (b0, .inr (0, [.ref b1, .ref b2, .ref b3, .ref b4, .ref b5, .int (nI E.1), .ref b6, .ref b7, .ref b8, .ref b9, .int (nI bt)])), (b1, .inl (D.2 0, 200, .inl E.2.1)), (b2, .inl (D.2 0, 200, .inl E.2.2.1)), (b3, .inl (D.2 0, 200, .inl E.2.2.2.1)), (b4, .inl (D.2 0, 200, .inl E.2.2.2.2.1)), (b5, .inl (D.2 0, 200, .inl E.2.2.2.2.2.1)), (b6, .inl (D.2 1, 8, .inr (.inl E.2.2.2.2.2.2.1))), (b7, .inl (D.2 1, 8, .inr (.inl E.2.2.2.2.2.2.2.1))), (b8, .inl (D.2 1, 12, .inr (.inl E.2.2.2.2.2.2.2.2))), (b9, .inl (D.2 2, 200, .inl fx))] := hD
    have wE := w1
    rcases w1 with ⟨rfl, -⟩ | ⟨rfl, -⟩ | ⟨rfl, -⟩
    · skip
      refine vx_catch (own := "ShopLedgerLaw") (name := "java/lang/IndexOutOfBoundsException") (E := "java/lang/IndexOutOfBoundsException") hown [] ⟨0, 10, 13, 13⟩ [⟨0, 10, 17, 15⟩, ⟨0, 10, 21, 23⟩] (by rw [hTab]; rfl) (fun z hz => nomatch hz) (by decide) (by decide) (hZ _ t_205) (va_Nw.use rfl (hB.2.2.2.1 ("java/lang/IndexOutOfBoundsException", "java/lang/IndexOutOfBoundsException") (by decide +kernel))) hce hcv hcl ?_
      refine lv_astore (lv' := [(4, .ref q9), (0, .ref x0), (1, .int (nI j)), (2, .int p2), (3, .ref o0)]) hx hb dL_reverse_13 hl (by decide) rfl (fun ls hl => ?_)
      refine lv_iconst (v := 1) hx hb dL_reverse_15 (by decide) ?_
      exact z_iret (v := 1) hx hb hr hlocks hP hD hS none (Or.inr ⟨rfl, _, wE, by decide +kernel⟩) [0, 1, 2, 3, 4, 5, 6, 7, 8, 9, 10, 11] rfl (by decide) (Nat.le_of_ble_eq_true rfl) (Nat.le_of_ble_eq_true rfl) dL_reverse_16
    · skip
      refine vx_catch (own := "ShopLedgerLaw") (name := "java/lang/IllegalStateException") (E := "java/lang/IllegalStateException") hown [⟨0, 10, 13, 13⟩] ⟨0, 10, 17, 15⟩ [⟨0, 10, 21, 23⟩] (by rw [hTab]; rfl) (by
          intro z hz
          rcases List.mem_cons.mp hz with rfl | hz
          · exact Or.inr ⟨by decide, "java/lang/IndexOutOfBoundsException", (hZ _ t_205), hB.2.2.2.2.2.2.1 ("java/lang/IllegalStateException", "java/lang/IndexOutOfBoundsException") (by decide +kernel)⟩
          cases hz) (by decide) (by decide) (hZ _ t_206) (va_Nw.use rfl (hB.2.2.2.1 ("java/lang/IllegalStateException", "java/lang/IllegalStateException") (by decide +kernel))) hce hcv hcl ?_
      refine lv_astore (lv' := [(4, .ref q9), (0, .ref x0), (1, .int (nI j)), (2, .int p2), (3, .ref o0)]) hx hb dL_reverse_17 hl (by decide) rfl (fun ls hl => ?_)
      refine lv_iconst (v := 2) hx hb dL_reverse_19 (by decide) ?_
      exact z_iret (v := 2) hx hb hr hlocks hP hD hS none (Or.inr ⟨rfl, _, wE, by decide +kernel⟩) [0, 1, 2, 3, 4, 5, 6, 7, 8, 9, 10, 11] rfl (by decide) (Nat.le_of_ble_eq_true rfl) (Nat.le_of_ble_eq_true rfl) dL_reverse_20
    · skip
      refine vx_catch (own := "ShopLedgerLaw") (name := "java/lang/UnsupportedOperationException") (E := "java/lang/UnsupportedOperationException") hown [⟨0, 10, 13, 13⟩, ⟨0, 10, 17, 15⟩] ⟨0, 10, 21, 23⟩ [] (by rw [hTab]; rfl) (by
          intro z hz
          rcases List.mem_cons.mp hz with rfl | hz
          · exact Or.inr ⟨by decide, "java/lang/IndexOutOfBoundsException", (hZ _ t_205), hB.2.2.2.2.2.2.1 ("java/lang/UnsupportedOperationException", "java/lang/IndexOutOfBoundsException") (by decide +kernel)⟩
          rcases List.mem_cons.mp hz with rfl | hz
          · exact Or.inr ⟨by decide, "java/lang/IllegalStateException", (hZ _ t_206), hB.2.2.2.2.2.2.1 ("java/lang/UnsupportedOperationException", "java/lang/IllegalStateException") (by decide +kernel)⟩
          cases hz) (by decide) (by decide) (hZ _ t_212) (va_Nw.use rfl (hB.2.2.2.1 ("java/lang/UnsupportedOperationException", "java/lang/UnsupportedOperationException") (by decide +kernel))) hce hcv hcl ?_
      refine lv_astore (lv' := [(4, .ref q9), (0, .ref x0), (1, .int (nI j)), (2, .int p2), (3, .ref o0)]) hx hb dL_reverse_21 hl (by decide) rfl (fun ls hl => ?_)
      refine lv_iconst (v := 3) hx hb dL_reverse_23 (by decide) ?_
      exact z_iret (v := 3) hx hb hr hlocks hP hD hS none (Or.inr ⟨rfl, _, wE, by decide +kernel⟩) [0, 1, 2, 3, 4, 5, 6, 7, 8, 9, 10, 11] rfl (by decide) (Nat.le_of_ble_eq_true rfl) (Nat.le_of_ble_eq_true rfl) dL_reverse_24
  have hP : va_P D.1 vwCl [(o0, .inl (D.2 1, 1, .inr (.inl ou))), (x0, .inr (5, [.ref h0, .ref b0, .ref w0, .ref s0, .ref m0, .ref g0, .int (nI cl)])), (b0, .inr (0, [.ref b1, .ref b2, .ref b3, .ref b4, .ref b5, .int (nI (zs_turn E (nI bt) (nI j) p2 E.1).1), .ref b6, .ref b7, .ref b8, .ref b9, .int (nI (bt + 1))])), (b1, .inl (D.2 0, 200, .inl ((zs_turn E (nI bt) (nI j) p2 E.1).2.1))), (b2, .inl (D.2 0, 200, .inl ((zs_turn E (nI bt) (nI j) p2 E.1).2.2.1))), (b3, .inl (D.2 0, 200, .inl ((zs_turn E (nI bt) (nI j) p2 E.1).2.2.2.1))), (b4, .inl (D.2 0, 200, .inl ((zs_turn E (nI bt) (nI j) p2 E.1).2.2.2.2.1))), (b5, .inl (D.2 0, 200, .inl ((zs_turn E (nI bt) (nI j) p2 E.1).2.2.2.2.2.1))), (b6, .inl (D.2 1, 8, .inr (.inl ((zs_turn E (nI bt) (nI j) p2 E.1).2.2.2.2.2.2.1)))), (b7, .inl (D.2 1, 8, .inr (.inl ((zs_turn E (nI bt) (nI j) p2 E.1).2.2.2.2.2.2.2.1)))), (b8, .inl (D.2 1, 12, .inr (.inl ((zs_turn E (nI bt) (nI j) p2 E.1).2.2.2.2.2.2.2.2)))), (b9, .inl (D.2 2, 200, .inl (upd (upd fx j 1) bt 1)))] H := hP
  have hD : va_D A [(o0, .inl (D.2 1, 1, .inr (.inl ou))), (x0, .inr (5, [.ref h0, .ref b0, .ref w0, .ref s0, .ref m0, .ref g0, .int (nI cl)])), (b0, .inr (0, [.ref b1, .ref b2, .ref b3, .ref b4, .ref b5, .int (nI (zs_turn E (nI bt) (nI j) p2 E.1).1), .ref b6, .ref b7, .ref b8, .ref b9, .int (nI (bt + 1))])), (b1, .inl (D.2 0, 200, .inl ((zs_turn E (nI bt) (nI j) p2 E.1).2.1))), (b2, .inl (D.2 0, 200, .inl ((zs_turn E (nI bt) (nI j) p2 E.1).2.2.1))), (b3, .inl (D.2 0, 200, .inl ((zs_turn E (nI bt) (nI j) p2 E.1).2.2.2.1))), (b4, .inl (D.2 0, 200, .inl ((zs_turn E (nI bt) (nI j) p2 E.1).2.2.2.2.1))), (b5, .inl (D.2 0, 200, .inl ((zs_turn E (nI bt) (nI j) p2 E.1).2.2.2.2.2.1))), (b6, .inl (D.2 1, 8, .inr (.inl ((zs_turn E (nI bt) (nI j) p2 E.1).2.2.2.2.2.2.1)))), (b7, .inl (D.2 1, 8, .inr (.inl ((zs_turn E (nI bt) (nI j) p2 E.1).2.2.2.2.2.2.2.1)))), (b8, .inl (D.2 1, 12, .inr (.inl ((zs_turn E (nI bt) (nI j) p2 E.1).2.2.2.2.2.2.2.2)))), (b9, .inl (D.2 2, 200, .inl (upd (upd fx j 1) bt 1)))] := hD
  refine lv_i2l (v := r1.toInt64) hx hb dL_reverse_8 rfl ?_
  refine z_last (k := 0) hx hb hK hP hD hS 0 rfl (by decide) (by decide) dL_reverse_9 (fun H locs hP hD hS => ?_)
  have hP : va_P D.1 vwCl [(o0, .inl (D.2 1, 1, .inr (.inl (vp_updL ou 0 r1.toInt64)))), (x0, .inr (5, [.ref h0, .ref b0, .ref w0, .ref s0, .ref m0, .ref g0, .int (nI cl)])), (b0, .inr (0, [.ref b1, .ref b2, .ref b3, .ref b4, .ref b5, .int (nI (zs_turn E (nI bt) (nI j) p2 E.1).1), .ref b6, .ref b7, .ref b8, .ref b9, .int (nI (bt + 1))])), (b1, .inl (D.2 0, 200, .inl ((zs_turn E (nI bt) (nI j) p2 E.1).2.1))), (b2, .inl (D.2 0, 200, .inl ((zs_turn E (nI bt) (nI j) p2 E.1).2.2.1))), (b3, .inl (D.2 0, 200, .inl ((zs_turn E (nI bt) (nI j) p2 E.1).2.2.2.1))), (b4, .inl (D.2 0, 200, .inl ((zs_turn E (nI bt) (nI j) p2 E.1).2.2.2.2.1))), (b5, .inl (D.2 0, 200, .inl ((zs_turn E (nI bt) (nI j) p2 E.1).2.2.2.2.2.1))), (b6, .inl (D.2 1, 8, .inr (.inl ((zs_turn E (nI bt) (nI j) p2 E.1).2.2.2.2.2.2.1)))), (b7, .inl (D.2 1, 8, .inr (.inl ((zs_turn E (nI bt) (nI j) p2 E.1).2.2.2.2.2.2.2.1)))), (b8, .inl (D.2 1, 12, .inr (.inl ((zs_turn E (nI bt) (nI j) p2 E.1).2.2.2.2.2.2.2.2)))), (b9, .inl (D.2 2, 200, .inl (upd (upd fx j 1) bt 1)))] H := hP
  have hD : va_D A [(o0, .inl (D.2 1, 1, .inr (.inl (vp_updL ou 0 r1.toInt64)))), (x0, .inr (5, [.ref h0, .ref b0, .ref w0, .ref s0, .ref m0, .ref g0, .int (nI cl)])), (b0, .inr (0, [.ref b1, .ref b2, .ref b3, .ref b4, .ref b5, .int (nI (zs_turn E (nI bt) (nI j) p2 E.1).1), .ref b6, .ref b7, .ref b8, .ref b9, .int (nI (bt + 1))])), (b1, .inl (D.2 0, 200, .inl ((zs_turn E (nI bt) (nI j) p2 E.1).2.1))), (b2, .inl (D.2 0, 200, .inl ((zs_turn E (nI bt) (nI j) p2 E.1).2.2.1))), (b3, .inl (D.2 0, 200, .inl ((zs_turn E (nI bt) (nI j) p2 E.1).2.2.2.1))), (b4, .inl (D.2 0, 200, .inl ((zs_turn E (nI bt) (nI j) p2 E.1).2.2.2.2.1))), (b5, .inl (D.2 0, 200, .inl ((zs_turn E (nI bt) (nI j) p2 E.1).2.2.2.2.2.1))), (b6, .inl (D.2 1, 8, .inr (.inl ((zs_turn E (nI bt) (nI j) p2 E.1).2.2.2.2.2.2.1)))), (b7, .inl (D.2 1, 8, .inr (.inl ((zs_turn E (nI bt) (nI j) p2 E.1).2.2.2.2.2.2.2.1)))), (b8, .inl (D.2 1, 12, .inr (.inl ((zs_turn E (nI bt) (nI j) p2 E.1).2.2.2.2.2.2.2.2)))), (b9, .inl (D.2 2, 200, .inl (upd (upd fx j 1) bt 1)))] := hD
  refine lv_goto (tgt := 25) hx hb dL_reverse_10 (by decide) ?_
  refine lv_iconst (v := 0) hx hb dL_reverse_25 (by decide) ?_
  exact z_iret (v := 0) hx hb hr hlocks hP hD hS (some r1.toInt64) (Or.inl ⟨r1, rfl, rfl, w1⟩) [0, 1, 2, 3, 4, 5, 6, 7, 8, 9, 10, 11] rfl (by decide) (Nat.le_of_ble_eq_true rfl) (Nat.le_of_ble_eq_true rfl) dL_reverse_26
set_option maxHeartbeats 4000000 in
set_option maxRecDepth 100000 in
/-- the law calls reverse, of what is not there -/
theorem w_reverseX {l : Launch} (D : zD) (x0 h0 w0 s0 m0 g0 cl : Nat) (b0 b1 b2 b3 b4 b5 b6 b7 b8 b9 : Nat) (E : zE) (bt : Nat) (p1 p2 : Int32) (o0 : Nat) (ou : Nat → Int64) (sz : Nat) (hl9 : l.stackTraces = false) (hp : ¬ zin p1 (nI bt)) : Met l yL_reverse wsL_reverse ({ frames := 8, cells := 1, slots := 6, locals := 133 }) (va_Pc [.ref x0, .int p1, .int p2, .ref o0] (zp D sz [(o0, .inl (D.2 1, 1, .inr (.inl ou))), (x0, .inr (5, [.ref h0, .ref b0, .ref w0, .ref s0, .ref m0, .ref g0, .int (nI cl)])), (b0, .inr (0, [.ref b1, .ref b2, .ref b3, .ref b4, .ref b5, .int (nI E.1), .ref b6, .ref b7, .ref b8, .ref b9, .int (nI bt)]))])) (va_Qi (fun r (u : Option Int64) => (∃ r9 : Int32, u = some r9.toInt64 ∧ r = 0 ∧ (fun r (_ : Unit) => False) r9 ()) ∨ (u = none ∧ ∃ E9, (fun E9 => E9 = "java/lang/IndexOutOfBoundsException") E9 ∧ r = zcd ["java/lang/IndexOutOfBoundsException", "java/lang/IllegalStateException", "java/lang/UnsupportedOperationException"] E9)) (zq D (va_A [(o0, .inl (D.2 1, 1, .inr (.inl ou))), (x0, .inr (5, [.ref h0, .ref b0, .ref w0, .ref s0, .ref m0, .ref g0, .int (nI cl)])), (b0, .inr (0, [.ref b1, .ref b2, .ref b3, .ref b4, .ref b5, .int (nI E.1), .ref b6, .ref b7, .ref b8, .ref b9, .int (nI bt)]))] sz) (fun (u : Option Int64) => (u.elim [(o0, .inl (D.2 1, 1, .inr (.inl ou))), (x0, .inr (5, [.ref h0, .ref b0, .ref w0, .ref s0, .ref m0, .ref g0, .int (nI cl)])), (b0, .inr (0, [.ref b1, .ref b2, .ref b3, .ref b4, .ref b5, .int (nI E.1), .ref b6, .ref b7, .ref b8, .ref b9, .int (nI bt)]))] (fun v => [(o0, .inl (D.2 1, 1, .inr (.inl (vp_updL ou 0 v)))), (x0, .inr (5, [.ref h0, .ref b0, .ref w0, .ref s0, .ref m0, .ref g0, .int (nI cl)])), (b0, .inr (0, [.ref b1, .ref b2, .ref b3, .ref b4, .ref b5, .int (nI E.1), .ref b6, .ref b7, .ref b8, .ref b9, .int (nI bt)]))]) : va_W))) (va_A [(o0, .inl (D.2 1, 1, .inr (.inl ou))), (x0, .inr (5, [.ref h0, .ref b0, .ref w0, .ref s0, .ref m0, .ref g0, .int (nI cl)])), (b0, .inr (0, [.ref b1, .ref b2, .ref b3, .ref b4, .ref b5, .int (nI E.1), .ref b6, .ref b7, .ref b8, .ref b9, .int (nI bt)]))] sz)) 1 6 (va_A [(o0, .inl (D.2 1, 1, .inr (.inl ou))), (x0, .inr (5, [.ref h0, .ref b0, .ref w0, .ref s0, .ref m0, .ref g0, .int (nI cl)])), (b0, .inr (0, [.ref b1, .ref b2, .ref b3, .ref b4, .ref b5, .int (nI E.1), .ref b6, .ref b7, .ref b8, .ref b9, .int (nI bt)]))] sz) := by
  refine va_MetW (cc := cL_reverse) (maxL := 5) (ret := (some .int)) (hh := [(0, 10, 13, 13), (0, 10, 17, 15), (0, 10, 21, 23)]) (by decide) rfl ?_
  intro p e s m args below meth c s₁ B hml hv
  obtain ⟨rfl, hsz, hP, hK, hD0, hB⟩ := hv
  have hx := B.exec
  have hb := B.bytes
  have hr := B.returns
  have hts := atoms_spec (ws := wsL_reverse) B.pre
  have hown : s.vm.findClass "ShopLedgerLaw" = some m.cls := findClass_of_methodNamed B.named
  have hlocks := B.notSynchronized
  have hTab : c.exceptionTable.toList = tableOf [(0, 10, 13, 13), (0, 10, 17, 15), (0, 10, 21, 23)] := vx_table (x := yL_reverse) B (hts _ List.mem_cons_self)
  subst hsz
  have hD := hD0.self (sz := s.heap.size)
  generalize hAe : va_A [(o0, .inl (D.2 1, 1, .inr (.inl ou))), (x0, .inr (5, [.ref h0, .ref b0, .ref w0, .ref s0, .ref m0, .ref g0, .int (nI cl)])), (b0, .inr (0, [.ref b1, .ref b2, .ref b3, .ref b4, .ref b5, .int (nI E.1), .ref b6, .ref b7, .ref b8, .ref b9, .int (nI bt)]))] s.heap.size = A at hD hB ⊢
  have hA : ∀ q : Nat, s.heap.size ≤ q → A q := fun q h => by rw [← hAe]; exact Or.inr h
  have hS : va_S A s.heap s.heap [] := va_S.rf
  have hZ : ∀ w ∈ zALL, w.before _ s = true := fun w h => hts w (List.mem_cons_of_mem _ h)
  have hF : CallFix p m c cL_reverse 5 s _ zALL "ShopLedgerLaw" := ⟨hx, hb, hml, hown, hZ⟩
  have hl := lv_entry ([.ref x0, .int p1, .int p2, .ref o0]) (n := 5) (Nat.le_of_ble_eq_true rfl)
  rw [lg_entry_eq]
  generalize (lg_sl ([.ref x0, .int p1, .int p2, .ref o0]) ++ List.replicate (5 - (lg_sl ([.ref x0, .int p1, .int p2, .ref o0])).length) Slot.unset).toArray = ls at hl ⊢
  have hl : lv_has ls 5 [(0, .ref x0), (1, .int p1), (2, .int p2), (3, .ref o0)] := hl
  refine lv_aload_n hx hb dL_reverse_0 rfl (lv_at hl 3 rfl) ?_
  refine lv_iconst (v := 0) hx hb dL_reverse_1 (by decide) ?_
  refine lv_aload_n hx hb dL_reverse_2 rfl (lv_at hl 0 rfl) ?_
  refine lv_iload_n hx hb dL_reverse_3 rfl (lv_at hl 1 rfl) ?_
  refine lv_iload_n hx hb dL_reverse_4 rfl (lv_at hl 2 rfl) ?_
  have J := zJ.mk (wc := [(x0, .inr (5, [.ref h0, .ref b0, .ref w0, .ref s0, .ref m0, .ref g0, .int (nI cl)])), (b0, .inr (0, [.ref b1, .ref b2, .ref b3, .ref b4, .ref b5, .int (nI E.1), .ref b6, .ref b7, .ref b8, .ref b9, .int (nI bt)]))]) (wr := [(o0, .inl (D.2 1, 1, .inr (.inl ou)))]) hA hB hK hP hD hS [1, 2] [0] rfl rfl (by decide)
  refine z_xgoi (z_xrunV (As := [.int p1, .int p2]) (rest := [.int 0, .ref o0]) (b := x0) hF (c_reverseX hl9 D x0 h0 w0 s0 m0 g0 cl b0 b1 b2 b3 b4 b5 b6 b7 b8 b9 E bt p1 p2 s.heap.size hp) (cwV 2 hZ (z_gV t_218 t_219 t_220 t_55 t_217) rfl rfl rfl (by decide +kernel) ⟨Nat.le_of_ble_eq_true rfl, Nat.le_of_ble_eq_true rfl⟩) J 0 5 rfl rfl rfl rfl hl.1 (Nat.le_of_ble_eq_true rfl) dL_reverse_5 ⟨Nat.le_of_ble_eq_true rfl, Nat.le_of_ble_eq_true rfl⟩) J (fun EX ce q9 H locs w1 hP hD hS hce hcv hcl => ?_) (fun r1 _ H locs w1 hP hD hS => ?_)
  · have hP : va_P D.1 vwCl [(o0, .inl (D.2 1, 1, .inr (.inl ou))), (x0, .inr (5, [.ref h0, .ref b0, .ref w0, .ref s0, .ref m0, .ref g0, .int (nI cl)])), (b0, .inr (0, [.ref b1, .ref b2, .ref b3, .ref b4, .ref b5, .int (nI E.1), .ref b6, .ref b7, .ref b8, .ref b9, .int (nI bt)]))] H := hP
    have hD : va_D A [(o0, .inl (D.2 1, 1, .inr (.inl ou))), (x0, .inr (5, [.ref h0, .ref b0, .ref w0, .ref s0, .ref m0, .ref g0, .int (nI cl)])), (b0, .inr (0, [.ref b1, .ref b2, .ref b3, .ref b4, .ref b5, .int (nI E.1), .ref b6, .ref b7, .ref b8, .ref b9, .int (nI bt)]))] := hD
    have wE := w1
    obtain rfl : EX = "java/lang/IndexOutOfBoundsException" := w1
    refine vx_catch (own := "ShopLedgerLaw") (name := "java/lang/IndexOutOfBoundsException") (E := "java/lang/IndexOutOfBoundsException") hown [] ⟨0, 10, 13, 13⟩ [⟨0, 10, 17, 15⟩, ⟨0, 10, 21, 23⟩] (by rw [hTab]; rfl) (fun z hz => nomatch hz) (by decide) (by decide) (hZ _ t_205) (va_Nw.use rfl (hB.2.2.2.1 ("java/lang/IndexOutOfBoundsException", "java/lang/IndexOutOfBoundsException") (by decide +kernel))) hce hcv hcl ?_
    refine lv_astore (lv' := [(4, .ref q9), (0, .ref x0), (1, .int p1), (2, .int p2), (3, .ref o0)]) hx hb dL_reverse_13 hl (by decide) rfl (fun ls hl => ?_)
    refine lv_iconst (v := 1) hx hb dL_reverse_15 (by decide) ?_
    exact z_iret (v := 1) hx hb hr hlocks hP hD hS none (Or.inr ⟨rfl, _, wE, by decide +kernel⟩) [0, 1, 2] rfl (by decide) (Nat.le_of_ble_eq_true rfl) (Nat.le_of_ble_eq_true rfl) dL_reverse_16
  have hP : va_P D.1 vwCl [(o0, .inl (D.2 1, 1, .inr (.inl ou))), (x0, .inr (5, [.ref h0, .ref b0, .ref w0, .ref s0, .ref m0, .ref g0, .int (nI cl)])), (b0, .inr (0, [.ref b1, .ref b2, .ref b3, .ref b4, .ref b5, .int (nI E.1), .ref b6, .ref b7, .ref b8, .ref b9, .int (nI bt)]))] H := hP
  have hD : va_D A [(o0, .inl (D.2 1, 1, .inr (.inl ou))), (x0, .inr (5, [.ref h0, .ref b0, .ref w0, .ref s0, .ref m0, .ref g0, .int (nI cl)])), (b0, .inr (0, [.ref b1, .ref b2, .ref b3, .ref b4, .ref b5, .int (nI E.1), .ref b6, .ref b7, .ref b8, .ref b9, .int (nI bt)]))] := hD
  refine lv_i2l (v := r1.toInt64) hx hb dL_reverse_8 rfl ?_
  refine z_last (k := 0) hx hb hK hP hD hS 0 rfl (by decide) (by decide) dL_reverse_9 (fun H locs hP hD hS => ?_)
  have hP : va_P D.1 vwCl [(o0, .inl (D.2 1, 1, .inr (.inl (vp_updL ou 0 r1.toInt64)))), (x0, .inr (5, [.ref h0, .ref b0, .ref w0, .ref s0, .ref m0, .ref g0, .int (nI cl)])), (b0, .inr (0, [.ref b1, .ref b2, .ref b3, .ref b4, .ref b5, .int (nI E.1), .ref b6, .ref b7, .ref b8, .ref b9, .int (nI bt)]))] H := hP
  have hD : va_D A [(o0, .inl (D.2 1, 1, .inr (.inl (vp_updL ou 0 r1.toInt64)))), (x0, .inr (5, [.ref h0, .ref b0, .ref w0, .ref s0, .ref m0, .ref g0, .int (nI cl)])), (b0, .inr (0, [.ref b1, .ref b2, .ref b3, .ref b4, .ref b5, .int (nI E.1), .ref b6, .ref b7, .ref b8, .ref b9, .int (nI bt)]))] := hD
  refine lv_goto (tgt := 25) hx hb dL_reverse_10 (by decide) ?_
  refine lv_iconst (v := 0) hx hb dL_reverse_25 (by decide) ?_
  exact z_iret (v := 0) hx hb hr hlocks hP hD hS (some r1.toInt64) (Or.inl ⟨r1, rfl, rfl, w1⟩) [0, 1, 2] rfl (by decide) (Nat.le_of_ble_eq_true rfl) (Nat.le_of_ble_eq_true rfl) dL_reverse_26
set_option maxHeartbeats 4000000 in
set_option maxRecDepth 100000 in
/-- the law calls close -/
theorem w_close {l : Launch} (D : zD) (x0 h0 b0 w0 s0 m0 g0 cl : Nat) (o0 : Nat) (ou : Nat → Int64) (sz : Nat) (hl9 : l.stackTraces = false)  : Met l yL_close wsL_close ({ frames := 8, cells := 1, slots := 6, locals := 130 }) (va_Pc [.ref x0, .ref o0] (zp D sz [(o0, .inl (D.2 1, 1, .inr (.inl ou))), (x0, .inr (5, [.ref h0, .ref b0, .ref w0, .ref s0, .ref m0, .ref g0, .int (nI cl)]))])) (va_Qi (fun r (u : Option Int64) => (∃ r9 : Int32, u = some r9.toInt64 ∧ r = 0 ∧ (fun r (_ : Unit) => ¬ 12 ≤ nI cl ∧ r = nI cl) r9 ()) ∨ (u = none ∧ ∃ E9, (fun E => E = "java/lang/IllegalStateException" ∧ ¬ (¬ 12 ≤ nI cl)) E9 ∧ r = zcd ["java/lang/IllegalStateException"] E9)) (zq D (va_A [(o0, .inl (D.2 1, 1, .inr (.inl ou))), (x0, .inr (5, [.ref h0, .ref b0, .ref w0, .ref s0, .ref m0, .ref g0, .int (nI cl)]))] sz) (fun (u : Option Int64) => (u.elim [(o0, .inl (D.2 1, 1, .inr (.inl ou))), (x0, .inr (5, [.ref h0, .ref b0, .ref w0, .ref s0, .ref m0, .ref g0, .int (nI cl)]))] (fun v => [(o0, .inl (D.2 1, 1, .inr (.inl (vp_updL ou 0 v)))), (x0, .inr (5, [.ref h0, .ref b0, .ref w0, .ref s0, .ref m0, .ref g0, .int (nI (cl + 1))]))]) : va_W))) (va_A [(o0, .inl (D.2 1, 1, .inr (.inl ou))), (x0, .inr (5, [.ref h0, .ref b0, .ref w0, .ref s0, .ref m0, .ref g0, .int (nI cl)]))] sz)) 1 6 (va_A [(o0, .inl (D.2 1, 1, .inr (.inl ou))), (x0, .inr (5, [.ref h0, .ref b0, .ref w0, .ref s0, .ref m0, .ref g0, .int (nI cl)]))] sz) := by
  refine va_MetW (cc := cL_close) (maxL := 3) (ret := (some .int)) (hh := [(0, 8, 11, 15)]) (by decide) rfl ?_
  intro p e s m args below meth c s₁ B hml hv
  obtain ⟨rfl, hsz, hP, hK, hD0, hB⟩ := hv
  have hx := B.exec
  have hb := B.bytes
  have hr := B.returns
  have hts := atoms_spec (ws := wsL_close) B.pre
  have hown : s.vm.findClass "ShopLedgerLaw" = some m.cls := findClass_of_methodNamed B.named
  have hlocks := B.notSynchronized
  have hTab : c.exceptionTable.toList = tableOf [(0, 8, 11, 15)] := vx_table (x := yL_close) B (hts _ List.mem_cons_self)
  subst hsz
  have hD := hD0.self (sz := s.heap.size)
  generalize hAe : va_A [(o0, .inl (D.2 1, 1, .inr (.inl ou))), (x0, .inr (5, [.ref h0, .ref b0, .ref w0, .ref s0, .ref m0, .ref g0, .int (nI cl)]))] s.heap.size = A at hD hB ⊢
  have hA : ∀ q : Nat, s.heap.size ≤ q → A q := fun q h => by rw [← hAe]; exact Or.inr h
  have hS : va_S A s.heap s.heap [] := va_S.rf
  have hZ : ∀ w ∈ zALL, w.before _ s = true := fun w h => hts w (List.mem_cons_of_mem _ h)
  have hF : CallFix p m c cL_close 3 s _ zALL "ShopLedgerLaw" := ⟨hx, hb, hml, hown, hZ⟩
  have hl := lv_entry ([.ref x0, .ref o0]) (n := 3) (Nat.le_of_ble_eq_true rfl)
  rw [lg_entry_eq]
  generalize (lg_sl ([.ref x0, .ref o0]) ++ List.replicate (3 - (lg_sl ([.ref x0, .ref o0])).length) Slot.unset).toArray = ls at hl ⊢
  have hl : lv_has ls 3 [(0, .ref x0), (1, .ref o0)] := hl
  refine lv_aload_n hx hb dL_close_0 rfl (lv_at hl 1 rfl) ?_
  refine lv_iconst (v := 0) hx hb dL_close_1 (by decide) ?_
  refine lv_aload_n hx hb dL_close_2 rfl (lv_at hl 0 rfl) ?_
  have J := zJ.mk (wc := [(x0, .inr (5, [.ref h0, .ref b0, .ref w0, .ref s0, .ref m0, .ref g0, .int (nI cl)]))]) (wr := [(o0, .inl (D.2 1, 1, .inr (.inl ou)))]) hA hB hK hP hD hS [1] [0] rfl rfl (by decide)
  refine z_xgoi (z_xrunV (As := []) (rest := [.int 0, .ref o0]) (b := x0) hF (c_close hl9 D x0 h0 b0 w0 s0 m0 g0 cl s.heap.size ) (cwV 0 hZ (z_gV t_222 t_223 t_224 t_55 t_221) rfl rfl rfl (by decide +kernel) ⟨Nat.le_of_ble_eq_true rfl, Nat.le_of_ble_eq_true rfl⟩) J 0 5 rfl rfl rfl rfl hl.1 (Nat.le_of_ble_eq_true rfl) dL_close_3 ⟨Nat.le_of_ble_eq_true rfl, Nat.le_of_ble_eq_true rfl⟩) J (fun EX ce q9 H locs w1 hP hD hS hce hcv hcl => ?_) (fun r1 _ H locs w1 hP hD hS => ?_)
  · have hP : va_P D.1 vwCl [(o0, .inl (D.2 1, 1, .inr (.inl ou))), (x0, .inr (5, [.ref h0, .ref b0, .ref w0, .ref s0, .ref m0, .ref g0, .int (nI cl)]))] H := hP
    have hD : va_D A [(o0, .inl (D.2 1, 1, .inr (.inl ou))), (x0, .inr (5, [.ref h0, .ref b0, .ref w0, .ref s0, .ref m0, .ref g0, .int (nI cl)]))] := hD
    have wE := w1
    obtain rfl : EX = "java/lang/IllegalStateException" := w1.1
    refine vx_catch (own := "ShopLedgerLaw") (name := "java/lang/IllegalStateException") (E := "java/lang/IllegalStateException") hown [] ⟨0, 8, 11, 15⟩ [] (by rw [hTab]; rfl) (fun z hz => nomatch hz) (by decide) (by decide) (hZ _ t_206) (va_Nw.use rfl (hB.2.2.2.1 ("java/lang/IllegalStateException", "java/lang/IllegalStateException") (by decide +kernel))) hce hcv hcl ?_
    refine lv_astore_n (lv' := [(2, .ref q9), (0, .ref x0), (1, .ref o0)]) hx hb dL_close_11 rfl hl (by decide) rfl (fun ls hl => ?_)
    refine lv_iconst (v := 1) hx hb dL_close_12 (by decide) ?_
    exact z_iret (v := 1) hx hb hr hlocks hP hD hS none (Or.inr ⟨rfl, _, wE, by decide +kernel⟩) [0, 1] rfl (by decide) (Nat.le_of_ble_eq_true rfl) (Nat.le_of_ble_eq_true rfl) dL_close_13
  have hP : va_P D.1 vwCl [(o0, .inl (D.2 1, 1, .inr (.inl ou))), (x0, .inr (5, [.ref h0, .ref b0, .ref w0, .ref s0, .ref m0, .ref g0, .int (nI (cl + 1))]))] H := hP
  have hD : va_D A [(o0, .inl (D.2 1, 1, .inr (.inl ou))), (x0, .inr (5, [.ref h0, .ref b0, .ref w0, .ref s0, .ref m0, .ref g0, .int (nI (cl + 1))]))] := hD
  refine lv_i2l (v := r1.toInt64) hx hb dL_close_6 rfl ?_
  refine z_last (k := 0) hx hb hK hP hD hS 0 rfl (by decide) (by decide) dL_close_7 (fun H locs hP hD hS => ?_)
  have hP : va_P D.1 vwCl [(o0, .inl (D.2 1, 1, .inr (.inl (vp_updL ou 0 r1.toInt64)))), (x0, .inr (5, [.ref h0, .ref b0, .ref w0, .ref s0, .ref m0, .ref g0, .int (nI (cl + 1))]))] H := hP
  have hD : va_D A [(o0, .inl (D.2 1, 1, .inr (.inl (vp_updL ou 0 r1.toInt64)))), (x0, .inr (5, [.ref h0, .ref b0, .ref w0, .ref s0, .ref m0, .ref g0, .int (nI (cl + 1))]))] := hD
  refine lv_goto (tgt := 14) hx hb dL_close_8 (by decide) ?_
  refine lv_iconst (v := 0) hx hb dL_close_14 (by decide) ?_
  exact z_iret (v := 0) hx hb hr hlocks hP hD hS (some r1.toInt64) (Or.inl ⟨r1, rfl, rfl, w1⟩) [0, 1] rfl (by decide) (Nat.le_of_ble_eq_true rfl) (Nat.le_of_ble_eq_true rfl) dL_close_15
set_option maxHeartbeats 4000000 in
set_option maxRecDepth 100000 in
/-- the law calls told -/
theorem w_told {l : Launch} (D : zD) (x0 h0 w0 s0 m0 g0 cl : Nat) (b0 b1 b2 b3 b4 b5 b6 b7 b8 b9 : Nat) (E : zE) (bt : Nat) (p1 p2 : Int32) (o0 : Nat) (ou : Nat → Int64) (sz : Nat) (hl9 : l.stackTraces = false) (hE : E.1 ≤ 200) : Met l yL_told wsL_told ({ frames := 9, cells := 2, slots := 12, locals := 155 }) (va_Pc [.ref x0, .int p1, .int p2, .ref o0] (zp D sz [(o0, .inl (D.2 1, 1, .inr (.inl ou))), (x0, .inr (5, [.ref h0, .ref b0, .ref w0, .ref s0, .ref m0, .ref g0, .int (nI cl)])), (b0, .inr (0, [.ref b1, .ref b2, .ref b3, .ref b4, .ref b5, .int (nI E.1), .ref b6, .ref b7, .ref b8, .ref b9, .int (nI bt)])), (b1, .inl (D.2 0, 200, .inl E.2.1)), (b2, .inl (D.2 0, 200, .inl E.2.2.1)), (b3, .inl (D.2 0, 200, .inl E.2.2.2.1)), (b4, .inl (D.2 0, 200, .inl E.2.2.2.2.1)), (b5, .inl (D.2 0, 200, .inl E.2.2.2.2.2.1)), (b6, .inl (D.2 1, 8, .inr (.inl E.2.2.2.2.2.2.1))), (b7, .inl (D.2 1, 8, .inr (.inl E.2.2.2.2.2.2.2.1))), (b8, .inl (D.2 1, 12, .inr (.inl E.2.2.2.2.2.2.2.2)))])) (va_Qi (fun r (u : Option Int64) => (∃ r9 : Int64, u = some r9 ∧ r = 0 ∧ (fun r (_ : Unit) => (p1 = 0 ∧ zin p2 8 ∧ r = E.2.2.2.2.2.2.1 p2.toNatClampNeg) ∨ (p1 = 1 ∧ zin p2 8 ∧ r = E.2.2.2.2.2.2.2.1 p2.toNatClampNeg) ∨ (p1 = 2 ∧ zin p2 12 ∧ r = E.2.2.2.2.2.2.2.2 p2.toNatClampNeg) ∨ (zin p2 (nI E.1) ∧ ((p1 = 3 ∧ r = (E.2.2.2.2.1 p2.toNatClampNeg).toInt64) ∨ (p1 = 4 ∧ r = (E.2.1 p2.toNatClampNeg).toInt64) ∨ (p1 = 5 ∧ r = (E.2.2.1 p2.toNatClampNeg).toInt64) ∨ (p1 = 6 ∧ r = (E.2.2.2.1 p2.toNatClampNeg).toInt64) ∨ (p1 = 7 ∧ r = (E.2.2.2.2.2.1 p2.toNatClampNeg).toInt64)))) r9 ()) ∨ (u = none ∧ ∃ E9, (fun E9 => E9 = "java/lang/IndexOutOfBoundsException" ∧ ¬ (p1 = 0 ∧ zin p2 8) ∧ ¬ (p1 = 1 ∧ zin p2 8) ∧ ¬ (p1 = 2 ∧ zin p2 12) ∧ ¬ (zin p2 (nI E.1) ∧ (p1 = 3 ∨ p1 = 4 ∨ p1 = 5 ∨ p1 = 6 ∨ p1 = 7))) E9 ∧ r = zcd ["java/lang/IndexOutOfBoundsException"] E9)) (zq D (va_A [(o0, .inl (D.2 1, 1, .inr (.inl ou))), (x0, .inr (5, [.ref h0, .ref b0, .ref w0, .ref s0, .ref m0, .ref g0, .int (nI cl)])), (b0, .inr (0, [.ref b1, .ref b2, .ref b3, .ref b4, .ref b5, .int (nI E.1), .ref b6, .ref b7, .ref b8, .ref b9, .int (nI bt)])), (b1, .inl (D.2 0, 200, .inl E.2.1)), (b2, .inl (D.2 0, 200, .inl E.2.2.1)), (b3, .inl (D.2 0, 200, .inl E.2.2.2.1)), (b4, .inl (D.2 0, 200, .inl E.2.2.2.2.1)), (b5, .inl (D.2 0, 200, .inl E.2.2.2.2.2.1)), (b6, .inl (D.2 1, 8, .inr (.inl E.2.2.2.2.2.2.1))), (b7, .inl (D.2 1, 8, .inr (.inl E.2.2.2.2.2.2.2.1))), (b8, .inl (D.2 1, 12, .inr (.inl E.2.2.2.2.2.2.2.2)))] sz) (fun (u : Option Int64) => (u.elim [(o0, .inl (D.2 1, 1, .inr (.inl ou))), (x0, .inr (5, [.ref h0, .ref b0, .ref w0, .ref s0, .ref m0, .ref g0, .int (nI cl)])), (b0, .inr (0, [.ref b1, .ref b2, .ref b3, .ref b4, .ref b5, .int (nI E.1), .ref b6, .ref b7, .ref b8, .ref b9, .int (nI bt)])), (b1, .inl (D.2 0, 200, .inl E.2.1)), (b2, .inl (D.2 0, 200, .inl E.2.2.1)), (b3, .inl (D.2 0, 200, .inl E.2.2.2.1)), (b4, .inl (D.2 0, 200, .inl E.2.2.2.2.1)), (b5, .inl (D.2 0, 200, .inl E.2.2.2.2.2.1)), (b6, .inl (D.2 1, 8, .inr (.inl E.2.2.2.2.2.2.1))), (b7, .inl (D.2 1, 8, .inr (.inl E.2.2.2.2.2.2.2.1))), (b8, .inl (D.2 1, 12, .inr (.inl E.2.2.2.2.2.2.2.2)))] (fun v => [(o0, .inl (D.2 1, 1, .inr (.inl (vp_updL ou 0 v)))), (x0, .inr (5, [.ref h0, .ref b0, .ref w0, .ref s0, .ref m0, .ref g0, .int (nI cl)])), (b0, .inr (0, [.ref b1, .ref b2, .ref b3, .ref b4, .ref b5, .int (nI E.1), .ref b6, .ref b7, .ref b8, .ref b9, .int (nI bt)])), (b1, .inl (D.2 0, 200, .inl E.2.1)), (b2, .inl (D.2 0, 200, .inl E.2.2.1)), (b3, .inl (D.2 0, 200, .inl E.2.2.2.1)), (b4, .inl (D.2 0, 200, .inl E.2.2.2.2.1)), (b5, .inl (D.2 0, 200, .inl E.2.2.2.2.2.1)), (b6, .inl (D.2 1, 8, .inr (.inl E.2.2.2.2.2.2.1))), (b7, .inl (D.2 1, 8, .inr (.inl E.2.2.2.2.2.2.2.1))), (b8, .inl (D.2 1, 12, .inr (.inl E.2.2.2.2.2.2.2.2)))]) : va_W))) (va_A [(o0, .inl (D.2 1, 1, .inr (.inl ou))), (x0, .inr (5, [.ref h0, .ref b0, .ref w0, .ref s0, .ref m0, .ref g0, .int (nI cl)])), (b0, .inr (0, [.ref b1, .ref b2, .ref b3, .ref b4, .ref b5, .int (nI E.1), .ref b6, .ref b7, .ref b8, .ref b9, .int (nI bt)])), (b1, .inl (D.2 0, 200, .inl E.2.1)), (b2, .inl (D.2 0, 200, .inl E.2.2.1)), (b3, .inl (D.2 0, 200, .inl E.2.2.2.1)), (b4, .inl (D.2 0, 200, .inl E.2.2.2.2.1)), (b5, .inl (D.2 0, 200, .inl E.2.2.2.2.2.1)), (b6, .inl (D.2 1, 8, .inr (.inl E.2.2.2.2.2.2.1))), (b7, .inl (D.2 1, 8, .inr (.inl E.2.2.2.2.2.2.2.1))), (b8, .inl (D.2 1, 12, .inr (.inl E.2.2.2.2.2.2.2.2)))] sz)) 2 12 (va_A [(o0, .inl (D.2 1, 1, .inr (.inl ou))), (x0, .inr (5, [.ref h0, .ref b0, .ref w0, .ref s0, .ref m0, .ref g0, .int (nI cl)])), (b0, .inr (0, [.ref b1, .ref b2, .ref b3, .ref b4, .ref b5, .int (nI E.1), .ref b6, .ref b7, .ref b8, .ref b9, .int (nI bt)])), (b1, .inl (D.2 0, 200, .inl E.2.1)), (b2, .inl (D.2 0, 200, .inl E.2.2.1)), (b3, .inl (D.2 0, 200, .inl E.2.2.2.1)), (b4, .inl (D.2 0, 200, .inl E.2.2.2.2.1)), (b5, .inl (D.2 0, 200, .inl E.2.2.2.2.2.1)), (b6, .inl (D.2 1, 8, .inr (.inl E.2.2.2.2.2.2.1))), (b7, .inl (D.2 1, 8, .inr (.inl E.2.2.2.2.2.2.2.1))), (b8, .inl (D.2 1, 12, .inr (.inl E.2.2.2.2.2.2.2.2)))] sz) := by
  refine va_MetW (cc := cL_told) (maxL := 5) (ret := (some .int)) (hh := [(0, 9, 12, 13)]) (by decide) rfl ?_
  intro p e s m args below meth c s₁ B hml hv
  obtain ⟨rfl, hsz, hP, hK, hD0, hB⟩ := hv
  have hx := B.exec
  have hb := B.bytes
  have hr := B.returns
  have hts := atoms_spec (ws := wsL_told) B.pre
  have hown : s.vm.findClass "ShopLedgerLaw" = some m.cls := findClass_of_methodNamed B.named
  have hlocks := B.notSynchronized
  have hTab : c.exceptionTable.toList = tableOf [(0, 9, 12, 13)] := vx_table (x := yL_told) B (hts _ List.mem_cons_self)
  subst hsz
  have hD := hD0.self (sz := s.heap.size)
  generalize hAe : va_A [(o0, .inl (D.2 1, 1, .inr (.inl ou))), (x0, .inr (5, [.ref h0, .ref b0, .ref w0, .ref s0, .ref m0, .ref g0, .int (nI cl)])), (b0, .inr (0, [.ref b1, .ref b2, .ref b3, .ref b4, .ref b5, .int (nI E.1), .ref b6, .ref b7, .ref b8, .ref b9, .int (nI bt)])), (b1, .inl (D.2 0, 200, .inl E.2.1)), (b2, .inl (D.2 0, 200, .inl E.2.2.1)), (b3, .inl (D.2 0, 200, .inl E.2.2.2.1)), (b4, .inl (D.2 0, 200, .inl E.2.2.2.2.1)), (b5, .inl (D.2 0, 200, .inl E.2.2.2.2.2.1)), (b6, .inl (D.2 1, 8, .inr (.inl E.2.2.2.2.2.2.1))), (b7, .inl (D.2 1, 8, .inr (.inl E.2.2.2.2.2.2.2.1))), (b8, .inl (D.2 1, 12, .inr (.inl E.2.2.2.2.2.2.2.2)))] s.heap.size = A at hD hB ⊢
  have hA : ∀ q : Nat, s.heap.size ≤ q → A q := fun q h => by rw [← hAe]; exact Or.inr h
  have hS : va_S A s.heap s.heap [] := va_S.rf
  have hZ : ∀ w ∈ zALL, w.before _ s = true := fun w h => hts w (List.mem_cons_of_mem _ h)
  have hF : CallFix p m c cL_told 5 s _ zALL "ShopLedgerLaw" := ⟨hx, hb, hml, hown, hZ⟩
  have hl := lv_entry ([.ref x0, .int p1, .int p2, .ref o0]) (n := 5) (Nat.le_of_ble_eq_true rfl)
  rw [lg_entry_eq]
  generalize (lg_sl ([.ref x0, .int p1, .int p2, .ref o0]) ++ List.replicate (5 - (lg_sl ([.ref x0, .int p1, .int p2, .ref o0])).length) Slot.unset).toArray = ls at hl ⊢
  have hl : lv_has ls 5 [(0, .ref x0), (1, .int p1), (2, .int p2), (3, .ref o0)] := hl
  refine lv_aload_n hx hb dL_told_0 rfl (lv_at hl 3 rfl) ?_
  refine lv_iconst (v := 0) hx hb dL_told_1 (by decide) ?_
  refine lv_aload_n hx hb dL_told_2 rfl (lv_at hl 0 rfl) ?_
  refine lv_iload_n hx hb dL_told_3 rfl (lv_at hl 1 rfl) ?_
  refine lv_iload_n hx hb dL_told_4 rfl (lv_at hl 2 rfl) ?_
  have J := zJ.mk (wc := [(x0, .inr (5, [.ref h0, .ref b0, .ref w0, .ref s0, .ref m0, .ref g0, .int (nI cl)])), (b0, .inr (0, [.ref b1, .ref b2, .ref b3, .ref b4, .ref b5, .int (nI E.1), .ref b6, .ref b7, .ref b8, .ref b9, .int (nI bt)])), (b1, .inl (D.2 0, 200, .inl E.2.1)), (b2, .inl (D.2 0, 200, .inl E.2.2.1)), (b3, .inl (D.2 0, 200, .inl E.2.2.2.1)), (b4, .inl (D.2 0, 200, .inl E.2.2.2.2.1)), (b5, .inl (D.2 0, 200, .inl E.2.2.2.2.2.1)), (b6, .inl (D.2 1, 8, .inr (.inl E.2.2.2.2.2.2.1))), (b7, .inl (D.2 1, 8, .inr (.inl E.2.2.2.2.2.2.2.1))), (b8, .inl (D.2 1, 12, .inr (.inl E.2.2.2.2.2.2.2.2)))]) (wr := [(o0, .inl (D.2 1, 1, .inr (.inl ou)))]) hA hB hK hP hD hS [1, 2, 3, 4, 5, 6, 7, 8, 9, 10] [0] rfl rfl (by decide)
  refine z_xgol (z_xrunV (As := [.int p1, .int p2]) (rest := [.int 0, .ref o0]) (b := x0) hF (c_told hl9 D x0 h0 w0 s0 m0 g0 cl b0 b1 b2 b3 b4 b5 b6 b7 b8 b9 E bt p1 p2 s.heap.size hE) (cwV 2 hZ (z_gV t_226 t_227 t_228 t_55 t_225) rfl rfl rfl (by decide +kernel) ⟨Nat.le_of_ble_eq_true rfl, Nat.le_of_ble_eq_true rfl⟩) J 0 5 rfl rfl rfl rfl hl.1 (Nat.le_of_ble_eq_true rfl) dL_told_5 ⟨Nat.le_of_ble_eq_true rfl, Nat.le_of_ble_eq_true rfl⟩) J (fun EX ce q9 H locs w1 hP hD hS hce hcv hcl => ?_) (fun r1 _ H locs w1 hP hD hS => ?_)
  · have hP : va_P D.1 vwCl [(o0, .inl (D.2 1, 1, .inr (.inl ou))), (x0, .inr (5, [.ref h0, .ref b0, .ref w0, .ref s0, .ref m0, .ref g0, .int (nI cl)])), (b0, .inr (0, [.ref b1, .ref b2, .ref b3, .ref b4, .ref b5, .int (nI E.1), .ref b6, .ref b7, .ref b8, .ref b9, .int (nI bt)])), (b1, .inl (D.2 0, 200, .inl E.2.1)), (b2, .inl (D.2 0, 200, .inl E.2.2.1)), (b3, .inl (D.2 0, 200, .inl E.2.2.2.1)), (b4, .inl (D.2 0, 200, .inl E.2.2.2.2.1)), (b5, .inl (D.2 0, 200, .inl E.2.2.2.2.2.1)), (b6, .inl (D.2 1, 8, .inr (.inl E.2.2.2.2.2.2.1))), (b7, .inl (D.2 1, 8, .inr (.inl E.2.2.2.2.2.2.2.1))), (b8, .inl (D.2 1, 12, .inr (.inl E.2.2.2.2.2.2.2.2)))] H := hP
    have hD : va_D A [(o0, .inl (D.2 1, 1, .inr (.inl ou))), (x0, .inr (5, [.ref h0, .ref b0, .ref w0, .ref s0, .ref m0, .ref g0, .int (nI cl)])), (b0, .inr (0, [.ref b1, .ref b2, .ref b3, .ref b4, .ref b5, .int (nI E.1), .ref b6, .ref b7, .ref b8, .ref b9, .int (nI bt)])), (b1, .inl (D.2 0, 200, .inl E.2.1)), (b2, .inl (D.2 0, 200, .inl E.2.2.1)), (b3, .inl (D.2 0, 200, .inl E.2.2.2.1)), (b4, .inl (D.2 0, 200, .inl E.2.2.2.2.1)), (b5, .inl (D.2 0, 200, .inl E.2.2.2.2.2.1)), (b6, .inl (D.2 1, 8, .inr (.inl E.2.2.2.2.2.2.1))), (b7, .inl (D.2 1, 8, .inr (.inl E.2.2.2.2.2.2.2.1))), (b8, .inl (D.2 1, 12, .inr (.inl E.2.2.2.2.2.2.2.2)))] := hD
    have wE := w1
    obtain rfl : EX = "java/lang/IndexOutOfBoundsException" := w1.1
    refine vx_catch (own := "ShopLedgerLaw") (name := "java/lang/IndexOutOfBoundsException") (E := "java/lang/IndexOutOfBoundsException") hown [] ⟨0, 9, 12, 13⟩ [] (by rw [hTab]; rfl) (fun z hz => nomatch hz) (by decide) (by decide) (hZ _ t_205) (va_Nw.use rfl (hB.2.2.2.1 ("java/lang/IndexOutOfBoundsException", "java/lang/IndexOutOfBoundsException") (by decide +kernel))) hce hcv hcl ?_
    refine lv_astore (lv' := [(4, .ref q9), (0, .ref x0), (1, .int p1), (2, .int p2), (3, .ref o0)]) hx hb dL_told_12 hl (by decide) rfl (fun ls hl => ?_)
    refine lv_iconst (v := 1) hx hb dL_told_14 (by decide) ?_
    exact z_iret (v := 1) hx hb hr hlocks hP hD hS none (Or.inr ⟨rfl, _, wE, by decide +kernel⟩) [0, 1, 2, 3, 4, 5, 6, 7, 8, 9, 10] rfl (by decide) (Nat.le_of_ble_eq_true rfl) (Nat.le_of_ble_eq_true rfl) dL_told_15
  have hP : va_P D.1 vwCl [(o0, .inl (D.2 1, 1, .inr (.inl ou))), (x0, .inr (5, [.ref h0, .ref b0, .ref w0, .ref s0, .ref m0, .ref g0, .int (nI cl)])), (b0, .inr (0, [.ref b1, .ref b2, .ref b3, .ref b4, .ref b5, .int (nI E.1), .ref b6, .ref b7, .ref b8, .ref b9, .int (nI bt)])), (b1, .inl (D.2 0, 200, .inl E.2.1)), (b2, .inl (D.2 0, 200, .inl E.2.2.1)), (b3, .inl (D.2 0, 200, .inl E.2.2.2.1)), (b4, .inl (D.2 0, 200, .inl E.2.2.2.2.1)), (b5, .inl (D.2 0, 200, .inl E.2.2.2.2.2.1)), (b6, .inl (D.2 1, 8, .inr (.inl E.2.2.2.2.2.2.1))), (b7, .inl (D.2 1, 8, .inr (.inl E.2.2.2.2.2.2.2.1))), (b8, .inl (D.2 1, 12, .inr (.inl E.2.2.2.2.2.2.2.2)))] H := hP
  have hD : va_D A [(o0, .inl (D.2 1, 1, .inr (.inl ou))), (x0, .inr (5, [.ref h0, .ref b0, .ref w0, .ref s0, .ref m0, .ref g0, .int (nI cl)])), (b0, .inr (0, [.ref b1, .ref b2, .ref b3, .ref b4, .ref b5, .int (nI E.1), .ref b6, .ref b7, .ref b8, .ref b9, .int (nI bt)])), (b1, .inl (D.2 0, 200, .inl E.2.1)), (b2, .inl (D.2 0, 200, .inl E.2.2.1)), (b3, .inl (D.2 0, 200, .inl E.2.2.2.1)), (b4, .inl (D.2 0, 200, .inl E.2.2.2.2.1)), (b5, .inl (D.2 0, 200, .inl E.2.2.2.2.2.1)), (b6, .inl (D.2 1, 8, .inr (.inl E.2.2.2.2.2.2.1))), (b7, .inl (D.2 1, 8, .inr (.inl E.2.2.2.2.2.2.2.1))), (b8, .inl (D.2 1, 12, .inr (.inl E.2.2.2.2.2.2.2.2)))] := hD
  refine z_last (k := 0) hx hb hK hP hD hS 0 rfl (by decide) (by decide) dL_told_8 (fun H locs hP hD hS => ?_)
  have hP : va_P D.1 vwCl [(o0, .inl (D.2 1, 1, .inr (.inl (vp_updL ou 0 r1)))), (x0, .inr (5, [.ref h0, .ref b0, .ref w0, .ref s0, .ref m0, .ref g0, .int (nI cl)])), (b0, .inr (0, [.ref b1, .ref b2, .ref b3, .ref b4, .ref b5, .int (nI E.1), .ref b6, .ref b7, .ref b8, .ref b9, .int (nI bt)])), (b1, .inl (D.2 0, 200, .inl E.2.1)), (b2, .inl (D.2 0, 200, .inl E.2.2.1)), (b3, .inl (D.2 0, 200, .inl E.2.2.2.1)), (b4, .inl (D.2 0, 200, .inl E.2.2.2.2.1)), (b5, .inl (D.2 0, 200, .inl E.2.2.2.2.2.1)), (b6, .inl (D.2 1, 8, .inr (.inl E.2.2.2.2.2.2.1))), (b7, .inl (D.2 1, 8, .inr (.inl E.2.2.2.2.2.2.2.1))), (b8, .inl (D.2 1, 12, .inr (.inl E.2.2.2.2.2.2.2.2)))] H := hP
  have hD : va_D A [(o0, .inl (D.2 1, 1, .inr (.inl (vp_updL ou 0 r1)))), (x0, .inr (5, [.ref h0, .ref b0, .ref w0, .ref s0, .ref m0, .ref g0, .int (nI cl)])), (b0, .inr (0, [.ref b1, .ref b2, .ref b3, .ref b4, .ref b5, .int (nI E.1), .ref b6, .ref b7, .ref b8, .ref b9, .int (nI bt)])), (b1, .inl (D.2 0, 200, .inl E.2.1)), (b2, .inl (D.2 0, 200, .inl E.2.2.1)), (b3, .inl (D.2 0, 200, .inl E.2.2.2.1)), (b4, .inl (D.2 0, 200, .inl E.2.2.2.2.1)), (b5, .inl (D.2 0, 200, .inl E.2.2.2.2.2.1)), (b6, .inl (D.2 1, 8, .inr (.inl E.2.2.2.2.2.2.1))), (b7, .inl (D.2 1, 8, .inr (.inl E.2.2.2.2.2.2.2.1))), (b8, .inl (D.2 1, 12, .inr (.inl E.2.2.2.2.2.2.2.2)))] := hD
  refine lv_goto (tgt := 16) hx hb dL_told_9 (by decide) ?_
  refine lv_iconst (v := 0) hx hb dL_told_16 (by decide) ?_
  exact z_iret (v := 0) hx hb hr hlocks hP hD hS (some r1) (Or.inl ⟨r1, rfl, rfl, w1⟩) [0, 1, 2, 3, 4, 5, 6, 7, 8, 9, 10] rfl (by decide) (Nat.le_of_ble_eq_true rfl) (Nat.le_of_ble_eq_true rfl) dL_told_17
set_option maxHeartbeats 4000000 in
set_option maxRecDepth 100000 in
/-- the law calls many -/
theorem w_many {l : Launch} (D : zD) (x0 w0 s0 m0 cl h0 h1 h2 h3 h4 n g0 g1 g2 pn : Nat) (b0 b1 b2 b3 b4 b5 b6 b7 b8 b9 : Nat) (E : zE) (bt : Nat) (p1 : Int32) (o0 : Nat) (ou : Nat → Int64) (sz : Nat) (hl9 : l.stackTraces = false)  : Met l yL_many wsL_many ({ frames := 7, cells := 1, slots := 6, locals := 111 }) (va_Pc [.ref x0, .int p1, .ref o0] (zp D sz [(o0, .inl (D.2 1, 1, .inr (.inl ou))), (x0, .inr (5, [.ref h0, .ref b0, .ref w0, .ref s0, .ref m0, .ref g0, .int (nI cl)])), (h0, .inr (1, [.ref h1, .ref h2, .ref h3, .ref h4, .int (nI n)])), (b0, .inr (0, [.ref b1, .ref b2, .ref b3, .ref b4, .ref b5, .int (nI E.1), .ref b6, .ref b7, .ref b8, .ref b9, .int (nI bt)])), (g0, .inr (3, [.ref g1, .ref g2, .int (nI pn)]))])) (va_Qi (fun r (u : Option Int64) => (∃ r9 : Int32, u = some r9.toInt64 ∧ r = 0 ∧ (fun r (_ : Unit) => (p1 = 0 ∧ r = nI E.1) ∨ (p1 = 1 ∧ r = nI bt) ∨ (p1 = 2 ∧ r = nI n) ∨ (p1 = 3 ∧ r = nI cl) ∨ (p1 = 4 ∧ r = nI pn)) r9 ()) ∨ (u = none ∧ ∃ E9, (fun E9 => E9 = "java/lang/IndexOutOfBoundsException" ∧ ¬ p1 = 0 ∧ ¬ p1 = 1 ∧ ¬ p1 = 2 ∧ ¬ p1 = 3 ∧ ¬ p1 = 4) E9 ∧ r = zcd ["java/lang/IndexOutOfBoundsException"] E9)) (zq D (va_A [(o0, .inl (D.2 1, 1, .inr (.inl ou))), (x0, .inr (5, [.ref h0, .ref b0, .ref w0, .ref s0, .ref m0, .ref g0, .int (nI cl)])), (h0, .inr (1, [.ref h1, .ref h2, .ref h3, .ref h4, .int (nI n)])), (b0, .inr (0, [.ref b1, .ref b2, .ref b3, .ref b4, .ref b5, .int (nI E.1), .ref b6, .ref b7, .ref b8, .ref b9, .int (nI bt)])), (g0, .inr (3, [.ref g1, .ref g2, .int (nI pn)]))] sz) (fun (u : Option Int64) => (u.elim [(o0, .inl (D.2 1, 1, .inr (.inl ou))), (x0, .inr (5, [.ref h0, .ref b0, .ref w0, .ref s0, .ref m0, .ref g0, .int (nI cl)])), (h0, .inr (1, [.ref h1, .ref h2, .ref h3, .ref h4, .int (nI n)])), (b0, .inr (0, [.ref b1, .ref b2, .ref b3, .ref b4, .ref b5, .int (nI E.1), .ref b6, .ref b7, .ref b8, .ref b9, .int (nI bt)])), (g0, .inr (3, [.ref g1, .ref g2, .int (nI pn)]))] (fun v => [(o0, .inl (D.2 1, 1, .inr (.inl (vp_updL ou 0 v)))), (x0, .inr (5, [.ref h0, .ref b0, .ref w0, .ref s0, .ref m0, .ref g0, .int (nI cl)])), (h0, .inr (1, [.ref h1, .ref h2, .ref h3, .ref h4, .int (nI n)])), (b0, .inr (0, [.ref b1, .ref b2, .ref b3, .ref b4, .ref b5, .int (nI E.1), .ref b6, .ref b7, .ref b8, .ref b9, .int (nI bt)])), (g0, .inr (3, [.ref g1, .ref g2, .int (nI pn)]))]) : va_W))) (va_A [(o0, .inl (D.2 1, 1, .inr (.inl ou))), (x0, .inr (5, [.ref h0, .ref b0, .ref w0, .ref s0, .ref m0, .ref g0, .int (nI cl)])), (h0, .inr (1, [.ref h1, .ref h2, .ref h3, .ref h4, .int (nI n)])), (b0, .inr (0, [.ref b1, .ref b2, .ref b3, .ref b4, .ref b5, .int (nI E.1), .ref b6, .ref b7, .ref b8, .ref b9, .int (nI bt)])), (g0, .inr (3, [.ref g1, .ref g2, .int (nI pn)]))] sz)) 1 6 (va_A [(o0, .inl (D.2 1, 1, .inr (.inl ou))), (x0, .inr (5, [.ref h0, .ref b0, .ref w0, .ref s0, .ref m0, .ref g0, .int (nI cl)])), (h0, .inr (1, [.ref h1, .ref h2, .ref h3, .ref h4, .int (nI n)])), (b0, .inr (0, [.ref b1, .ref b2, .ref b3, .ref b4, .ref b5, .int (nI E.1), .ref b6, .ref b7, .ref b8, .ref b9, .int (nI bt)])), (g0, .inr (3, [.ref g1, .ref g2, .int (nI pn)]))] sz) := by
  refine va_MetW (cc := cL_many) (maxL := 4) (ret := (some .int)) (hh := [(0, 9, 12, 13)]) (by decide) rfl ?_
  intro p e s m args below meth c s₁ B hml hv
  obtain ⟨rfl, hsz, hP, hK, hD0, hB⟩ := hv
  have hx := B.exec
  have hb := B.bytes
  have hr := B.returns
  have hts := atoms_spec (ws := wsL_many) B.pre
  have hown : s.vm.findClass "ShopLedgerLaw" = some m.cls := findClass_of_methodNamed B.named
  have hlocks := B.notSynchronized
  have hTab : c.exceptionTable.toList = tableOf [(0, 9, 12, 13)] := vx_table (x := yL_many) B (hts _ List.mem_cons_self)
  subst hsz
  have hD := hD0.self (sz := s.heap.size)
  generalize hAe : va_A [(o0, .inl (D.2 1, 1, .inr (.inl ou))), (x0, .inr (5, [.ref h0, .ref b0, .ref w0, .ref s0, .ref m0, .ref g0, .int (nI cl)])), (h0, .inr (1, [.ref h1, .ref h2, .ref h3, .ref h4, .int (nI n)])), (b0, .inr (0, [.ref b1, .ref b2, .ref b3, .ref b4, .ref b5, .int (nI E.1), .ref b6, .ref b7, .ref b8, .ref b9, .int (nI bt)])), (g0, .inr (3, [.ref g1, .ref g2, .int (nI pn)]))] s.heap.size = A at hD hB ⊢
  have hA : ∀ q : Nat, s.heap.size ≤ q → A q := fun q h => by rw [← hAe]; exact Or.inr h
  have hS : va_S A s.heap s.heap [] := va_S.rf
  have hZ : ∀ w ∈ zALL, w.before _ s = true := fun w h => hts w (List.mem_cons_of_mem _ h)
  have hF : CallFix p m c cL_many 4 s _ zALL "ShopLedgerLaw" := ⟨hx, hb, hml, hown, hZ⟩
  have hl := lv_entry ([.ref x0, .int p1, .ref o0]) (n := 4) (Nat.le_of_ble_eq_true rfl)
  rw [lg_entry_eq]
  generalize (lg_sl ([.ref x0, .int p1, .ref o0]) ++ List.replicate (4 - (lg_sl ([.ref x0, .int p1, .ref o0])).length) Slot.unset).toArray = ls at hl ⊢
  have hl : lv_has ls 4 [(0, .ref x0), (1, .int p1), (2, .ref o0)] := hl
  refine lv_aload_n hx hb dL_many_0 rfl (lv_at hl 2 rfl) ?_
  refine lv_iconst (v := 0) hx hb dL_many_1 (by decide) ?_
  refine lv_aload_n hx hb dL_many_2 rfl (lv_at hl 0 rfl) ?_
  refine lv_iload_n hx hb dL_many_3 rfl (lv_at hl 1 rfl) ?_
  have J := zJ.mk (wc := [(x0, .inr (5, [.ref h0, .ref b0, .ref w0, .ref s0, .ref m0, .ref g0, .int (nI cl)])), (h0, .inr (1, [.ref h1, .ref h2, .ref h3, .ref h4, .int (nI n)])), (b0, .inr (0, [.ref b1, .ref b2, .ref b3, .ref b4, .ref b5, .int (nI E.1), .ref b6, .ref b7, .ref b8, .ref b9, .int (nI bt)])), (g0, .inr (3, [.ref g1, .ref g2, .int (nI pn)]))]) (wr := [(o0, .inl (D.2 1, 1, .inr (.inl ou)))]) hA hB hK hP hD hS [1, 2, 3, 4] [0] rfl rfl (by decide)
  refine z_xgoi (z_xrunV (As := [.int p1]) (rest := [.int 0, .ref o0]) (b := x0) hF (c_many hl9 D x0 w0 s0 m0 cl h0 h1 h2 h3 h4 n g0 g1 g2 pn b0 b1 b2 b3 b4 b5 b6 b7 b8 b9 E bt p1 s.heap.size ) (cwV 1 hZ (z_gV t_230 t_231 t_232 t_55 t_229) rfl rfl rfl (by decide +kernel) ⟨Nat.le_of_ble_eq_true rfl, Nat.le_of_ble_eq_true rfl⟩) J 0 5 rfl rfl rfl rfl hl.1 (Nat.le_of_ble_eq_true rfl) dL_many_4 ⟨Nat.le_of_ble_eq_true rfl, Nat.le_of_ble_eq_true rfl⟩) J (fun EX ce q9 H locs w1 hP hD hS hce hcv hcl => ?_) (fun r1 _ H locs w1 hP hD hS => ?_)
  · have hP : va_P D.1 vwCl [(o0, .inl (D.2 1, 1, .inr (.inl ou))), (x0, .inr (5, [.ref h0, .ref b0, .ref w0, .ref s0, .ref m0, .ref g0, .int (nI cl)])), (h0, .inr (1, [.ref h1, .ref h2, .ref h3, .ref h4, .int (nI n)])), (b0, .inr (0, [.ref b1, .ref b2, .ref b3, .ref b4, .ref b5, .int (nI E.1), .ref b6, .ref b7, .ref b8, .ref b9, .int (nI bt)])), (g0, .inr (3, [.ref g1, .ref g2, .int (nI pn)]))] H := hP
    have hD : va_D A [(o0, .inl (D.2 1, 1, .inr (.inl ou))), (x0, .inr (5, [.ref h0, .ref b0, .ref w0, .ref s0, .ref m0, .ref g0, .int (nI cl)])), (h0, .inr (1, [.ref h1, .ref h2, .ref h3, .ref h4, .int (nI n)])), (b0, .inr (0, [.ref b1, .ref b2, .ref b3, .ref b4, .ref b5, .int (nI E.1), .ref b6, .ref b7, .ref b8, .ref b9, .int (nI bt)])), (g0, .inr (3, [.ref g1, .ref g2, .int (nI pn)]))] := hD
    have wE := w1
    obtain rfl : EX = "java/lang/IndexOutOfBoundsException" := w1.1
    refine vx_catch (own := "ShopLedgerLaw") (name := "java/lang/IndexOutOfBoundsException") (E := "java/lang/IndexOutOfBoundsException") hown [] ⟨0, 9, 12, 13⟩ [] (by rw [hTab]; rfl) (fun z hz => nomatch hz) (by decide) (by decide) (hZ _ t_205) (va_Nw.use rfl (hB.2.2.2.1 ("java/lang/IndexOutOfBoundsException", "java/lang/IndexOutOfBoundsException") (by decide +kernel))) hce hcv hcl ?_
    refine lv_astore_n (lv' := [(3, .ref q9), (0, .ref x0), (1, .int p1), (2, .ref o0)]) hx hb dL_many_12 rfl hl (by decide) rfl (fun ls hl => ?_)
    refine lv_iconst (v := 1) hx hb dL_many_13 (by decide) ?_
    exact z_iret (v := 1) hx hb hr hlocks hP hD hS none (Or.inr ⟨rfl, _, wE, by decide +kernel⟩) [0, 1, 2, 3, 4] rfl (by decide) (Nat.le_of_ble_eq_true rfl) (Nat.le_of_ble_eq_true rfl) dL_many_14
  have hP : va_P D.1 vwCl [(o0, .inl (D.2 1, 1, .inr (.inl ou))), (x0, .inr (5, [.ref h0, .ref b0, .ref w0, .ref s0, .ref m0, .ref g0, .int (nI cl)])), (h0, .inr (1, [.ref h1, .ref h2, .ref h3, .ref h4, .int (nI n)])), (b0, .inr (0, [.ref b1, .ref b2, .ref b3, .ref b4, .ref b5, .int (nI E.1), .ref b6, .ref b7, .ref b8, .ref b9, .int (nI bt)])), (g0, .inr (3, [.ref g1, .ref g2, .int (nI pn)]))] H := hP
  have hD : va_D A [(o0, .inl (D.2 1, 1, .inr (.inl ou))), (x0, .inr (5, [.ref h0, .ref b0, .ref w0, .ref s0, .ref m0, .ref g0, .int (nI cl)])), (h0, .inr (1, [.ref h1, .ref h2, .ref h3, .ref h4, .int (nI n)])), (b0, .inr (0, [.ref b1, .ref b2, .ref b3, .ref b4, .ref b5, .int (nI E.1), .ref b6, .ref b7, .ref b8, .ref b9, .int (nI bt)])), (g0, .inr (3, [.ref g1, .ref g2, .int (nI pn)]))] := hD
  refine lv_i2l (v := r1.toInt64) hx hb dL_many_7 rfl ?_
  refine z_last (k := 0) hx hb hK hP hD hS 0 rfl (by decide) (by decide) dL_many_8 (fun H locs hP hD hS => ?_)
  have hP : va_P D.1 vwCl [(o0, .inl (D.2 1, 1, .inr (.inl (vp_updL ou 0 r1.toInt64)))), (x0, .inr (5, [.ref h0, .ref b0, .ref w0, .ref s0, .ref m0, .ref g0, .int (nI cl)])), (h0, .inr (1, [.ref h1, .ref h2, .ref h3, .ref h4, .int (nI n)])), (b0, .inr (0, [.ref b1, .ref b2, .ref b3, .ref b4, .ref b5, .int (nI E.1), .ref b6, .ref b7, .ref b8, .ref b9, .int (nI bt)])), (g0, .inr (3, [.ref g1, .ref g2, .int (nI pn)]))] H := hP
  have hD : va_D A [(o0, .inl (D.2 1, 1, .inr (.inl (vp_updL ou 0 r1.toInt64)))), (x0, .inr (5, [.ref h0, .ref b0, .ref w0, .ref s0, .ref m0, .ref g0, .int (nI cl)])), (h0, .inr (1, [.ref h1, .ref h2, .ref h3, .ref h4, .int (nI n)])), (b0, .inr (0, [.ref b1, .ref b2, .ref b3, .ref b4, .ref b5, .int (nI E.1), .ref b6, .ref b7, .ref b8, .ref b9, .int (nI bt)])), (g0, .inr (3, [.ref g1, .ref g2, .int (nI pn)]))] := hD
  refine lv_goto (tgt := 15) hx hb dL_many_9 (by decide) ?_
  refine lv_iconst (v := 0) hx hb dL_many_15 (by decide) ?_
  exact z_iret (v := 0) hx hb hr hlocks hP hD hS (some r1.toInt64) (Or.inl ⟨r1, rfl, rfl, w1⟩) [0, 1, 2, 3, 4] rfl (by decide) (Nat.le_of_ble_eq_true rfl) (Nat.le_of_ble_eq_true rfl) dL_many_16
set_option maxHeartbeats 4000000 in
set_option maxRecDepth 100000 in
/-- the law calls weight -/
theorem w_weight {l : Launch} (D : zD) (x0 h0 b0 w0 s0 m0 g0 cl : Nat) (fw : Nat → Int32) (p1 p2 : Int32)  (sz : Nat) (hl9 : l.stackTraces = false)  : Met l yL_weight wsL_weight ({ frames := 8, cells := 2, slots := 12, locals := 134 }) (va_Pc [.ref x0, .int p1, .int p2] (zp D sz [(x0, .inr (5, [.ref h0, .ref b0, .ref w0, .ref s0, .ref m0, .ref g0, .int (nI cl)])), (w0, .inl (D.2 0, 8, .inl fw))])) (va_Qi (fun r (u : Option Int64) => (u = some 0 ∧ r = 0 ∧ (fun (_ : Unit) => (zin p1 8) ∧ (¬ p2 < 0 ∧ p2 ≤ 1000000)) ()) ∨ (u = none ∧ ∃ E9, (fun E => (E = "java/lang/IndexOutOfBoundsException" ∧ ¬ (zin p1 8)) ∨ (E = "java/lang/IllegalArgumentException" ∧ (zin p1 8) ∧ ¬ (¬ p2 < 0 ∧ p2 ≤ 1000000))) E9 ∧ r = zcd ["java/lang/IndexOutOfBoundsException", "java/lang/IllegalArgumentException"] E9)) (zq D (va_A [(x0, .inr (5, [.ref h0, .ref b0, .ref w0, .ref s0, .ref m0, .ref g0, .int (nI cl)])), (w0, .inl (D.2 0, 8, .inl fw))] sz) (fun (u : Option Int64) => (u.elim [(x0, .inr (5, [.ref h0, .ref b0, .ref w0, .ref s0, .ref m0, .ref g0, .int (nI cl)])), (w0, .inl (D.2 0, 8, .inl fw))] (fun v => [(x0, .inr (5, [.ref h0, .ref b0, .ref w0, .ref s0, .ref m0, .ref g0, .int (nI cl)])), (w0, .inl (D.2 0, 8, .inl (upd fw p1.toNatClampNeg p2)))]) : va_W))) (va_A [(x0, .inr (5, [.ref h0, .ref b0, .ref w0, .ref s0, .ref m0, .ref g0, .int (nI cl)])), (w0, .inl (D.2 0, 8, .inl fw))] sz)) 2 12 (va_A [(x0, .inr (5, [.ref h0, .ref b0, .ref w0, .ref s0, .ref m0, .ref g0, .int (nI cl)])), (w0, .inl (D.2 0, 8, .inl fw))] sz) := by
  refine va_MetW (cc := cL_weight) (maxL := 4) (ret := (some .int)) (hh := [(0, 6, 9, 13), (0, 6, 12, 17)]) (by decide) rfl ?_
  intro p e s m args below meth c s₁ B hml hv
  obtain ⟨rfl, hsz, hP, hK, hD0, hB⟩ := hv
  have hx := B.exec
  have hb := B.bytes
  have hr := B.returns
  have hts := atoms_spec (ws := wsL_weight) B.pre
  have hown : s.vm.findClass "ShopLedgerLaw" = some m.cls := findClass_of_methodNamed B.named
  have hlocks := B.notSynchronized
  have hTab : c.exceptionTable.toList = tableOf [(0, 6, 9, 13), (0, 6, 12, 17)] := vx_table (x := yL_weight) B (hts _ List.mem_cons_self)
  subst hsz
  have hD := hD0.self (sz := s.heap.size)
  generalize hAe : va_A [(x0, .inr (5, [.ref h0, .ref b0, .ref w0, .ref s0, .ref m0, .ref g0, .int (nI cl)])), (w0, .inl (D.2 0, 8, .inl fw))] s.heap.size = A at hD hB ⊢
  have hA : ∀ q : Nat, s.heap.size ≤ q → A q := fun q h => by rw [← hAe]; exact Or.inr h
  have hS : va_S A s.heap s.heap [] := va_S.rf
  have hZ : ∀ w ∈ zALL, w.before _ s = true := fun w h => hts w (List.mem_cons_of_mem _ h)
  have hF : CallFix p m c cL_weight 4 s _ zALL "ShopLedgerLaw" := ⟨hx, hb, hml, hown, hZ⟩
  have hl := lv_entry ([.ref x0, .int p1, .int p2]) (n := 4) (Nat.le_of_ble_eq_true rfl)
  rw [lg_entry_eq]
  generalize (lg_sl ([.ref x0, .int p1, .int p2]) ++ List.replicate (4 - (lg_sl ([.ref x0, .int p1, .int p2])).length) Slot.unset).toArray = ls at hl ⊢
  have hl : lv_has ls 4 [(0, .ref x0), (1, .int p1), (2, .int p2)] := hl
  refine lv_aload_n hx hb dL_weight_0 rfl (lv_at hl 0 rfl) ?_
  refine lv_iload_n hx hb dL_weight_1 rfl (lv_at hl 1 rfl) ?_
  refine lv_iload_n hx hb dL_weight_2 rfl (lv_at hl 2 rfl) ?_
  have J := zJ.mk (wc := [(x0, .inr (5, [.ref h0, .ref b0, .ref w0, .ref s0, .ref m0, .ref g0, .int (nI cl)])), (w0, .inl (D.2 0, 8, .inl fw))]) (wr := []) hA hB hK hP hD hS [0, 1] [] rfl rfl (by decide)
  refine z_xgov (z_xrunV (As := [.int p1, .int p2]) (rest := []) (b := x0) hF (c_weight hl9 D x0 h0 b0 w0 s0 m0 g0 cl fw p1 p2 s.heap.size ) (cwV 2 hZ (z_gV t_234 t_235 t_236 t_55 t_233) rfl rfl rfl (by decide +kernel) ⟨Nat.le_of_ble_eq_true rfl, Nat.le_of_ble_eq_true rfl⟩) J 0 5 rfl rfl rfl rfl hl.1 (Nat.le_of_ble_eq_true rfl) dL_weight_3 ⟨Nat.le_of_ble_eq_true rfl, Nat.le_of_ble_eq_true rfl⟩) J (fun EX ce q9 H locs w1 hP hD hS hce hcv hcl => ?_) (fun _ H locs w1 hP hD hS => ?_)
  · have hP : va_P D.1 vwCl [(x0, .inr (5, [.ref h0, .ref b0, .ref w0, .ref s0, .ref m0, .ref g0, .int (nI cl)])), (w0, .inl (D.2 0, 8, .inl fw))] H := hP
    have hD : va_D A [(x0, .inr (5, [.ref h0, .ref b0, .ref w0, .ref s0, .ref m0, .ref g0, .int (nI cl)])), (w0, .inl (D.2 0, 8, .inl fw))] := hD
    have wE := w1
    rcases w1 with ⟨rfl, -⟩ | ⟨rfl, -⟩
    · skip
      refine vx_catch (own := "ShopLedgerLaw") (name := "java/lang/IndexOutOfBoundsException") (E := "java/lang/IndexOutOfBoundsException") hown [] ⟨0, 6, 9, 13⟩ [⟨0, 6, 12, 17⟩] (by rw [hTab]; rfl) (fun z hz => nomatch hz) (by decide) (by decide) (hZ _ t_205) (va_Nw.use rfl (hB.2.2.2.1 ("java/lang/IndexOutOfBoundsException", "java/lang/IndexOutOfBoundsException") (by decide +kernel))) hce hcv hcl ?_
      refine lv_astore_n (lv' := [(3, .ref q9), (0, .ref x0), (1, .int p1), (2, .int p2)]) hx hb dL_weight_9 rfl hl (by decide) rfl (fun ls hl => ?_)
      refine lv_iconst (v := 1) hx hb dL_weight_10 (by decide) ?_
      exact z_iret (v := 1) hx hb hr hlocks hP hD hS none (Or.inr ⟨rfl, _, wE, by decide +kernel⟩) [0, 1] rfl (by decide) (Nat.le_of_ble_eq_true rfl) (Nat.le_of_ble_eq_true rfl) dL_weight_11
    · skip
      refine vx_catch (own := "ShopLedgerLaw") (name := "java/lang/IllegalArgumentException") (E := "java/lang/IllegalArgumentException") hown [⟨0, 6, 9, 13⟩] ⟨0, 6, 12, 17⟩ [] (by rw [hTab]; rfl) (by
          intro z hz
          rcases List.mem_cons.mp hz with rfl | hz
          · exact Or.inr ⟨by decide, "java/lang/IndexOutOfBoundsException", (hZ _ t_205), hB.2.2.2.2.2.2.1 ("java/lang/IllegalArgumentException", "java/lang/IndexOutOfBoundsException") (by decide +kernel)⟩
          cases hz) (by decide) (by decide) (hZ _ t_207) (va_Nw.use rfl (hB.2.2.2.1 ("java/lang/IllegalArgumentException", "java/lang/IllegalArgumentException") (by decide +kernel))) hce hcv hcl ?_
      refine lv_astore_n (lv' := [(3, .ref q9), (0, .ref x0), (1, .int p1), (2, .int p2)]) hx hb dL_weight_12 rfl hl (by decide) rfl (fun ls hl => ?_)
      refine lv_iconst (v := 2) hx hb dL_weight_13 (by decide) ?_
      exact z_iret (v := 2) hx hb hr hlocks hP hD hS none (Or.inr ⟨rfl, _, wE, by decide +kernel⟩) [0, 1] rfl (by decide) (Nat.le_of_ble_eq_true rfl) (Nat.le_of_ble_eq_true rfl) dL_weight_14
  have hP : va_P D.1 vwCl [(x0, .inr (5, [.ref h0, .ref b0, .ref w0, .ref s0, .ref m0, .ref g0, .int (nI cl)])), (w0, .inl (D.2 0, 8, .inl (upd fw p1.toNatClampNeg p2)))] H := hP
  have hD : va_D A [(x0, .inr (5, [.ref h0, .ref b0, .ref w0, .ref s0, .ref m0, .ref g0, .int (nI cl)])), (w0, .inl (D.2 0, 8, .inl (upd fw p1.toNatClampNeg p2)))] := hD
  refine lv_goto (tgt := 15) hx hb dL_weight_6 (by decide) ?_
  refine lv_iconst (v := 0) hx hb dL_weight_15 (by decide) ?_
  exact z_iret (v := 0) hx hb hr hlocks hP hD hS (some 0) (Or.inl ⟨rfl, rfl, w1⟩) [0, 1] rfl (by decide) (Nat.le_of_ble_eq_true rfl) (Nat.le_of_ble_eq_true rfl) dL_weight_16
set_option maxHeartbeats 4000000 in
set_option maxRecDepth 100000 in
/-- the law calls share -/
theorem w_share {l : Launch} (D : zD) (x0 h0 b0 w0 s0 m0 g0 cl : Nat) (fw : Nat → Int32) (j : Nat) (p2 : Int32) (o0 : Nat) (ou : Nat → Int64) (sz : Nat) (hl9 : l.stackTraces = false) (hj : j < 8) : Met l yL_share wsL_share ({ frames := 8, cells := 3, slots := 18, locals := 139 }) (va_Pc [.ref x0, .int (nI j), .int p2, .ref o0] (zp D sz [(o0, .inl (D.2 1, 1, .inr (.inl ou))), (x0, .inr (5, [.ref h0, .ref b0, .ref w0, .ref s0, .ref m0, .ref g0, .int (nI cl)])), (w0, .inl (D.2 0, 8, .inl fw))])) (va_Qi (fun r (u : Option Int64) => (∃ r9 : Int64, u = some r9 ∧ r = 0 ∧ (fun r (_ : Unit) => (¬ p2 < 0 ∧ p2 ≤ 1000000000) ∧ (¬ zs_lsum fw 8 = 0) ∧ r = zs_part p2.toInt64 (zs_lsum fw j) (fw j).toInt64 (zs_lsum fw 8)) r9 ()) ∨ (u = none ∧ ∃ E9, (fun E => (E = "java/lang/IllegalArgumentException" ∧ ¬ (¬ p2 < 0 ∧ p2 ≤ 1000000000)) ∨ (E = "java/lang/UnsupportedOperationException" ∧ (¬ p2 < 0 ∧ p2 ≤ 1000000000) ∧ ¬ (¬ zs_lsum fw 8 = 0))) E9 ∧ r = zcd ["java/lang/IndexOutOfBoundsException", "java/lang/IllegalArgumentException", "java/lang/UnsupportedOperationException"] E9)) (zq D (va_A [(o0, .inl (D.2 1, 1, .inr (.inl ou))), (x0, .inr (5, [.ref h0, .ref b0, .ref w0, .ref s0, .ref m0, .ref g0, .int (nI cl)])), (w0, .inl (D.2 0, 8, .inl fw))] sz) (fun (u : Option Int64) => (u.elim [(o0, .inl (D.2 1, 1, .inr (.inl ou))), (x0, .inr (5, [.ref h0, .ref b0, .ref w0, .ref s0, .ref m0, .ref g0, .int (nI cl)])), (w0, .inl (D.2 0, 8, .inl fw))] (fun v => [(o0, .inl (D.2 1, 1, .inr (.inl (vp_updL ou 0 v)))), (x0, .inr (5, [.ref h0, .ref b0, .ref w0, .ref s0, .ref m0, .ref g0, .int (nI cl)])), (w0, .inl (D.2 0, 8, .inl fw))]) : va_W))) (va_A [(o0, .inl (D.2 1, 1, .inr (.inl ou))), (x0, .inr (5, [.ref h0, .ref b0, .ref w0, .ref s0, .ref m0, .ref g0, .int (nI cl)])), (w0, .inl (D.2 0, 8, .inl fw))] sz)) 3 18 (va_A [(o0, .inl (D.2 1, 1, .inr (.inl ou))), (x0, .inr (5, [.ref h0, .ref b0, .ref w0, .ref s0, .ref m0, .ref g0, .int (nI cl)])), (w0, .inl (D.2 0, 8, .inl fw))] sz) := by
  refine va_MetW (cc := cL_share) (maxL := 5) (ret := (some .int)) (hh := [(0, 9, 12, 13), (0, 9, 16, 17), (0, 9, 20, 23)]) (by decide) rfl ?_
  intro p e s m args below meth c s₁ B hml hv
  obtain ⟨rfl, hsz, hP, hK, hD0, hB⟩ := hv
  have hx := B.exec
  have hb := B.bytes
  have hr := B.returns
  have hts := atoms_spec (ws := wsL_share) B.pre
  have hown : s.vm.findClass "ShopLedgerLaw" = some m.cls := findClass_of_methodNamed B.named
  have hlocks := B.notSynchronized
  have hTab : c.exceptionTable.toList = tableOf [(0, 9, 12, 13), (0, 9, 16, 17), (0, 9, 20, 23)] := vx_table (x := yL_share) B (hts _ List.mem_cons_self)
  subst hsz
  have hD := hD0.self (sz := s.heap.size)
  generalize hAe : va_A [(o0, .inl (D.2 1, 1, .inr (.inl ou))), (x0, .inr (5, [.ref h0, .ref b0, .ref w0, .ref s0, .ref m0, .ref g0, .int (nI cl)])), (w0, .inl (D.2 0, 8, .inl fw))] s.heap.size = A at hD hB ⊢
  have hA : ∀ q : Nat, s.heap.size ≤ q → A q := fun q h => by rw [← hAe]; exact Or.inr h
  have hS : va_S A s.heap s.heap [] := va_S.rf
  have hZ : ∀ w ∈ zALL, w.before _ s = true := fun w h => hts w (List.mem_cons_of_mem _ h)
  have hF : CallFix p m c cL_share 5 s _ zALL "ShopLedgerLaw" := ⟨hx, hb, hml, hown, hZ⟩
  have hl := lv_entry ([.ref x0, .int (nI j), .int p2, .ref o0]) (n := 5) (Nat.le_of_ble_eq_true rfl)
  rw [lg_entry_eq]
  generalize (lg_sl ([.ref x0, .int (nI j), .int p2, .ref o0]) ++ List.replicate (5 - (lg_sl ([.ref x0, .int (nI j), .int p2, .ref o0])).length) Slot.unset).toArray = ls at hl ⊢
  have hl : lv_has ls 5 [(0, .ref x0), (1, .int (nI j)), (2, .int p2), (3, .ref o0)] := hl
  refine lv_aload_n hx hb dL_share_0 rfl (lv_at hl 3 rfl) ?_
  refine lv_iconst (v := 0) hx hb dL_share_1 (by decide) ?_
  refine lv_aload_n hx hb dL_share_2 rfl (lv_at hl 0 rfl) ?_
  refine lv_iload_n hx hb dL_share_3 rfl (lv_at hl 1 rfl) ?_
  refine lv_iload_n hx hb dL_share_4 rfl (lv_at hl 2 rfl) ?_
  have J := zJ.mk (wc := [(x0, .inr (5, [.ref h0, .ref b0, .ref w0, .ref s0, .ref m0, .ref g0, .int (nI cl)])), (w0, .inl (D.2 0, 8, .inl fw))]) (wr := [(o0, .inl (D.2 1, 1, .inr (.inl ou)))]) hA hB hK hP hD hS [1, 2] [0] rfl rfl (by decide)
  refine z_xgol (z_xrunV (As := [.int (nI j), .int p2]) (rest := [.int 0, .ref o0]) (b := x0) hF (c_share hl9 D x0 h0 b0 w0 s0 m0 g0 cl fw j p2 s.heap.size hj) (cwV 2 hZ (z_gV t_238 t_239 t_240 t_55 t_237) rfl rfl rfl (by decide +kernel) ⟨Nat.le_of_ble_eq_true rfl, Nat.le_of_ble_eq_true rfl⟩) J 0 5 rfl rfl rfl rfl hl.1 (Nat.le_of_ble_eq_true rfl) dL_share_5 ⟨Nat.le_of_ble_eq_true rfl, Nat.le_of_ble_eq_true rfl⟩) J (fun EX ce q9 H locs w1 hP hD hS hce hcv hcl => ?_) (fun r1 _ H locs w1 hP hD hS => ?_)
  · have hP : va_P D.1 vwCl [(o0, .inl (D.2 1, 1, .inr (.inl ou))), (x0, .inr (5, [.ref h0, .ref b0, .ref w0, .ref s0, .ref m0, .ref g0, .int (nI cl)])), (w0, .inl (D.2 0, 8, .inl fw))] H := hP
    have hD : va_D A [(o0, .inl (D.2 1, 1, .inr (.inl ou))), (x0, .inr (5, [.ref h0, .ref b0, .ref w0, .ref s0, .ref m0, .ref g0, .int (nI cl)])), (w0, .inl (D.2 0, 8, .inl fw))] := hD
    have wE := w1
    rcases w1 with ⟨rfl, -⟩ | ⟨rfl, -⟩
    · skip
      refine vx_catch (own := "ShopLedgerLaw") (name := "java/lang/IllegalArgumentException") (E := "java/lang/IllegalArgumentException") hown [⟨0, 9, 12, 13⟩] ⟨0, 9, 16, 17⟩ [⟨0, 9, 20, 23⟩] (by rw [hTab]; rfl) (by
          intro z hz
          rcases List.mem_cons.mp hz with rfl | hz
          · exact Or.inr ⟨by decide, "java/lang/IndexOutOfBoundsException", (hZ _ t_205), hB.2.2.2.2.2.2.1 ("java/lang/IllegalArgumentException", "java/lang/IndexOutOfBoundsException") (by decide +kernel)⟩
          cases hz) (by decide) (by decide) (hZ _ t_207) (va_Nw.use rfl (hB.2.2.2.1 ("java/lang/IllegalArgumentException", "java/lang/IllegalArgumentException") (by decide +kernel))) hce hcv hcl ?_
      refine lv_astore (lv' := [(4, .ref q9), (0, .ref x0), (1, .int (nI j)), (2, .int p2), (3, .ref o0)]) hx hb dL_share_16 hl (by decide) rfl (fun ls hl => ?_)
      refine lv_iconst (v := 2) hx hb dL_share_18 (by decide) ?_
      exact z_iret (v := 2) hx hb hr hlocks hP hD hS none (Or.inr ⟨rfl, _, wE, by decide +kernel⟩) [0, 1, 2] rfl (by decide) (Nat.le_of_ble_eq_true rfl) (Nat.le_of_ble_eq_true rfl) dL_share_19
    · skip
      refine vx_catch (own := "ShopLedgerLaw") (name := "java/lang/UnsupportedOperationException") (E := "java/lang/UnsupportedOperationException") hown [⟨0, 9, 12, 13⟩, ⟨0, 9, 16, 17⟩] ⟨0, 9, 20, 23⟩ [] (by rw [hTab]; rfl) (by
          intro z hz
          rcases List.mem_cons.mp hz with rfl | hz
          · exact Or.inr ⟨by decide, "java/lang/IndexOutOfBoundsException", (hZ _ t_205), hB.2.2.2.2.2.2.1 ("java/lang/UnsupportedOperationException", "java/lang/IndexOutOfBoundsException") (by decide +kernel)⟩
          rcases List.mem_cons.mp hz with rfl | hz
          · exact Or.inr ⟨by decide, "java/lang/IllegalArgumentException", (hZ _ t_207), hB.2.2.2.2.2.2.1 ("java/lang/UnsupportedOperationException", "java/lang/IllegalArgumentException") (by decide +kernel)⟩
          cases hz) (by decide) (by decide) (hZ _ t_212) (va_Nw.use rfl (hB.2.2.2.1 ("java/lang/UnsupportedOperationException", "java/lang/UnsupportedOperationException") (by decide +kernel))) hce hcv hcl ?_
      refine lv_astore (lv' := [(4, .ref q9), (0, .ref x0), (1, .int (nI j)), (2, .int p2), (3, .ref o0)]) hx hb dL_share_20 hl (by decide) rfl (fun ls hl => ?_)
      refine lv_iconst (v := 3) hx hb dL_share_22 (by decide) ?_
      exact z_iret (v := 3) hx hb hr hlocks hP hD hS none (Or.inr ⟨rfl, _, wE, by decide +kernel⟩) [0, 1, 2] rfl (by decide) (Nat.le_of_ble_eq_true rfl) (Nat.le_of_ble_eq_true rfl) dL_share_23
  have hP : va_P D.1 vwCl [(o0, .inl (D.2 1, 1, .inr (.inl ou))), (x0, .inr (5, [.ref h0, .ref b0, .ref w0, .ref s0, .ref m0, .ref g0, .int (nI cl)])), (w0, .inl (D.2 0, 8, .inl fw))] H := hP
  have hD : va_D A [(o0, .inl (D.2 1, 1, .inr (.inl ou))), (x0, .inr (5, [.ref h0, .ref b0, .ref w0, .ref s0, .ref m0, .ref g0, .int (nI cl)])), (w0, .inl (D.2 0, 8, .inl fw))] := hD
  refine z_last (k := 0) hx hb hK hP hD hS 0 rfl (by decide) (by decide) dL_share_8 (fun H locs hP hD hS => ?_)
  have hP : va_P D.1 vwCl [(o0, .inl (D.2 1, 1, .inr (.inl (vp_updL ou 0 r1)))), (x0, .inr (5, [.ref h0, .ref b0, .ref w0, .ref s0, .ref m0, .ref g0, .int (nI cl)])), (w0, .inl (D.2 0, 8, .inl fw))] H := hP
  have hD : va_D A [(o0, .inl (D.2 1, 1, .inr (.inl (vp_updL ou 0 r1)))), (x0, .inr (5, [.ref h0, .ref b0, .ref w0, .ref s0, .ref m0, .ref g0, .int (nI cl)])), (w0, .inl (D.2 0, 8, .inl fw))] := hD
  refine lv_goto (tgt := 24) hx hb dL_share_9 (by decide) ?_
  refine lv_iconst (v := 0) hx hb dL_share_24 (by decide) ?_
  exact z_iret (v := 0) hx hb hr hlocks hP hD hS (some r1) (Or.inl ⟨r1, rfl, rfl, w1⟩) [0, 1, 2] rfl (by decide) (Nat.le_of_ble_eq_true rfl) (Nat.le_of_ble_eq_true rfl) dL_share_25
set_option maxHeartbeats 4000000 in
set_option maxRecDepth 100000 in
/-- the law calls stock -/
theorem w_stock {l : Launch} (D : zD) (x0 h0 b0 w0 m0 g0 cl : Nat) (s0 t0 t1 t2 n : Nat) (fs : Nat → Option Nat) (fp fc : Nat → Int32) (j : Nat) (p2 p3 : Int32) (o0 : Nat) (ou : Nat → Int64) (sz : Nat) (hl9 : l.stackTraces = false) (hj : j < 4) (hf : fs j = some t0) (hn : n ≤ 12) : Met l yL_stock wsL_stock ({ frames := 8, cells := 4, slots := 24, locals := 135 }) (va_Pc [.ref x0, .int (nI j), .int p2, .int p3, .ref o0] (zp D sz [(o0, .inl (D.2 1, 1, .inr (.inl ou))), (x0, .inr (5, [.ref h0, .ref b0, .ref w0, .ref s0, .ref m0, .ref g0, .int (nI cl)])), (s0, .inl (D.2 3, 4, .inr (.inr (.inr (.inr fs))))), (t0, .inr (4, [.ref t1, .ref t2, .int (nI n)])), (t1, .inl (D.2 0, 12, .inl fp)), (t2, .inl (D.2 0, 12, .inl fc))])) (va_Qi (fun r (u : Option Int64) => (∃ r9 : Int32, u = some r9.toInt64 ∧ r = 0 ∧ (fun r (_ : Unit) => (¬ 12 ≤ nI n) ∧ (¬ p2 < 1 ∧ p2 ≤ 1000000 ∧ ¬ p3 < 0 ∧ p3 ≤ 1000000) ∧ r = nI (n + 1)) r9 ()) ∨ (u = none ∧ ∃ E9, (fun E => (E = "java/lang/IllegalStateException" ∧ ¬ (¬ 12 ≤ nI n)) ∨ (E = "java/lang/IllegalArgumentException" ∧ (¬ 12 ≤ nI n) ∧ ¬ (¬ p2 < 1 ∧ p2 ≤ 1000000 ∧ ¬ p3 < 0 ∧ p3 ≤ 1000000))) E9 ∧ r = zcd ["java/lang/IndexOutOfBoundsException", "java/lang/IllegalStateException", "java/lang/IllegalArgumentException"] E9)) (zq D (va_A [(o0, .inl (D.2 1, 1, .inr (.inl ou))), (x0, .inr (5, [.ref h0, .ref b0, .ref w0, .ref s0, .ref m0, .ref g0, .int (nI cl)])), (s0, .inl (D.2 3, 4, .inr (.inr (.inr (.inr fs))))), (t0, .inr (4, [.ref t1, .ref t2, .int (nI n)])), (t1, .inl (D.2 0, 12, .inl fp)), (t2, .inl (D.2 0, 12, .inl fc))] sz) (fun (u : Option Int64) => (u.elim [(o0, .inl (D.2 1, 1, .inr (.inl ou))), (x0, .inr (5, [.ref h0, .ref b0, .ref w0, .ref s0, .ref m0, .ref g0, .int (nI cl)])), (s0, .inl (D.2 3, 4, .inr (.inr (.inr (.inr fs))))), (t0, .inr (4, [.ref t1, .ref t2, .int (nI n)])), (t1, .inl (D.2 0, 12, .inl fp)), (t2, .inl (D.2 0, 12, .inl fc))] (fun v => [(o0, .inl (D.2 1, 1, .inr (.inl (vp_updL ou 0 v)))), (x0, .inr (5, [.ref h0, .ref b0, .ref w0, .ref s0, .ref m0, .ref g0, .int (nI cl)])), (s0, .inl (D.2 3, 4, .inr (.inr (.inr (.inr fs))))), (t0, .inr (4, [.ref t1, .ref t2, .int (nI (n + 1))])), (t1, .inl (D.2 0, 12, .inl (upd fp n p2))), (t2, .inl (D.2 0, 12, .inl (upd fc n p3)))]) : va_W))) (va_A [(o0, .inl (D.2 1, 1, .inr (.inl ou))), (x0, .inr (5, [.ref h0, .ref b0, .ref w0, .ref s0, .ref m0, .ref g0, .int (nI cl)])), (s0, .inl (D.2 3, 4, .inr (.inr (.inr (.inr fs))))), (t0, .inr (4, [.ref t1, .ref t2, .int (nI n)])), (t1, .inl (D.2 0, 12, .inl fp)), (t2, .inl (D.2 0, 12, .inl fc))] sz)) 4 24 (va_A [(o0, .inl (D.2 1, 1, .inr (.inl ou))), (x0, .inr (5, [.ref h0, .ref b0, .ref w0, .ref s0, .ref m0, .ref g0, .int (nI cl)])), (s0, .inl (D.2 3, 4, .inr (.inr (.inr (.inr fs))))), (t0, .inr (4, [.ref t1, .ref t2, .int (nI n)])), (t1, .inl (D.2 0, 12, .inl fp)), (t2, .inl (D.2 0, 12, .inl fc))] sz) := by
  refine va_MetW (cc := cL_stock) (maxL := 6) (ret := (some .int)) (hh := [(0, 12, 15, 13), (0, 12, 19, 15), (0, 12, 23, 17)]) (by decide) rfl ?_
  intro p e s m args below meth c s₁ B hml hv
  obtain ⟨rfl, hsz, hP, hK, hD0, hB⟩ := hv
  have hx := B.exec
  have hb := B.bytes
  have hr := B.returns
  have hts := atoms_spec (ws := wsL_stock) B.pre
  have hown : s.vm.findClass "ShopLedgerLaw" = some m.cls := findClass_of_methodNamed B.named
  have hlocks := B.notSynchronized
  have hTab : c.exceptionTable.toList = tableOf [(0, 12, 15, 13), (0, 12, 19, 15), (0, 12, 23, 17)] := vx_table (x := yL_stock) B (hts _ List.mem_cons_self)
  subst hsz
  have hD := hD0.self (sz := s.heap.size)
  generalize hAe : va_A [(o0, .inl (D.2 1, 1, .inr (.inl ou))), (x0, .inr (5, [.ref h0, .ref b0, .ref w0, .ref s0, .ref m0, .ref g0, .int (nI cl)])), (s0, .inl (D.2 3, 4, .inr (.inr (.inr (.inr fs))))), (t0, .inr (4, [.ref t1, .ref t2, .int (nI n)])), (t1, .inl (D.2 0, 12, .inl fp)), (t2, .inl (D.2 0, 12, .inl fc))] s.heap.size = A at hD hB ⊢
  have hA : ∀ q : Nat, s.heap.size ≤ q → A q := fun q h => by rw [← hAe]; exact Or.inr h
  have hS : va_S A s.heap s.heap [] := va_S.rf
  have hZ : ∀ w ∈ zALL, w.before _ s = true := fun w h => hts w (List.mem_cons_of_mem _ h)
  have hF : CallFix p m c cL_stock 6 s _ zALL "ShopLedgerLaw" := ⟨hx, hb, hml, hown, hZ⟩
  have hl := lv_entry ([.ref x0, .int (nI j), .int p2, .int p3, .ref o0]) (n := 6) (Nat.le_of_ble_eq_true rfl)
  rw [lg_entry_eq]
  generalize (lg_sl ([.ref x0, .int (nI j), .int p2, .int p3, .ref o0]) ++ List.replicate (6 - (lg_sl ([.ref x0, .int (nI j), .int p2, .int p3, .ref o0])).length) Slot.unset).toArray = ls at hl ⊢
  have hl : lv_has ls 6 [(0, .ref x0), (1, .int (nI j)), (2, .int p2), (3, .int p3), (4, .ref o0)] := hl
  refine lv_aload hx hb dL_stock_0 (lv_at hl 4 rfl) ?_
  refine lv_iconst (v := 0) hx hb dL_stock_2 (by decide) ?_
  refine lv_aload_n hx hb dL_stock_3 rfl (lv_at hl 0 rfl) ?_
  refine lv_iload_n hx hb dL_stock_4 rfl (lv_at hl 1 rfl) ?_
  refine lv_iload_n hx hb dL_stock_5 rfl (lv_at hl 2 rfl) ?_
  refine lv_iload_n hx hb dL_stock_6 rfl (lv_at hl 3 rfl) ?_
  have J := zJ.mk (wc := [(x0, .inr (5, [.ref h0, .ref b0, .ref w0, .ref s0, .ref m0, .ref g0, .int (nI cl)])), (s0, .inl (D.2 3, 4, .inr (.inr (.inr (.inr fs))))), (t0, .inr (4, [.ref t1, .ref t2, .int (nI n)])), (t1, .inl (D.2 0, 12, .inl fp)), (t2, .inl (D.2 0, 12, .inl fc))]) (wr := [(o0, .inl (D.2 1, 1, .inr (.inl ou)))]) hA hB hK hP hD hS [1, 2, 3, 4, 5] [0] rfl rfl (by decide)
  refine z_xgoi (z_xrunV (As := [.int (nI j), .int p2, .int p3]) (rest := [.int 0, .ref o0]) (b := x0) hF (c_stock hl9 D x0 h0 b0 w0 m0 g0 cl s0 t0 t1 t2 n fs fp fc j p2 p3 s.heap.size hj hf hn) (cwV 3 hZ (z_gV t_242 t_243 t_244 t_55 t_241) rfl rfl rfl (by decide +kernel) ⟨Nat.le_of_ble_eq_true rfl, Nat.le_of_ble_eq_true rfl⟩) J 0 5 rfl rfl rfl rfl hl.1 (Nat.le_of_ble_eq_true rfl) dL_stock_7 ⟨Nat.le_of_ble_eq_true rfl, Nat.le_of_ble_eq_true rfl⟩) J (fun EX ce q9 H locs w1 hP hD hS hce hcv hcl => ?_) (fun r1 _ H locs w1 hP hD hS => ?_)
  · have hP : va_P D.1 vwCl [(o0, .inl (D.2 1, 1, .inr (.inl ou))), (x0, .inr (5, [.ref h0, .ref b0, .ref w0, .ref s0, .ref m0, .ref g0, .int (nI cl)])), (s0, .inl (D.2 3, 4, .inr (.inr (.inr (.inr fs))))), (t0, .inr (4, [.ref t1, .ref t2, .int (nI n)])), (t1, .inl (D.2 0, 12, .inl fp)), (t2, .inl (D.2 0, 12, .inl fc))] H := hP
    have hD : va_D A [(o0, .inl (D.2 1, 1, .inr (.inl ou))), (x0, .inr (5, [.ref h0, .ref b0, .ref w0, .ref s0, .ref m0, .ref g0, .int (nI cl)])), (s0, .inl (D.2 3, 4, .inr (.inr (.inr (.inr fs))))), (t0, .inr (4, [.ref t1, .ref t2, .int (nI n)])), (t1, .inl (D.2 0, 12, .inl fp)), (t2, .inl (D.2 0, 12, .inl fc))] := hD
    have wE := w1
    rcases w1 with ⟨rfl, -⟩ | ⟨rfl, -⟩
    · skip
      refine vx_catch (own := "ShopLedgerLaw") (name := "java/lang/IllegalStateException") (E := "java/lang/IllegalStateException") hown [⟨0, 12, 15, 13⟩] ⟨0, 12, 19, 15⟩ [⟨0, 12, 23, 17⟩] (by rw [hTab]; rfl) (by
          intro z hz
          rcases List.mem_cons.mp hz with rfl | hz
          · exact Or.inr ⟨by decide, "java/lang/IndexOutOfBoundsException", (hZ _ t_205), hB.2.2.2.2.2.2.1 ("java/lang/IllegalStateException", "java/lang/IndexOutOfBoundsException") (by decide +kernel)⟩
          cases hz) (by decide) (by decide) (hZ _ t_206) (va_Nw.use rfl (hB.2.2.2.1 ("java/lang/IllegalStateException", "java/lang/IllegalStateException") (by decide +kernel))) hce hcv hcl ?_
      refine lv_astore (lv' := [(5, .ref q9), (0, .ref x0), (1, .int (nI j)), (2, .int p2), (3, .int p3), (4, .ref o0)]) hx hb dL_stock_19 hl (by decide) rfl (fun ls hl => ?_)
      refine lv_iconst (v := 2) hx hb dL_stock_21 (by decide) ?_
      exact z_iret (v := 2) hx hb hr hlocks hP hD hS none (Or.inr ⟨rfl, _, wE, by decide +kernel⟩) [0, 1, 2, 3, 4, 5] rfl (by decide) (Nat.le_of_ble_eq_true rfl) (Nat.le_of_ble_eq_true rfl) dL_stock_22
    · skip
      refine vx_catch (own := "ShopLedgerLaw") (name := "java/lang/IllegalArgumentException") (E := "java/lang/IllegalArgumentException") hown [⟨0, 12, 15, 13⟩, ⟨0, 12, 19, 15⟩] ⟨0, 12, 23, 17⟩ [] (by rw [hTab]; rfl) (by
          intro z hz
          rcases List.mem_cons.mp hz with rfl | hz
          · exact Or.inr ⟨by decide, "java/lang/IndexOutOfBoundsException", (hZ _ t_205), hB.2.2.2.2.2.2.1 ("java/lang/IllegalArgumentException", "java/lang/IndexOutOfBoundsException") (by decide +kernel)⟩
          rcases List.mem_cons.mp hz with rfl | hz
          · exact Or.inr ⟨by decide, "java/lang/IllegalStateException", (hZ _ t_206), hB.2.2.2.2.2.2.1 ("java/lang/IllegalArgumentException", "java/lang/IllegalStateException") (by decide +kernel)⟩
          cases hz) (by decide) (by decide) (hZ _ t_207) (va_Nw.use rfl (hB.2.2.2.1 ("java/lang/IllegalArgumentException", "java/lang/IllegalArgumentException") (by decide +kernel))) hce hcv hcl ?_
      refine lv_astore (lv' := [(5, .ref q9), (0, .ref x0), (1, .int (nI j)), (2, .int p2), (3, .int p3), (4, .ref o0)]) hx hb dL_stock_23 hl (by decide) rfl (fun ls hl => ?_)
      refine lv_iconst (v := 3) hx hb dL_stock_25 (by decide) ?_
      exact z_iret (v := 3) hx hb hr hlocks hP hD hS none (Or.inr ⟨rfl, _, wE, by decide +kernel⟩) [0, 1, 2, 3, 4, 5] rfl (by decide) (Nat.le_of_ble_eq_true rfl) (Nat.le_of_ble_eq_true rfl) dL_stock_26
  have hP : va_P D.1 vwCl [(o0, .inl (D.2 1, 1, .inr (.inl ou))), (x0, .inr (5, [.ref h0, .ref b0, .ref w0, .ref s0, .ref m0, .ref g0, .int (nI cl)])), (s0, .inl (D.2 3, 4, .inr (.inr (.inr (.inr fs))))), (t0, .inr (4, [.ref t1, .ref t2, .int (nI (n + 1))])), (t1, .inl (D.2 0, 12, .inl (upd fp n p2))), (t2, .inl (D.2 0, 12, .inl (upd fc n p3)))] H := hP
  have hD : va_D A [(o0, .inl (D.2 1, 1, .inr (.inl ou))), (x0, .inr (5, [.ref h0, .ref b0, .ref w0, .ref s0, .ref m0, .ref g0, .int (nI cl)])), (s0, .inl (D.2 3, 4, .inr (.inr (.inr (.inr fs))))), (t0, .inr (4, [.ref t1, .ref t2, .int (nI (n + 1))])), (t1, .inl (D.2 0, 12, .inl (upd fp n p2))), (t2, .inl (D.2 0, 12, .inl (upd fc n p3)))] := hD
  refine lv_i2l (v := r1.toInt64) hx hb dL_stock_10 rfl ?_
  refine z_last (k := 0) hx hb hK hP hD hS 0 rfl (by decide) (by decide) dL_stock_11 (fun H locs hP hD hS => ?_)
  have hP : va_P D.1 vwCl [(o0, .inl (D.2 1, 1, .inr (.inl (vp_updL ou 0 r1.toInt64)))), (x0, .inr (5, [.ref h0, .ref b0, .ref w0, .ref s0, .ref m0, .ref g0, .int (nI cl)])), (s0, .inl (D.2 3, 4, .inr (.inr (.inr (.inr fs))))), (t0, .inr (4, [.ref t1, .ref t2, .int (nI (n + 1))])), (t1, .inl (D.2 0, 12, .inl (upd fp n p2))), (t2, .inl (D.2 0, 12, .inl (upd fc n p3)))] H := hP
  have hD : va_D A [(o0, .inl (D.2 1, 1, .inr (.inl (vp_updL ou 0 r1.toInt64)))), (x0, .inr (5, [.ref h0, .ref b0, .ref w0, .ref s0, .ref m0, .ref g0, .int (nI cl)])), (s0, .inl (D.2 3, 4, .inr (.inr (.inr (.inr fs))))), (t0, .inr (4, [.ref t1, .ref t2, .int (nI (n + 1))])), (t1, .inl (D.2 0, 12, .inl (upd fp n p2))), (t2, .inl (D.2 0, 12, .inl (upd fc n p3)))] := hD
  refine lv_goto (tgt := 27) hx hb dL_stock_12 (by decide) ?_
  refine lv_iconst (v := 0) hx hb dL_stock_27 (by decide) ?_
  exact z_iret (v := 0) hx hb hr hlocks hP hD hS (some r1.toInt64) (Or.inl ⟨r1, rfl, rfl, w1⟩) [0, 1, 2, 3, 4, 5] rfl (by decide) (Nat.le_of_ble_eq_true rfl) (Nat.le_of_ble_eq_true rfl) dL_stock_28
set_option maxHeartbeats 4000000 in
set_option maxRecDepth 100000 in
/-- the law calls take -/
theorem w_take {l : Launch} (D : zD) (x0 h0 b0 w0 m0 g0 cl : Nat) (s0 t0 t1 t2 n : Nat) (fs : Nat → Option Nat) (fp fc : Nat → Int32) (j : Nat) (p2 : Int32) (o0 : Nat) (ou : Nat → Int64) (sz : Nat) (hl9 : l.stackTraces = false) (hj : j < 4) (hf : fs j = some t0) (hn : n ≤ 12) : Met l yL_take wsL_take ({ frames := 8, cells := 3, slots := 18, locals := 134 }) (va_Pc [.ref x0, .int (nI j), .int p2, .ref o0] (zp D sz [(o0, .inl (D.2 1, 1, .inr (.inl ou))), (x0, .inr (5, [.ref h0, .ref b0, .ref w0, .ref s0, .ref m0, .ref g0, .int (nI cl)])), (s0, .inl (D.2 3, 4, .inr (.inr (.inr (.inr fs))))), (t0, .inr (4, [.ref t1, .ref t2, .int (nI n)])), (t1, .inl (D.2 0, 12, .inl fp)), (t2, .inl (D.2 0, 12, .inl fc))])) (va_Qi (fun r (u : Option Int64) => (∃ r9 : Int64, u = some r9 ∧ r = 0 ∧ (fun r (_ : Unit) => (¬ p2 < 1 ∧ p2 ≤ 1000000) ∧ (p2 ≤ zs_isum fp n) ∧ r = (zs_take fp fc p2 n).2.1) r9 ()) ∨ (u = none ∧ ∃ E9, (fun E => (E = "java/lang/IllegalArgumentException" ∧ ¬ (¬ p2 < 1 ∧ p2 ≤ 1000000)) ∨ (E = "java/lang/UnsupportedOperationException" ∧ (¬ p2 < 1 ∧ p2 ≤ 1000000) ∧ ¬ (p2 ≤ zs_isum fp n))) E9 ∧ r = zcd ["java/lang/IndexOutOfBoundsException", "java/lang/IllegalArgumentException", "java/lang/UnsupportedOperationException"] E9)) (zq D (va_A [(o0, .inl (D.2 1, 1, .inr (.inl ou))), (x0, .inr (5, [.ref h0, .ref b0, .ref w0, .ref s0, .ref m0, .ref g0, .int (nI cl)])), (s0, .inl (D.2 3, 4, .inr (.inr (.inr (.inr fs))))), (t0, .inr (4, [.ref t1, .ref t2, .int (nI n)])), (t1, .inl (D.2 0, 12, .inl fp)), (t2, .inl (D.2 0, 12, .inl fc))] sz) (fun (u : Option Int64) => (u.elim [(o0, .inl (D.2 1, 1, .inr (.inl ou))), (x0, .inr (5, [.ref h0, .ref b0, .ref w0, .ref s0, .ref m0, .ref g0, .int (nI cl)])), (s0, .inl (D.2 3, 4, .inr (.inr (.inr (.inr fs))))), (t0, .inr (4, [.ref t1, .ref t2, .int (nI n)])), (t1, .inl (D.2 0, 12, .inl fp)), (t2, .inl (D.2 0, 12, .inl fc))] (fun v => [(o0, .inl (D.2 1, 1, .inr (.inl (vp_updL ou 0 v)))), (x0, .inr (5, [.ref h0, .ref b0, .ref w0, .ref s0, .ref m0, .ref g0, .int (nI cl)])), (s0, .inl (D.2 3, 4, .inr (.inr (.inr (.inr fs))))), (t0, .inr (4, [.ref t1, .ref t2, .int (nI (n - (zs_take fp fc p2 n).2.2.1))])), (t1, .inl (D.2 0, 12, .inl (zs_mv (zs_take fp fc p2 n).2.2.2 (zs_take fp fc p2 n).2.2.1 (n - (zs_take fp fc p2 n).2.2.1)))), (t2, .inl (D.2 0, 12, .inl (zs_mv fc (zs_take fp fc p2 n).2.2.1 (n - (zs_take fp fc p2 n).2.2.1))))]) : va_W))) (va_A [(o0, .inl (D.2 1, 1, .inr (.inl ou))), (x0, .inr (5, [.ref h0, .ref b0, .ref w0, .ref s0, .ref m0, .ref g0, .int (nI cl)])), (s0, .inl (D.2 3, 4, .inr (.inr (.inr (.inr fs))))), (t0, .inr (4, [.ref t1, .ref t2, .int (nI n)])), (t1, .inl (D.2 0, 12, .inl fp)), (t2, .inl (D.2 0, 12, .inl fc))] sz)) 3 18 (va_A [(o0, .inl (D.2 1, 1, .inr (.inl ou))), (x0, .inr (5, [.ref h0, .ref b0, .ref w0, .ref s0, .ref m0, .ref g0, .int (nI cl)])), (s0, .inl (D.2 3, 4, .inr (.inr (.inr (.inr fs))))), (t0, .inr (4, [.ref t1, .ref t2, .int (nI n)])), (t1, .inl (D.2 0, 12, .inl fp)), (t2, .inl (D.2 0, 12, .inl fc))] sz) := by
  refine va_MetW (cc := cL_take) (maxL := 5) (ret := (some .int)) (hh := [(0, 9, 12, 13), (0, 9, 16, 17), (0, 9, 20, 23)]) (by decide) rfl ?_
  intro p e s m args below meth c s₁ B hml hv
  obtain ⟨rfl, hsz, hP, hK, hD0, hB⟩ := hv
  have hx := B.exec
  have hb := B.bytes
  have hr := B.returns
  have hts := atoms_spec (ws := wsL_take) B.pre
  have hown : s.vm.findClass "ShopLedgerLaw" = some m.cls := findClass_of_methodNamed B.named
  have hlocks := B.notSynchronized
  have hTab : c.exceptionTable.toList = tableOf [(0, 9, 12, 13), (0, 9, 16, 17), (0, 9, 20, 23)] := vx_table (x := yL_take) B (hts _ List.mem_cons_self)
  subst hsz
  have hD := hD0.self (sz := s.heap.size)
  generalize hAe : va_A [(o0, .inl (D.2 1, 1, .inr (.inl ou))), (x0, .inr (5, [.ref h0, .ref b0, .ref w0, .ref s0, .ref m0, .ref g0, .int (nI cl)])), (s0, .inl (D.2 3, 4, .inr (.inr (.inr (.inr fs))))), (t0, .inr (4, [.ref t1, .ref t2, .int (nI n)])), (t1, .inl (D.2 0, 12, .inl fp)), (t2, .inl (D.2 0, 12, .inl fc))] s.heap.size = A at hD hB ⊢
  have hA : ∀ q : Nat, s.heap.size ≤ q → A q := fun q h => by rw [← hAe]; exact Or.inr h
  have hS : va_S A s.heap s.heap [] := va_S.rf
  have hZ : ∀ w ∈ zALL, w.before _ s = true := fun w h => hts w (List.mem_cons_of_mem _ h)
  have hF : CallFix p m c cL_take 5 s _ zALL "ShopLedgerLaw" := ⟨hx, hb, hml, hown, hZ⟩
  have hl := lv_entry ([.ref x0, .int (nI j), .int p2, .ref o0]) (n := 5) (Nat.le_of_ble_eq_true rfl)
  rw [lg_entry_eq]
  generalize (lg_sl ([.ref x0, .int (nI j), .int p2, .ref o0]) ++ List.replicate (5 - (lg_sl ([.ref x0, .int (nI j), .int p2, .ref o0])).length) Slot.unset).toArray = ls at hl ⊢
  have hl : lv_has ls 5 [(0, .ref x0), (1, .int (nI j)), (2, .int p2), (3, .ref o0)] := hl
  refine lv_aload_n hx hb dL_take_0 rfl (lv_at hl 3 rfl) ?_
  refine lv_iconst (v := 0) hx hb dL_take_1 (by decide) ?_
  refine lv_aload_n hx hb dL_take_2 rfl (lv_at hl 0 rfl) ?_
  refine lv_iload_n hx hb dL_take_3 rfl (lv_at hl 1 rfl) ?_
  refine lv_iload_n hx hb dL_take_4 rfl (lv_at hl 2 rfl) ?_
  have J := zJ.mk (wc := [(x0, .inr (5, [.ref h0, .ref b0, .ref w0, .ref s0, .ref m0, .ref g0, .int (nI cl)])), (s0, .inl (D.2 3, 4, .inr (.inr (.inr (.inr fs))))), (t0, .inr (4, [.ref t1, .ref t2, .int (nI n)])), (t1, .inl (D.2 0, 12, .inl fp)), (t2, .inl (D.2 0, 12, .inl fc))]) (wr := [(o0, .inl (D.2 1, 1, .inr (.inl ou)))]) hA hB hK hP hD hS [1, 2, 3, 4, 5] [0] rfl rfl (by decide)
  refine z_xgol (z_xrunV (As := [.int (nI j), .int p2]) (rest := [.int 0, .ref o0]) (b := x0) hF (c_take hl9 D x0 h0 b0 w0 m0 g0 cl s0 t0 t1 t2 n fs fp fc j p2 s.heap.size hj hf hn) (cwV 2 hZ (z_gV t_246 t_247 t_248 t_55 t_245) rfl rfl rfl (by decide +kernel) ⟨Nat.le_of_ble_eq_true rfl, Nat.le_of_ble_eq_true rfl⟩) J 0 5 rfl rfl rfl rfl hl.1 (Nat.le_of_ble_eq_true rfl) dL_take_5 ⟨Nat.le_of_ble_eq_true rfl, Nat.le_of_ble_eq_true rfl⟩) J (fun EX ce q9 H locs w1 hP hD hS hce hcv hcl => ?_) (fun r1 _ H locs w1 hP hD hS => ?_)
  · have hP : va_P D.1 vwCl [(o0, .inl (D.2 1, 1, .inr (.inl ou))), (x0, .inr (5, [.ref h0, .ref b0, .ref w0, .ref s0, .ref m0, .ref g0, .int (nI cl)])), (s0, .inl (D.2 3, 4, .inr (.inr (.inr (.inr fs))))), (t0, .inr (4, [.ref t1, .ref t2, .int (nI n)])), (t1, .inl (D.2 0, 12, .inl fp)), (t2, .inl (D.2 0, 12, .inl fc))] H := hP
    have hD : va_D A [(o0, .inl (D.2 1, 1, .inr (.inl ou))), (x0, .inr (5, [.ref h0, .ref b0, .ref w0, .ref s0, .ref m0, .ref g0, .int (nI cl)])), (s0, .inl (D.2 3, 4, .inr (.inr (.inr (.inr fs))))), (t0, .inr (4, [.ref t1, .ref t2, .int (nI n)])), (t1, .inl (D.2 0, 12, .inl fp)), (t2, .inl (D.2 0, 12, .inl fc))] := hD
    have wE := w1
    rcases w1 with ⟨rfl, -⟩ | ⟨rfl, -⟩
    · skip
      refine vx_catch (own := "ShopLedgerLaw") (name := "java/lang/IllegalArgumentException") (E := "java/lang/IllegalArgumentException") hown [⟨0, 9, 12, 13⟩] ⟨0, 9, 16, 17⟩ [⟨0, 9, 20, 23⟩] (by rw [hTab]; rfl) (by
          intro z hz
          rcases List.mem_cons.mp hz with rfl | hz
          · exact Or.inr ⟨by decide, "java/lang/IndexOutOfBoundsException", (hZ _ t_205), hB.2.2.2.2.2.2.1 ("java/lang/IllegalArgumentException", "java/lang/IndexOutOfBoundsException") (by decide +kernel)⟩
          cases hz) (by decide) (by decide) (hZ _ t_207) (va_Nw.use rfl (hB.2.2.2.1 ("java/lang/IllegalArgumentException", "java/lang/IllegalArgumentException") (by decide +kernel))) hce hcv hcl ?_
      refine lv_astore (lv' := [(4, .ref q9), (0, .ref x0), (1, .int (nI j)), (2, .int p2), (3, .ref o0)]) hx hb dL_take_16 hl (by decide) rfl (fun ls hl => ?_)
      refine lv_iconst (v := 2) hx hb dL_take_18 (by decide) ?_
      exact z_iret (v := 2) hx hb hr hlocks hP hD hS none (Or.inr ⟨rfl, _, wE, by decide +kernel⟩) [0, 1, 2, 3, 4, 5] rfl (by decide) (Nat.le_of_ble_eq_true rfl) (Nat.le_of_ble_eq_true rfl) dL_take_19
    · skip
      refine vx_catch (own := "ShopLedgerLaw") (name := "java/lang/UnsupportedOperationException") (E := "java/lang/UnsupportedOperationException") hown [⟨0, 9, 12, 13⟩, ⟨0, 9, 16, 17⟩] ⟨0, 9, 20, 23⟩ [] (by rw [hTab]; rfl) (by
          intro z hz
          rcases List.mem_cons.mp hz with rfl | hz
          · exact Or.inr ⟨by decide, "java/lang/IndexOutOfBoundsException", (hZ _ t_205), hB.2.2.2.2.2.2.1 ("java/lang/UnsupportedOperationException", "java/lang/IndexOutOfBoundsException") (by decide +kernel)⟩
          rcases List.mem_cons.mp hz with rfl | hz
          · exact Or.inr ⟨by decide, "java/lang/IllegalArgumentException", (hZ _ t_207), hB.2.2.2.2.2.2.1 ("java/lang/UnsupportedOperationException", "java/lang/IllegalArgumentException") (by decide +kernel)⟩
          cases hz) (by decide) (by decide) (hZ _ t_212) (va_Nw.use rfl (hB.2.2.2.1 ("java/lang/UnsupportedOperationException", "java/lang/UnsupportedOperationException") (by decide +kernel))) hce hcv hcl ?_
      refine lv_astore (lv' := [(4, .ref q9), (0, .ref x0), (1, .int (nI j)), (2, .int p2), (3, .ref o0)]) hx hb dL_take_20 hl (by decide) rfl (fun ls hl => ?_)
      refine lv_iconst (v := 3) hx hb dL_take_22 (by decide) ?_
      exact z_iret (v := 3) hx hb hr hlocks hP hD hS none (Or.inr ⟨rfl, _, wE, by decide +kernel⟩) [0, 1, 2, 3, 4, 5] rfl (by decide) (Nat.le_of_ble_eq_true rfl) (Nat.le_of_ble_eq_true rfl) dL_take_23
  have hP : va_P D.1 vwCl [(o0, .inl (D.2 1, 1, .inr (.inl ou))), (x0, .inr (5, [.ref h0, .ref b0, .ref w0, .ref s0, .ref m0, .ref g0, .int (nI cl)])), (s0, .inl (D.2 3, 4, .inr (.inr (.inr (.inr fs))))), (t0, .inr (4, [.ref t1, .ref t2, .int (nI (n - (zs_take fp fc p2 n).2.2.1))])), (t1, .inl (D.2 0, 12, .inl (zs_mv (zs_take fp fc p2 n).2.2.2 (zs_take fp fc p2 n).2.2.1 (n - (zs_take fp fc p2 n).2.2.1)))), (t2, .inl (D.2 0, 12, .inl (zs_mv fc (zs_take fp fc p2 n).2.2.1 (n - (zs_take fp fc p2 n).2.2.1))))] H := hP
  have hD : va_D A [(o0, .inl (D.2 1, 1, .inr (.inl ou))), (x0, .inr (5, [.ref h0, .ref b0, .ref w0, .ref s0, .ref m0, .ref g0, .int (nI cl)])), (s0, .inl (D.2 3, 4, .inr (.inr (.inr (.inr fs))))), (t0, .inr (4, [.ref t1, .ref t2, .int (nI (n - (zs_take fp fc p2 n).2.2.1))])), (t1, .inl (D.2 0, 12, .inl (zs_mv (zs_take fp fc p2 n).2.2.2 (zs_take fp fc p2 n).2.2.1 (n - (zs_take fp fc p2 n).2.2.1)))), (t2, .inl (D.2 0, 12, .inl (zs_mv fc (zs_take fp fc p2 n).2.2.1 (n - (zs_take fp fc p2 n).2.2.1))))] := hD
  refine z_last (k := 0) hx hb hK hP hD hS 0 rfl (by decide) (by decide) dL_take_8 (fun H locs hP hD hS => ?_)
  have hP : va_P D.1 vwCl [(o0, .inl (D.2 1, 1, .inr (.inl (vp_updL ou 0 r1)))), (x0, .inr (5, [.ref h0, .ref b0, .ref w0, .ref s0, .ref m0, .ref g0, .int (nI cl)])), (s0, .inl (D.2 3, 4, .inr (.inr (.inr (.inr fs))))), (t0, .inr (4, [.ref t1, .ref t2, .int (nI (n - (zs_take fp fc p2 n).2.2.1))])), (t1, .inl (D.2 0, 12, .inl (zs_mv (zs_take fp fc p2 n).2.2.2 (zs_take fp fc p2 n).2.2.1 (n - (zs_take fp fc p2 n).2.2.1)))), (t2, .inl (D.2 0, 12, .inl (zs_mv fc (zs_take fp fc p2 n).2.2.1 (n - (zs_take fp fc p2 n).2.2.1))))] H := hP
  have hD : va_D A [(o0, .inl (D.2 1, 1, .inr (.inl (vp_updL ou 0 r1)))), (x0, .inr (5, [.ref h0, .ref b0, .ref w0, .ref s0, .ref m0, .ref g0, .int (nI cl)])), (s0, .inl (D.2 3, 4, .inr (.inr (.inr (.inr fs))))), (t0, .inr (4, [.ref t1, .ref t2, .int (nI (n - (zs_take fp fc p2 n).2.2.1))])), (t1, .inl (D.2 0, 12, .inl (zs_mv (zs_take fp fc p2 n).2.2.2 (zs_take fp fc p2 n).2.2.1 (n - (zs_take fp fc p2 n).2.2.1)))), (t2, .inl (D.2 0, 12, .inl (zs_mv fc (zs_take fp fc p2 n).2.2.1 (n - (zs_take fp fc p2 n).2.2.1))))] := hD
  refine lv_goto (tgt := 24) hx hb dL_take_9 (by decide) ?_
  refine lv_iconst (v := 0) hx hb dL_take_24 (by decide) ?_
  exact z_iret (v := 0) hx hb hr hlocks hP hD hS (some r1) (Or.inl ⟨r1, rfl, rfl, w1⟩) [0, 1, 2, 3, 4, 5] rfl (by decide) (Nat.le_of_ble_eq_true rfl) (Nat.le_of_ble_eq_true rfl) dL_take_25
set_option maxHeartbeats 4000000 in
set_option maxRecDepth 100000 in
/-- the law calls in -/
theorem w_in {l : Launch} (D : zD) (x0 h0 b0 w0 m0 g0 cl : Nat) (s0 t0 t1 t2 n : Nat) (fs : Nat → Option Nat) (fp fc : Nat → Int32) (j : Nat) (p2 : Int32) (o0 : Nat) (ou : Nat → Int64) (sz : Nat) (hl9 : l.stackTraces = false) (hj : j < 4) (hf : fs j = some t0) (hn : n ≤ 12) : Met l yL_in wsL_in ({ frames := 8, cells := 2, slots := 12, locals := 133 }) (va_Pc [.ref x0, .int (nI j), .int p2, .ref o0] (zp D sz [(o0, .inl (D.2 1, 1, .inr (.inl ou))), (x0, .inr (5, [.ref h0, .ref b0, .ref w0, .ref s0, .ref m0, .ref g0, .int (nI cl)])), (s0, .inl (D.2 3, 4, .inr (.inr (.inr (.inr fs))))), (t0, .inr (4, [.ref t1, .ref t2, .int (nI n)])), (t1, .inl (D.2 0, 12, .inl fp)), (t2, .inl (D.2 0, 12, .inl fc))])) (va_Qi (fun r (u : Option Int64) => (∃ r9 : Int64, u = some r9 ∧ r = 0 ∧ (fun r (_ : Unit) => (p2 = 0 ∧ r = (zs_isum fp n).toInt64) ∨ (p2 = 1 ∧ r = zs_worth fp fc n) ∨ (p2 = 2 ∧ r = (nI n).toInt64)) r9 ()) ∨ (u = none ∧ ∃ E9, (fun E => E = "java/lang/IndexOutOfBoundsException" ∧ ¬ p2 = 0 ∧ ¬ p2 = 1 ∧ ¬ p2 = 2) E9 ∧ r = zcd ["java/lang/IndexOutOfBoundsException"] E9)) (zq D (va_A [(o0, .inl (D.2 1, 1, .inr (.inl ou))), (x0, .inr (5, [.ref h0, .ref b0, .ref w0, .ref s0, .ref m0, .ref g0, .int (nI cl)])), (s0, .inl (D.2 3, 4, .inr (.inr (.inr (.inr fs))))), (t0, .inr (4, [.ref t1, .ref t2, .int (nI n)])), (t1, .inl (D.2 0, 12, .inl fp)), (t2, .inl (D.2 0, 12, .inl fc))] sz) (fun (u : Option Int64) => (u.elim [(o0, .inl (D.2 1, 1, .inr (.inl ou))), (x0, .inr (5, [.ref h0, .ref b0, .ref w0, .ref s0, .ref m0, .ref g0, .int (nI cl)])), (s0, .inl (D.2 3, 4, .inr (.inr (.inr (.inr fs))))), (t0, .inr (4, [.ref t1, .ref t2, .int (nI n)])), (t1, .inl (D.2 0, 12, .inl fp)), (t2, .inl (D.2 0, 12, .inl fc))] (fun v => [(o0, .inl (D.2 1, 1, .inr (.inl (vp_updL ou 0 v)))), (x0, .inr (5, [.ref h0, .ref b0, .ref w0, .ref s0, .ref m0, .ref g0, .int (nI cl)])), (s0, .inl (D.2 3, 4, .inr (.inr (.inr (.inr fs))))), (t0, .inr (4, [.ref t1, .ref t2, .int (nI n)])), (t1, .inl (D.2 0, 12, .inl fp)), (t2, .inl (D.2 0, 12, .inl fc))]) : va_W))) (va_A [(o0, .inl (D.2 1, 1, .inr (.inl ou))), (x0, .inr (5, [.ref h0, .ref b0, .ref w0, .ref s0, .ref m0, .ref g0, .int (nI cl)])), (s0, .inl (D.2 3, 4, .inr (.inr (.inr (.inr fs))))), (t0, .inr (4, [.ref t1, .ref t2, .int (nI n)])), (t1, .inl (D.2 0, 12, .inl fp)), (t2, .inl (D.2 0, 12, .inl fc))] sz)) 2 12 (va_A [(o0, .inl (D.2 1, 1, .inr (.inl ou))), (x0, .inr (5, [.ref h0, .ref b0, .ref w0, .ref s0, .ref m0, .ref g0, .int (nI cl)])), (s0, .inl (D.2 3, 4, .inr (.inr (.inr (.inr fs))))), (t0, .inr (4, [.ref t1, .ref t2, .int (nI n)])), (t1, .inl (D.2 0, 12, .inl fp)), (t2, .inl (D.2 0, 12, .inl fc))] sz) := by
  refine va_MetW (cc := cL_in) (maxL := 5) (ret := (some .int)) (hh := [(0, 9, 12, 13)]) (by decide) rfl ?_
  intro p e s m args below meth c s₁ B hml hv
  obtain ⟨rfl, hsz, hP, hK, hD0, hB⟩ := hv
  have hx := B.exec
  have hb := B.bytes
  have hr := B.returns
  have hts := atoms_spec (ws := wsL_in) B.pre
  have hown : s.vm.findClass "ShopLedgerLaw" = some m.cls := findClass_of_methodNamed B.named
  have hlocks := B.notSynchronized
  have hTab : c.exceptionTable.toList = tableOf [(0, 9, 12, 13)] := vx_table (x := yL_in) B (hts _ List.mem_cons_self)
  subst hsz
  have hD := hD0.self (sz := s.heap.size)
  generalize hAe : va_A [(o0, .inl (D.2 1, 1, .inr (.inl ou))), (x0, .inr (5, [.ref h0, .ref b0, .ref w0, .ref s0, .ref m0, .ref g0, .int (nI cl)])), (s0, .inl (D.2 3, 4, .inr (.inr (.inr (.inr fs))))), (t0, .inr (4, [.ref t1, .ref t2, .int (nI n)])), (t1, .inl (D.2 0, 12, .inl fp)), (t2, .inl (D.2 0, 12, .inl fc))] s.heap.size = A at hD hB ⊢
  have hA : ∀ q : Nat, s.heap.size ≤ q → A q := fun q h => by rw [← hAe]; exact Or.inr h
  have hS : va_S A s.heap s.heap [] := va_S.rf
  have hZ : ∀ w ∈ zALL, w.before _ s = true := fun w h => hts w (List.mem_cons_of_mem _ h)
  have hF : CallFix p m c cL_in 5 s _ zALL "ShopLedgerLaw" := ⟨hx, hb, hml, hown, hZ⟩
  have hl := lv_entry ([.ref x0, .int (nI j), .int p2, .ref o0]) (n := 5) (Nat.le_of_ble_eq_true rfl)
  rw [lg_entry_eq]
  generalize (lg_sl ([.ref x0, .int (nI j), .int p2, .ref o0]) ++ List.replicate (5 - (lg_sl ([.ref x0, .int (nI j), .int p2, .ref o0])).length) Slot.unset).toArray = ls at hl ⊢
  have hl : lv_has ls 5 [(0, .ref x0), (1, .int (nI j)), (2, .int p2), (3, .ref o0)] := hl
  refine lv_aload_n hx hb dL_in_0 rfl (lv_at hl 3 rfl) ?_
  refine lv_iconst (v := 0) hx hb dL_in_1 (by decide) ?_
  refine lv_aload_n hx hb dL_in_2 rfl (lv_at hl 0 rfl) ?_
  refine lv_iload_n hx hb dL_in_3 rfl (lv_at hl 1 rfl) ?_
  refine lv_iload_n hx hb dL_in_4 rfl (lv_at hl 2 rfl) ?_
  have J := zJ.mk (wc := [(x0, .inr (5, [.ref h0, .ref b0, .ref w0, .ref s0, .ref m0, .ref g0, .int (nI cl)])), (s0, .inl (D.2 3, 4, .inr (.inr (.inr (.inr fs))))), (t0, .inr (4, [.ref t1, .ref t2, .int (nI n)])), (t1, .inl (D.2 0, 12, .inl fp)), (t2, .inl (D.2 0, 12, .inl fc))]) (wr := [(o0, .inl (D.2 1, 1, .inr (.inl ou)))]) hA hB hK hP hD hS [1, 2, 3, 4, 5] [0] rfl rfl (by decide)
  refine z_xgol (z_xrunV (As := [.int (nI j), .int p2]) (rest := [.int 0, .ref o0]) (b := x0) hF (c_in hl9 D x0 h0 b0 w0 m0 g0 cl s0 t0 t1 t2 n fs fp fc j p2 s.heap.size hj hf hn) (cwV 2 hZ (z_gV t_250 t_251 t_252 t_55 t_249) rfl rfl rfl (by decide +kernel) ⟨Nat.le_of_ble_eq_true rfl, Nat.le_of_ble_eq_true rfl⟩) J 0 5 rfl rfl rfl rfl hl.1 (Nat.le_of_ble_eq_true rfl) dL_in_5 ⟨Nat.le_of_ble_eq_true rfl, Nat.le_of_ble_eq_true rfl⟩) J (fun EX ce q9 H locs w1 hP hD hS hce hcv hcl => ?_) (fun r1 _ H locs w1 hP hD hS => ?_)
  · have hP : va_P D.1 vwCl [(o0, .inl (D.2 1, 1, .inr (.inl ou))), (x0, .inr (5, [.ref h0, .ref b0, .ref w0, .ref s0, .ref m0, .ref g0, .int (nI cl)])), (s0, .inl (D.2 3, 4, .inr (.inr (.inr (.inr fs))))), (t0, .inr (4, [.ref t1, .ref t2, .int (nI n)])), (t1, .inl (D.2 0, 12, .inl fp)), (t2, .inl (D.2 0, 12, .inl fc))] H := hP
    have hD : va_D A [(o0, .inl (D.2 1, 1, .inr (.inl ou))), (x0, .inr (5, [.ref h0, .ref b0, .ref w0, .ref s0, .ref m0, .ref g0, .int (nI cl)])), (s0, .inl (D.2 3, 4, .inr (.inr (.inr (.inr fs))))), (t0, .inr (4, [.ref t1, .ref t2, .int (nI n)])), (t1, .inl (D.2 0, 12, .inl fp)), (t2, .inl (D.2 0, 12, .inl fc))] := hD
    have wE := w1
    obtain rfl : EX = "java/lang/IndexOutOfBoundsException" := w1.1
    refine vx_catch (own := "ShopLedgerLaw") (name := "java/lang/IndexOutOfBoundsException") (E := "java/lang/IndexOutOfBoundsException") hown [] ⟨0, 9, 12, 13⟩ [] (by rw [hTab]; rfl) (fun z hz => nomatch hz) (by decide) (by decide) (hZ _ t_205) (va_Nw.use rfl (hB.2.2.2.1 ("java/lang/IndexOutOfBoundsException", "java/lang/IndexOutOfBoundsException") (by decide +kernel))) hce hcv hcl ?_
    refine lv_astore (lv' := [(4, .ref q9), (0, .ref x0), (1, .int (nI j)), (2, .int p2), (3, .ref o0)]) hx hb dL_in_12 hl (by decide) rfl (fun ls hl => ?_)
    refine lv_iconst (v := 1) hx hb dL_in_14 (by decide) ?_
    exact z_iret (v := 1) hx hb hr hlocks hP hD hS none (Or.inr ⟨rfl, _, wE, by decide +kernel⟩) [0, 1, 2, 3, 4, 5] rfl (by decide) (Nat.le_of_ble_eq_true rfl) (Nat.le_of_ble_eq_true rfl) dL_in_15
  have hP : va_P D.1 vwCl [(o0, .inl (D.2 1, 1, .inr (.inl ou))), (x0, .inr (5, [.ref h0, .ref b0, .ref w0, .ref s0, .ref m0, .ref g0, .int (nI cl)])), (s0, .inl (D.2 3, 4, .inr (.inr (.inr (.inr fs))))), (t0, .inr (4, [.ref t1, .ref t2, .int (nI n)])), (t1, .inl (D.2 0, 12, .inl fp)), (t2, .inl (D.2 0, 12, .inl fc))] H := hP
  have hD : va_D A [(o0, .inl (D.2 1, 1, .inr (.inl ou))), (x0, .inr (5, [.ref h0, .ref b0, .ref w0, .ref s0, .ref m0, .ref g0, .int (nI cl)])), (s0, .inl (D.2 3, 4, .inr (.inr (.inr (.inr fs))))), (t0, .inr (4, [.ref t1, .ref t2, .int (nI n)])), (t1, .inl (D.2 0, 12, .inl fp)), (t2, .inl (D.2 0, 12, .inl fc))] := hD
  refine z_last (k := 0) hx hb hK hP hD hS 0 rfl (by decide) (by decide) dL_in_8 (fun H locs hP hD hS => ?_)
  have hP : va_P D.1 vwCl [(o0, .inl (D.2 1, 1, .inr (.inl (vp_updL ou 0 r1)))), (x0, .inr (5, [.ref h0, .ref b0, .ref w0, .ref s0, .ref m0, .ref g0, .int (nI cl)])), (s0, .inl (D.2 3, 4, .inr (.inr (.inr (.inr fs))))), (t0, .inr (4, [.ref t1, .ref t2, .int (nI n)])), (t1, .inl (D.2 0, 12, .inl fp)), (t2, .inl (D.2 0, 12, .inl fc))] H := hP
  have hD : va_D A [(o0, .inl (D.2 1, 1, .inr (.inl (vp_updL ou 0 r1)))), (x0, .inr (5, [.ref h0, .ref b0, .ref w0, .ref s0, .ref m0, .ref g0, .int (nI cl)])), (s0, .inl (D.2 3, 4, .inr (.inr (.inr (.inr fs))))), (t0, .inr (4, [.ref t1, .ref t2, .int (nI n)])), (t1, .inl (D.2 0, 12, .inl fp)), (t2, .inl (D.2 0, 12, .inl fc))] := hD
  refine lv_goto (tgt := 16) hx hb dL_in_9 (by decide) ?_
  refine lv_iconst (v := 0) hx hb dL_in_16 (by decide) ?_
  exact z_iret (v := 0) hx hb hr hlocks hP hD hS (some r1) (Or.inl ⟨r1, rfl, rfl, w1⟩) [0, 1, 2, 3, 4, 5] rfl (by decide) (Nat.le_of_ble_eq_true rfl) (Nat.le_of_ble_eq_true rfl) dL_in_17
set_option maxHeartbeats 4000000 in
set_option maxRecDepth 100000 in
/-- the law calls rate -/
theorem w_rate {l : Launch} (D : zD) (x0 h0 b0 w0 s0 g0 cl : Nat) (m0 t0 t1 t2 n : Nat) (fs : Nat → Option Nat) (fd fc : Nat → Int32) (j : Nat) (p2 p3 : Int32) (o0 : Nat) (ou : Nat → Int64) (sz : Nat) (hl9 : l.stackTraces = false) (hj : j < 3) (hf : fs j = some t0) (hn : n ≤ 10) : Met l yL_rate wsL_rate ({ frames := 8, cells := 5, slots := 30, locals := 135 }) (va_Pc [.ref x0, .int (nI j), .int p2, .int p3, .ref o0] (zp D sz [(o0, .inl (D.2 1, 1, .inr (.inl ou))), (x0, .inr (5, [.ref h0, .ref b0, .ref w0, .ref s0, .ref m0, .ref g0, .int (nI cl)])), (m0, .inl (D.2 4, 3, .inr (.inr (.inr (.inr fs))))), (t0, .inr (2, [.ref t1, .ref t2, .int (nI n)])), (t1, .inl (D.2 0, 10, .inl fd)), (t2, .inl (D.2 0, 10, .inl fc))])) (va_Qi (fun r (u : Option Int64) => (∃ r9 : Int32, u = some r9.toInt64 ∧ r = 0 ∧ (fun r (_ : Unit) => (¬ 10 ≤ nI n) ∧ (¬ p2 < 0 ∧ p2 ≤ 365 ∧ ¬ p3 < 1 ∧ p3 ≤ 100000000 ∧ (if n = 0 then -1 else fd (n - 1)) < p2) ∧ r = nI (n + 1)) r9 ()) ∨ (u = none ∧ ∃ E9, (fun E => (E = "java/lang/IllegalStateException" ∧ ¬ (¬ 10 ≤ nI n)) ∨ (E = "java/lang/IllegalArgumentException" ∧ (¬ 10 ≤ nI n) ∧ ¬ (¬ p2 < 0 ∧ p2 ≤ 365 ∧ ¬ p3 < 1 ∧ p3 ≤ 100000000 ∧ (if n = 0 then -1 else fd (n - 1)) < p2))) E9 ∧ r = zcd ["java/lang/IndexOutOfBoundsException", "java/lang/IllegalStateException", "java/lang/IllegalArgumentException"] E9)) (zq D (va_A [(o0, .inl (D.2 1, 1, .inr (.inl ou))), (x0, .inr (5, [.ref h0, .ref b0, .ref w0, .ref s0, .ref m0, .ref g0, .int (nI cl)])), (m0, .inl (D.2 4, 3, .inr (.inr (.inr (.inr fs))))), (t0, .inr (2, [.ref t1, .ref t2, .int (nI n)])), (t1, .inl (D.2 0, 10, .inl fd)), (t2, .inl (D.2 0, 10, .inl fc))] sz) (fun (u : Option Int64) => (u.elim [(o0, .inl (D.2 1, 1, .inr (.inl ou))), (x0, .inr (5, [.ref h0, .ref b0, .ref w0, .ref s0, .ref m0, .ref g0, .int (nI cl)])), (m0, .inl (D.2 4, 3, .inr (.inr (.inr (.inr fs))))), (t0, .inr (2, [.ref t1, .ref t2, .int (nI n)])), (t1, .inl (D.2 0, 10, .inl fd)), (t2, .inl (D.2 0, 10, .inl fc))] (fun v => [(o0, .inl (D.2 1, 1, .inr (.inl (vp_updL ou 0 v)))), (x0, .inr (5, [.ref h0, .ref b0, .ref w0, .ref s0, .ref m0, .ref g0, .int (nI cl)])), (m0, .inl (D.2 4, 3, .inr (.inr (.inr (.inr fs))))), (t0, .inr (2, [.ref t1, .ref t2, .int (nI (n + 1))])), (t1, .inl (D.2 0, 10, .inl (upd fd n p2))), (t2, .inl (D.2 0, 10, .inl (upd fc n p3)))]) : va_W))) (va_A [(o0, .inl (D.2 1, 1, .inr (.inl ou))), (x0, .inr (5, [.ref h0, .ref b0, .ref w0, .ref s0, .ref m0, .ref g0, .int (nI cl)])), (m0, .inl (D.2 4, 3, .inr (.inr (.inr (.inr fs))))), (t0, .inr (2, [.ref t1, .ref t2, .int (nI n)])), (t1, .inl (D.2 0, 10, .inl fd)), (t2, .inl (D.2 0, 10, .inl fc))] sz)) 5 30 (va_A [(o0, .inl (D.2 1, 1, .inr (.inl ou))), (x0, .inr (5, [.ref h0, .ref b0, .ref w0, .ref s0, .ref m0, .ref g0, .int (nI cl)])), (m0, .inl (D.2 4, 3, .inr (.inr (.inr (.inr fs))))), (t0, .inr (2, [.ref t1, .ref t2, .int (nI n)])), (t1, .inl (D.2 0, 10, .inl fd)), (t2, .inl (D.2 0, 10, .inl fc))] sz) := by
  refine va_MetW (cc := cL_rate) (maxL := 6) (ret := (some .int)) (hh := [(0, 12, 15, 13), (0, 12, 19, 15), (0, 12, 23, 17)]) (by decide) rfl ?_
  intro p e s m args below meth c s₁ B hml hv
  obtain ⟨rfl, hsz, hP, hK, hD0, hB⟩ := hv
  have hx := B.exec
  have hb := B.bytes
  have hr := B.returns
  have hts := atoms_spec (ws := wsL_rate) B.pre
  have hown : s.vm.findClass "ShopLedgerLaw" = some m.cls := findClass_of_methodNamed B.named
  have hlocks := B.notSynchronized
  have hTab : c.exceptionTable.toList = tableOf [(0, 12, 15, 13), (0, 12, 19, 15), (0, 12, 23, 17)] := vx_table (x := yL_rate) B (hts _ List.mem_cons_self)
  subst hsz
  have hD := hD0.self (sz := s.heap.size)
  generalize hAe : va_A [(o0, .inl (D.2 1, 1, .inr (.inl ou))), (x0, .inr (5, [.ref h0, .ref b0, .ref w0, .ref s0, .ref m0, .ref g0, .int (nI cl)])), (m0, .inl (D.2 4, 3, .inr (.inr (.inr (.inr fs))))), (t0, .inr (2, [.ref t1, .ref t2, .int (nI n)])), (t1, .inl (D.2 0, 10, .inl fd)), (t2, .inl (D.2 0, 10, .inl fc))] s.heap.size = A at hD hB ⊢
  have hA : ∀ q : Nat, s.heap.size ≤ q → A q := fun q h => by rw [← hAe]; exact Or.inr h
  have hS : va_S A s.heap s.heap [] := va_S.rf
  have hZ : ∀ w ∈ zALL, w.before _ s = true := fun w h => hts w (List.mem_cons_of_mem _ h)
  have hF : CallFix p m c cL_rate 6 s _ zALL "ShopLedgerLaw" := ⟨hx, hb, hml, hown, hZ⟩
  have hl := lv_entry ([.ref x0, .int (nI j), .int p2, .int p3, .ref o0]) (n := 6) (Nat.le_of_ble_eq_true rfl)
  rw [lg_entry_eq]
  generalize (lg_sl ([.ref x0, .int (nI j), .int p2, .int p3, .ref o0]) ++ List.replicate (6 - (lg_sl ([.ref x0, .int (nI j), .int p2, .int p3, .ref o0])).length) Slot.unset).toArray = ls at hl ⊢
  have hl : lv_has ls 6 [(0, .ref x0), (1, .int (nI j)), (2, .int p2), (3, .int p3), (4, .ref o0)] := hl
  refine lv_aload hx hb dL_rate_0 (lv_at hl 4 rfl) ?_
  refine lv_iconst (v := 0) hx hb dL_rate_2 (by decide) ?_
  refine lv_aload_n hx hb dL_rate_3 rfl (lv_at hl 0 rfl) ?_
  refine lv_iload_n hx hb dL_rate_4 rfl (lv_at hl 1 rfl) ?_
  refine lv_iload_n hx hb dL_rate_5 rfl (lv_at hl 2 rfl) ?_
  refine lv_iload_n hx hb dL_rate_6 rfl (lv_at hl 3 rfl) ?_
  have J := zJ.mk (wc := [(x0, .inr (5, [.ref h0, .ref b0, .ref w0, .ref s0, .ref m0, .ref g0, .int (nI cl)])), (m0, .inl (D.2 4, 3, .inr (.inr (.inr (.inr fs))))), (t0, .inr (2, [.ref t1, .ref t2, .int (nI n)])), (t1, .inl (D.2 0, 10, .inl fd)), (t2, .inl (D.2 0, 10, .inl fc))]) (wr := [(o0, .inl (D.2 1, 1, .inr (.inl ou)))]) hA hB hK hP hD hS [1, 2, 3, 4, 5] [0] rfl rfl (by decide)
  refine z_xgoi (z_xrunV (As := [.int (nI j), .int p2, .int p3]) (rest := [.int 0, .ref o0]) (b := x0) hF (c_rate hl9 D x0 h0 b0 w0 s0 g0 cl m0 t0 t1 t2 n fs fd fc j p2 p3 s.heap.size hj hf hn) (cwV 3 hZ (z_gV t_254 t_255 t_256 t_55 t_253) rfl rfl rfl (by decide +kernel) ⟨Nat.le_of_ble_eq_true rfl, Nat.le_of_ble_eq_true rfl⟩) J 0 5 rfl rfl rfl rfl hl.1 (Nat.le_of_ble_eq_true rfl) dL_rate_7 ⟨Nat.le_of_ble_eq_true rfl, Nat.le_of_ble_eq_true rfl⟩) J (fun EX ce q9 H locs w1 hP hD hS hce hcv hcl => ?_) (fun r1 _ H locs w1 hP hD hS => ?_)
  · have hP : va_P D.1 vwCl [(o0, .inl (D.2 1, 1, .inr (.inl ou))), (x0, .inr (5, [.ref h0, .ref b0, .ref w0, .ref s0, .ref m0, .ref g0, .int (nI cl)])), (m0, .inl (D.2 4, 3, .inr (.inr (.inr (.inr fs))))), (t0, .inr (2, [.ref t1, .ref t2, .int (nI n)])), (t1, .inl (D.2 0, 10, .inl fd)), (t2, .inl (D.2 0, 10, .inl fc))] H := hP
    have hD : va_D A [(o0, .inl (D.2 1, 1, .inr (.inl ou))), (x0, .inr (5, [.ref h0, .ref b0, .ref w0, .ref s0, .ref m0, .ref g0, .int (nI cl)])), (m0, .inl (D.2 4, 3, .inr (.inr (.inr (.inr fs))))), (t0, .inr (2, [.ref t1, .ref t2, .int (nI n)])), (t1, .inl (D.2 0, 10, .inl fd)), (t2, .inl (D.2 0, 10, .inl fc))] := hD
    have wE := w1
    rcases w1 with ⟨rfl, -⟩ | ⟨rfl, -⟩
    · skip
      refine vx_catch (own := "ShopLedgerLaw") (name := "java/lang/IllegalStateException") (E := "java/lang/IllegalStateException") hown [⟨0, 12, 15, 13⟩] ⟨0, 12, 19, 15⟩ [⟨0, 12, 23, 17⟩] (by rw [hTab]; rfl) (by
          intro z hz
          rcases List.mem_cons.mp hz with rfl | hz
          · exact Or.inr ⟨by decide, "java/lang/IndexOutOfBoundsException", (hZ _ t_205), hB.2.2.2.2.2.2.1 ("java/lang/IllegalStateException", "java/lang/IndexOutOfBoundsException") (by decide +kernel)⟩
          cases hz) (by decide) (by decide) (hZ _ t_206) (va_Nw.use rfl (hB.2.2.2.1 ("java/lang/IllegalStateException", "java/lang/IllegalStateException") (by decide +kernel))) hce hcv hcl ?_
      refine lv_astore (lv' := [(5, .ref q9), (0, .ref x0), (1, .int (nI j)), (2, .int p2), (3, .int p3), (4, .ref o0)]) hx hb dL_rate_19 hl (by decide) rfl (fun ls hl => ?_)
      refine lv_iconst (v := 2) hx hb dL_rate_21 (by decide) ?_
      exact z_iret (v := 2) hx hb hr hlocks hP hD hS none (Or.inr ⟨rfl, _, wE, by decide +kernel⟩) [0, 1, 2, 3, 4, 5] rfl (by decide) (Nat.le_of_ble_eq_true rfl) (Nat.le_of_ble_eq_true rfl) dL_rate_22
    · skip
      refine vx_catch (own := "ShopLedgerLaw") (name := "java/lang/IllegalArgumentException") (E := "java/lang/IllegalArgumentException") hown [⟨0, 12, 15, 13⟩, ⟨0, 12, 19, 15⟩] ⟨0, 12, 23, 17⟩ [] (by rw [hTab]; rfl) (by
          intro z hz
          rcases List.mem_cons.mp hz with rfl | hz
          · exact Or.inr ⟨by decide, "java/lang/IndexOutOfBoundsException", (hZ _ t_205), hB.2.2.2.2.2.2.1 ("java/lang/IllegalArgumentException", "java/lang/IndexOutOfBoundsException") (by decide +kernel)⟩
          rcases List.mem_cons.mp hz with rfl | hz
          · exact Or.inr ⟨by decide, "java/lang/IllegalStateException", (hZ _ t_206), hB.2.2.2.2.2.2.1 ("java/lang/IllegalArgumentException", "java/lang/IllegalStateException") (by decide +kernel)⟩
          cases hz) (by decide) (by decide) (hZ _ t_207) (va_Nw.use rfl (hB.2.2.2.1 ("java/lang/IllegalArgumentException", "java/lang/IllegalArgumentException") (by decide +kernel))) hce hcv hcl ?_
      refine lv_astore (lv' := [(5, .ref q9), (0, .ref x0), (1, .int (nI j)), (2, .int p2), (3, .int p3), (4, .ref o0)]) hx hb dL_rate_23 hl (by decide) rfl (fun ls hl => ?_)
      refine lv_iconst (v := 3) hx hb dL_rate_25 (by decide) ?_
      exact z_iret (v := 3) hx hb hr hlocks hP hD hS none (Or.inr ⟨rfl, _, wE, by decide +kernel⟩) [0, 1, 2, 3, 4, 5] rfl (by decide) (Nat.le_of_ble_eq_true rfl) (Nat.le_of_ble_eq_true rfl) dL_rate_26
  have hP : va_P D.1 vwCl [(o0, .inl (D.2 1, 1, .inr (.inl ou))), (x0, .inr (5, [.ref h0, .ref b0, .ref w0, .ref s0, .ref m0, .ref g0, .int (nI cl)])), (m0, .inl (D.2 4, 3, .inr (.inr (.inr (.inr fs))))), (t0, .inr (2, [.ref t1, .ref t2, .int (nI (n + 1))])), (t1, .inl (D.2 0, 10, .inl (upd fd n p2))), (t2, .inl (D.2 0, 10, .inl (upd fc n p3)))] H := hP
  have hD : va_D A [(o0, .inl (D.2 1, 1, .inr (.inl ou))), (x0, .inr (5, [.ref h0, .ref b0, .ref w0, .ref s0, .ref m0, .ref g0, .int (nI cl)])), (m0, .inl (D.2 4, 3, .inr (.inr (.inr (.inr fs))))), (t0, .inr (2, [.ref t1, .ref t2, .int (nI (n + 1))])), (t1, .inl (D.2 0, 10, .inl (upd fd n p2))), (t2, .inl (D.2 0, 10, .inl (upd fc n p3)))] := hD
  refine lv_i2l (v := r1.toInt64) hx hb dL_rate_10 rfl ?_
  refine z_last (k := 0) hx hb hK hP hD hS 0 rfl (by decide) (by decide) dL_rate_11 (fun H locs hP hD hS => ?_)
  have hP : va_P D.1 vwCl [(o0, .inl (D.2 1, 1, .inr (.inl (vp_updL ou 0 r1.toInt64)))), (x0, .inr (5, [.ref h0, .ref b0, .ref w0, .ref s0, .ref m0, .ref g0, .int (nI cl)])), (m0, .inl (D.2 4, 3, .inr (.inr (.inr (.inr fs))))), (t0, .inr (2, [.ref t1, .ref t2, .int (nI (n + 1))])), (t1, .inl (D.2 0, 10, .inl (upd fd n p2))), (t2, .inl (D.2 0, 10, .inl (upd fc n p3)))] H := hP
  have hD : va_D A [(o0, .inl (D.2 1, 1, .inr (.inl (vp_updL ou 0 r1.toInt64)))), (x0, .inr (5, [.ref h0, .ref b0, .ref w0, .ref s0, .ref m0, .ref g0, .int (nI cl)])), (m0, .inl (D.2 4, 3, .inr (.inr (.inr (.inr fs))))), (t0, .inr (2, [.ref t1, .ref t2, .int (nI (n + 1))])), (t1, .inl (D.2 0, 10, .inl (upd fd n p2))), (t2, .inl (D.2 0, 10, .inl (upd fc n p3)))] := hD
  refine lv_goto (tgt := 27) hx hb dL_rate_12 (by decide) ?_
  refine lv_iconst (v := 0) hx hb dL_rate_27 (by decide) ?_
  exact z_iret (v := 0) hx hb hr hlocks hP hD hS (some r1.toInt64) (Or.inl ⟨r1, rfl, rfl, w1⟩) [0, 1, 2, 3, 4, 5] rfl (by decide) (Nat.le_of_ble_eq_true rfl) (Nat.le_of_ble_eq_true rfl) dL_rate_28
set_option maxHeartbeats 4000000 in
set_option maxRecDepth 100000 in
/-- the law calls foreign -/
theorem w_foreign {l : Launch} (D : zD) (x0 h0 b0 w0 s0 g0 cl : Nat) (m0 t0 t1 t2 n : Nat) (fs : Nat → Option Nat) (fd fc : Nat → Int32) (j : Nat) (p2 p3 : Int32) (o0 : Nat) (ou : Nat → Int64) (sz : Nat) (hl9 : l.stackTraces = false) (hj : j < 3) (hf : fs j = some t0) (hn : n ≤ 10) : Met l yL_foreign wsL_foreign ({ frames := 8, cells := 4, slots := 24, locals := 137 }) (va_Pc [.ref x0, .int (nI j), .int p2, .int p3, .ref o0] (zp D sz [(o0, .inl (D.2 1, 1, .inr (.inl ou))), (x0, .inr (5, [.ref h0, .ref b0, .ref w0, .ref s0, .ref m0, .ref g0, .int (nI cl)])), (m0, .inl (D.2 4, 3, .inr (.inr (.inr (.inr fs))))), (t0, .inr (2, [.ref t1, .ref t2, .int (nI n)])), (t1, .inl (D.2 0, 10, .inl fd)), (t2, .inl (D.2 0, 10, .inl fc))])) (va_Qi (fun r (u : Option Int64) => (∃ r9 : Int64, u = some r9 ∧ r = 0 ∧ (fun r (_ : Unit) => (¬ p2 < 0 ∧ p2 ≤ 365 ∧ ¬ p3 < 0 ∧ p3 ≤ 1000000000) ∧ (¬ (zs_rate fd fc p2 n).toInt64 = 0) ∧ r = (p3.toInt64 * (zs_rate fd fc p2 n).toInt64 + 5000) / 10000) r9 ()) ∨ (u = none ∧ ∃ E9, (fun E => (E = "java/lang/IllegalArgumentException" ∧ ¬ (¬ p2 < 0 ∧ p2 ≤ 365 ∧ ¬ p3 < 0 ∧ p3 ≤ 1000000000)) ∨ (E = "java/lang/UnsupportedOperationException" ∧ (¬ p2 < 0 ∧ p2 ≤ 365 ∧ ¬ p3 < 0 ∧ p3 ≤ 1000000000) ∧ ¬ (¬ (zs_rate fd fc p2 n).toInt64 = 0))) E9 ∧ r = zcd ["java/lang/IndexOutOfBoundsException", "java/lang/IllegalArgumentException", "java/lang/UnsupportedOperationException"] E9)) (zq D (va_A [(o0, .inl (D.2 1, 1, .inr (.inl ou))), (x0, .inr (5, [.ref h0, .ref b0, .ref w0, .ref s0, .ref m0, .ref g0, .int (nI cl)])), (m0, .inl (D.2 4, 3, .inr (.inr (.inr (.inr fs))))), (t0, .inr (2, [.ref t1, .ref t2, .int (nI n)])), (t1, .inl (D.2 0, 10, .inl fd)), (t2, .inl (D.2 0, 10, .inl fc))] sz) (fun (u : Option Int64) => (u.elim [(o0, .inl (D.2 1, 1, .inr (.inl ou))), (x0, .inr (5, [.ref h0, .ref b0, .ref w0, .ref s0, .ref m0, .ref g0, .int (nI cl)])), (m0, .inl (D.2 4, 3, .inr (.inr (.inr (.inr fs))))), (t0, .inr (2, [.ref t1, .ref t2, .int (nI n)])), (t1, .inl (D.2 0, 10, .inl fd)), (t2, .inl (D.2 0, 10, .inl fc))] (fun v => [(o0, .inl (D.2 1, 1, .inr (.inl (vp_updL ou 0 v)))), (x0, .inr (5, [.ref h0, .ref b0, .ref w0, .ref s0, .ref m0, .ref g0, .int (nI cl)])), (m0, .inl (D.2 4, 3, .inr (.inr (.inr (.inr fs))))), (t0, .inr (2, [.ref t1, .ref t2, .int (nI n)])), (t1, .inl (D.2 0, 10, .inl fd)), (t2, .inl (D.2 0, 10, .inl fc))]) : va_W))) (va_A [(o0, .inl (D.2 1, 1, .inr (.inl ou))), (x0, .inr (5, [.ref h0, .ref b0, .ref w0, .ref s0, .ref m0, .ref g0, .int (nI cl)])), (m0, .inl (D.2 4, 3, .inr (.inr (.inr (.inr fs))))), (t0, .inr (2, [.ref t1, .ref t2, .int (nI n)])), (t1, .inl (D.2 0, 10, .inl fd)), (t2, .inl (D.2 0, 10, .inl fc))] sz)) 4 24 (va_A [(o0, .inl (D.2 1, 1, .inr (.inl ou))), (x0, .inr (5, [.ref h0, .ref b0, .ref w0, .ref s0, .ref m0, .ref g0, .int (nI cl)])), (m0, .inl (D.2 4, 3, .inr (.inr (.inr (.inr fs))))), (t0, .inr (2, [.ref t1, .ref t2, .int (nI n)])), (t1, .inl (D.2 0, 10, .inl fd)), (t2, .inl (D.2 0, 10, .inl fc))] sz) := by
  refine va_MetW (cc := cL_foreign) (maxL := 6) (ret := (some .int)) (hh := [(0, 11, 14, 13), (0, 11, 18, 17), (0, 11, 22, 23)]) (by decide) rfl ?_
  intro p e s m args below meth c s₁ B hml hv
  obtain ⟨rfl, hsz, hP, hK, hD0, hB⟩ := hv
  have hx := B.exec
  have hb := B.bytes
  have hr := B.returns
  have hts := atoms_spec (ws := wsL_foreign) B.pre
  have hown : s.vm.findClass "ShopLedgerLaw" = some m.cls := findClass_of_methodNamed B.named
  have hlocks := B.notSynchronized
  have hTab : c.exceptionTable.toList = tableOf [(0, 11, 14, 13), (0, 11, 18, 17), (0, 11, 22, 23)] := vx_table (x := yL_foreign) B (hts _ List.mem_cons_self)
  subst hsz
  have hD := hD0.self (sz := s.heap.size)
  generalize hAe : va_A [(o0, .inl (D.2 1, 1, .inr (.inl ou))), (x0, .inr (5, [.ref h0, .ref b0, .ref w0, .ref s0, .ref m0, .ref g0, .int (nI cl)])), (m0, .inl (D.2 4, 3, .inr (.inr (.inr (.inr fs))))), (t0, .inr (2, [.ref t1, .ref t2, .int (nI n)])), (t1, .inl (D.2 0, 10, .inl fd)), (t2, .inl (D.2 0, 10, .inl fc))] s.heap.size = A at hD hB ⊢
  have hA : ∀ q : Nat, s.heap.size ≤ q → A q := fun q h => by rw [← hAe]; exact Or.inr h
  have hS : va_S A s.heap s.heap [] := va_S.rf
  have hZ : ∀ w ∈ zALL, w.before _ s = true := fun w h => hts w (List.mem_cons_of_mem _ h)
  have hF : CallFix p m c cL_foreign 6 s _ zALL "ShopLedgerLaw" := ⟨hx, hb, hml, hown, hZ⟩
  have hl := lv_entry ([.ref x0, .int (nI j), .int p2, .int p3, .ref o0]) (n := 6) (Nat.le_of_ble_eq_true rfl)
  rw [lg_entry_eq]
  generalize (lg_sl ([.ref x0, .int (nI j), .int p2, .int p3, .ref o0]) ++ List.replicate (6 - (lg_sl ([.ref x0, .int (nI j), .int p2, .int p3, .ref o0])).length) Slot.unset).toArray = ls at hl ⊢
  have hl : lv_has ls 6 [(0, .ref x0), (1, .int (nI j)), (2, .int p2), (3, .int p3), (4, .ref o0)] := hl
  refine lv_aload hx hb dL_foreign_0 (lv_at hl 4 rfl) ?_
  refine lv_iconst (v := 0) hx hb dL_foreign_2 (by decide) ?_
  refine lv_aload_n hx hb dL_foreign_3 rfl (lv_at hl 0 rfl) ?_
  refine lv_iload_n hx hb dL_foreign_4 rfl (lv_at hl 1 rfl) ?_
  refine lv_iload_n hx hb dL_foreign_5 rfl (lv_at hl 2 rfl) ?_
  refine lv_iload_n hx hb dL_foreign_6 rfl (lv_at hl 3 rfl) ?_
  have J := zJ.mk (wc := [(x0, .inr (5, [.ref h0, .ref b0, .ref w0, .ref s0, .ref m0, .ref g0, .int (nI cl)])), (m0, .inl (D.2 4, 3, .inr (.inr (.inr (.inr fs))))), (t0, .inr (2, [.ref t1, .ref t2, .int (nI n)])), (t1, .inl (D.2 0, 10, .inl fd)), (t2, .inl (D.2 0, 10, .inl fc))]) (wr := [(o0, .inl (D.2 1, 1, .inr (.inl ou)))]) hA hB hK hP hD hS [1, 2, 3, 4, 5] [0] rfl rfl (by decide)
  refine z_xgol (z_xrunV (As := [.int (nI j), .int p2, .int p3]) (rest := [.int 0, .ref o0]) (b := x0) hF (c_foreign hl9 D x0 h0 b0 w0 s0 g0 cl m0 t0 t1 t2 n fs fd fc j p2 p3 s.heap.size hj hf hn) (cwV 3 hZ (z_gV t_258 t_259 t_260 t_55 t_257) rfl rfl rfl (by decide +kernel) ⟨Nat.le_of_ble_eq_true rfl, Nat.le_of_ble_eq_true rfl⟩) J 0 5 rfl rfl rfl rfl hl.1 (Nat.le_of_ble_eq_true rfl) dL_foreign_7 ⟨Nat.le_of_ble_eq_true rfl, Nat.le_of_ble_eq_true rfl⟩) J (fun EX ce q9 H locs w1 hP hD hS hce hcv hcl => ?_) (fun r1 _ H locs w1 hP hD hS => ?_)
  · have hP : va_P D.1 vwCl [(o0, .inl (D.2 1, 1, .inr (.inl ou))), (x0, .inr (5, [.ref h0, .ref b0, .ref w0, .ref s0, .ref m0, .ref g0, .int (nI cl)])), (m0, .inl (D.2 4, 3, .inr (.inr (.inr (.inr fs))))), (t0, .inr (2, [.ref t1, .ref t2, .int (nI n)])), (t1, .inl (D.2 0, 10, .inl fd)), (t2, .inl (D.2 0, 10, .inl fc))] H := hP
    have hD : va_D A [(o0, .inl (D.2 1, 1, .inr (.inl ou))), (x0, .inr (5, [.ref h0, .ref b0, .ref w0, .ref s0, .ref m0, .ref g0, .int (nI cl)])), (m0, .inl (D.2 4, 3, .inr (.inr (.inr (.inr fs))))), (t0, .inr (2, [.ref t1, .ref t2, .int (nI n)])), (t1, .inl (D.2 0, 10, .inl fd)), (t2, .inl (D.2 0, 10, .inl fc))] := hD
    have wE := w1
    rcases w1 with ⟨rfl, -⟩ | ⟨rfl, -⟩
    · skip
      refine vx_catch (own := "ShopLedgerLaw") (name := "java/lang/IllegalArgumentException") (E := "java/lang/IllegalArgumentException") hown [⟨0, 11, 14, 13⟩] ⟨0, 11, 18, 17⟩ [⟨0, 11, 22, 23⟩] (by rw [hTab]; rfl) (by
          intro z hz
          rcases List.mem_cons.mp hz with rfl | hz
          · exact Or.inr ⟨by decide, "java/lang/IndexOutOfBoundsException", (hZ _ t_205), hB.2.2.2.2.2.2.1 ("java/lang/IllegalArgumentException", "java/lang/IndexOutOfBoundsException") (by decide +kernel)⟩
          cases hz) (by decide) (by decide) (hZ _ t_207) (va_Nw.use rfl (hB.2.2.2.1 ("java/lang/IllegalArgumentException", "java/lang/IllegalArgumentException") (by decide +kernel))) hce hcv hcl ?_
      refine lv_astore (lv' := [(5, .ref q9), (0, .ref x0), (1, .int (nI j)), (2, .int p2), (3, .int p3), (4, .ref o0)]) hx hb dL_foreign_18 hl (by decide) rfl (fun ls hl => ?_)
      refine lv_iconst (v := 2) hx hb dL_foreign_20 (by decide) ?_
      exact z_iret (v := 2) hx hb hr hlocks hP hD hS none (Or.inr ⟨rfl, _, wE, by decide +kernel⟩) [0, 1, 2, 3, 4, 5] rfl (by decide) (Nat.le_of_ble_eq_true rfl) (Nat.le_of_ble_eq_true rfl) dL_foreign_21
    · skip
      refine vx_catch (own := "ShopLedgerLaw") (name := "java/lang/UnsupportedOperationException") (E := "java/lang/UnsupportedOperationException") hown [⟨0, 11, 14, 13⟩, ⟨0, 11, 18, 17⟩] ⟨0, 11, 22, 23⟩ [] (by rw [hTab]; rfl) (by
          intro z hz
          rcases List.mem_cons.mp hz with rfl | hz
          · exact Or.inr ⟨by decide, "java/lang/IndexOutOfBoundsException", (hZ _ t_205), hB.2.2.2.2.2.2.1 ("java/lang/UnsupportedOperationException", "java/lang/IndexOutOfBoundsException") (by decide +kernel)⟩
          rcases List.mem_cons.mp hz with rfl | hz
          · exact Or.inr ⟨by decide, "java/lang/IllegalArgumentException", (hZ _ t_207), hB.2.2.2.2.2.2.1 ("java/lang/UnsupportedOperationException", "java/lang/IllegalArgumentException") (by decide +kernel)⟩
          cases hz) (by decide) (by decide) (hZ _ t_212) (va_Nw.use rfl (hB.2.2.2.1 ("java/lang/UnsupportedOperationException", "java/lang/UnsupportedOperationException") (by decide +kernel))) hce hcv hcl ?_
      refine lv_astore (lv' := [(5, .ref q9), (0, .ref x0), (1, .int (nI j)), (2, .int p2), (3, .int p3), (4, .ref o0)]) hx hb dL_foreign_22 hl (by decide) rfl (fun ls hl => ?_)
      refine lv_iconst (v := 3) hx hb dL_foreign_24 (by decide) ?_
      exact z_iret (v := 3) hx hb hr hlocks hP hD hS none (Or.inr ⟨rfl, _, wE, by decide +kernel⟩) [0, 1, 2, 3, 4, 5] rfl (by decide) (Nat.le_of_ble_eq_true rfl) (Nat.le_of_ble_eq_true rfl) dL_foreign_25
  have hP : va_P D.1 vwCl [(o0, .inl (D.2 1, 1, .inr (.inl ou))), (x0, .inr (5, [.ref h0, .ref b0, .ref w0, .ref s0, .ref m0, .ref g0, .int (nI cl)])), (m0, .inl (D.2 4, 3, .inr (.inr (.inr (.inr fs))))), (t0, .inr (2, [.ref t1, .ref t2, .int (nI n)])), (t1, .inl (D.2 0, 10, .inl fd)), (t2, .inl (D.2 0, 10, .inl fc))] H := hP
  have hD : va_D A [(o0, .inl (D.2 1, 1, .inr (.inl ou))), (x0, .inr (5, [.ref h0, .ref b0, .ref w0, .ref s0, .ref m0, .ref g0, .int (nI cl)])), (m0, .inl (D.2 4, 3, .inr (.inr (.inr (.inr fs))))), (t0, .inr (2, [.ref t1, .ref t2, .int (nI n)])), (t1, .inl (D.2 0, 10, .inl fd)), (t2, .inl (D.2 0, 10, .inl fc))] := hD
  refine z_last (k := 0) hx hb hK hP hD hS 0 rfl (by decide) (by decide) dL_foreign_10 (fun H locs hP hD hS => ?_)
  have hP : va_P D.1 vwCl [(o0, .inl (D.2 1, 1, .inr (.inl (vp_updL ou 0 r1)))), (x0, .inr (5, [.ref h0, .ref b0, .ref w0, .ref s0, .ref m0, .ref g0, .int (nI cl)])), (m0, .inl (D.2 4, 3, .inr (.inr (.inr (.inr fs))))), (t0, .inr (2, [.ref t1, .ref t2, .int (nI n)])), (t1, .inl (D.2 0, 10, .inl fd)), (t2, .inl (D.2 0, 10, .inl fc))] H := hP
  have hD : va_D A [(o0, .inl (D.2 1, 1, .inr (.inl (vp_updL ou 0 r1)))), (x0, .inr (5, [.ref h0, .ref b0, .ref w0, .ref s0, .ref m0, .ref g0, .int (nI cl)])), (m0, .inl (D.2 4, 3, .inr (.inr (.inr (.inr fs))))), (t0, .inr (2, [.ref t1, .ref t2, .int (nI n)])), (t1, .inl (D.2 0, 10, .inl fd)), (t2, .inl (D.2 0, 10, .inl fc))] := hD
  refine lv_goto (tgt := 26) hx hb dL_foreign_11 (by decide) ?_
  refine lv_iconst (v := 0) hx hb dL_foreign_26 (by decide) ?_
  exact z_iret (v := 0) hx hb hr hlocks hP hD hS (some r1) (Or.inl ⟨r1, rfl, rfl, w1⟩) [0, 1, 2, 3, 4, 5] rfl (by decide) (Nat.le_of_ble_eq_true rfl) (Nat.le_of_ble_eq_true rfl) dL_foreign_27
set_option maxHeartbeats 4000000 in
set_option maxRecDepth 100000 in
/-- the law calls piece -/
theorem w_piece {l : Launch} (D : zD) (x0 h0 b0 w0 s0 m0 cl : Nat) (g0 g1 g2 n : Nat) (fo fw : Nat → Int32) (p1 p2 : Int32) (o0 : Nat) (ou : Nat → Int64) (sz : Nat) (hl9 : l.stackTraces = false) (hn : n ≤ 10) : Met l yL_piece wsL_piece ({ frames := 8, cells := 3, slots := 18, locals := 134 }) (va_Pc [.ref x0, .int p1, .int p2, .ref o0] (zp D sz [(o0, .inl (D.2 1, 1, .inr (.inl ou))), (x0, .inr (5, [.ref h0, .ref b0, .ref w0, .ref s0, .ref m0, .ref g0, .int (nI cl)])), (g0, .inr (3, [.ref g1, .ref g2, .int (nI n)])), (g1, .inl (D.2 0, 10, .inl fo)), (g2, .inl (D.2 0, 10, .inl fw))])) (va_Qi (fun r (u : Option Int64) => (∃ r9 : Int32, u = some r9.toInt64 ∧ r = 0 ∧ (fun r (_ : Unit) => (zin p1 8) ∧ (¬ 10 ≤ nI n) ∧ (¬ p2 < 1 ∧ p2 ≤ 1000000) ∧ r = nI n) r9 ()) ∨ (u = none ∧ ∃ E9, (fun E => (E = "java/lang/IndexOutOfBoundsException" ∧ ¬ (zin p1 8)) ∨ (E = "java/lang/IllegalStateException" ∧ (zin p1 8) ∧ ¬ (¬ 10 ≤ nI n)) ∨ (E = "java/lang/IllegalArgumentException" ∧ (zin p1 8) ∧ (¬ 10 ≤ nI n) ∧ ¬ (¬ p2 < 1 ∧ p2 ≤ 1000000))) E9 ∧ r = zcd ["java/lang/IndexOutOfBoundsException", "java/lang/IllegalStateException", "java/lang/IllegalArgumentException"] E9)) (zq D (va_A [(o0, .inl (D.2 1, 1, .inr (.inl ou))), (x0, .inr (5, [.ref h0, .ref b0, .ref w0, .ref s0, .ref m0, .ref g0, .int (nI cl)])), (g0, .inr (3, [.ref g1, .ref g2, .int (nI n)])), (g1, .inl (D.2 0, 10, .inl fo)), (g2, .inl (D.2 0, 10, .inl fw))] sz) (fun (u : Option Int64) => (u.elim [(o0, .inl (D.2 1, 1, .inr (.inl ou))), (x0, .inr (5, [.ref h0, .ref b0, .ref w0, .ref s0, .ref m0, .ref g0, .int (nI cl)])), (g0, .inr (3, [.ref g1, .ref g2, .int (nI n)])), (g1, .inl (D.2 0, 10, .inl fo)), (g2, .inl (D.2 0, 10, .inl fw))] (fun v => [(o0, .inl (D.2 1, 1, .inr (.inl (vp_updL ou 0 v)))), (x0, .inr (5, [.ref h0, .ref b0, .ref w0, .ref s0, .ref m0, .ref g0, .int (nI cl)])), (g0, .inr (3, [.ref g1, .ref g2, .int (nI (n + 1))])), (g1, .inl (D.2 0, 10, .inl (upd fo n p1))), (g2, .inl (D.2 0, 10, .inl (upd fw n p2)))]) : va_W))) (va_A [(o0, .inl (D.2 1, 1, .inr (.inl ou))), (x0, .inr (5, [.ref h0, .ref b0, .ref w0, .ref s0, .ref m0, .ref g0, .int (nI cl)])), (g0, .inr (3, [.ref g1, .ref g2, .int (nI n)])), (g1, .inl (D.2 0, 10, .inl fo)), (g2, .inl (D.2 0, 10, .inl fw))] sz)) 3 18 (va_A [(o0, .inl (D.2 1, 1, .inr (.inl ou))), (x0, .inr (5, [.ref h0, .ref b0, .ref w0, .ref s0, .ref m0, .ref g0, .int (nI cl)])), (g0, .inr (3, [.ref g1, .ref g2, .int (nI n)])), (g1, .inl (D.2 0, 10, .inl fo)), (g2, .inl (D.2 0, 10, .inl fw))] sz) := by
  refine va_MetW (cc := cL_piece) (maxL := 5) (ret := (some .int)) (hh := [(0, 10, 13, 13), (0, 10, 17, 15), (0, 10, 21, 17)]) (by decide) rfl ?_
  intro p e s m args below meth c s₁ B hml hv
  obtain ⟨rfl, hsz, hP, hK, hD0, hB⟩ := hv
  have hx := B.exec
  have hb := B.bytes
  have hr := B.returns
  have hts := atoms_spec (ws := wsL_piece) B.pre
  have hown : s.vm.findClass "ShopLedgerLaw" = some m.cls := findClass_of_methodNamed B.named
  have hlocks := B.notSynchronized
  have hTab : c.exceptionTable.toList = tableOf [(0, 10, 13, 13), (0, 10, 17, 15), (0, 10, 21, 17)] := vx_table (x := yL_piece) B (hts _ List.mem_cons_self)
  subst hsz
  have hD := hD0.self (sz := s.heap.size)
  generalize hAe : va_A [(o0, .inl (D.2 1, 1, .inr (.inl ou))), (x0, .inr (5, [.ref h0, .ref b0, .ref w0, .ref s0, .ref m0, .ref g0, .int (nI cl)])), (g0, .inr (3, [.ref g1, .ref g2, .int (nI n)])), (g1, .inl (D.2 0, 10, .inl fo)), (g2, .inl (D.2 0, 10, .inl fw))] s.heap.size = A at hD hB ⊢
  have hA : ∀ q : Nat, s.heap.size ≤ q → A q := fun q h => by rw [← hAe]; exact Or.inr h
  have hS : va_S A s.heap s.heap [] := va_S.rf
  have hZ : ∀ w ∈ zALL, w.before _ s = true := fun w h => hts w (List.mem_cons_of_mem _ h)
  have hF : CallFix p m c cL_piece 5 s _ zALL "ShopLedgerLaw" := ⟨hx, hb, hml, hown, hZ⟩
  have hl := lv_entry ([.ref x0, .int p1, .int p2, .ref o0]) (n := 5) (Nat.le_of_ble_eq_true rfl)
  rw [lg_entry_eq]
  generalize (lg_sl ([.ref x0, .int p1, .int p2, .ref o0]) ++ List.replicate (5 - (lg_sl ([.ref x0, .int p1, .int p2, .ref o0])).length) Slot.unset).toArray = ls at hl ⊢
  have hl : lv_has ls 5 [(0, .ref x0), (1, .int p1), (2, .int p2), (3, .ref o0)] := hl
  refine lv_aload_n hx hb dL_piece_0 rfl (lv_at hl 3 rfl) ?_
  refine lv_iconst (v := 0) hx hb dL_piece_1 (by decide) ?_
  refine lv_aload_n hx hb dL_piece_2 rfl (lv_at hl 0 rfl) ?_
  refine lv_iload_n hx hb dL_piece_3 rfl (lv_at hl 1 rfl) ?_
  refine lv_iload_n hx hb dL_piece_4 rfl (lv_at hl 2 rfl) ?_
  have J := zJ.mk (wc := [(x0, .inr (5, [.ref h0, .ref b0, .ref w0, .ref s0, .ref m0, .ref g0, .int (nI cl)])), (g0, .inr (3, [.ref g1, .ref g2, .int (nI n)])), (g1, .inl (D.2 0, 10, .inl fo)), (g2, .inl (D.2 0, 10, .inl fw))]) (wr := [(o0, .inl (D.2 1, 1, .inr (.inl ou)))]) hA hB hK hP hD hS [1, 2, 3, 4] [0] rfl rfl (by decide)
  refine z_xgoi (z_xrunV (As := [.int p1, .int p2]) (rest := [.int 0, .ref o0]) (b := x0) hF (c_piece hl9 D x0 h0 b0 w0 s0 m0 cl g0 g1 g2 n fo fw p1 p2 s.heap.size hn) (cwV 2 hZ (z_gV t_262 t_263 t_264 t_55 t_261) rfl rfl rfl (by decide +kernel) ⟨Nat.le_of_ble_eq_true rfl, Nat.le_of_ble_eq_true rfl⟩) J 0 5 rfl rfl rfl rfl hl.1 (Nat.le_of_ble_eq_true rfl) dL_piece_5 ⟨Nat.le_of_ble_eq_true rfl, Nat.le_of_ble_eq_true rfl⟩) J (fun EX ce q9 H locs w1 hP hD hS hce hcv hcl => ?_) (fun r1 _ H locs w1 hP hD hS => ?_)
  · have hP : va_P D.1 vwCl [(o0, .inl (D.2 1, 1, .inr (.inl ou))), (x0, .inr (5, [.ref h0, .ref b0, .ref w0, .ref s0, .ref m0, .ref g0, .int (nI cl)])), (g0, .inr (3, [.ref g1, .ref g2, .int (nI n)])), (g1, .inl (D.2 0, 10, .inl fo)), (g2, .inl (D.2 0, 10, .inl fw))] H := hP
    have hD : va_D A [(o0, .inl (D.2 1, 1, .inr (.inl ou))), (x0, .inr (5, [.ref h0, .ref b0, .ref w0, .ref s0, .ref m0, .ref g0, .int (nI cl)])), (g0, .inr (3, [.ref g1, .ref g2, .int (nI n)])), (g1, .inl (D.2 0, 10, .inl fo)), (g2, .inl (D.2 0, 10, .inl fw))] := hD
    have wE := w1
    rcases w1 with ⟨rfl, -⟩ | ⟨rfl, -⟩ | ⟨rfl, -⟩
    · skip
      refine vx_catch (own := "ShopLedgerLaw") (name := "java/lang/IndexOutOfBoundsException") (E := "java/lang/IndexOutOfBoundsException") hown [] ⟨0, 10, 13, 13⟩ [⟨0, 10, 17, 15⟩, ⟨0, 10, 21, 17⟩] (by rw [hTab]; rfl) (fun z hz => nomatch hz) (by decide) (by decide) (hZ _ t_205) (va_Nw.use rfl (hB.2.2.2.1 ("java/lang/IndexOutOfBoundsException", "java/lang/IndexOutOfBoundsException") (by decide +kernel))) hce hcv hcl ?_
      refine lv_astore (lv' := [(4, .ref q9), (0, .ref x0), (1, .int p1), (2, .int p2), (3, .ref o0)]) hx hb dL_piece_13 hl (by decide) rfl (fun ls hl => ?_)
      refine lv_iconst (v := 1) hx hb dL_piece_15 (by decide) ?_
      exact z_iret (v := 1) hx hb hr hlocks hP hD hS none (Or.inr ⟨rfl, _, wE, by decide +kernel⟩) [0, 1, 2, 3, 4] rfl (by decide) (Nat.le_of_ble_eq_true rfl) (Nat.le_of_ble_eq_true rfl) dL_piece_16
    · skip
      refine vx_catch (own := "ShopLedgerLaw") (name := "java/lang/IllegalStateException") (E := "java/lang/IllegalStateException") hown [⟨0, 10, 13, 13⟩] ⟨0, 10, 17, 15⟩ [⟨0, 10, 21, 17⟩] (by rw [hTab]; rfl) (by
          intro z hz
          rcases List.mem_cons.mp hz with rfl | hz
          · exact Or.inr ⟨by decide, "java/lang/IndexOutOfBoundsException", (hZ _ t_205), hB.2.2.2.2.2.2.1 ("java/lang/IllegalStateException", "java/lang/IndexOutOfBoundsException") (by decide +kernel)⟩
          cases hz) (by decide) (by decide) (hZ _ t_206) (va_Nw.use rfl (hB.2.2.2.1 ("java/lang/IllegalStateException", "java/lang/IllegalStateException") (by decide +kernel))) hce hcv hcl ?_
      refine lv_astore (lv' := [(4, .ref q9), (0, .ref x0), (1, .int p1), (2, .int p2), (3, .ref o0)]) hx hb dL_piece_17 hl (by decide) rfl (fun ls hl => ?_)
      refine lv_iconst (v := 2) hx hb dL_piece_19 (by decide) ?_
      exact z_iret (v := 2) hx hb hr hlocks hP hD hS none (Or.inr ⟨rfl, _, wE, by decide +kernel⟩) [0, 1, 2, 3, 4] rfl (by decide) (Nat.le_of_ble_eq_true rfl) (Nat.le_of_ble_eq_true rfl) dL_piece_20
    · skip
      refine vx_catch (own := "ShopLedgerLaw") (name := "java/lang/IllegalArgumentException") (E := "java/lang/IllegalArgumentException") hown [⟨0, 10, 13, 13⟩, ⟨0, 10, 17, 15⟩] ⟨0, 10, 21, 17⟩ [] (by rw [hTab]; rfl) (by
          intro z hz
          rcases List.mem_cons.mp hz with rfl | hz
          · exact Or.inr ⟨by decide, "java/lang/IndexOutOfBoundsException", (hZ _ t_205), hB.2.2.2.2.2.2.1 ("java/lang/IllegalArgumentException", "java/lang/IndexOutOfBoundsException") (by decide +kernel)⟩
          rcases List.mem_cons.mp hz with rfl | hz
          · exact Or.inr ⟨by decide, "java/lang/IllegalStateException", (hZ _ t_206), hB.2.2.2.2.2.2.1 ("java/lang/IllegalArgumentException", "java/lang/IllegalStateException") (by decide +kernel)⟩
          cases hz) (by decide) (by decide) (hZ _ t_207) (va_Nw.use rfl (hB.2.2.2.1 ("java/lang/IllegalArgumentException", "java/lang/IllegalArgumentException") (by decide +kernel))) hce hcv hcl ?_
      refine lv_astore (lv' := [(4, .ref q9), (0, .ref x0), (1, .int p1), (2, .int p2), (3, .ref o0)]) hx hb dL_piece_21 hl (by decide) rfl (fun ls hl => ?_)
      refine lv_iconst (v := 3) hx hb dL_piece_23 (by decide) ?_
      exact z_iret (v := 3) hx hb hr hlocks hP hD hS none (Or.inr ⟨rfl, _, wE, by decide +kernel⟩) [0, 1, 2, 3, 4] rfl (by decide) (Nat.le_of_ble_eq_true rfl) (Nat.le_of_ble_eq_true rfl) dL_piece_24
  have hP : va_P D.1 vwCl [(o0, .inl (D.2 1, 1, .inr (.inl ou))), (x0, .inr (5, [.ref h0, .ref b0, .ref w0, .ref s0, .ref m0, .ref g0, .int (nI cl)])), (g0, .inr (3, [.ref g1, .ref g2, .int (nI (n + 1))])), (g1, .inl (D.2 0, 10, .inl (upd fo n p1))), (g2, .inl (D.2 0, 10, .inl (upd fw n p2)))] H := hP
  have hD : va_D A [(o0, .inl (D.2 1, 1, .inr (.inl ou))), (x0, .inr (5, [.ref h0, .ref b0, .ref w0, .ref s0, .ref m0, .ref g0, .int (nI cl)])), (g0, .inr (3, [.ref g1, .ref g2, .int (nI (n + 1))])), (g1, .inl (D.2 0, 10, .inl (upd fo n p1))), (g2, .inl (D.2 0, 10, .inl (upd fw n p2)))] := hD
  refine lv_i2l (v := r1.toInt64) hx hb dL_piece_8 rfl ?_
  refine z_last (k := 0) hx hb hK hP hD hS 0 rfl (by decide) (by decide) dL_piece_9 (fun H locs hP hD hS => ?_)
  have hP : va_P D.1 vwCl [(o0, .inl (D.2 1, 1, .inr (.inl (vp_updL ou 0 r1.toInt64)))), (x0, .inr (5, [.ref h0, .ref b0, .ref w0, .ref s0, .ref m0, .ref g0, .int (nI cl)])), (g0, .inr (3, [.ref g1, .ref g2, .int (nI (n + 1))])), (g1, .inl (D.2 0, 10, .inl (upd fo n p1))), (g2, .inl (D.2 0, 10, .inl (upd fw n p2)))] H := hP
  have hD : va_D A [(o0, .inl (D.2 1, 1, .inr (.inl (vp_updL ou 0 r1.toInt64)))), (x0, .inr (5, [.ref h0, .ref b0, .ref w0, .ref s0, .ref m0, .ref g0, .int (nI cl)])), (g0, .inr (3, [.ref g1, .ref g2, .int (nI (n + 1))])), (g1, .inl (D.2 0, 10, .inl (upd fo n p1))), (g2, .inl (D.2 0, 10, .inl (upd fw n p2)))] := hD
  refine lv_goto (tgt := 25) hx hb dL_piece_10 (by decide) ?_
  refine lv_iconst (v := 0) hx hb dL_piece_25 (by decide) ?_
  exact z_iret (v := 0) hx hb hr hlocks hP hD hS (some r1.toInt64) (Or.inl ⟨r1, rfl, rfl, w1⟩) [0, 1, 2, 3, 4] rfl (by decide) (Nat.le_of_ble_eq_true rfl) (Nat.le_of_ble_eq_true rfl) dL_piece_26
set_option maxHeartbeats 4000000 in
set_option maxRecDepth 100000 in
/-- the law calls opened -/
theorem w_opened {l : Launch} (D : zD) (x0 h0 w0 s0 m0 cl : Nat) (g0 g1 g2 n : Nat) (fo fw : Nat → Int32) (b0 b1 b2 b3 b4 b5 b6 b7 b8 b9 : Nat) (E : zE) (bt : Nat) (j : Nat) (o0 : Nat) (ou : Nat → Int64) (sz : Nat) (hl9 : l.stackTraces = false) (hj : j < n) (hn : n ≤ 10) (h1 : vp_in (fo j) 8) : Met l yL_opened wsL_opened ({ frames := 8, cells := 1, slots := 6, locals := 138 }) (va_Pc [.ref x0, .int (nI j), .ref o0] (zp D sz [(o0, .inl (D.2 1, 1, .inr (.inl ou))), (x0, .inr (5, [.ref h0, .ref b0, .ref w0, .ref s0, .ref m0, .ref g0, .int (nI cl)])), (g0, .inr (3, [.ref g1, .ref g2, .int (nI n)])), (g1, .inl (D.2 0, 10, .inl fo)), (g2, .inl (D.2 0, 10, .inl fw)), (b0, .inr (0, [.ref b1, .ref b2, .ref b3, .ref b4, .ref b5, .int (nI E.1), .ref b6, .ref b7, .ref b8, .ref b9, .int (nI bt)])), (b7, .inl (D.2 1, 8, .inr (.inl E.2.2.2.2.2.2.2.1)))])) (va_Qi (fun r (u : Option Int64) => (∃ r9 : Int64, u = some r9 ∧ r = 0 ∧ (fun r (_ : Unit) => r = zs_part (E.2.2.2.2.2.2.2.1 (fo j).toNatClampNeg) (zs_wof fo fw (fo j) j) (fw j).toInt64 (zs_wof fo fw (fo j) n)) r9 ()) ∨ (u = none ∧ ∃ E9, (fun E9 => False) E9 ∧ r = zcd ["java/lang/IndexOutOfBoundsException"] E9)) (zq D (va_A [(o0, .inl (D.2 1, 1, .inr (.inl ou))), (x0, .inr (5, [.ref h0, .ref b0, .ref w0, .ref s0, .ref m0, .ref g0, .int (nI cl)])), (g0, .inr (3, [.ref g1, .ref g2, .int (nI n)])), (g1, .inl (D.2 0, 10, .inl fo)), (g2, .inl (D.2 0, 10, .inl fw)), (b0, .inr (0, [.ref b1, .ref b2, .ref b3, .ref b4, .ref b5, .int (nI E.1), .ref b6, .ref b7, .ref b8, .ref b9, .int (nI bt)])), (b7, .inl (D.2 1, 8, .inr (.inl E.2.2.2.2.2.2.2.1)))] sz) (fun (u : Option Int64) => (u.elim [(o0, .inl (D.2 1, 1, .inr (.inl ou))), (x0, .inr (5, [.ref h0, .ref b0, .ref w0, .ref s0, .ref m0, .ref g0, .int (nI cl)])), (g0, .inr (3, [.ref g1, .ref g2, .int (nI n)])), (g1, .inl (D.2 0, 10, .inl fo)), (g2, .inl (D.2 0, 10, .inl fw)), (b0, .inr (0, [.ref b1, .ref b2, .ref b3, .ref b4, .ref b5, .int (nI E.1), .ref b6, .ref b7, .ref b8, .ref b9, .int (nI bt)])), (b7, .inl (D.2 1, 8, .inr (.inl E.2.2.2.2.2.2.2.1)))] (fun v => [(o0, .inl (D.2 1, 1, .inr (.inl (vp_updL ou 0 v)))), (x0, .inr (5, [.ref h0, .ref b0, .ref w0, .ref s0, .ref m0, .ref g0, .int (nI cl)])), (g0, .inr (3, [.ref g1, .ref g2, .int (nI n)])), (g1, .inl (D.2 0, 10, .inl fo)), (g2, .inl (D.2 0, 10, .inl fw)), (b0, .inr (0, [.ref b1, .ref b2, .ref b3, .ref b4, .ref b5, .int (nI E.1), .ref b6, .ref b7, .ref b8, .ref b9, .int (nI bt)])), (b7, .inl (D.2 1, 8, .inr (.inl E.2.2.2.2.2.2.2.1)))]) : va_W))) (va_A [(o0, .inl (D.2 1, 1, .inr (.inl ou))), (x0, .inr (5, [.ref h0, .ref b0, .ref w0, .ref s0, .ref m0, .ref g0, .int (nI cl)])), (g0, .inr (3, [.ref g1, .ref g2, .int (nI n)])), (g1, .inl (D.2 0, 10, .inl fo)), (g2, .inl (D.2 0, 10, .inl fw)), (b0, .inr (0, [.ref b1, .ref b2, .ref b3, .ref b4, .ref b5, .int (nI E.1), .ref b6, .ref b7, .ref b8, .ref b9, .int (nI bt)])), (b7, .inl (D.2 1, 8, .inr (.inl E.2.2.2.2.2.2.2.1)))] sz)) 1 6 (va_A [(o0, .inl (D.2 1, 1, .inr (.inl ou))), (x0, .inr (5, [.ref h0, .ref b0, .ref w0, .ref s0, .ref m0, .ref g0, .int (nI cl)])), (g0, .inr (3, [.ref g1, .ref g2, .int (nI n)])), (g1, .inl (D.2 0, 10, .inl fo)), (g2, .inl (D.2 0, 10, .inl fw)), (b0, .inr (0, [.ref b1, .ref b2, .ref b3, .ref b4, .ref b5, .int (nI E.1), .ref b6, .ref b7, .ref b8, .ref b9, .int (nI bt)])), (b7, .inl (D.2 1, 8, .inr (.inl E.2.2.2.2.2.2.2.1)))] sz) := by
  refine va_MetW (cc := cL_opened) (maxL := 4) (ret := (some .int)) (hh := [(0, 8, 11, 13)]) (by decide) rfl ?_
  intro p e s m args below meth c s₁ B hml hv
  obtain ⟨rfl, hsz, hP, hK, hD0, hB⟩ := hv
  have hx := B.exec
  have hb := B.bytes
  have hr := B.returns
  have hts := atoms_spec (ws := wsL_opened) B.pre
  have hown : s.vm.findClass "ShopLedgerLaw" = some m.cls := findClass_of_methodNamed B.named
  have hlocks := B.notSynchronized
  have hTab : c.exceptionTable.toList = tableOf [(0, 8, 11, 13)] := vx_table (x := yL_opened) B (hts _ List.mem_cons_self)
  subst hsz
  have hD := hD0.self (sz := s.heap.size)
  generalize hAe : va_A [(o0, .inl (D.2 1, 1, .inr (.inl ou))), (x0, .inr (5, [.ref h0, .ref b0, .ref w0, .ref s0, .ref m0, .ref g0, .int (nI cl)])), (g0, .inr (3, [.ref g1, .ref g2, .int (nI n)])), (g1, .inl (D.2 0, 10, .inl fo)), (g2, .inl (D.2 0, 10, .inl fw)), (b0, .inr (0, [.ref b1, .ref b2, .ref b3, .ref b4, .ref b5, .int (nI E.1), .ref b6, .ref b7, .ref b8, .ref b9, .int (nI bt)])), (b7, .inl (D.2 1, 8, .inr (.inl E.2.2.2.2.2.2.2.1)))] s.heap.size = A at hD hB ⊢
  have hA : ∀ q : Nat, s.heap.size ≤ q → A q := fun q h => by rw [← hAe]; exact Or.inr h
  have hS : va_S A s.heap s.heap [] := va_S.rf
  have hZ : ∀ w ∈ zALL, w.before _ s = true := fun w h => hts w (List.mem_cons_of_mem _ h)
  have hF : CallFix p m c cL_opened 4 s _ zALL "ShopLedgerLaw" := ⟨hx, hb, hml, hown, hZ⟩
  have hl := lv_entry ([.ref x0, .int (nI j), .ref o0]) (n := 4) (Nat.le_of_ble_eq_true rfl)
  rw [lg_entry_eq]
  generalize (lg_sl ([.ref x0, .int (nI j), .ref o0]) ++ List.replicate (4 - (lg_sl ([.ref x0, .int (nI j), .ref o0])).length) Slot.unset).toArray = ls at hl ⊢
  have hl : lv_has ls 4 [(0, .ref x0), (1, .int (nI j)), (2, .ref o0)] := hl
  refine lv_aload_n hx hb dL_opened_0 rfl (lv_at hl 2 rfl) ?_
  refine lv_iconst (v := 0) hx hb dL_opened_1 (by decide) ?_
  refine lv_aload_n hx hb dL_opened_2 rfl (lv_at hl 0 rfl) ?_
  refine lv_iload_n hx hb dL_opened_3 rfl (lv_at hl 1 rfl) ?_
  have J := zJ.mk (wc := [(x0, .inr (5, [.ref h0, .ref b0, .ref w0, .ref s0, .ref m0, .ref g0, .int (nI cl)])), (g0, .inr (3, [.ref g1, .ref g2, .int (nI n)])), (g1, .inl (D.2 0, 10, .inl fo)), (g2, .inl (D.2 0, 10, .inl fw)), (b0, .inr (0, [.ref b1, .ref b2, .ref b3, .ref b4, .ref b5, .int (nI E.1), .ref b6, .ref b7, .ref b8, .ref b9, .int (nI bt)])), (b7, .inl (D.2 1, 8, .inr (.inl E.2.2.2.2.2.2.2.1)))]) (wr := [(o0, .inl (D.2 1, 1, .inr (.inl ou)))]) hA hB hK hP hD hS [1, 2, 3, 4, 5, 6] [0] rfl rfl (by decide)
  refine z_xgol (z_xrunV (As := [.int (nI j)]) (rest := [.int 0, .ref o0]) (b := x0) hF (c_opened hl9 D x0 h0 w0 s0 m0 cl g0 g1 g2 n fo fw b0 b1 b2 b3 b4 b5 b6 b7 b8 b9 E bt j s.heap.size hj hn h1) (cwV 1 hZ (z_gV t_266 t_267 t_268 t_55 t_265) rfl rfl rfl (by decide +kernel) ⟨Nat.le_of_ble_eq_true rfl, Nat.le_of_ble_eq_true rfl⟩) J 0 5 rfl rfl rfl rfl hl.1 (Nat.le_of_ble_eq_true rfl) dL_opened_4 ⟨Nat.le_of_ble_eq_true rfl, Nat.le_of_ble_eq_true rfl⟩) J (fun EX ce q9 H locs w1 hP hD hS hce hcv hcl => ?_) (fun r1 _ H locs w1 hP hD hS => ?_)
  · have hP : va_P D.1 vwCl [(o0, .inl (D.2 1, 1, .inr (.inl ou))), (x0, .inr (5, [.ref h0, .ref b0, .ref w0, .ref s0, .ref m0, .ref g0, .int (nI cl)])), (g0, .inr (3, [.ref g1, .ref g2, .int (nI n)])), (g1, .inl (D.2 0, 10, .inl fo)), (g2, .inl (D.2 0, 10, .inl fw)), (b0, .inr (0, [.ref b1, .ref b2, .ref b3, .ref b4, .ref b5, .int (nI E.1), .ref b6, .ref b7, .ref b8, .ref b9, .int (nI bt)])), (b7, .inl (D.2 1, 8, .inr (.inl E.2.2.2.2.2.2.2.1)))] H := hP
    have hD : va_D A [(o0, .inl (D.2 1, 1, .inr (.inl ou))), (x0, .inr (5, [.ref h0, .ref b0, .ref w0, .ref s0, .ref m0, .ref g0, .int (nI cl)])), (g0, .inr (3, [.ref g1, .ref g2, .int (nI n)])), (g1, .inl (D.2 0, 10, .inl fo)), (g2, .inl (D.2 0, 10, .inl fw)), (b0, .inr (0, [.ref b1, .ref b2, .ref b3, .ref b4, .ref b5, .int (nI E.1), .ref b6, .ref b7, .ref b8, .ref b9, .int (nI bt)])), (b7, .inl (D.2 1, 8, .inr (.inl E.2.2.2.2.2.2.2.1)))] := hD
    exact False.elim w1
  have hP : va_P D.1 vwCl [(o0, .inl (D.2 1, 1, .inr (.inl ou))), (x0, .inr (5, [.ref h0, .ref b0, .ref w0, .ref s0, .ref m0, .ref g0, .int (nI cl)])), (g0, .inr (3, [.ref g1, .ref g2, .int (nI n)])), (g1, .inl (D.2 0, 10, .inl fo)), (g2, .inl (D.2 0, 10, .inl fw)), (b0, .inr (0, [.ref b1, .ref b2, .ref b3, .ref b4, .ref b5, .int (nI E.1), .ref b6, .ref b7, .ref b8, .ref b9, .int (nI bt)])), (b7, .inl (D.2 1, 8, .inr (.inl E.2.2.2.2.2.2.2.1)))] H := hP
  have hD : va_D A [(o0, .inl (D.2 1, 1, .inr (.inl ou))), (x0, .inr (5, [.ref h0, .ref b0, .ref w0, .ref s0, .ref m0, .ref g0, .int (nI cl)])), (g0, .inr (3, [.ref g1, .ref g2, .int (nI n)])), (g1, .inl (D.2 0, 10, .inl fo)), (g2, .inl (D.2 0, 10, .inl fw)), (b0, .inr (0, [.ref b1, .ref b2, .ref b3, .ref b4, .ref b5, .int (nI E.1), .ref b6, .ref b7, .ref b8, .ref b9, .int (nI bt)])), (b7, .inl (D.2 1, 8, .inr (.inl E.2.2.2.2.2.2.2.1)))] := hD
  refine z_last (k := 0) hx hb hK hP hD hS 0 rfl (by decide) (by decide) dL_opened_7 (fun H locs hP hD hS => ?_)
  have hP : va_P D.1 vwCl [(o0, .inl (D.2 1, 1, .inr (.inl (vp_updL ou 0 r1)))), (x0, .inr (5, [.ref h0, .ref b0, .ref w0, .ref s0, .ref m0, .ref g0, .int (nI cl)])), (g0, .inr (3, [.ref g1, .ref g2, .int (nI n)])), (g1, .inl (D.2 0, 10, .inl fo)), (g2, .inl (D.2 0, 10, .inl fw)), (b0, .inr (0, [.ref b1, .ref b2, .ref b3, .ref b4, .ref b5, .int (nI E.1), .ref b6, .ref b7, .ref b8, .ref b9, .int (nI bt)])), (b7, .inl (D.2 1, 8, .inr (.inl E.2.2.2.2.2.2.2.1)))] H := hP
  have hD : va_D A [(o0, .inl (D.2 1, 1, .inr (.inl (vp_updL ou 0 r1)))), (x0, .inr (5, [.ref h0, .ref b0, .ref w0, .ref s0, .ref m0, .ref g0, .int (nI cl)])), (g0, .inr (3, [.ref g1, .ref g2, .int (nI n)])), (g1, .inl (D.2 0, 10, .inl fo)), (g2, .inl (D.2 0, 10, .inl fw)), (b0, .inr (0, [.ref b1, .ref b2, .ref b3, .ref b4, .ref b5, .int (nI E.1), .ref b6, .ref b7, .ref b8, .ref b9, .int (nI bt)])), (b7, .inl (D.2 1, 8, .inr (.inl E.2.2.2.2.2.2.2.1)))] := hD
  refine lv_goto (tgt := 14) hx hb dL_opened_8 (by decide) ?_
  refine lv_iconst (v := 0) hx hb dL_opened_14 (by decide) ?_
  exact z_iret (v := 0) hx hb hr hlocks hP hD hS (some r1) (Or.inl ⟨r1, rfl, rfl, w1⟩) [0, 1, 2, 3, 4, 5, 6] rfl (by decide) (Nat.le_of_ble_eq_true rfl) (Nat.le_of_ble_eq_true rfl) dL_opened_15
set_option maxHeartbeats 4000000 in
set_option maxRecDepth 100000 in
/-- the law calls share, of what is not there -/
theorem w_shareX {l : Launch} (D : zD) (x0 h0 b0 w0 s0 m0 g0 cl : Nat) (p1 p2 : Int32) (o0 : Nat) (ou : Nat → Int64) (sz : Nat) (hl9 : l.stackTraces = false) (hp : ¬ zin p1 8) : Met l yL_share wsL_share ({ frames := 8, cells := 1, slots := 6, locals := 138 }) (va_Pc [.ref x0, .int p1, .int p2, .ref o0] (zp D sz [(o0, .inl (D.2 1, 1, .inr (.inl ou))), (x0, .inr (5, [.ref h0, .ref b0, .ref w0, .ref s0, .ref m0, .ref g0, .int (nI cl)]))])) (va_Qi (fun r (u : Option Int64) => (∃ r9 : Int64, u = some r9 ∧ r = 0 ∧ (fun r (_ : Unit) => False) r9 ()) ∨ (u = none ∧ ∃ E9, (fun E9 => E9 = "java/lang/IndexOutOfBoundsException") E9 ∧ r = zcd ["java/lang/IndexOutOfBoundsException", "java/lang/IllegalArgumentException", "java/lang/UnsupportedOperationException"] E9)) (zq D (va_A [(o0, .inl (D.2 1, 1, .inr (.inl ou))), (x0, .inr (5, [.ref h0, .ref b0, .ref w0, .ref s0, .ref m0, .ref g0, .int (nI cl)]))] sz) (fun (u : Option Int64) => (u.elim [(o0, .inl (D.2 1, 1, .inr (.inl ou))), (x0, .inr (5, [.ref h0, .ref b0, .ref w0, .ref s0, .ref m0, .ref g0, .int (nI cl)]))] (fun v => [(o0, .inl (D.2 1, 1, .inr (.inl (vp_updL ou 0 v)))), (x0, .inr (5, [.ref h0, .ref b0, .ref w0, .ref s0, .ref m0, .ref g0, .int (nI cl)]))]) : va_W))) (va_A [(o0, .inl (D.2 1, 1, .inr (.inl ou))), (x0, .inr (5, [.ref h0, .ref b0, .ref w0, .ref s0, .ref m0, .ref g0, .int (nI cl)]))] sz)) 1 6 (va_A [(o0, .inl (D.2 1, 1, .inr (.inl ou))), (x0, .inr (5, [.ref h0, .ref b0, .ref w0, .ref s0, .ref m0, .ref g0, .int (nI cl)]))] sz) := by
  refine va_MetW (cc := cL_share) (maxL := 5) (ret := (some .int)) (hh := [(0, 9, 12, 13), (0, 9, 16, 17), (0, 9, 20, 23)]) (by decide) rfl ?_
  intro p e s m args below meth c s₁ B hml hv
  obtain ⟨rfl, hsz, hP, hK, hD0, hB⟩ := hv
  have hx := B.exec
  have hb := B.bytes
  have hr := B.returns
  have hts := atoms_spec (ws := wsL_share) B.pre
  have hown : s.vm.findClass "ShopLedgerLaw" = some m.cls := findClass_of_methodNamed B.named
  have hlocks := B.notSynchronized
  have hTab : c.exceptionTable.toList = tableOf [(0, 9, 12, 13), (0, 9, 16, 17), (0, 9, 20, 23)] := vx_table (x := yL_share) B (hts _ List.mem_cons_self)
  subst hsz
  have hD := hD0.self (sz := s.heap.size)
  generalize hAe : va_A [(o0, .inl (D.2 1, 1, .inr (.inl ou))), (x0, .inr (5, [.ref h0, .ref b0, .ref w0, .ref s0, .ref m0, .ref g0, .int (nI cl)]))] s.heap.size = A at hD hB ⊢
  have hA : ∀ q : Nat, s.heap.size ≤ q → A q := fun q h => by rw [← hAe]; exact Or.inr h
  have hS : va_S A s.heap s.heap [] := va_S.rf
  have hZ : ∀ w ∈ zALL, w.before _ s = true := fun w h => hts w (List.mem_cons_of_mem _ h)
  have hF : CallFix p m c cL_share 5 s _ zALL "ShopLedgerLaw" := ⟨hx, hb, hml, hown, hZ⟩
  have hl := lv_entry ([.ref x0, .int p1, .int p2, .ref o0]) (n := 5) (Nat.le_of_ble_eq_true rfl)
  rw [lg_entry_eq]
  generalize (lg_sl ([.ref x0, .int p1, .int p2, .ref o0]) ++ List.replicate (5 - (lg_sl ([.ref x0, .int p1, .int p2, .ref o0])).length) Slot.unset).toArray = ls at hl ⊢
  have hl : lv_has ls 5 [(0, .ref x0), (1, .int p1), (2, .int p2), (3, .ref o0)] := hl
  refine lv_aload_n hx hb dL_share_0 rfl (lv_at hl 3 rfl) ?_
  refine lv_iconst (v := 0) hx hb dL_share_1 (by decide) ?_
  refine lv_aload_n hx hb dL_share_2 rfl (lv_at hl 0 rfl) ?_
  refine lv_iload_n hx hb dL_share_3 rfl (lv_at hl 1 rfl) ?_
  refine lv_iload_n hx hb dL_share_4 rfl (lv_at hl 2 rfl) ?_
  have J := zJ.mk (wc := [(x0, .inr (5, [.ref h0, .ref b0, .ref w0, .ref s0, .ref m0, .ref g0, .int (nI cl)]))]) (wr := [(o0, .inl (D.2 1, 1, .inr (.inl ou)))]) hA hB hK hP hD hS [1] [0] rfl rfl (by decide)
  refine z_xgol (z_xrunV (As := [.int p1, .int p2]) (rest := [.int 0, .ref o0]) (b := x0) hF (c_shareX hl9 D x0 h0 b0 w0 s0 m0 g0 cl p1 p2 s.heap.size hp) (cwV 2 hZ (z_gV t_238 t_239 t_240 t_55 t_237) rfl rfl rfl (by decide +kernel) ⟨Nat.le_of_ble_eq_true rfl, Nat.le_of_ble_eq_true rfl⟩) J 0 5 rfl rfl rfl rfl hl.1 (Nat.le_of_ble_eq_true rfl) dL_share_5 ⟨Nat.le_of_ble_eq_true rfl, Nat.le_of_ble_eq_true rfl⟩) J (fun EX ce q9 H locs w1 hP hD hS hce hcv hcl => ?_) (fun r1 _ H locs w1 hP hD hS => ?_)
  · have hP : va_P D.1 vwCl [(o0, .inl (D.2 1, 1, .inr (.inl ou))), (x0, .inr (5, [.ref h0, .ref b0, .ref w0, .ref s0, .ref m0, .ref g0, .int (nI cl)]))] H := hP
    have hD : va_D A [(o0, .inl (D.2 1, 1, .inr (.inl ou))), (x0, .inr (5, [.ref h0, .ref b0, .ref w0, .ref s0, .ref m0, .ref g0, .int (nI cl)]))] := hD
    have wE := w1
    obtain rfl : EX = "java/lang/IndexOutOfBoundsException" := w1
    refine vx_catch (own := "ShopLedgerLaw") (name := "java/lang/IndexOutOfBoundsException") (E := "java/lang/IndexOutOfBoundsException") hown [] ⟨0, 9, 12, 13⟩ [⟨0, 9, 16, 17⟩, ⟨0, 9, 20, 23⟩] (by rw [hTab]; rfl) (fun z hz => nomatch hz) (by decide) (by decide) (hZ _ t_205) (va_Nw.use rfl (hB.2.2.2.1 ("java/lang/IndexOutOfBoundsException", "java/lang/IndexOutOfBoundsException") (by decide +kernel))) hce hcv hcl ?_
    refine lv_astore (lv' := [(4, .ref q9), (0, .ref x0), (1, .int p1), (2, .int p2), (3, .ref o0)]) hx hb dL_share_12 hl (by decide) rfl (fun ls hl => ?_)
    refine lv_iconst (v := 1) hx hb dL_share_14 (by decide) ?_
    exact z_iret (v := 1) hx hb hr hlocks hP hD hS none (Or.inr ⟨rfl, _, wE, by decide +kernel⟩) [0, 1] rfl (by decide) (Nat.le_of_ble_eq_true rfl) (Nat.le_of_ble_eq_true rfl) dL_share_15
  have hP : va_P D.1 vwCl [(o0, .inl (D.2 1, 1, .inr (.inl ou))), (x0, .inr (5, [.ref h0, .ref b0, .ref w0, .ref s0, .ref m0, .ref g0, .int (nI cl)]))] H := hP
  have hD : va_D A [(o0, .inl (D.2 1, 1, .inr (.inl ou))), (x0, .inr (5, [.ref h0, .ref b0, .ref w0, .ref s0, .ref m0, .ref g0, .int (nI cl)]))] := hD
  refine z_last (k := 0) hx hb hK hP hD hS 0 rfl (by decide) (by decide) dL_share_8 (fun H locs hP hD hS => ?_)
  have hP : va_P D.1 vwCl [(o0, .inl (D.2 1, 1, .inr (.inl (vp_updL ou 0 r1)))), (x0, .inr (5, [.ref h0, .ref b0, .ref w0, .ref s0, .ref m0, .ref g0, .int (nI cl)]))] H := hP
  have hD : va_D A [(o0, .inl (D.2 1, 1, .inr (.inl (vp_updL ou 0 r1)))), (x0, .inr (5, [.ref h0, .ref b0, .ref w0, .ref s0, .ref m0, .ref g0, .int (nI cl)]))] := hD
  refine lv_goto (tgt := 24) hx hb dL_share_9 (by decide) ?_
  refine lv_iconst (v := 0) hx hb dL_share_24 (by decide) ?_
  exact z_iret (v := 0) hx hb hr hlocks hP hD hS (some r1) (Or.inl ⟨r1, rfl, rfl, w1⟩) [0, 1] rfl (by decide) (Nat.le_of_ble_eq_true rfl) (Nat.le_of_ble_eq_true rfl) dL_share_25
set_option maxHeartbeats 4000000 in
set_option maxRecDepth 100000 in
/-- the law calls stock, of what is not there -/
theorem w_stockX {l : Launch} (D : zD) (x0 h0 b0 w0 s0 m0 g0 cl : Nat) (p1 p2 p3 : Int32) (o0 : Nat) (ou : Nat → Int64) (sz : Nat) (hl9 : l.stackTraces = false) (hp : ¬ zin p1 4) : Met l yL_stock wsL_stock ({ frames := 8, cells := 1, slots := 6, locals := 134 }) (va_Pc [.ref x0, .int p1, .int p2, .int p3, .ref o0] (zp D sz [(o0, .inl (D.2 1, 1, .inr (.inl ou))), (x0, .inr (5, [.ref h0, .ref b0, .ref w0, .ref s0, .ref m0, .ref g0, .int (nI cl)]))])) (va_Qi (fun r (u : Option Int64) => (∃ r9 : Int32, u = some r9.toInt64 ∧ r = 0 ∧ (fun r (_ : Unit) => False) r9 ()) ∨ (u = none ∧ ∃ E9, (fun E9 => E9 = "java/lang/IndexOutOfBoundsException") E9 ∧ r = zcd ["java/lang/IndexOutOfBoundsException", "java/lang/IllegalStateException", "java/lang/IllegalArgumentException"] E9)) (zq D (va_A [(o0, .inl (D.2 1, 1, .inr (.inl ou))), (x0, .inr (5, [.ref h0, .ref b0, .ref w0, .ref s0, .ref m0, .ref g0, .int (nI cl)]))] sz) (fun (u : Option Int64) => (u.elim [(o0, .inl (D.2 1, 1, .inr (.inl ou))), (x0, .inr (5, [.ref h0, .ref b0, .ref w0, .ref s0, .ref m0, .ref g0, .int (nI cl)]))] (fun v => [(o0, .inl (D.2 1, 1, .inr (.inl (vp_updL ou 0 v)))), (x0, .inr (5, [.ref h0, .ref b0, .ref w0, .ref s0, .ref m0, .ref g0, .int (nI cl)]))]) : va_W))) (va_A [(o0, .inl (D.2 1, 1, .inr (.inl ou))), (x0, .inr (5, [.ref h0, .ref b0, .ref w0, .ref s0, .ref m0, .ref g0, .int (nI cl)]))] sz)) 1 6 (va_A [(o0, .inl (D.2 1, 1, .inr (.inl ou))), (x0, .inr (5, [.ref h0, .ref b0, .ref w0, .ref s0, .ref m0, .ref g0, .int (nI cl)]))] sz) := by
  refine va_MetW (cc := cL_stock) (maxL := 6) (ret := (some .int)) (hh := [(0, 12, 15, 13), (0, 12, 19, 15), (0, 12, 23, 17)]) (by decide) rfl ?_
  intro p e s m args below meth c s₁ B hml hv
  obtain ⟨rfl, hsz, hP, hK, hD0, hB⟩ := hv
  have hx := B.exec
  have hb := B.bytes
  have hr := B.returns
  have hts := atoms_spec (ws := wsL_stock) B.pre
  have hown : s.vm.findClass "ShopLedgerLaw" = some m.cls := findClass_of_methodNamed B.named
  have hlocks := B.notSynchronized
  have hTab : c.exceptionTable.toList = tableOf [(0, 12, 15, 13), (0, 12, 19, 15), (0, 12, 23, 17)] := vx_table (x := yL_stock) B (hts _ List.mem_cons_self)
  subst hsz
  have hD := hD0.self (sz := s.heap.size)
  generalize hAe : va_A [(o0, .inl (D.2 1, 1, .inr (.inl ou))), (x0, .inr (5, [.ref h0, .ref b0, .ref w0, .ref s0, .ref m0, .ref g0, .int (nI cl)]))] s.heap.size = A at hD hB ⊢
  have hA : ∀ q : Nat, s.heap.size ≤ q → A q := fun q h => by rw [← hAe]; exact Or.inr h
  have hS : va_S A s.heap s.heap [] := va_S.rf
  have hZ : ∀ w ∈ zALL, w.before _ s = true := fun w h => hts w (List.mem_cons_of_mem _ h)
  have hF : CallFix p m c cL_stock 6 s _ zALL "ShopLedgerLaw" := ⟨hx, hb, hml, hown, hZ⟩
  have hl := lv_entry ([.ref x0, .int p1, .int p2, .int p3, .ref o0]) (n := 6) (Nat.le_of_ble_eq_true rfl)
  rw [lg_entry_eq]
  generalize (lg_sl ([.ref x0, .int p1, .int p2, .int p3, .ref o0]) ++ List.replicate (6 - (lg_sl ([.ref x0, .int p1, .int p2, .int p3, .ref o0])).length) Slot.unset).toArray = ls at hl ⊢
  have hl : lv_has ls 6 [(0, .ref x0), (1, .int p1), (2, .int p2), (3, .int p3), (4, .ref o0)] := hl
  refine lv_aload hx hb dL_stock_0 (lv_at hl 4 rfl) ?_
  refine lv_iconst (v := 0) hx hb dL_stock_2 (by decide) ?_
  refine lv_aload_n hx hb dL_stock_3 rfl (lv_at hl 0 rfl) ?_
  refine lv_iload_n hx hb dL_stock_4 rfl (lv_at hl 1 rfl) ?_
  refine lv_iload_n hx hb dL_stock_5 rfl (lv_at hl 2 rfl) ?_
  refine lv_iload_n hx hb dL_stock_6 rfl (lv_at hl 3 rfl) ?_
  have J := zJ.mk (wc := [(x0, .inr (5, [.ref h0, .ref b0, .ref w0, .ref s0, .ref m0, .ref g0, .int (nI cl)]))]) (wr := [(o0, .inl (D.2 1, 1, .inr (.inl ou)))]) hA hB hK hP hD hS [1] [0] rfl rfl (by decide)
  refine z_xgoi (z_xrunV (As := [.int p1, .int p2, .int p3]) (rest := [.int 0, .ref o0]) (b := x0) hF (c_stockX hl9 D x0 h0 b0 w0 s0 m0 g0 cl p1 p2 p3 s.heap.size hp) (cwV 3 hZ (z_gV t_242 t_243 t_244 t_55 t_241) rfl rfl rfl (by decide +kernel) ⟨Nat.le_of_ble_eq_true rfl, Nat.le_of_ble_eq_true rfl⟩) J 0 5 rfl rfl rfl rfl hl.1 (Nat.le_of_ble_eq_true rfl) dL_stock_7 ⟨Nat.le_of_ble_eq_true rfl, Nat.le_of_ble_eq_true rfl⟩) J (fun EX ce q9 H locs w1 hP hD hS hce hcv hcl => ?_) (fun r1 _ H locs w1 hP hD hS => ?_)
  · have hP : va_P D.1 vwCl [(o0, .inl (D.2 1, 1, .inr (.inl ou))), (x0, .inr (5, [.ref h0, .ref b0, .ref w0, .ref s0, .ref m0, .ref g0, .int (nI cl)]))] H := hP
    have hD : va_D A [(o0, .inl (D.2 1, 1, .inr (.inl ou))), (x0, .inr (5, [.ref h0, .ref b0, .ref w0, .ref s0, .ref m0, .ref g0, .int (nI cl)]))] := hD
    have wE := w1
    obtain rfl : EX = "java/lang/IndexOutOfBoundsException" := w1
    refine vx_catch (own := "ShopLedgerLaw") (name := "java/lang/IndexOutOfBoundsException") (E := "java/lang/IndexOutOfBoundsException") hown [] ⟨0, 12, 15, 13⟩ [⟨0, 12, 19, 15⟩, ⟨0, 12, 23, 17⟩] (by rw [hTab]; rfl) (fun z hz => nomatch hz) (by decide) (by decide) (hZ _ t_205) (va_Nw.use rfl (hB.2.2.2.1 ("java/lang/IndexOutOfBoundsException", "java/lang/IndexOutOfBoundsException") (by decide +kernel))) hce hcv hcl ?_
    refine lv_astore (lv' := [(5, .ref q9), (0, .ref x0), (1, .int p1), (2, .int p2), (3, .int p3), (4, .ref o0)]) hx hb dL_stock_15 hl (by decide) rfl (fun ls hl => ?_)
    refine lv_iconst (v := 1) hx hb dL_stock_17 (by decide) ?_
    exact z_iret (v := 1) hx hb hr hlocks hP hD hS none (Or.inr ⟨rfl, _, wE, by decide +kernel⟩) [0, 1] rfl (by decide) (Nat.le_of_ble_eq_true rfl) (Nat.le_of_ble_eq_true rfl) dL_stock_18
  have hP : va_P D.1 vwCl [(o0, .inl (D.2 1, 1, .inr (.inl ou))), (x0, .inr (5, [.ref h0, .ref b0, .ref w0, .ref s0, .ref m0, .ref g0, .int (nI cl)]))] H := hP
  have hD : va_D A [(o0, .inl (D.2 1, 1, .inr (.inl ou))), (x0, .inr (5, [.ref h0, .ref b0, .ref w0, .ref s0, .ref m0, .ref g0, .int (nI cl)]))] := hD
  refine lv_i2l (v := r1.toInt64) hx hb dL_stock_10 rfl ?_
  refine z_last (k := 0) hx hb hK hP hD hS 0 rfl (by decide) (by decide) dL_stock_11 (fun H locs hP hD hS => ?_)
  have hP : va_P D.1 vwCl [(o0, .inl (D.2 1, 1, .inr (.inl (vp_updL ou 0 r1.toInt64)))), (x0, .inr (5, [.ref h0, .ref b0, .ref w0, .ref s0, .ref m0, .ref g0, .int (nI cl)]))] H := hP
  have hD : va_D A [(o0, .inl (D.2 1, 1, .inr (.inl (vp_updL ou 0 r1.toInt64)))), (x0, .inr (5, [.ref h0, .ref b0, .ref w0, .ref s0, .ref m0, .ref g0, .int (nI cl)]))] := hD
  refine lv_goto (tgt := 27) hx hb dL_stock_12 (by decide) ?_
  refine lv_iconst (v := 0) hx hb dL_stock_27 (by decide) ?_
  exact z_iret (v := 0) hx hb hr hlocks hP hD hS (some r1.toInt64) (Or.inl ⟨r1, rfl, rfl, w1⟩) [0, 1] rfl (by decide) (Nat.le_of_ble_eq_true rfl) (Nat.le_of_ble_eq_true rfl) dL_stock_28
set_option maxHeartbeats 4000000 in
set_option maxRecDepth 100000 in
/-- the law calls take, of what is not there -/
theorem w_takeX {l : Launch} (D : zD) (x0 h0 b0 w0 s0 m0 g0 cl : Nat) (p1 p2 : Int32) (o0 : Nat) (ou : Nat → Int64) (sz : Nat) (hl9 : l.stackTraces = false) (hp : ¬ zin p1 4) : Met l yL_take wsL_take ({ frames := 8, cells := 1, slots := 6, locals := 133 }) (va_Pc [.ref x0, .int p1, .int p2, .ref o0] (zp D sz [(o0, .inl (D.2 1, 1, .inr (.inl ou))), (x0, .inr (5, [.ref h0, .ref b0, .ref w0, .ref s0, .ref m0, .ref g0, .int (nI cl)]))])) (va_Qi (fun r (u : Option Int64) => (∃ r9 : Int64, u = some r9 ∧ r = 0 ∧ (fun r (_ : Unit) => False) r9 ()) ∨ (u = none ∧ ∃ E9, (fun E9 => E9 = "java/lang/IndexOutOfBoundsException") E9 ∧ r = zcd ["java/lang/IndexOutOfBoundsException", "java/lang/IllegalArgumentException", "java/lang/UnsupportedOperationException"] E9)) (zq D (va_A [(o0, .inl (D.2 1, 1, .inr (.inl ou))), (x0, .inr (5, [.ref h0, .ref b0, .ref w0, .ref s0, .ref m0, .ref g0, .int (nI cl)]))] sz) (fun (u : Option Int64) => (u.elim [(o0, .inl (D.2 1, 1, .inr (.inl ou))), (x0, .inr (5, [.ref h0, .ref b0, .ref w0, .ref s0, .ref m0, .ref g0, .int (nI cl)]))] (fun v => [(o0, .inl (D.2 1, 1, .inr (.inl (vp_updL ou 0 v)))), (x0, .inr (5, [.ref h0, .ref b0, .ref w0, .ref s0, .ref m0, .ref g0, .int (nI cl)]))]) : va_W))) (va_A [(o0, .inl (D.2 1, 1, .inr (.inl ou))), (x0, .inr (5, [.ref h0, .ref b0, .ref w0, .ref s0, .ref m0, .ref g0, .int (nI cl)]))] sz)) 1 6 (va_A [(o0, .inl (D.2 1, 1, .inr (.inl ou))), (x0, .inr (5, [.ref h0, .ref b0, .ref w0, .ref s0, .ref m0, .ref g0, .int (nI cl)]))] sz) := by
  refine va_MetW (cc := cL_take) (maxL := 5) (ret := (some .int)) (hh := [(0, 9, 12, 13), (0, 9, 16, 17), (0, 9, 20, 23)]) (by decide) rfl ?_
  intro p e s m args below meth c s₁ B hml hv
  obtain ⟨rfl, hsz, hP, hK, hD0, hB⟩ := hv
  have hx := B.exec
  have hb := B.bytes
  have hr := B.returns
  have hts := atoms_spec (ws := wsL_take) B.pre
  have hown : s.vm.findClass "ShopLedgerLaw" = some m.cls := findClass_of_methodNamed B.named
  have hlocks := B.notSynchronized
  have hTab : c.exceptionTable.toList = tableOf [(0, 9, 12, 13), (0, 9, 16, 17), (0, 9, 20, 23)] := vx_table (x := yL_take) B (hts _ List.mem_cons_self)
  subst hsz
  have hD := hD0.self (sz := s.heap.size)
  generalize hAe : va_A [(o0, .inl (D.2 1, 1, .inr (.inl ou))), (x0, .inr (5, [.ref h0, .ref b0, .ref w0, .ref s0, .ref m0, .ref g0, .int (nI cl)]))] s.heap.size = A at hD hB ⊢
  have hA : ∀ q : Nat, s.heap.size ≤ q → A q := fun q h => by rw [← hAe]; exact Or.inr h
  have hS : va_S A s.heap s.heap [] := va_S.rf
  have hZ : ∀ w ∈ zALL, w.before _ s = true := fun w h => hts w (List.mem_cons_of_mem _ h)
  have hF : CallFix p m c cL_take 5 s _ zALL "ShopLedgerLaw" := ⟨hx, hb, hml, hown, hZ⟩
  have hl := lv_entry ([.ref x0, .int p1, .int p2, .ref o0]) (n := 5) (Nat.le_of_ble_eq_true rfl)
  rw [lg_entry_eq]
  generalize (lg_sl ([.ref x0, .int p1, .int p2, .ref o0]) ++ List.replicate (5 - (lg_sl ([.ref x0, .int p1, .int p2, .ref o0])).length) Slot.unset).toArray = ls at hl ⊢
  have hl : lv_has ls 5 [(0, .ref x0), (1, .int p1), (2, .int p2), (3, .ref o0)] := hl
  refine lv_aload_n hx hb dL_take_0 rfl (lv_at hl 3 rfl) ?_
  refine lv_iconst (v := 0) hx hb dL_take_1 (by decide) ?_
  refine lv_aload_n hx hb dL_take_2 rfl (lv_at hl 0 rfl) ?_
  refine lv_iload_n hx hb dL_take_3 rfl (lv_at hl 1 rfl) ?_
  refine lv_iload_n hx hb dL_take_4 rfl (lv_at hl 2 rfl) ?_
  have J := zJ.mk (wc := [(x0, .inr (5, [.ref h0, .ref b0, .ref w0, .ref s0, .ref m0, .ref g0, .int (nI cl)]))]) (wr := [(o0, .inl (D.2 1, 1, .inr (.inl ou)))]) hA hB hK hP hD hS [1] [0] rfl rfl (by decide)
  refine z_xgol (z_xrunV (As := [.int p1, .int p2]) (rest := [.int 0, .ref o0]) (b := x0) hF (c_takeX hl9 D x0 h0 b0 w0 s0 m0 g0 cl p1 p2 s.heap.size hp) (cwV 2 hZ (z_gV t_246 t_247 t_248 t_55 t_245) rfl rfl rfl (by decide +kernel) ⟨Nat.le_of_ble_eq_true rfl, Nat.le_of_ble_eq_true rfl⟩) J 0 5 rfl rfl rfl rfl hl.1 (Nat.le_of_ble_eq_true rfl) dL_take_5 ⟨Nat.le_of_ble_eq_true rfl, Nat.le_of_ble_eq_true rfl⟩) J (fun EX ce q9 H locs w1 hP hD hS hce hcv hcl => ?_) (fun r1 _ H locs w1 hP hD hS => ?_)
  · have hP : va_P D.1 vwCl [(o0, .inl (D.2 1, 1, .inr (.inl ou))), (x0, .inr (5, [.ref h0, .ref b0, .ref w0, .ref s0, .ref m0, .ref g0, .int (nI cl)]))] H := hP
    have hD : va_D A [(o0, .inl (D.2 1, 1, .inr (.inl ou))), (x0, .inr (5, [.ref h0, .ref b0, .ref w0, .ref s0, .ref m0, .ref g0, .int (nI cl)]))] := hD
    have wE := w1
    obtain rfl : EX = "java/lang/IndexOutOfBoundsException" := w1
    refine vx_catch (own := "ShopLedgerLaw") (name := "java/lang/IndexOutOfBoundsException") (E := "java/lang/IndexOutOfBoundsException") hown [] ⟨0, 9, 12, 13⟩ [⟨0, 9, 16, 17⟩, ⟨0, 9, 20, 23⟩] (by rw [hTab]; rfl) (fun z hz => nomatch hz) (by decide) (by decide) (hZ _ t_205) (va_Nw.use rfl (hB.2.2.2.1 ("java/lang/IndexOutOfBoundsException", "java/lang/IndexOutOfBoundsException") (by decide +kernel))) hce hcv hcl ?_
    refine lv_astore (lv' := [(4, .ref q9), (0, .ref x0), (1, .int p1), (2, .int p2), (3, .ref o0)]) hx hb dL_take_12 hl (by decide) rfl (fun ls hl => ?_)
    refine lv_iconst (v := 1) hx hb dL_take_14 (by decide) ?_
    exact z_iret (v := 1) hx hb hr hlocks hP hD hS none (Or.inr ⟨rfl, _, wE, by decide +kernel⟩) [0, 1] rfl (by decide) (Nat.le_of_ble_eq_true rfl) (Nat.le_of_ble_eq_true rfl) dL_take_15
  have hP : va_P D.1 vwCl [(o0, .inl (D.2 1, 1, .inr (.inl ou))), (x0, .inr (5, [.ref h0, .ref b0, .ref w0, .ref s0, .ref m0, .ref g0, .int (nI cl)]))] H := hP
  have hD : va_D A [(o0, .inl (D.2 1, 1, .inr (.inl ou))), (x0, .inr (5, [.ref h0, .ref b0, .ref w0, .ref s0, .ref m0, .ref g0, .int (nI cl)]))] := hD
  refine z_last (k := 0) hx hb hK hP hD hS 0 rfl (by decide) (by decide) dL_take_8 (fun H locs hP hD hS => ?_)
  have hP : va_P D.1 vwCl [(o0, .inl (D.2 1, 1, .inr (.inl (vp_updL ou 0 r1)))), (x0, .inr (5, [.ref h0, .ref b0, .ref w0, .ref s0, .ref m0, .ref g0, .int (nI cl)]))] H := hP
  have hD : va_D A [(o0, .inl (D.2 1, 1, .inr (.inl (vp_updL ou 0 r1)))), (x0, .inr (5, [.ref h0, .ref b0, .ref w0, .ref s0, .ref m0, .ref g0, .int (nI cl)]))] := hD
  refine lv_goto (tgt := 24) hx hb dL_take_9 (by decide) ?_
  refine lv_iconst (v := 0) hx hb dL_take_24 (by decide) ?_
  exact z_iret (v := 0) hx hb hr hlocks hP hD hS (some r1) (Or.inl ⟨r1, rfl, rfl, w1⟩) [0, 1] rfl (by decide) (Nat.le_of_ble_eq_true rfl) (Nat.le_of_ble_eq_true rfl) dL_take_25
set_option maxHeartbeats 4000000 in
set_option maxRecDepth 100000 in
/-- the law calls in, of what is not there -/
theorem w_inX {l : Launch} (D : zD) (x0 h0 b0 w0 s0 m0 g0 cl : Nat) (p1 p2 : Int32) (o0 : Nat) (ou : Nat → Int64) (sz : Nat) (hl9 : l.stackTraces = false) (hp : ¬ zin p1 4) : Met l yL_in wsL_in ({ frames := 8, cells := 1, slots := 6, locals := 133 }) (va_Pc [.ref x0, .int p1, .int p2, .ref o0] (zp D sz [(o0, .inl (D.2 1, 1, .inr (.inl ou))), (x0, .inr (5, [.ref h0, .ref b0, .ref w0, .ref s0, .ref m0, .ref g0, .int (nI cl)]))])) (va_Qi (fun r (u : Option Int64) => (∃ r9 : Int64, u = some r9 ∧ r = 0 ∧ (fun r (_ : Unit) => False) r9 ()) ∨ (u = none ∧ ∃ E9, (fun E9 => E9 = "java/lang/IndexOutOfBoundsException") E9 ∧ r = zcd ["java/lang/IndexOutOfBoundsException"] E9)) (zq D (va_A [(o0, .inl (D.2 1, 1, .inr (.inl ou))), (x0, .inr (5, [.ref h0, .ref b0, .ref w0, .ref s0, .ref m0, .ref g0, .int (nI cl)]))] sz) (fun (u : Option Int64) => (u.elim [(o0, .inl (D.2 1, 1, .inr (.inl ou))), (x0, .inr (5, [.ref h0, .ref b0, .ref w0, .ref s0, .ref m0, .ref g0, .int (nI cl)]))] (fun v => [(o0, .inl (D.2 1, 1, .inr (.inl (vp_updL ou 0 v)))), (x0, .inr (5, [.ref h0, .ref b0, .ref w0, .ref s0, .ref m0, .ref g0, .int (nI cl)]))]) : va_W))) (va_A [(o0, .inl (D.2 1, 1, .inr (.inl ou))), (x0, .inr (5, [.ref h0, .ref b0, .ref w0, .ref s0, .ref m0, .ref g0, .int (nI cl)]))] sz)) 1 6 (va_A [(o0, .inl (D.2 1, 1, .inr (.inl ou))), (x0, .inr (5, [.ref h0, .ref b0, .ref w0, .ref s0, .ref m0, .ref g0, .int (nI cl)]))] sz) := by
  refine va_MetW (cc := cL_in) (maxL := 5) (ret := (some .int)) (hh := [(0, 9, 12, 13)]) (by decide) rfl ?_
  intro p e s m args below meth c s₁ B hml hv
  obtain ⟨rfl, hsz, hP, hK, hD0, hB⟩ := hv
  have hx := B.exec
  have hb := B.bytes
  have hr := B.returns
  have hts := atoms_spec (ws := wsL_in) B.pre
  have hown : s.vm.findClass "ShopLedgerLaw" = some m.cls := findClass_of_methodNamed B.named
  have hlocks := B.notSynchronized
  have hTab : c.exceptionTable.toList = tableOf [(0, 9, 12, 13)] := vx_table (x := yL_in) B (hts _ List.mem_cons_self)
  subst hsz
  have hD := hD0.self (sz := s.heap.size)
  generalize hAe : va_A [(o0, .inl (D.2 1, 1, .inr (.inl ou))), (x0, .inr (5, [.ref h0, .ref b0, .ref w0, .ref s0, .ref m0, .ref g0, .int (nI cl)]))] s.heap.size = A at hD hB ⊢
  have hA : ∀ q : Nat, s.heap.size ≤ q → A q := fun q h => by rw [← hAe]; exact Or.inr h
  have hS : va_S A s.heap s.heap [] := va_S.rf
  have hZ : ∀ w ∈ zALL, w.before _ s = true := fun w h => hts w (List.mem_cons_of_mem _ h)
  have hF : CallFix p m c cL_in 5 s _ zALL "ShopLedgerLaw" := ⟨hx, hb, hml, hown, hZ⟩
  have hl := lv_entry ([.ref x0, .int p1, .int p2, .ref o0]) (n := 5) (Nat.le_of_ble_eq_true rfl)
  rw [lg_entry_eq]
  generalize (lg_sl ([.ref x0, .int p1, .int p2, .ref o0]) ++ List.replicate (5 - (lg_sl ([.ref x0, .int p1, .int p2, .ref o0])).length) Slot.unset).toArray = ls at hl ⊢
  have hl : lv_has ls 5 [(0, .ref x0), (1, .int p1), (2, .int p2), (3, .ref o0)] := hl
  refine lv_aload_n hx hb dL_in_0 rfl (lv_at hl 3 rfl) ?_
  refine lv_iconst (v := 0) hx hb dL_in_1 (by decide) ?_
  refine lv_aload_n hx hb dL_in_2 rfl (lv_at hl 0 rfl) ?_
  refine lv_iload_n hx hb dL_in_3 rfl (lv_at hl 1 rfl) ?_
  refine lv_iload_n hx hb dL_in_4 rfl (lv_at hl 2 rfl) ?_
  have J := zJ.mk (wc := [(x0, .inr (5, [.ref h0, .ref b0, .ref w0, .ref s0, .ref m0, .ref g0, .int (nI cl)]))]) (wr := [(o0, .inl (D.2 1, 1, .inr (.inl ou)))]) hA hB hK hP hD hS [1] [0] rfl rfl (by decide)
  refine z_xgol (z_xrunV (As := [.int p1, .int p2]) (rest := [.int 0, .ref o0]) (b := x0) hF (c_inX hl9 D x0 h0 b0 w0 s0 m0 g0 cl p1 p2 s.heap.size hp) (cwV 2 hZ (z_gV t_250 t_251 t_252 t_55 t_249) rfl rfl rfl (by decide +kernel) ⟨Nat.le_of_ble_eq_true rfl, Nat.le_of_ble_eq_true rfl⟩) J 0 5 rfl rfl rfl rfl hl.1 (Nat.le_of_ble_eq_true rfl) dL_in_5 ⟨Nat.le_of_ble_eq_true rfl, Nat.le_of_ble_eq_true rfl⟩) J (fun EX ce q9 H locs w1 hP hD hS hce hcv hcl => ?_) (fun r1 _ H locs w1 hP hD hS => ?_)
  · have hP : va_P D.1 vwCl [(o0, .inl (D.2 1, 1, .inr (.inl ou))), (x0, .inr (5, [.ref h0, .ref b0, .ref w0, .ref s0, .ref m0, .ref g0, .int (nI cl)]))] H := hP
    have hD : va_D A [(o0, .inl (D.2 1, 1, .inr (.inl ou))), (x0, .inr (5, [.ref h0, .ref b0, .ref w0, .ref s0, .ref m0, .ref g0, .int (nI cl)]))] := hD
    have wE := w1
    obtain rfl : EX = "java/lang/IndexOutOfBoundsException" := w1
    refine vx_catch (own := "ShopLedgerLaw") (name := "java/lang/IndexOutOfBoundsException") (E := "java/lang/IndexOutOfBoundsException") hown [] ⟨0, 9, 12, 13⟩ [] (by rw [hTab]; rfl) (fun z hz => nomatch hz) (by decide) (by decide) (hZ _ t_205) (va_Nw.use rfl (hB.2.2.2.1 ("java/lang/IndexOutOfBoundsException", "java/lang/IndexOutOfBoundsException") (by decide +kernel))) hce hcv hcl ?_
    refine lv_astore (lv' := [(4, .ref q9), (0, .ref x0), (1, .int p1), (2, .int p2), (3, .ref o0)]) hx hb dL_in_12 hl (by decide) rfl (fun ls hl => ?_)
    refine lv_iconst (v := 1) hx hb dL_in_14 (by decide) ?_
    exact z_iret (v := 1) hx hb hr hlocks hP hD hS none (Or.inr ⟨rfl, _, wE, by decide +kernel⟩) [0, 1] rfl (by decide) (Nat.le_of_ble_eq_true rfl) (Nat.le_of_ble_eq_true rfl) dL_in_15
  have hP : va_P D.1 vwCl [(o0, .inl (D.2 1, 1, .inr (.inl ou))), (x0, .inr (5, [.ref h0, .ref b0, .ref w0, .ref s0, .ref m0, .ref g0, .int (nI cl)]))] H := hP
  have hD : va_D A [(o0, .inl (D.2 1, 1, .inr (.inl ou))), (x0, .inr (5, [.ref h0, .ref b0, .ref w0, .ref s0, .ref m0, .ref g0, .int (nI cl)]))] := hD
  refine z_last (k := 0) hx hb hK hP hD hS 0 rfl (by decide) (by decide) dL_in_8 (fun H locs hP hD hS => ?_)
  have hP : va_P D.1 vwCl [(o0, .inl (D.2 1, 1, .inr (.inl (vp_updL ou 0 r1)))), (x0, .inr (5, [.ref h0, .ref b0, .ref w0, .ref s0, .ref m0, .ref g0, .int (nI cl)]))] H := hP
  have hD : va_D A [(o0, .inl (D.2 1, 1, .inr (.inl (vp_updL ou 0 r1)))), (x0, .inr (5, [.ref h0, .ref b0, .ref w0, .ref s0, .ref m0, .ref g0, .int (nI cl)]))] := hD
  refine lv_goto (tgt := 16) hx hb dL_in_9 (by decide) ?_
  refine lv_iconst (v := 0) hx hb dL_in_16 (by decide) ?_
  exact z_iret (v := 0) hx hb hr hlocks hP hD hS (some r1) (Or.inl ⟨r1, rfl, rfl, w1⟩) [0, 1] rfl (by decide) (Nat.le_of_ble_eq_true rfl) (Nat.le_of_ble_eq_true rfl) dL_in_17
set_option maxHeartbeats 4000000 in
set_option maxRecDepth 100000 in
/-- the law calls rate, of what is not there -/
theorem w_rateX {l : Launch} (D : zD) (x0 h0 b0 w0 s0 m0 g0 cl : Nat) (p1 p2 p3 : Int32) (o0 : Nat) (ou : Nat → Int64) (sz : Nat) (hl9 : l.stackTraces = false) (hp : ¬ zin p1 3) : Met l yL_rate wsL_rate ({ frames := 8, cells := 1, slots := 6, locals := 134 }) (va_Pc [.ref x0, .int p1, .int p2, .int p3, .ref o0] (zp D sz [(o0, .inl (D.2 1, 1, .inr (.inl ou))), (x0, .inr (5, [.ref h0, .ref b0, .ref w0, .ref s0, .ref m0, .ref g0, .int (nI cl)]))])) (va_Qi (fun r (u : Option Int64) => (∃ r9 : Int32, u = some r9.toInt64 ∧ r = 0 ∧ (fun r (_ : Unit) => False) r9 ()) ∨ (u = none ∧ ∃ E9, (fun E9 => E9 = "java/lang/IndexOutOfBoundsException") E9 ∧ r = zcd ["java/lang/IndexOutOfBoundsException", "java/lang/IllegalStateException", "java/lang/IllegalArgumentException"] E9)) (zq D (va_A [(o0, .inl (D.2 1, 1, .inr (.inl ou))), (x0, .inr (5, [.ref h0, .ref b0, .ref w0, .ref s0, .ref m0, .ref g0, .int (nI cl)]))] sz) (fun (u : Option Int64) => (u.elim [(o0, .inl (D.2 1, 1, .inr (.inl ou))), (x0, .inr (5, [.ref h0, .ref b0, .ref w0, .ref s0, .ref m0, .ref g0, .int (nI cl)]))] (fun v => [(o0, .inl (D.2 1, 1, .inr (.inl (vp_updL ou 0 v)))), (x0, .inr (5, [.ref h0, .ref b0, .ref w0, .ref s0, .ref m0, .ref g0, .int (nI cl)]))]) : va_W))) (va_A [(o0, .inl (D.2 1, 1, .inr (.inl ou))), (x0, .inr (5, [.ref h0, .ref b0, .ref w0, .ref s0, .ref m0, .ref g0, .int (nI cl)]))] sz)) 1 6 (va_A [(o0, .inl (D.2 1, 1, .inr (.inl ou))), (x0, .inr (5, [.ref h0, .ref b0, .ref w0, .ref s0, .ref m0, .ref g0, .int (nI cl)]))] sz) := by
  refine va_MetW (cc := cL_rate) (maxL := 6) (ret := (some .int)) (hh := [(0, 12, 15, 13), (0, 12, 19, 15), (0, 12, 23, 17)]) (by decide) rfl ?_
  intro p e s m args below meth c s₁ B hml hv
  obtain ⟨rfl, hsz, hP, hK, hD0, hB⟩ := hv
  have hx := B.exec
  have hb := B.bytes
  have hr := B.returns
  have hts := atoms_spec (ws := wsL_rate) B.pre
  have hown : s.vm.findClass "ShopLedgerLaw" = some m.cls := findClass_of_methodNamed B.named
  have hlocks := B.notSynchronized
  have hTab : c.exceptionTable.toList = tableOf [(0, 12, 15, 13), (0, 12, 19, 15), (0, 12, 23, 17)] := vx_table (x := yL_rate) B (hts _ List.mem_cons_self)
  subst hsz
  have hD := hD0.self (sz := s.heap.size)
  generalize hAe : va_A [(o0, .inl (D.2 1, 1, .inr (.inl ou))), (x0, .inr (5, [.ref h0, .ref b0, .ref w0, .ref s0, .ref m0, .ref g0, .int (nI cl)]))] s.heap.size = A at hD hB ⊢
  have hA : ∀ q : Nat, s.heap.size ≤ q → A q := fun q h => by rw [← hAe]; exact Or.inr h
  have hS : va_S A s.heap s.heap [] := va_S.rf
  have hZ : ∀ w ∈ zALL, w.before _ s = true := fun w h => hts w (List.mem_cons_of_mem _ h)
  have hF : CallFix p m c cL_rate 6 s _ zALL "ShopLedgerLaw" := ⟨hx, hb, hml, hown, hZ⟩
  have hl := lv_entry ([.ref x0, .int p1, .int p2, .int p3, .ref o0]) (n := 6) (Nat.le_of_ble_eq_true rfl)
  rw [lg_entry_eq]
  generalize (lg_sl ([.ref x0, .int p1, .int p2, .int p3, .ref o0]) ++ List.replicate (6 - (lg_sl ([.ref x0, .int p1, .int p2, .int p3, .ref o0])).length) Slot.unset).toArray = ls at hl ⊢
  have hl : lv_has ls 6 [(0, .ref x0), (1, .int p1), (2, .int p2), (3, .int p3), (4, .ref o0)] := hl
  refine lv_aload hx hb dL_rate_0 (lv_at hl 4 rfl) ?_
  refine lv_iconst (v := 0) hx hb dL_rate_2 (by decide) ?_
  refine lv_aload_n hx hb dL_rate_3 rfl (lv_at hl 0 rfl) ?_
  refine lv_iload_n hx hb dL_rate_4 rfl (lv_at hl 1 rfl) ?_
  refine lv_iload_n hx hb dL_rate_5 rfl (lv_at hl 2 rfl) ?_
  refine lv_iload_n hx hb dL_rate_6 rfl (lv_at hl 3 rfl) ?_
  have J := zJ.mk (wc := [(x0, .inr (5, [.ref h0, .ref b0, .ref w0, .ref s0, .ref m0, .ref g0, .int (nI cl)]))]) (wr := [(o0, .inl (D.2 1, 1, .inr (.inl ou)))]) hA hB hK hP hD hS [1] [0] rfl rfl (by decide)
  refine z_xgoi (z_xrunV (As := [.int p1, .int p2, .int p3]) (rest := [.int 0, .ref o0]) (b := x0) hF (c_rateX hl9 D x0 h0 b0 w0 s0 m0 g0 cl p1 p2 p3 s.heap.size hp) (cwV 3 hZ (z_gV t_254 t_255 t_256 t_55 t_253) rfl rfl rfl (by decide +kernel) ⟨Nat.le_of_ble_eq_true rfl, Nat.le_of_ble_eq_true rfl⟩) J 0 5 rfl rfl rfl rfl hl.1 (Nat.le_of_ble_eq_true rfl) dL_rate_7 ⟨Nat.le_of_ble_eq_true rfl, Nat.le_of_ble_eq_true rfl⟩) J (fun EX ce q9 H locs w1 hP hD hS hce hcv hcl => ?_) (fun r1 _ H locs w1 hP hD hS => ?_)
  · have hP : va_P D.1 vwCl [(o0, .inl (D.2 1, 1, .inr (.inl ou))), (x0, .inr (5, [.ref h0, .ref b0, .ref w0, .ref s0, .ref m0, .ref g0, .int (nI cl)]))] H := hP
    have hD : va_D A [(o0, .inl (D.2 1, 1, .inr (.inl ou))), (x0, .inr (5, [.ref h0, .ref b0, .ref w0, .ref s0, .ref m0, .ref g0, .int (nI cl)]))] := hD
    have wE := w1
    obtain rfl : EX = "java/lang/IndexOutOfBoundsException" := w1
    refine vx_catch (own := "ShopLedgerLaw") (name := "java/lang/IndexOutOfBoundsException") (E := "java/lang/IndexOutOfBoundsException") hown [] ⟨0, 12, 15, 13⟩ [⟨0, 12, 19, 15⟩, ⟨0, 12, 23, 17⟩] (by rw [hTab]; rfl) (fun z hz => nomatch hz) (by decide) (by decide) (hZ _ t_205) (va_Nw.use rfl (hB.2.2.2.1 ("java/lang/IndexOutOfBoundsException", "java/lang/IndexOutOfBoundsException") (by decide +kernel))) hce hcv hcl ?_
    refine lv_astore (lv' := [(5, .ref q9), (0, .ref x0), (1, .int p1), (2, .int p2), (3, .int p3), (4, .ref o0)]) hx hb dL_rate_15 hl (by decide) rfl (fun ls hl => ?_)
    refine lv_iconst (v := 1) hx hb dL_rate_17 (by decide) ?_
    exact z_iret (v := 1) hx hb hr hlocks hP hD hS none (Or.inr ⟨rfl, _, wE, by decide +kernel⟩) [0, 1] rfl (by decide) (Nat.le_of_ble_eq_true rfl) (Nat.le_of_ble_eq_true rfl) dL_rate_18
  have hP : va_P D.1 vwCl [(o0, .inl (D.2 1, 1, .inr (.inl ou))), (x0, .inr (5, [.ref h0, .ref b0, .ref w0, .ref s0, .ref m0, .ref g0, .int (nI cl)]))] H := hP
  have hD : va_D A [(o0, .inl (D.2 1, 1, .inr (.inl ou))), (x0, .inr (5, [.ref h0, .ref b0, .ref w0, .ref s0, .ref m0, .ref g0, .int (nI cl)]))] := hD
  refine lv_i2l (v := r1.toInt64) hx hb dL_rate_10 rfl ?_
  refine z_last (k := 0) hx hb hK hP hD hS 0 rfl (by decide) (by decide) dL_rate_11 (fun H locs hP hD hS => ?_)
  have hP : va_P D.1 vwCl [(o0, .inl (D.2 1, 1, .inr (.inl (vp_updL ou 0 r1.toInt64)))), (x0, .inr (5, [.ref h0, .ref b0, .ref w0, .ref s0, .ref m0, .ref g0, .int (nI cl)]))] H := hP
  have hD : va_D A [(o0, .inl (D.2 1, 1, .inr (.inl (vp_updL ou 0 r1.toInt64)))), (x0, .inr (5, [.ref h0, .ref b0, .ref w0, .ref s0, .ref m0, .ref g0, .int (nI cl)]))] := hD
  refine lv_goto (tgt := 27) hx hb dL_rate_12 (by decide) ?_
  refine lv_iconst (v := 0) hx hb dL_rate_27 (by decide) ?_
  exact z_iret (v := 0) hx hb hr hlocks hP hD hS (some r1.toInt64) (Or.inl ⟨r1, rfl, rfl, w1⟩) [0, 1] rfl (by decide) (Nat.le_of_ble_eq_true rfl) (Nat.le_of_ble_eq_true rfl) dL_rate_28
set_option maxHeartbeats 4000000 in
set_option maxRecDepth 100000 in
/-- the law calls foreign, of what is not there -/
theorem w_foreignX {l : Launch} (D : zD) (x0 h0 b0 w0 s0 m0 g0 cl : Nat) (p1 p2 p3 : Int32) (o0 : Nat) (ou : Nat → Int64) (sz : Nat) (hl9 : l.stackTraces = false) (hp : ¬ zin p1 3) : Met l yL_foreign wsL_foreign ({ frames := 8, cells := 1, slots := 6, locals := 136 }) (va_Pc [.ref x0, .int p1, .int p2, .int p3, .ref o0] (zp D sz [(o0, .inl (D.2 1, 1, .inr (.inl ou))), (x0, .inr (5, [.ref h0, .ref b0, .ref w0, .ref s0, .ref m0, .ref g0, .int (nI cl)]))])) (va_Qi (fun r (u : Option Int64) => (∃ r9 : Int64, u = some r9 ∧ r = 0 ∧ (fun r (_ : Unit) => False) r9 ()) ∨ (u = none ∧ ∃ E9, (fun E9 => E9 = "java/lang/IndexOutOfBoundsException") E9 ∧ r = zcd ["java/lang/IndexOutOfBoundsException", "java/lang/IllegalArgumentException", "java/lang/UnsupportedOperationException"] E9)) (zq D (va_A [(o0, .inl (D.2 1, 1, .inr (.inl ou))), (x0, .inr (5, [.ref h0, .ref b0, .ref w0, .ref s0, .ref m0, .ref g0, .int (nI cl)]))] sz) (fun (u : Option Int64) => (u.elim [(o0, .inl (D.2 1, 1, .inr (.inl ou))), (x0, .inr (5, [.ref h0, .ref b0, .ref w0, .ref s0, .ref m0, .ref g0, .int (nI cl)]))] (fun v => [(o0, .inl (D.2 1, 1, .inr (.inl (vp_updL ou 0 v)))), (x0, .inr (5, [.ref h0, .ref b0, .ref w0, .ref s0, .ref m0, .ref g0, .int (nI cl)]))]) : va_W))) (va_A [(o0, .inl (D.2 1, 1, .inr (.inl ou))), (x0, .inr (5, [.ref h0, .ref b0, .ref w0, .ref s0, .ref m0, .ref g0, .int (nI cl)]))] sz)) 1 6 (va_A [(o0, .inl (D.2 1, 1, .inr (.inl ou))), (x0, .inr (5, [.ref h0, .ref b0, .ref w0, .ref s0, .ref m0, .ref g0, .int (nI cl)]))] sz) := by
  refine va_MetW (cc := cL_foreign) (maxL := 6) (ret := (some .int)) (hh := [(0, 11, 14, 13), (0, 11, 18, 17), (0, 11, 22, 23)]) (by decide) rfl ?_
  intro p e s m args below meth c s₁ B hml hv
  obtain ⟨rfl, hsz, hP, hK, hD0, hB⟩ := hv
  have hx := B.exec
  have hb := B.bytes
  have hr := B.returns
  have hts := atoms_spec (ws := wsL_foreign) B.pre
  have hown : s.vm.findClass "ShopLedgerLaw" = some m.cls := findClass_of_methodNamed B.named
  have hlocks := B.notSynchronized
  have hTab : c.exceptionTable.toList = tableOf [(0, 11, 14, 13), (0, 11, 18, 17), (0, 11, 22, 23)] := vx_table (x := yL_foreign) B (hts _ List.mem_cons_self)
  subst hsz
  have hD := hD0.self (sz := s.heap.size)
  generalize hAe : va_A [(o0, .inl (D.2 1, 1, .inr (.inl ou))), (x0, .inr (5, [.ref h0, .ref b0, .ref w0, .ref s0, .ref m0, .ref g0, .int (nI cl)]))] s.heap.size = A at hD hB ⊢
  have hA : ∀ q : Nat, s.heap.size ≤ q → A q := fun q h => by rw [← hAe]; exact Or.inr h
  have hS : va_S A s.heap s.heap [] := va_S.rf
  have hZ : ∀ w ∈ zALL, w.before _ s = true := fun w h => hts w (List.mem_cons_of_mem _ h)
  have hF : CallFix p m c cL_foreign 6 s _ zALL "ShopLedgerLaw" := ⟨hx, hb, hml, hown, hZ⟩
  have hl := lv_entry ([.ref x0, .int p1, .int p2, .int p3, .ref o0]) (n := 6) (Nat.le_of_ble_eq_true rfl)
  rw [lg_entry_eq]
  generalize (lg_sl ([.ref x0, .int p1, .int p2, .int p3, .ref o0]) ++ List.replicate (6 - (lg_sl ([.ref x0, .int p1, .int p2, .int p3, .ref o0])).length) Slot.unset).toArray = ls at hl ⊢
  have hl : lv_has ls 6 [(0, .ref x0), (1, .int p1), (2, .int p2), (3, .int p3), (4, .ref o0)] := hl
  refine lv_aload hx hb dL_foreign_0 (lv_at hl 4 rfl) ?_
  refine lv_iconst (v := 0) hx hb dL_foreign_2 (by decide) ?_
  refine lv_aload_n hx hb dL_foreign_3 rfl (lv_at hl 0 rfl) ?_
  refine lv_iload_n hx hb dL_foreign_4 rfl (lv_at hl 1 rfl) ?_
  refine lv_iload_n hx hb dL_foreign_5 rfl (lv_at hl 2 rfl) ?_
  refine lv_iload_n hx hb dL_foreign_6 rfl (lv_at hl 3 rfl) ?_
  have J := zJ.mk (wc := [(x0, .inr (5, [.ref h0, .ref b0, .ref w0, .ref s0, .ref m0, .ref g0, .int (nI cl)]))]) (wr := [(o0, .inl (D.2 1, 1, .inr (.inl ou)))]) hA hB hK hP hD hS [1] [0] rfl rfl (by decide)
  refine z_xgol (z_xrunV (As := [.int p1, .int p2, .int p3]) (rest := [.int 0, .ref o0]) (b := x0) hF (c_foreignX hl9 D x0 h0 b0 w0 s0 m0 g0 cl p1 p2 p3 s.heap.size hp) (cwV 3 hZ (z_gV t_258 t_259 t_260 t_55 t_257) rfl rfl rfl (by decide +kernel) ⟨Nat.le_of_ble_eq_true rfl, Nat.le_of_ble_eq_true rfl⟩) J 0 5 rfl rfl rfl rfl hl.1 (Nat.le_of_ble_eq_true rfl) dL_foreign_7 ⟨Nat.le_of_ble_eq_true rfl, Nat.le_of_ble_eq_true rfl⟩) J (fun EX ce q9 H locs w1 hP hD hS hce hcv hcl => ?_) (fun r1 _ H locs w1 hP hD hS => ?_)
  · have hP : va_P D.1 vwCl [(o0, .inl (D.2 1, 1, .inr (.inl ou))), (x0, .inr (5, [.ref h0, .ref b0, .ref w0, .ref s0, .ref m0, .ref g0, .int (nI cl)]))] H := hP
    have hD : va_D A [(o0, .inl (D.2 1, 1, .inr (.inl ou))), (x0, .inr (5, [.ref h0, .ref b0, .ref w0, .ref s0, .ref m0, .ref g0, .int (nI cl)]))] := hD
    have wE := w1
    obtain rfl : EX = "java/lang/IndexOutOfBoundsException" := w1
    refine vx_catch (own := "ShopLedgerLaw") (name := "java/lang/IndexOutOfBoundsException") (E := "java/lang/IndexOutOfBoundsException") hown [] ⟨0, 11, 14, 13⟩ [⟨0, 11, 18, 17⟩, ⟨0, 11, 22, 23⟩] (by rw [hTab]; rfl) (fun z hz => nomatch hz) (by decide) (by decide) (hZ _ t_205) (va_Nw.use rfl (hB.2.2.2.1 ("java/lang/IndexOutOfBoundsException", "java/lang/IndexOutOfBoundsException") (by decide +kernel))) hce hcv hcl ?_
    refine lv_astore (lv' := [(5, .ref q9), (0, .ref x0), (1, .int p1), (2, .int p2), (3, .int p3), (4, .ref o0)]) hx hb dL_foreign_14 hl (by decide) rfl (fun ls hl => ?_)
    refine lv_iconst (v := 1) hx hb dL_foreign_16 (by decide) ?_
    exact z_iret (v := 1) hx hb hr hlocks hP hD hS none (Or.inr ⟨rfl, _, wE, by decide +kernel⟩) [0, 1] rfl (by decide) (Nat.le_of_ble_eq_true rfl) (Nat.le_of_ble_eq_true rfl) dL_foreign_17
  have hP : va_P D.1 vwCl [(o0, .inl (D.2 1, 1, .inr (.inl ou))), (x0, .inr (5, [.ref h0, .ref b0, .ref w0, .ref s0, .ref m0, .ref g0, .int (nI cl)]))] H := hP
  have hD : va_D A [(o0, .inl (D.2 1, 1, .inr (.inl ou))), (x0, .inr (5, [.ref h0, .ref b0, .ref w0, .ref s0, .ref m0, .ref g0, .int (nI cl)]))] := hD
  refine z_last (k := 0) hx hb hK hP hD hS 0 rfl (by decide) (by decide) dL_foreign_10 (fun H locs hP hD hS => ?_)
  have hP : va_P D.1 vwCl [(o0, .inl (D.2 1, 1, .inr (.inl (vp_updL ou 0 r1)))), (x0, .inr (5, [.ref h0, .ref b0, .ref w0, .ref s0, .ref m0, .ref g0, .int (nI cl)]))] H := hP
  have hD : va_D A [(o0, .inl (D.2 1, 1, .inr (.inl (vp_updL ou 0 r1)))), (x0, .inr (5, [.ref h0, .ref b0, .ref w0, .ref s0, .ref m0, .ref g0, .int (nI cl)]))] := hD
  refine lv_goto (tgt := 26) hx hb dL_foreign_11 (by decide) ?_
  refine lv_iconst (v := 0) hx hb dL_foreign_26 (by decide) ?_
  exact z_iret (v := 0) hx hb hr hlocks hP hD hS (some r1) (Or.inl ⟨r1, rfl, rfl, w1⟩) [0, 1] rfl (by decide) (Nat.le_of_ble_eq_true rfl) (Nat.le_of_ble_eq_true rfl) dL_foreign_27
set_option maxHeartbeats 4000000 in
set_option maxRecDepth 100000 in
/-- the law calls opened, of what is not there -/
theorem w_openedX {l : Launch} (D : zD) (x0 h0 b0 w0 s0 m0 cl : Nat) (g0 g1 g2 n : Nat) (p1 : Int32) (o0 : Nat) (ou : Nat → Int64) (sz : Nat) (hl9 : l.stackTraces = false) (hp : ¬ zin p1 (nI n)) : Met l yL_opened wsL_opened ({ frames := 8, cells := 1, slots := 6, locals := 138 }) (va_Pc [.ref x0, .int p1, .ref o0] (zp D sz [(o0, .inl (D.2 1, 1, .inr (.inl ou))), (x0, .inr (5, [.ref h0, .ref b0, .ref w0, .ref s0, .ref m0, .ref g0, .int (nI cl)])), (g0, .inr (3, [.ref g1, .ref g2, .int (nI n)]))])) (va_Qi (fun r (u : Option Int64) => (∃ r9 : Int64, u = some r9 ∧ r = 0 ∧ (fun r (_ : Unit) => False) r9 ()) ∨ (u = none ∧ ∃ E9, (fun E9 => E9 = "java/lang/IndexOutOfBoundsException") E9 ∧ r = zcd ["java/lang/IndexOutOfBoundsException"] E9)) (zq D (va_A [(o0, .inl (D.2 1, 1, .inr (.inl ou))), (x0, .inr (5, [.ref h0, .ref b0, .ref w0, .ref s0, .ref m0, .ref g0, .int (nI cl)])), (g0, .inr (3, [.ref g1, .ref g2, .int (nI n)]))] sz) (fun (u : Option Int64) => (u.elim [(o0, .inl (D.2 1, 1, .inr (.inl ou))), (x0, .inr (5, [.ref h0, .ref b0, .ref w0, .ref s0, .ref m0, .ref g0, .int (nI cl)])), (g0, .inr (3, [.ref g1, .ref g2, .int (nI n)]))] (fun v => [(o0, .inl (D.2 1, 1, .inr (.inl (vp_updL ou 0 v)))), (x0, .inr (5, [.ref h0, .ref b0, .ref w0, .ref s0, .ref m0, .ref g0, .int (nI cl)])), (g0, .inr (3, [.ref g1, .ref g2, .int (nI n)]))]) : va_W))) (va_A [(o0, .inl (D.2 1, 1, .inr (.inl ou))), (x0, .inr (5, [.ref h0, .ref b0, .ref w0, .ref s0, .ref m0, .ref g0, .int (nI cl)])), (g0, .inr (3, [.ref g1, .ref g2, .int (nI n)]))] sz)) 1 6 (va_A [(o0, .inl (D.2 1, 1, .inr (.inl ou))), (x0, .inr (5, [.ref h0, .ref b0, .ref w0, .ref s0, .ref m0, .ref g0, .int (nI cl)])), (g0, .inr (3, [.ref g1, .ref g2, .int (nI n)]))] sz) := by
  refine va_MetW (cc := cL_opened) (maxL := 4) (ret := (some .int)) (hh := [(0, 8, 11, 13)]) (by decide) rfl ?_
  intro p e s m args below meth c s₁ B hml hv
  obtain ⟨rfl, hsz, hP, hK, hD0, hB⟩ := hv
  have hx := B.exec
  have hb := B.bytes
  have hr := B.returns
  have hts := atoms_spec (ws := wsL_opened) B.pre
  have hown : s.vm.findClass "ShopLedgerLaw" = some m.cls := findClass_of_methodNamed B.named
  have hlocks := B.notSynchronized
  have hTab : c.exceptionTable.toList = tableOf [(0, 8, 11, 13)] := vx_table (x := yL_opened) B (hts _ List.mem_cons_self)
  subst hsz
  have hD := hD0.self (sz := s.heap.size)
  generalize hAe : va_A [(o0, .inl (D.2 1, 1, .inr (.inl ou))), (x0, .inr (5, [.ref h0, .ref b0, .ref w0, .ref s0, .ref m0, .ref g0, .int (nI cl)])), (g0, .inr (3, [.ref g1, .ref g2, .int (nI n)]))] s.heap.size = A at hD hB ⊢
  have hA : ∀ q : Nat, s.heap.size ≤ q → A q := fun q h => by rw [← hAe]; exact Or.inr h
  have hS : va_S A s.heap s.heap [] := va_S.rf
  have hZ : ∀ w ∈ zALL, w.before _ s = true := fun w h => hts w (List.mem_cons_of_mem _ h)
  have hF : CallFix p m c cL_opened 4 s _ zALL "ShopLedgerLaw" := ⟨hx, hb, hml, hown, hZ⟩
  have hl := lv_entry ([.ref x0, .int p1, .ref o0]) (n := 4) (Nat.le_of_ble_eq_true rfl)
  rw [lg_entry_eq]
  generalize (lg_sl ([.ref x0, .int p1, .ref o0]) ++ List.replicate (4 - (lg_sl ([.ref x0, .int p1, .ref o0])).length) Slot.unset).toArray = ls at hl ⊢
  have hl : lv_has ls 4 [(0, .ref x0), (1, .int p1), (2, .ref o0)] := hl
  refine lv_aload_n hx hb dL_opened_0 rfl (lv_at hl 2 rfl) ?_
  refine lv_iconst (v := 0) hx hb dL_opened_1 (by decide) ?_
  refine lv_aload_n hx hb dL_opened_2 rfl (lv_at hl 0 rfl) ?_
  refine lv_iload_n hx hb dL_opened_3 rfl (lv_at hl 1 rfl) ?_
  have J := zJ.mk (wc := [(x0, .inr (5, [.ref h0, .ref b0, .ref w0, .ref s0, .ref m0, .ref g0, .int (nI cl)])), (g0, .inr (3, [.ref g1, .ref g2, .int (nI n)]))]) (wr := [(o0, .inl (D.2 1, 1, .inr (.inl ou)))]) hA hB hK hP hD hS [1, 2] [0] rfl rfl (by decide)
  refine z_xgol (z_xrunV (As := [.int p1]) (rest := [.int 0, .ref o0]) (b := x0) hF (c_openedX hl9 D x0 h0 b0 w0 s0 m0 cl g0 g1 g2 n p1 s.heap.size hp) (cwV 1 hZ (z_gV t_266 t_267 t_268 t_55 t_265) rfl rfl rfl (by decide +kernel) ⟨Nat.le_of_ble_eq_true rfl, Nat.le_of_ble_eq_true rfl⟩) J 0 5 rfl rfl rfl rfl hl.1 (Nat.le_of_ble_eq_true rfl) dL_opened_4 ⟨Nat.le_of_ble_eq_true rfl, Nat.le_of_ble_eq_true rfl⟩) J (fun EX ce q9 H locs w1 hP hD hS hce hcv hcl => ?_) (fun r1 _ H locs w1 hP hD hS => ?_)
  · have hP : va_P D.1 vwCl [(o0, .inl (D.2 1, 1, .inr (.inl ou))), (x0, .inr (5, [.ref h0, .ref b0, .ref w0, .ref s0, .ref m0, .ref g0, .int (nI cl)])), (g0, .inr (3, [.ref g1, .ref g2, .int (nI n)]))] H := hP
    have hD : va_D A [(o0, .inl (D.2 1, 1, .inr (.inl ou))), (x0, .inr (5, [.ref h0, .ref b0, .ref w0, .ref s0, .ref m0, .ref g0, .int (nI cl)])), (g0, .inr (3, [.ref g1, .ref g2, .int (nI n)]))] := hD
    have wE := w1
    obtain rfl : EX = "java/lang/IndexOutOfBoundsException" := w1
    refine vx_catch (own := "ShopLedgerLaw") (name := "java/lang/IndexOutOfBoundsException") (E := "java/lang/IndexOutOfBoundsException") hown [] ⟨0, 8, 11, 13⟩ [] (by rw [hTab]; rfl) (fun z hz => nomatch hz) (by decide) (by decide) (hZ _ t_205) (va_Nw.use rfl (hB.2.2.2.1 ("java/lang/IndexOutOfBoundsException", "java/lang/IndexOutOfBoundsException") (by decide +kernel))) hce hcv hcl ?_
    refine lv_astore_n (lv' := [(3, .ref q9), (0, .ref x0), (1, .int p1), (2, .ref o0)]) hx hb dL_opened_11 rfl hl (by decide) rfl (fun ls hl => ?_)
    refine lv_iconst (v := 1) hx hb dL_opened_12 (by decide) ?_
    exact z_iret (v := 1) hx hb hr hlocks hP hD hS none (Or.inr ⟨rfl, _, wE, by decide +kernel⟩) [0, 1, 2] rfl (by decide) (Nat.le_of_ble_eq_true rfl) (Nat.le_of_ble_eq_true rfl) dL_opened_13
  have hP : va_P D.1 vwCl [(o0, .inl (D.2 1, 1, .inr (.inl ou))), (x0, .inr (5, [.ref h0, .ref b0, .ref w0, .ref s0, .ref m0, .ref g0, .int (nI cl)])), (g0, .inr (3, [.ref g1, .ref g2, .int (nI n)]))] H := hP
  have hD : va_D A [(o0, .inl (D.2 1, 1, .inr (.inl ou))), (x0, .inr (5, [.ref h0, .ref b0, .ref w0, .ref s0, .ref m0, .ref g0, .int (nI cl)])), (g0, .inr (3, [.ref g1, .ref g2, .int (nI n)]))] := hD
  refine z_last (k := 0) hx hb hK hP hD hS 0 rfl (by decide) (by decide) dL_opened_7 (fun H locs hP hD hS => ?_)
  have hP : va_P D.1 vwCl [(o0, .inl (D.2 1, 1, .inr (.inl (vp_updL ou 0 r1)))), (x0, .inr (5, [.ref h0, .ref b0, .ref w0, .ref s0, .ref m0, .ref g0, .int (nI cl)])), (g0, .inr (3, [.ref g1, .ref g2, .int (nI n)]))] H := hP
  have hD : va_D A [(o0, .inl (D.2 1, 1, .inr (.inl (vp_updL ou 0 r1)))), (x0, .inr (5, [.ref h0, .ref b0, .ref w0, .ref s0, .ref m0, .ref g0, .int (nI cl)])), (g0, .inr (3, [.ref g1, .ref g2, .int (nI n)]))] := hD
  refine lv_goto (tgt := 14) hx hb dL_opened_8 (by decide) ?_
  refine lv_iconst (v := 0) hx hb dL_opened_14 (by decide) ?_
  exact z_iret (v := 0) hx hb hr hlocks hP hD hS (some r1) (Or.inl ⟨r1, rfl, rfl, w1⟩) [0, 1, 2] rfl (by decide) (Nat.le_of_ble_eq_true rfl) (Nat.le_of_ble_eq_true rfl) dL_opened_15
