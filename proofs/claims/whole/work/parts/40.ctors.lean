abbrev zy_Text_init : MethodName := ⟨"LassoFinder$Text", "<init>", "()V"⟩
abbrev zy_Names_init : MethodName := ⟨"LassoFinder$Names", "<init>", "()V"⟩
abbrev zy_Program_init : MethodName := ⟨"LassoFinder$Program", "<init>", "()V"⟩
abbrev zy_Terms_init : MethodName := ⟨"LassoFinder$Terms", "<init>", "(LLassoFinder$Text;LLassoFinder$Names;)V"⟩
abbrev zy_ModelReader_init : MethodName := ⟨"LassoFinder$ModelReader", "<init>", "(LLassoFinder$Text;LLassoFinder$Names;LLassoFinder$Terms;LLassoFinder$Program;)V"⟩
abbrev zy_Tree_init : MethodName := ⟨"LassoFinder$Tree", "<init>", "()V"⟩
abbrev zy_Situation_init : MethodName := ⟨"LassoFinder$Situation", "<init>", "(LLassoFinder$Names;LLassoFinder$Terms;LLassoFinder$Program;)V"⟩
abbrev zy_Graph_init : MethodName := ⟨"LassoFinder$Graph", "<init>", "(LLassoFinder$Situation;)V"⟩
abbrev zy_Formula_init : MethodName := ⟨"LassoFinder$Formula", "<init>", "(LLassoFinder$Text;LLassoFinder$Names;LLassoFinder$Program;)V"⟩
abbrev zy_Truths_init : MethodName := ⟨"LassoFinder$Truths", "<init>", "(LLassoFinder$Graph;LLassoFinder$Situation;LLassoFinder$Formula;)V"⟩
abbrev zy_LassoSearch_init : MethodName := ⟨"LassoFinder$LassoSearch", "<init>", "(LLassoFinder$Graph;LLassoFinder$Truths;)V"⟩
theorem zc_235 : Cond.methodLink "LassoFinder$Text" 3 ⟨"java/lang/Object", "<init>", "()V"⟩ ∈ zTB := z_in (zt_1 _ (List.mem_of_getElem? (i := 37) rfl)) rfl
theorem zc_236 : Cond.instanceMethod ⟨"java/lang/Object", "<init>", "()V"⟩ ∈ zTB := z_in (zt_1 _ (List.mem_of_getElem? (i := 30) rfl)) rfl
theorem zc_237 : Cond.code ⟨"java/lang/Object", "<init>", "()V"⟩ object_method_1_code 1 none ∈ zTB := z_in (zt_1 _ (List.mem_of_getElem? (i := 31) rfl)) rfl
theorem zc_238 : Cond.arrayClass .int ∈ zTB := z_in (zt_1 _ (List.mem_of_getElem? (i := 89) rfl)) rfl
theorem zc_239 : Cond.arrayClass .long ∈ zTB := z_in (zt_1 _ (List.mem_of_getElem? (i := 158) rfl)) rfl
theorem zc_240 : Cond.arrayClass .boolean ∈ zTB := z_in (zt_1 _ (List.mem_of_getElem? (i := 157) rfl)) rfl
theorem zc_241 : Cond.arrayClass .char ∈ zTB := z_in (zt_1 _ (List.mem_of_getElem? (i := 55) rfl)) rfl
theorem zc_242 : Cond.fieldLink "LassoFinder$Text" 11 "LassoFinder$Text" "signs" "[C" ∈ zTB := z_in (zt_1 _ (List.mem_of_getElem? (i := 38) rfl)) rfl
theorem zc_243 : Cond.fieldLink "LassoFinder$Text" 15 "LassoFinder$Text" "wrongAt" "I" ∈ zTB := z_in (zt_1 _ (List.mem_of_getElem? (i := 42) rfl)) rfl
theorem zc_244 : Cond.methodLink "LassoFinder$Names" 1 ⟨"java/lang/Object", "<init>", "()V"⟩ ∈ zTB := z_in (zt_1 _ (List.mem_of_getElem? (i := 61) rfl)) rfl
theorem zc_245 : Cond.fieldLink "LassoFinder$Names" 9 "LassoFinder$Names" "kinds" "[I" ∈ zTB := z_in (zt_1 _ (List.mem_of_getElem? (i := 62) rfl)) rfl
theorem zc_246 : Cond.fieldLink "LassoFinder$Names" 13 "LassoFinder$Names" "digits" "[I" ∈ zTB := z_in (zt_1 _ (List.mem_of_getElem? (i := 66) rfl)) rfl
theorem zc_247 : Cond.fieldLink "LassoFinder$Names" 16 "LassoFinder$Names" "variableNames" "[I" ∈ zTB := z_in (zt_1 _ (List.mem_of_getElem? (i := 68) rfl)) rfl
theorem zc_248 : Cond.fieldLink "LassoFinder$Names" 19 "LassoFinder$Names" "channelNames" "[I" ∈ zTB := z_in (zt_1 _ (List.mem_of_getElem? (i := 70) rfl)) rfl
theorem zc_249 : Cond.methodLink "LassoFinder$Program" 5 ⟨"java/lang/Object", "<init>", "()V"⟩ ∈ zTB := z_in (zt_1 _ (List.mem_of_getElem? (i := 95) rfl)) rfl
theorem zc_250 : Cond.fieldLink "LassoFinder$Program" 11 "LassoFinder$Program" "kinds" "[I" ∈ zTB := z_in (zt_1 _ (List.mem_of_getElem? (i := 96) rfl)) rfl
theorem zc_251 : Cond.fieldLink "LassoFinder$Program" 15 "LassoFinder$Program" "channel" "[I" ∈ zTB := z_in (zt_1 _ (List.mem_of_getElem? (i := 98) rfl)) rfl
theorem zc_252 : Cond.fieldLink "LassoFinder$Program" 18 "LassoFinder$Program" "variable" "[I" ∈ zTB := z_in (zt_1 _ (List.mem_of_getElem? (i := 100) rfl)) rfl
theorem zc_253 : Cond.fieldLink "LassoFinder$Program" 21 "LassoFinder$Program" "expression" "[I" ∈ zTB := z_in (zt_1 _ (List.mem_of_getElem? (i := 102) rfl)) rfl
theorem zc_254 : Cond.fieldLink "LassoFinder$Program" 24 "LassoFinder$Program" "actor" "[I" ∈ zTB := z_in (zt_1 _ (List.mem_of_getElem? (i := 104) rfl)) rfl
theorem zc_255 : Cond.fieldLink "LassoFinder$Program" 27 "LassoFinder$Program" "after" "[I" ∈ zTB := z_in (zt_1 _ (List.mem_of_getElem? (i := 106) rfl)) rfl
theorem zc_256 : Cond.fieldLink "LassoFinder$Program" 30 "LassoFinder$Program" "keeps" "[Z" ∈ zTB := z_in (zt_1 _ (List.mem_of_getElem? (i := 108) rfl)) rfl
theorem zc_257 : Cond.fieldLink "LassoFinder$Program" 36 "LassoFinder$Program" "receives" "[J" ∈ zTB := z_in (zt_1 _ (List.mem_of_getElem? (i := 110) rfl)) rfl
theorem zc_258 : Cond.fieldLink "LassoFinder$Program" 40 "LassoFinder$Program" "startPoint" "[I" ∈ zTB := z_in (zt_1 _ (List.mem_of_getElem? (i := 112) rfl)) rfl
theorem zc_259 : Cond.fieldLink "LassoFinder$Program" 43 "LassoFinder$Program" "labelPoint" "[I" ∈ zTB := z_in (zt_1 _ (List.mem_of_getElem? (i := 114) rfl)) rfl
theorem zc_260 : Cond.fieldLink "LassoFinder$Program" 46 "LassoFinder$Program" "basicsAt" "[J" ∈ zTB := z_in (zt_1 _ (List.mem_of_getElem? (i := 116) rfl)) rfl
theorem zc_261 : Cond.methodLink "LassoFinder$Terms" 7 ⟨"java/lang/Object", "<init>", "()V"⟩ ∈ zTB := z_in (zt_1 _ (List.mem_of_getElem? (i := 164) rfl)) rfl
theorem zc_262 : Cond.fieldLink "LassoFinder$Terms" 13 "LassoFinder$Terms" "text" "LLassoFinder$Text;" ∈ zTB := z_in (zt_1 _ (List.mem_of_getElem? (i := 165) rfl)) rfl
theorem zc_263 : Cond.fieldLink "LassoFinder$Terms" 17 "LassoFinder$Terms" "names" "LLassoFinder$Names;" ∈ zTB := z_in (zt_1 _ (List.mem_of_getElem? (i := 166) rfl)) rfl
theorem zc_264 : Cond.fieldLink "LassoFinder$Terms" 21 "LassoFinder$Terms" "codes" "[I" ∈ zTB := z_in (zt_1 _ (List.mem_of_getElem? (i := 167) rfl)) rfl
theorem zc_265 : Cond.fieldLink "LassoFinder$Terms" 25 "LassoFinder$Terms" "waiting" "[I" ∈ zTB := z_in (zt_1 _ (List.mem_of_getElem? (i := 169) rfl)) rfl
theorem zc_266 : Cond.fieldLink "LassoFinder$Terms" 28 "LassoFinder$Terms" "sides" "[I" ∈ zTB := z_in (zt_1 _ (List.mem_of_getElem? (i := 171) rfl)) rfl
theorem zc_267 : Cond.methodLink "LassoFinder$Tree" 3 ⟨"java/lang/Object", "<init>", "()V"⟩ ∈ zTB := z_in (zt_1 _ (List.mem_of_getElem? (i := 207) rfl)) rfl
theorem zc_268 : Cond.fieldLink "LassoFinder$Tree" 11 "LassoFinder$Tree" "kinds" "[I" ∈ zTB := z_in (zt_1 _ (List.mem_of_getElem? (i := 208) rfl)) rfl
theorem zc_269 : Cond.fieldLink "LassoFinder$Tree" 17 "LassoFinder$Tree" "around" "[I" ∈ zTB := z_in (zt_1 _ (List.mem_of_getElem? (i := 211) rfl)) rfl
theorem zc_270 : Cond.fieldLink "LassoFinder$Tree" 20 "LassoFinder$Tree" "loops" "[I" ∈ zTB := z_in (zt_1 _ (List.mem_of_getElem? (i := 213) rfl)) rfl
theorem zc_271 : Cond.fieldLink "LassoFinder$Tree" 23 "LassoFinder$Tree" "atomics" "[I" ∈ zTB := z_in (zt_1 _ (List.mem_of_getElem? (i := 214) rfl)) rfl
theorem zc_272 : Cond.fieldLink "LassoFinder$Tree" 26 "LassoFinder$Tree" "leads" "[Z" ∈ zTB := z_in (zt_1 _ (List.mem_of_getElem? (i := 216) rfl)) rfl
theorem zc_273 : Cond.fieldLink "LassoFinder$Tree" 30 "LassoFinder$Tree" "next" "[I" ∈ zTB := z_in (zt_1 _ (List.mem_of_getElem? (i := 218) rfl)) rfl
theorem zc_274 : Cond.fieldLink "LassoFinder$Tree" 33 "LassoFinder$Tree" "firstInside" "[I" ∈ zTB := z_in (zt_1 _ (List.mem_of_getElem? (i := 219) rfl)) rfl
theorem zc_275 : Cond.fieldLink "LassoFinder$Tree" 36 "LassoFinder$Tree" "pointOf" "[I" ∈ zTB := z_in (zt_1 _ (List.mem_of_getElem? (i := 220) rfl)) rfl
theorem zc_276 : Cond.fieldLink "LassoFinder$Tree" 39 "LassoFinder$Tree" "number" "[I" ∈ zTB := z_in (zt_1 _ (List.mem_of_getElem? (i := 222) rfl)) rfl
theorem zc_277 : Cond.fieldLink "LassoFinder$Tree" 42 "LassoFinder$Tree" "labelAt" "[I" ∈ zTB := z_in (zt_1 _ (List.mem_of_getElem? (i := 225) rfl)) rfl
theorem zc_278 : Cond.fieldLink "LassoFinder$Tree" 47 "LassoFinder$Tree" "labelled" "[I" ∈ zTB := z_in (zt_1 _ (List.mem_of_getElem? (i := 227) rfl)) rfl
theorem zc_279 : Cond.methodLink "LassoFinder$ModelReader" 3 ⟨"java/lang/Object", "<init>", "()V"⟩ ∈ zTB := z_in (zt_1 _ (List.mem_of_getElem? (i := 201) rfl)) rfl
theorem zc_280 : Cond.fieldLink "LassoFinder$ModelReader" 9 "LassoFinder$ModelReader" "text" "LLassoFinder$Text;" ∈ zTB := z_in (zt_2 _ (List.mem_of_getElem? (i := 22) rfl)) rfl
theorem zc_281 : Cond.fieldLink "LassoFinder$ModelReader" 15 "LassoFinder$ModelReader" "names" "LLassoFinder$Names;" ∈ zTB := z_in (zt_2 _ (List.mem_of_getElem? (i := 23) rfl)) rfl
theorem zc_282 : Cond.fieldLink "LassoFinder$ModelReader" 19 "LassoFinder$ModelReader" "terms" "LLassoFinder$Terms;" ∈ zTB := z_in (zt_2 _ (List.mem_of_getElem? (i := 24) rfl)) rfl
theorem zc_283 : Cond.fieldLink "LassoFinder$ModelReader" 23 "LassoFinder$ModelReader" "program" "LLassoFinder$Program;" ∈ zTB := z_in (zt_2 _ (List.mem_of_getElem? (i := 25) rfl)) rfl
theorem zc_284 : Cond.classLink "LassoFinder$ModelReader" 27 "LassoFinder$Tree" ∈ zTB := z_in (zt_1 _ (List.mem_of_getElem? (i := 202) rfl)) rfl
theorem zc_285 : Cond.methodLink "LassoFinder$ModelReader" 29 ⟨"LassoFinder$Tree", "<init>", "()V"⟩ ∈ zTB := z_in (zt_1 _ (List.mem_of_getElem? (i := 204) rfl)) rfl
theorem zc_286 : Cond.fieldLink "LassoFinder$ModelReader" 30 "LassoFinder$ModelReader" "tree" "LLassoFinder$Tree;" ∈ zTB := z_in (zt_2 _ (List.mem_of_getElem? (i := 26) rfl)) rfl
theorem zc_287 : Cond.methodLink "LassoFinder$Situation" 3 ⟨"java/lang/Object", "<init>", "()V"⟩ ∈ zTB := z_in (zt_2 _ (List.mem_of_getElem? (i := 43) rfl)) rfl
theorem zc_288 : Cond.fieldLink "LassoFinder$Situation" 9 "LassoFinder$Situation" "names" "LLassoFinder$Names;" ∈ zTB := z_in (zt_2 _ (List.mem_of_getElem? (i := 44) rfl)) rfl
theorem zc_289 : Cond.fieldLink "LassoFinder$Situation" 15 "LassoFinder$Situation" "terms" "LLassoFinder$Terms;" ∈ zTB := z_in (zt_2 _ (List.mem_of_getElem? (i := 45) rfl)) rfl
theorem zc_290 : Cond.fieldLink "LassoFinder$Situation" 19 "LassoFinder$Situation" "program" "LLassoFinder$Program;" ∈ zTB := z_in (zt_2 _ (List.mem_of_getElem? (i := 46) rfl)) rfl
theorem zc_291 : Cond.fieldLink "LassoFinder$Situation" 25 "LassoFinder$Situation" "amounts" "[I" ∈ zTB := z_in (zt_2 _ (List.mem_of_getElem? (i := 47) rfl)) rfl
theorem zc_292 : Cond.fieldLink "LassoFinder$Situation" 29 "LassoFinder$Situation" "messages" "[I" ∈ zTB := z_in (zt_2 _ (List.mem_of_getElem? (i := 50) rfl)) rfl
theorem zc_293 : Cond.fieldLink "LassoFinder$Situation" 34 "LassoFinder$Situation" "points" "[I" ∈ zTB := z_in (zt_2 _ (List.mem_of_getElem? (i := 51) rfl)) rfl
theorem zc_294 : Cond.fieldLink "LassoFinder$Situation" 37 "LassoFinder$Situation" "holding" "I" ∈ zTB := z_in (zt_2 _ (List.mem_of_getElem? (i := 54) rfl)) rfl
theorem zc_295 : Cond.methodLink "LassoFinder$Graph" 3 ⟨"java/lang/Object", "<init>", "()V"⟩ ∈ zTB := z_in (zt_2 _ (List.mem_of_getElem? (i := 79) rfl)) rfl
theorem zc_296 : Cond.fieldLink "LassoFinder$Graph" 9 "LassoFinder$Graph" "situation" "LLassoFinder$Situation;" ∈ zTB := z_in (zt_2 _ (List.mem_of_getElem? (i := 80) rfl)) rfl
theorem zc_297 : Cond.fieldLink "LassoFinder$Graph" 15 "LassoFinder$Graph" "packedStates" "[J" ∈ zTB := z_in (zt_2 _ (List.mem_of_getElem? (i := 81) rfl)) rfl
theorem zc_298 : Cond.fieldLink "LassoFinder$Graph" 19 "LassoFinder$Graph" "firstStep" "[I" ∈ zTB := z_in (zt_2 _ (List.mem_of_getElem? (i := 84) rfl)) rfl
theorem zc_299 : Cond.fieldLink "LassoFinder$Graph" 23 "LassoFinder$Graph" "stepFrom" "[I" ∈ zTB := z_in (zt_2 _ (List.mem_of_getElem? (i := 87) rfl)) rfl
theorem zc_300 : Cond.fieldLink "LassoFinder$Graph" 26 "LassoFinder$Graph" "stepTo" "[I" ∈ zTB := z_in (zt_2 _ (List.mem_of_getElem? (i := 90) rfl)) rfl
theorem zc_301 : Cond.fieldLink "LassoFinder$Graph" 29 "LassoFinder$Graph" "stepBasic" "[I" ∈ zTB := z_in (zt_2 _ (List.mem_of_getElem? (i := 93) rfl)) rfl
theorem zc_302 : Cond.fieldLink "LassoFinder$Graph" 32 "LassoFinder$Graph" "stepPartner" "[I" ∈ zTB := z_in (zt_2 _ (List.mem_of_getElem? (i := 95) rfl)) rfl
theorem zc_303 : Cond.fieldLink "LassoFinder$Graph" 35 "LassoFinder$Graph" "firstSource" "[I" ∈ zTB := z_in (zt_2 _ (List.mem_of_getElem? (i := 97) rfl)) rfl
theorem zc_304 : Cond.fieldLink "LassoFinder$Graph" 38 "LassoFinder$Graph" "sources" "[I" ∈ zTB := z_in (zt_2 _ (List.mem_of_getElem? (i := 99) rfl)) rfl
theorem zc_305 : Cond.methodLink "LassoFinder$Formula" 3 ⟨"java/lang/Object", "<init>", "()V"⟩ ∈ zTB := z_in (zt_2 _ (List.mem_of_getElem? (i := 135) rfl)) rfl
theorem zc_306 : Cond.fieldLink "LassoFinder$Formula" 9 "LassoFinder$Formula" "text" "LLassoFinder$Text;" ∈ zTB := z_in (zt_2 _ (List.mem_of_getElem? (i := 138) rfl)) rfl
theorem zc_307 : Cond.fieldLink "LassoFinder$Formula" 15 "LassoFinder$Formula" "program" "LLassoFinder$Program;" ∈ zTB := z_in (zt_2 _ (List.mem_of_getElem? (i := 139) rfl)) rfl
theorem zc_308 : Cond.classLink "LassoFinder$Formula" 19 "LassoFinder$Terms" ∈ zTB := z_in (zt_2 _ (List.mem_of_getElem? (i := 136) rfl)) rfl
theorem zc_309 : Cond.methodLink "LassoFinder$Formula" 21 ⟨"LassoFinder$Terms", "<init>", "(LLassoFinder$Text;LLassoFinder$Names;)V"⟩ ∈ zTB := z_in (zt_2 _ (List.mem_of_getElem? (i := 137) rfl)) rfl
theorem zc_310 : Cond.fieldLink "LassoFinder$Formula" 24 "LassoFinder$Formula" "terms" "LLassoFinder$Terms;" ∈ zTB := z_in (zt_2 _ (List.mem_of_getElem? (i := 140) rfl)) rfl
theorem zc_311 : Cond.fieldLink "LassoFinder$Formula" 30 "LassoFinder$Formula" "kinds" "[I" ∈ zTB := z_in (zt_2 _ (List.mem_of_getElem? (i := 142) rfl)) rfl
theorem zc_312 : Cond.fieldLink "LassoFinder$Formula" 34 "LassoFinder$Formula" "left" "[I" ∈ zTB := z_in (zt_2 _ (List.mem_of_getElem? (i := 144) rfl)) rfl
theorem zc_313 : Cond.fieldLink "LassoFinder$Formula" 37 "LassoFinder$Formula" "right" "[I" ∈ zTB := z_in (zt_2 _ (List.mem_of_getElem? (i := 146) rfl)) rfl
theorem zc_314 : Cond.fieldLink "LassoFinder$Formula" 40 "LassoFinder$Formula" "temporalParts" "[I" ∈ zTB := z_in (zt_2 _ (List.mem_of_getElem? (i := 148) rfl)) rfl
theorem zc_315 : Cond.methodLink "LassoFinder$Truths" 1 ⟨"java/lang/Object", "<init>", "()V"⟩ ∈ zTB := z_in (zt_2 _ (List.mem_of_getElem? (i := 185) rfl)) rfl
theorem zc_316 : Cond.fieldLink "LassoFinder$Truths" 7 "LassoFinder$Truths" "graph" "LLassoFinder$Graph;" ∈ zTB := z_in (zt_2 _ (List.mem_of_getElem? (i := 186) rfl)) rfl
theorem zc_317 : Cond.fieldLink "LassoFinder$Truths" 13 "LassoFinder$Truths" "situation" "LLassoFinder$Situation;" ∈ zTB := z_in (zt_2 _ (List.mem_of_getElem? (i := 187) rfl)) rfl
theorem zc_318 : Cond.fieldLink "LassoFinder$Truths" 17 "LassoFinder$Truths" "formula" "LLassoFinder$Formula;" ∈ zTB := z_in (zt_2 _ (List.mem_of_getElem? (i := 188) rfl)) rfl
theorem zc_319 : Cond.fieldLink "LassoFinder$Truths" 23 "LassoFinder$Truths" "parts" "[I" ∈ zTB := z_in (zt_2 _ (List.mem_of_getElem? (i := 189) rfl)) rfl
theorem zc_320 : Cond.fieldLink "LassoFinder$Truths" 29 "LassoFinder$Truths" "before" "[I" ∈ zTB := z_in (zt_2 _ (List.mem_of_getElem? (i := 190) rfl)) rfl
theorem zc_321 : Cond.fieldLink "LassoFinder$Truths" 32 "LassoFinder$Truths" "settled" "[I" ∈ zTB := z_in (zt_2 _ (List.mem_of_getElem? (i := 192) rfl)) rfl
theorem zc_322 : Cond.fieldLink "LassoFinder$Truths" 35 "LassoFinder$Truths" "satisfied" "[Z" ∈ zTB := z_in (zt_2 _ (List.mem_of_getElem? (i := 194) rfl)) rfl
theorem zc_323 : Cond.methodLink "LassoFinder$LassoSearch" 9 ⟨"java/lang/Object", "<init>", "()V"⟩ ∈ zTB := z_in (zt_5 _ (List.mem_of_getElem? (i := 125) rfl)) rfl
theorem zc_324 : Cond.fieldLink "LassoFinder$LassoSearch" 15 "LassoFinder$LassoSearch" "graph" "LLassoFinder$Graph;" ∈ zTB := z_in (zt_5 _ (List.mem_of_getElem? (i := 126) rfl)) rfl
theorem zc_325 : Cond.fieldLink "LassoFinder$LassoSearch" 19 "LassoFinder$LassoSearch" "truths" "LLassoFinder$Truths;" ∈ zTB := z_in (zt_5 _ (List.mem_of_getElem? (i := 127) rfl)) rfl
theorem zc_326 : Cond.fieldLink "LassoFinder$LassoSearch" 23 "LassoFinder$LassoSearch" "order" "[I" ∈ zTB := z_in (zt_5 _ (List.mem_of_getElem? (i := 128) rfl)) rfl
theorem zc_327 : Cond.fieldLink "LassoFinder$LassoSearch" 27 "LassoFinder$LassoSearch" "low" "[I" ∈ zTB := z_in (zt_5 _ (List.mem_of_getElem? (i := 129) rfl)) rfl
theorem zc_328 : Cond.fieldLink "LassoFinder$LassoSearch" 30 "LassoFinder$LassoSearch" "nextSource" "[I" ∈ zTB := z_in (zt_5 _ (List.mem_of_getElem? (i := 130) rfl)) rfl
theorem zc_329 : Cond.fieldLink "LassoFinder$LassoSearch" 33 "LassoFinder$LassoSearch" "isOpen" "[Z" ∈ zTB := z_in (zt_5 _ (List.mem_of_getElem? (i := 131) rfl)) rfl
theorem zc_330 : Cond.fieldLink "LassoFinder$LassoSearch" 37 "LassoFinder$LassoSearch" "path" "[I" ∈ zTB := z_in (zt_5 _ (List.mem_of_getElem? (i := 132) rfl)) rfl
theorem zc_331 : Cond.fieldLink "LassoFinder$LassoSearch" 40 "LassoFinder$LassoSearch" "opened" "[I" ∈ zTB := z_in (zt_5 _ (List.mem_of_getElem? (i := 133) rfl)) rfl
theorem zc_332 : Cond.fieldLink "LassoFinder$LassoSearch" 43 "LassoFinder$LassoSearch" "distance" "[I" ∈ zTB := z_in (zt_5 _ (List.mem_of_getElem? (i := 137) rfl)) rfl
theorem zc_333 : Cond.fieldLink "LassoFinder$LassoSearch" 46 "LassoFinder$LassoSearch" "queue" "[I" ∈ zTB := z_in (zt_5 _ (List.mem_of_getElem? (i := 138) rfl)) rfl
theorem zc_334 : Cond.fieldLink "LassoFinder$LassoSearch" 49 "LassoFinder$LassoSearch" "stemSteps" "[I" ∈ zTB := z_in (zt_5 _ (List.mem_of_getElem? (i := 140) rfl)) rfl
theorem zc_335 : Cond.fieldLink "LassoFinder$LassoSearch" 52 "LassoFinder$LassoSearch" "cycleSteps" "[I" ∈ zTB := z_in (zt_5 _ (List.mem_of_getElem? (i := 141) rfl)) rfl
theorem zc_336 : Cond.fieldLink "LassoFinder$LassoSearch" 55 "LassoFinder$LassoSearch" "triedSteps" "[I" ∈ zTB := z_in (zt_5 _ (List.mem_of_getElem? (i := 142) rfl)) rfl
theorem zc_337 : Cond.code ⟨"LassoFinder$Tree", "<init>", "()V"⟩ prog_11_method_1_code 1 none ∈ zTB := z_in (zt_1 _ (List.mem_of_getElem? (i := 206) rfl)) rfl
theorem zc_338 : Cond.instanceMethod ⟨"LassoFinder$Tree", "<init>", "()V"⟩ ∈ zTB := z_in (zt_1 _ (List.mem_of_getElem? (i := 205) rfl)) rfl
theorem zc_339 : Cond.code ⟨"LassoFinder$Terms", "<init>", "(LLassoFinder$Text;LLassoFinder$Names;)V"⟩ prog_9_method_1_code 3 none ∈ zTB := z_in (zt_1 _ (List.mem_of_getElem? (i := 163) rfl)) rfl
theorem zc_340 : Cond.instanceMethod ⟨"LassoFinder$Terms", "<init>", "(LLassoFinder$Text;LLassoFinder$Names;)V"⟩ ∈ zTB := z_in (zt_1 _ (List.mem_of_getElem? (i := 162) rfl)) rfl
theorem zf_Tree_init : zFaceI zy_Tree_init prog_11_method_1_code 1 0 := ⟨zc_338, rfl, zm_21, zc_337, by decide +kernel, by decide +kernel, by decide +kernel⟩
theorem zf_Terms_init : zFaceI zy_Terms_init prog_9_method_1_code 3 2 := ⟨zc_340, rfl, zm_17, zc_339, by decide +kernel, by decide +kernel, by decide +kernel⟩
theorem zd_Formula_init_0 : decode prog_2_method_1_code 0 = .ok (.aload_n 0, 1) := by decide +kernel
theorem zd_Formula_init_1 : decode prog_2_method_1_code 1 = .ok (.invokespecial 3, 3) := by decide +kernel
theorem zd_Formula_init_4 : decode prog_2_method_1_code 4 = .ok (.aload_n 0, 1) := by decide +kernel
theorem zd_Formula_init_5 : decode prog_2_method_1_code 5 = .ok (.aload_n 1, 1) := by decide +kernel
theorem zd_Formula_init_6 : decode prog_2_method_1_code 6 = .ok (.putfield 9, 3) := by decide +kernel
theorem zd_Formula_init_9 : decode prog_2_method_1_code 9 = .ok (.aload_n 0, 1) := by decide +kernel
theorem zd_Formula_init_10 : decode prog_2_method_1_code 10 = .ok (.aload_n 3, 1) := by decide +kernel
theorem zd_Formula_init_11 : decode prog_2_method_1_code 11 = .ok (.putfield 15, 3) := by decide +kernel
theorem zd_Formula_init_14 : decode prog_2_method_1_code 14 = .ok (.aload_n 0, 1) := by decide +kernel
theorem zd_Formula_init_15 : decode prog_2_method_1_code 15 = .ok (.new 19, 3) := by decide +kernel
theorem zd_Formula_init_18 : decode prog_2_method_1_code 18 = .ok (.dup, 1) := by decide +kernel
theorem zd_Formula_init_19 : decode prog_2_method_1_code 19 = .ok (.aload_n 1, 1) := by decide +kernel
theorem zd_Formula_init_20 : decode prog_2_method_1_code 20 = .ok (.aload_n 2, 1) := by decide +kernel
theorem zd_Formula_init_21 : decode prog_2_method_1_code 21 = .ok (.invokespecial 21, 3) := by decide +kernel
theorem zd_Formula_init_24 : decode prog_2_method_1_code 24 = .ok (.putfield 24, 3) := by decide +kernel
theorem zd_Formula_init_27 : decode prog_2_method_1_code 27 = .ok (.aload_n 0, 1) := by decide +kernel
theorem zd_Formula_init_28 : decode prog_2_method_1_code 28 = .ok (.sipush 240, 3) := by decide +kernel
theorem zd_Formula_init_31 : decode prog_2_method_1_code 31 = .ok (.newarray .int, 2) := by decide +kernel
theorem zd_Formula_init_33 : decode prog_2_method_1_code 33 = .ok (.putfield 30, 3) := by decide +kernel
theorem zd_Formula_init_36 : decode prog_2_method_1_code 36 = .ok (.aload_n 0, 1) := by decide +kernel
theorem zd_Formula_init_37 : decode prog_2_method_1_code 37 = .ok (.sipush 240, 3) := by decide +kernel
theorem zd_Formula_init_40 : decode prog_2_method_1_code 40 = .ok (.newarray .int, 2) := by decide +kernel
theorem zd_Formula_init_42 : decode prog_2_method_1_code 42 = .ok (.putfield 34, 3) := by decide +kernel
theorem zd_Formula_init_45 : decode prog_2_method_1_code 45 = .ok (.aload_n 0, 1) := by decide +kernel
theorem zd_Formula_init_46 : decode prog_2_method_1_code 46 = .ok (.sipush 240, 3) := by decide +kernel
theorem zd_Formula_init_49 : decode prog_2_method_1_code 49 = .ok (.newarray .int, 2) := by decide +kernel
theorem zd_Formula_init_51 : decode prog_2_method_1_code 51 = .ok (.putfield 37, 3) := by decide +kernel
theorem zd_Formula_init_54 : decode prog_2_method_1_code 54 = .ok (.aload_n 0, 1) := by decide +kernel
theorem zd_Formula_init_55 : decode prog_2_method_1_code 55 = .ok (.iconst 3, 1) := by decide +kernel
theorem zd_Formula_init_56 : decode prog_2_method_1_code 56 = .ok (.newarray .int, 2) := by decide +kernel
theorem zd_Formula_init_58 : decode prog_2_method_1_code 58 = .ok (.putfield 40, 3) := by decide +kernel
theorem zd_Formula_init_61 : decode prog_2_method_1_code 61 = .ok (.return_, 1) := by decide +kernel
theorem zd_Graph_init_0 : decode prog_3_method_1_code 0 = .ok (.aload_n 0, 1) := by decide +kernel
theorem zd_Graph_init_1 : decode prog_3_method_1_code 1 = .ok (.invokespecial 3, 3) := by decide +kernel
theorem zd_Graph_init_4 : decode prog_3_method_1_code 4 = .ok (.aload_n 0, 1) := by decide +kernel
theorem zd_Graph_init_5 : decode prog_3_method_1_code 5 = .ok (.aload_n 1, 1) := by decide +kernel
theorem zd_Graph_init_6 : decode prog_3_method_1_code 6 = .ok (.putfield 9, 3) := by decide +kernel
theorem zd_Graph_init_9 : decode prog_3_method_1_code 9 = .ok (.aload_n 0, 1) := by decide +kernel
theorem zd_Graph_init_10 : decode prog_3_method_1_code 10 = .ok (.bipush 96, 2) := by decide +kernel
theorem zd_Graph_init_12 : decode prog_3_method_1_code 12 = .ok (.newarray .long, 2) := by decide +kernel
theorem zd_Graph_init_14 : decode prog_3_method_1_code 14 = .ok (.putfield 15, 3) := by decide +kernel
theorem zd_Graph_init_17 : decode prog_3_method_1_code 17 = .ok (.aload_n 0, 1) := by decide +kernel
theorem zd_Graph_init_18 : decode prog_3_method_1_code 18 = .ok (.bipush 97, 2) := by decide +kernel
theorem zd_Graph_init_20 : decode prog_3_method_1_code 20 = .ok (.newarray .int, 2) := by decide +kernel
theorem zd_Graph_init_22 : decode prog_3_method_1_code 22 = .ok (.putfield 19, 3) := by decide +kernel
theorem zd_Graph_init_25 : decode prog_3_method_1_code 25 = .ok (.aload_n 0, 1) := by decide +kernel
theorem zd_Graph_init_26 : decode prog_3_method_1_code 26 = .ok (.sipush 400, 3) := by decide +kernel
theorem zd_Graph_init_29 : decode prog_3_method_1_code 29 = .ok (.newarray .int, 2) := by decide +kernel
theorem zd_Graph_init_31 : decode prog_3_method_1_code 31 = .ok (.putfield 23, 3) := by decide +kernel
theorem zd_Graph_init_34 : decode prog_3_method_1_code 34 = .ok (.aload_n 0, 1) := by decide +kernel
theorem zd_Graph_init_35 : decode prog_3_method_1_code 35 = .ok (.sipush 400, 3) := by decide +kernel
theorem zd_Graph_init_38 : decode prog_3_method_1_code 38 = .ok (.newarray .int, 2) := by decide +kernel
theorem zd_Graph_init_40 : decode prog_3_method_1_code 40 = .ok (.putfield 26, 3) := by decide +kernel
theorem zd_Graph_init_43 : decode prog_3_method_1_code 43 = .ok (.aload_n 0, 1) := by decide +kernel
theorem zd_Graph_init_44 : decode prog_3_method_1_code 44 = .ok (.sipush 400, 3) := by decide +kernel
theorem zd_Graph_init_47 : decode prog_3_method_1_code 47 = .ok (.newarray .int, 2) := by decide +kernel
theorem zd_Graph_init_49 : decode prog_3_method_1_code 49 = .ok (.putfield 29, 3) := by decide +kernel
theorem zd_Graph_init_52 : decode prog_3_method_1_code 52 = .ok (.aload_n 0, 1) := by decide +kernel
theorem zd_Graph_init_53 : decode prog_3_method_1_code 53 = .ok (.sipush 400, 3) := by decide +kernel
theorem zd_Graph_init_56 : decode prog_3_method_1_code 56 = .ok (.newarray .int, 2) := by decide +kernel
theorem zd_Graph_init_58 : decode prog_3_method_1_code 58 = .ok (.putfield 32, 3) := by decide +kernel
theorem zd_Graph_init_61 : decode prog_3_method_1_code 61 = .ok (.aload_n 0, 1) := by decide +kernel
theorem zd_Graph_init_62 : decode prog_3_method_1_code 62 = .ok (.bipush 97, 2) := by decide +kernel
theorem zd_Graph_init_64 : decode prog_3_method_1_code 64 = .ok (.newarray .int, 2) := by decide +kernel
theorem zd_Graph_init_66 : decode prog_3_method_1_code 66 = .ok (.putfield 35, 3) := by decide +kernel
theorem zd_Graph_init_69 : decode prog_3_method_1_code 69 = .ok (.aload_n 0, 1) := by decide +kernel
theorem zd_Graph_init_70 : decode prog_3_method_1_code 70 = .ok (.sipush 400, 3) := by decide +kernel
theorem zd_Graph_init_73 : decode prog_3_method_1_code 73 = .ok (.newarray .int, 2) := by decide +kernel
theorem zd_Graph_init_75 : decode prog_3_method_1_code 75 = .ok (.putfield 38, 3) := by decide +kernel
theorem zd_Graph_init_78 : decode prog_3_method_1_code 78 = .ok (.return_, 1) := by decide +kernel
theorem zd_LassoSearch_init_0 : decode prog_4_method_1_code 0 = .ok (.aload_n 0, 1) := by decide +kernel
theorem zd_LassoSearch_init_1 : decode prog_4_method_1_code 1 = .ok (.invokespecial 9, 3) := by decide +kernel
theorem zd_LassoSearch_init_4 : decode prog_4_method_1_code 4 = .ok (.aload_n 0, 1) := by decide +kernel
theorem zd_LassoSearch_init_5 : decode prog_4_method_1_code 5 = .ok (.aload_n 1, 1) := by decide +kernel
theorem zd_LassoSearch_init_6 : decode prog_4_method_1_code 6 = .ok (.putfield 15, 3) := by decide +kernel
theorem zd_LassoSearch_init_9 : decode prog_4_method_1_code 9 = .ok (.aload_n 0, 1) := by decide +kernel
theorem zd_LassoSearch_init_10 : decode prog_4_method_1_code 10 = .ok (.aload_n 2, 1) := by decide +kernel
theorem zd_LassoSearch_init_11 : decode prog_4_method_1_code 11 = .ok (.putfield 19, 3) := by decide +kernel
theorem zd_LassoSearch_init_14 : decode prog_4_method_1_code 14 = .ok (.aload_n 0, 1) := by decide +kernel
theorem zd_LassoSearch_init_15 : decode prog_4_method_1_code 15 = .ok (.sipush 768, 3) := by decide +kernel
theorem zd_LassoSearch_init_18 : decode prog_4_method_1_code 18 = .ok (.newarray .int, 2) := by decide +kernel
theorem zd_LassoSearch_init_20 : decode prog_4_method_1_code 20 = .ok (.putfield 23, 3) := by decide +kernel
theorem zd_LassoSearch_init_23 : decode prog_4_method_1_code 23 = .ok (.aload_n 0, 1) := by decide +kernel
theorem zd_LassoSearch_init_24 : decode prog_4_method_1_code 24 = .ok (.sipush 768, 3) := by decide +kernel
theorem zd_LassoSearch_init_27 : decode prog_4_method_1_code 27 = .ok (.newarray .int, 2) := by decide +kernel
theorem zd_LassoSearch_init_29 : decode prog_4_method_1_code 29 = .ok (.putfield 27, 3) := by decide +kernel
theorem zd_LassoSearch_init_32 : decode prog_4_method_1_code 32 = .ok (.aload_n 0, 1) := by decide +kernel
theorem zd_LassoSearch_init_33 : decode prog_4_method_1_code 33 = .ok (.sipush 768, 3) := by decide +kernel
theorem zd_LassoSearch_init_36 : decode prog_4_method_1_code 36 = .ok (.newarray .int, 2) := by decide +kernel
theorem zd_LassoSearch_init_38 : decode prog_4_method_1_code 38 = .ok (.putfield 30, 3) := by decide +kernel
theorem zd_LassoSearch_init_41 : decode prog_4_method_1_code 41 = .ok (.aload_n 0, 1) := by decide +kernel
theorem zd_LassoSearch_init_42 : decode prog_4_method_1_code 42 = .ok (.sipush 768, 3) := by decide +kernel
theorem zd_LassoSearch_init_45 : decode prog_4_method_1_code 45 = .ok (.newarray .boolean, 2) := by decide +kernel
theorem zd_LassoSearch_init_47 : decode prog_4_method_1_code 47 = .ok (.putfield 33, 3) := by decide +kernel
theorem zd_LassoSearch_init_50 : decode prog_4_method_1_code 50 = .ok (.aload_n 0, 1) := by decide +kernel
theorem zd_LassoSearch_init_51 : decode prog_4_method_1_code 51 = .ok (.sipush 768, 3) := by decide +kernel
theorem zd_LassoSearch_init_54 : decode prog_4_method_1_code 54 = .ok (.newarray .int, 2) := by decide +kernel
theorem zd_LassoSearch_init_56 : decode prog_4_method_1_code 56 = .ok (.putfield 37, 3) := by decide +kernel
theorem zd_LassoSearch_init_59 : decode prog_4_method_1_code 59 = .ok (.aload_n 0, 1) := by decide +kernel
theorem zd_LassoSearch_init_60 : decode prog_4_method_1_code 60 = .ok (.sipush 768, 3) := by decide +kernel
theorem zd_LassoSearch_init_63 : decode prog_4_method_1_code 63 = .ok (.newarray .int, 2) := by decide +kernel
theorem zd_LassoSearch_init_65 : decode prog_4_method_1_code 65 = .ok (.putfield 40, 3) := by decide +kernel
theorem zd_LassoSearch_init_68 : decode prog_4_method_1_code 68 = .ok (.aload_n 0, 1) := by decide +kernel
theorem zd_LassoSearch_init_69 : decode prog_4_method_1_code 69 = .ok (.sipush 6144, 3) := by decide +kernel
theorem zd_LassoSearch_init_72 : decode prog_4_method_1_code 72 = .ok (.newarray .int, 2) := by decide +kernel
theorem zd_LassoSearch_init_74 : decode prog_4_method_1_code 74 = .ok (.putfield 43, 3) := by decide +kernel
theorem zd_LassoSearch_init_77 : decode prog_4_method_1_code 77 = .ok (.aload_n 0, 1) := by decide +kernel
theorem zd_LassoSearch_init_78 : decode prog_4_method_1_code 78 = .ok (.sipush 6144, 3) := by decide +kernel
theorem zd_LassoSearch_init_81 : decode prog_4_method_1_code 81 = .ok (.newarray .int, 2) := by decide +kernel
theorem zd_LassoSearch_init_83 : decode prog_4_method_1_code 83 = .ok (.putfield 46, 3) := by decide +kernel
theorem zd_LassoSearch_init_86 : decode prog_4_method_1_code 86 = .ok (.aload_n 0, 1) := by decide +kernel
theorem zd_LassoSearch_init_87 : decode prog_4_method_1_code 87 = .ok (.sipush 768, 3) := by decide +kernel
theorem zd_LassoSearch_init_90 : decode prog_4_method_1_code 90 = .ok (.newarray .int, 2) := by decide +kernel
theorem zd_LassoSearch_init_92 : decode prog_4_method_1_code 92 = .ok (.putfield 49, 3) := by decide +kernel
theorem zd_LassoSearch_init_95 : decode prog_4_method_1_code 95 = .ok (.aload_n 0, 1) := by decide +kernel
theorem zd_LassoSearch_init_96 : decode prog_4_method_1_code 96 = .ok (.sipush 3072, 3) := by decide +kernel
theorem zd_LassoSearch_init_99 : decode prog_4_method_1_code 99 = .ok (.newarray .int, 2) := by decide +kernel
theorem zd_LassoSearch_init_101 : decode prog_4_method_1_code 101 = .ok (.putfield 52, 3) := by decide +kernel
theorem zd_LassoSearch_init_104 : decode prog_4_method_1_code 104 = .ok (.aload_n 0, 1) := by decide +kernel
theorem zd_LassoSearch_init_105 : decode prog_4_method_1_code 105 = .ok (.sipush 3072, 3) := by decide +kernel
theorem zd_LassoSearch_init_108 : decode prog_4_method_1_code 108 = .ok (.newarray .int, 2) := by decide +kernel
theorem zd_LassoSearch_init_110 : decode prog_4_method_1_code 110 = .ok (.putfield 55, 3) := by decide +kernel
theorem zd_LassoSearch_init_113 : decode prog_4_method_1_code 113 = .ok (.return_, 1) := by decide +kernel
theorem zd_ModelReader_init_0 : decode prog_5_method_1_code 0 = .ok (.aload_n 0, 1) := by decide +kernel
theorem zd_ModelReader_init_1 : decode prog_5_method_1_code 1 = .ok (.invokespecial 3, 3) := by decide +kernel
theorem zd_ModelReader_init_4 : decode prog_5_method_1_code 4 = .ok (.aload_n 0, 1) := by decide +kernel
theorem zd_ModelReader_init_5 : decode prog_5_method_1_code 5 = .ok (.aload_n 1, 1) := by decide +kernel
theorem zd_ModelReader_init_6 : decode prog_5_method_1_code 6 = .ok (.putfield 9, 3) := by decide +kernel
theorem zd_ModelReader_init_9 : decode prog_5_method_1_code 9 = .ok (.aload_n 0, 1) := by decide +kernel
theorem zd_ModelReader_init_10 : decode prog_5_method_1_code 10 = .ok (.aload_n 2, 1) := by decide +kernel
theorem zd_ModelReader_init_11 : decode prog_5_method_1_code 11 = .ok (.putfield 15, 3) := by decide +kernel
theorem zd_ModelReader_init_14 : decode prog_5_method_1_code 14 = .ok (.aload_n 0, 1) := by decide +kernel
theorem zd_ModelReader_init_15 : decode prog_5_method_1_code 15 = .ok (.aload_n 3, 1) := by decide +kernel
theorem zd_ModelReader_init_16 : decode prog_5_method_1_code 16 = .ok (.putfield 19, 3) := by decide +kernel
theorem zd_ModelReader_init_19 : decode prog_5_method_1_code 19 = .ok (.aload_n 0, 1) := by decide +kernel
theorem zd_ModelReader_init_20 : decode prog_5_method_1_code 20 = .ok (.aload 4, 2) := by decide +kernel
theorem zd_ModelReader_init_22 : decode prog_5_method_1_code 22 = .ok (.putfield 23, 3) := by decide +kernel
theorem zd_ModelReader_init_25 : decode prog_5_method_1_code 25 = .ok (.aload_n 0, 1) := by decide +kernel
theorem zd_ModelReader_init_26 : decode prog_5_method_1_code 26 = .ok (.new 27, 3) := by decide +kernel
theorem zd_ModelReader_init_29 : decode prog_5_method_1_code 29 = .ok (.dup, 1) := by decide +kernel
theorem zd_ModelReader_init_30 : decode prog_5_method_1_code 30 = .ok (.invokespecial 29, 3) := by decide +kernel
theorem zd_ModelReader_init_33 : decode prog_5_method_1_code 33 = .ok (.putfield 30, 3) := by decide +kernel
theorem zd_ModelReader_init_36 : decode prog_5_method_1_code 36 = .ok (.return_, 1) := by decide +kernel
theorem zd_Names_init_0 : decode prog_6_method_1_code 0 = .ok (.aload_n 0, 1) := by decide +kernel
theorem zd_Names_init_1 : decode prog_6_method_1_code 1 = .ok (.invokespecial 1, 3) := by decide +kernel
theorem zd_Names_init_4 : decode prog_6_method_1_code 4 = .ok (.aload_n 0, 1) := by decide +kernel
theorem zd_Names_init_5 : decode prog_6_method_1_code 5 = .ok (.bipush 8, 2) := by decide +kernel
theorem zd_Names_init_7 : decode prog_6_method_1_code 7 = .ok (.newarray .int, 2) := by decide +kernel
theorem zd_Names_init_9 : decode prog_6_method_1_code 9 = .ok (.putfield 9, 3) := by decide +kernel
theorem zd_Names_init_12 : decode prog_6_method_1_code 12 = .ok (.aload_n 0, 1) := by decide +kernel
theorem zd_Names_init_13 : decode prog_6_method_1_code 13 = .ok (.bipush 8, 2) := by decide +kernel
theorem zd_Names_init_15 : decode prog_6_method_1_code 15 = .ok (.newarray .int, 2) := by decide +kernel
theorem zd_Names_init_17 : decode prog_6_method_1_code 17 = .ok (.putfield 13, 3) := by decide +kernel
theorem zd_Names_init_20 : decode prog_6_method_1_code 20 = .ok (.aload_n 0, 1) := by decide +kernel
theorem zd_Names_init_21 : decode prog_6_method_1_code 21 = .ok (.bipush 6, 2) := by decide +kernel
theorem zd_Names_init_23 : decode prog_6_method_1_code 23 = .ok (.newarray .int, 2) := by decide +kernel
theorem zd_Names_init_25 : decode prog_6_method_1_code 25 = .ok (.putfield 16, 3) := by decide +kernel
theorem zd_Names_init_28 : decode prog_6_method_1_code 28 = .ok (.aload_n 0, 1) := by decide +kernel
theorem zd_Names_init_29 : decode prog_6_method_1_code 29 = .ok (.iconst 2, 1) := by decide +kernel
theorem zd_Names_init_30 : decode prog_6_method_1_code 30 = .ok (.newarray .int, 2) := by decide +kernel
theorem zd_Names_init_32 : decode prog_6_method_1_code 32 = .ok (.putfield 19, 3) := by decide +kernel
theorem zd_Names_init_35 : decode prog_6_method_1_code 35 = .ok (.return_, 1) := by decide +kernel
theorem zd_Program_init_0 : decode prog_7_method_1_code 0 = .ok (.aload_n 0, 1) := by decide +kernel
theorem zd_Program_init_1 : decode prog_7_method_1_code 1 = .ok (.invokespecial 5, 3) := by decide +kernel
theorem zd_Program_init_4 : decode prog_7_method_1_code 4 = .ok (.aload_n 0, 1) := by decide +kernel
theorem zd_Program_init_5 : decode prog_7_method_1_code 5 = .ok (.bipush 48, 2) := by decide +kernel
theorem zd_Program_init_7 : decode prog_7_method_1_code 7 = .ok (.newarray .int, 2) := by decide +kernel
theorem zd_Program_init_9 : decode prog_7_method_1_code 9 = .ok (.putfield 11, 3) := by decide +kernel
theorem zd_Program_init_12 : decode prog_7_method_1_code 12 = .ok (.aload_n 0, 1) := by decide +kernel
theorem zd_Program_init_13 : decode prog_7_method_1_code 13 = .ok (.bipush 48, 2) := by decide +kernel
theorem zd_Program_init_15 : decode prog_7_method_1_code 15 = .ok (.newarray .int, 2) := by decide +kernel
theorem zd_Program_init_17 : decode prog_7_method_1_code 17 = .ok (.putfield 15, 3) := by decide +kernel
theorem zd_Program_init_20 : decode prog_7_method_1_code 20 = .ok (.aload_n 0, 1) := by decide +kernel
theorem zd_Program_init_21 : decode prog_7_method_1_code 21 = .ok (.bipush 48, 2) := by decide +kernel
theorem zd_Program_init_23 : decode prog_7_method_1_code 23 = .ok (.newarray .int, 2) := by decide +kernel
theorem zd_Program_init_25 : decode prog_7_method_1_code 25 = .ok (.putfield 18, 3) := by decide +kernel
theorem zd_Program_init_28 : decode prog_7_method_1_code 28 = .ok (.aload_n 0, 1) := by decide +kernel
theorem zd_Program_init_29 : decode prog_7_method_1_code 29 = .ok (.bipush 48, 2) := by decide +kernel
theorem zd_Program_init_31 : decode prog_7_method_1_code 31 = .ok (.newarray .int, 2) := by decide +kernel
theorem zd_Program_init_33 : decode prog_7_method_1_code 33 = .ok (.putfield 21, 3) := by decide +kernel
theorem zd_Program_init_36 : decode prog_7_method_1_code 36 = .ok (.aload_n 0, 1) := by decide +kernel
theorem zd_Program_init_37 : decode prog_7_method_1_code 37 = .ok (.bipush 48, 2) := by decide +kernel
theorem zd_Program_init_39 : decode prog_7_method_1_code 39 = .ok (.newarray .int, 2) := by decide +kernel
theorem zd_Program_init_41 : decode prog_7_method_1_code 41 = .ok (.putfield 24, 3) := by decide +kernel
theorem zd_Program_init_44 : decode prog_7_method_1_code 44 = .ok (.aload_n 0, 1) := by decide +kernel
theorem zd_Program_init_45 : decode prog_7_method_1_code 45 = .ok (.bipush 48, 2) := by decide +kernel
theorem zd_Program_init_47 : decode prog_7_method_1_code 47 = .ok (.newarray .int, 2) := by decide +kernel
theorem zd_Program_init_49 : decode prog_7_method_1_code 49 = .ok (.putfield 27, 3) := by decide +kernel
theorem zd_Program_init_52 : decode prog_7_method_1_code 52 = .ok (.aload_n 0, 1) := by decide +kernel
theorem zd_Program_init_53 : decode prog_7_method_1_code 53 = .ok (.bipush 48, 2) := by decide +kernel
theorem zd_Program_init_55 : decode prog_7_method_1_code 55 = .ok (.newarray .boolean, 2) := by decide +kernel
theorem zd_Program_init_57 : decode prog_7_method_1_code 57 = .ok (.putfield 30, 3) := by decide +kernel
theorem zd_Program_init_60 : decode prog_7_method_1_code 60 = .ok (.aload_n 0, 1) := by decide +kernel
theorem zd_Program_init_61 : decode prog_7_method_1_code 61 = .ok (.bipush 8, 2) := by decide +kernel
theorem zd_Program_init_63 : decode prog_7_method_1_code 63 = .ok (.newarray .long, 2) := by decide +kernel
theorem zd_Program_init_65 : decode prog_7_method_1_code 65 = .ok (.putfield 36, 3) := by decide +kernel
theorem zd_Program_init_68 : decode prog_7_method_1_code 68 = .ok (.aload_n 0, 1) := by decide +kernel
theorem zd_Program_init_69 : decode prog_7_method_1_code 69 = .ok (.iconst 4, 1) := by decide +kernel
theorem zd_Program_init_70 : decode prog_7_method_1_code 70 = .ok (.newarray .int, 2) := by decide +kernel
theorem zd_Program_init_72 : decode prog_7_method_1_code 72 = .ok (.putfield 40, 3) := by decide +kernel
theorem zd_Program_init_75 : decode prog_7_method_1_code 75 = .ok (.aload_n 0, 1) := by decide +kernel
theorem zd_Program_init_76 : decode prog_7_method_1_code 76 = .ok (.bipush 32, 2) := by decide +kernel
theorem zd_Program_init_78 : decode prog_7_method_1_code 78 = .ok (.newarray .int, 2) := by decide +kernel
theorem zd_Program_init_80 : decode prog_7_method_1_code 80 = .ok (.putfield 43, 3) := by decide +kernel
theorem zd_Program_init_83 : decode prog_7_method_1_code 83 = .ok (.aload_n 0, 1) := by decide +kernel
theorem zd_Program_init_84 : decode prog_7_method_1_code 84 = .ok (.bipush 124, 2) := by decide +kernel
theorem zd_Program_init_86 : decode prog_7_method_1_code 86 = .ok (.newarray .long, 2) := by decide +kernel
theorem zd_Program_init_88 : decode prog_7_method_1_code 88 = .ok (.putfield 46, 3) := by decide +kernel
theorem zd_Program_init_91 : decode prog_7_method_1_code 91 = .ok (.return_, 1) := by decide +kernel
theorem zd_Situation_init_0 : decode prog_8_method_1_code 0 = .ok (.aload_n 0, 1) := by decide +kernel
theorem zd_Situation_init_1 : decode prog_8_method_1_code 1 = .ok (.invokespecial 3, 3) := by decide +kernel
theorem zd_Situation_init_4 : decode prog_8_method_1_code 4 = .ok (.aload_n 0, 1) := by decide +kernel
theorem zd_Situation_init_5 : decode prog_8_method_1_code 5 = .ok (.aload_n 1, 1) := by decide +kernel
theorem zd_Situation_init_6 : decode prog_8_method_1_code 6 = .ok (.putfield 9, 3) := by decide +kernel
theorem zd_Situation_init_9 : decode prog_8_method_1_code 9 = .ok (.aload_n 0, 1) := by decide +kernel
theorem zd_Situation_init_10 : decode prog_8_method_1_code 10 = .ok (.aload_n 2, 1) := by decide +kernel
theorem zd_Situation_init_11 : decode prog_8_method_1_code 11 = .ok (.putfield 15, 3) := by decide +kernel
theorem zd_Situation_init_14 : decode prog_8_method_1_code 14 = .ok (.aload_n 0, 1) := by decide +kernel
theorem zd_Situation_init_15 : decode prog_8_method_1_code 15 = .ok (.aload_n 3, 1) := by decide +kernel
theorem zd_Situation_init_16 : decode prog_8_method_1_code 16 = .ok (.putfield 19, 3) := by decide +kernel
theorem zd_Situation_init_19 : decode prog_8_method_1_code 19 = .ok (.aload_n 0, 1) := by decide +kernel
theorem zd_Situation_init_20 : decode prog_8_method_1_code 20 = .ok (.bipush 8, 2) := by decide +kernel
theorem zd_Situation_init_22 : decode prog_8_method_1_code 22 = .ok (.newarray .int, 2) := by decide +kernel
theorem zd_Situation_init_24 : decode prog_8_method_1_code 24 = .ok (.putfield 25, 3) := by decide +kernel
theorem zd_Situation_init_27 : decode prog_8_method_1_code 27 = .ok (.aload_n 0, 1) := by decide +kernel
theorem zd_Situation_init_28 : decode prog_8_method_1_code 28 = .ok (.bipush 24, 2) := by decide +kernel
theorem zd_Situation_init_30 : decode prog_8_method_1_code 30 = .ok (.newarray .int, 2) := by decide +kernel
theorem zd_Situation_init_32 : decode prog_8_method_1_code 32 = .ok (.putfield 29, 3) := by decide +kernel
theorem zd_Situation_init_35 : decode prog_8_method_1_code 35 = .ok (.aload_n 0, 1) := by decide +kernel
theorem zd_Situation_init_36 : decode prog_8_method_1_code 36 = .ok (.iconst 4, 1) := by decide +kernel
theorem zd_Situation_init_37 : decode prog_8_method_1_code 37 = .ok (.newarray .int, 2) := by decide +kernel
theorem zd_Situation_init_39 : decode prog_8_method_1_code 39 = .ok (.putfield 34, 3) := by decide +kernel
theorem zd_Situation_init_42 : decode prog_8_method_1_code 42 = .ok (.aload_n 0, 1) := by decide +kernel
theorem zd_Situation_init_43 : decode prog_8_method_1_code 43 = .ok (.iconst (-1), 1) := by decide +kernel
theorem zd_Situation_init_44 : decode prog_8_method_1_code 44 = .ok (.putfield 37, 3) := by decide +kernel
theorem zd_Situation_init_47 : decode prog_8_method_1_code 47 = .ok (.return_, 1) := by decide +kernel
theorem zd_Terms_init_0 : decode prog_9_method_1_code 0 = .ok (.aload_n 0, 1) := by decide +kernel
theorem zd_Terms_init_1 : decode prog_9_method_1_code 1 = .ok (.invokespecial 7, 3) := by decide +kernel
theorem zd_Terms_init_4 : decode prog_9_method_1_code 4 = .ok (.aload_n 0, 1) := by decide +kernel
theorem zd_Terms_init_5 : decode prog_9_method_1_code 5 = .ok (.aload_n 1, 1) := by decide +kernel
theorem zd_Terms_init_6 : decode prog_9_method_1_code 6 = .ok (.putfield 13, 3) := by decide +kernel
theorem zd_Terms_init_9 : decode prog_9_method_1_code 9 = .ok (.aload_n 0, 1) := by decide +kernel
theorem zd_Terms_init_10 : decode prog_9_method_1_code 10 = .ok (.aload_n 2, 1) := by decide +kernel
theorem zd_Terms_init_11 : decode prog_9_method_1_code 11 = .ok (.putfield 17, 3) := by decide +kernel
theorem zd_Terms_init_14 : decode prog_9_method_1_code 14 = .ok (.aload_n 0, 1) := by decide +kernel
theorem zd_Terms_init_15 : decode prog_9_method_1_code 15 = .ok (.sipush 480, 3) := by decide +kernel
theorem zd_Terms_init_18 : decode prog_9_method_1_code 18 = .ok (.newarray .int, 2) := by decide +kernel
theorem zd_Terms_init_20 : decode prog_9_method_1_code 20 = .ok (.putfield 21, 3) := by decide +kernel
theorem zd_Terms_init_23 : decode prog_9_method_1_code 23 = .ok (.aload_n 0, 1) := by decide +kernel
theorem zd_Terms_init_24 : decode prog_9_method_1_code 24 = .ok (.bipush 20, 2) := by decide +kernel
theorem zd_Terms_init_26 : decode prog_9_method_1_code 26 = .ok (.newarray .int, 2) := by decide +kernel
theorem zd_Terms_init_28 : decode prog_9_method_1_code 28 = .ok (.putfield 25, 3) := by decide +kernel
theorem zd_Terms_init_31 : decode prog_9_method_1_code 31 = .ok (.aload_n 0, 1) := by decide +kernel
theorem zd_Terms_init_32 : decode prog_9_method_1_code 32 = .ok (.bipush 13, 2) := by decide +kernel
theorem zd_Terms_init_34 : decode prog_9_method_1_code 34 = .ok (.newarray .int, 2) := by decide +kernel
theorem zd_Terms_init_36 : decode prog_9_method_1_code 36 = .ok (.putfield 28, 3) := by decide +kernel
theorem zd_Terms_init_39 : decode prog_9_method_1_code 39 = .ok (.return_, 1) := by decide +kernel
theorem zd_Text_init_0 : decode prog_10_method_1_code 0 = .ok (.aload_n 0, 1) := by decide +kernel
theorem zd_Text_init_1 : decode prog_10_method_1_code 1 = .ok (.invokespecial 3, 3) := by decide +kernel
theorem zd_Text_init_4 : decode prog_10_method_1_code 4 = .ok (.aload_n 0, 1) := by decide +kernel
theorem zd_Text_init_5 : decode prog_10_method_1_code 5 = .ok (.sipush 240, 3) := by decide +kernel
theorem zd_Text_init_8 : decode prog_10_method_1_code 8 = .ok (.newarray .char, 2) := by decide +kernel
theorem zd_Text_init_10 : decode prog_10_method_1_code 10 = .ok (.putfield 11, 3) := by decide +kernel
theorem zd_Text_init_13 : decode prog_10_method_1_code 13 = .ok (.aload_n 0, 1) := by decide +kernel
theorem zd_Text_init_14 : decode prog_10_method_1_code 14 = .ok (.iconst (-1), 1) := by decide +kernel
theorem zd_Text_init_15 : decode prog_10_method_1_code 15 = .ok (.putfield 15, 3) := by decide +kernel
theorem zd_Text_init_18 : decode prog_10_method_1_code 18 = .ok (.return_, 1) := by decide +kernel
theorem zd_Tree_init_0 : decode prog_11_method_1_code 0 = .ok (.aload_n 0, 1) := by decide +kernel
theorem zd_Tree_init_1 : decode prog_11_method_1_code 1 = .ok (.invokespecial 3, 3) := by decide +kernel
theorem zd_Tree_init_4 : decode prog_11_method_1_code 4 = .ok (.aload_n 0, 1) := by decide +kernel
theorem zd_Tree_init_5 : decode prog_11_method_1_code 5 = .ok (.sipush 240, 3) := by decide +kernel
theorem zd_Tree_init_8 : decode prog_11_method_1_code 8 = .ok (.newarray .int, 2) := by decide +kernel
theorem zd_Tree_init_10 : decode prog_11_method_1_code 10 = .ok (.putfield 11, 3) := by decide +kernel
theorem zd_Tree_init_13 : decode prog_11_method_1_code 13 = .ok (.aload_n 0, 1) := by decide +kernel
theorem zd_Tree_init_14 : decode prog_11_method_1_code 14 = .ok (.sipush 240, 3) := by decide +kernel
theorem zd_Tree_init_17 : decode prog_11_method_1_code 17 = .ok (.newarray .int, 2) := by decide +kernel
theorem zd_Tree_init_19 : decode prog_11_method_1_code 19 = .ok (.putfield 17, 3) := by decide +kernel
theorem zd_Tree_init_22 : decode prog_11_method_1_code 22 = .ok (.aload_n 0, 1) := by decide +kernel
theorem zd_Tree_init_23 : decode prog_11_method_1_code 23 = .ok (.sipush 240, 3) := by decide +kernel
theorem zd_Tree_init_26 : decode prog_11_method_1_code 26 = .ok (.newarray .int, 2) := by decide +kernel
theorem zd_Tree_init_28 : decode prog_11_method_1_code 28 = .ok (.putfield 20, 3) := by decide +kernel
theorem zd_Tree_init_31 : decode prog_11_method_1_code 31 = .ok (.aload_n 0, 1) := by decide +kernel
theorem zd_Tree_init_32 : decode prog_11_method_1_code 32 = .ok (.sipush 240, 3) := by decide +kernel
theorem zd_Tree_init_35 : decode prog_11_method_1_code 35 = .ok (.newarray .int, 2) := by decide +kernel
theorem zd_Tree_init_37 : decode prog_11_method_1_code 37 = .ok (.putfield 23, 3) := by decide +kernel
theorem zd_Tree_init_40 : decode prog_11_method_1_code 40 = .ok (.aload_n 0, 1) := by decide +kernel
theorem zd_Tree_init_41 : decode prog_11_method_1_code 41 = .ok (.sipush 240, 3) := by decide +kernel
theorem zd_Tree_init_44 : decode prog_11_method_1_code 44 = .ok (.newarray .boolean, 2) := by decide +kernel
theorem zd_Tree_init_46 : decode prog_11_method_1_code 46 = .ok (.putfield 26, 3) := by decide +kernel
theorem zd_Tree_init_49 : decode prog_11_method_1_code 49 = .ok (.aload_n 0, 1) := by decide +kernel
theorem zd_Tree_init_50 : decode prog_11_method_1_code 50 = .ok (.sipush 240, 3) := by decide +kernel
theorem zd_Tree_init_53 : decode prog_11_method_1_code 53 = .ok (.newarray .int, 2) := by decide +kernel
theorem zd_Tree_init_55 : decode prog_11_method_1_code 55 = .ok (.putfield 30, 3) := by decide +kernel
theorem zd_Tree_init_58 : decode prog_11_method_1_code 58 = .ok (.aload_n 0, 1) := by decide +kernel
theorem zd_Tree_init_59 : decode prog_11_method_1_code 59 = .ok (.sipush 240, 3) := by decide +kernel
theorem zd_Tree_init_62 : decode prog_11_method_1_code 62 = .ok (.newarray .int, 2) := by decide +kernel
theorem zd_Tree_init_64 : decode prog_11_method_1_code 64 = .ok (.putfield 33, 3) := by decide +kernel
theorem zd_Tree_init_67 : decode prog_11_method_1_code 67 = .ok (.aload_n 0, 1) := by decide +kernel
theorem zd_Tree_init_68 : decode prog_11_method_1_code 68 = .ok (.sipush 240, 3) := by decide +kernel
theorem zd_Tree_init_71 : decode prog_11_method_1_code 71 = .ok (.newarray .int, 2) := by decide +kernel
theorem zd_Tree_init_73 : decode prog_11_method_1_code 73 = .ok (.putfield 36, 3) := by decide +kernel
theorem zd_Tree_init_76 : decode prog_11_method_1_code 76 = .ok (.aload_n 0, 1) := by decide +kernel
theorem zd_Tree_init_77 : decode prog_11_method_1_code 77 = .ok (.sipush 240, 3) := by decide +kernel
theorem zd_Tree_init_80 : decode prog_11_method_1_code 80 = .ok (.newarray .int, 2) := by decide +kernel
theorem zd_Tree_init_82 : decode prog_11_method_1_code 82 = .ok (.putfield 39, 3) := by decide +kernel
theorem zd_Tree_init_85 : decode prog_11_method_1_code 85 = .ok (.aload_n 0, 1) := by decide +kernel
theorem zd_Tree_init_86 : decode prog_11_method_1_code 86 = .ok (.sipush 240, 3) := by decide +kernel
theorem zd_Tree_init_89 : decode prog_11_method_1_code 89 = .ok (.newarray .int, 2) := by decide +kernel
theorem zd_Tree_init_91 : decode prog_11_method_1_code 91 = .ok (.putfield 42, 3) := by decide +kernel
theorem zd_Tree_init_94 : decode prog_11_method_1_code 94 = .ok (.aload_n 0, 1) := by decide +kernel
theorem zd_Tree_init_95 : decode prog_11_method_1_code 95 = .ok (.bipush 8, 2) := by decide +kernel
theorem zd_Tree_init_97 : decode prog_11_method_1_code 97 = .ok (.newarray .int, 2) := by decide +kernel
theorem zd_Tree_init_99 : decode prog_11_method_1_code 99 = .ok (.putfield 47, 3) := by decide +kernel
theorem zd_Tree_init_102 : decode prog_11_method_1_code 102 = .ok (.return_, 1) := by decide +kernel
theorem zd_Truths_init_0 : decode prog_12_method_1_code 0 = .ok (.aload_n 0, 1) := by decide +kernel
theorem zd_Truths_init_1 : decode prog_12_method_1_code 1 = .ok (.invokespecial 1, 3) := by decide +kernel
theorem zd_Truths_init_4 : decode prog_12_method_1_code 4 = .ok (.aload_n 0, 1) := by decide +kernel
theorem zd_Truths_init_5 : decode prog_12_method_1_code 5 = .ok (.aload_n 1, 1) := by decide +kernel
theorem zd_Truths_init_6 : decode prog_12_method_1_code 6 = .ok (.putfield 7, 3) := by decide +kernel
theorem zd_Truths_init_9 : decode prog_12_method_1_code 9 = .ok (.aload_n 0, 1) := by decide +kernel
theorem zd_Truths_init_10 : decode prog_12_method_1_code 10 = .ok (.aload_n 2, 1) := by decide +kernel
theorem zd_Truths_init_11 : decode prog_12_method_1_code 11 = .ok (.putfield 13, 3) := by decide +kernel
theorem zd_Truths_init_14 : decode prog_12_method_1_code 14 = .ok (.aload_n 0, 1) := by decide +kernel
theorem zd_Truths_init_15 : decode prog_12_method_1_code 15 = .ok (.aload_n 3, 1) := by decide +kernel
theorem zd_Truths_init_16 : decode prog_12_method_1_code 16 = .ok (.putfield 17, 3) := by decide +kernel
theorem zd_Truths_init_19 : decode prog_12_method_1_code 19 = .ok (.aload_n 0, 1) := by decide +kernel
theorem zd_Truths_init_20 : decode prog_12_method_1_code 20 = .ok (.sipush 240, 3) := by decide +kernel
theorem zd_Truths_init_23 : decode prog_12_method_1_code 23 = .ok (.newarray .int, 2) := by decide +kernel
theorem zd_Truths_init_25 : decode prog_12_method_1_code 25 = .ok (.putfield 23, 3) := by decide +kernel
theorem zd_Truths_init_28 : decode prog_12_method_1_code 28 = .ok (.aload_n 0, 1) := by decide +kernel
theorem zd_Truths_init_29 : decode prog_12_method_1_code 29 = .ok (.sipush 768, 3) := by decide +kernel
theorem zd_Truths_init_32 : decode prog_12_method_1_code 32 = .ok (.newarray .int, 2) := by decide +kernel
theorem zd_Truths_init_34 : decode prog_12_method_1_code 34 = .ok (.putfield 29, 3) := by decide +kernel
theorem zd_Truths_init_37 : decode prog_12_method_1_code 37 = .ok (.aload_n 0, 1) := by decide +kernel
theorem zd_Truths_init_38 : decode prog_12_method_1_code 38 = .ok (.sipush 768, 3) := by decide +kernel
theorem zd_Truths_init_41 : decode prog_12_method_1_code 41 = .ok (.newarray .int, 2) := by decide +kernel
theorem zd_Truths_init_43 : decode prog_12_method_1_code 43 = .ok (.putfield 32, 3) := by decide +kernel
theorem zd_Truths_init_46 : decode prog_12_method_1_code 46 = .ok (.aload_n 0, 1) := by decide +kernel
theorem zd_Truths_init_47 : decode prog_12_method_1_code 47 = .ok (.sipush 768, 3) := by decide +kernel
theorem zd_Truths_init_50 : decode prog_12_method_1_code 50 = .ok (.newarray .boolean, 2) := by decide +kernel
theorem zd_Truths_init_52 : decode prog_12_method_1_code 52 = .ok (.putfield 35, 3) := by decide +kernel
theorem zd_Truths_init_55 : decode prog_12_method_1_code 55 = .ok (.return_, 1) := by decide +kernel
set_option maxHeartbeats 4000000 in
set_option maxRecDepth 100000 in
theorem c_Text_init (l : Launch) (G : va_G) (K : Nat → ClassId) (h0 : Nat) (sz : Nat) : Met l zy_Text_init (Cond.code zy_Text_init prog_10_method_1_code 1 none :: zTB) { frames := 1, cells := 1, slots := 240, locals := 12 } (va_Pc [.ref h0] (zPre G K [(h0, zO 9 [.null, .int 0, .int 0, .int 0, .int 0])] sz)) (va_Qv (fun _ : Nat → Nat => True) (fun u t => zPost G K (va_A [(h0, zO 9 [.null, .int 0, .int 0, .int 0, .int 0])] sz) [(h0, zO 9 [.ref (u 0), .int 0, .int 0, .int 0, .int (-1)]), ((u 0), zC K 240 (fun _ => 0))] t) (va_A [(h0, zO 9 [.null, .int 0, .int 0, .int 0, .int 0])] sz)) 1 240 (va_A [(h0, zO 9 [.null, .int 0, .int 0, .int 0, .int 0])] sz) := by
  refine zMet (y := zy_Text_init) (av := [.ref h0]) (maxL := 1) (cc := prog_10_method_1_code) (ret := none) (W0 := [(h0, zO 9 [.null, .int 0, .int 0, .int 0, .int 0])]) (sz := sz) (G := G) (K := K) (wt := zTB) (mc := 1) (ms := 240) (Qf := fun A => va_Qv (fun _ : Nat → Nat => True) (fun u t => zPost G K A [(h0, zO 9 [.ref (u 0), .int 0, .int 0, .int 0, .int (-1)]), ((u 0), zC K 240 (fun _ => 0))] t) A) (by decide) (Nat.le_of_ble_eq_true rfl) ?_
  intro p e s m below meth c ls A hx hb hr hml hts hown hlocks hin hA hK H locs hw hsz hl
  clear hsz
  have hown : s.vm.findClass "LassoFinder$Text" = some m.cls := hown
  have hl : lv_has ls 1 [(0, .ref h0)] := hl
  have hw : zW G A s.heap [(h0, zO 9 [.null, .int 0, .int 0, .int 0, .int 0])] H locs := hw
  refine lv_aload_n hx hb zd_Text_init_0 rfl (lv_at hl 0 rfl) ?_
  refine z_objInit hx hb hts hown hml hl.1 zc_235 zc_236 zc_237 zd_Text_init_1 (Nat.le_of_ble_eq_true rfl) (Nat.le_of_ble_eq_true rfl) ?_
  refine lv_aload_n hx hb zd_Text_init_4 rfl (lv_at hl 0 rfl) ?_
  refine lv_sipush (v := 240) hx hb zd_Text_init_5 (by decide) ?_
  refine z_newC (N' := 240) hx hb (hts _ zc_241) hK hw hA (by decide) (by decide) (Nat.le_of_ble_eq_true rfl) (Nat.le_of_ble_eq_true rfl) (Nat.le_of_ble_eq_true rfl) zd_Text_init_8 (fun q8 H hw => ?_)
  refine z_putF hx hb hts hown hin hK hw zZ9 0 rfl 0 (by decide) zc_242 rfl rfl rfl rfl (Nat.le_of_ble_eq_true rfl) zd_Text_init_10 (fun H locs hw => ?_)
  refine lv_aload_n hx hb zd_Text_init_13 rfl (lv_at hl 0 rfl) ?_
  refine lv_iconst (v := (-1)) hx hb zd_Text_init_14 (by decide) ?_
  refine z_put hx hb hts hown hK hw zZ9 0 rfl 4 (by decide) zc_243 rfl rfl rfl (Nat.le_of_ble_eq_true rfl) zd_Text_init_15 (fun H locs hw => ?_)
  have hw : zW G A s.heap [(h0, zO 9 [.ref q8, .int 0, .int 0, .int 0, .int (-1)]), (q8, zC K 240 (fun _ => 0))] H locs := hw
  exact z_vret (u := (fun k => ([q8] : List Nat).getD k 0)) hx hb hr hlocks hw [0, 1] rfl (by decide) trivial (Nat.le_of_ble_eq_true rfl) (Nat.le_of_ble_eq_true rfl) zd_Text_init_18
set_option maxHeartbeats 4000000 in
set_option maxRecDepth 100000 in
theorem c_Names_init (l : Launch) (G : va_G) (K : Nat → ClassId) (h0 : Nat) (sz : Nat) : Met l zy_Names_init (Cond.code zy_Names_init prog_6_method_1_code 1 none :: zTB) { frames := 1, cells := 4, slots := 24, locals := 12 } (va_Pc [.ref h0] (zPre G K [(h0, zO 5 [.null, .null, .null, .null, .int 0, .int 0])] sz)) (va_Qv (fun _ : Nat → Nat => True) (fun u t => zPost G K (va_A [(h0, zO 5 [.null, .null, .null, .null, .int 0, .int 0])] sz) [(h0, zO 5 [.ref (u 0), .ref (u 1), .ref (u 2), .ref (u 3), .int 0, .int 0]), ((u 0), zI K 8 (fun _ => 0)), ((u 1), zI K 8 (fun _ => 0)), ((u 2), zI K 6 (fun _ => 0)), ((u 3), zI K 2 (fun _ => 0))] t) (va_A [(h0, zO 5 [.null, .null, .null, .null, .int 0, .int 0])] sz)) 4 24 (va_A [(h0, zO 5 [.null, .null, .null, .null, .int 0, .int 0])] sz) := by
  refine zMet (y := zy_Names_init) (av := [.ref h0]) (maxL := 1) (cc := prog_6_method_1_code) (ret := none) (W0 := [(h0, zO 5 [.null, .null, .null, .null, .int 0, .int 0])]) (sz := sz) (G := G) (K := K) (wt := zTB) (mc := 4) (ms := 24) (Qf := fun A => va_Qv (fun _ : Nat → Nat => True) (fun u t => zPost G K A [(h0, zO 5 [.ref (u 0), .ref (u 1), .ref (u 2), .ref (u 3), .int 0, .int 0]), ((u 0), zI K 8 (fun _ => 0)), ((u 1), zI K 8 (fun _ => 0)), ((u 2), zI K 6 (fun _ => 0)), ((u 3), zI K 2 (fun _ => 0))] t) A) (by decide) (Nat.le_of_ble_eq_true rfl) ?_
  intro p e s m below meth c ls A hx hb hr hml hts hown hlocks hin hA hK H locs hw hsz hl
  clear hsz
  have hown : s.vm.findClass "LassoFinder$Names" = some m.cls := hown
  have hl : lv_has ls 1 [(0, .ref h0)] := hl
  have hw : zW G A s.heap [(h0, zO 5 [.null, .null, .null, .null, .int 0, .int 0])] H locs := hw
  refine lv_aload_n hx hb zd_Names_init_0 rfl (lv_at hl 0 rfl) ?_
  refine z_objInit hx hb hts hown hml hl.1 zc_244 zc_236 zc_237 zd_Names_init_1 (Nat.le_of_ble_eq_true rfl) (Nat.le_of_ble_eq_true rfl) ?_
  refine lv_aload_n hx hb zd_Names_init_4 rfl (lv_at hl 0 rfl) ?_
  refine lv_bipush (v := 8) hx hb zd_Names_init_5 (by decide) ?_
  refine z_newI (N' := 8) hx hb (hts _ zc_238) hK hw hA (by decide) (by decide) (Nat.le_of_ble_eq_true rfl) (Nat.le_of_ble_eq_true rfl) (Nat.le_of_ble_eq_true rfl) zd_Names_init_7 (fun q7 H hw => ?_)
  refine z_putF hx hb hts hown hin hK hw zZ5 0 rfl 0 (by decide) zc_245 rfl rfl rfl rfl (Nat.le_of_ble_eq_true rfl) zd_Names_init_9 (fun H locs hw => ?_)
  refine lv_aload_n hx hb zd_Names_init_12 rfl (lv_at hl 0 rfl) ?_
  refine lv_bipush (v := 8) hx hb zd_Names_init_13 (by decide) ?_
  refine z_newI (N' := 8) hx hb (hts _ zc_238) hK hw hA (by decide) (by decide) (Nat.le_of_ble_eq_true rfl) (Nat.le_of_ble_eq_true rfl) (Nat.le_of_ble_eq_true rfl) zd_Names_init_15 (fun q15 H hw => ?_)
  have hw : zW G A s.heap [(h0, zO 5 [.ref q7, .null, .null, .null, .int 0, .int 0]), (q7, zI K 8 (fun _ => 0)), (q15, zI K 8 (fun _ => 0))] H locs := hw
  refine z_putF hx hb hts hown hin hK hw zZ5 0 rfl 1 (by decide) zc_246 rfl rfl rfl rfl (Nat.le_of_ble_eq_true rfl) zd_Names_init_17 (fun H locs hw => ?_)
  refine lv_aload_n hx hb zd_Names_init_20 rfl (lv_at hl 0 rfl) ?_
  refine lv_bipush (v := 6) hx hb zd_Names_init_21 (by decide) ?_
  refine z_newI (N' := 6) hx hb (hts _ zc_238) hK hw hA (by decide) (by decide) (Nat.le_of_ble_eq_true rfl) (Nat.le_of_ble_eq_true rfl) (Nat.le_of_ble_eq_true rfl) zd_Names_init_23 (fun q23 H hw => ?_)
  refine z_putF hx hb hts hown hin hK hw zZ5 0 rfl 2 (by decide) zc_247 rfl rfl rfl rfl (Nat.le_of_ble_eq_true rfl) zd_Names_init_25 (fun H locs hw => ?_)
  have hw : zW G A s.heap [(h0, zO 5 [.ref q7, .ref q15, .ref q23, .null, .int 0, .int 0]), (q7, zI K 8 (fun _ => 0)), (q15, zI K 8 (fun _ => 0)), (q23, zI K 6 (fun _ => 0))] H locs := hw
  refine lv_aload_n hx hb zd_Names_init_28 rfl (lv_at hl 0 rfl) ?_
  refine lv_iconst (v := 2) hx hb zd_Names_init_29 (by decide) ?_
  refine z_newI (N' := 2) hx hb (hts _ zc_238) hK hw hA (by decide) (by decide) (Nat.le_of_ble_eq_true rfl) (Nat.le_of_ble_eq_true rfl) (Nat.le_of_ble_eq_true rfl) zd_Names_init_30 (fun q30 H hw => ?_)
  refine z_putF hx hb hts hown hin hK hw zZ5 0 rfl 3 (by decide) zc_248 rfl rfl rfl rfl (Nat.le_of_ble_eq_true rfl) zd_Names_init_32 (fun H locs hw => ?_)
  exact z_vret (u := (fun k => ([q7, q15, q23, q30] : List Nat).getD k 0)) hx hb hr hlocks hw [0, 1, 2, 3, 4] rfl (by decide) trivial (Nat.le_of_ble_eq_true rfl) (Nat.le_of_ble_eq_true rfl) zd_Names_init_35
set_option maxHeartbeats 4000000 in
set_option maxRecDepth 100000 in
theorem c_Program_init (l : Launch) (G : va_G) (K : Nat → ClassId) (h0 : Nat) (sz : Nat) : Met l zy_Program_init (Cond.code zy_Program_init prog_7_method_1_code 1 none :: zTB) { frames := 1, cells := 11, slots := 504, locals := 12 } (va_Pc [.ref h0] (zPre G K [(h0, zO 6 [.null, .null, .null, .null, .null, .null, .null, .null, .null, .null, .null, .long 0, .int 0, .int 0])] sz)) (va_Qv (fun _ : Nat → Nat => True) (fun u t => zPost G K (va_A [(h0, zO 6 [.null, .null, .null, .null, .null, .null, .null, .null, .null, .null, .null, .long 0, .int 0, .int 0])] sz) [(h0, zO 6 [.ref (u 0), .ref (u 1), .ref (u 2), .ref (u 3), .ref (u 4), .ref (u 5), .ref (u 6), .ref (u 7), .ref (u 8), .ref (u 9), .ref (u 10), .long 0, .int 0, .int 0]), ((u 0), zI K 48 (fun _ => 0)), ((u 1), zI K 48 (fun _ => 0)), ((u 2), zI K 48 (fun _ => 0)), ((u 3), zI K 48 (fun _ => 0)), ((u 4), zI K 48 (fun _ => 0)), ((u 5), zI K 48 (fun _ => 0)), ((u 6), zZ K 48 (fun _ => 0)), ((u 7), zJ K 8 (fun _ => 0)), ((u 8), zI K 4 (fun _ => 0)), ((u 9), zI K 32 (fun _ => 0)), ((u 10), zJ K 124 (fun _ => 0))] t) (va_A [(h0, zO 6 [.null, .null, .null, .null, .null, .null, .null, .null, .null, .null, .null, .long 0, .int 0, .int 0])] sz)) 11 504 (va_A [(h0, zO 6 [.null, .null, .null, .null, .null, .null, .null, .null, .null, .null, .null, .long 0, .int 0, .int 0])] sz) := by
  refine zMet (y := zy_Program_init) (av := [.ref h0]) (maxL := 1) (cc := prog_7_method_1_code) (ret := none) (W0 := [(h0, zO 6 [.null, .null, .null, .null, .null, .null, .null, .null, .null, .null, .null, .long 0, .int 0, .int 0])]) (sz := sz) (G := G) (K := K) (wt := zTB) (mc := 11) (ms := 504) (Qf := fun A => va_Qv (fun _ : Nat → Nat => True) (fun u t => zPost G K A [(h0, zO 6 [.ref (u 0), .ref (u 1), .ref (u 2), .ref (u 3), .ref (u 4), .ref (u 5), .ref (u 6), .ref (u 7), .ref (u 8), .ref (u 9), .ref (u 10), .long 0, .int 0, .int 0]), ((u 0), zI K 48 (fun _ => 0)), ((u 1), zI K 48 (fun _ => 0)), ((u 2), zI K 48 (fun _ => 0)), ((u 3), zI K 48 (fun _ => 0)), ((u 4), zI K 48 (fun _ => 0)), ((u 5), zI K 48 (fun _ => 0)), ((u 6), zZ K 48 (fun _ => 0)), ((u 7), zJ K 8 (fun _ => 0)), ((u 8), zI K 4 (fun _ => 0)), ((u 9), zI K 32 (fun _ => 0)), ((u 10), zJ K 124 (fun _ => 0))] t) A) (by decide) (Nat.le_of_ble_eq_true rfl) ?_
  intro p e s m below meth c ls A hx hb hr hml hts hown hlocks hin hA hK H locs hw hsz hl
  clear hsz
  have hown : s.vm.findClass "LassoFinder$Program" = some m.cls := hown
  have hl : lv_has ls 1 [(0, .ref h0)] := hl
  have hw : zW G A s.heap [(h0, zO 6 [.null, .null, .null, .null, .null, .null, .null, .null, .null, .null, .null, .long 0, .int 0, .int 0])] H locs := hw
  refine lv_aload_n hx hb zd_Program_init_0 rfl (lv_at hl 0 rfl) ?_
  refine z_objInit hx hb hts hown hml hl.1 zc_249 zc_236 zc_237 zd_Program_init_1 (Nat.le_of_ble_eq_true rfl) (Nat.le_of_ble_eq_true rfl) ?_
  refine lv_aload_n hx hb zd_Program_init_4 rfl (lv_at hl 0 rfl) ?_
  refine lv_bipush (v := 48) hx hb zd_Program_init_5 (by decide) ?_
  refine z_newI (N' := 48) hx hb (hts _ zc_238) hK hw hA (by decide) (by decide) (Nat.le_of_ble_eq_true rfl) (Nat.le_of_ble_eq_true rfl) (Nat.le_of_ble_eq_true rfl) zd_Program_init_7 (fun q7 H hw => ?_)
  refine z_putF hx hb hts hown hin hK hw zZ6 0 rfl 0 (by decide) zc_250 rfl rfl rfl rfl (Nat.le_of_ble_eq_true rfl) zd_Program_init_9 (fun H locs hw => ?_)
  refine lv_aload_n hx hb zd_Program_init_12 rfl (lv_at hl 0 rfl) ?_
  refine lv_bipush (v := 48) hx hb zd_Program_init_13 (by decide) ?_
  refine z_newI (N' := 48) hx hb (hts _ zc_238) hK hw hA (by decide) (by decide) (Nat.le_of_ble_eq_true rfl) (Nat.le_of_ble_eq_true rfl) (Nat.le_of_ble_eq_true rfl) zd_Program_init_15 (fun q15 H hw => ?_)
  have hw : zW G A s.heap [(h0, zO 6 [.ref q7, .null, .null, .null, .null, .null, .null, .null, .null, .null, .null, .long 0, .int 0, .int 0]), (q7, zI K 48 (fun _ => 0)), (q15, zI K 48 (fun _ => 0))] H locs := hw
  refine z_putF hx hb hts hown hin hK hw zZ6 0 rfl 1 (by decide) zc_251 rfl rfl rfl rfl (Nat.le_of_ble_eq_true rfl) zd_Program_init_17 (fun H locs hw => ?_)
  refine lv_aload_n hx hb zd_Program_init_20 rfl (lv_at hl 0 rfl) ?_
  refine lv_bipush (v := 48) hx hb zd_Program_init_21 (by decide) ?_
  refine z_newI (N' := 48) hx hb (hts _ zc_238) hK hw hA (by decide) (by decide) (Nat.le_of_ble_eq_true rfl) (Nat.le_of_ble_eq_true rfl) (Nat.le_of_ble_eq_true rfl) zd_Program_init_23 (fun q23 H hw => ?_)
  refine z_putF hx hb hts hown hin hK hw zZ6 0 rfl 2 (by decide) zc_252 rfl rfl rfl rfl (Nat.le_of_ble_eq_true rfl) zd_Program_init_25 (fun H locs hw => ?_)
  have hw : zW G A s.heap [(h0, zO 6 [.ref q7, .ref q15, .ref q23, .null, .null, .null, .null, .null, .null, .null, .null, .long 0, .int 0, .int 0]), (q7, zI K 48 (fun _ => 0)), (q15, zI K 48 (fun _ => 0)), (q23, zI K 48 (fun _ => 0))] H locs := hw
  refine lv_aload_n hx hb zd_Program_init_28 rfl (lv_at hl 0 rfl) ?_
  refine lv_bipush (v := 48) hx hb zd_Program_init_29 (by decide) ?_
  refine z_newI (N' := 48) hx hb (hts _ zc_238) hK hw hA (by decide) (by decide) (Nat.le_of_ble_eq_true rfl) (Nat.le_of_ble_eq_true rfl) (Nat.le_of_ble_eq_true rfl) zd_Program_init_31 (fun q31 H hw => ?_)
  refine z_putF hx hb hts hown hin hK hw zZ6 0 rfl 3 (by decide) zc_253 rfl rfl rfl rfl (Nat.le_of_ble_eq_true rfl) zd_Program_init_33 (fun H locs hw => ?_)
  refine lv_aload_n hx hb zd_Program_init_36 rfl (lv_at hl 0 rfl) ?_
  refine lv_bipush (v := 48) hx hb zd_Program_init_37 (by decide) ?_
  refine z_newI (N' := 48) hx hb (hts _ zc_238) hK hw hA (by decide) (by decide) (Nat.le_of_ble_eq_true rfl) (Nat.le_of_ble_eq_true rfl) (Nat.le_of_ble_eq_true rfl) zd_Program_init_39 (fun q39 H hw => ?_)
  have hw : zW G A s.heap [(h0, zO 6 [.ref q7, .ref q15, .ref q23, .ref q31, .null, .null, .null, .null, .null, .null, .null, .long 0, .int 0, .int 0]), (q7, zI K 48 (fun _ => 0)), (q15, zI K 48 (fun _ => 0)), (q23, zI K 48 (fun _ => 0)), (q31, zI K 48 (fun _ => 0)), (q39, zI K 48 (fun _ => 0))] H locs := hw
  refine z_putF hx hb hts hown hin hK hw zZ6 0 rfl 4 (by decide) zc_254 rfl rfl rfl rfl (Nat.le_of_ble_eq_true rfl) zd_Program_init_41 (fun H locs hw => ?_)
  refine lv_aload_n hx hb zd_Program_init_44 rfl (lv_at hl 0 rfl) ?_
  refine lv_bipush (v := 48) hx hb zd_Program_init_45 (by decide) ?_
  refine z_newI (N' := 48) hx hb (hts _ zc_238) hK hw hA (by decide) (by decide) (Nat.le_of_ble_eq_true rfl) (Nat.le_of_ble_eq_true rfl) (Nat.le_of_ble_eq_true rfl) zd_Program_init_47 (fun q47 H hw => ?_)
  refine z_putF hx hb hts hown hin hK hw zZ6 0 rfl 5 (by decide) zc_255 rfl rfl rfl rfl (Nat.le_of_ble_eq_true rfl) zd_Program_init_49 (fun H locs hw => ?_)
  have hw : zW G A s.heap [(h0, zO 6 [.ref q7, .ref q15, .ref q23, .ref q31, .ref q39, .ref q47, .null, .null, .null, .null, .null, .long 0, .int 0, .int 0]), (q7, zI K 48 (fun _ => 0)), (q15, zI K 48 (fun _ => 0)), (q23, zI K 48 (fun _ => 0)), (q31, zI K 48 (fun _ => 0)), (q39, zI K 48 (fun _ => 0)), (q47, zI K 48 (fun _ => 0))] H locs := hw
  refine lv_aload_n hx hb zd_Program_init_52 rfl (lv_at hl 0 rfl) ?_
  refine lv_bipush (v := 48) hx hb zd_Program_init_53 (by decide) ?_
  refine z_newZ (N' := 48) hx hb (hts _ zc_240) hK hw hA (by decide) (by decide) (Nat.le_of_ble_eq_true rfl) (Nat.le_of_ble_eq_true rfl) (Nat.le_of_ble_eq_true rfl) zd_Program_init_55 (fun q55 H hw => ?_)
  refine z_putF hx hb hts hown hin hK hw zZ6 0 rfl 6 (by decide) zc_256 rfl rfl rfl rfl (Nat.le_of_ble_eq_true rfl) zd_Program_init_57 (fun H locs hw => ?_)
  refine lv_aload_n hx hb zd_Program_init_60 rfl (lv_at hl 0 rfl) ?_
  refine lv_bipush (v := 8) hx hb zd_Program_init_61 (by decide) ?_
  refine z_newJ (N' := 8) hx hb (hts _ zc_239) hK hw hA (by decide) (by decide) (Nat.le_of_ble_eq_true rfl) (Nat.le_of_ble_eq_true rfl) (Nat.le_of_ble_eq_true rfl) zd_Program_init_63 (fun q63 H hw => ?_)
  have hw : zW G A s.heap [(h0, zO 6 [.ref q7, .ref q15, .ref q23, .ref q31, .ref q39, .ref q47, .ref q55, .null, .null, .null, .null, .long 0, .int 0, .int 0]), (q7, zI K 48 (fun _ => 0)), (q15, zI K 48 (fun _ => 0)), (q23, zI K 48 (fun _ => 0)), (q31, zI K 48 (fun _ => 0)), (q39, zI K 48 (fun _ => 0)), (q47, zI K 48 (fun _ => 0)), (q55, zZ K 48 (fun _ => 0)), (q63, zJ K 8 (fun _ => 0))] H locs := hw
  refine z_putF hx hb hts hown hin hK hw zZ6 0 rfl 7 (by decide) zc_257 rfl rfl rfl rfl (Nat.le_of_ble_eq_true rfl) zd_Program_init_65 (fun H locs hw => ?_)
  refine lv_aload_n hx hb zd_Program_init_68 rfl (lv_at hl 0 rfl) ?_
  refine lv_iconst (v := 4) hx hb zd_Program_init_69 (by decide) ?_
  refine z_newI (N' := 4) hx hb (hts _ zc_238) hK hw hA (by decide) (by decide) (Nat.le_of_ble_eq_true rfl) (Nat.le_of_ble_eq_true rfl) (Nat.le_of_ble_eq_true rfl) zd_Program_init_70 (fun q70 H hw => ?_)
  refine z_putF hx hb hts hown hin hK hw zZ6 0 rfl 8 (by decide) zc_258 rfl rfl rfl rfl (Nat.le_of_ble_eq_true rfl) zd_Program_init_72 (fun H locs hw => ?_)
  have hw : zW G A s.heap [(h0, zO 6 [.ref q7, .ref q15, .ref q23, .ref q31, .ref q39, .ref q47, .ref q55, .ref q63, .ref q70, .null, .null, .long 0, .int 0, .int 0]), (q7, zI K 48 (fun _ => 0)), (q15, zI K 48 (fun _ => 0)), (q23, zI K 48 (fun _ => 0)), (q31, zI K 48 (fun _ => 0)), (q39, zI K 48 (fun _ => 0)), (q47, zI K 48 (fun _ => 0)), (q55, zZ K 48 (fun _ => 0)), (q63, zJ K 8 (fun _ => 0)), (q70, zI K 4 (fun _ => 0))] H locs := hw
  refine lv_aload_n hx hb zd_Program_init_75 rfl (lv_at hl 0 rfl) ?_
  refine lv_bipush (v := 32) hx hb zd_Program_init_76 (by decide) ?_
  refine z_newI (N' := 32) hx hb (hts _ zc_238) hK hw hA (by decide) (by decide) (Nat.le_of_ble_eq_true rfl) (Nat.le_of_ble_eq_true rfl) (Nat.le_of_ble_eq_true rfl) zd_Program_init_78 (fun q78 H hw => ?_)
  refine z_putF hx hb hts hown hin hK hw zZ6 0 rfl 9 (by decide) zc_259 rfl rfl rfl rfl (Nat.le_of_ble_eq_true rfl) zd_Program_init_80 (fun H locs hw => ?_)
  refine lv_aload_n hx hb zd_Program_init_83 rfl (lv_at hl 0 rfl) ?_
  refine lv_bipush (v := 124) hx hb zd_Program_init_84 (by decide) ?_
  refine z_newJ (N' := 124) hx hb (hts _ zc_239) hK hw hA (by decide) (by decide) (Nat.le_of_ble_eq_true rfl) (Nat.le_of_ble_eq_true rfl) (Nat.le_of_ble_eq_true rfl) zd_Program_init_86 (fun q86 H hw => ?_)
  have hw : zW G A s.heap [(h0, zO 6 [.ref q7, .ref q15, .ref q23, .ref q31, .ref q39, .ref q47, .ref q55, .ref q63, .ref q70, .ref q78, .null, .long 0, .int 0, .int 0]), (q7, zI K 48 (fun _ => 0)), (q15, zI K 48 (fun _ => 0)), (q23, zI K 48 (fun _ => 0)), (q31, zI K 48 (fun _ => 0)), (q39, zI K 48 (fun _ => 0)), (q47, zI K 48 (fun _ => 0)), (q55, zZ K 48 (fun _ => 0)), (q63, zJ K 8 (fun _ => 0)), (q70, zI K 4 (fun _ => 0)), (q78, zI K 32 (fun _ => 0)), (q86, zJ K 124 (fun _ => 0))] H locs := hw
  refine z_putF hx hb hts hown hin hK hw zZ6 0 rfl 10 (by decide) zc_260 rfl rfl rfl rfl (Nat.le_of_ble_eq_true rfl) zd_Program_init_88 (fun H locs hw => ?_)
  exact z_vret (u := (fun k => ([q7, q15, q23, q31, q39, q47, q55, q63, q70, q78, q86] : List Nat).getD k 0)) hx hb hr hlocks hw [0, 1, 2, 3, 4, 5, 6, 7, 8, 9, 10, 11] rfl (by decide) trivial (Nat.le_of_ble_eq_true rfl) (Nat.le_of_ble_eq_true rfl) zd_Program_init_91
set_option maxHeartbeats 4000000 in
set_option maxRecDepth 100000 in
theorem c_Terms_init (l : Launch) (G : va_G) (K : Nat → ClassId) (h0 : Nat) (a1 : Nat) (a2 : Nat) (sz : Nat) : Met l zy_Terms_init (Cond.code zy_Terms_init prog_9_method_1_code 3 none :: zTB) { frames := 1, cells := 3, slots := 513, locals := 12 } (va_Pc [.ref h0, .ref a1, .ref a2] (zPre G K [(h0, zO 8 [.null, .null, .null, .int 0, .null, .int 0, .null, .int 0, .int 0, .int 0])] sz)) (va_Qv (fun _ : Nat → Nat => True) (fun u t => zPost G K (va_A [(h0, zO 8 [.null, .null, .null, .int 0, .null, .int 0, .null, .int 0, .int 0, .int 0])] sz) [(h0, zO 8 [.ref a1, .ref a2, .ref (u 0), .int 0, .ref (u 1), .int 0, .ref (u 2), .int 0, .int 0, .int 0]), ((u 0), zI K 480 (fun _ => 0)), ((u 1), zI K 20 (fun _ => 0)), ((u 2), zI K 13 (fun _ => 0))] t) (va_A [(h0, zO 8 [.null, .null, .null, .int 0, .null, .int 0, .null, .int 0, .int 0, .int 0])] sz)) 3 513 (va_A [(h0, zO 8 [.null, .null, .null, .int 0, .null, .int 0, .null, .int 0, .int 0, .int 0])] sz) := by
  refine zMet (y := zy_Terms_init) (av := [.ref h0, .ref a1, .ref a2]) (maxL := 3) (cc := prog_9_method_1_code) (ret := none) (W0 := [(h0, zO 8 [.null, .null, .null, .int 0, .null, .int 0, .null, .int 0, .int 0, .int 0])]) (sz := sz) (G := G) (K := K) (wt := zTB) (mc := 3) (ms := 513) (Qf := fun A => va_Qv (fun _ : Nat → Nat => True) (fun u t => zPost G K A [(h0, zO 8 [.ref a1, .ref a2, .ref (u 0), .int 0, .ref (u 1), .int 0, .ref (u 2), .int 0, .int 0, .int 0]), ((u 0), zI K 480 (fun _ => 0)), ((u 1), zI K 20 (fun _ => 0)), ((u 2), zI K 13 (fun _ => 0))] t) A) (by decide) (Nat.le_of_ble_eq_true rfl) ?_
  intro p e s m below meth c ls A hx hb hr hml hts hown hlocks hin hA hK H locs hw hsz hl
  clear hsz
  have hown : s.vm.findClass "LassoFinder$Terms" = some m.cls := hown
  have hl : lv_has ls 3 [(0, .ref h0), (1, .ref a1), (2, .ref a2)] := hl
  have hw : zW G A s.heap [(h0, zO 8 [.null, .null, .null, .int 0, .null, .int 0, .null, .int 0, .int 0, .int 0])] H locs := hw
  refine lv_aload_n hx hb zd_Terms_init_0 rfl (lv_at hl 0 rfl) ?_
  refine z_objInit hx hb hts hown hml hl.1 zc_261 zc_236 zc_237 zd_Terms_init_1 (Nat.le_of_ble_eq_true rfl) (Nat.le_of_ble_eq_true rfl) ?_
  refine lv_aload_n hx hb zd_Terms_init_4 rfl (lv_at hl 0 rfl) ?_
  refine lv_aload_n hx hb zd_Terms_init_5 rfl (lv_at hl 1 rfl) ?_
  refine z_putF hx hb hts hown hin hK hw zZ8 0 rfl 0 (by decide) zc_262 rfl rfl rfl rfl (Nat.le_of_ble_eq_true rfl) zd_Terms_init_6 (fun H locs hw => ?_)
  refine lv_aload_n hx hb zd_Terms_init_9 rfl (lv_at hl 0 rfl) ?_
  refine lv_aload_n hx hb zd_Terms_init_10 rfl (lv_at hl 2 rfl) ?_
  refine z_putF hx hb hts hown hin hK hw zZ8 0 rfl 1 (by decide) zc_263 rfl rfl rfl rfl (Nat.le_of_ble_eq_true rfl) zd_Terms_init_11 (fun H locs hw => ?_)
  refine lv_aload_n hx hb zd_Terms_init_14 rfl (lv_at hl 0 rfl) ?_
  refine lv_sipush (v := 480) hx hb zd_Terms_init_15 (by decide) ?_
  refine z_newI (N' := 480) hx hb (hts _ zc_238) hK hw hA (by decide) (by decide) (Nat.le_of_ble_eq_true rfl) (Nat.le_of_ble_eq_true rfl) (Nat.le_of_ble_eq_true rfl) zd_Terms_init_18 (fun q18 H hw => ?_)
  have hw : zW G A s.heap [(h0, zO 8 [.ref a1, .ref a2, .null, .int 0, .null, .int 0, .null, .int 0, .int 0, .int 0]), (q18, zI K 480 (fun _ => 0))] H locs := hw
  refine z_putF hx hb hts hown hin hK hw zZ8 0 rfl 2 (by decide) zc_264 rfl rfl rfl rfl (Nat.le_of_ble_eq_true rfl) zd_Terms_init_20 (fun H locs hw => ?_)
  refine lv_aload_n hx hb zd_Terms_init_23 rfl (lv_at hl 0 rfl) ?_
  refine lv_bipush (v := 20) hx hb zd_Terms_init_24 (by decide) ?_
  refine z_newI (N' := 20) hx hb (hts _ zc_238) hK hw hA (by decide) (by decide) (Nat.le_of_ble_eq_true rfl) (Nat.le_of_ble_eq_true rfl) (Nat.le_of_ble_eq_true rfl) zd_Terms_init_26 (fun q26 H hw => ?_)
  refine z_putF hx hb hts hown hin hK hw zZ8 0 rfl 4 (by decide) zc_265 rfl rfl rfl rfl (Nat.le_of_ble_eq_true rfl) zd_Terms_init_28 (fun H locs hw => ?_)
  have hw : zW G A s.heap [(h0, zO 8 [.ref a1, .ref a2, .ref q18, .int 0, .ref q26, .int 0, .null, .int 0, .int 0, .int 0]), (q18, zI K 480 (fun _ => 0)), (q26, zI K 20 (fun _ => 0))] H locs := hw
  refine lv_aload_n hx hb zd_Terms_init_31 rfl (lv_at hl 0 rfl) ?_
  refine lv_bipush (v := 13) hx hb zd_Terms_init_32 (by decide) ?_
  refine z_newI (N' := 13) hx hb (hts _ zc_238) hK hw hA (by decide) (by decide) (Nat.le_of_ble_eq_true rfl) (Nat.le_of_ble_eq_true rfl) (Nat.le_of_ble_eq_true rfl) zd_Terms_init_34 (fun q34 H hw => ?_)
  refine z_putF hx hb hts hown hin hK hw zZ8 0 rfl 6 (by decide) zc_266 rfl rfl rfl rfl (Nat.le_of_ble_eq_true rfl) zd_Terms_init_36 (fun H locs hw => ?_)
  exact z_vret (u := (fun k => ([q18, q26, q34] : List Nat).getD k 0)) hx hb hr hlocks hw [0, 1, 2, 3] rfl (by decide) trivial (Nat.le_of_ble_eq_true rfl) (Nat.le_of_ble_eq_true rfl) zd_Terms_init_39
set_option maxHeartbeats 4000000 in
set_option maxRecDepth 100000 in
theorem c_Tree_init (l : Launch) (G : va_G) (K : Nat → ClassId) (h0 : Nat) (sz : Nat) : Met l zy_Tree_init (Cond.code zy_Tree_init prog_11_method_1_code 1 none :: zTB) { frames := 1, cells := 11, slots := 2408, locals := 12 } (va_Pc [.ref h0] (zPre G K [(h0, zO 10 [.null, .null, .null, .null, .null, .null, .null, .null, .null, .null, .null, .int 0, .int 0])] sz)) (va_Qv (fun _ : Nat → Nat => True) (fun u t => zPost G K (va_A [(h0, zO 10 [.null, .null, .null, .null, .null, .null, .null, .null, .null, .null, .null, .int 0, .int 0])] sz) [(h0, zO 10 [.ref (u 0), .ref (u 1), .ref (u 2), .ref (u 3), .ref (u 4), .ref (u 5), .ref (u 6), .ref (u 7), .ref (u 8), .ref (u 9), .ref (u 10), .int 0, .int 0]), ((u 0), zI K 240 (fun _ => 0)), ((u 1), zI K 240 (fun _ => 0)), ((u 2), zI K 240 (fun _ => 0)), ((u 3), zI K 240 (fun _ => 0)), ((u 4), zZ K 240 (fun _ => 0)), ((u 5), zI K 240 (fun _ => 0)), ((u 6), zI K 240 (fun _ => 0)), ((u 7), zI K 240 (fun _ => 0)), ((u 8), zI K 240 (fun _ => 0)), ((u 9), zI K 240 (fun _ => 0)), ((u 10), zI K 8 (fun _ => 0))] t) (va_A [(h0, zO 10 [.null, .null, .null, .null, .null, .null, .null, .null, .null, .null, .null, .int 0, .int 0])] sz)) 11 2408 (va_A [(h0, zO 10 [.null, .null, .null, .null, .null, .null, .null, .null, .null, .null, .null, .int 0, .int 0])] sz) := by
  refine zMet (y := zy_Tree_init) (av := [.ref h0]) (maxL := 1) (cc := prog_11_method_1_code) (ret := none) (W0 := [(h0, zO 10 [.null, .null, .null, .null, .null, .null, .null, .null, .null, .null, .null, .int 0, .int 0])]) (sz := sz) (G := G) (K := K) (wt := zTB) (mc := 11) (ms := 2408) (Qf := fun A => va_Qv (fun _ : Nat → Nat => True) (fun u t => zPost G K A [(h0, zO 10 [.ref (u 0), .ref (u 1), .ref (u 2), .ref (u 3), .ref (u 4), .ref (u 5), .ref (u 6), .ref (u 7), .ref (u 8), .ref (u 9), .ref (u 10), .int 0, .int 0]), ((u 0), zI K 240 (fun _ => 0)), ((u 1), zI K 240 (fun _ => 0)), ((u 2), zI K 240 (fun _ => 0)), ((u 3), zI K 240 (fun _ => 0)), ((u 4), zZ K 240 (fun _ => 0)), ((u 5), zI K 240 (fun _ => 0)), ((u 6), zI K 240 (fun _ => 0)), ((u 7), zI K 240 (fun _ => 0)), ((u 8), zI K 240 (fun _ => 0)), ((u 9), zI K 240 (fun _ => 0)), ((u 10), zI K 8 (fun _ => 0))] t) A) (by decide) (Nat.le_of_ble_eq_true rfl) ?_
  intro p e s m below meth c ls A hx hb hr hml hts hown hlocks hin hA hK H locs hw hsz hl
  clear hsz
  have hown : s.vm.findClass "LassoFinder$Tree" = some m.cls := hown
  have hl : lv_has ls 1 [(0, .ref h0)] := hl
  have hw : zW G A s.heap [(h0, zO 10 [.null, .null, .null, .null, .null, .null, .null, .null, .null, .null, .null, .int 0, .int 0])] H locs := hw
  refine lv_aload_n hx hb zd_Tree_init_0 rfl (lv_at hl 0 rfl) ?_
  refine z_objInit hx hb hts hown hml hl.1 zc_267 zc_236 zc_237 zd_Tree_init_1 (Nat.le_of_ble_eq_true rfl) (Nat.le_of_ble_eq_true rfl) ?_
  refine lv_aload_n hx hb zd_Tree_init_4 rfl (lv_at hl 0 rfl) ?_
  refine lv_sipush (v := 240) hx hb zd_Tree_init_5 (by decide) ?_
  refine z_newI (N' := 240) hx hb (hts _ zc_238) hK hw hA (by decide) (by decide) (Nat.le_of_ble_eq_true rfl) (Nat.le_of_ble_eq_true rfl) (Nat.le_of_ble_eq_true rfl) zd_Tree_init_8 (fun q8 H hw => ?_)
  refine z_putF hx hb hts hown hin hK hw zZ10 0 rfl 0 (by decide) zc_268 rfl rfl rfl rfl (Nat.le_of_ble_eq_true rfl) zd_Tree_init_10 (fun H locs hw => ?_)
  refine lv_aload_n hx hb zd_Tree_init_13 rfl (lv_at hl 0 rfl) ?_
  refine lv_sipush (v := 240) hx hb zd_Tree_init_14 (by decide) ?_
  refine z_newI (N' := 240) hx hb (hts _ zc_238) hK hw hA (by decide) (by decide) (Nat.le_of_ble_eq_true rfl) (Nat.le_of_ble_eq_true rfl) (Nat.le_of_ble_eq_true rfl) zd_Tree_init_17 (fun q17 H hw => ?_)
  have hw : zW G A s.heap [(h0, zO 10 [.ref q8, .null, .null, .null, .null, .null, .null, .null, .null, .null, .null, .int 0, .int 0]), (q8, zI K 240 (fun _ => 0)), (q17, zI K 240 (fun _ => 0))] H locs := hw
  refine z_putF hx hb hts hown hin hK hw zZ10 0 rfl 1 (by decide) zc_269 rfl rfl rfl rfl (Nat.le_of_ble_eq_true rfl) zd_Tree_init_19 (fun H locs hw => ?_)
  refine lv_aload_n hx hb zd_Tree_init_22 rfl (lv_at hl 0 rfl) ?_
  refine lv_sipush (v := 240) hx hb zd_Tree_init_23 (by decide) ?_
  refine z_newI (N' := 240) hx hb (hts _ zc_238) hK hw hA (by decide) (by decide) (Nat.le_of_ble_eq_true rfl) (Nat.le_of_ble_eq_true rfl) (Nat.le_of_ble_eq_true rfl) zd_Tree_init_26 (fun q26 H hw => ?_)
  refine z_putF hx hb hts hown hin hK hw zZ10 0 rfl 2 (by decide) zc_270 rfl rfl rfl rfl (Nat.le_of_ble_eq_true rfl) zd_Tree_init_28 (fun H locs hw => ?_)
  have hw : zW G A s.heap [(h0, zO 10 [.ref q8, .ref q17, .ref q26, .null, .null, .null, .null, .null, .null, .null, .null, .int 0, .int 0]), (q8, zI K 240 (fun _ => 0)), (q17, zI K 240 (fun _ => 0)), (q26, zI K 240 (fun _ => 0))] H locs := hw
  refine lv_aload_n hx hb zd_Tree_init_31 rfl (lv_at hl 0 rfl) ?_
  refine lv_sipush (v := 240) hx hb zd_Tree_init_32 (by decide) ?_
  refine z_newI (N' := 240) hx hb (hts _ zc_238) hK hw hA (by decide) (by decide) (Nat.le_of_ble_eq_true rfl) (Nat.le_of_ble_eq_true rfl) (Nat.le_of_ble_eq_true rfl) zd_Tree_init_35 (fun q35 H hw => ?_)
  refine z_putF hx hb hts hown hin hK hw zZ10 0 rfl 3 (by decide) zc_271 rfl rfl rfl rfl (Nat.le_of_ble_eq_true rfl) zd_Tree_init_37 (fun H locs hw => ?_)
  refine lv_aload_n hx hb zd_Tree_init_40 rfl (lv_at hl 0 rfl) ?_
  refine lv_sipush (v := 240) hx hb zd_Tree_init_41 (by decide) ?_
  refine z_newZ (N' := 240) hx hb (hts _ zc_240) hK hw hA (by decide) (by decide) (Nat.le_of_ble_eq_true rfl) (Nat.le_of_ble_eq_true rfl) (Nat.le_of_ble_eq_true rfl) zd_Tree_init_44 (fun q44 H hw => ?_)
  have hw : zW G A s.heap [(h0, zO 10 [.ref q8, .ref q17, .ref q26, .ref q35, .null, .null, .null, .null, .null, .null, .null, .int 0, .int 0]), (q8, zI K 240 (fun _ => 0)), (q17, zI K 240 (fun _ => 0)), (q26, zI K 240 (fun _ => 0)), (q35, zI K 240 (fun _ => 0)), (q44, zZ K 240 (fun _ => 0))] H locs := hw
  refine z_putF hx hb hts hown hin hK hw zZ10 0 rfl 4 (by decide) zc_272 rfl rfl rfl rfl (Nat.le_of_ble_eq_true rfl) zd_Tree_init_46 (fun H locs hw => ?_)
  refine lv_aload_n hx hb zd_Tree_init_49 rfl (lv_at hl 0 rfl) ?_
  refine lv_sipush (v := 240) hx hb zd_Tree_init_50 (by decide) ?_
  refine z_newI (N' := 240) hx hb (hts _ zc_238) hK hw hA (by decide) (by decide) (Nat.le_of_ble_eq_true rfl) (Nat.le_of_ble_eq_true rfl) (Nat.le_of_ble_eq_true rfl) zd_Tree_init_53 (fun q53 H hw => ?_)
  refine z_putF hx hb hts hown hin hK hw zZ10 0 rfl 5 (by decide) zc_273 rfl rfl rfl rfl (Nat.le_of_ble_eq_true rfl) zd_Tree_init_55 (fun H locs hw => ?_)
  have hw : zW G A s.heap [(h0, zO 10 [.ref q8, .ref q17, .ref q26, .ref q35, .ref q44, .ref q53, .null, .null, .null, .null, .null, .int 0, .int 0]), (q8, zI K 240 (fun _ => 0)), (q17, zI K 240 (fun _ => 0)), (q26, zI K 240 (fun _ => 0)), (q35, zI K 240 (fun _ => 0)), (q44, zZ K 240 (fun _ => 0)), (q53, zI K 240 (fun _ => 0))] H locs := hw
  refine lv_aload_n hx hb zd_Tree_init_58 rfl (lv_at hl 0 rfl) ?_
  refine lv_sipush (v := 240) hx hb zd_Tree_init_59 (by decide) ?_
  refine z_newI (N' := 240) hx hb (hts _ zc_238) hK hw hA (by decide) (by decide) (Nat.le_of_ble_eq_true rfl) (Nat.le_of_ble_eq_true rfl) (Nat.le_of_ble_eq_true rfl) zd_Tree_init_62 (fun q62 H hw => ?_)
  refine z_putF hx hb hts hown hin hK hw zZ10 0 rfl 6 (by decide) zc_274 rfl rfl rfl rfl (Nat.le_of_ble_eq_true rfl) zd_Tree_init_64 (fun H locs hw => ?_)
  refine lv_aload_n hx hb zd_Tree_init_67 rfl (lv_at hl 0 rfl) ?_
  refine lv_sipush (v := 240) hx hb zd_Tree_init_68 (by decide) ?_
  refine z_newI (N' := 240) hx hb (hts _ zc_238) hK hw hA (by decide) (by decide) (Nat.le_of_ble_eq_true rfl) (Nat.le_of_ble_eq_true rfl) (Nat.le_of_ble_eq_true rfl) zd_Tree_init_71 (fun q71 H hw => ?_)
  have hw : zW G A s.heap [(h0, zO 10 [.ref q8, .ref q17, .ref q26, .ref q35, .ref q44, .ref q53, .ref q62, .null, .null, .null, .null, .int 0, .int 0]), (q8, zI K 240 (fun _ => 0)), (q17, zI K 240 (fun _ => 0)), (q26, zI K 240 (fun _ => 0)), (q35, zI K 240 (fun _ => 0)), (q44, zZ K 240 (fun _ => 0)), (q53, zI K 240 (fun _ => 0)), (q62, zI K 240 (fun _ => 0)), (q71, zI K 240 (fun _ => 0))] H locs := hw
  refine z_putF hx hb hts hown hin hK hw zZ10 0 rfl 7 (by decide) zc_275 rfl rfl rfl rfl (Nat.le_of_ble_eq_true rfl) zd_Tree_init_73 (fun H locs hw => ?_)
  refine lv_aload_n hx hb zd_Tree_init_76 rfl (lv_at hl 0 rfl) ?_
  refine lv_sipush (v := 240) hx hb zd_Tree_init_77 (by decide) ?_
  refine z_newI (N' := 240) hx hb (hts _ zc_238) hK hw hA (by decide) (by decide) (Nat.le_of_ble_eq_true rfl) (Nat.le_of_ble_eq_true rfl) (Nat.le_of_ble_eq_true rfl) zd_Tree_init_80 (fun q80 H hw => ?_)
  refine z_putF hx hb hts hown hin hK hw zZ10 0 rfl 8 (by decide) zc_276 rfl rfl rfl rfl (Nat.le_of_ble_eq_true rfl) zd_Tree_init_82 (fun H locs hw => ?_)
  have hw : zW G A s.heap [(h0, zO 10 [.ref q8, .ref q17, .ref q26, .ref q35, .ref q44, .ref q53, .ref q62, .ref q71, .ref q80, .null, .null, .int 0, .int 0]), (q8, zI K 240 (fun _ => 0)), (q17, zI K 240 (fun _ => 0)), (q26, zI K 240 (fun _ => 0)), (q35, zI K 240 (fun _ => 0)), (q44, zZ K 240 (fun _ => 0)), (q53, zI K 240 (fun _ => 0)), (q62, zI K 240 (fun _ => 0)), (q71, zI K 240 (fun _ => 0)), (q80, zI K 240 (fun _ => 0))] H locs := hw
  refine lv_aload_n hx hb zd_Tree_init_85 rfl (lv_at hl 0 rfl) ?_
  refine lv_sipush (v := 240) hx hb zd_Tree_init_86 (by decide) ?_
  refine z_newI (N' := 240) hx hb (hts _ zc_238) hK hw hA (by decide) (by decide) (Nat.le_of_ble_eq_true rfl) (Nat.le_of_ble_eq_true rfl) (Nat.le_of_ble_eq_true rfl) zd_Tree_init_89 (fun q89 H hw => ?_)
  refine z_putF hx hb hts hown hin hK hw zZ10 0 rfl 9 (by decide) zc_277 rfl rfl rfl rfl (Nat.le_of_ble_eq_true rfl) zd_Tree_init_91 (fun H locs hw => ?_)
  refine lv_aload_n hx hb zd_Tree_init_94 rfl (lv_at hl 0 rfl) ?_
  refine lv_bipush (v := 8) hx hb zd_Tree_init_95 (by decide) ?_
  refine z_newI (N' := 8) hx hb (hts _ zc_238) hK hw hA (by decide) (by decide) (Nat.le_of_ble_eq_true rfl) (Nat.le_of_ble_eq_true rfl) (Nat.le_of_ble_eq_true rfl) zd_Tree_init_97 (fun q97 H hw => ?_)
  have hw : zW G A s.heap [(h0, zO 10 [.ref q8, .ref q17, .ref q26, .ref q35, .ref q44, .ref q53, .ref q62, .ref q71, .ref q80, .ref q89, .null, .int 0, .int 0]), (q8, zI K 240 (fun _ => 0)), (q17, zI K 240 (fun _ => 0)), (q26, zI K 240 (fun _ => 0)), (q35, zI K 240 (fun _ => 0)), (q44, zZ K 240 (fun _ => 0)), (q53, zI K 240 (fun _ => 0)), (q62, zI K 240 (fun _ => 0)), (q71, zI K 240 (fun _ => 0)), (q80, zI K 240 (fun _ => 0)), (q89, zI K 240 (fun _ => 0)), (q97, zI K 8 (fun _ => 0))] H locs := hw
  refine z_putF hx hb hts hown hin hK hw zZ10 0 rfl 10 (by decide) zc_278 rfl rfl rfl rfl (Nat.le_of_ble_eq_true rfl) zd_Tree_init_99 (fun H locs hw => ?_)
  exact z_vret (u := (fun k => ([q8, q17, q26, q35, q44, q53, q62, q71, q80, q89, q97] : List Nat).getD k 0)) hx hb hr hlocks hw [0, 1, 2, 3, 4, 5, 6, 7, 8, 9, 10, 11] rfl (by decide) trivial (Nat.le_of_ble_eq_true rfl) (Nat.le_of_ble_eq_true rfl) zd_Tree_init_102
set_option maxHeartbeats 4000000 in
set_option maxRecDepth 100000 in
theorem c_ModelReader_init (l : Launch) (G : va_G) (K : Nat → ClassId) (h0 : Nat) (a1 : Nat) (a2 : Nat) (a3 : Nat) (a4 : Nat) (sz : Nat) : Met l zy_ModelReader_init (Cond.code zy_ModelReader_init prog_5_method_1_code 5 none :: zTB) { frames := 2, cells := 12, slots := 2421, locals := 32 } (va_Pc [.ref h0, .ref a1, .ref a2, .ref a3, .ref a4] (zPre G K [(h0, zO 4 [.null, .null, .null, .null, .null])] sz)) (va_Qv (fun _ : Nat → Nat => True) (fun u t => zPost G K (va_A [(h0, zO 4 [.null, .null, .null, .null, .null])] sz) [(h0, zO 4 [.ref a1, .ref a2, .ref a3, .ref a4, .ref (u 0)]), ((u 0), zO 10 [.ref (u 1), .ref (u 2), .ref (u 3), .ref (u 4), .ref (u 5), .ref (u 6), .ref (u 7), .ref (u 8), .ref (u 9), .ref (u 10), .ref (u 11), .int 0, .int 0]), ((u 1), zI K 240 (fun _ => 0)), ((u 2), zI K 240 (fun _ => 0)), ((u 3), zI K 240 (fun _ => 0)), ((u 4), zI K 240 (fun _ => 0)), ((u 5), zZ K 240 (fun _ => 0)), ((u 6), zI K 240 (fun _ => 0)), ((u 7), zI K 240 (fun _ => 0)), ((u 8), zI K 240 (fun _ => 0)), ((u 9), zI K 240 (fun _ => 0)), ((u 10), zI K 240 (fun _ => 0)), ((u 11), zI K 8 (fun _ => 0))] t) (va_A [(h0, zO 4 [.null, .null, .null, .null, .null])] sz)) 12 2421 (va_A [(h0, zO 4 [.null, .null, .null, .null, .null])] sz) := by
  refine zMet (y := zy_ModelReader_init) (av := [.ref h0, .ref a1, .ref a2, .ref a3, .ref a4]) (maxL := 5) (cc := prog_5_method_1_code) (ret := none) (W0 := [(h0, zO 4 [.null, .null, .null, .null, .null])]) (sz := sz) (G := G) (K := K) (wt := zTB) (mc := 12) (ms := 2421) (Qf := fun A => va_Qv (fun _ : Nat → Nat => True) (fun u t => zPost G K A [(h0, zO 4 [.ref a1, .ref a2, .ref a3, .ref a4, .ref (u 0)]), ((u 0), zO 10 [.ref (u 1), .ref (u 2), .ref (u 3), .ref (u 4), .ref (u 5), .ref (u 6), .ref (u 7), .ref (u 8), .ref (u 9), .ref (u 10), .ref (u 11), .int 0, .int 0]), ((u 1), zI K 240 (fun _ => 0)), ((u 2), zI K 240 (fun _ => 0)), ((u 3), zI K 240 (fun _ => 0)), ((u 4), zI K 240 (fun _ => 0)), ((u 5), zZ K 240 (fun _ => 0)), ((u 6), zI K 240 (fun _ => 0)), ((u 7), zI K 240 (fun _ => 0)), ((u 8), zI K 240 (fun _ => 0)), ((u 9), zI K 240 (fun _ => 0)), ((u 10), zI K 240 (fun _ => 0)), ((u 11), zI K 8 (fun _ => 0))] t) A) (by decide) (Nat.le_of_ble_eq_true rfl) ?_
  intro p e s m below meth c ls A hx hb hr hml hts hown hlocks hin hA hK H locs hw hsz hl
  clear hsz
  have hown : s.vm.findClass "LassoFinder$ModelReader" = some m.cls := hown
  have hl : lv_has ls 5 [(0, .ref h0), (1, .ref a1), (2, .ref a2), (3, .ref a3), (4, .ref a4)] := hl
  have hw : zW G A s.heap [(h0, zO 4 [.null, .null, .null, .null, .null])] H locs := hw
  refine lv_aload_n hx hb zd_ModelReader_init_0 rfl (lv_at hl 0 rfl) ?_
  refine z_objInit hx hb hts hown hml hl.1 zc_279 zc_236 zc_237 zd_ModelReader_init_1 (Nat.le_of_ble_eq_true rfl) (Nat.le_of_ble_eq_true rfl) ?_
  refine lv_aload_n hx hb zd_ModelReader_init_4 rfl (lv_at hl 0 rfl) ?_
  refine lv_aload_n hx hb zd_ModelReader_init_5 rfl (lv_at hl 1 rfl) ?_
  refine z_putF hx hb hts hown hin hK hw zZ4 0 rfl 0 (by decide) zc_280 rfl rfl rfl rfl (Nat.le_of_ble_eq_true rfl) zd_ModelReader_init_6 (fun H locs hw => ?_)
  refine lv_aload_n hx hb zd_ModelReader_init_9 rfl (lv_at hl 0 rfl) ?_
  refine lv_aload_n hx hb zd_ModelReader_init_10 rfl (lv_at hl 2 rfl) ?_
  refine z_putF hx hb hts hown hin hK hw zZ4 0 rfl 1 (by decide) zc_281 rfl rfl rfl rfl (Nat.le_of_ble_eq_true rfl) zd_ModelReader_init_11 (fun H locs hw => ?_)
  refine lv_aload_n hx hb zd_ModelReader_init_14 rfl (lv_at hl 0 rfl) ?_
  refine lv_aload_n hx hb zd_ModelReader_init_15 rfl (lv_at hl 3 rfl) ?_
  refine z_putF hx hb hts hown hin hK hw zZ4 0 rfl 2 (by decide) zc_282 rfl rfl rfl rfl (Nat.le_of_ble_eq_true rfl) zd_ModelReader_init_16 (fun H locs hw => ?_)
  have hw : zW G A s.heap [(h0, zO 4 [.ref a1, .ref a2, .ref a3, .null, .null])] H locs := hw
  refine lv_aload_n hx hb zd_ModelReader_init_19 rfl (lv_at hl 0 rfl) ?_
  refine lv_aload hx hb zd_ModelReader_init_20 (lv_at hl 4 rfl) ?_
  refine z_putF hx hb hts hown hin hK hw zZ4 0 rfl 3 (by decide) zc_283 rfl rfl rfl rfl (Nat.le_of_ble_eq_true rfl) zd_ModelReader_init_22 (fun H locs hw => ?_)
  refine lv_aload_n hx hb zd_ModelReader_init_25 rfl (lv_at hl 0 rfl) ?_
  refine z_new (fs := [.null, .null, .null, .null, .null, .null, .null, .null, .null, .null, .null, .int 0, .int 0]) hx hb hts hown hK hw hA zZ10 zc_284 zm_20 zm_21 zD10 (Nat.le_of_ble_eq_true rfl) (Nat.le_of_ble_eq_true rfl) zd_ModelReader_init_26 (fun q26 H hw => ?_)
  refine lv_dup hx hb zd_ModelReader_init_29 rfl ?_
  have hw : zW G A s.heap [(h0, zO 4 [.ref a1, .ref a2, .ref a3, .ref a4, .null]), (q26, zO 10 [.null, .null, .null, .null, .null, .null, .null, .null, .null, .null, .null, .int 0, .int 0])] H locs := hw
  refine z_callv (w1 := fun (u30 : Nat → Nat) => [(q26, zO 10 [.ref (u30 0), .ref (u30 1), .ref (u30 2), .ref (u30 3), .ref (u30 4), .ref (u30 5), .ref (u30 6), .ref (u30 7), .ref (u30 8), .ref (u30 9), .ref (u30 10), .int 0, .int 0]), ((u30 0), zI K 240 (fun _ => 0)), ((u30 1), zI K 240 (fun _ => 0)), ((u30 2), zI K 240 (fun _ => 0)), ((u30 3), zI K 240 (fun _ => 0)), ((u30 4), zZ K 240 (fun _ => 0)), ((u30 5), zI K 240 (fun _ => 0)), ((u30 6), zI K 240 (fun _ => 0)), ((u30 7), zI K 240 (fun _ => 0)), ((u30 8), zI K 240 (fun _ => 0)), ((u30 9), zI K 240 (fun _ => 0)), ((u30 10), zI K 8 (fun _ => 0))]) (wr := [(h0, zO 4 [.ref a1, .ref a2, .ref a3, .ref a4, .null])]) (z_runI (wc := [(q26, zO 10 [.null, .null, .null, .null, .null, .null, .null, .null, .null, .null, .null, .int 0, .int 0])]) (As := []) (rest := [.ref q26, .ref h0]) ⟨hx, hb, hml, hown, hts⟩ (c_Tree_init l G K q26 H.size ) zf_Tree_init zc_285 ⟨Nat.le_of_ble_eq_true rfl, Nat.le_of_ble_eq_true rfl⟩ hK hw [1] rfl (by decide) rfl hl.1 rfl (Nat.le_of_ble_eq_true rfl) zd_ModelReader_init_30 ⟨Nat.le_of_ble_eq_true rfl, Nat.le_of_ble_eq_true rfl⟩) hw hA [1] [0] rfl rfl (by decide) (by decide) (fun u30 H locs hu hw => ?_)
  have hw : zW G A s.heap [(h0, zO 4 [.ref a1, .ref a2, .ref a3, .ref a4, .null]), (q26, zO 10 [.ref (u30 0), .ref (u30 1), .ref (u30 2), .ref (u30 3), .ref (u30 4), .ref (u30 5), .ref (u30 6), .ref (u30 7), .ref (u30 8), .ref (u30 9), .ref (u30 10), .int 0, .int 0]), ((u30 0), zI K 240 (fun _ => 0)), ((u30 1), zI K 240 (fun _ => 0)), ((u30 2), zI K 240 (fun _ => 0)), ((u30 3), zI K 240 (fun _ => 0)), ((u30 4), zZ K 240 (fun _ => 0)), ((u30 5), zI K 240 (fun _ => 0)), ((u30 6), zI K 240 (fun _ => 0)), ((u30 7), zI K 240 (fun _ => 0)), ((u30 8), zI K 240 (fun _ => 0)), ((u30 9), zI K 240 (fun _ => 0)), ((u30 10), zI K 8 (fun _ => 0))] H locs := hw
  refine z_putF hx hb hts hown hin hK hw zZ4 0 rfl 4 (by decide) zc_286 rfl rfl rfl rfl (Nat.le_of_ble_eq_true rfl) zd_ModelReader_init_33 (fun H locs hw => ?_)
  exact z_vret (u := (fun k => ([q26, (u30 0), (u30 1), (u30 2), (u30 3), (u30 4), (u30 5), (u30 6), (u30 7), (u30 8), (u30 9), (u30 10)] : List Nat).getD k 0)) hx hb hr hlocks hw [0, 1, 2, 3, 4, 5, 6, 7, 8, 9, 10, 11, 12] rfl (by decide) trivial (Nat.le_of_ble_eq_true rfl) (Nat.le_of_ble_eq_true rfl) zd_ModelReader_init_36
set_option maxHeartbeats 4000000 in
set_option maxRecDepth 100000 in
theorem c_Situation_init (l : Launch) (G : va_G) (K : Nat → ClassId) (h0 : Nat) (a1 : Nat) (a2 : Nat) (a3 : Nat) (sz : Nat) : Met l zy_Situation_init (Cond.code zy_Situation_init prog_8_method_1_code 4 none :: zTB) { frames := 1, cells := 3, slots := 36, locals := 12 } (va_Pc [.ref h0, .ref a1, .ref a2, .ref a3] (zPre G K [(h0, zO 7 [.null, .null, .null, .null, .null, .null, .int 0, .long 0])] sz)) (va_Qv (fun _ : Nat → Nat => True) (fun u t => zPost G K (va_A [(h0, zO 7 [.null, .null, .null, .null, .null, .null, .int 0, .long 0])] sz) [(h0, zO 7 [.ref a1, .ref a2, .ref a3, .ref (u 0), .ref (u 1), .ref (u 2), .int (-1), .long 0]), ((u 0), zI K 8 (fun _ => 0)), ((u 1), zI K 24 (fun _ => 0)), ((u 2), zI K 4 (fun _ => 0))] t) (va_A [(h0, zO 7 [.null, .null, .null, .null, .null, .null, .int 0, .long 0])] sz)) 3 36 (va_A [(h0, zO 7 [.null, .null, .null, .null, .null, .null, .int 0, .long 0])] sz) := by
  refine zMet (y := zy_Situation_init) (av := [.ref h0, .ref a1, .ref a2, .ref a3]) (maxL := 4) (cc := prog_8_method_1_code) (ret := none) (W0 := [(h0, zO 7 [.null, .null, .null, .null, .null, .null, .int 0, .long 0])]) (sz := sz) (G := G) (K := K) (wt := zTB) (mc := 3) (ms := 36) (Qf := fun A => va_Qv (fun _ : Nat → Nat => True) (fun u t => zPost G K A [(h0, zO 7 [.ref a1, .ref a2, .ref a3, .ref (u 0), .ref (u 1), .ref (u 2), .int (-1), .long 0]), ((u 0), zI K 8 (fun _ => 0)), ((u 1), zI K 24 (fun _ => 0)), ((u 2), zI K 4 (fun _ => 0))] t) A) (by decide) (Nat.le_of_ble_eq_true rfl) ?_
  intro p e s m below meth c ls A hx hb hr hml hts hown hlocks hin hA hK H locs hw hsz hl
  clear hsz
  have hown : s.vm.findClass "LassoFinder$Situation" = some m.cls := hown
  have hl : lv_has ls 4 [(0, .ref h0), (1, .ref a1), (2, .ref a2), (3, .ref a3)] := hl
  have hw : zW G A s.heap [(h0, zO 7 [.null, .null, .null, .null, .null, .null, .int 0, .long 0])] H locs := hw
  refine lv_aload_n hx hb zd_Situation_init_0 rfl (lv_at hl 0 rfl) ?_
  refine z_objInit hx hb hts hown hml hl.1 zc_287 zc_236 zc_237 zd_Situation_init_1 (Nat.le_of_ble_eq_true rfl) (Nat.le_of_ble_eq_true rfl) ?_
  refine lv_aload_n hx hb zd_Situation_init_4 rfl (lv_at hl 0 rfl) ?_
  refine lv_aload_n hx hb zd_Situation_init_5 rfl (lv_at hl 1 rfl) ?_
  refine z_putF hx hb hts hown hin hK hw zZ7 0 rfl 0 (by decide) zc_288 rfl rfl rfl rfl (Nat.le_of_ble_eq_true rfl) zd_Situation_init_6 (fun H locs hw => ?_)
  refine lv_aload_n hx hb zd_Situation_init_9 rfl (lv_at hl 0 rfl) ?_
  refine lv_aload_n hx hb zd_Situation_init_10 rfl (lv_at hl 2 rfl) ?_
  refine z_putF hx hb hts hown hin hK hw zZ7 0 rfl 1 (by decide) zc_289 rfl rfl rfl rfl (Nat.le_of_ble_eq_true rfl) zd_Situation_init_11 (fun H locs hw => ?_)
  refine lv_aload_n hx hb zd_Situation_init_14 rfl (lv_at hl 0 rfl) ?_
  refine lv_aload_n hx hb zd_Situation_init_15 rfl (lv_at hl 3 rfl) ?_
  refine z_putF hx hb hts hown hin hK hw zZ7 0 rfl 2 (by decide) zc_290 rfl rfl rfl rfl (Nat.le_of_ble_eq_true rfl) zd_Situation_init_16 (fun H locs hw => ?_)
  have hw : zW G A s.heap [(h0, zO 7 [.ref a1, .ref a2, .ref a3, .null, .null, .null, .int 0, .long 0])] H locs := hw
  refine lv_aload_n hx hb zd_Situation_init_19 rfl (lv_at hl 0 rfl) ?_
  refine lv_bipush (v := 8) hx hb zd_Situation_init_20 (by decide) ?_
  refine z_newI (N' := 8) hx hb (hts _ zc_238) hK hw hA (by decide) (by decide) (Nat.le_of_ble_eq_true rfl) (Nat.le_of_ble_eq_true rfl) (Nat.le_of_ble_eq_true rfl) zd_Situation_init_22 (fun q22 H hw => ?_)
  refine z_putF hx hb hts hown hin hK hw zZ7 0 rfl 3 (by decide) zc_291 rfl rfl rfl rfl (Nat.le_of_ble_eq_true rfl) zd_Situation_init_24 (fun H locs hw => ?_)
  refine lv_aload_n hx hb zd_Situation_init_27 rfl (lv_at hl 0 rfl) ?_
  refine lv_bipush (v := 24) hx hb zd_Situation_init_28 (by decide) ?_
  refine z_newI (N' := 24) hx hb (hts _ zc_238) hK hw hA (by decide) (by decide) (Nat.le_of_ble_eq_true rfl) (Nat.le_of_ble_eq_true rfl) (Nat.le_of_ble_eq_true rfl) zd_Situation_init_30 (fun q30 H hw => ?_)
  have hw : zW G A s.heap [(h0, zO 7 [.ref a1, .ref a2, .ref a3, .ref q22, .null, .null, .int 0, .long 0]), (q22, zI K 8 (fun _ => 0)), (q30, zI K 24 (fun _ => 0))] H locs := hw
  refine z_putF hx hb hts hown hin hK hw zZ7 0 rfl 4 (by decide) zc_292 rfl rfl rfl rfl (Nat.le_of_ble_eq_true rfl) zd_Situation_init_32 (fun H locs hw => ?_)
  refine lv_aload_n hx hb zd_Situation_init_35 rfl (lv_at hl 0 rfl) ?_
  refine lv_iconst (v := 4) hx hb zd_Situation_init_36 (by decide) ?_
  refine z_newI (N' := 4) hx hb (hts _ zc_238) hK hw hA (by decide) (by decide) (Nat.le_of_ble_eq_true rfl) (Nat.le_of_ble_eq_true rfl) (Nat.le_of_ble_eq_true rfl) zd_Situation_init_37 (fun q37 H hw => ?_)
  refine z_putF hx hb hts hown hin hK hw zZ7 0 rfl 5 (by decide) zc_293 rfl rfl rfl rfl (Nat.le_of_ble_eq_true rfl) zd_Situation_init_39 (fun H locs hw => ?_)
  have hw : zW G A s.heap [(h0, zO 7 [.ref a1, .ref a2, .ref a3, .ref q22, .ref q30, .ref q37, .int 0, .long 0]), (q22, zI K 8 (fun _ => 0)), (q30, zI K 24 (fun _ => 0)), (q37, zI K 4 (fun _ => 0))] H locs := hw
  refine lv_aload_n hx hb zd_Situation_init_42 rfl (lv_at hl 0 rfl) ?_
  refine lv_iconst (v := (-1)) hx hb zd_Situation_init_43 (by decide) ?_
  refine z_put hx hb hts hown hK hw zZ7 0 rfl 6 (by decide) zc_294 rfl rfl rfl (Nat.le_of_ble_eq_true rfl) zd_Situation_init_44 (fun H locs hw => ?_)
  exact z_vret (u := (fun k => ([q22, q30, q37] : List Nat).getD k 0)) hx hb hr hlocks hw [0, 1, 2, 3] rfl (by decide) trivial (Nat.le_of_ble_eq_true rfl) (Nat.le_of_ble_eq_true rfl) zd_Situation_init_47
set_option maxHeartbeats 4000000 in
set_option maxRecDepth 100000 in
theorem c_Graph_init (l : Launch) (G : va_G) (K : Nat → ClassId) (h0 : Nat) (a1 : Nat) (sz : Nat) : Met l zy_Graph_init (Cond.code zy_Graph_init prog_3_method_1_code 2 none :: zTB) { frames := 1, cells := 8, slots := 2290, locals := 12 } (va_Pc [.ref h0, .ref a1] (zPre G K [(h0, zO 2 [.null, .null, .null, .null, .null, .null, .null, .null, .null, .int 0, .int 0])] sz)) (va_Qv (fun _ : Nat → Nat => True) (fun u t => zPost G K (va_A [(h0, zO 2 [.null, .null, .null, .null, .null, .null, .null, .null, .null, .int 0, .int 0])] sz) [(h0, zO 2 [.ref a1, .ref (u 0), .ref (u 1), .ref (u 2), .ref (u 3), .ref (u 4), .ref (u 5), .ref (u 6), .ref (u 7), .int 0, .int 0]), ((u 0), zJ K 96 (fun _ => 0)), ((u 1), zI K 97 (fun _ => 0)), ((u 2), zI K 400 (fun _ => 0)), ((u 3), zI K 400 (fun _ => 0)), ((u 4), zI K 400 (fun _ => 0)), ((u 5), zI K 400 (fun _ => 0)), ((u 6), zI K 97 (fun _ => 0)), ((u 7), zI K 400 (fun _ => 0))] t) (va_A [(h0, zO 2 [.null, .null, .null, .null, .null, .null, .null, .null, .null, .int 0, .int 0])] sz)) 8 2290 (va_A [(h0, zO 2 [.null, .null, .null, .null, .null, .null, .null, .null, .null, .int 0, .int 0])] sz) := by
  refine zMet (y := zy_Graph_init) (av := [.ref h0, .ref a1]) (maxL := 2) (cc := prog_3_method_1_code) (ret := none) (W0 := [(h0, zO 2 [.null, .null, .null, .null, .null, .null, .null, .null, .null, .int 0, .int 0])]) (sz := sz) (G := G) (K := K) (wt := zTB) (mc := 8) (ms := 2290) (Qf := fun A => va_Qv (fun _ : Nat → Nat => True) (fun u t => zPost G K A [(h0, zO 2 [.ref a1, .ref (u 0), .ref (u 1), .ref (u 2), .ref (u 3), .ref (u 4), .ref (u 5), .ref (u 6), .ref (u 7), .int 0, .int 0]), ((u 0), zJ K 96 (fun _ => 0)), ((u 1), zI K 97 (fun _ => 0)), ((u 2), zI K 400 (fun _ => 0)), ((u 3), zI K 400 (fun _ => 0)), ((u 4), zI K 400 (fun _ => 0)), ((u 5), zI K 400 (fun _ => 0)), ((u 6), zI K 97 (fun _ => 0)), ((u 7), zI K 400 (fun _ => 0))] t) A) (by decide) (Nat.le_of_ble_eq_true rfl) ?_
  intro p e s m below meth c ls A hx hb hr hml hts hown hlocks hin hA hK H locs hw hsz hl
  clear hsz
  have hown : s.vm.findClass "LassoFinder$Graph" = some m.cls := hown
  have hl : lv_has ls 2 [(0, .ref h0), (1, .ref a1)] := hl
  have hw : zW G A s.heap [(h0, zO 2 [.null, .null, .null, .null, .null, .null, .null, .null, .null, .int 0, .int 0])] H locs := hw
  refine lv_aload_n hx hb zd_Graph_init_0 rfl (lv_at hl 0 rfl) ?_
  refine z_objInit hx hb hts hown hml hl.1 zc_295 zc_236 zc_237 zd_Graph_init_1 (Nat.le_of_ble_eq_true rfl) (Nat.le_of_ble_eq_true rfl) ?_
  refine lv_aload_n hx hb zd_Graph_init_4 rfl (lv_at hl 0 rfl) ?_
  refine lv_aload_n hx hb zd_Graph_init_5 rfl (lv_at hl 1 rfl) ?_
  refine z_putF hx hb hts hown hin hK hw zZ2 0 rfl 0 (by decide) zc_296 rfl rfl rfl rfl (Nat.le_of_ble_eq_true rfl) zd_Graph_init_6 (fun H locs hw => ?_)
  refine lv_aload_n hx hb zd_Graph_init_9 rfl (lv_at hl 0 rfl) ?_
  refine lv_bipush (v := 96) hx hb zd_Graph_init_10 (by decide) ?_
  refine z_newJ (N' := 96) hx hb (hts _ zc_239) hK hw hA (by decide) (by decide) (Nat.le_of_ble_eq_true rfl) (Nat.le_of_ble_eq_true rfl) (Nat.le_of_ble_eq_true rfl) zd_Graph_init_12 (fun q12 H hw => ?_)
  refine z_putF hx hb hts hown hin hK hw zZ2 0 rfl 1 (by decide) zc_297 rfl rfl rfl rfl (Nat.le_of_ble_eq_true rfl) zd_Graph_init_14 (fun H locs hw => ?_)
  have hw : zW G A s.heap [(h0, zO 2 [.ref a1, .ref q12, .null, .null, .null, .null, .null, .null, .null, .int 0, .int 0]), (q12, zJ K 96 (fun _ => 0))] H locs := hw
  refine lv_aload_n hx hb zd_Graph_init_17 rfl (lv_at hl 0 rfl) ?_
  refine lv_bipush (v := 97) hx hb zd_Graph_init_18 (by decide) ?_
  refine z_newI (N' := 97) hx hb (hts _ zc_238) hK hw hA (by decide) (by decide) (Nat.le_of_ble_eq_true rfl) (Nat.le_of_ble_eq_true rfl) (Nat.le_of_ble_eq_true rfl) zd_Graph_init_20 (fun q20 H hw => ?_)
  refine z_putF hx hb hts hown hin hK hw zZ2 0 rfl 2 (by decide) zc_298 rfl rfl rfl rfl (Nat.le_of_ble_eq_true rfl) zd_Graph_init_22 (fun H locs hw => ?_)
  refine lv_aload_n hx hb zd_Graph_init_25 rfl (lv_at hl 0 rfl) ?_
  refine lv_sipush (v := 400) hx hb zd_Graph_init_26 (by decide) ?_
  refine z_newI (N' := 400) hx hb (hts _ zc_238) hK hw hA (by decide) (by decide) (Nat.le_of_ble_eq_true rfl) (Nat.le_of_ble_eq_true rfl) (Nat.le_of_ble_eq_true rfl) zd_Graph_init_29 (fun q29 H hw => ?_)
  have hw : zW G A s.heap [(h0, zO 2 [.ref a1, .ref q12, .ref q20, .null, .null, .null, .null, .null, .null, .int 0, .int 0]), (q12, zJ K 96 (fun _ => 0)), (q20, zI K 97 (fun _ => 0)), (q29, zI K 400 (fun _ => 0))] H locs := hw
  refine z_putF hx hb hts hown hin hK hw zZ2 0 rfl 3 (by decide) zc_299 rfl rfl rfl rfl (Nat.le_of_ble_eq_true rfl) zd_Graph_init_31 (fun H locs hw => ?_)
  refine lv_aload_n hx hb zd_Graph_init_34 rfl (lv_at hl 0 rfl) ?_
  refine lv_sipush (v := 400) hx hb zd_Graph_init_35 (by decide) ?_
  refine z_newI (N' := 400) hx hb (hts _ zc_238) hK hw hA (by decide) (by decide) (Nat.le_of_ble_eq_true rfl) (Nat.le_of_ble_eq_true rfl) (Nat.le_of_ble_eq_true rfl) zd_Graph_init_38 (fun q38 H hw => ?_)
  refine z_putF hx hb hts hown hin hK hw zZ2 0 rfl 4 (by decide) zc_300 rfl rfl rfl rfl (Nat.le_of_ble_eq_true rfl) zd_Graph_init_40 (fun H locs hw => ?_)
  have hw : zW G A s.heap [(h0, zO 2 [.ref a1, .ref q12, .ref q20, .ref q29, .ref q38, .null, .null, .null, .null, .int 0, .int 0]), (q12, zJ K 96 (fun _ => 0)), (q20, zI K 97 (fun _ => 0)), (q29, zI K 400 (fun _ => 0)), (q38, zI K 400 (fun _ => 0))] H locs := hw
  refine lv_aload_n hx hb zd_Graph_init_43 rfl (lv_at hl 0 rfl) ?_
  refine lv_sipush (v := 400) hx hb zd_Graph_init_44 (by decide) ?_
  refine z_newI (N' := 400) hx hb (hts _ zc_238) hK hw hA (by decide) (by decide) (Nat.le_of_ble_eq_true rfl) (Nat.le_of_ble_eq_true rfl) (Nat.le_of_ble_eq_true rfl) zd_Graph_init_47 (fun q47 H hw => ?_)
  refine z_putF hx hb hts hown hin hK hw zZ2 0 rfl 5 (by decide) zc_301 rfl rfl rfl rfl (Nat.le_of_ble_eq_true rfl) zd_Graph_init_49 (fun H locs hw => ?_)
  refine lv_aload_n hx hb zd_Graph_init_52 rfl (lv_at hl 0 rfl) ?_
  refine lv_sipush (v := 400) hx hb zd_Graph_init_53 (by decide) ?_
  refine z_newI (N' := 400) hx hb (hts _ zc_238) hK hw hA (by decide) (by decide) (Nat.le_of_ble_eq_true rfl) (Nat.le_of_ble_eq_true rfl) (Nat.le_of_ble_eq_true rfl) zd_Graph_init_56 (fun q56 H hw => ?_)
  have hw : zW G A s.heap [(h0, zO 2 [.ref a1, .ref q12, .ref q20, .ref q29, .ref q38, .ref q47, .null, .null, .null, .int 0, .int 0]), (q12, zJ K 96 (fun _ => 0)), (q20, zI K 97 (fun _ => 0)), (q29, zI K 400 (fun _ => 0)), (q38, zI K 400 (fun _ => 0)), (q47, zI K 400 (fun _ => 0)), (q56, zI K 400 (fun _ => 0))] H locs := hw
  refine z_putF hx hb hts hown hin hK hw zZ2 0 rfl 6 (by decide) zc_302 rfl rfl rfl rfl (Nat.le_of_ble_eq_true rfl) zd_Graph_init_58 (fun H locs hw => ?_)
  refine lv_aload_n hx hb zd_Graph_init_61 rfl (lv_at hl 0 rfl) ?_
  refine lv_bipush (v := 97) hx hb zd_Graph_init_62 (by decide) ?_
  refine z_newI (N' := 97) hx hb (hts _ zc_238) hK hw hA (by decide) (by decide) (Nat.le_of_ble_eq_true rfl) (Nat.le_of_ble_eq_true rfl) (Nat.le_of_ble_eq_true rfl) zd_Graph_init_64 (fun q64 H hw => ?_)
  refine z_putF hx hb hts hown hin hK hw zZ2 0 rfl 7 (by decide) zc_303 rfl rfl rfl rfl (Nat.le_of_ble_eq_true rfl) zd_Graph_init_66 (fun H locs hw => ?_)
  have hw : zW G A s.heap [(h0, zO 2 [.ref a1, .ref q12, .ref q20, .ref q29, .ref q38, .ref q47, .ref q56, .ref q64, .null, .int 0, .int 0]), (q12, zJ K 96 (fun _ => 0)), (q20, zI K 97 (fun _ => 0)), (q29, zI K 400 (fun _ => 0)), (q38, zI K 400 (fun _ => 0)), (q47, zI K 400 (fun _ => 0)), (q56, zI K 400 (fun _ => 0)), (q64, zI K 97 (fun _ => 0))] H locs := hw
  refine lv_aload_n hx hb zd_Graph_init_69 rfl (lv_at hl 0 rfl) ?_
  refine lv_sipush (v := 400) hx hb zd_Graph_init_70 (by decide) ?_
  refine z_newI (N' := 400) hx hb (hts _ zc_238) hK hw hA (by decide) (by decide) (Nat.le_of_ble_eq_true rfl) (Nat.le_of_ble_eq_true rfl) (Nat.le_of_ble_eq_true rfl) zd_Graph_init_73 (fun q73 H hw => ?_)
  refine z_putF hx hb hts hown hin hK hw zZ2 0 rfl 8 (by decide) zc_304 rfl rfl rfl rfl (Nat.le_of_ble_eq_true rfl) zd_Graph_init_75 (fun H locs hw => ?_)
  exact z_vret (u := (fun k => ([q12, q20, q29, q38, q47, q56, q64, q73] : List Nat).getD k 0)) hx hb hr hlocks hw [0, 1, 2, 3, 4, 5, 6, 7, 8] rfl (by decide) trivial (Nat.le_of_ble_eq_true rfl) (Nat.le_of_ble_eq_true rfl) zd_Graph_init_78
set_option maxHeartbeats 4000000 in
set_option maxRecDepth 100000 in
theorem c_Formula_init (l : Launch) (G : va_G) (K : Nat → ClassId) (h0 : Nat) (a1 : Nat) (a2 : Nat) (a3 : Nat) (sz : Nat) : Met l zy_Formula_init (Cond.code zy_Formula_init prog_2_method_1_code 4 none :: zTB) { frames := 2, cells := 8, slots := 1246, locals := 34 } (va_Pc [.ref h0, .ref a1, .ref a2, .ref a3] (zPre G K [(h0, zO 1 [.null, .null, .null, .null, .null, .null, .null, .int 0, .int 0, .int 0, .int 0])] sz)) (va_Qv (fun _ : Nat → Nat => True) (fun u t => zPost G K (va_A [(h0, zO 1 [.null, .null, .null, .null, .null, .null, .null, .int 0, .int 0, .int 0, .int 0])] sz) [(h0, zO 1 [.ref a1, .ref a3, .ref (u 0), .ref (u 4), .ref (u 5), .ref (u 6), .ref (u 7), .int 0, .int 0, .int 0, .int 0]), ((u 0), zO 8 [.ref a1, .ref a2, .ref (u 1), .int 0, .ref (u 2), .int 0, .ref (u 3), .int 0, .int 0, .int 0]), ((u 1), zI K 480 (fun _ => 0)), ((u 2), zI K 20 (fun _ => 0)), ((u 3), zI K 13 (fun _ => 0)), ((u 4), zI K 240 (fun _ => 0)), ((u 5), zI K 240 (fun _ => 0)), ((u 6), zI K 240 (fun _ => 0)), ((u 7), zI K 3 (fun _ => 0))] t) (va_A [(h0, zO 1 [.null, .null, .null, .null, .null, .null, .null, .int 0, .int 0, .int 0, .int 0])] sz)) 8 1246 (va_A [(h0, zO 1 [.null, .null, .null, .null, .null, .null, .null, .int 0, .int 0, .int 0, .int 0])] sz) := by
  refine zMet (y := zy_Formula_init) (av := [.ref h0, .ref a1, .ref a2, .ref a3]) (maxL := 4) (cc := prog_2_method_1_code) (ret := none) (W0 := [(h0, zO 1 [.null, .null, .null, .null, .null, .null, .null, .int 0, .int 0, .int 0, .int 0])]) (sz := sz) (G := G) (K := K) (wt := zTB) (mc := 8) (ms := 1246) (Qf := fun A => va_Qv (fun _ : Nat → Nat => True) (fun u t => zPost G K A [(h0, zO 1 [.ref a1, .ref a3, .ref (u 0), .ref (u 4), .ref (u 5), .ref (u 6), .ref (u 7), .int 0, .int 0, .int 0, .int 0]), ((u 0), zO 8 [.ref a1, .ref a2, .ref (u 1), .int 0, .ref (u 2), .int 0, .ref (u 3), .int 0, .int 0, .int 0]), ((u 1), zI K 480 (fun _ => 0)), ((u 2), zI K 20 (fun _ => 0)), ((u 3), zI K 13 (fun _ => 0)), ((u 4), zI K 240 (fun _ => 0)), ((u 5), zI K 240 (fun _ => 0)), ((u 6), zI K 240 (fun _ => 0)), ((u 7), zI K 3 (fun _ => 0))] t) A) (by decide) (Nat.le_of_ble_eq_true rfl) ?_
  intro p e s m below meth c ls A hx hb hr hml hts hown hlocks hin hA hK H locs hw hsz hl
  clear hsz
  have hown : s.vm.findClass "LassoFinder$Formula" = some m.cls := hown
  have hl : lv_has ls 4 [(0, .ref h0), (1, .ref a1), (2, .ref a2), (3, .ref a3)] := hl
  have hw : zW G A s.heap [(h0, zO 1 [.null, .null, .null, .null, .null, .null, .null, .int 0, .int 0, .int 0, .int 0])] H locs := hw
  refine lv_aload_n hx hb zd_Formula_init_0 rfl (lv_at hl 0 rfl) ?_
  refine z_objInit hx hb hts hown hml hl.1 zc_305 zc_236 zc_237 zd_Formula_init_1 (Nat.le_of_ble_eq_true rfl) (Nat.le_of_ble_eq_true rfl) ?_
  refine lv_aload_n hx hb zd_Formula_init_4 rfl (lv_at hl 0 rfl) ?_
  refine lv_aload_n hx hb zd_Formula_init_5 rfl (lv_at hl 1 rfl) ?_
  refine z_putF hx hb hts hown hin hK hw zZ1 0 rfl 0 (by decide) zc_306 rfl rfl rfl rfl (Nat.le_of_ble_eq_true rfl) zd_Formula_init_6 (fun H locs hw => ?_)
  refine lv_aload_n hx hb zd_Formula_init_9 rfl (lv_at hl 0 rfl) ?_
  refine lv_aload_n hx hb zd_Formula_init_10 rfl (lv_at hl 3 rfl) ?_
  refine z_putF hx hb hts hown hin hK hw zZ1 0 rfl 1 (by decide) zc_307 rfl rfl rfl rfl (Nat.le_of_ble_eq_true rfl) zd_Formula_init_11 (fun H locs hw => ?_)
  refine lv_aload_n hx hb zd_Formula_init_14 rfl (lv_at hl 0 rfl) ?_
  refine z_new (fs := [.null, .null, .null, .int 0, .null, .int 0, .null, .int 0, .int 0, .int 0]) hx hb hts hown hK hw hA zZ8 zc_308 zm_16 zm_17 zD8 (Nat.le_of_ble_eq_true rfl) (Nat.le_of_ble_eq_true rfl) zd_Formula_init_15 (fun q15 H hw => ?_)
  have hw : zW G A s.heap [(h0, zO 1 [.ref a1, .ref a3, .null, .null, .null, .null, .null, .int 0, .int 0, .int 0, .int 0]), (q15, zO 8 [.null, .null, .null, .int 0, .null, .int 0, .null, .int 0, .int 0, .int 0])] H locs := hw
  refine lv_dup hx hb zd_Formula_init_18 rfl ?_
  refine lv_aload_n hx hb zd_Formula_init_19 rfl (lv_at hl 1 rfl) ?_
  refine lv_aload_n hx hb zd_Formula_init_20 rfl (lv_at hl 2 rfl) ?_
  refine z_callv (w1 := fun (u21 : Nat → Nat) => [(q15, zO 8 [.ref a1, .ref a2, .ref (u21 0), .int 0, .ref (u21 1), .int 0, .ref (u21 2), .int 0, .int 0, .int 0]), ((u21 0), zI K 480 (fun _ => 0)), ((u21 1), zI K 20 (fun _ => 0)), ((u21 2), zI K 13 (fun _ => 0))]) (wr := [(h0, zO 1 [.ref a1, .ref a3, .null, .null, .null, .null, .null, .int 0, .int 0, .int 0, .int 0])]) (z_runI (wc := [(q15, zO 8 [.null, .null, .null, .int 0, .null, .int 0, .null, .int 0, .int 0, .int 0])]) (As := [.ref a1, .ref a2]) (rest := [.ref q15, .ref h0]) ⟨hx, hb, hml, hown, hts⟩ (c_Terms_init l G K q15 a1 a2 H.size ) zf_Terms_init zc_309 ⟨Nat.le_of_ble_eq_true rfl, Nat.le_of_ble_eq_true rfl⟩ hK hw [1] rfl (by decide) rfl hl.1 rfl (Nat.le_of_ble_eq_true rfl) zd_Formula_init_21 ⟨Nat.le_of_ble_eq_true rfl, Nat.le_of_ble_eq_true rfl⟩) hw hA [1] [0] rfl rfl (by decide) (by decide) (fun u21 H locs hu hw => ?_)
  have hw : zW G A s.heap [(h0, zO 1 [.ref a1, .ref a3, .null, .null, .null, .null, .null, .int 0, .int 0, .int 0, .int 0]), (q15, zO 8 [.ref a1, .ref a2, .ref (u21 0), .int 0, .ref (u21 1), .int 0, .ref (u21 2), .int 0, .int 0, .int 0]), ((u21 0), zI K 480 (fun _ => 0)), ((u21 1), zI K 20 (fun _ => 0)), ((u21 2), zI K 13 (fun _ => 0))] H locs := hw
  refine z_putF hx hb hts hown hin hK hw zZ1 0 rfl 2 (by decide) zc_310 rfl rfl rfl rfl (Nat.le_of_ble_eq_true rfl) zd_Formula_init_24 (fun H locs hw => ?_)
  refine lv_aload_n hx hb zd_Formula_init_27 rfl (lv_at hl 0 rfl) ?_
  refine lv_sipush (v := 240) hx hb zd_Formula_init_28 (by decide) ?_
  refine z_newI (N' := 240) hx hb (hts _ zc_238) hK hw hA (by decide) (by decide) (Nat.le_of_ble_eq_true rfl) (Nat.le_of_ble_eq_true rfl) (Nat.le_of_ble_eq_true rfl) zd_Formula_init_31 (fun q31 H hw => ?_)
  refine z_putF hx hb hts hown hin hK hw zZ1 0 rfl 3 (by decide) zc_311 rfl rfl rfl rfl (Nat.le_of_ble_eq_true rfl) zd_Formula_init_33 (fun H locs hw => ?_)
  have hw : zW G A s.heap [(h0, zO 1 [.ref a1, .ref a3, .ref q15, .ref q31, .null, .null, .null, .int 0, .int 0, .int 0, .int 0]), (q15, zO 8 [.ref a1, .ref a2, .ref (u21 0), .int 0, .ref (u21 1), .int 0, .ref (u21 2), .int 0, .int 0, .int 0]), ((u21 0), zI K 480 (fun _ => 0)), ((u21 1), zI K 20 (fun _ => 0)), ((u21 2), zI K 13 (fun _ => 0)), (q31, zI K 240 (fun _ => 0))] H locs := hw
  refine lv_aload_n hx hb zd_Formula_init_36 rfl (lv_at hl 0 rfl) ?_
  refine lv_sipush (v := 240) hx hb zd_Formula_init_37 (by decide) ?_
  refine z_newI (N' := 240) hx hb (hts _ zc_238) hK hw hA (by decide) (by decide) (Nat.le_of_ble_eq_true rfl) (Nat.le_of_ble_eq_true rfl) (Nat.le_of_ble_eq_true rfl) zd_Formula_init_40 (fun q40 H hw => ?_)
  refine z_putF hx hb hts hown hin hK hw zZ1 0 rfl 4 (by decide) zc_312 rfl rfl rfl rfl (Nat.le_of_ble_eq_true rfl) zd_Formula_init_42 (fun H locs hw => ?_)
  refine lv_aload_n hx hb zd_Formula_init_45 rfl (lv_at hl 0 rfl) ?_
  refine lv_sipush (v := 240) hx hb zd_Formula_init_46 (by decide) ?_
  refine z_newI (N' := 240) hx hb (hts _ zc_238) hK hw hA (by decide) (by decide) (Nat.le_of_ble_eq_true rfl) (Nat.le_of_ble_eq_true rfl) (Nat.le_of_ble_eq_true rfl) zd_Formula_init_49 (fun q49 H hw => ?_)
  have hw : zW G A s.heap [(h0, zO 1 [.ref a1, .ref a3, .ref q15, .ref q31, .ref q40, .null, .null, .int 0, .int 0, .int 0, .int 0]), (q15, zO 8 [.ref a1, .ref a2, .ref (u21 0), .int 0, .ref (u21 1), .int 0, .ref (u21 2), .int 0, .int 0, .int 0]), ((u21 0), zI K 480 (fun _ => 0)), ((u21 1), zI K 20 (fun _ => 0)), ((u21 2), zI K 13 (fun _ => 0)), (q31, zI K 240 (fun _ => 0)), (q40, zI K 240 (fun _ => 0)), (q49, zI K 240 (fun _ => 0))] H locs := hw
  refine z_putF hx hb hts hown hin hK hw zZ1 0 rfl 5 (by decide) zc_313 rfl rfl rfl rfl (Nat.le_of_ble_eq_true rfl) zd_Formula_init_51 (fun H locs hw => ?_)
  refine lv_aload_n hx hb zd_Formula_init_54 rfl (lv_at hl 0 rfl) ?_
  refine lv_iconst (v := 3) hx hb zd_Formula_init_55 (by decide) ?_
  refine z_newI (N' := 3) hx hb (hts _ zc_238) hK hw hA (by decide) (by decide) (Nat.le_of_ble_eq_true rfl) (Nat.le_of_ble_eq_true rfl) (Nat.le_of_ble_eq_true rfl) zd_Formula_init_56 (fun q56 H hw => ?_)
  refine z_putF hx hb hts hown hin hK hw zZ1 0 rfl 6 (by decide) zc_314 rfl rfl rfl rfl (Nat.le_of_ble_eq_true rfl) zd_Formula_init_58 (fun H locs hw => ?_)
  have hw : zW G A s.heap [(h0, zO 1 [.ref a1, .ref a3, .ref q15, .ref q31, .ref q40, .ref q49, .ref q56, .int 0, .int 0, .int 0, .int 0]), (q15, zO 8 [.ref a1, .ref a2, .ref (u21 0), .int 0, .ref (u21 1), .int 0, .ref (u21 2), .int 0, .int 0, .int 0]), ((u21 0), zI K 480 (fun _ => 0)), ((u21 1), zI K 20 (fun _ => 0)), ((u21 2), zI K 13 (fun _ => 0)), (q31, zI K 240 (fun _ => 0)), (q40, zI K 240 (fun _ => 0)), (q49, zI K 240 (fun _ => 0)), (q56, zI K 3 (fun _ => 0))] H locs := hw
  exact z_vret (u := (fun k => ([q15, (u21 0), (u21 1), (u21 2), q31, q40, q49, q56] : List Nat).getD k 0)) hx hb hr hlocks hw [0, 1, 2, 3, 4, 5, 6, 7, 8] rfl (by decide) trivial (Nat.le_of_ble_eq_true rfl) (Nat.le_of_ble_eq_true rfl) zd_Formula_init_61
set_option maxHeartbeats 4000000 in
set_option maxRecDepth 100000 in
theorem c_Truths_init (l : Launch) (G : va_G) (K : Nat → ClassId) (h0 : Nat) (a1 : Nat) (a2 : Nat) (a3 : Nat) (sz : Nat) : Met l zy_Truths_init (Cond.code zy_Truths_init prog_12_method_1_code 4 none :: zTB) { frames := 1, cells := 4, slots := 2544, locals := 12 } (va_Pc [.ref h0, .ref a1, .ref a2, .ref a3] (zPre G K [(h0, zO 11 [.null, .null, .null, .null, .null, .null, .null, .int 0, .int 0])] sz)) (va_Qv (fun _ : Nat → Nat => True) (fun u t => zPost G K (va_A [(h0, zO 11 [.null, .null, .null, .null, .null, .null, .null, .int 0, .int 0])] sz) [(h0, zO 11 [.ref a1, .ref a2, .ref a3, .ref (u 0), .ref (u 1), .ref (u 2), .ref (u 3), .int 0, .int 0]), ((u 0), zI K 240 (fun _ => 0)), ((u 1), zI K 768 (fun _ => 0)), ((u 2), zI K 768 (fun _ => 0)), ((u 3), zZ K 768 (fun _ => 0))] t) (va_A [(h0, zO 11 [.null, .null, .null, .null, .null, .null, .null, .int 0, .int 0])] sz)) 4 2544 (va_A [(h0, zO 11 [.null, .null, .null, .null, .null, .null, .null, .int 0, .int 0])] sz) := by
  refine zMet (y := zy_Truths_init) (av := [.ref h0, .ref a1, .ref a2, .ref a3]) (maxL := 4) (cc := prog_12_method_1_code) (ret := none) (W0 := [(h0, zO 11 [.null, .null, .null, .null, .null, .null, .null, .int 0, .int 0])]) (sz := sz) (G := G) (K := K) (wt := zTB) (mc := 4) (ms := 2544) (Qf := fun A => va_Qv (fun _ : Nat → Nat => True) (fun u t => zPost G K A [(h0, zO 11 [.ref a1, .ref a2, .ref a3, .ref (u 0), .ref (u 1), .ref (u 2), .ref (u 3), .int 0, .int 0]), ((u 0), zI K 240 (fun _ => 0)), ((u 1), zI K 768 (fun _ => 0)), ((u 2), zI K 768 (fun _ => 0)), ((u 3), zZ K 768 (fun _ => 0))] t) A) (by decide) (Nat.le_of_ble_eq_true rfl) ?_
  intro p e s m below meth c ls A hx hb hr hml hts hown hlocks hin hA hK H locs hw hsz hl
  clear hsz
  have hown : s.vm.findClass "LassoFinder$Truths" = some m.cls := hown
  have hl : lv_has ls 4 [(0, .ref h0), (1, .ref a1), (2, .ref a2), (3, .ref a3)] := hl
  have hw : zW G A s.heap [(h0, zO 11 [.null, .null, .null, .null, .null, .null, .null, .int 0, .int 0])] H locs := hw
  refine lv_aload_n hx hb zd_Truths_init_0 rfl (lv_at hl 0 rfl) ?_
  refine z_objInit hx hb hts hown hml hl.1 zc_315 zc_236 zc_237 zd_Truths_init_1 (Nat.le_of_ble_eq_true rfl) (Nat.le_of_ble_eq_true rfl) ?_
  refine lv_aload_n hx hb zd_Truths_init_4 rfl (lv_at hl 0 rfl) ?_
  refine lv_aload_n hx hb zd_Truths_init_5 rfl (lv_at hl 1 rfl) ?_
  refine z_putF hx hb hts hown hin hK hw zZ11 0 rfl 0 (by decide) zc_316 rfl rfl rfl rfl (Nat.le_of_ble_eq_true rfl) zd_Truths_init_6 (fun H locs hw => ?_)
  refine lv_aload_n hx hb zd_Truths_init_9 rfl (lv_at hl 0 rfl) ?_
  refine lv_aload_n hx hb zd_Truths_init_10 rfl (lv_at hl 2 rfl) ?_
  refine z_putF hx hb hts hown hin hK hw zZ11 0 rfl 1 (by decide) zc_317 rfl rfl rfl rfl (Nat.le_of_ble_eq_true rfl) zd_Truths_init_11 (fun H locs hw => ?_)
  refine lv_aload_n hx hb zd_Truths_init_14 rfl (lv_at hl 0 rfl) ?_
  refine lv_aload_n hx hb zd_Truths_init_15 rfl (lv_at hl 3 rfl) ?_
  refine z_putF hx hb hts hown hin hK hw zZ11 0 rfl 2 (by decide) zc_318 rfl rfl rfl rfl (Nat.le_of_ble_eq_true rfl) zd_Truths_init_16 (fun H locs hw => ?_)
  have hw : zW G A s.heap [(h0, zO 11 [.ref a1, .ref a2, .ref a3, .null, .null, .null, .null, .int 0, .int 0])] H locs := hw
  refine lv_aload_n hx hb zd_Truths_init_19 rfl (lv_at hl 0 rfl) ?_
  refine lv_sipush (v := 240) hx hb zd_Truths_init_20 (by decide) ?_
  refine z_newI (N' := 240) hx hb (hts _ zc_238) hK hw hA (by decide) (by decide) (Nat.le_of_ble_eq_true rfl) (Nat.le_of_ble_eq_true rfl) (Nat.le_of_ble_eq_true rfl) zd_Truths_init_23 (fun q23 H hw => ?_)
  refine z_putF hx hb hts hown hin hK hw zZ11 0 rfl 3 (by decide) zc_319 rfl rfl rfl rfl (Nat.le_of_ble_eq_true rfl) zd_Truths_init_25 (fun H locs hw => ?_)
  refine lv_aload_n hx hb zd_Truths_init_28 rfl (lv_at hl 0 rfl) ?_
  refine lv_sipush (v := 768) hx hb zd_Truths_init_29 (by decide) ?_
  refine z_newI (N' := 768) hx hb (hts _ zc_238) hK hw hA (by decide) (by decide) (Nat.le_of_ble_eq_true rfl) (Nat.le_of_ble_eq_true rfl) (Nat.le_of_ble_eq_true rfl) zd_Truths_init_32 (fun q32 H hw => ?_)
  have hw : zW G A s.heap [(h0, zO 11 [.ref a1, .ref a2, .ref a3, .ref q23, .null, .null, .null, .int 0, .int 0]), (q23, zI K 240 (fun _ => 0)), (q32, zI K 768 (fun _ => 0))] H locs := hw
  refine z_putF hx hb hts hown hin hK hw zZ11 0 rfl 4 (by decide) zc_320 rfl rfl rfl rfl (Nat.le_of_ble_eq_true rfl) zd_Truths_init_34 (fun H locs hw => ?_)
  refine lv_aload_n hx hb zd_Truths_init_37 rfl (lv_at hl 0 rfl) ?_
  refine lv_sipush (v := 768) hx hb zd_Truths_init_38 (by decide) ?_
  refine z_newI (N' := 768) hx hb (hts _ zc_238) hK hw hA (by decide) (by decide) (Nat.le_of_ble_eq_true rfl) (Nat.le_of_ble_eq_true rfl) (Nat.le_of_ble_eq_true rfl) zd_Truths_init_41 (fun q41 H hw => ?_)
  refine z_putF hx hb hts hown hin hK hw zZ11 0 rfl 5 (by decide) zc_321 rfl rfl rfl rfl (Nat.le_of_ble_eq_true rfl) zd_Truths_init_43 (fun H locs hw => ?_)
  have hw : zW G A s.heap [(h0, zO 11 [.ref a1, .ref a2, .ref a3, .ref q23, .ref q32, .ref q41, .null, .int 0, .int 0]), (q23, zI K 240 (fun _ => 0)), (q32, zI K 768 (fun _ => 0)), (q41, zI K 768 (fun _ => 0))] H locs := hw
  refine lv_aload_n hx hb zd_Truths_init_46 rfl (lv_at hl 0 rfl) ?_
  refine lv_sipush (v := 768) hx hb zd_Truths_init_47 (by decide) ?_
  refine z_newZ (N' := 768) hx hb (hts _ zc_240) hK hw hA (by decide) (by decide) (Nat.le_of_ble_eq_true rfl) (Nat.le_of_ble_eq_true rfl) (Nat.le_of_ble_eq_true rfl) zd_Truths_init_50 (fun q50 H hw => ?_)
  refine z_putF hx hb hts hown hin hK hw zZ11 0 rfl 6 (by decide) zc_322 rfl rfl rfl rfl (Nat.le_of_ble_eq_true rfl) zd_Truths_init_52 (fun H locs hw => ?_)
  exact z_vret (u := (fun k => ([q23, q32, q41, q50] : List Nat).getD k 0)) hx hb hr hlocks hw [0, 1, 2, 3, 4] rfl (by decide) trivial (Nat.le_of_ble_eq_true rfl) (Nat.le_of_ble_eq_true rfl) zd_Truths_init_55
set_option maxHeartbeats 4000000 in
set_option maxRecDepth 100000 in
theorem c_LassoSearch_init (l : Launch) (G : va_G) (K : Nat → ClassId) (h0 : Nat) (a1 : Nat) (a2 : Nat) (sz : Nat) : Met l zy_LassoSearch_init (Cond.code zy_LassoSearch_init prog_4_method_1_code 3 none :: zTB) { frames := 1, cells := 11, slots := 23808, locals := 12 } (va_Pc [.ref h0, .ref a1, .ref a2] (zPre G K [(h0, zO 3 [.null, .null, .null, .null, .null, .null, .null, .null, .int 0, .int 0, .int 0, .null, .null, .int 0, .null, .null, .null, .int 0, .int 0, .int 0])] sz)) (va_Qv (fun _ : Nat → Nat => True) (fun u t => zPost G K (va_A [(h0, zO 3 [.null, .null, .null, .null, .null, .null, .null, .null, .int 0, .int 0, .int 0, .null, .null, .int 0, .null, .null, .null, .int 0, .int 0, .int 0])] sz) [(h0, zO 3 [.ref a1, .ref a2, .ref (u 0), .ref (u 1), .ref (u 2), .ref (u 3), .ref (u 4), .ref (u 5), .int 0, .int 0, .int 0, .ref (u 6), .ref (u 7), .int 0, .ref (u 8), .ref (u 9), .ref (u 10), .int 0, .int 0, .int 0]), ((u 0), zI K 768 (fun _ => 0)), ((u 1), zI K 768 (fun _ => 0)), ((u 2), zI K 768 (fun _ => 0)), ((u 3), zZ K 768 (fun _ => 0)), ((u 4), zI K 768 (fun _ => 0)), ((u 5), zI K 768 (fun _ => 0)), ((u 6), zI K 6144 (fun _ => 0)), ((u 7), zI K 6144 (fun _ => 0)), ((u 8), zI K 768 (fun _ => 0)), ((u 9), zI K 3072 (fun _ => 0)), ((u 10), zI K 3072 (fun _ => 0))] t) (va_A [(h0, zO 3 [.null, .null, .null, .null, .null, .null, .null, .null, .int 0, .int 0, .int 0, .null, .null, .int 0, .null, .null, .null, .int 0, .int 0, .int 0])] sz)) 11 23808 (va_A [(h0, zO 3 [.null, .null, .null, .null, .null, .null, .null, .null, .int 0, .int 0, .int 0, .null, .null, .int 0, .null, .null, .null, .int 0, .int 0, .int 0])] sz) := by
  refine zMet (y := zy_LassoSearch_init) (av := [.ref h0, .ref a1, .ref a2]) (maxL := 3) (cc := prog_4_method_1_code) (ret := none) (W0 := [(h0, zO 3 [.null, .null, .null, .null, .null, .null, .null, .null, .int 0, .int 0, .int 0, .null, .null, .int 0, .null, .null, .null, .int 0, .int 0, .int 0])]) (sz := sz) (G := G) (K := K) (wt := zTB) (mc := 11) (ms := 23808) (Qf := fun A => va_Qv (fun _ : Nat → Nat => True) (fun u t => zPost G K A [(h0, zO 3 [.ref a1, .ref a2, .ref (u 0), .ref (u 1), .ref (u 2), .ref (u 3), .ref (u 4), .ref (u 5), .int 0, .int 0, .int 0, .ref (u 6), .ref (u 7), .int 0, .ref (u 8), .ref (u 9), .ref (u 10), .int 0, .int 0, .int 0]), ((u 0), zI K 768 (fun _ => 0)), ((u 1), zI K 768 (fun _ => 0)), ((u 2), zI K 768 (fun _ => 0)), ((u 3), zZ K 768 (fun _ => 0)), ((u 4), zI K 768 (fun _ => 0)), ((u 5), zI K 768 (fun _ => 0)), ((u 6), zI K 6144 (fun _ => 0)), ((u 7), zI K 6144 (fun _ => 0)), ((u 8), zI K 768 (fun _ => 0)), ((u 9), zI K 3072 (fun _ => 0)), ((u 10), zI K 3072 (fun _ => 0))] t) A) (by decide) (Nat.le_of_ble_eq_true rfl) ?_
  intro p e s m below meth c ls A hx hb hr hml hts hown hlocks hin hA hK H locs hw hsz hl
  clear hsz
  have hown : s.vm.findClass "LassoFinder$LassoSearch" = some m.cls := hown
  have hl : lv_has ls 3 [(0, .ref h0), (1, .ref a1), (2, .ref a2)] := hl
  have hw : zW G A s.heap [(h0, zO 3 [.null, .null, .null, .null, .null, .null, .null, .null, .int 0, .int 0, .int 0, .null, .null, .int 0, .null, .null, .null, .int 0, .int 0, .int 0])] H locs := hw
  refine lv_aload_n hx hb zd_LassoSearch_init_0 rfl (lv_at hl 0 rfl) ?_
  refine z_objInit hx hb hts hown hml hl.1 zc_323 zc_236 zc_237 zd_LassoSearch_init_1 (Nat.le_of_ble_eq_true rfl) (Nat.le_of_ble_eq_true rfl) ?_
  refine lv_aload_n hx hb zd_LassoSearch_init_4 rfl (lv_at hl 0 rfl) ?_
  refine lv_aload_n hx hb zd_LassoSearch_init_5 rfl (lv_at hl 1 rfl) ?_
  refine z_putF hx hb hts hown hin hK hw zZ3 0 rfl 0 (by decide) zc_324 rfl rfl rfl rfl (Nat.le_of_ble_eq_true rfl) zd_LassoSearch_init_6 (fun H locs hw => ?_)
  refine lv_aload_n hx hb zd_LassoSearch_init_9 rfl (lv_at hl 0 rfl) ?_
  refine lv_aload_n hx hb zd_LassoSearch_init_10 rfl (lv_at hl 2 rfl) ?_
  refine z_putF hx hb hts hown hin hK hw zZ3 0 rfl 1 (by decide) zc_325 rfl rfl rfl rfl (Nat.le_of_ble_eq_true rfl) zd_LassoSearch_init_11 (fun H locs hw => ?_)
  refine lv_aload_n hx hb zd_LassoSearch_init_14 rfl (lv_at hl 0 rfl) ?_
  refine lv_sipush (v := 768) hx hb zd_LassoSearch_init_15 (by decide) ?_
  refine z_newI (N' := 768) hx hb (hts _ zc_238) hK hw hA (by decide) (by decide) (Nat.le_of_ble_eq_true rfl) (Nat.le_of_ble_eq_true rfl) (Nat.le_of_ble_eq_true rfl) zd_LassoSearch_init_18 (fun q18 H hw => ?_)
  have hw : zW G A s.heap [(h0, zO 3 [.ref a1, .ref a2, .null, .null, .null, .null, .null, .null, .int 0, .int 0, .int 0, .null, .null, .int 0, .null, .null, .null, .int 0, .int 0, .int 0]), (q18, zI K 768 (fun _ => 0))] H locs := hw
  refine z_putF hx hb hts hown hin hK hw zZ3 0 rfl 2 (by decide) zc_326 rfl rfl rfl rfl (Nat.le_of_ble_eq_true rfl) zd_LassoSearch_init_20 (fun H locs hw => ?_)
  refine lv_aload_n hx hb zd_LassoSearch_init_23 rfl (lv_at hl 0 rfl) ?_
  refine lv_sipush (v := 768) hx hb zd_LassoSearch_init_24 (by decide) ?_
  refine z_newI (N' := 768) hx hb (hts _ zc_238) hK hw hA (by decide) (by decide) (Nat.le_of_ble_eq_true rfl) (Nat.le_of_ble_eq_true rfl) (Nat.le_of_ble_eq_true rfl) zd_LassoSearch_init_27 (fun q27 H hw => ?_)
  refine z_putF hx hb hts hown hin hK hw zZ3 0 rfl 3 (by decide) zc_327 rfl rfl rfl rfl (Nat.le_of_ble_eq_true rfl) zd_LassoSearch_init_29 (fun H locs hw => ?_)
  have hw : zW G A s.heap [(h0, zO 3 [.ref a1, .ref a2, .ref q18, .ref q27, .null, .null, .null, .null, .int 0, .int 0, .int 0, .null, .null, .int 0, .null, .null, .null, .int 0, .int 0, .int 0]), (q18, zI K 768 (fun _ => 0)), (q27, zI K 768 (fun _ => 0))] H locs := hw
  refine lv_aload_n hx hb zd_LassoSearch_init_32 rfl (lv_at hl 0 rfl) ?_
  refine lv_sipush (v := 768) hx hb zd_LassoSearch_init_33 (by decide) ?_
  refine z_newI (N' := 768) hx hb (hts _ zc_238) hK hw hA (by decide) (by decide) (Nat.le_of_ble_eq_true rfl) (Nat.le_of_ble_eq_true rfl) (Nat.le_of_ble_eq_true rfl) zd_LassoSearch_init_36 (fun q36 H hw => ?_)
  refine z_putF hx hb hts hown hin hK hw zZ3 0 rfl 4 (by decide) zc_328 rfl rfl rfl rfl (Nat.le_of_ble_eq_true rfl) zd_LassoSearch_init_38 (fun H locs hw => ?_)
  refine lv_aload_n hx hb zd_LassoSearch_init_41 rfl (lv_at hl 0 rfl) ?_
  refine lv_sipush (v := 768) hx hb zd_LassoSearch_init_42 (by decide) ?_
  refine z_newZ (N' := 768) hx hb (hts _ zc_240) hK hw hA (by decide) (by decide) (Nat.le_of_ble_eq_true rfl) (Nat.le_of_ble_eq_true rfl) (Nat.le_of_ble_eq_true rfl) zd_LassoSearch_init_45 (fun q45 H hw => ?_)
  have hw : zW G A s.heap [(h0, zO 3 [.ref a1, .ref a2, .ref q18, .ref q27, .ref q36, .null, .null, .null, .int 0, .int 0, .int 0, .null, .null, .int 0, .null, .null, .null, .int 0, .int 0, .int 0]), (q18, zI K 768 (fun _ => 0)), (q27, zI K 768 (fun _ => 0)), (q36, zI K 768 (fun _ => 0)), (q45, zZ K 768 (fun _ => 0))] H locs := hw
  refine z_putF hx hb hts hown hin hK hw zZ3 0 rfl 5 (by decide) zc_329 rfl rfl rfl rfl (Nat.le_of_ble_eq_true rfl) zd_LassoSearch_init_47 (fun H locs hw => ?_)
  refine lv_aload_n hx hb zd_LassoSearch_init_50 rfl (lv_at hl 0 rfl) ?_
  refine lv_sipush (v := 768) hx hb zd_LassoSearch_init_51 (by decide) ?_
  refine z_newI (N' := 768) hx hb (hts _ zc_238) hK hw hA (by decide) (by decide) (Nat.le_of_ble_eq_true rfl) (Nat.le_of_ble_eq_true rfl) (Nat.le_of_ble_eq_true rfl) zd_LassoSearch_init_54 (fun q54 H hw => ?_)
  refine z_putF hx hb hts hown hin hK hw zZ3 0 rfl 6 (by decide) zc_330 rfl rfl rfl rfl (Nat.le_of_ble_eq_true rfl) zd_LassoSearch_init_56 (fun H locs hw => ?_)
  have hw : zW G A s.heap [(h0, zO 3 [.ref a1, .ref a2, .ref q18, .ref q27, .ref q36, .ref q45, .ref q54, .null, .int 0, .int 0, .int 0, .null, .null, .int 0, .null, .null, .null, .int 0, .int 0, .int 0]), (q18, zI K 768 (fun _ => 0)), (q27, zI K 768 (fun _ => 0)), (q36, zI K 768 (fun _ => 0)), (q45, zZ K 768 (fun _ => 0)), (q54, zI K 768 (fun _ => 0))] H locs := hw
  refine lv_aload_n hx hb zd_LassoSearch_init_59 rfl (lv_at hl 0 rfl) ?_
  refine lv_sipush (v := 768) hx hb zd_LassoSearch_init_60 (by decide) ?_
  refine z_newI (N' := 768) hx hb (hts _ zc_238) hK hw hA (by decide) (by decide) (Nat.le_of_ble_eq_true rfl) (Nat.le_of_ble_eq_true rfl) (Nat.le_of_ble_eq_true rfl) zd_LassoSearch_init_63 (fun q63 H hw => ?_)
  refine z_putF hx hb hts hown hin hK hw zZ3 0 rfl 7 (by decide) zc_331 rfl rfl rfl rfl (Nat.le_of_ble_eq_true rfl) zd_LassoSearch_init_65 (fun H locs hw => ?_)
  refine lv_aload_n hx hb zd_LassoSearch_init_68 rfl (lv_at hl 0 rfl) ?_
  refine lv_sipush (v := 6144) hx hb zd_LassoSearch_init_69 (by decide) ?_
  refine z_newI (N' := 6144) hx hb (hts _ zc_238) hK hw hA (by decide) (by decide) (Nat.le_of_ble_eq_true rfl) (Nat.le_of_ble_eq_true rfl) (Nat.le_of_ble_eq_true rfl) zd_LassoSearch_init_72 (fun q72 H hw => ?_)
  have hw : zW G A s.heap [(h0, zO 3 [.ref a1, .ref a2, .ref q18, .ref q27, .ref q36, .ref q45, .ref q54, .ref q63, .int 0, .int 0, .int 0, .null, .null, .int 0, .null, .null, .null, .int 0, .int 0, .int 0]), (q18, zI K 768 (fun _ => 0)), (q27, zI K 768 (fun _ => 0)), (q36, zI K 768 (fun _ => 0)), (q45, zZ K 768 (fun _ => 0)), (q54, zI K 768 (fun _ => 0)), (q63, zI K 768 (fun _ => 0)), (q72, zI K 6144 (fun _ => 0))] H locs := hw
  refine z_putF hx hb hts hown hin hK hw zZ3 0 rfl 11 (by decide) zc_332 rfl rfl rfl rfl (Nat.le_of_ble_eq_true rfl) zd_LassoSearch_init_74 (fun H locs hw => ?_)
  refine lv_aload_n hx hb zd_LassoSearch_init_77 rfl (lv_at hl 0 rfl) ?_
  refine lv_sipush (v := 6144) hx hb zd_LassoSearch_init_78 (by decide) ?_
  refine z_newI (N' := 6144) hx hb (hts _ zc_238) hK hw hA (by decide) (by decide) (Nat.le_of_ble_eq_true rfl) (Nat.le_of_ble_eq_true rfl) (Nat.le_of_ble_eq_true rfl) zd_LassoSearch_init_81 (fun q81 H hw => ?_)
  refine z_putF hx hb hts hown hin hK hw zZ3 0 rfl 12 (by decide) zc_333 rfl rfl rfl rfl (Nat.le_of_ble_eq_true rfl) zd_LassoSearch_init_83 (fun H locs hw => ?_)
  have hw : zW G A s.heap [(h0, zO 3 [.ref a1, .ref a2, .ref q18, .ref q27, .ref q36, .ref q45, .ref q54, .ref q63, .int 0, .int 0, .int 0, .ref q72, .ref q81, .int 0, .null, .null, .null, .int 0, .int 0, .int 0]), (q18, zI K 768 (fun _ => 0)), (q27, zI K 768 (fun _ => 0)), (q36, zI K 768 (fun _ => 0)), (q45, zZ K 768 (fun _ => 0)), (q54, zI K 768 (fun _ => 0)), (q63, zI K 768 (fun _ => 0)), (q72, zI K 6144 (fun _ => 0)), (q81, zI K 6144 (fun _ => 0))] H locs := hw
  refine lv_aload_n hx hb zd_LassoSearch_init_86 rfl (lv_at hl 0 rfl) ?_
  refine lv_sipush (v := 768) hx hb zd_LassoSearch_init_87 (by decide) ?_
  refine z_newI (N' := 768) hx hb (hts _ zc_238) hK hw hA (by decide) (by decide) (Nat.le_of_ble_eq_true rfl) (Nat.le_of_ble_eq_true rfl) (Nat.le_of_ble_eq_true rfl) zd_LassoSearch_init_90 (fun q90 H hw => ?_)
  refine z_putF hx hb hts hown hin hK hw zZ3 0 rfl 14 (by decide) zc_334 rfl rfl rfl rfl (Nat.le_of_ble_eq_true rfl) zd_LassoSearch_init_92 (fun H locs hw => ?_)
  refine lv_aload_n hx hb zd_LassoSearch_init_95 rfl (lv_at hl 0 rfl) ?_
  refine lv_sipush (v := 3072) hx hb zd_LassoSearch_init_96 (by decide) ?_
  refine z_newI (N' := 3072) hx hb (hts _ zc_238) hK hw hA (by decide) (by decide) (Nat.le_of_ble_eq_true rfl) (Nat.le_of_ble_eq_true rfl) (Nat.le_of_ble_eq_true rfl) zd_LassoSearch_init_99 (fun q99 H hw => ?_)
  have hw : zW G A s.heap [(h0, zO 3 [.ref a1, .ref a2, .ref q18, .ref q27, .ref q36, .ref q45, .ref q54, .ref q63, .int 0, .int 0, .int 0, .ref q72, .ref q81, .int 0, .ref q90, .null, .null, .int 0, .int 0, .int 0]), (q18, zI K 768 (fun _ => 0)), (q27, zI K 768 (fun _ => 0)), (q36, zI K 768 (fun _ => 0)), (q45, zZ K 768 (fun _ => 0)), (q54, zI K 768 (fun _ => 0)), (q63, zI K 768 (fun _ => 0)), (q72, zI K 6144 (fun _ => 0)), (q81, zI K 6144 (fun _ => 0)), (q90, zI K 768 (fun _ => 0)), (q99, zI K 3072 (fun _ => 0))] H locs := hw
  refine z_put hx hb hts hown hK hw zZ3 0 rfl 15 (by decide) zc_335 rfl rfl rfl (Nat.le_of_ble_eq_true rfl) zd_LassoSearch_init_101 (fun H locs hw => ?_)
  refine lv_aload_n hx hb zd_LassoSearch_init_104 rfl (lv_at hl 0 rfl) ?_
  refine lv_sipush (v := 3072) hx hb zd_LassoSearch_init_105 (by decide) ?_
  refine z_newI (N' := 3072) hx hb (hts _ zc_238) hK hw hA (by decide) (by decide) (Nat.le_of_ble_eq_true rfl) (Nat.le_of_ble_eq_true rfl) (Nat.le_of_ble_eq_true rfl) zd_LassoSearch_init_108 (fun q108 H hw => ?_)
  refine z_put hx hb hts hown hK hw zZ3 0 rfl 16 (by decide) zc_336 rfl rfl rfl (Nat.le_of_ble_eq_true rfl) zd_LassoSearch_init_110 (fun H locs hw => ?_)
  have hw : zW G A s.heap [(h0, zO 3 [.ref a1, .ref a2, .ref q18, .ref q27, .ref q36, .ref q45, .ref q54, .ref q63, .int 0, .int 0, .int 0, .ref q72, .ref q81, .int 0, .ref q90, .ref q99, .ref q108, .int 0, .int 0, .int 0]), (q18, zI K 768 (fun _ => 0)), (q27, zI K 768 (fun _ => 0)), (q36, zI K 768 (fun _ => 0)), (q45, zZ K 768 (fun _ => 0)), (q54, zI K 768 (fun _ => 0)), (q63, zI K 768 (fun _ => 0)), (q72, zI K 6144 (fun _ => 0)), (q81, zI K 6144 (fun _ => 0)), (q90, zI K 768 (fun _ => 0)), (q99, zI K 3072 (fun _ => 0)), (q108, zI K 3072 (fun _ => 0))] H locs := hw
  exact z_vret (u := (fun k => ([q18, q27, q36, q45, q54, q63, q72, q81, q90, q99, q108] : List Nat).getD k 0)) hx hb hr hlocks hw [0, 1, 2, 3, 4, 5, 6, 7, 8, 9, 10, 11] rfl (by decide) trivial (Nat.le_of_ble_eq_true rfl) (Nat.le_of_ble_eq_true rfl) zd_LassoSearch_init_113
