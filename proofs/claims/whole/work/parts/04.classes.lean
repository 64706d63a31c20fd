theorem zm_0 : Cond.instantiable "LassoFinder" 13 ∈ zTB := z_in (zt_1 _ (List.mem_of_getElem? (i := 25) rfl)) rfl
theorem zm_1 : Cond.initialized "LassoFinder" ∈ zTB := z_in (zt_1 _ (List.mem_of_getElem? (i := 1) rfl)) rfl
theorem zm_2 : Cond.instantiable "LassoFinder$Formula" 11 ∈ zTB := z_in (zt_2 _ (List.mem_of_getElem? (i := 131) rfl)) rfl
theorem zm_3 : Cond.initialized "LassoFinder$Formula" ∈ zTB := z_in (zt_1 _ (List.mem_of_getElem? (i := 10) rfl)) rfl
theorem zm_4 : Cond.instantiable "LassoFinder$Graph" 11 ∈ zTB := z_in (zt_2 _ (List.mem_of_getElem? (i := 75) rfl)) rfl
theorem zm_5 : Cond.initialized "LassoFinder$Graph" ∈ zTB := z_in (zt_1 _ (List.mem_of_getElem? (i := 9) rfl)) rfl
theorem zm_6 : Cond.instantiable "LassoFinder$LassoSearch" 20 ∈ zTB := z_in (zt_5 _ (List.mem_of_getElem? (i := 121) rfl)) rfl
theorem zm_7 : Cond.initialized "LassoFinder$LassoSearch" ∈ zTB := z_in (zt_1 _ (List.mem_of_getElem? (i := 21) rfl)) rfl
theorem zm_8 : Cond.instantiable "LassoFinder$ModelReader" 5 ∈ zTB := z_in (zt_1 _ (List.mem_of_getElem? (i := 197) rfl)) rfl
theorem zm_9 : Cond.initialized "LassoFinder$ModelReader" ∈ zTB := z_in (zt_1 _ (List.mem_of_getElem? (i := 6) rfl)) rfl
theorem zm_10 : Cond.instantiable "LassoFinder$Names" 6 ∈ zTB := z_in (zt_1 _ (List.mem_of_getElem? (i := 57) rfl)) rfl
theorem zm_11 : Cond.initialized "LassoFinder$Names" ∈ zTB := z_in (zt_1 _ (List.mem_of_getElem? (i := 3) rfl)) rfl
theorem zm_12 : Cond.instantiable "LassoFinder$Program" 14 ∈ zTB := z_in (zt_1 _ (List.mem_of_getElem? (i := 91) rfl)) rfl
theorem zm_13 : Cond.initialized "LassoFinder$Program" ∈ zTB := z_in (zt_1 _ (List.mem_of_getElem? (i := 4) rfl)) rfl
theorem zm_14 : Cond.instantiable "LassoFinder$Situation" 8 ∈ zTB := z_in (zt_2 _ (List.mem_of_getElem? (i := 39) rfl)) rfl
theorem zm_15 : Cond.initialized "LassoFinder$Situation" ∈ zTB := z_in (zt_1 _ (List.mem_of_getElem? (i := 8) rfl)) rfl
theorem zm_16 : Cond.instantiable "LassoFinder$Terms" 10 ∈ zTB := z_in (zt_1 _ (List.mem_of_getElem? (i := 160) rfl)) rfl
theorem zm_17 : Cond.initialized "LassoFinder$Terms" ∈ zTB := z_in (zt_1 _ (List.mem_of_getElem? (i := 5) rfl)) rfl
theorem zm_18 : Cond.instantiable "LassoFinder$Text" 5 ∈ zTB := z_in (zt_1 _ (List.mem_of_getElem? (i := 33) rfl)) rfl
theorem zm_19 : Cond.initialized "LassoFinder$Text" ∈ zTB := z_in (zt_1 _ (List.mem_of_getElem? (i := 2) rfl)) rfl
theorem zm_20 : Cond.instantiable "LassoFinder$Tree" 13 ∈ zTB := z_in (zt_1 _ (List.mem_of_getElem? (i := 203) rfl)) rfl
theorem zm_21 : Cond.initialized "LassoFinder$Tree" ∈ zTB := z_in (zt_1 _ (List.mem_of_getElem? (i := 7) rfl)) rfl
theorem zm_22 : Cond.instantiable "LassoFinder$Truths" 9 ∈ zTB := z_in (zt_2 _ (List.mem_of_getElem? (i := 181) rfl)) rfl
theorem zm_23 : Cond.initialized "LassoFinder$Truths" ∈ zTB := z_in (zt_1 _ (List.mem_of_getElem? (i := 11) rfl)) rfl
theorem zm_24 : Cond.instantiable "LassoFinderModel" 84 ∈ zTB := z_in (zt_6 _ (List.mem_of_getElem? (i := 89) rfl)) rfl
theorem zm_25 : Cond.initialized "LassoFinderModel" ∈ zTB := z_in (zt_1 _ (List.mem_of_getElem? (i := 12) rfl)) rfl
theorem zm_26 : Cond.laysFinal "LassoFinder" "LassoFinder" "text" "LLassoFinder$Text;" ∈ zTB := z_in (zt_2 _ (List.mem_of_getElem? (i := 231) rfl)) rfl
theorem zm_27 : Cond.laysFinal "LassoFinder" "LassoFinder" "names" "LLassoFinder$Names;" ∈ zTB := z_in (zt_2 _ (List.mem_of_getElem? (i := 233) rfl)) rfl
theorem zm_28 : Cond.laysFinal "LassoFinder" "LassoFinder" "program" "LLassoFinder$Program;" ∈ zTB := z_in (zt_2 _ (List.mem_of_getElem? (i := 235) rfl)) rfl
theorem zm_29 : Cond.laysFinal "LassoFinder" "LassoFinder" "reader" "LLassoFinder$ModelReader;" ∈ zTB := z_in (zt_2 _ (List.mem_of_getElem? (i := 237) rfl)) rfl
theorem zm_30 : Cond.laysFinal "LassoFinder" "LassoFinder" "situation" "LLassoFinder$Situation;" ∈ zTB := z_in (zt_2 _ (List.mem_of_getElem? (i := 239) rfl)) rfl
theorem zm_31 : Cond.laysFinal "LassoFinder" "LassoFinder" "graph" "LLassoFinder$Graph;" ∈ zTB := z_in (zt_3 _ (List.mem_of_getElem? (i := 1) rfl)) rfl
theorem zm_32 : Cond.laysFinal "LassoFinder" "LassoFinder" "asked" "LLassoFinder$Formula;" ∈ zTB := z_in (zt_3 _ (List.mem_of_getElem? (i := 3) rfl)) rfl
theorem zm_33 : Cond.laysFinal "LassoFinder" "LassoFinder" "truths" "LLassoFinder$Truths;" ∈ zTB := z_in (zt_3 _ (List.mem_of_getElem? (i := 5) rfl)) rfl
theorem zm_34 : Cond.lays "LassoFinder" "LassoFinder" "search" "LLassoFinder$LassoSearch;" ∈ zTB := z_in (zt_3 _ (List.mem_of_getElem? (i := 7) rfl)) rfl
theorem zm_35 : Cond.laysFinal "LassoFinder" "LassoFinder" "walked" "[I" ∈ zTB := z_in (zt_3 _ (List.mem_of_getElem? (i := 9) rfl)) rfl
theorem zm_36 : Cond.lays "LassoFinder" "LassoFinder" "walkLength" "I" ∈ zTB := z_in (zt_3 _ (List.mem_of_getElem? (i := 11) rfl)) rfl
theorem zm_37 : Cond.lays "LassoFinder" "LassoFinder" "hasModel" "Z" ∈ zTB := z_in (zt_3 _ (List.mem_of_getElem? (i := 13) rfl)) rfl
theorem zm_38 : Cond.lays "LassoFinder" "LassoFinder" "hasFormula" "Z" ∈ zTB := z_in (zt_3 _ (List.mem_of_getElem? (i := 15) rfl)) rfl
theorem zm_39 : Cond.laysFinal "LassoFinder$Formula" "LassoFinder$Formula" "text" "LLassoFinder$Text;" ∈ zTB := z_in (zt_2 _ (List.mem_of_getElem? (i := 157) rfl)) rfl
theorem zm_40 : Cond.laysFinal "LassoFinder$Formula" "LassoFinder$Formula" "program" "LLassoFinder$Program;" ∈ zTB := z_in (zt_2 _ (List.mem_of_getElem? (i := 159) rfl)) rfl
theorem zm_41 : Cond.laysFinal "LassoFinder$Formula" "LassoFinder$Formula" "terms" "LLassoFinder$Terms;" ∈ zTB := z_in (zt_2 _ (List.mem_of_getElem? (i := 161) rfl)) rfl
theorem zm_42 : Cond.laysFinal "LassoFinder$Formula" "LassoFinder$Formula" "kinds" "[I" ∈ zTB := z_in (zt_2 _ (List.mem_of_getElem? (i := 163) rfl)) rfl
theorem zm_43 : Cond.laysFinal "LassoFinder$Formula" "LassoFinder$Formula" "left" "[I" ∈ zTB := z_in (zt_2 _ (List.mem_of_getElem? (i := 165) rfl)) rfl
theorem zm_44 : Cond.laysFinal "LassoFinder$Formula" "LassoFinder$Formula" "right" "[I" ∈ zTB := z_in (zt_2 _ (List.mem_of_getElem? (i := 167) rfl)) rfl
theorem zm_45 : Cond.laysFinal "LassoFinder$Formula" "LassoFinder$Formula" "temporalParts" "[I" ∈ zTB := z_in (zt_2 _ (List.mem_of_getElem? (i := 169) rfl)) rfl
theorem zm_46 : Cond.lays "LassoFinder$Formula" "LassoFinder$Formula" "temporals" "I" ∈ zTB := z_in (zt_2 _ (List.mem_of_getElem? (i := 171) rfl)) rfl
theorem zm_47 : Cond.lays "LassoFinder$Formula" "LassoFinder$Formula" "size" "I" ∈ zTB := z_in (zt_2 _ (List.mem_of_getElem? (i := 173) rfl)) rfl
theorem zm_48 : Cond.lays "LassoFinder$Formula" "LassoFinder$Formula" "temporalSigns" "I" ∈ zTB := z_in (zt_2 _ (List.mem_of_getElem? (i := 175) rfl)) rfl
theorem zm_49 : Cond.lays "LassoFinder$Formula" "LassoFinder$Formula" "atoms" "I" ∈ zTB := z_in (zt_2 _ (List.mem_of_getElem? (i := 177) rfl)) rfl
theorem zm_50 : Cond.laysFinal "LassoFinder$Graph" "LassoFinder$Graph" "situation" "LLassoFinder$Situation;" ∈ zTB := z_in (zt_2 _ (List.mem_of_getElem? (i := 107) rfl)) rfl
theorem zm_51 : Cond.laysFinal "LassoFinder$Graph" "LassoFinder$Graph" "packedStates" "[J" ∈ zTB := z_in (zt_2 _ (List.mem_of_getElem? (i := 109) rfl)) rfl
theorem zm_52 : Cond.laysFinal "LassoFinder$Graph" "LassoFinder$Graph" "firstStep" "[I" ∈ zTB := z_in (zt_2 _ (List.mem_of_getElem? (i := 111) rfl)) rfl
theorem zm_53 : Cond.laysFinal "LassoFinder$Graph" "LassoFinder$Graph" "stepFrom" "[I" ∈ zTB := z_in (zt_2 _ (List.mem_of_getElem? (i := 113) rfl)) rfl
theorem zm_54 : Cond.laysFinal "LassoFinder$Graph" "LassoFinder$Graph" "stepTo" "[I" ∈ zTB := z_in (zt_2 _ (List.mem_of_getElem? (i := 115) rfl)) rfl
theorem zm_55 : Cond.laysFinal "LassoFinder$Graph" "LassoFinder$Graph" "stepBasic" "[I" ∈ zTB := z_in (zt_2 _ (List.mem_of_getElem? (i := 117) rfl)) rfl
theorem zm_56 : Cond.laysFinal "LassoFinder$Graph" "LassoFinder$Graph" "stepPartner" "[I" ∈ zTB := z_in (zt_2 _ (List.mem_of_getElem? (i := 119) rfl)) rfl
theorem zm_57 : Cond.laysFinal "LassoFinder$Graph" "LassoFinder$Graph" "firstSource" "[I" ∈ zTB := z_in (zt_2 _ (List.mem_of_getElem? (i := 121) rfl)) rfl
theorem zm_58 : Cond.laysFinal "LassoFinder$Graph" "LassoFinder$Graph" "sources" "[I" ∈ zTB := z_in (zt_2 _ (List.mem_of_getElem? (i := 123) rfl)) rfl
theorem zm_59 : Cond.lays "LassoFinder$Graph" "LassoFinder$Graph" "states" "I" ∈ zTB := z_in (zt_2 _ (List.mem_of_getElem? (i := 125) rfl)) rfl
theorem zm_60 : Cond.lays "LassoFinder$Graph" "LassoFinder$Graph" "steps" "I" ∈ zTB := z_in (zt_2 _ (List.mem_of_getElem? (i := 127) rfl)) rfl
theorem zm_61 : Cond.laysFinal "LassoFinder$LassoSearch" "LassoFinder$LassoSearch" "graph" "LLassoFinder$Graph;" ∈ zTB := z_in (zt_5 _ (List.mem_of_getElem? (i := 149) rfl)) rfl
theorem zm_62 : Cond.laysFinal "LassoFinder$LassoSearch" "LassoFinder$LassoSearch" "truths" "LLassoFinder$Truths;" ∈ zTB := z_in (zt_5 _ (List.mem_of_getElem? (i := 151) rfl)) rfl
theorem zm_63 : Cond.laysFinal "LassoFinder$LassoSearch" "LassoFinder$LassoSearch" "order" "[I" ∈ zTB := z_in (zt_5 _ (List.mem_of_getElem? (i := 153) rfl)) rfl
theorem zm_64 : Cond.laysFinal "LassoFinder$LassoSearch" "LassoFinder$LassoSearch" "low" "[I" ∈ zTB := z_in (zt_5 _ (List.mem_of_getElem? (i := 155) rfl)) rfl
theorem zm_65 : Cond.laysFinal "LassoFinder$LassoSearch" "LassoFinder$LassoSearch" "nextSource" "[I" ∈ zTB := z_in (zt_5 _ (List.mem_of_getElem? (i := 157) rfl)) rfl
theorem zm_66 : Cond.laysFinal "LassoFinder$LassoSearch" "LassoFinder$LassoSearch" "isOpen" "[Z" ∈ zTB := z_in (zt_5 _ (List.mem_of_getElem? (i := 159) rfl)) rfl
theorem zm_67 : Cond.laysFinal "LassoFinder$LassoSearch" "LassoFinder$LassoSearch" "path" "[I" ∈ zTB := z_in (zt_5 _ (List.mem_of_getElem? (i := 161) rfl)) rfl
theorem zm_68 : Cond.laysFinal "LassoFinder$LassoSearch" "LassoFinder$LassoSearch" "opened" "[I" ∈ zTB := z_in (zt_5 _ (List.mem_of_getElem? (i := 163) rfl)) rfl
theorem zm_69 : Cond.lays "LassoFinder$LassoSearch" "LassoFinder$LassoSearch" "pathLength" "I" ∈ zTB := z_in (zt_5 _ (List.mem_of_getElem? (i := 165) rfl)) rfl
theorem zm_70 : Cond.lays "LassoFinder$LassoSearch" "LassoFinder$LassoSearch" "openSpots" "I" ∈ zTB := z_in (zt_5 _ (List.mem_of_getElem? (i := 167) rfl)) rfl
theorem zm_71 : Cond.lays "LassoFinder$LassoSearch" "LassoFinder$LassoSearch" "entered" "I" ∈ zTB := z_in (zt_5 _ (List.mem_of_getElem? (i := 169) rfl)) rfl
theorem zm_72 : Cond.laysFinal "LassoFinder$LassoSearch" "LassoFinder$LassoSearch" "distance" "[I" ∈ zTB := z_in (zt_5 _ (List.mem_of_getElem? (i := 171) rfl)) rfl
theorem zm_73 : Cond.laysFinal "LassoFinder$LassoSearch" "LassoFinder$LassoSearch" "queue" "[I" ∈ zTB := z_in (zt_5 _ (List.mem_of_getElem? (i := 173) rfl)) rfl
theorem zm_74 : Cond.lays "LassoFinder$LassoSearch" "LassoFinder$LassoSearch" "queued" "I" ∈ zTB := z_in (zt_5 _ (List.mem_of_getElem? (i := 175) rfl)) rfl
theorem zm_75 : Cond.laysFinal "LassoFinder$LassoSearch" "LassoFinder$LassoSearch" "stemSteps" "[I" ∈ zTB := z_in (zt_5 _ (List.mem_of_getElem? (i := 177) rfl)) rfl
theorem zm_76 : Cond.lays "LassoFinder$LassoSearch" "LassoFinder$LassoSearch" "cycleSteps" "[I" ∈ zTB := z_in (zt_5 _ (List.mem_of_getElem? (i := 179) rfl)) rfl
theorem zm_77 : Cond.lays "LassoFinder$LassoSearch" "LassoFinder$LassoSearch" "triedSteps" "[I" ∈ zTB := z_in (zt_5 _ (List.mem_of_getElem? (i := 181) rfl)) rfl
theorem zm_78 : Cond.lays "LassoFinder$LassoSearch" "LassoFinder$LassoSearch" "stemLength" "I" ∈ zTB := z_in (zt_5 _ (List.mem_of_getElem? (i := 183) rfl)) rfl
theorem zm_79 : Cond.lays "LassoFinder$LassoSearch" "LassoFinder$LassoSearch" "cycleLength" "I" ∈ zTB := z_in (zt_5 _ (List.mem_of_getElem? (i := 185) rfl)) rfl
theorem zm_80 : Cond.lays "LassoFinder$LassoSearch" "LassoFinder$LassoSearch" "found" "Z" ∈ zTB := z_in (zt_5 _ (List.mem_of_getElem? (i := 187) rfl)) rfl
theorem zm_81 : Cond.laysFinal "LassoFinder$ModelReader" "LassoFinder$ModelReader" "text" "LLassoFinder$Text;" ∈ zTB := z_in (zt_2 _ (List.mem_of_getElem? (i := 27) rfl)) rfl
theorem zm_82 : Cond.laysFinal "LassoFinder$ModelReader" "LassoFinder$ModelReader" "names" "LLassoFinder$Names;" ∈ zTB := z_in (zt_2 _ (List.mem_of_getElem? (i := 29) rfl)) rfl
theorem zm_83 : Cond.laysFinal "LassoFinder$ModelReader" "LassoFinder$ModelReader" "terms" "LLassoFinder$Terms;" ∈ zTB := z_in (zt_2 _ (List.mem_of_getElem? (i := 31) rfl)) rfl
theorem zm_84 : Cond.laysFinal "LassoFinder$ModelReader" "LassoFinder$ModelReader" "program" "LLassoFinder$Program;" ∈ zTB := z_in (zt_2 _ (List.mem_of_getElem? (i := 33) rfl)) rfl
theorem zm_85 : Cond.laysFinal "LassoFinder$ModelReader" "LassoFinder$ModelReader" "tree" "LLassoFinder$Tree;" ∈ zTB := z_in (zt_2 _ (List.mem_of_getElem? (i := 35) rfl)) rfl
theorem zm_86 : Cond.laysFinal "LassoFinder$Names" "LassoFinder$Names" "kinds" "[I" ∈ zTB := z_in (zt_1 _ (List.mem_of_getElem? (i := 76) rfl)) rfl
theorem zm_87 : Cond.laysFinal "LassoFinder$Names" "LassoFinder$Names" "digits" "[I" ∈ zTB := z_in (zt_1 _ (List.mem_of_getElem? (i := 78) rfl)) rfl
theorem zm_88 : Cond.laysFinal "LassoFinder$Names" "LassoFinder$Names" "variableNames" "[I" ∈ zTB := z_in (zt_1 _ (List.mem_of_getElem? (i := 80) rfl)) rfl
theorem zm_89 : Cond.laysFinal "LassoFinder$Names" "LassoFinder$Names" "channelNames" "[I" ∈ zTB := z_in (zt_1 _ (List.mem_of_getElem? (i := 82) rfl)) rfl
theorem zm_90 : Cond.lays "LassoFinder$Names" "LassoFinder$Names" "variables" "I" ∈ zTB := z_in (zt_1 _ (List.mem_of_getElem? (i := 84) rfl)) rfl
theorem zm_91 : Cond.lays "LassoFinder$Names" "LassoFinder$Names" "channels" "I" ∈ zTB := z_in (zt_1 _ (List.mem_of_getElem? (i := 86) rfl)) rfl
theorem zm_92 : Cond.laysFinal "LassoFinder$Program" "LassoFinder$Program" "kinds" "[I" ∈ zTB := z_in (zt_1 _ (List.mem_of_getElem? (i := 128) rfl)) rfl
theorem zm_93 : Cond.laysFinal "LassoFinder$Program" "LassoFinder$Program" "channel" "[I" ∈ zTB := z_in (zt_1 _ (List.mem_of_getElem? (i := 130) rfl)) rfl
theorem zm_94 : Cond.laysFinal "LassoFinder$Program" "LassoFinder$Program" "variable" "[I" ∈ zTB := z_in (zt_1 _ (List.mem_of_getElem? (i := 132) rfl)) rfl
theorem zm_95 : Cond.laysFinal "LassoFinder$Program" "LassoFinder$Program" "expression" "[I" ∈ zTB := z_in (zt_1 _ (List.mem_of_getElem? (i := 134) rfl)) rfl
theorem zm_96 : Cond.laysFinal "LassoFinder$Program" "LassoFinder$Program" "actor" "[I" ∈ zTB := z_in (zt_1 _ (List.mem_of_getElem? (i := 136) rfl)) rfl
theorem zm_97 : Cond.laysFinal "LassoFinder$Program" "LassoFinder$Program" "after" "[I" ∈ zTB := z_in (zt_1 _ (List.mem_of_getElem? (i := 138) rfl)) rfl
theorem zm_98 : Cond.laysFinal "LassoFinder$Program" "LassoFinder$Program" "keeps" "[Z" ∈ zTB := z_in (zt_1 _ (List.mem_of_getElem? (i := 140) rfl)) rfl
theorem zm_99 : Cond.laysFinal "LassoFinder$Program" "LassoFinder$Program" "receives" "[J" ∈ zTB := z_in (zt_1 _ (List.mem_of_getElem? (i := 142) rfl)) rfl
theorem zm_100 : Cond.laysFinal "LassoFinder$Program" "LassoFinder$Program" "startPoint" "[I" ∈ zTB := z_in (zt_1 _ (List.mem_of_getElem? (i := 144) rfl)) rfl
theorem zm_101 : Cond.laysFinal "LassoFinder$Program" "LassoFinder$Program" "labelPoint" "[I" ∈ zTB := z_in (zt_1 _ (List.mem_of_getElem? (i := 146) rfl)) rfl
theorem zm_102 : Cond.laysFinal "LassoFinder$Program" "LassoFinder$Program" "basicsAt" "[J" ∈ zTB := z_in (zt_1 _ (List.mem_of_getElem? (i := 148) rfl)) rfl
theorem zm_103 : Cond.lays "LassoFinder$Program" "LassoFinder$Program" "elses" "J" ∈ zTB := z_in (zt_1 _ (List.mem_of_getElem? (i := 150) rfl)) rfl
theorem zm_104 : Cond.lays "LassoFinder$Program" "LassoFinder$Program" "basics" "I" ∈ zTB := z_in (zt_1 _ (List.mem_of_getElem? (i := 152) rfl)) rfl
theorem zm_105 : Cond.lays "LassoFinder$Program" "LassoFinder$Program" "processes" "I" ∈ zTB := z_in (zt_1 _ (List.mem_of_getElem? (i := 154) rfl)) rfl
theorem zm_106 : Cond.laysFinal "LassoFinder$Situation" "LassoFinder$Situation" "names" "LLassoFinder$Names;" ∈ zTB := z_in (zt_2 _ (List.mem_of_getElem? (i := 57) rfl)) rfl
theorem zm_107 : Cond.laysFinal "LassoFinder$Situation" "LassoFinder$Situation" "terms" "LLassoFinder$Terms;" ∈ zTB := z_in (zt_2 _ (List.mem_of_getElem? (i := 59) rfl)) rfl
theorem zm_108 : Cond.laysFinal "LassoFinder$Situation" "LassoFinder$Situation" "program" "LLassoFinder$Program;" ∈ zTB := z_in (zt_2 _ (List.mem_of_getElem? (i := 61) rfl)) rfl
theorem zm_109 : Cond.laysFinal "LassoFinder$Situation" "LassoFinder$Situation" "amounts" "[I" ∈ zTB := z_in (zt_2 _ (List.mem_of_getElem? (i := 63) rfl)) rfl
theorem zm_110 : Cond.laysFinal "LassoFinder$Situation" "LassoFinder$Situation" "messages" "[I" ∈ zTB := z_in (zt_2 _ (List.mem_of_getElem? (i := 65) rfl)) rfl
theorem zm_111 : Cond.laysFinal "LassoFinder$Situation" "LassoFinder$Situation" "points" "[I" ∈ zTB := z_in (zt_2 _ (List.mem_of_getElem? (i := 67) rfl)) rfl
theorem zm_112 : Cond.lays "LassoFinder$Situation" "LassoFinder$Situation" "holding" "I" ∈ zTB := z_in (zt_2 _ (List.mem_of_getElem? (i := 69) rfl)) rfl
theorem zm_113 : Cond.lays "LassoFinder$Situation" "LassoFinder$Situation" "present" "J" ∈ zTB := z_in (zt_2 _ (List.mem_of_getElem? (i := 71) rfl)) rfl
theorem zm_114 : Cond.laysFinal "LassoFinder$Terms" "LassoFinder$Terms" "text" "LLassoFinder$Text;" ∈ zTB := z_in (zt_1 _ (List.mem_of_getElem? (i := 175) rfl)) rfl
theorem zm_115 : Cond.laysFinal "LassoFinder$Terms" "LassoFinder$Terms" "names" "LLassoFinder$Names;" ∈ zTB := z_in (zt_1 _ (List.mem_of_getElem? (i := 177) rfl)) rfl
theorem zm_116 : Cond.laysFinal "LassoFinder$Terms" "LassoFinder$Terms" "codes" "[I" ∈ zTB := z_in (zt_1 _ (List.mem_of_getElem? (i := 179) rfl)) rfl
theorem zm_117 : Cond.lays "LassoFinder$Terms" "LassoFinder$Terms" "length" "I" ∈ zTB := z_in (zt_1 _ (List.mem_of_getElem? (i := 181) rfl)) rfl
theorem zm_118 : Cond.laysFinal "LassoFinder$Terms" "LassoFinder$Terms" "waiting" "[I" ∈ zTB := z_in (zt_1 _ (List.mem_of_getElem? (i := 183) rfl)) rfl
theorem zm_119 : Cond.lays "LassoFinder$Terms" "LassoFinder$Terms" "waitingSigns" "I" ∈ zTB := z_in (zt_1 _ (List.mem_of_getElem? (i := 185) rfl)) rfl
theorem zm_120 : Cond.laysFinal "LassoFinder$Terms" "LassoFinder$Terms" "sides" "[I" ∈ zTB := z_in (zt_1 _ (List.mem_of_getElem? (i := 187) rfl)) rfl
theorem zm_121 : Cond.lays "LassoFinder$Terms" "LassoFinder$Terms" "parts" "I" ∈ zTB := z_in (zt_1 _ (List.mem_of_getElem? (i := 189) rfl)) rfl
theorem zm_122 : Cond.lays "LassoFinder$Terms" "LassoFinder$Terms" "open" "I" ∈ zTB := z_in (zt_1 _ (List.mem_of_getElem? (i := 191) rfl)) rfl
theorem zm_123 : Cond.lays "LassoFinder$Terms" "LassoFinder$Terms" "compared" "I" ∈ zTB := z_in (zt_1 _ (List.mem_of_getElem? (i := 193) rfl)) rfl
theorem zm_124 : Cond.laysFinal "LassoFinder$Text" "LassoFinder$Text" "signs" "[C" ∈ zTB := z_in (zt_1 _ (List.mem_of_getElem? (i := 44) rfl)) rfl
theorem zm_125 : Cond.lays "LassoFinder$Text" "LassoFinder$Text" "written" "I" ∈ zTB := z_in (zt_1 _ (List.mem_of_getElem? (i := 46) rfl)) rfl
theorem zm_126 : Cond.lays "LassoFinder$Text" "LassoFinder$Text" "end" "I" ∈ zTB := z_in (zt_1 _ (List.mem_of_getElem? (i := 48) rfl)) rfl
theorem zm_127 : Cond.lays "LassoFinder$Text" "LassoFinder$Text" "at" "I" ∈ zTB := z_in (zt_1 _ (List.mem_of_getElem? (i := 50) rfl)) rfl
theorem zm_128 : Cond.lays "LassoFinder$Text" "LassoFinder$Text" "wrongAt" "I" ∈ zTB := z_in (zt_1 _ (List.mem_of_getElem? (i := 52) rfl)) rfl
theorem zm_129 : Cond.laysFinal "LassoFinder$Tree" "LassoFinder$Tree" "kinds" "[I" ∈ zTB := z_in (zt_1 _ (List.mem_of_getElem? (i := 235) rfl)) rfl
theorem zm_130 : Cond.laysFinal "LassoFinder$Tree" "LassoFinder$Tree" "around" "[I" ∈ zTB := z_in (zt_1 _ (List.mem_of_getElem? (i := 237) rfl)) rfl
theorem zm_131 : Cond.laysFinal "LassoFinder$Tree" "LassoFinder$Tree" "loops" "[I" ∈ zTB := z_in (zt_1 _ (List.mem_of_getElem? (i := 239) rfl)) rfl
theorem zm_132 : Cond.laysFinal "LassoFinder$Tree" "LassoFinder$Tree" "atomics" "[I" ∈ zTB := z_in (zt_2 _ (List.mem_of_getElem? (i := 1) rfl)) rfl
theorem zm_133 : Cond.laysFinal "LassoFinder$Tree" "LassoFinder$Tree" "leads" "[Z" ∈ zTB := z_in (zt_2 _ (List.mem_of_getElem? (i := 3) rfl)) rfl
theorem zm_134 : Cond.laysFinal "LassoFinder$Tree" "LassoFinder$Tree" "next" "[I" ∈ zTB := z_in (zt_2 _ (List.mem_of_getElem? (i := 5) rfl)) rfl
theorem zm_135 : Cond.laysFinal "LassoFinder$Tree" "LassoFinder$Tree" "firstInside" "[I" ∈ zTB := z_in (zt_2 _ (List.mem_of_getElem? (i := 7) rfl)) rfl
theorem zm_136 : Cond.laysFinal "LassoFinder$Tree" "LassoFinder$Tree" "pointOf" "[I" ∈ zTB := z_in (zt_2 _ (List.mem_of_getElem? (i := 9) rfl)) rfl
theorem zm_137 : Cond.laysFinal "LassoFinder$Tree" "LassoFinder$Tree" "number" "[I" ∈ zTB := z_in (zt_2 _ (List.mem_of_getElem? (i := 11) rfl)) rfl
theorem zm_138 : Cond.laysFinal "LassoFinder$Tree" "LassoFinder$Tree" "labelAt" "[I" ∈ zTB := z_in (zt_2 _ (List.mem_of_getElem? (i := 13) rfl)) rfl
theorem zm_139 : Cond.laysFinal "LassoFinder$Tree" "LassoFinder$Tree" "labelled" "[I" ∈ zTB := z_in (zt_2 _ (List.mem_of_getElem? (i := 15) rfl)) rfl
theorem zm_140 : Cond.lays "LassoFinder$Tree" "LassoFinder$Tree" "size" "I" ∈ zTB := z_in (zt_2 _ (List.mem_of_getElem? (i := 17) rfl)) rfl
theorem zm_141 : Cond.lays "LassoFinder$Tree" "LassoFinder$Tree" "points" "I" ∈ zTB := z_in (zt_2 _ (List.mem_of_getElem? (i := 19) rfl)) rfl
theorem zm_142 : Cond.laysFinal "LassoFinder$Truths" "LassoFinder$Truths" "graph" "LLassoFinder$Graph;" ∈ zTB := z_in (zt_2 _ (List.mem_of_getElem? (i := 199) rfl)) rfl
theorem zm_143 : Cond.laysFinal "LassoFinder$Truths" "LassoFinder$Truths" "situation" "LLassoFinder$Situation;" ∈ zTB := z_in (zt_2 _ (List.mem_of_getElem? (i := 201) rfl)) rfl
theorem zm_144 : Cond.laysFinal "LassoFinder$Truths" "LassoFinder$Truths" "formula" "LLassoFinder$Formula;" ∈ zTB := z_in (zt_2 _ (List.mem_of_getElem? (i := 203) rfl)) rfl
theorem zm_145 : Cond.laysFinal "LassoFinder$Truths" "LassoFinder$Truths" "parts" "[I" ∈ zTB := z_in (zt_2 _ (List.mem_of_getElem? (i := 205) rfl)) rfl
theorem zm_146 : Cond.laysFinal "LassoFinder$Truths" "LassoFinder$Truths" "before" "[I" ∈ zTB := z_in (zt_2 _ (List.mem_of_getElem? (i := 207) rfl)) rfl
theorem zm_147 : Cond.laysFinal "LassoFinder$Truths" "LassoFinder$Truths" "settled" "[I" ∈ zTB := z_in (zt_2 _ (List.mem_of_getElem? (i := 209) rfl)) rfl
theorem zm_148 : Cond.laysFinal "LassoFinder$Truths" "LassoFinder$Truths" "satisfied" "[Z" ∈ zTB := z_in (zt_2 _ (List.mem_of_getElem? (i := 211) rfl)) rfl
theorem zm_149 : Cond.lays "LassoFinder$Truths" "LassoFinder$Truths" "guesses" "I" ∈ zTB := z_in (zt_2 _ (List.mem_of_getElem? (i := 213) rfl)) rfl
theorem zm_150 : Cond.lays "LassoFinder$Truths" "LassoFinder$Truths" "unending" "I" ∈ zTB := z_in (zt_2 _ (List.mem_of_getElem? (i := 215) rfl)) rfl
theorem zm_151 : Cond.lays "LassoFinderModel" "LassoFinderModel" "thrown" "I" ∈ zTB := z_in (zt_6 _ (List.mem_of_getElem? (i := 178) rfl)) rfl
theorem zm_152 : Cond.lays "LassoFinderModel" "LassoFinderModel" "length" "I" ∈ zTB := z_in (zt_6 _ (List.mem_of_getElem? (i := 180) rfl)) rfl
theorem zm_153 : Cond.laysFinal "LassoFinderModel" "LassoFinderModel" "text" "[I" ∈ zTB := z_in (zt_6 _ (List.mem_of_getElem? (i := 182) rfl)) rfl
theorem zm_154 : Cond.lays "LassoFinderModel" "LassoFinderModel" "at" "I" ∈ zTB := z_in (zt_6 _ (List.mem_of_getElem? (i := 184) rfl)) rfl
theorem zm_155 : Cond.lays "LassoFinderModel" "LassoFinderModel" "bad" "I" ∈ zTB := z_in (zt_6 _ (List.mem_of_getElem? (i := 186) rfl)) rfl
theorem zm_156 : Cond.lays "LassoFinderModel" "LassoFinderModel" "place" "I" ∈ zTB := z_in (zt_6 _ (List.mem_of_getElem? (i := 188) rfl)) rfl
theorem zm_157 : Cond.lays "LassoFinderModel" "LassoFinderModel" "there" "Z" ∈ zTB := z_in (zt_6 _ (List.mem_of_getElem? (i := 190) rfl)) rfl
theorem zm_158 : Cond.lays "LassoFinderModel" "LassoFinderModel" "vars" "I" ∈ zTB := z_in (zt_6 _ (List.mem_of_getElem? (i := 192) rfl)) rfl
theorem zm_159 : Cond.lays "LassoFinderModel" "LassoFinderModel" "chans" "I" ∈ zTB := z_in (zt_6 _ (List.mem_of_getElem? (i := 194) rfl)) rfl
theorem zm_160 : Cond.laysFinal "LassoFinderModel" "LassoFinderModel" "var" "[I" ∈ zTB := z_in (zt_6 _ (List.mem_of_getElem? (i := 196) rfl)) rfl
theorem zm_161 : Cond.laysFinal "LassoFinderModel" "LassoFinderModel" "chan" "[I" ∈ zTB := z_in (zt_6 _ (List.mem_of_getElem? (i := 198) rfl)) rfl
theorem zm_162 : Cond.laysFinal "LassoFinderModel" "LassoFinderModel" "initial" "[I" ∈ zTB := z_in (zt_6 _ (List.mem_of_getElem? (i := 200) rfl)) rfl
theorem zm_163 : Cond.laysFinal "LassoFinderModel" "LassoFinderModel" "slots" "[I" ∈ zTB := z_in (zt_6 _ (List.mem_of_getElem? (i := 202) rfl)) rfl
theorem zm_164 : Cond.lays "LassoFinderModel" "LassoFinderModel" "nodes" "I" ∈ zTB := z_in (zt_6 _ (List.mem_of_getElem? (i := 204) rfl)) rfl
theorem zm_165 : Cond.laysFinal "LassoFinderModel" "LassoFinderModel" "kind" "[I" ∈ zTB := z_in (zt_6 _ (List.mem_of_getElem? (i := 206) rfl)) rfl
theorem zm_166 : Cond.laysFinal "LassoFinderModel" "LassoFinderModel" "process" "[I" ∈ zTB := z_in (zt_6 _ (List.mem_of_getElem? (i := 208) rfl)) rfl
theorem zm_167 : Cond.laysFinal "LassoFinderModel" "LassoFinderModel" "parent" "[I" ∈ zTB := z_in (zt_6 _ (List.mem_of_getElem? (i := 210) rfl)) rfl
theorem zm_168 : Cond.laysFinal "LassoFinderModel" "LassoFinderModel" "sibling" "[I" ∈ zTB := z_in (zt_6 _ (List.mem_of_getElem? (i := 212) rfl)) rfl
theorem zm_169 : Cond.laysFinal "LassoFinderModel" "LassoFinderModel" "firstOf" "[Z" ∈ zTB := z_in (zt_6 _ (List.mem_of_getElem? (i := 214) rfl)) rfl
theorem zm_170 : Cond.laysFinal "LassoFinderModel" "LassoFinderModel" "atomic" "[I" ∈ zTB := z_in (zt_6 _ (List.mem_of_getElem? (i := 216) rfl)) rfl
theorem zm_171 : Cond.laysFinal "LassoFinderModel" "LassoFinderModel" "point" "[I" ∈ zTB := z_in (zt_6 _ (List.mem_of_getElem? (i := 218) rfl)) rfl
theorem zm_172 : Cond.laysFinal "LassoFinderModel" "LassoFinderModel" "arg" "[I" ∈ zTB := z_in (zt_6 _ (List.mem_of_getElem? (i := 220) rfl)) rfl
theorem zm_173 : Cond.laysFinal "LassoFinderModel" "LassoFinderModel" "into" "[I" ∈ zTB := z_in (zt_6 _ (List.mem_of_getElem? (i := 222) rfl)) rfl
theorem zm_174 : Cond.laysFinal "LassoFinderModel" "LassoFinderModel" "begin" "[I" ∈ zTB := z_in (zt_6 _ (List.mem_of_getElem? (i := 224) rfl)) rfl
theorem zm_175 : Cond.laysFinal "LassoFinderModel" "LassoFinderModel" "end" "[I" ∈ zTB := z_in (zt_6 _ (List.mem_of_getElem? (i := 226) rfl)) rfl
theorem zm_176 : Cond.laysFinal "LassoFinderModel" "LassoFinderModel" "where" "[I" ∈ zTB := z_in (zt_6 _ (List.mem_of_getElem? (i := 228) rfl)) rfl
theorem zm_177 : Cond.laysFinal "LassoFinderModel" "LassoFinderModel" "behind" "[I" ∈ zTB := z_in (zt_6 _ (List.mem_of_getElem? (i := 230) rfl)) rfl
theorem zm_178 : Cond.lays "LassoFinderModel" "LassoFinderModel" "basics" "I" ∈ zTB := z_in (zt_6 _ (List.mem_of_getElem? (i := 232) rfl)) rfl
theorem zm_179 : Cond.laysFinal "LassoFinderModel" "LassoFinderModel" "basicNode" "[I" ∈ zTB := z_in (zt_6 _ (List.mem_of_getElem? (i := 234) rfl)) rfl
theorem zm_180 : Cond.laysFinal "LassoFinderModel" "LassoFinderModel" "basicOf" "[I" ∈ zTB := z_in (zt_6 _ (List.mem_of_getElem? (i := 236) rfl)) rfl
theorem zm_181 : Cond.lays "LassoFinderModel" "LassoFinderModel" "processes" "I" ∈ zTB := z_in (zt_6 _ (List.mem_of_getElem? (i := 238) rfl)) rfl
theorem zm_182 : Cond.laysFinal "LassoFinderModel" "LassoFinderModel" "points" "[I" ∈ zTB := z_in (zt_7 _ (List.mem_of_getElem? (i := 0) rfl)) rfl
theorem zm_183 : Cond.laysFinal "LassoFinderModel" "LassoFinderModel" "firstNode" "[I" ∈ zTB := z_in (zt_7 _ (List.mem_of_getElem? (i := 2) rfl)) rfl
theorem zm_184 : Cond.laysFinal "LassoFinderModel" "LassoFinderModel" "labels" "[I" ∈ zTB := z_in (zt_7 _ (List.mem_of_getElem? (i := 4) rfl)) rfl
theorem zm_185 : Cond.laysFinal "LassoFinderModel" "LassoFinderModel" "nodeAt" "[I" ∈ zTB := z_in (zt_7 _ (List.mem_of_getElem? (i := 6) rfl)) rfl
theorem zm_186 : Cond.laysFinal "LassoFinderModel" "LassoFinderModel" "mask" "[J" ∈ zTB := z_in (zt_7 _ (List.mem_of_getElem? (i := 8) rfl)) rfl
theorem zm_187 : Cond.lays "LassoFinderModel" "LassoFinderModel" "codes" "I" ∈ zTB := z_in (zt_7 _ (List.mem_of_getElem? (i := 10) rfl)) rfl
theorem zm_188 : Cond.laysFinal "LassoFinderModel" "LassoFinderModel" "code" "[I" ∈ zTB := z_in (zt_7 _ (List.mem_of_getElem? (i := 12) rfl)) rfl
theorem zm_189 : Cond.lays "LassoFinderModel" "LassoFinderModel" "open" "I" ∈ zTB := z_in (zt_7 _ (List.mem_of_getElem? (i := 14) rfl)) rfl
theorem zm_190 : Cond.laysFinal "LassoFinderModel" "LassoFinderModel" "block" "[I" ∈ zTB := z_in (zt_7 _ (List.mem_of_getElem? (i := 16) rfl)) rfl
theorem zm_191 : Cond.laysFinal "LassoFinderModel" "LassoFinderModel" "blockNode" "[I" ∈ zTB := z_in (zt_7 _ (List.mem_of_getElem? (i := 18) rfl)) rfl
theorem zm_192 : Cond.laysFinal "LassoFinderModel" "LassoFinderModel" "latest" "[I" ∈ zTB := z_in (zt_7 _ (List.mem_of_getElem? (i := 20) rfl)) rfl
theorem zm_193 : Cond.lays "LassoFinderModel" "LassoFinderModel" "waiting" "I" ∈ zTB := z_in (zt_7 _ (List.mem_of_getElem? (i := 22) rfl)) rfl
theorem zm_194 : Cond.laysFinal "LassoFinderModel" "LassoFinderModel" "signs" "[I" ∈ zTB := z_in (zt_7 _ (List.mem_of_getElem? (i := 24) rfl)) rfl
theorem zm_195 : Cond.lays "LassoFinderModel" "LassoFinderModel" "states" "I" ∈ zTB := z_in (zt_7 _ (List.mem_of_getElem? (i := 26) rfl)) rfl
theorem zm_196 : Cond.lays "LassoFinderModel" "LassoFinderModel" "steps" "I" ∈ zTB := z_in (zt_7 _ (List.mem_of_getElem? (i := 28) rfl)) rfl
theorem zm_197 : Cond.lays "LassoFinderModel" "LassoFinderModel" "over" "Z" ∈ zTB := z_in (zt_7 _ (List.mem_of_getElem? (i := 30) rfl)) rfl
theorem zm_198 : Cond.laysFinal "LassoFinderModel" "LassoFinderModel" "key" "[J" ∈ zTB := z_in (zt_7 _ (List.mem_of_getElem? (i := 32) rfl)) rfl
theorem zm_199 : Cond.laysFinal "LassoFinderModel" "LassoFinderModel" "first" "[I" ∈ zTB := z_in (zt_7 _ (List.mem_of_getElem? (i := 34) rfl)) rfl
theorem zm_200 : Cond.laysFinal "LassoFinderModel" "LassoFinderModel" "target" "[I" ∈ zTB := z_in (zt_7 _ (List.mem_of_getElem? (i := 36) rfl)) rfl
theorem zm_201 : Cond.laysFinal "LassoFinderModel" "LassoFinderModel" "source" "[I" ∈ zTB := z_in (zt_7 _ (List.mem_of_getElem? (i := 38) rfl)) rfl
theorem zm_202 : Cond.laysFinal "LassoFinderModel" "LassoFinderModel" "doer" "[I" ∈ zTB := z_in (zt_7 _ (List.mem_of_getElem? (i := 40) rfl)) rfl
theorem zm_203 : Cond.laysFinal "LassoFinderModel" "LassoFinderModel" "receiver" "[I" ∈ zTB := z_in (zt_7 _ (List.mem_of_getElem? (i := 42) rfl)) rfl
theorem zm_204 : Cond.laysFinal "LassoFinderModel" "LassoFinderModel" "firstInto" "[I" ∈ zTB := z_in (zt_7 _ (List.mem_of_getElem? (i := 44) rfl)) rfl
theorem zm_205 : Cond.laysFinal "LassoFinderModel" "LassoFinderModel" "stepInto" "[I" ∈ zTB := z_in (zt_7 _ (List.mem_of_getElem? (i := 46) rfl)) rfl
theorem zm_206 : Cond.laysFinal "LassoFinderModel" "LassoFinderModel" "value" "[I" ∈ zTB := z_in (zt_7 _ (List.mem_of_getElem? (i := 48) rfl)) rfl
theorem zm_207 : Cond.laysFinal "LassoFinderModel" "LassoFinderModel" "many" "[I" ∈ zTB := z_in (zt_7 _ (List.mem_of_getElem? (i := 50) rfl)) rfl
theorem zm_208 : Cond.laysFinal "LassoFinderModel" "LassoFinderModel" "message" "[I" ∈ zTB := z_in (zt_7 _ (List.mem_of_getElem? (i := 52) rfl)) rfl
theorem zm_209 : Cond.laysFinal "LassoFinderModel" "LassoFinderModel" "stands" "[I" ∈ zTB := z_in (zt_7 _ (List.mem_of_getElem? (i := 54) rfl)) rfl
theorem zm_210 : Cond.lays "LassoFinderModel" "LassoFinderModel" "holds" "I" ∈ zTB := z_in (zt_7 _ (List.mem_of_getElem? (i := 56) rfl)) rfl
theorem zm_211 : Cond.laysFinal "LassoFinderModel" "LassoFinderModel" "stack" "[I" ∈ zTB := z_in (zt_7 _ (List.mem_of_getElem? (i := 58) rfl)) rfl
theorem zm_212 : Cond.lays "LassoFinderModel" "LassoFinderModel" "asked" "Z" ∈ zTB := z_in (zt_7 _ (List.mem_of_getElem? (i := 60) rfl)) rfl
theorem zm_213 : Cond.lays "LassoFinderModel" "LassoFinderModel" "size" "I" ∈ zTB := z_in (zt_7 _ (List.mem_of_getElem? (i := 62) rfl)) rfl
theorem zm_214 : Cond.laysFinal "LassoFinderModel" "LassoFinderModel" "sign" "[I" ∈ zTB := z_in (zt_7 _ (List.mem_of_getElem? (i := 64) rfl)) rfl
theorem zm_215 : Cond.lays "LassoFinderModel" "LassoFinderModel" "turns" "I" ∈ zTB := z_in (zt_7 _ (List.mem_of_getElem? (i := 66) rfl)) rfl
theorem zm_216 : Cond.lays "LassoFinderModel" "LassoFinderModel" "met" "I" ∈ zTB := z_in (zt_7 _ (List.mem_of_getElem? (i := 68) rfl)) rfl
theorem zm_217 : Cond.laysFinal "LassoFinderModel" "LassoFinderModel" "kept" "[I" ∈ zTB := z_in (zt_7 _ (List.mem_of_getElem? (i := 70) rfl)) rfl
theorem zm_218 : Cond.lays "LassoFinderModel" "LassoFinderModel" "modelCodes" "I" ∈ zTB := z_in (zt_7 _ (List.mem_of_getElem? (i := 72) rfl)) rfl
theorem zm_219 : Cond.laysFinal "LassoFinderModel" "LassoFinderModel" "turn" "[I" ∈ zTB := z_in (zt_7 _ (List.mem_of_getElem? (i := 74) rfl)) rfl
theorem zm_220 : Cond.lays "LassoFinderModel" "LassoFinderModel" "atoms" "I" ∈ zTB := z_in (zt_7 _ (List.mem_of_getElem? (i := 76) rfl)) rfl
theorem zm_221 : Cond.laysFinal "LassoFinderModel" "LassoFinderModel" "atomProcess" "[I" ∈ zTB := z_in (zt_7 _ (List.mem_of_getElem? (i := 78) rfl)) rfl
theorem zm_222 : Cond.laysFinal "LassoFinderModel" "LassoFinderModel" "atomPoint" "[I" ∈ zTB := z_in (zt_7 _ (List.mem_of_getElem? (i := 80) rfl)) rfl
theorem zm_223 : Cond.laysFinal "LassoFinderModel" "LassoFinderModel" "atomBegin" "[I" ∈ zTB := z_in (zt_7 _ (List.mem_of_getElem? (i := 82) rfl)) rfl
theorem zm_224 : Cond.laysFinal "LassoFinderModel" "LassoFinderModel" "atomEnd" "[I" ∈ zTB := z_in (zt_7 _ (List.mem_of_getElem? (i := 84) rfl)) rfl
theorem zm_225 : Cond.laysFinal "LassoFinderModel" "LassoFinderModel" "look" "[I" ∈ zTB := z_in (zt_7 _ (List.mem_of_getElem? (i := 86) rfl)) rfl
theorem zm_226 : Cond.laysFinal "LassoFinderModel" "LassoFinderModel" "deep" "[I" ∈ zTB := z_in (zt_7 _ (List.mem_of_getElem? (i := 88) rfl)) rfl
theorem zm_227 : Cond.laysFinal "LassoFinderModel" "LassoFinderModel" "good" "[Z" ∈ zTB := z_in (zt_7 _ (List.mem_of_getElem? (i := 90) rfl)) rfl
theorem zm_228 : Cond.laysFinal "LassoFinderModel" "LassoFinderModel" "far" "[I" ∈ zTB := z_in (zt_7 _ (List.mem_of_getElem? (i := 92) rfl)) rfl
theorem zm_229 : Cond.lays "LassoFinderModel" "LassoFinderModel" "stem" "I" ∈ zTB := z_in (zt_7 _ (List.mem_of_getElem? (i := 94) rfl)) rfl
theorem zm_230 : Cond.lays "LassoFinderModel" "LassoFinderModel" "cycle" "I" ∈ zTB := z_in (zt_7 _ (List.mem_of_getElem? (i := 96) rfl)) rfl
theorem zm_231 : Cond.laysFinal "LassoFinderModel" "LassoFinderModel" "row" "[I" ∈ zTB := z_in (zt_7 _ (List.mem_of_getElem? (i := 98) rfl)) rfl
theorem zm_232 : Cond.laysFinal "LassoFinderModel" "LassoFinderModel" "tried" "[I" ∈ zTB := z_in (zt_7 _ (List.mem_of_getElem? (i := 100) rfl)) rfl
theorem zm_233 : Cond.lays "LassoFinderModel" "LassoFinderModel" "walked" "I" ∈ zTB := z_in (zt_7 _ (List.mem_of_getElem? (i := 102) rfl)) rfl
theorem zm_234 : Cond.laysFinal "LassoFinderModel" "LassoFinderModel" "path" "[I" ∈ zTB := z_in (zt_7 _ (List.mem_of_getElem? (i := 104) rfl)) rfl
set_option maxRecDepth 100000 in
theorem zi0 : ∀ w ∈ u_ws "LassoFinder" zT0 13, w ∈ zTB := List.forall_mem_cons.mpr ⟨zm_26, List.forall_mem_cons.mpr ⟨zm_27, List.forall_mem_cons.mpr ⟨zm_28, List.forall_mem_cons.mpr ⟨zm_29, List.forall_mem_cons.mpr ⟨zm_30, List.forall_mem_cons.mpr ⟨zm_31, List.forall_mem_cons.mpr ⟨zm_32, List.forall_mem_cons.mpr ⟨zm_33, List.forall_mem_cons.mpr ⟨zm_34, List.forall_mem_cons.mpr ⟨zm_35, List.forall_mem_cons.mpr ⟨zm_36, List.forall_mem_cons.mpr ⟨zm_37, List.forall_mem_cons.mpr ⟨zm_38, (fun _ h => absurd h List.not_mem_nil)⟩⟩⟩⟩⟩⟩⟩⟩⟩⟩⟩⟩⟩
theorem zZ0 : zCls 0 "LassoFinder" zT0 13 zty0 := ⟨rfl, zi0, by decide +kernel, by decide +kernel⟩
theorem zD0 : ∀ j, j < 13 → defaultValue (zty0 j) = vp_V [.null, .null, .null, .null, .null, .null, .null, .null, .null, .null, .int 0, .int 0, .int 0] j := by decide +kernel
set_option maxRecDepth 100000 in
theorem zi1 : ∀ w ∈ u_ws "LassoFinder$Formula" zT1 11, w ∈ zTB := List.forall_mem_cons.mpr ⟨zm_39, List.forall_mem_cons.mpr ⟨zm_40, List.forall_mem_cons.mpr ⟨zm_41, List.forall_mem_cons.mpr ⟨zm_42, List.forall_mem_cons.mpr ⟨zm_43, List.forall_mem_cons.mpr ⟨zm_44, List.forall_mem_cons.mpr ⟨zm_45, List.forall_mem_cons.mpr ⟨zm_46, List.forall_mem_cons.mpr ⟨zm_47, List.forall_mem_cons.mpr ⟨zm_48, List.forall_mem_cons.mpr ⟨zm_49, (fun _ h => absurd h List.not_mem_nil)⟩⟩⟩⟩⟩⟩⟩⟩⟩⟩⟩
theorem zZ1 : zCls 1 "LassoFinder$Formula" zT1 11 zty1 := ⟨rfl, zi1, by decide +kernel, by decide +kernel⟩
theorem zD1 : ∀ j, j < 11 → defaultValue (zty1 j) = vp_V [.null, .null, .null, .null, .null, .null, .null, .int 0, .int 0, .int 0, .int 0] j := by decide +kernel
set_option maxRecDepth 100000 in
theorem zi2 : ∀ w ∈ u_ws "LassoFinder$Graph" zT2 11, w ∈ zTB := List.forall_mem_cons.mpr ⟨zm_50, List.forall_mem_cons.mpr ⟨zm_51, List.forall_mem_cons.mpr ⟨zm_52, List.forall_mem_cons.mpr ⟨zm_53, List.forall_mem_cons.mpr ⟨zm_54, List.forall_mem_cons.mpr ⟨zm_55, List.forall_mem_cons.mpr ⟨zm_56, List.forall_mem_cons.mpr ⟨zm_57, List.forall_mem_cons.mpr ⟨zm_58, List.forall_mem_cons.mpr ⟨zm_59, List.forall_mem_cons.mpr ⟨zm_60, (fun _ h => absurd h List.not_mem_nil)⟩⟩⟩⟩⟩⟩⟩⟩⟩⟩⟩
theorem zZ2 : zCls 2 "LassoFinder$Graph" zT2 11 zty2 := ⟨rfl, zi2, by decide +kernel, by decide +kernel⟩
theorem zD2 : ∀ j, j < 11 → defaultValue (zty2 j) = vp_V [.null, .null, .null, .null, .null, .null, .null, .null, .null, .int 0, .int 0] j := by decide +kernel
set_option maxRecDepth 100000 in
theorem zi3 : ∀ w ∈ u_ws "LassoFinder$LassoSearch" zT3 20, w ∈ zTB := List.forall_mem_cons.mpr ⟨zm_61, List.forall_mem_cons.mpr ⟨zm_62, List.forall_mem_cons.mpr ⟨zm_63, List.forall_mem_cons.mpr ⟨zm_64, List.forall_mem_cons.mpr ⟨zm_65, List.forall_mem_cons.mpr ⟨zm_66, List.forall_mem_cons.mpr ⟨zm_67, List.forall_mem_cons.mpr ⟨zm_68, List.forall_mem_cons.mpr ⟨zm_69, List.forall_mem_cons.mpr ⟨zm_70, List.forall_mem_cons.mpr ⟨zm_71, List.forall_mem_cons.mpr ⟨zm_72, List.forall_mem_cons.mpr ⟨zm_73, List.forall_mem_cons.mpr ⟨zm_74, List.forall_mem_cons.mpr ⟨zm_75, List.forall_mem_cons.mpr ⟨zm_76, List.forall_mem_cons.mpr ⟨zm_77, List.forall_mem_cons.mpr ⟨zm_78, List.forall_mem_cons.mpr ⟨zm_79, List.forall_mem_cons.mpr ⟨zm_80, (fun _ h => absurd h List.not_mem_nil)⟩⟩⟩⟩⟩⟩⟩⟩⟩⟩⟩⟩⟩⟩⟩⟩⟩⟩⟩⟩
theorem zZ3 : zCls 3 "LassoFinder$LassoSearch" zT3 20 zty3 := ⟨rfl, zi3, by decide +kernel, by decide +kernel⟩
theorem zD3 : ∀ j, j < 20 → defaultValue (zty3 j) = vp_V [.null, .null, .null, .null, .null, .null, .null, .null, .int 0, .int 0, .int 0, .null, .null, .int 0, .null, .null, .null, .int 0, .int 0, .int 0] j := by decide +kernel
set_option maxRecDepth 100000 in
theorem zi4 : ∀ w ∈ u_ws "LassoFinder$ModelReader" zT4 5, w ∈ zTB := List.forall_mem_cons.mpr ⟨zm_81, List.forall_mem_cons.mpr ⟨zm_82, List.forall_mem_cons.mpr ⟨zm_83, List.forall_mem_cons.mpr ⟨zm_84, List.forall_mem_cons.mpr ⟨zm_85, (fun _ h => absurd h List.not_mem_nil)⟩⟩⟩⟩⟩
theorem zZ4 : zCls 4 "LassoFinder$ModelReader" zT4 5 zty4 := ⟨rfl, zi4, by decide +kernel, by decide +kernel⟩
theorem zD4 : ∀ j, j < 5 → defaultValue (zty4 j) = vp_V [.null, .null, .null, .null, .null] j := by decide +kernel
set_option maxRecDepth 100000 in
theorem zi5 : ∀ w ∈ u_ws "LassoFinder$Names" zT5 6, w ∈ zTB := List.forall_mem_cons.mpr ⟨zm_86, List.forall_mem_cons.mpr ⟨zm_87, List.forall_mem_cons.mpr ⟨zm_88, List.forall_mem_cons.mpr ⟨zm_89, List.forall_mem_cons.mpr ⟨zm_90, List.forall_mem_cons.mpr ⟨zm_91, (fun _ h => absurd h List.not_mem_nil)⟩⟩⟩⟩⟩⟩
theorem zZ5 : zCls 5 "LassoFinder$Names" zT5 6 zty5 := ⟨rfl, zi5, by decide +kernel, by decide +kernel⟩
theorem zD5 : ∀ j, j < 6 → defaultValue (zty5 j) = vp_V [.null, .null, .null, .null, .int 0, .int 0] j := by decide +kernel
set_option maxRecDepth 100000 in
theorem zi6 : ∀ w ∈ u_ws "LassoFinder$Program" zT6 14, w ∈ zTB := List.forall_mem_cons.mpr ⟨zm_92, List.forall_mem_cons.mpr ⟨zm_93, List.forall_mem_cons.mpr ⟨zm_94, List.forall_mem_cons.mpr ⟨zm_95, List.forall_mem_cons.mpr ⟨zm_96, List.forall_mem_cons.mpr ⟨zm_97, List.forall_mem_cons.mpr ⟨zm_98, List.forall_mem_cons.mpr ⟨zm_99, List.forall_mem_cons.mpr ⟨zm_100, List.forall_mem_cons.mpr ⟨zm_101, List.forall_mem_cons.mpr ⟨zm_102, List.forall_mem_cons.mpr ⟨zm_103, List.forall_mem_cons.mpr ⟨zm_104, List.forall_mem_cons.mpr ⟨zm_105, (fun _ h => absurd h List.not_mem_nil)⟩⟩⟩⟩⟩⟩⟩⟩⟩⟩⟩⟩⟩⟩
theorem zZ6 : zCls 6 "LassoFinder$Program" zT6 14 zty6 := ⟨rfl, zi6, by decide +kernel, by decide +kernel⟩
theorem zD6 : ∀ j, j < 14 → defaultValue (zty6 j) = vp_V [.null, .null, .null, .null, .null, .null, .null, .null, .null, .null, .null, .long 0, .int 0, .int 0] j := by decide +kernel
set_option maxRecDepth 100000 in
theorem zi7 : ∀ w ∈ u_ws "LassoFinder$Situation" zT7 8, w ∈ zTB := List.forall_mem_cons.mpr ⟨zm_106, List.forall_mem_cons.mpr ⟨zm_107, List.forall_mem_cons.mpr ⟨zm_108, List.forall_mem_cons.mpr ⟨zm_109, List.forall_mem_cons.mpr ⟨zm_110, List.forall_mem_cons.mpr ⟨zm_111, List.forall_mem_cons.mpr ⟨zm_112, List.forall_mem_cons.mpr ⟨zm_113, (fun _ h => absurd h List.not_mem_nil)⟩⟩⟩⟩⟩⟩⟩⟩
theorem zZ7 : zCls 7 "LassoFinder$Situation" zT7 8 zty7 := ⟨rfl, zi7, by decide +kernel, by decide +kernel⟩
theorem zD7 : ∀ j, j < 8 → defaultValue (zty7 j) = vp_V [.null, .null, .null, .null, .null, .null, .int 0, .long 0] j := by decide +kernel
set_option maxRecDepth 100000 in
theorem zi8 : ∀ w ∈ u_ws "LassoFinder$Terms" zT8 10, w ∈ zTB := List.forall_mem_cons.mpr ⟨zm_114, List.forall_mem_cons.mpr ⟨zm_115, List.forall_mem_cons.mpr ⟨zm_116, List.forall_mem_cons.mpr ⟨zm_117, List.forall_mem_cons.mpr ⟨zm_118, List.forall_mem_cons.mpr ⟨zm_119, List.forall_mem_cons.mpr ⟨zm_120, List.forall_mem_cons.mpr ⟨zm_121, List.forall_mem_cons.mpr ⟨zm_122, List.forall_mem_cons.mpr ⟨zm_123, (fun _ h => absurd h List.not_mem_nil)⟩⟩⟩⟩⟩⟩⟩⟩⟩⟩
theorem zZ8 : zCls 8 "LassoFinder$Terms" zT8 10 zty8 := ⟨rfl, zi8, by decide +kernel, by decide +kernel⟩
theorem zD8 : ∀ j, j < 10 → defaultValue (zty8 j) = vp_V [.null, .null, .null, .int 0, .null, .int 0, .null, .int 0, .int 0, .int 0] j := by decide +kernel
set_option maxRecDepth 100000 in
theorem zi9 : ∀ w ∈ u_ws "LassoFinder$Text" zT9 5, w ∈ zTB := List.forall_mem_cons.mpr ⟨zm_124, List.forall_mem_cons.mpr ⟨zm_125, List.forall_mem_cons.mpr ⟨zm_126, List.forall_mem_cons.mpr ⟨zm_127, List.forall_mem_cons.mpr ⟨zm_128, (fun _ h => absurd h List.not_mem_nil)⟩⟩⟩⟩⟩
theorem zZ9 : zCls 9 "LassoFinder$Text" zT9 5 zty9 := ⟨rfl, zi9, by decide +kernel, by decide +kernel⟩
theorem zD9 : ∀ j, j < 5 → defaultValue (zty9 j) = vp_V [.null, .int 0, .int 0, .int 0, .int 0] j := by decide +kernel
set_option maxRecDepth 100000 in
theorem zi10 : ∀ w ∈ u_ws "LassoFinder$Tree" zT10 13, w ∈ zTB := List.forall_mem_cons.mpr ⟨zm_129, List.forall_mem_cons.mpr ⟨zm_130, List.forall_mem_cons.mpr ⟨zm_131, List.forall_mem_cons.mpr ⟨zm_132, List.forall_mem_cons.mpr ⟨zm_133, List.forall_mem_cons.mpr ⟨zm_134, List.forall_mem_cons.mpr ⟨zm_135, List.forall_mem_cons.mpr ⟨zm_136, List.forall_mem_cons.mpr ⟨zm_137, List.forall_mem_cons.mpr ⟨zm_138, List.forall_mem_cons.mpr ⟨zm_139, List.forall_mem_cons.mpr ⟨zm_140, List.forall_mem_cons.mpr ⟨zm_141, (fun _ h => absurd h List.not_mem_nil)⟩⟩⟩⟩⟩⟩⟩⟩⟩⟩⟩⟩⟩
theorem zZ10 : zCls 10 "LassoFinder$Tree" zT10 13 zty10 := ⟨rfl, zi10, by decide +kernel, by decide +kernel⟩
theorem zD10 : ∀ j, j < 13 → defaultValue (zty10 j) = vp_V [.null, .null, .null, .null, .null, .null, .null, .null, .null, .null, .null, .int 0, .int 0] j := by decide +kernel
set_option maxRecDepth 100000 in
theorem zi11 : ∀ w ∈ u_ws "LassoFinder$Truths" zT11 9, w ∈ zTB := List.forall_mem_cons.mpr ⟨zm_142, List.forall_mem_cons.mpr ⟨zm_143, List.forall_mem_cons.mpr ⟨zm_144, List.forall_mem_cons.mpr ⟨zm_145, List.forall_mem_cons.mpr ⟨zm_146, List.forall_mem_cons.mpr ⟨zm_147, List.forall_mem_cons.mpr ⟨zm_148, List.forall_mem_cons.mpr ⟨zm_149, List.forall_mem_cons.mpr ⟨zm_150, (fun _ h => absurd h List.not_mem_nil)⟩⟩⟩⟩⟩⟩⟩⟩⟩
theorem zZ11 : zCls 11 "LassoFinder$Truths" zT11 9 zty11 := ⟨rfl, zi11, by decide +kernel, by decide +kernel⟩
theorem zD11 : ∀ j, j < 9 → defaultValue (zty11 j) = vp_V [.null, .null, .null, .null, .null, .null, .null, .int 0, .int 0] j := by decide +kernel
set_option maxRecDepth 100000 in
theorem zi12 : ∀ w ∈ u_ws "LassoFinderModel" zT12 84, w ∈ zTB := List.forall_mem_cons.mpr ⟨zm_151, List.forall_mem_cons.mpr ⟨zm_152, List.forall_mem_cons.mpr ⟨zm_153, List.forall_mem_cons.mpr ⟨zm_154, List.forall_mem_cons.mpr ⟨zm_155, List.forall_mem_cons.mpr ⟨zm_156, List.forall_mem_cons.mpr ⟨zm_157, List.forall_mem_cons.mpr ⟨zm_158, List.forall_mem_cons.mpr ⟨zm_159, List.forall_mem_cons.mpr ⟨zm_160, List.forall_mem_cons.mpr ⟨zm_161, List.forall_mem_cons.mpr ⟨zm_162, List.forall_mem_cons.mpr ⟨zm_163, List.forall_mem_cons.mpr ⟨zm_164, List.forall_mem_cons.mpr ⟨zm_165, List.forall_mem_cons.mpr ⟨zm_166, List.forall_mem_cons.mpr ⟨zm_167, List.forall_mem_cons.mpr ⟨zm_168, List.forall_mem_cons.mpr ⟨zm_169, List.forall_mem_cons.mpr ⟨zm_170, List.forall_mem_cons.mpr ⟨zm_171, List.forall_mem_cons.mpr ⟨zm_172, List.forall_mem_cons.mpr ⟨zm_173, List.forall_mem_cons.mpr ⟨zm_174, List.forall_mem_cons.mpr ⟨zm_175, List.forall_mem_cons.mpr ⟨zm_176, List.forall_mem_cons.mpr ⟨zm_177, List.forall_mem_cons.mpr ⟨zm_178, List.forall_mem_cons.mpr ⟨zm_179, List.forall_mem_cons.mpr ⟨zm_180, List.forall_mem_cons.mpr ⟨zm_181, List.forall_mem_cons.mpr ⟨zm_182, List.forall_mem_cons.mpr ⟨zm_183, List.forall_mem_cons.mpr ⟨zm_184, List.forall_mem_cons.mpr ⟨zm_185, List.forall_mem_cons.mpr ⟨zm_186, List.forall_mem_cons.mpr ⟨zm_187, List.forall_mem_cons.mpr ⟨zm_188, List.forall_mem_cons.mpr ⟨zm_189, List.forall_mem_cons.mpr ⟨zm_190, List.forall_mem_cons.mpr ⟨zm_191, List.forall_mem_cons.mpr ⟨zm_192, List.forall_mem_cons.mpr ⟨zm_193, List.forall_mem_cons.mpr ⟨zm_194, List.forall_mem_cons.mpr ⟨zm_195, List.forall_mem_cons.mpr ⟨zm_196, List.forall_mem_cons.mpr ⟨zm_197, List.forall_mem_cons.mpr ⟨zm_198, List.forall_mem_cons.mpr ⟨zm_199, List.forall_mem_cons.mpr ⟨zm_200, List.forall_mem_cons.mpr ⟨zm_201, List.forall_mem_cons.mpr ⟨zm_202, List.forall_mem_cons.mpr ⟨zm_203, List.forall_mem_cons.mpr ⟨zm_204, List.forall_mem_cons.mpr ⟨zm_205, List.forall_mem_cons.mpr ⟨zm_206, List.forall_mem_cons.mpr ⟨zm_207, List.forall_mem_cons.mpr ⟨zm_208, List.forall_mem_cons.mpr ⟨zm_209, List.forall_mem_cons.mpr ⟨zm_210, List.forall_mem_cons.mpr ⟨zm_211, List.forall_mem_cons.mpr ⟨zm_212, List.forall_mem_cons.mpr ⟨zm_213, List.forall_mem_cons.mpr ⟨zm_214, List.forall_mem_cons.mpr ⟨zm_215, List.forall_mem_cons.mpr ⟨zm_216, List.forall_mem_cons.mpr ⟨zm_217, List.forall_mem_cons.mpr ⟨zm_218, List.forall_mem_cons.mpr ⟨zm_219, List.forall_mem_cons.mpr ⟨zm_220, List.forall_mem_cons.mpr ⟨zm_221, List.forall_mem_cons.mpr ⟨zm_222, List.forall_mem_cons.mpr ⟨zm_223, List.forall_mem_cons.mpr ⟨zm_224, List.forall_mem_cons.mpr ⟨zm_225, List.forall_mem_cons.mpr ⟨zm_226, List.forall_mem_cons.mpr ⟨zm_227, List.forall_mem_cons.mpr ⟨zm_228, List.forall_mem_cons.mpr ⟨zm_229, List.forall_mem_cons.mpr ⟨zm_230, List.forall_mem_cons.mpr ⟨zm_231, List.forall_mem_cons.mpr ⟨zm_232, List.forall_mem_cons.mpr ⟨zm_233, List.forall_mem_cons.mpr ⟨zm_234, (fun _ h => absurd h List.not_mem_nil)⟩⟩⟩⟩⟩⟩⟩⟩⟩⟩⟩⟩⟩⟩⟩⟩⟩⟩⟩⟩⟩⟩⟩⟩⟩⟩⟩⟩⟩⟩⟩⟩⟩⟩⟩⟩⟩⟩⟩⟩⟩⟩⟩⟩⟩⟩⟩⟩⟩⟩⟩⟩⟩⟩⟩⟩⟩⟩⟩⟩⟩⟩⟩⟩⟩⟩⟩⟩⟩⟩⟩⟩⟩⟩⟩⟩⟩⟩⟩⟩⟩⟩⟩⟩
theorem zZ12 : zCls 12 "LassoFinderModel" zT12 84 zty12 := ⟨rfl, zi12, by decide +kernel, by decide +kernel⟩
theorem zD12 : ∀ j, j < 84 → defaultValue (zty12 j) = vp_V [.int 0, .int 0, .null, .int 0, .int 0, .int 0, .int 0, .int 0, .int 0, .null, .null, .null, .null, .int 0, .null, .null, .null, .null, .null, .null, .null, .null, .null, .null, .null, .null, .null, .int 0, .null, .null, .int 0, .null, .null, .null, .null, .null, .int 0, .null, .int 0, .null, .null, .null, .int 0, .null, .int 0, .int 0, .int 0, .null, .null, .null, .null, .null, .null, .null, .null, .null, .null, .null, .null, .int 0, .null, .int 0, .int 0, .null, .int 0, .int 0, .null, .int 0, .null, .int 0, .null, .null, .null, .null, .null, .null, .null, .null, .int 0, .int 0, .null, .null, .int 0, .null] j := by decide +kernel
