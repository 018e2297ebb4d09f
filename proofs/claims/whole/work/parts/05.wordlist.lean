theorem w_0 : Cond.fieldLink RX0 18 "LeaningTrees$Forest" "FIRST" "[I" ∈ lw_gd := gd (List.mem_of_getElem? (i := 27) (by decide +kernel)) rfl
theorem w_1 : Cond.methodLink RX0 21 yX0_growAll ∈ lw_gd := gd (List.mem_of_getElem? (i := 29) (by decide +kernel)) rfl
theorem w_2 : Cond.code yX0_growAll cX0_growAll 9 (some .int) ∈ lw_gd := gd (List.mem_of_getElem? (i := 32) (by decide +kernel)) rfl
theorem w_3 : Cond.initialized RX0 ∈ lw_gd := gd (List.mem_of_getElem? (i := 2) (by decide +kernel)) rfl
theorem w_4 : Cond.instanceMethod yX0_growAll ∈ lw_gd := gd (List.mem_of_getElem? (i := 31) (by decide +kernel)) rfl
theorem w_5 : Cond.selects RX0 yX0_growAll yX0_growAll ∈ lw_gd := gp (List.mem_of_getElem? (i := 0) (by decide +kernel)) rfl
theorem mvX0_growAll : MV yX0_growAll cX0_growAll 9 (some .int) RX0 3 := ⟨⟨w_4, w_5, w_3, w_2⟩, rfl, by decide, by decide, by decide +kernel⟩
theorem w_6 : Cond.fieldLink RX0 15 "LeaningTrees$Forest" "sizes" "[I" ∈ lw_gd := gd (List.mem_of_getElem? (i := 34) (by decide +kernel)) rfl
theorem w_7 : Cond.fieldLink RX6 12 "LeaningTrees" "forest" "LLeaningTrees$Forest;" ∈ lw_gd := gd (List.mem_of_getElem? (i := 162) (by decide +kernel)) rfl
theorem w_8 : Cond.fieldLink RX6 70 "LeaningTrees" "tree" "I" ∈ lw_gd := gd (List.mem_of_getElem? (i := 171) (by decide +kernel)) rfl
theorem w_9 : Cond.methodLink RX6 162 yX0_sizeOf ∈ lw_gd := gd (List.mem_of_getElem? (i := 202) (by decide +kernel)) rfl
theorem w_10 : Cond.code yX0_sizeOf cX0_sizeOf 2 (some .int) ∈ lw_gd := gd (List.mem_of_getElem? (i := 205) (by decide +kernel)) rfl
theorem w_11 : Cond.instanceMethod yX0_sizeOf ∈ lw_gd := gd (List.mem_of_getElem? (i := 203) (by decide +kernel)) rfl
theorem w_12 : Cond.selects RX0 yX0_sizeOf yX0_sizeOf ∈ lw_gd := gd (List.mem_of_getElem? (i := 204) (by decide +kernel)) rfl
theorem mvX0_sizeOf : MV yX0_sizeOf cX0_sizeOf 2 (some .int) RX0 1 := ⟨⟨w_11, w_12, w_3, w_10⟩, rfl, by decide, by decide, by decide +kernel⟩
theorem w_13 : Cond.methodLink RX0 25 yX0_isSize ∈ lw_gd := gd (List.mem_of_getElem? (i := 159) (by decide +kernel)) rfl
theorem w_14 : Cond.code yX0_isSize cX0_isSize 1 (some .boolean) ∈ lw_gd := gd (List.mem_of_getElem? (i := 161) (by decide +kernel)) rfl
theorem w_15 : Cond.static yX0_isSize ∈ lw_gd := gd (List.mem_of_getElem? (i := 160) (by decide +kernel)) rfl
theorem msX0_isSize : MS yX0_isSize cX0_isSize 1 (some .boolean) 1 := ⟨⟨w_15, w_3, w_14⟩, by decide, by decide, by decide +kernel⟩
theorem w_16 : Cond.fieldLink RX3 15 "LeaningTrees$Steps" "held" "I" ∈ lw_gd := gd (List.mem_of_getElem? (i := 99) (by decide +kernel)) rfl
theorem w_17 : Cond.methodLink RX6 73 yX0_isSize ∈ lw_gd := gd (List.mem_of_getElem? (i := 197) (by decide +kernel)) rfl
theorem w_18 : Cond.methodLink RX6 77 yX6_size ∈ lw_gd := gd (List.mem_of_getElem? (i := 198) (by decide +kernel)) rfl
theorem w_19 : Cond.code yX6_size cX6_size 1 (some .int) ∈ lw_gd := gd (List.mem_of_getElem? (i := 201) (by decide +kernel)) rfl
theorem w_20 : Cond.initialized RX6 ∈ lw_gd := gd (List.mem_of_getElem? (i := 1) (by decide +kernel)) rfl
theorem w_21 : Cond.instanceMethod yX6_size ∈ lw_gd := gd (List.mem_of_getElem? (i := 200) (by decide +kernel)) rfl
theorem w_22 : Cond.selects RX6 yX6_size yX6_size ∈ lw_gd := gp (List.mem_of_getElem? (i := 1) (by decide +kernel)) rfl
theorem mvX6_size : MV yX6_size cX6_size 1 (some .int) RX6 0 := ⟨⟨w_21, w_22, w_20, w_19⟩, rfl, by decide, by decide, by decide +kernel⟩
theorem w_23 : Cond.methodLink RX6 66 yX0_firstOf ∈ lw_gd := gd (List.mem_of_getElem? (i := 155) (by decide +kernel)) rfl
theorem w_24 : Cond.code yX0_firstOf cX0_firstOf 2 (some .int) ∈ lw_gd := gd (List.mem_of_getElem? (i := 158) (by decide +kernel)) rfl
theorem w_25 : Cond.instanceMethod yX0_firstOf ∈ lw_gd := gd (List.mem_of_getElem? (i := 156) (by decide +kernel)) rfl
theorem w_26 : Cond.selects RX0 yX0_firstOf yX0_firstOf ∈ lw_gd := gd (List.mem_of_getElem? (i := 157) (by decide +kernel)) rfl
theorem mvX0_firstOf : MV yX0_firstOf cX0_firstOf 2 (some .int) RX0 1 := ⟨⟨w_25, w_26, w_3, w_24⟩, rfl, by decide, by decide, by decide +kernel⟩
theorem w_27 : Cond.fieldLink RX6 37 "LeaningTrees" "steps" "LLeaningTrees$Steps;" ∈ lw_gd := gd (List.mem_of_getElem? (i := 165) (by decide +kernel)) rfl
theorem w_28 : Cond.methodLink RX6 81 yX3_clear ∈ lw_gd := gd (List.mem_of_getElem? (i := 206) (by decide +kernel)) rfl
theorem w_29 : Cond.code yX3_clear cX3_clear 1 none ∈ lw_gd := gd (List.mem_of_getElem? (i := 209) (by decide +kernel)) rfl
theorem w_30 : Cond.initialized RX3 ∈ lw_gd := gd (List.mem_of_getElem? (i := 5) (by decide +kernel)) rfl
theorem w_31 : Cond.instanceMethod yX3_clear ∈ lw_gd := gd (List.mem_of_getElem? (i := 207) (by decide +kernel)) rfl
theorem w_32 : Cond.selects RX3 yX3_clear yX3_clear ∈ lw_gd := gd (List.mem_of_getElem? (i := 208) (by decide +kernel)) rfl
theorem mvX3_clear : MV yX3_clear cX3_clear 1 none RX3 0 := ⟨⟨w_31, w_32, w_30, w_29⟩, rfl, by decide, by decide, by decide +kernel⟩
theorem w_33 : Cond.fieldLink RX0 11 "LeaningTrees$Forest" "codes" "[I" ∈ lw_gd := gd (List.mem_of_getElem? (i := 33) (by decide +kernel)) rfl
theorem w_34 : Cond.methodLink RX0 29 yX0_lastOf ∈ lw_gd := gd (List.mem_of_getElem? (i := 222) (by decide +kernel)) rfl
theorem w_35 : Cond.code yX0_lastOf cX0_lastOf 2 (some .int) ∈ lw_gd := gd (List.mem_of_getElem? (i := 225) (by decide +kernel)) rfl
theorem w_36 : Cond.instanceMethod yX0_lastOf ∈ lw_gd := gd (List.mem_of_getElem? (i := 223) (by decide +kernel)) rfl
theorem w_37 : Cond.selects RX0 yX0_lastOf yX0_lastOf ∈ lw_gd := gd (List.mem_of_getElem? (i := 224) (by decide +kernel)) rfl
theorem mvX0_lastOf : MV yX0_lastOf cX0_lastOf 2 (some .int) RX0 1 := ⟨⟨w_36, w_37, w_3, w_35⟩, rfl, by decide, by decide, by decide +kernel⟩
theorem w_38 : Cond.methodLink RX0 33 yX0_firstOf ∈ lw_gd := gd (List.mem_of_getElem? (i := 226) (by decide +kernel)) rfl
theorem w_39 : Cond.methodLink RX0 39 yX0_codeOf ∈ lw_gd := gd (List.mem_of_getElem? (i := 227) (by decide +kernel)) rfl
theorem w_40 : Cond.code yX0_codeOf cX0_codeOf 2 (some .int) ∈ lw_gd := gd (List.mem_of_getElem? (i := 230) (by decide +kernel)) rfl
theorem w_41 : Cond.instanceMethod yX0_codeOf ∈ lw_gd := gd (List.mem_of_getElem? (i := 228) (by decide +kernel)) rfl
theorem w_42 : Cond.selects RX0 yX0_codeOf yX0_codeOf ∈ lw_gd := gd (List.mem_of_getElem? (i := 229) (by decide +kernel)) rfl
theorem mvX0_codeOf : MV yX0_codeOf cX0_codeOf 2 (some .int) RX0 1 := ⟨⟨w_41, w_42, w_3, w_40⟩, rfl, by decide, by decide, by decide +kernel⟩
theorem w_43 : Cond.methodLink RX0 42 yX0_find ∈ lw_gd := gd (List.mem_of_getElem? (i := 218) (by decide +kernel)) rfl
theorem w_44 : Cond.code yX0_find cX0_find 6 (some .int) ∈ lw_gd := gd (List.mem_of_getElem? (i := 221) (by decide +kernel)) rfl
theorem w_45 : Cond.instanceMethod yX0_find ∈ lw_gd := gd (List.mem_of_getElem? (i := 219) (by decide +kernel)) rfl
theorem w_46 : Cond.selects RX0 yX0_find yX0_find ∈ lw_gd := gd (List.mem_of_getElem? (i := 220) (by decide +kernel)) rfl
theorem mvX0_find : MV yX0_find cX0_find 6 (some .int) RX0 2 := ⟨⟨w_45, w_46, w_3, w_44⟩, rfl, by decide, by decide, by decide +kernel⟩
theorem w_47 : Cond.fieldLink RX3 11 "LeaningTrees$Steps" "trees" "[I" ∈ lw_gd := gd (List.mem_of_getElem? (i := 98) (by decide +kernel)) rfl
theorem w_48 : Cond.methodLink RX3 19 arraycopyName ∈ lw_gd := gd (List.mem_of_getElem? (i := 243) (by decide +kernel)) rfl
theorem w_49 : Cond.methodLink RX6 293 yX3_add ∈ lw_gd := gd (List.mem_of_getElem? (i := 239) (by decide +kernel)) rfl
theorem w_50 : Cond.code yX3_add cX3_add 2 none ∈ lw_gd := gd (List.mem_of_getElem? (i := 242) (by decide +kernel)) rfl
theorem w_51 : Cond.instanceMethod yX3_add ∈ lw_gd := gd (List.mem_of_getElem? (i := 240) (by decide +kernel)) rfl
theorem w_52 : Cond.selects RX3 yX3_add yX3_add ∈ lw_gd := gd (List.mem_of_getElem? (i := 241) (by decide +kernel)) rfl
theorem mvX3_add : MV yX3_add cX3_add 2 none RX3 1 := ⟨⟨w_51, w_52, w_30, w_50⟩, rfl, by decide, by decide, by decide +kernel⟩
theorem w_53 : Cond.methodLink RX0 36 yX0_sizeOf ∈ lw_gd := gd (List.mem_of_getElem? (i := 250) (by decide +kernel)) rfl
theorem w_54 : Cond.methodLink RX6 118 yX6_become ∈ lw_gd := gd (List.mem_of_getElem? (i := 235) (by decide +kernel)) rfl
theorem w_55 : Cond.code yX6_become cX6_become 2 none ∈ lw_gd := gd (List.mem_of_getElem? (i := 238) (by decide +kernel)) rfl
theorem w_56 : Cond.instanceMethod yX6_become ∈ lw_gd := gd (List.mem_of_getElem? (i := 237) (by decide +kernel)) rfl
theorem w_57 : Cond.selects RX6 yX6_become yX6_become ∈ lw_gd := gp (List.mem_of_getElem? (i := 3) (by decide +kernel)) rfl
theorem mvX6_become : MV yX6_become cX6_become 2 none RX6 1 := ⟨⟨w_56, w_57, w_20, w_55⟩, rfl, by decide, by decide, by decide +kernel⟩
theorem w_58 : Cond.methodLink RX6 115 yX0_numberOf ∈ lw_gd := gd (List.mem_of_getElem? (i := 246) (by decide +kernel)) rfl
theorem w_59 : Cond.code yX0_numberOf cX0_numberOf 2 (some .int) ∈ lw_gd := gd (List.mem_of_getElem? (i := 249) (by decide +kernel)) rfl
theorem w_60 : Cond.instanceMethod yX0_numberOf ∈ lw_gd := gd (List.mem_of_getElem? (i := 247) (by decide +kernel)) rfl
theorem w_61 : Cond.selects RX0 yX0_numberOf yX0_numberOf ∈ lw_gd := gd (List.mem_of_getElem? (i := 248) (by decide +kernel)) rfl
theorem mvX0_numberOf : MV yX0_numberOf cX0_numberOf 2 (some .int) RX0 1 := ⟨⟨w_60, w_61, w_3, w_59⟩, rfl, by decide, by decide, by decide +kernel⟩
theorem w_62 : Cond.methodLink RX6 84 yX0_findDigits ∈ lw_gd := gd (List.mem_of_getElem? (i := 214) (by decide +kernel)) rfl
theorem w_63 : Cond.code yX0_findDigits cX0_findDigits 6 (some .int) ∈ lw_gd := gd (List.mem_of_getElem? (i := 217) (by decide +kernel)) rfl
theorem w_64 : Cond.instanceMethod yX0_findDigits ∈ lw_gd := gd (List.mem_of_getElem? (i := 215) (by decide +kernel)) rfl
theorem w_65 : Cond.selects RX0 yX0_findDigits yX0_findDigits ∈ lw_gd := gd (List.mem_of_getElem? (i := 216) (by decide +kernel)) rfl
theorem mvX0_findDigits : MV yX0_findDigits cX0_findDigits 6 (some .int) RX0 2 := ⟨⟨w_64, w_65, w_3, w_63⟩, rfl, by decide, by decide, by decide +kernel⟩
theorem w_66 : Cond.methodLink RX6 88 yX6_becomeAndTell ∈ lw_gd := gd (List.mem_of_getElem? (i := 231) (by decide +kernel)) rfl
theorem w_67 : Cond.code yX6_becomeAndTell cX6_becomeAndTell 2 (some .int) ∈ lw_gd := gd (List.mem_of_getElem? (i := 234) (by decide +kernel)) rfl
theorem w_68 : Cond.instanceMethod yX6_becomeAndTell ∈ lw_gd := gd (List.mem_of_getElem? (i := 233) (by decide +kernel)) rfl
theorem w_69 : Cond.selects RX6 yX6_becomeAndTell yX6_becomeAndTell ∈ lw_gd := gp (List.mem_of_getElem? (i := 2) (by decide +kernel)) rfl
theorem mvX6_becomeAndTell : MV yX6_becomeAndTell cX6_becomeAndTell 2 (some .int) RX6 1 := ⟨⟨w_68, w_69, w_20, w_67⟩, rfl, by decide, by decide, by decide +kernel⟩
theorem w_70 : Cond.methodLink RX0 46 yX0_rightSize ∈ lw_gd := gd (List.mem_of_getElem? (i := 271) (by decide +kernel)) rfl
theorem w_71 : Cond.code yX0_rightSize cX0_rightSize 3 (some .int) ∈ lw_gd := gd (List.mem_of_getElem? (i := 262) (by decide +kernel)) rfl
theorem w_72 : Cond.instanceMethod yX0_rightSize ∈ lw_gd := gd (List.mem_of_getElem? (i := 260) (by decide +kernel)) rfl
theorem w_73 : Cond.selects RX0 yX0_rightSize yX0_rightSize ∈ lw_gd := gd (List.mem_of_getElem? (i := 261) (by decide +kernel)) rfl
theorem mvX0_rightSize : MV yX0_rightSize cX0_rightSize 3 (some .int) RX0 2 := ⟨⟨w_72, w_73, w_3, w_71⟩, rfl, by decide, by decide, by decide +kernel⟩
theorem w_74 : Cond.methodLink RX0 49 yX0_end ∈ lw_gd := gd (List.mem_of_getElem? (i := 267) (by decide +kernel)) rfl
theorem w_75 : Cond.code yX0_end cX0_end 3 (some .int) ∈ lw_gd := gd (List.mem_of_getElem? (i := 270) (by decide +kernel)) rfl
theorem w_76 : Cond.instanceMethod yX0_end ∈ lw_gd := gd (List.mem_of_getElem? (i := 268) (by decide +kernel)) rfl
theorem w_77 : Cond.selects RX0 yX0_end yX0_end ∈ lw_gd := gd (List.mem_of_getElem? (i := 269) (by decide +kernel)) rfl
theorem mvX0_end : MV yX0_end cX0_end 3 (some .int) RX0 2 := ⟨⟨w_76, w_77, w_3, w_75⟩, rfl, by decide, by decide, by decide +kernel⟩
theorem w_78 : Cond.methodLink RX0 52 yX0_leftSize ∈ lw_gd := gd (List.mem_of_getElem? (i := 272) (by decide +kernel)) rfl
theorem w_79 : Cond.code yX0_leftSize cX0_leftSize 5 (some .int) ∈ lw_gd := gd (List.mem_of_getElem? (i := 275) (by decide +kernel)) rfl
theorem w_80 : Cond.instanceMethod yX0_leftSize ∈ lw_gd := gd (List.mem_of_getElem? (i := 273) (by decide +kernel)) rfl
theorem w_81 : Cond.selects RX0 yX0_leftSize yX0_leftSize ∈ lw_gd := gd (List.mem_of_getElem? (i := 274) (by decide +kernel)) rfl
theorem mvX0_leftSize : MV yX0_leftSize cX0_leftSize 5 (some .int) RX0 2 := ⟨⟨w_80, w_81, w_3, w_79⟩, rfl, by decide, by decide, by decide +kernel⟩
theorem w_82 : Cond.methodLink RX0 55 yX0_top ∈ lw_gd := gd (List.mem_of_getElem? (i := 280) (by decide +kernel)) rfl
theorem w_83 : Cond.code yX0_top cX0_top 5 (some .int) ∈ lw_gd := gd (List.mem_of_getElem? (i := 283) (by decide +kernel)) rfl
theorem w_84 : Cond.instanceMethod yX0_top ∈ lw_gd := gd (List.mem_of_getElem? (i := 282) (by decide +kernel)) rfl
theorem w_85 : Cond.selects RX0 yX0_top yX0_top ∈ lw_gd := gp (List.mem_of_getElem? (i := 5) (by decide +kernel)) rfl
theorem mvX0_top : MV yX0_top cX0_top 5 (some .int) RX0 3 := ⟨⟨w_84, w_85, w_3, w_83⟩, rfl, by decide, by decide, by decide +kernel⟩
theorem w_86 : Cond.methodLink RX6 91 yX6_isNode ∈ lw_gd := gd (List.mem_of_getElem? (i := 255) (by decide +kernel)) rfl
theorem w_87 : Cond.code yX6_isNode cX6_isNode 2 (some .boolean) ∈ lw_gd := gd (List.mem_of_getElem? (i := 258) (by decide +kernel)) rfl
theorem w_88 : Cond.instanceMethod yX6_isNode ∈ lw_gd := gd (List.mem_of_getElem? (i := 257) (by decide +kernel)) rfl
theorem w_89 : Cond.selects RX6 yX6_isNode yX6_isNode ∈ lw_gd := gp (List.mem_of_getElem? (i := 4) (by decide +kernel)) rfl
theorem mvX6_isNode : MV yX6_isNode cX6_isNode 2 (some .boolean) RX6 1 := ⟨⟨w_88, w_89, w_20, w_87⟩, rfl, by decide, by decide, by decide +kernel⟩
theorem w_90 : Cond.methodLink RX6 94 yX0_rightSize ∈ lw_gd := gd (List.mem_of_getElem? (i := 259) (by decide +kernel)) rfl
theorem w_91 : Cond.methodLink RX6 97 yX0_parent ∈ lw_gd := gd (List.mem_of_getElem? (i := 263) (by decide +kernel)) rfl
theorem w_92 : Cond.code yX0_parent cX0_parent 5 (some .int) ∈ lw_gd := gd (List.mem_of_getElem? (i := 266) (by decide +kernel)) rfl
theorem w_93 : Cond.instanceMethod yX0_parent ∈ lw_gd := gd (List.mem_of_getElem? (i := 264) (by decide +kernel)) rfl
theorem w_94 : Cond.selects RX0 yX0_parent yX0_parent ∈ lw_gd := gd (List.mem_of_getElem? (i := 265) (by decide +kernel)) rfl
theorem mvX0_parent : MV yX0_parent cX0_parent 5 (some .int) RX0 2 := ⟨⟨w_93, w_94, w_3, w_92⟩, rfl, by decide, by decide, by decide +kernel⟩
theorem w_95 : Cond.methodLink RX6 100 yX0_leftChild ∈ lw_gd := gd (List.mem_of_getElem? (i := 276) (by decide +kernel)) rfl
theorem w_96 : Cond.code yX0_leftChild cX0_leftChild 3 (some .int) ∈ lw_gd := gd (List.mem_of_getElem? (i := 279) (by decide +kernel)) rfl
theorem w_97 : Cond.instanceMethod yX0_leftChild ∈ lw_gd := gd (List.mem_of_getElem? (i := 277) (by decide +kernel)) rfl
theorem w_98 : Cond.selects RX0 yX0_leftChild yX0_leftChild ∈ lw_gd := gd (List.mem_of_getElem? (i := 278) (by decide +kernel)) rfl
theorem mvX0_leftChild : MV yX0_leftChild cX0_leftChild 3 (some .int) RX0 2 := ⟨⟨w_97, w_98, w_3, w_96⟩, rfl, by decide, by decide, by decide +kernel⟩
theorem w_99 : Cond.methodLink RX6 103 yX0_rightChild ∈ lw_gd := gd (List.mem_of_getElem? (i := 284) (by decide +kernel)) rfl
theorem w_100 : Cond.code yX0_rightChild cX0_rightChild 3 (some .int) ∈ lw_gd := gd (List.mem_of_getElem? (i := 287) (by decide +kernel)) rfl
theorem w_101 : Cond.instanceMethod yX0_rightChild ∈ lw_gd := gd (List.mem_of_getElem? (i := 285) (by decide +kernel)) rfl
theorem w_102 : Cond.selects RX0 yX0_rightChild yX0_rightChild ∈ lw_gd := gd (List.mem_of_getElem? (i := 286) (by decide +kernel)) rfl
theorem mvX0_rightChild : MV yX0_rightChild cX0_rightChild 3 (some .int) RX0 2 := ⟨⟨w_101, w_102, w_3, w_100⟩, rfl, by decide, by decide, by decide +kernel⟩
theorem w_103 : Cond.methodLink RX6 106 yX0_leftSize ∈ lw_gd := gd (List.mem_of_getElem? (i := 288) (by decide +kernel)) rfl
theorem w_104 : Cond.methodLink RX6 109 yX0_depth ∈ lw_gd := gd (List.mem_of_getElem? (i := 289) (by decide +kernel)) rfl
theorem w_105 : Cond.code yX0_depth cX0_depth 5 (some .int) ∈ lw_gd := gd (List.mem_of_getElem? (i := 292) (by decide +kernel)) rfl
theorem w_106 : Cond.instanceMethod yX0_depth ∈ lw_gd := gd (List.mem_of_getElem? (i := 290) (by decide +kernel)) rfl
theorem w_107 : Cond.selects RX0 yX0_depth yX0_depth ∈ lw_gd := gd (List.mem_of_getElem? (i := 291) (by decide +kernel)) rfl
theorem mvX0_depth : MV yX0_depth cX0_depth 5 (some .int) RX0 2 := ⟨⟨w_106, w_107, w_3, w_105⟩, rfl, by decide, by decide, by decide +kernel⟩
theorem w_108 : Cond.methodLink RX6 112 yX0_howMany ∈ lw_gd := gd (List.mem_of_getElem? (i := 297) (by decide +kernel)) rfl
theorem w_109 : Cond.code yX0_howMany cX0_howMany 2 (some .int) ∈ lw_gd := gd (List.mem_of_getElem? (i := 300) (by decide +kernel)) rfl
theorem w_110 : Cond.instanceMethod yX0_howMany ∈ lw_gd := gd (List.mem_of_getElem? (i := 298) (by decide +kernel)) rfl
theorem w_111 : Cond.selects RX0 yX0_howMany yX0_howMany ∈ lw_gd := gd (List.mem_of_getElem? (i := 299) (by decide +kernel)) rfl
theorem mvX0_howMany : MV yX0_howMany cX0_howMany 2 (some .int) RX0 1 := ⟨⟨w_110, w_111, w_3, w_109⟩, rfl, by decide, by decide, by decide +kernel⟩
theorem w_112 : Cond.methodLink RX6 122 yX0_asDigits ∈ lw_gd := gd (List.mem_of_getElem? (i := 313) (by decide +kernel)) rfl
theorem w_113 : Cond.code yX0_asDigits cX0_asDigits 4 (some .int) ∈ lw_gd := gd (List.mem_of_getElem? (i := 316) (by decide +kernel)) rfl
theorem w_114 : Cond.instanceMethod yX0_asDigits ∈ lw_gd := gd (List.mem_of_getElem? (i := 314) (by decide +kernel)) rfl
theorem w_115 : Cond.selects RX0 yX0_asDigits yX0_asDigits ∈ lw_gd := gd (List.mem_of_getElem? (i := 315) (by decide +kernel)) rfl
theorem mvX0_asDigits : MV yX0_asDigits cX0_asDigits 4 (some .int) RX0 1 := ⟨⟨w_114, w_115, w_3, w_113⟩, rfl, by decide, by decide, by decide +kernel⟩
theorem w_116 : Cond.methodLink RX0 58 yX0_isLeftChild ∈ lw_gd := gd (List.mem_of_getElem? (i := 325) (by decide +kernel)) rfl
theorem w_117 : Cond.code yX0_isLeftChild cX0_isLeftChild 5 (some .boolean) ∈ lw_gd := gd (List.mem_of_getElem? (i := 328) (by decide +kernel)) rfl
theorem w_118 : Cond.instanceMethod yX0_isLeftChild ∈ lw_gd := gd (List.mem_of_getElem? (i := 326) (by decide +kernel)) rfl
theorem w_119 : Cond.selects RX0 yX0_isLeftChild yX0_isLeftChild ∈ lw_gd := gd (List.mem_of_getElem? (i := 327) (by decide +kernel)) rfl
theorem mvX0_isLeftChild : MV yX0_isLeftChild cX0_isLeftChild 5 (some .boolean) RX0 2 := ⟨⟨w_118, w_119, w_3, w_117⟩, rfl, by decide, by decide, by decide +kernel⟩
theorem w_120 : Cond.methodLink RX0 62 yX0_digitAt ∈ lw_gd := gd (List.mem_of_getElem? (i := 329) (by decide +kernel)) rfl
theorem w_121 : Cond.code yX0_digitAt cX0_digitAt 3 (some .int) ∈ lw_gd := gd (List.mem_of_getElem? (i := 331) (by decide +kernel)) rfl
theorem w_122 : Cond.static yX0_digitAt ∈ lw_gd := gd (List.mem_of_getElem? (i := 330) (by decide +kernel)) rfl
theorem msX0_digitAt : MS yX0_digitAt cX0_digitAt 3 (some .int) 3 := ⟨⟨w_122, w_3, w_121⟩, by decide, by decide, by decide +kernel⟩
theorem w_123 : Cond.methodLink RX6 125 yX0_turnedUp ∈ lw_gd := gd (List.mem_of_getElem? (i := 321) (by decide +kernel)) rfl
theorem w_124 : Cond.code yX0_turnedUp cX0_turnedUp 5 (some .int) ∈ lw_gd := gd (List.mem_of_getElem? (i := 324) (by decide +kernel)) rfl
theorem w_125 : Cond.instanceMethod yX0_turnedUp ∈ lw_gd := gd (List.mem_of_getElem? (i := 322) (by decide +kernel)) rfl
theorem w_126 : Cond.selects RX0 yX0_turnedUp yX0_turnedUp ∈ lw_gd := gd (List.mem_of_getElem? (i := 323) (by decide +kernel)) rfl
theorem mvX0_turnedUp : MV yX0_turnedUp cX0_turnedUp 5 (some .int) RX0 2 := ⟨⟨w_125, w_126, w_3, w_124⟩, rfl, by decide, by decide, by decide +kernel⟩
theorem w_127 : Cond.methodLink RX6 128 yX0_turnedBack ∈ lw_gd := gd (List.mem_of_getElem? (i := 336) (by decide +kernel)) rfl
theorem w_128 : Cond.code yX0_turnedBack cX0_turnedBack 5 (some .int) ∈ lw_gd := gd (List.mem_of_getElem? (i := 339) (by decide +kernel)) rfl
theorem w_129 : Cond.instanceMethod yX0_turnedBack ∈ lw_gd := gd (List.mem_of_getElem? (i := 337) (by decide +kernel)) rfl
theorem w_130 : Cond.selects RX0 yX0_turnedBack yX0_turnedBack ∈ lw_gd := gd (List.mem_of_getElem? (i := 338) (by decide +kernel)) rfl
theorem mvX0_turnedBack : MV yX0_turnedBack cX0_turnedBack 5 (some .int) RX0 2 := ⟨⟨w_129, w_130, w_3, w_128⟩, rfl, by decide, by decide, by decide +kernel⟩
theorem w_131 : Cond.constant "java/lang/Integer" 265 (1431655765 : Int32) ∈ lw_gd := gd (List.mem_of_getElem? (i := 351) (by decide +kernel)) rfl
theorem w_132 : Cond.constant "java/lang/Integer" 266 (858993459 : Int32) ∈ lw_gd := gd (List.mem_of_getElem? (i := 352) (by decide +kernel)) rfl
theorem w_133 : Cond.constant "java/lang/Integer" 267 (252645135 : Int32) ∈ lw_gd := gd (List.mem_of_getElem? (i := 353) (by decide +kernel)) rfl
theorem w_134 : Cond.methodLink RX6 131 yX0_leftChildren ∈ lw_gd := gd (List.mem_of_getElem? (i := 344) (by decide +kernel)) rfl
theorem w_135 : Cond.code yX0_leftChildren cX0_leftChildren 4 (some .int) ∈ lw_gd := gd (List.mem_of_getElem? (i := 347) (by decide +kernel)) rfl
theorem w_136 : Cond.instanceMethod yX0_leftChildren ∈ lw_gd := gd (List.mem_of_getElem? (i := 345) (by decide +kernel)) rfl
theorem w_137 : Cond.selects RX0 yX0_leftChildren yX0_leftChildren ∈ lw_gd := gd (List.mem_of_getElem? (i := 346) (by decide +kernel)) rfl
theorem mvX0_leftChildren : MV yX0_leftChildren cX0_leftChildren 4 (some .int) RX0 1 := ⟨⟨w_136, w_137, w_3, w_135⟩, rfl, by decide, by decide, by decide +kernel⟩
theorem w_138 : Cond.methodLink RX6 134 yJ0_bitCount ∈ lw_gd := gd (List.mem_of_getElem? (i := 348) (by decide +kernel)) rfl
theorem w_139 : Cond.code yJ0_bitCount prog_10_method_49_code 1 (some .int) ∈ lw_gd := gd (List.mem_of_getElem? (i := 350) (by decide +kernel)) rfl
theorem w_140 : Cond.initialized "java/lang/Integer" ∈ lw_gd := gd (List.mem_of_getElem? (i := 11) (by decide +kernel)) rfl
theorem w_141 : Cond.static yJ0_bitCount ∈ lw_gd := gd (List.mem_of_getElem? (i := 349) (by decide +kernel)) rfl
theorem msJ0_bitCount : MS yJ0_bitCount prog_10_method_49_code 1 (some .int) 1 := ⟨⟨w_141, w_140, w_139⟩, by decide, by decide, by decide +kernel⟩
theorem w_142 : Cond.methodLink RX6 139 yX0_withRightChild ∈ lw_gd := gd (List.mem_of_getElem? (i := 354) (by decide +kernel)) rfl
theorem w_143 : Cond.code yX0_withRightChild cX0_withRightChild 5 (some .int) ∈ lw_gd := gd (List.mem_of_getElem? (i := 357) (by decide +kernel)) rfl
theorem w_144 : Cond.instanceMethod yX0_withRightChild ∈ lw_gd := gd (List.mem_of_getElem? (i := 355) (by decide +kernel)) rfl
theorem w_145 : Cond.selects RX0 yX0_withRightChild yX0_withRightChild ∈ lw_gd := gd (List.mem_of_getElem? (i := 356) (by decide +kernel)) rfl
theorem mvX0_withRightChild : MV yX0_withRightChild cX0_withRightChild 5 (some .int) RX0 1 := ⟨⟨w_144, w_145, w_3, w_143⟩, rfl, by decide, by decide, by decide +kernel⟩
theorem w_146 : Cond.methodLink RX6 142 yX0_mirrored ∈ lw_gd := gd (List.mem_of_getElem? (i := 362) (by decide +kernel)) rfl
theorem w_147 : Cond.code yX0_mirrored cX0_mirrored 5 (some .int) ∈ lw_gd := gd (List.mem_of_getElem? (i := 365) (by decide +kernel)) rfl
theorem w_148 : Cond.instanceMethod yX0_mirrored ∈ lw_gd := gd (List.mem_of_getElem? (i := 363) (by decide +kernel)) rfl
theorem w_149 : Cond.selects RX0 yX0_mirrored yX0_mirrored ∈ lw_gd := gd (List.mem_of_getElem? (i := 364) (by decide +kernel)) rfl
theorem mvX0_mirrored : MV yX0_mirrored cX0_mirrored 5 (some .int) RX0 1 := ⟨⟨w_148, w_149, w_3, w_147⟩, rfl, by decide, by decide, by decide +kernel⟩
theorem w_150 : Cond.methodLink RX6 145 yX3_takeLatest ∈ lw_gd := gd (List.mem_of_getElem? (i := 370) (by decide +kernel)) rfl
theorem w_151 : Cond.code yX3_takeLatest cX3_takeLatest 1 (some .int) ∈ lw_gd := gd (List.mem_of_getElem? (i := 373) (by decide +kernel)) rfl
theorem w_152 : Cond.instanceMethod yX3_takeLatest ∈ lw_gd := gd (List.mem_of_getElem? (i := 371) (by decide +kernel)) rfl
theorem w_153 : Cond.selects RX3 yX3_takeLatest yX3_takeLatest ∈ lw_gd := gd (List.mem_of_getElem? (i := 372) (by decide +kernel)) rfl
theorem mvX3_takeLatest : MV yX3_takeLatest cX3_takeLatest 1 (some .int) RX3 0 := ⟨⟨w_152, w_153, w_30, w_151⟩, rfl, by decide, by decide, by decide +kernel⟩
theorem w_154 : Cond.methodLink RX6 148 yX3_held ∈ lw_gd := gd (List.mem_of_getElem? (i := 374) (by decide +kernel)) rfl
theorem w_155 : Cond.code yX3_held cX3_held 1 (some .int) ∈ lw_gd := gd (List.mem_of_getElem? (i := 377) (by decide +kernel)) rfl
theorem w_156 : Cond.instanceMethod yX3_held ∈ lw_gd := gd (List.mem_of_getElem? (i := 375) (by decide +kernel)) rfl
theorem w_157 : Cond.selects RX3 yX3_held yX3_held ∈ lw_gd := gd (List.mem_of_getElem? (i := 376) (by decide +kernel)) rfl
theorem mvX3_held : MV yX3_held cX3_held 1 (some .int) RX3 0 := ⟨⟨w_156, w_157, w_30, w_155⟩, rfl, by decide, by decide, by decide +kernel⟩
theorem w_158 : Cond.methodLink RX6 211 yX6_isShelf ∈ lw_gd := gd (List.mem_of_getElem? (i := 394) (by decide +kernel)) rfl
theorem w_159 : Cond.code yX6_isShelf cX6_isShelf 1 (some .boolean) ∈ lw_gd := gd (List.mem_of_getElem? (i := 396) (by decide +kernel)) rfl
theorem w_160 : Cond.static yX6_isShelf ∈ lw_gd := gd (List.mem_of_getElem? (i := 395) (by decide +kernel)) rfl
theorem msX6_isShelf : MS yX6_isShelf cX6_isShelf 1 (some .boolean) 1 := ⟨⟨w_160, w_20, w_159⟩, by decide, by decide, by decide +kernel⟩
theorem w_161 : Cond.fieldLink RX6 55 "LeaningTrees" "shelves" "[I" ∈ lw_gd := gd (List.mem_of_getElem? (i := 168) (by decide +kernel)) rfl
theorem w_162 : Cond.methodLink RX6 214 yX6_lack ∈ lw_gd := gd (List.mem_of_getElem? (i := 390) (by decide +kernel)) rfl
theorem w_163 : Cond.code yX6_lack cX6_lack 2 (some .int) ∈ lw_gd := gd (List.mem_of_getElem? (i := 393) (by decide +kernel)) rfl
theorem w_164 : Cond.instanceMethod yX6_lack ∈ lw_gd := gd (List.mem_of_getElem? (i := 392) (by decide +kernel)) rfl
theorem w_165 : Cond.selects RX6 yX6_lack yX6_lack ∈ lw_gd := gp (List.mem_of_getElem? (i := 8) (by decide +kernel)) rfl
theorem mvX6_lack : MV yX6_lack cX6_lack 2 (some .int) RX6 1 := ⟨⟨w_164, w_165, w_20, w_163⟩, rfl, by decide, by decide, by decide +kernel⟩
theorem w_166 : Cond.methodLink RX6 165 yX6_refusal ∈ lw_gd := gd (List.mem_of_getElem? (i := 386) (by decide +kernel)) rfl
theorem w_167 : Cond.code yX6_refusal cX6_refusal 3 (some .int) ∈ lw_gd := gd (List.mem_of_getElem? (i := 389) (by decide +kernel)) rfl
theorem w_168 : Cond.instanceMethod yX6_refusal ∈ lw_gd := gd (List.mem_of_getElem? (i := 388) (by decide +kernel)) rfl
theorem w_169 : Cond.selects RX6 yX6_refusal yX6_refusal ∈ lw_gd := gp (List.mem_of_getElem? (i := 7) (by decide +kernel)) rfl
theorem mvX6_refusal : MV yX6_refusal cX6_refusal 3 (some .int) RX6 1 := ⟨⟨w_168, w_169, w_20, w_167⟩, rfl, by decide, by decide, by decide +kernel⟩
theorem w_170 : Cond.constant RX2 24 (143165576 : Int32) ∈ lw_gd := gd (List.mem_of_getElem? (i := 405) (by decide +kernel)) rfl
theorem w_171 : Cond.fieldLink RX2 9 "LeaningTrees$Order" "forest" "LLeaningTrees$Forest;" ∈ lw_gd := gd (List.mem_of_getElem? (i := 47) (by decide +kernel)) rfl
theorem w_172 : Cond.methodLink RX2 25 yX0_codeOf ∈ lw_gd := gd (List.mem_of_getElem? (i := 401) (by decide +kernel)) rfl
theorem w_173 : Cond.methodLink RX2 29 yX2_noMore ∈ lw_gd := gd (List.mem_of_getElem? (i := 402) (by decide +kernel)) rfl
theorem w_174 : Cond.code yX2_noMore cX2_noMore 2 (some .boolean) ∈ lw_gd := gd (List.mem_of_getElem? (i := 404) (by decide +kernel)) rfl
theorem w_175 : Cond.initialized RX2 ∈ lw_gd := gd (List.mem_of_getElem? (i := 3) (by decide +kernel)) rfl
theorem w_176 : Cond.static yX2_noMore ∈ lw_gd := gd (List.mem_of_getElem? (i := 403) (by decide +kernel)) rfl
theorem msX2_noMore : MS yX2_noMore cX2_noMore 2 (some .boolean) 2 := ⟨⟨w_176, w_175, w_174⟩, by decide, by decide, by decide +kernel⟩
theorem w_177 : Cond.methodLink RX6 151 yX6_refusalOfTwo ∈ lw_gd := gd (List.mem_of_getElem? (i := 382) (by decide +kernel)) rfl
theorem w_178 : Cond.code yX6_refusalOfTwo cX6_refusalOfTwo 3 (some .int) ∈ lw_gd := gd (List.mem_of_getElem? (i := 385) (by decide +kernel)) rfl
theorem w_179 : Cond.instanceMethod yX6_refusalOfTwo ∈ lw_gd := gd (List.mem_of_getElem? (i := 384) (by decide +kernel)) rfl
theorem w_180 : Cond.selects RX6 yX6_refusalOfTwo yX6_refusalOfTwo ∈ lw_gd := gp (List.mem_of_getElem? (i := 6) (by decide +kernel)) rfl
theorem mvX6_refusalOfTwo : MV yX6_refusalOfTwo cX6_refusalOfTwo 3 (some .int) RX6 2 := ⟨⟨w_179, w_180, w_20, w_178⟩, rfl, by decide, by decide, by decide +kernel⟩
theorem w_181 : Cond.fieldLink RX6 23 "LeaningTrees" "order" "LLeaningTrees$Order;" ∈ lw_gd := gd (List.mem_of_getElem? (i := 163) (by decide +kernel)) rfl
theorem w_182 : Cond.methodLink RX6 154 yX2_isBelow ∈ lw_gd := gd (List.mem_of_getElem? (i := 397) (by decide +kernel)) rfl
theorem w_183 : Cond.code yX2_isBelow cX2_isBelow 3 (some .boolean) ∈ lw_gd := gd (List.mem_of_getElem? (i := 400) (by decide +kernel)) rfl
theorem w_184 : Cond.instanceMethod yX2_isBelow ∈ lw_gd := gd (List.mem_of_getElem? (i := 398) (by decide +kernel)) rfl
theorem w_185 : Cond.selects RX2 yX2_isBelow yX2_isBelow ∈ lw_gd := gd (List.mem_of_getElem? (i := 399) (by decide +kernel)) rfl
theorem mvX2_isBelow : MV yX2_isBelow cX2_isBelow 3 (some .boolean) RX2 2 := ⟨⟨w_184, w_185, w_175, w_183⟩, rfl, by decide, by decide, by decide +kernel⟩
theorem w_186 : Cond.methodLink RX2 40 yX0_sizeOf ∈ lw_gd := gd (List.mem_of_getElem? (i := 418) (by decide +kernel)) rfl
theorem w_187 : Cond.methodLink RX2 58 yX0_end ∈ lw_gd := gd (List.mem_of_getElem? (i := 419) (by decide +kernel)) rfl
theorem w_188 : Cond.methodLink RX2 61 Lib.Math.max.name ∈ lw_gd := gd (List.mem_of_getElem? (i := 420) (by decide +kernel)) rfl
theorem w_189 : Cond.methodLink RX2 64 yX0_digitOf ∈ lw_gd := gd (List.mem_of_getElem? (i := 423) (by decide +kernel)) rfl
theorem w_190 : Cond.code yX0_digitOf cX0_digitOf 3 (some .int) ∈ lw_gd := gd (List.mem_of_getElem? (i := 425) (by decide +kernel)) rfl
theorem w_191 : Cond.static yX0_digitOf ∈ lw_gd := gd (List.mem_of_getElem? (i := 424) (by decide +kernel)) rfl
theorem msX0_digitOf : MS yX0_digitOf cX0_digitOf 3 (some .int) 3 := ⟨⟨w_191, w_3, w_190⟩, by decide, by decide, by decide +kernel⟩
theorem w_192 : Cond.methodLink RX2 51 yX0_digitAt ∈ lw_gd := gd (List.mem_of_getElem? (i := 426) (by decide +kernel)) rfl
theorem w_193 : Cond.methodLink RX2 55 yX0_find ∈ lw_gd := gd (List.mem_of_getElem? (i := 427) (by decide +kernel)) rfl
theorem w_194 : Cond.methodLink RX2 43 yX0_rightSize ∈ lw_gd := gd (List.mem_of_getElem? (i := 432) (by decide +kernel)) rfl
theorem w_195 : Cond.methodLink RX2 46 Lib.Math.min.name ∈ lw_gd := gd (List.mem_of_getElem? (i := 433) (by decide +kernel)) rfl
theorem w_196 : Cond.methodLink RX2 37 yX2_meetOf ∈ lw_gd := gd (List.mem_of_getElem? (i := 428) (by decide +kernel)) rfl
theorem w_197 : Cond.code yX2_meetOf cX2_meetOf 7 (some .int) ∈ lw_gd := gd (List.mem_of_getElem? (i := 431) (by decide +kernel)) rfl
theorem w_198 : Cond.instanceMethod yX2_meetOf ∈ lw_gd := gd (List.mem_of_getElem? (i := 430) (by decide +kernel)) rfl
theorem w_199 : Cond.selects RX2 yX2_meetOf yX2_meetOf ∈ lw_gd := gp (List.mem_of_getElem? (i := 10) (by decide +kernel)) rfl
theorem mvX2_meetOf : MV yX2_meetOf cX2_meetOf 7 (some .int) RX2 2 := ⟨⟨w_198, w_199, w_175, w_197⟩, rfl, by decide, by decide, by decide +kernel⟩
theorem w_200 : Cond.methodLink RX2 33 yX2_joinOf ∈ lw_gd := gd (List.mem_of_getElem? (i := 414) (by decide +kernel)) rfl
theorem w_201 : Cond.code yX2_joinOf cX2_joinOf 8 (some .int) ∈ lw_gd := gd (List.mem_of_getElem? (i := 417) (by decide +kernel)) rfl
theorem w_202 : Cond.instanceMethod yX2_joinOf ∈ lw_gd := gd (List.mem_of_getElem? (i := 416) (by decide +kernel)) rfl
theorem w_203 : Cond.selects RX2 yX2_joinOf yX2_joinOf ∈ lw_gd := gp (List.mem_of_getElem? (i := 9) (by decide +kernel)) rfl
theorem mvX2_joinOf : MV yX2_joinOf cX2_joinOf 8 (some .int) RX2 2 := ⟨⟨w_202, w_203, w_175, w_201⟩, rfl, by decide, by decide, by decide +kernel⟩
theorem w_204 : Cond.methodLink RX6 158 yX2_meetOrJoin ∈ lw_gd := gd (List.mem_of_getElem? (i := 410) (by decide +kernel)) rfl
theorem w_205 : Cond.code yX2_meetOrJoin cX2_meetOrJoin 4 (some .int) ∈ lw_gd := gd (List.mem_of_getElem? (i := 413) (by decide +kernel)) rfl
theorem w_206 : Cond.instanceMethod yX2_meetOrJoin ∈ lw_gd := gd (List.mem_of_getElem? (i := 411) (by decide +kernel)) rfl
theorem w_207 : Cond.selects RX2 yX2_meetOrJoin yX2_meetOrJoin ∈ lw_gd := gd (List.mem_of_getElem? (i := 412) (by decide +kernel)) rfl
theorem mvX2_meetOrJoin : MV yX2_meetOrJoin cX2_meetOrJoin 4 (some .int) RX2 3 := ⟨⟨w_206, w_207, w_175, w_205⟩, rfl, by decide, by decide, by decide +kernel⟩
theorem w_208 : Cond.methodLink RX2 67 yX2_isWithin ∈ lw_gd := gd (List.mem_of_getElem? (i := 448) (by decide +kernel)) rfl
theorem w_209 : Cond.code yX2_isWithin cX2_isWithin 3 (some .boolean) ∈ lw_gd := gd (List.mem_of_getElem? (i := 450) (by decide +kernel)) rfl
theorem w_210 : Cond.static yX2_isWithin ∈ lw_gd := gd (List.mem_of_getElem? (i := 449) (by decide +kernel)) rfl
theorem msX2_isWithin : MS yX2_isWithin cX2_isWithin 3 (some .boolean) 3 := ⟨⟨w_210, w_175, w_209⟩, by decide, by decide, by decide +kernel⟩
theorem w_211 : Cond.methodLink RX6 171 yX2_nthBetween ∈ lw_gd := gd (List.mem_of_getElem? (i := 451) (by decide +kernel)) rfl
theorem w_212 : Cond.code yX2_nthBetween cX2_nthBetween 8 (some .int) ∈ lw_gd := gd (List.mem_of_getElem? (i := 454) (by decide +kernel)) rfl
theorem w_213 : Cond.instanceMethod yX2_nthBetween ∈ lw_gd := gd (List.mem_of_getElem? (i := 452) (by decide +kernel)) rfl
theorem w_214 : Cond.selects RX2 yX2_nthBetween yX2_nthBetween ∈ lw_gd := gd (List.mem_of_getElem? (i := 453) (by decide +kernel)) rfl
theorem mvX2_nthBetween : MV yX2_nthBetween cX2_nthBetween 8 (some .int) RX2 3 := ⟨⟨w_213, w_214, w_175, w_212⟩, rfl, by decide, by decide, by decide +kernel⟩
theorem w_215 : Cond.methodLink RX6 168 yX2_howManyBetween ∈ lw_gd := gd (List.mem_of_getElem? (i := 444) (by decide +kernel)) rfl
theorem w_216 : Cond.code yX2_howManyBetween cX2_howManyBetween 7 (some .int) ∈ lw_gd := gd (List.mem_of_getElem? (i := 447) (by decide +kernel)) rfl
theorem w_217 : Cond.instanceMethod yX2_howManyBetween ∈ lw_gd := gd (List.mem_of_getElem? (i := 445) (by decide +kernel)) rfl
theorem w_218 : Cond.selects RX2 yX2_howManyBetween yX2_howManyBetween ∈ lw_gd := gd (List.mem_of_getElem? (i := 446) (by decide +kernel)) rfl
theorem mvX2_howManyBetween : MV yX2_howManyBetween cX2_howManyBetween 7 (some .int) RX2 2 := ⟨⟨w_217, w_218, w_175, w_216⟩, rfl, by decide, by decide, by decide +kernel⟩
theorem w_219 : Cond.methodLink RX5 41 yX0_isSize ∈ lw_gd := gd (List.mem_of_getElem? (i := 471) (by decide +kernel)) rfl
theorem w_220 : Cond.fieldLink RX5 24 "LeaningTrees$Ways" "learned" "[Z" ∈ lw_gd := gd (List.mem_of_getElem? (i := 66) (by decide +kernel)) rfl
theorem w_221 : Cond.fieldLink RX5 9 "LeaningTrees$Ways" "forest" "LLeaningTrees$Forest;" ∈ lw_gd := gd (List.mem_of_getElem? (i := 63) (by decide +kernel)) rfl
theorem w_222 : Cond.methodLink RX5 45 yX0_firstOf ∈ lw_gd := gd (List.mem_of_getElem? (i := 472) (by decide +kernel)) rfl
theorem w_223 : Cond.methodLink RX5 49 yX0_lastOf ∈ lw_gd := gd (List.mem_of_getElem? (i := 473) (by decide +kernel)) rfl
theorem w_224 : Cond.methodLink RX5 52 yX0_turnedUp ∈ lw_gd := gd (List.mem_of_getElem? (i := 474) (by decide +kernel)) rfl
theorem w_225 : Cond.methodLink RX5 56 yX5_isTree ∈ lw_gd := gd (List.mem_of_getElem? (i := 463) (by decide +kernel)) rfl
theorem w_226 : Cond.code yX5_isTree cX5_isTree 1 (some .boolean) ∈ lw_gd := gd (List.mem_of_getElem? (i := 465) (by decide +kernel)) rfl
theorem w_227 : Cond.initialized RX5 ∈ lw_gd := gd (List.mem_of_getElem? (i := 4) (by decide +kernel)) rfl
theorem w_228 : Cond.static yX5_isTree ∈ lw_gd := gd (List.mem_of_getElem? (i := 464) (by decide +kernel)) rfl
theorem msX5_isTree : MS yX5_isTree cX5_isTree 1 (some .boolean) 1 := ⟨⟨w_228, w_227, w_226⟩, by decide, by decide, by decide +kernel⟩
theorem w_229 : Cond.fieldLink RX5 17 "LeaningTrees$Ways" "ups" "[I" ∈ lw_gd := gd (List.mem_of_getElem? (i := 64) (by decide +kernel)) rfl
theorem w_230 : Cond.methodLink RX5 59 yX5_turnPlace ∈ lw_gd := gd (List.mem_of_getElem? (i := 475) (by decide +kernel)) rfl
theorem w_231 : Cond.code yX5_turnPlace cX5_turnPlace 2 (some .int) ∈ lw_gd := gd (List.mem_of_getElem? (i := 477) (by decide +kernel)) rfl
theorem w_232 : Cond.static yX5_turnPlace ∈ lw_gd := gd (List.mem_of_getElem? (i := 476) (by decide +kernel)) rfl
theorem msX5_turnPlace : MS yX5_turnPlace cX5_turnPlace 2 (some .int) 2 := ⟨⟨w_232, w_227, w_231⟩, by decide, by decide, by decide +kernel⟩
theorem w_233 : Cond.fieldLink RX5 21 "LeaningTrees$Ways" "backs" "[I" ∈ lw_gd := gd (List.mem_of_getElem? (i := 65) (by decide +kernel)) rfl
theorem w_234 : Cond.fieldLink RX5 28 "LeaningTrees$Ways" "turns" "[I" ∈ lw_gd := gd (List.mem_of_getElem? (i := 67) (by decide +kernel)) rfl
theorem w_235 : Cond.fieldLink RX5 75 "LeaningTrees$Ways" "queued" "I" ∈ lw_gd := gd (List.mem_of_getElem? (i := 70) (by decide +kernel)) rfl
theorem w_236 : Cond.fieldLink RX5 31 "LeaningTrees$Ways" "queue" "[I" ∈ lw_gd := gd (List.mem_of_getElem? (i := 68) (by decide +kernel)) rfl
theorem w_237 : Cond.fieldLink RX5 37 "LeaningTrees$Ways" "measured" "I" ∈ lw_gd := gd (List.mem_of_getElem? (i := 71) (by decide +kernel)) rfl
theorem w_238 : Cond.methodLink RX5 62 yX0_sizeOf ∈ lw_gd := gd (List.mem_of_getElem? (i := 466) (by decide +kernel)) rfl
theorem w_239 : Cond.methodLink RX5 65 yX5_learn ∈ lw_gd := gd (List.mem_of_getElem? (i := 467) (by decide +kernel)) rfl
theorem w_240 : Cond.code yX5_learn cX5_learn 5 none ∈ lw_gd := gd (List.mem_of_getElem? (i := 470) (by decide +kernel)) rfl
theorem w_241 : Cond.instanceMethod yX5_learn ∈ lw_gd := gd (List.mem_of_getElem? (i := 469) (by decide +kernel)) rfl
theorem w_242 : Cond.selects RX5 yX5_learn yX5_learn ∈ lw_gd := gp (List.mem_of_getElem? (i := 11) (by decide +kernel)) rfl
theorem mvX5_learn : MV yX5_learn cX5_learn 5 none RX5 1 := ⟨⟨w_241, w_242, w_227, w_240⟩, rfl, by decide, by decide, by decide +kernel⟩
theorem w_243 : Cond.methodLink RX5 69 yJ_fillI ∈ lw_gd := gd (List.mem_of_getElem? (i := 478) (by decide +kernel)) rfl
theorem w_244 : Cond.methodLink RX5 78 yX5_reach ∈ lw_gd := gd (List.mem_of_getElem? (i := 479) (by decide +kernel)) rfl
theorem w_245 : Cond.code yX5_reach cX5_reach 3 none ∈ lw_gd := gd (List.mem_of_getElem? (i := 482) (by decide +kernel)) rfl
theorem w_246 : Cond.instanceMethod yX5_reach ∈ lw_gd := gd (List.mem_of_getElem? (i := 481) (by decide +kernel)) rfl
theorem w_247 : Cond.selects RX5 yX5_reach yX5_reach ∈ lw_gd := gp (List.mem_of_getElem? (i := 12) (by decide +kernel)) rfl
theorem mvX5_reach : MV yX5_reach cX5_reach 3 none RX5 2 := ⟨⟨w_246, w_247, w_227, w_245⟩, rfl, by decide, by decide, by decide +kernel⟩
theorem w_248 : Cond.methodLink RX5 82 yX5_turnsFrom ∈ lw_gd := gd (List.mem_of_getElem? (i := 491) (by decide +kernel)) rfl
theorem w_249 : Cond.code yX5_turnsFrom cX5_turnsFrom 2 (some .int) ∈ lw_gd := gd (List.mem_of_getElem? (i := 486) (by decide +kernel)) rfl
theorem w_250 : Cond.instanceMethod yX5_turnsFrom ∈ lw_gd := gd (List.mem_of_getElem? (i := 484) (by decide +kernel)) rfl
theorem w_251 : Cond.selects RX5 yX5_turnsFrom yX5_turnsFrom ∈ lw_gd := gd (List.mem_of_getElem? (i := 485) (by decide +kernel)) rfl
theorem mvX5_turnsFrom : MV yX5_turnsFrom cX5_turnsFrom 2 (some .int) RX5 1 := ⟨⟨w_250, w_251, w_227, w_249⟩, rfl, by decide, by decide, by decide +kernel⟩
theorem w_252 : Cond.fieldLink RX6 30 "LeaningTrees" "ways" "LLeaningTrees$Ways;" ∈ lw_gd := gd (List.mem_of_getElem? (i := 164) (by decide +kernel)) rfl
theorem w_253 : Cond.methodLink RX6 175 yX5_measure ∈ lw_gd := gd (List.mem_of_getElem? (i := 459) (by decide +kernel)) rfl
theorem w_254 : Cond.code yX5_measure cX5_measure 6 none ∈ lw_gd := gd (List.mem_of_getElem? (i := 462) (by decide +kernel)) rfl
theorem w_255 : Cond.instanceMethod yX5_measure ∈ lw_gd := gd (List.mem_of_getElem? (i := 460) (by decide +kernel)) rfl
theorem w_256 : Cond.selects RX5 yX5_measure yX5_measure ∈ lw_gd := gd (List.mem_of_getElem? (i := 461) (by decide +kernel)) rfl
theorem mvX5_measure : MV yX5_measure cX5_measure 6 none RX5 1 := ⟨⟨w_255, w_256, w_227, w_254⟩, rfl, by decide, by decide, by decide +kernel⟩
theorem w_257 : Cond.methodLink RX6 178 yX5_turnsFrom ∈ lw_gd := gd (List.mem_of_getElem? (i := 483) (by decide +kernel)) rfl
theorem w_258 : Cond.methodLink RX6 181 yX5_firstTurn ∈ lw_gd := gd (List.mem_of_getElem? (i := 487) (by decide +kernel)) rfl
theorem w_259 : Cond.code yX5_firstTurn cX5_firstTurn 5 (some .int) ∈ lw_gd := gd (List.mem_of_getElem? (i := 490) (by decide +kernel)) rfl
theorem w_260 : Cond.instanceMethod yX5_firstTurn ∈ lw_gd := gd (List.mem_of_getElem? (i := 488) (by decide +kernel)) rfl
theorem w_261 : Cond.selects RX5 yX5_firstTurn yX5_firstTurn ∈ lw_gd := gd (List.mem_of_getElem? (i := 489) (by decide +kernel)) rfl
theorem mvX5_firstTurn : MV yX5_firstTurn cX5_firstTurn 5 (some .int) RX5 1 := ⟨⟨w_260, w_261, w_227, w_259⟩, rfl, by decide, by decide, by decide +kernel⟩
theorem w_262 : Cond.fieldLink RX5 34 "LeaningTrees$Ways" "turnsUp" "[I" ∈ lw_gd := gd (List.mem_of_getElem? (i := 69) (by decide +kernel)) rfl
theorem w_263 : Cond.methodLink RX5 94 yX5_improve ∈ lw_gd := gd (List.mem_of_getElem? (i := 500) (by decide +kernel)) rfl
theorem w_264 : Cond.code yX5_improve cX5_improve 5 none ∈ lw_gd := gd (List.mem_of_getElem? (i := 503) (by decide +kernel)) rfl
theorem w_265 : Cond.instanceMethod yX5_improve ∈ lw_gd := gd (List.mem_of_getElem? (i := 502) (by decide +kernel)) rfl
theorem w_266 : Cond.selects RX5 yX5_improve yX5_improve ∈ lw_gd := gp (List.mem_of_getElem? (i := 13) (by decide +kernel)) rfl
theorem mvX5_improve : MV yX5_improve cX5_improve 5 none RX5 3 := ⟨⟨w_265, w_266, w_227, w_264⟩, rfl, by decide, by decide, by decide +kernel⟩
theorem w_267 : Cond.methodLink RX6 184 yX5_turnsUpAlone ∈ lw_gd := gd (List.mem_of_getElem? (i := 496) (by decide +kernel)) rfl
theorem w_268 : Cond.code yX5_turnsUpAlone cX5_turnsUpAlone 7 (some .int) ∈ lw_gd := gd (List.mem_of_getElem? (i := 499) (by decide +kernel)) rfl
theorem w_269 : Cond.instanceMethod yX5_turnsUpAlone ∈ lw_gd := gd (List.mem_of_getElem? (i := 497) (by decide +kernel)) rfl
theorem w_270 : Cond.selects RX5 yX5_turnsUpAlone yX5_turnsUpAlone ∈ lw_gd := gd (List.mem_of_getElem? (i := 498) (by decide +kernel)) rfl
theorem mvX5_turnsUpAlone : MV yX5_turnsUpAlone cX5_turnsUpAlone 7 (some .int) RX5 3 := ⟨⟨w_269, w_270, w_227, w_268⟩, rfl, by decide, by decide, by decide +kernel⟩
theorem w_271 : Cond.fieldLink RX2 17 "LeaningTrees$Order" "markedCodes" "[I" ∈ lw_gd := gd (List.mem_of_getElem? (i := 48) (by decide +kernel)) rfl
theorem w_272 : Cond.fieldLink RX2 21 "LeaningTrees$Order" "marks" "[I" ∈ lw_gd := gd (List.mem_of_getElem? (i := 49) (by decide +kernel)) rfl
theorem w_273 : Cond.methodLink RX2 71 yX2_sumBelow ∈ lw_gd := gd (List.mem_of_getElem? (i := 512) (by decide +kernel)) rfl
theorem w_274 : Cond.code yX2_sumBelow cX2_sumBelow 5 (some .int) ∈ lw_gd := gd (List.mem_of_getElem? (i := 515) (by decide +kernel)) rfl
theorem w_275 : Cond.instanceMethod yX2_sumBelow ∈ lw_gd := gd (List.mem_of_getElem? (i := 514) (by decide +kernel)) rfl
theorem w_276 : Cond.selects RX2 yX2_sumBelow yX2_sumBelow ∈ lw_gd := gp (List.mem_of_getElem? (i := 14) (by decide +kernel)) rfl
theorem mvX2_sumBelow : MV yX2_sumBelow cX2_sumBelow 5 (some .int) RX2 2 := ⟨⟨w_275, w_276, w_175, w_274⟩, rfl, by decide, by decide, by decide +kernel⟩
theorem w_277 : Cond.methodLink RX6 187 yX2_markOf ∈ lw_gd := gd (List.mem_of_getElem? (i := 508) (by decide +kernel)) rfl
theorem w_278 : Cond.code yX2_markOf cX2_markOf 9 (some .int) ∈ lw_gd := gd (List.mem_of_getElem? (i := 511) (by decide +kernel)) rfl
theorem w_279 : Cond.instanceMethod yX2_markOf ∈ lw_gd := gd (List.mem_of_getElem? (i := 509) (by decide +kernel)) rfl
theorem w_280 : Cond.selects RX2 yX2_markOf yX2_markOf ∈ lw_gd := gd (List.mem_of_getElem? (i := 510) (by decide +kernel)) rfl
theorem mvX2_markOf : MV yX2_markOf cX2_markOf 9 (some .int) RX2 2 := ⟨⟨w_279, w_280, w_175, w_278⟩, rfl, by decide, by decide, by decide +kernel⟩
theorem w_281 : Cond.methodLink RX2 74 yX0_lastOf ∈ lw_gd := gd (List.mem_of_getElem? (i := 524) (by decide +kernel)) rfl
theorem w_282 : Cond.methodLink RX2 77 yX0_firstOf ∈ lw_gd := gd (List.mem_of_getElem? (i := 525) (by decide +kernel)) rfl
theorem w_283 : Cond.methodLink RX6 190 yX2_howManyPairs ∈ lw_gd := gd (List.mem_of_getElem? (i := 520) (by decide +kernel)) rfl
theorem w_284 : Cond.code yX2_howManyPairs cX2_howManyPairs 7 (some .int) ∈ lw_gd := gd (List.mem_of_getElem? (i := 523) (by decide +kernel)) rfl
theorem w_285 : Cond.instanceMethod yX2_howManyPairs ∈ lw_gd := gd (List.mem_of_getElem? (i := 521) (by decide +kernel)) rfl
theorem w_286 : Cond.selects RX2 yX2_howManyPairs yX2_howManyPairs ∈ lw_gd := gd (List.mem_of_getElem? (i := 522) (by decide +kernel)) rfl
theorem mvX2_howManyPairs : MV yX2_howManyPairs cX2_howManyPairs 7 (some .int) RX2 1 := ⟨⟨w_285, w_286, w_175, w_284⟩, rfl, by decide, by decide, by decide +kernel⟩
theorem w_287 : Cond.methodLink RX5 85 Lib.Math.max.name ∈ lw_gd := gd (List.mem_of_getElem? (i := 534) (by decide +kernel)) rfl
theorem w_288 : Cond.methodLink RX5 90 yX5_farthest ∈ lw_gd := gd (List.mem_of_getElem? (i := 539) (by decide +kernel)) rfl
theorem w_289 : Cond.code yX5_farthest cX5_farthest 3 (some .int) ∈ lw_gd := gd (List.mem_of_getElem? (i := 533) (by decide +kernel)) rfl
theorem w_290 : Cond.instanceMethod yX5_farthest ∈ lw_gd := gd (List.mem_of_getElem? (i := 531) (by decide +kernel)) rfl
theorem w_291 : Cond.selects RX5 yX5_farthest yX5_farthest ∈ lw_gd := gd (List.mem_of_getElem? (i := 532) (by decide +kernel)) rfl
theorem mvX5_farthest : MV yX5_farthest cX5_farthest 3 (some .int) RX5 0 := ⟨⟨w_290, w_291, w_227, w_289⟩, rfl, by decide, by decide, by decide +kernel⟩
theorem w_292 : Cond.methodLink RX6 193 yX5_farthest ∈ lw_gd := gd (List.mem_of_getElem? (i := 530) (by decide +kernel)) rfl
theorem w_293 : Cond.methodLink RX6 196 yX5_howManyFarthest ∈ lw_gd := gd (List.mem_of_getElem? (i := 535) (by decide +kernel)) rfl
theorem w_294 : Cond.code yX5_howManyFarthest cX5_howManyFarthest 4 (some .int) ∈ lw_gd := gd (List.mem_of_getElem? (i := 538) (by decide +kernel)) rfl
theorem w_295 : Cond.instanceMethod yX5_howManyFarthest ∈ lw_gd := gd (List.mem_of_getElem? (i := 536) (by decide +kernel)) rfl
theorem w_296 : Cond.selects RX5 yX5_howManyFarthest yX5_howManyFarthest ∈ lw_gd := gd (List.mem_of_getElem? (i := 537) (by decide +kernel)) rfl
theorem mvX5_howManyFarthest : MV yX5_howManyFarthest cX5_howManyFarthest 4 (some .int) RX5 0 := ⟨⟨w_295, w_296, w_227, w_294⟩, rfl, by decide, by decide, by decide +kernel⟩
theorem w_297 : Cond.methodLink RX6 199 yX5_leastFarthest ∈ lw_gd := gd (List.mem_of_getElem? (i := 540) (by decide +kernel)) rfl
theorem w_298 : Cond.code yX5_leastFarthest cX5_leastFarthest 3 (some .int) ∈ lw_gd := gd (List.mem_of_getElem? (i := 543) (by decide +kernel)) rfl
theorem w_299 : Cond.instanceMethod yX5_leastFarthest ∈ lw_gd := gd (List.mem_of_getElem? (i := 541) (by decide +kernel)) rfl
theorem w_300 : Cond.selects RX5 yX5_leastFarthest yX5_leastFarthest ∈ lw_gd := gd (List.mem_of_getElem? (i := 542) (by decide +kernel)) rfl
theorem mvX5_leastFarthest : MV yX5_leastFarthest cX5_leastFarthest 3 (some .int) RX5 0 := ⟨⟨w_299, w_300, w_227, w_298⟩, rfl, by decide, by decide, by decide +kernel⟩
theorem w_301 : Cond.methodLink RX0 73 yX0_withRightChild ∈ lw_gd := gd (List.mem_of_getElem? (i := 556) (by decide +kernel)) rfl
theorem w_302 : Cond.methodLink RX6 202 yX0_howManyWith ∈ lw_gd := gd (List.mem_of_getElem? (i := 552) (by decide +kernel)) rfl
theorem w_303 : Cond.code yX0_howManyWith cX0_howManyWith 5 (some .int) ∈ lw_gd := gd (List.mem_of_getElem? (i := 555) (by decide +kernel)) rfl
theorem w_304 : Cond.instanceMethod yX0_howManyWith ∈ lw_gd := gd (List.mem_of_getElem? (i := 553) (by decide +kernel)) rfl
theorem w_305 : Cond.selects RX0 yX0_howManyWith yX0_howManyWith ∈ lw_gd := gd (List.mem_of_getElem? (i := 554) (by decide +kernel)) rfl
theorem mvX0_howManyWith : MV yX0_howManyWith cX0_howManyWith 5 (some .int) RX0 2 := ⟨⟨w_304, w_305, w_3, w_303⟩, rfl, by decide, by decide, by decide +kernel⟩
theorem w_306 : Cond.methodLink RX6 205 yX0_leastWith ∈ lw_gd := gd (List.mem_of_getElem? (i := 557) (by decide +kernel)) rfl
theorem w_307 : Cond.code yX0_leastWith cX0_leastWith 4 (some .int) ∈ lw_gd := gd (List.mem_of_getElem? (i := 560) (by decide +kernel)) rfl
theorem w_308 : Cond.instanceMethod yX0_leastWith ∈ lw_gd := gd (List.mem_of_getElem? (i := 558) (by decide +kernel)) rfl
theorem w_309 : Cond.selects RX0 yX0_leastWith yX0_leastWith ∈ lw_gd := gd (List.mem_of_getElem? (i := 559) (by decide +kernel)) rfl
theorem mvX0_leastWith : MV yX0_leastWith cX0_leastWith 4 (some .int) RX0 2 := ⟨⟨w_308, w_309, w_3, w_307⟩, rfl, by decide, by decide, by decide +kernel⟩
theorem w_310 : Cond.methodLink RX6 208 yX0_greatestWith ∈ lw_gd := gd (List.mem_of_getElem? (i := 561) (by decide +kernel)) rfl
theorem w_311 : Cond.code yX0_greatestWith cX0_greatestWith 4 (some .int) ∈ lw_gd := gd (List.mem_of_getElem? (i := 564) (by decide +kernel)) rfl
theorem w_312 : Cond.instanceMethod yX0_greatestWith ∈ lw_gd := gd (List.mem_of_getElem? (i := 562) (by decide +kernel)) rfl
theorem w_313 : Cond.selects RX0 yX0_greatestWith yX0_greatestWith ∈ lw_gd := gd (List.mem_of_getElem? (i := 563) (by decide +kernel)) rfl
theorem mvX0_greatestWith : MV yX0_greatestWith cX0_greatestWith 4 (some .int) RX0 2 := ⟨⟨w_312, w_313, w_3, w_311⟩, rfl, by decide, by decide, by decide +kernel⟩
theorem w_314 : Cond.methodLink RX0 76 yX0_sideBySide ∈ lw_gd := gd (List.mem_of_getElem? (i := 593) (by decide +kernel)) rfl
theorem w_315 : Cond.code yX0_sideBySide cX0_sideBySide 4 (some .int) ∈ lw_gd := gd (List.mem_of_getElem? (i := 596) (by decide +kernel)) rfl
theorem w_316 : Cond.instanceMethod yX0_sideBySide ∈ lw_gd := gd (List.mem_of_getElem? (i := 595) (by decide +kernel)) rfl
theorem w_317 : Cond.selects RX0 yX0_sideBySide yX0_sideBySide ∈ lw_gd := gp (List.mem_of_getElem? (i := 16) (by decide +kernel)) rfl
theorem mvX0_sideBySide : MV yX0_sideBySide cX0_sideBySide 4 (some .int) RX0 3 := ⟨⟨w_316, w_317, w_3, w_315⟩, rfl, by decide, by decide, by decide +kernel⟩
theorem w_318 : Cond.methodLink RX6 217 yX6_lackOrTooMany ∈ lw_gd := gd (List.mem_of_getElem? (i := 585) (by decide +kernel)) rfl
theorem w_319 : Cond.code yX6_lackOrTooMany cX6_lackOrTooMany 3 (some .int) ∈ lw_gd := gd (List.mem_of_getElem? (i := 588) (by decide +kernel)) rfl
theorem w_320 : Cond.instanceMethod yX6_lackOrTooMany ∈ lw_gd := gd (List.mem_of_getElem? (i := 587) (by decide +kernel)) rfl
theorem w_321 : Cond.selects RX6 yX6_lackOrTooMany yX6_lackOrTooMany ∈ lw_gd := gp (List.mem_of_getElem? (i := 15) (by decide +kernel)) rfl
theorem mvX6_lackOrTooMany : MV yX6_lackOrTooMany cX6_lackOrTooMany 3 (some .int) RX6 1 := ⟨⟨w_320, w_321, w_20, w_319⟩, rfl, by decide, by decide, by decide +kernel⟩
theorem w_322 : Cond.methodLink RX6 220 yX0_setOver ∈ lw_gd := gd (List.mem_of_getElem? (i := 589) (by decide +kernel)) rfl
theorem w_323 : Cond.code yX0_setOver cX0_setOver 3 (some .int) ∈ lw_gd := gd (List.mem_of_getElem? (i := 592) (by decide +kernel)) rfl
theorem w_324 : Cond.instanceMethod yX0_setOver ∈ lw_gd := gd (List.mem_of_getElem? (i := 590) (by decide +kernel)) rfl
theorem w_325 : Cond.selects RX0 yX0_setOver yX0_setOver ∈ lw_gd := gd (List.mem_of_getElem? (i := 591) (by decide +kernel)) rfl
theorem mvX0_setOver : MV yX0_setOver cX0_setOver 3 (some .int) RX0 2 := ⟨⟨w_324, w_325, w_3, w_323⟩, rfl, by decide, by decide, by decide +kernel⟩
theorem w_326 : Cond.methodLink RX6 223 yX0_setUnder ∈ lw_gd := gd (List.mem_of_getElem? (i := 601) (by decide +kernel)) rfl
theorem w_327 : Cond.code yX0_setUnder cX0_setUnder 6 (some .int) ∈ lw_gd := gd (List.mem_of_getElem? (i := 604) (by decide +kernel)) rfl
theorem w_328 : Cond.instanceMethod yX0_setUnder ∈ lw_gd := gd (List.mem_of_getElem? (i := 602) (by decide +kernel)) rfl
theorem w_329 : Cond.selects RX0 yX0_setUnder yX0_setUnder ∈ lw_gd := gd (List.mem_of_getElem? (i := 603) (by decide +kernel)) rfl
theorem mvX0_setUnder : MV yX0_setUnder cX0_setUnder 6 (some .int) RX0 2 := ⟨⟨w_328, w_329, w_3, w_327⟩, rfl, by decide, by decide, by decide +kernel⟩
theorem w_330 : Cond.methodLink RX1 26 yX1_isList ∈ lw_gd := gd (List.mem_of_getElem? (i := 620) (by decide +kernel)) rfl
theorem w_331 : Cond.code yX1_isList cX1_isList 1 (some .boolean) ∈ lw_gd := gd (List.mem_of_getElem? (i := 615) (by decide +kernel)) rfl
theorem w_332 : Cond.initialized RX1 ∈ lw_gd := gd (List.mem_of_getElem? (i := 6) (by decide +kernel)) rfl
theorem w_333 : Cond.static yX1_isList ∈ lw_gd := gd (List.mem_of_getElem? (i := 614) (by decide +kernel)) rfl
theorem msX1_isList : MS yX1_isList cX1_isList 1 (some .boolean) 1 := ⟨⟨w_333, w_332, w_331⟩, by decide, by decide, by decide +kernel⟩
theorem w_334 : Cond.fieldLink RX1 13 "LeaningTrees$Lists" "longs" "[[J" ∈ lw_gd := gd (List.mem_of_getElem? (i := 116) (by decide +kernel)) rfl
theorem w_335 : Cond.methodLink RX1 34 yJ_fillL ∈ lw_gd := gd (List.mem_of_getElem? (i := 621) (by decide +kernel)) rfl
theorem w_336 : Cond.fieldLink RX1 16 "LeaningTrees$Lists" "lengths" "[I" ∈ lw_gd := gd (List.mem_of_getElem? (i := 117) (by decide +kernel)) rfl
theorem w_337 : Cond.methodLink RX6 226 yX1_isList ∈ lw_gd := gd (List.mem_of_getElem? (i := 613) (by decide +kernel)) rfl
theorem w_338 : Cond.fieldLink RX6 44 "LeaningTrees" "lists" "LLeaningTrees$Lists;" ∈ lw_gd := gd (List.mem_of_getElem? (i := 166) (by decide +kernel)) rfl
theorem w_339 : Cond.methodLink RX6 229 yX1_renew ∈ lw_gd := gd (List.mem_of_getElem? (i := 616) (by decide +kernel)) rfl
theorem w_340 : Cond.code yX1_renew cX1_renew 3 none ∈ lw_gd := gd (List.mem_of_getElem? (i := 619) (by decide +kernel)) rfl
theorem w_341 : Cond.instanceMethod yX1_renew ∈ lw_gd := gd (List.mem_of_getElem? (i := 617) (by decide +kernel)) rfl
theorem w_342 : Cond.selects RX1 yX1_renew yX1_renew ∈ lw_gd := gd (List.mem_of_getElem? (i := 618) (by decide +kernel)) rfl
theorem mvX1_renew : MV yX1_renew cX1_renew 3 none RX1 2 := ⟨⟨w_341, w_342, w_332, w_340⟩, rfl, by decide, by decide, by decide +kernel⟩
theorem w_343 : Cond.methodLink RX1 30 yX1_lengthOf ∈ lw_gd := gd (List.mem_of_getElem? (i := 632) (by decide +kernel)) rfl
theorem w_344 : Cond.code yX1_lengthOf cX1_lengthOf 2 (some .int) ∈ lw_gd := gd (List.mem_of_getElem? (i := 635) (by decide +kernel)) rfl
theorem w_345 : Cond.instanceMethod yX1_lengthOf ∈ lw_gd := gd (List.mem_of_getElem? (i := 633) (by decide +kernel)) rfl
theorem w_346 : Cond.selects RX1 yX1_lengthOf yX1_lengthOf ∈ lw_gd := gd (List.mem_of_getElem? (i := 634) (by decide +kernel)) rfl
theorem mvX1_lengthOf : MV yX1_lengthOf cX1_lengthOf 2 (some .int) RX1 1 := ⟨⟨w_345, w_346, w_332, w_344⟩, rfl, by decide, by decide, by decide +kernel⟩
theorem w_347 : Cond.methodLink RX1 37 yX1_isPlace ∈ lw_gd := gd (List.mem_of_getElem? (i := 644) (by decide +kernel)) rfl
theorem w_348 : Cond.code yX1_isPlace cX1_isPlace 3 (some .boolean) ∈ lw_gd := gd (List.mem_of_getElem? (i := 639) (by decide +kernel)) rfl
theorem w_349 : Cond.instanceMethod yX1_isPlace ∈ lw_gd := gd (List.mem_of_getElem? (i := 637) (by decide +kernel)) rfl
theorem w_350 : Cond.selects RX1 yX1_isPlace yX1_isPlace ∈ lw_gd := gd (List.mem_of_getElem? (i := 638) (by decide +kernel)) rfl
theorem mvX1_isPlace : MV yX1_isPlace cX1_isPlace 3 (some .boolean) RX1 2 := ⟨⟨w_349, w_350, w_332, w_348⟩, rfl, by decide, by decide, by decide +kernel⟩
theorem w_351 : Cond.methodLink RX6 233 yX1_isThere ∈ lw_gd := gd (List.mem_of_getElem? (i := 628) (by decide +kernel)) rfl
theorem w_352 : Cond.code yX1_isThere cX1_isThere 2 (some .boolean) ∈ lw_gd := gd (List.mem_of_getElem? (i := 631) (by decide +kernel)) rfl
theorem w_353 : Cond.instanceMethod yX1_isThere ∈ lw_gd := gd (List.mem_of_getElem? (i := 629) (by decide +kernel)) rfl
theorem w_354 : Cond.selects RX1 yX1_isThere yX1_isThere ∈ lw_gd := gd (List.mem_of_getElem? (i := 630) (by decide +kernel)) rfl
theorem mvX1_isThere : MV yX1_isThere cX1_isThere 2 (some .boolean) RX1 1 := ⟨⟨w_353, w_354, w_332, w_352⟩, rfl, by decide, by decide, by decide +kernel⟩
theorem w_355 : Cond.methodLink RX6 236 yX1_isPlace ∈ lw_gd := gd (List.mem_of_getElem? (i := 636) (by decide +kernel)) rfl
theorem w_356 : Cond.methodLink RX6 239 yX1_store ∈ lw_gd := gd (List.mem_of_getElem? (i := 640) (by decide +kernel)) rfl
theorem w_357 : Cond.code yX1_store cX1_store 5 none ∈ lw_gd := gd (List.mem_of_getElem? (i := 643) (by decide +kernel)) rfl
theorem w_358 : Cond.instanceMethod yX1_store ∈ lw_gd := gd (List.mem_of_getElem? (i := 641) (by decide +kernel)) rfl
theorem w_359 : Cond.selects RX1 yX1_store yX1_store ∈ lw_gd := gd (List.mem_of_getElem? (i := 642) (by decide +kernel)) rfl
theorem mvX1_store : MV yX1_store cX1_store 5 none RX1 3 := ⟨⟨w_358, w_359, w_332, w_357⟩, rfl, by decide, by decide, by decide +kernel⟩
theorem w_360 : Cond.constantLong RX1 41 (-9223372036854775808 : Int64) ∈ lw_gd := gd (List.mem_of_getElem? (i := 653) (by decide +kernel)) rfl
theorem w_361 : Cond.constantLong RX6 247 (-9223372036854775808 : Int64) ∈ lw_gd := gd (List.mem_of_getElem? (i := 654) (by decide +kernel)) rfl
theorem w_362 : Cond.methodLink RX6 243 yX1_valueAt ∈ lw_gd := gd (List.mem_of_getElem? (i := 649) (by decide +kernel)) rfl
theorem w_363 : Cond.code yX1_valueAt cX1_valueAt 3 (some .long) ∈ lw_gd := gd (List.mem_of_getElem? (i := 652) (by decide +kernel)) rfl
theorem w_364 : Cond.instanceMethod yX1_valueAt ∈ lw_gd := gd (List.mem_of_getElem? (i := 650) (by decide +kernel)) rfl
theorem w_365 : Cond.selects RX1 yX1_valueAt yX1_valueAt ∈ lw_gd := gd (List.mem_of_getElem? (i := 651) (by decide +kernel)) rfl
theorem mvX1_valueAt : MV yX1_valueAt cX1_valueAt 3 (some .long) RX1 2 := ⟨⟨w_364, w_365, w_332, w_363⟩, rfl, by decide, by decide, by decide +kernel⟩
theorem w_366 : Cond.constantLong RX0 68 (-1 : Int64) ∈ lw_gd := gd (List.mem_of_getElem? (i := 665) (by decide +kernel)) rfl
theorem w_367 : Cond.methodLink RX0 70 yX0_turnedBack ∈ lw_gd := gd (List.mem_of_getElem? (i := 666) (by decide +kernel)) rfl
theorem w_368 : Cond.methodLink RX0 65 yX0_turnedUp ∈ lw_gd := gd (List.mem_of_getElem? (i := 664) (by decide +kernel)) rfl
theorem w_369 : Cond.methodLink RX6 249 yX1_lengthOf ∈ lw_gd := gd (List.mem_of_getElem? (i := 659) (by decide +kernel)) rfl
theorem w_370 : Cond.methodLink RX6 252 yX0_turnedAsTold ∈ lw_gd := gd (List.mem_of_getElem? (i := 660) (by decide +kernel)) rfl
theorem w_371 : Cond.code yX0_turnedAsTold cX0_turnedAsTold 5 (some .int) ∈ lw_gd := gd (List.mem_of_getElem? (i := 663) (by decide +kernel)) rfl
theorem w_372 : Cond.instanceMethod yX0_turnedAsTold ∈ lw_gd := gd (List.mem_of_getElem? (i := 661) (by decide +kernel)) rfl
theorem w_373 : Cond.selects RX0 yX0_turnedAsTold yX0_turnedAsTold ∈ lw_gd := gd (List.mem_of_getElem? (i := 662) (by decide +kernel)) rfl
theorem mvX0_turnedAsTold : MV yX0_turnedAsTold cX0_turnedAsTold 5 (some .int) RX0 2 := ⟨⟨w_372, w_373, w_3, w_371⟩, rfl, by decide, by decide, by decide +kernel⟩
theorem w_374 : Cond.fieldLink RX4 24 "LeaningTrees$Tape" "length" "I" ∈ lw_gd := gd (List.mem_of_getElem? (i := 131) (by decide +kernel)) rfl
theorem w_375 : Cond.fieldLink RX4 11 "LeaningTrees$Tape" "bytes" "[I" ∈ lw_gd := gd (List.mem_of_getElem? (i := 130) (by decide +kernel)) rfl
theorem w_376 : Cond.fieldLink RX6 51 "LeaningTrees" "tape" "LLeaningTrees$Tape;" ∈ lw_gd := gd (List.mem_of_getElem? (i := 167) (by decide +kernel)) rfl
theorem w_377 : Cond.methodLink RX6 256 yX4_append ∈ lw_gd := gd (List.mem_of_getElem? (i := 675) (by decide +kernel)) rfl
theorem w_378 : Cond.code yX4_append cX4_append 2 (some .boolean) ∈ lw_gd := gd (List.mem_of_getElem? (i := 678) (by decide +kernel)) rfl
theorem w_379 : Cond.initialized RX4 ∈ lw_gd := gd (List.mem_of_getElem? (i := 8) (by decide +kernel)) rfl
theorem w_380 : Cond.instanceMethod yX4_append ∈ lw_gd := gd (List.mem_of_getElem? (i := 676) (by decide +kernel)) rfl
theorem w_381 : Cond.selects RX4 yX4_append yX4_append ∈ lw_gd := gd (List.mem_of_getElem? (i := 677) (by decide +kernel)) rfl
theorem mvX4_append : MV yX4_append cX4_append 2 (some .boolean) RX4 1 := ⟨⟨w_380, w_381, w_379, w_378⟩, rfl, by decide, by decide, by decide +kernel⟩
theorem w_382 : Cond.methodLink RX6 259 yX4_length ∈ lw_gd := gd (List.mem_of_getElem? (i := 679) (by decide +kernel)) rfl
theorem w_383 : Cond.code yX4_length cX4_length 1 (some .int) ∈ lw_gd := gd (List.mem_of_getElem? (i := 682) (by decide +kernel)) rfl
theorem w_384 : Cond.instanceMethod yX4_length ∈ lw_gd := gd (List.mem_of_getElem? (i := 680) (by decide +kernel)) rfl
theorem w_385 : Cond.selects RX4 yX4_length yX4_length ∈ lw_gd := gd (List.mem_of_getElem? (i := 681) (by decide +kernel)) rfl
theorem mvX4_length : MV yX4_length cX4_length 1 (some .int) RX4 0 := ⟨⟨w_384, w_385, w_379, w_383⟩, rfl, by decide, by decide, by decide +kernel⟩
theorem w_386 : Cond.methodLink RX6 262 yX4_clear ∈ lw_gd := gd (List.mem_of_getElem? (i := 687) (by decide +kernel)) rfl
theorem w_387 : Cond.code yX4_clear cX4_clear 1 none ∈ lw_gd := gd (List.mem_of_getElem? (i := 690) (by decide +kernel)) rfl
theorem w_388 : Cond.instanceMethod yX4_clear ∈ lw_gd := gd (List.mem_of_getElem? (i := 688) (by decide +kernel)) rfl
theorem w_389 : Cond.selects RX4 yX4_clear yX4_clear ∈ lw_gd := gd (List.mem_of_getElem? (i := 689) (by decide +kernel)) rfl
theorem mvX4_clear : MV yX4_clear cX4_clear 1 none RX4 0 := ⟨⟨w_388, w_389, w_379, w_387⟩, rfl, by decide, by decide, by decide +kernel⟩
theorem w_390 : Cond.fieldLink RX4 28 "LeaningTrees$Tape" "open" "I" ∈ lw_gd := gd (List.mem_of_getElem? (i := 135) (by decide +kernel)) rfl
theorem w_391 : Cond.fieldLink RX4 15 "LeaningTrees$Tape" "awaited" "[I" ∈ lw_gd := gd (List.mem_of_getElem? (i := 132) (by decide +kernel)) rfl
theorem w_392 : Cond.fieldLink RX4 18 "LeaningTrees$Tape" "openNodes" "[I" ∈ lw_gd := gd (List.mem_of_getElem? (i := 133) (by decide +kernel)) rfl
theorem w_393 : Cond.fieldLink RX4 34 "LeaningTrees$Tape" "numbered" "I" ∈ lw_gd := gd (List.mem_of_getElem? (i := 137) (by decide +kernel)) rfl
theorem w_394 : Cond.methodLink RX4 60 yX4_awaitedNow ∈ lw_gd := gd (List.mem_of_getElem? (i := 707) (by decide +kernel)) rfl
theorem w_395 : Cond.code yX4_awaitedNow cX4_awaitedNow 1 (some .int) ∈ lw_gd := gd (List.mem_of_getElem? (i := 710) (by decide +kernel)) rfl
theorem w_396 : Cond.instanceMethod yX4_awaitedNow ∈ lw_gd := gd (List.mem_of_getElem? (i := 709) (by decide +kernel)) rfl
theorem w_397 : Cond.selects RX4 yX4_awaitedNow yX4_awaitedNow ∈ lw_gd := gp (List.mem_of_getElem? (i := 19) (by decide +kernel)) rfl
theorem mvX4_awaitedNow : MV yX4_awaitedNow cX4_awaitedNow 1 (some .int) RX4 0 := ⟨⟨w_396, w_397, w_379, w_395⟩, rfl, by decide, by decide, by decide +kernel⟩
theorem w_398 : Cond.methodLink RX4 64 yX4_endSubtree ∈ lw_gd := gd (List.mem_of_getElem? (i := 715) (by decide +kernel)) rfl
theorem w_399 : Cond.code yX4_endSubtree cX4_endSubtree 2 none ∈ lw_gd := gd (List.mem_of_getElem? (i := 718) (by decide +kernel)) rfl
theorem w_400 : Cond.instanceMethod yX4_endSubtree ∈ lw_gd := gd (List.mem_of_getElem? (i := 717) (by decide +kernel)) rfl
theorem w_401 : Cond.selects RX4 yX4_endSubtree yX4_endSubtree ∈ lw_gd := gp (List.mem_of_getElem? (i := 21) (by decide +kernel)) rfl
theorem mvX4_endSubtree : MV yX4_endSubtree cX4_endSubtree 2 none RX4 0 := ⟨⟨w_400, w_401, w_379, w_399⟩, rfl, by decide, by decide, by decide +kernel⟩
theorem w_402 : Cond.fieldLink RX4 21 "LeaningTrees$Tape" "rightSizes" "[I" ∈ lw_gd := gd (List.mem_of_getElem? (i := 134) (by decide +kernel)) rfl
theorem w_403 : Cond.fieldLink RX4 31 "LeaningTrees$Tape" "opened" "I" ∈ lw_gd := gd (List.mem_of_getElem? (i := 136) (by decide +kernel)) rfl
theorem w_404 : Cond.methodLink RX4 51 yX4_opensNode ∈ lw_gd := gd (List.mem_of_getElem? (i := 703) (by decide +kernel)) rfl
theorem w_405 : Cond.code yX4_opensNode cX4_opensNode 2 (some .boolean) ∈ lw_gd := gd (List.mem_of_getElem? (i := 706) (by decide +kernel)) rfl
theorem w_406 : Cond.instanceMethod yX4_opensNode ∈ lw_gd := gd (List.mem_of_getElem? (i := 705) (by decide +kernel)) rfl
theorem w_407 : Cond.selects RX4 yX4_opensNode yX4_opensNode ∈ lw_gd := gp (List.mem_of_getElem? (i := 18) (by decide +kernel)) rfl
theorem mvX4_opensNode : MV yX4_opensNode cX4_opensNode 2 (some .boolean) RX4 0 := ⟨⟨w_406, w_407, w_379, w_405⟩, rfl, by decide, by decide, by decide +kernel⟩
theorem w_408 : Cond.methodLink RX4 57 yX4_closesNode ∈ lw_gd := gd (List.mem_of_getElem? (i := 719) (by decide +kernel)) rfl
theorem w_409 : Cond.code yX4_closesNode cX4_closesNode 2 (some .boolean) ∈ lw_gd := gd (List.mem_of_getElem? (i := 722) (by decide +kernel)) rfl
theorem w_410 : Cond.instanceMethod yX4_closesNode ∈ lw_gd := gd (List.mem_of_getElem? (i := 721) (by decide +kernel)) rfl
theorem w_411 : Cond.selects RX4 yX4_closesNode yX4_closesNode ∈ lw_gd := gp (List.mem_of_getElem? (i := 22) (by decide +kernel)) rfl
theorem mvX4_closesNode : MV yX4_closesNode cX4_closesNode 2 (some .boolean) RX4 0 := ⟨⟨w_410, w_411, w_379, w_409⟩, rfl, by decide, by decide, by decide +kernel⟩
theorem w_412 : Cond.methodLink RX4 54 yX4_staysNothing ∈ lw_gd := gd (List.mem_of_getElem? (i := 711) (by decide +kernel)) rfl
theorem w_413 : Cond.code yX4_staysNothing cX4_staysNothing 1 (some .boolean) ∈ lw_gd := gd (List.mem_of_getElem? (i := 714) (by decide +kernel)) rfl
theorem w_414 : Cond.instanceMethod yX4_staysNothing ∈ lw_gd := gd (List.mem_of_getElem? (i := 713) (by decide +kernel)) rfl
theorem w_415 : Cond.selects RX4 yX4_staysNothing yX4_staysNothing ∈ lw_gd := gp (List.mem_of_getElem? (i := 20) (by decide +kernel)) rfl
theorem mvX4_staysNothing : MV yX4_staysNothing cX4_staysNothing 1 (some .boolean) RX4 0 := ⟨⟨w_414, w_415, w_379, w_413⟩, rfl, by decide, by decide, by decide +kernel⟩
theorem w_416 : Cond.methodLink RX4 37 yX4_accepts ∈ lw_gd := gd (List.mem_of_getElem? (i := 699) (by decide +kernel)) rfl
theorem w_417 : Cond.code yX4_accepts cX4_accepts 2 (some .boolean) ∈ lw_gd := gd (List.mem_of_getElem? (i := 702) (by decide +kernel)) rfl
theorem w_418 : Cond.instanceMethod yX4_accepts ∈ lw_gd := gd (List.mem_of_getElem? (i := 701) (by decide +kernel)) rfl
theorem w_419 : Cond.selects RX4 yX4_accepts yX4_accepts ∈ lw_gd := gp (List.mem_of_getElem? (i := 17) (by decide +kernel)) rfl
theorem mvX4_accepts : MV yX4_accepts cX4_accepts 2 (some .boolean) RX4 1 := ⟨⟨w_418, w_419, w_379, w_417⟩, rfl, by decide, by decide, by decide +kernel⟩
theorem w_420 : Cond.methodLink RX4 41 yX4_isWhole ∈ lw_gd := gd (List.mem_of_getElem? (i := 723) (by decide +kernel)) rfl
theorem w_421 : Cond.code yX4_isWhole cX4_isWhole 1 (some .boolean) ∈ lw_gd := gd (List.mem_of_getElem? (i := 726) (by decide +kernel)) rfl
theorem w_422 : Cond.instanceMethod yX4_isWhole ∈ lw_gd := gd (List.mem_of_getElem? (i := 725) (by decide +kernel)) rfl
theorem w_423 : Cond.selects RX4 yX4_isWhole yX4_isWhole ∈ lw_gd := gp (List.mem_of_getElem? (i := 23) (by decide +kernel)) rfl
theorem mvX4_isWhole : MV yX4_isWhole cX4_isWhole 1 (some .boolean) RX4 0 := ⟨⟨w_422, w_423, w_379, w_421⟩, rfl, by decide, by decide, by decide +kernel⟩
theorem w_424 : Cond.methodLink RX4 45 yX0_digitAt ∈ lw_gd := gd (List.mem_of_getElem? (i := 735) (by decide +kernel)) rfl
theorem w_425 : Cond.methodLink RX6 263 yX4_parse ∈ lw_gd := gd (List.mem_of_getElem? (i := 695) (by decide +kernel)) rfl
theorem w_426 : Cond.code yX4_parse cX4_parse 2 (some .int) ∈ lw_gd := gd (List.mem_of_getElem? (i := 698) (by decide +kernel)) rfl
theorem w_427 : Cond.instanceMethod yX4_parse ∈ lw_gd := gd (List.mem_of_getElem? (i := 696) (by decide +kernel)) rfl
theorem w_428 : Cond.selects RX4 yX4_parse yX4_parse ∈ lw_gd := gd (List.mem_of_getElem? (i := 697) (by decide +kernel)) rfl
theorem mvX4_parse : MV yX4_parse cX4_parse 2 (some .int) RX4 0 := ⟨⟨w_427, w_428, w_379, w_426⟩, rfl, by decide, by decide, by decide +kernel⟩
theorem w_429 : Cond.methodLink RX6 266 yX4_parsedNodes ∈ lw_gd := gd (List.mem_of_getElem? (i := 727) (by decide +kernel)) rfl
theorem w_430 : Cond.code yX4_parsedNodes cX4_parsedNodes 1 (some .int) ∈ lw_gd := gd (List.mem_of_getElem? (i := 730) (by decide +kernel)) rfl
theorem w_431 : Cond.instanceMethod yX4_parsedNodes ∈ lw_gd := gd (List.mem_of_getElem? (i := 728) (by decide +kernel)) rfl
theorem w_432 : Cond.selects RX4 yX4_parsedNodes yX4_parsedNodes ∈ lw_gd := gd (List.mem_of_getElem? (i := 729) (by decide +kernel)) rfl
theorem mvX4_parsedNodes : MV yX4_parsedNodes cX4_parsedNodes 1 (some .int) RX4 0 := ⟨⟨w_431, w_432, w_379, w_430⟩, rfl, by decide, by decide, by decide +kernel⟩
theorem w_433 : Cond.methodLink RX6 269 yX4_parsedCode ∈ lw_gd := gd (List.mem_of_getElem? (i := 731) (by decide +kernel)) rfl
theorem w_434 : Cond.code yX4_parsedCode cX4_parsedCode 3 (some .int) ∈ lw_gd := gd (List.mem_of_getElem? (i := 734) (by decide +kernel)) rfl
theorem w_435 : Cond.instanceMethod yX4_parsedCode ∈ lw_gd := gd (List.mem_of_getElem? (i := 732) (by decide +kernel)) rfl
theorem w_436 : Cond.selects RX4 yX4_parsedCode yX4_parsedCode ∈ lw_gd := gd (List.mem_of_getElem? (i := 733) (by decide +kernel)) rfl
theorem mvX4_parsedCode : MV yX4_parsedCode cX4_parsedCode 3 (some .int) RX4 0 := ⟨⟨w_435, w_436, w_379, w_434⟩, rfl, by decide, by decide, by decide +kernel⟩
theorem w_437 : Cond.methodLink RX6 272 yX0_find ∈ lw_gd := gd (List.mem_of_getElem? (i := 736) (by decide +kernel)) rfl
theorem w_438 : Cond.methodLink RX0 79 yX0_opening ∈ lw_gd := gd (List.mem_of_getElem? (i := 749) (by decide +kernel)) rfl
theorem w_439 : Cond.code yX0_opening cX0_opening 5 (some .int) ∈ lw_gd := gd (List.mem_of_getElem? (i := 752) (by decide +kernel)) rfl
theorem w_440 : Cond.instanceMethod yX0_opening ∈ lw_gd := gd (List.mem_of_getElem? (i := 751) (by decide +kernel)) rfl
theorem w_441 : Cond.selects RX0 yX0_opening yX0_opening ∈ lw_gd := gp (List.mem_of_getElem? (i := 24) (by decide +kernel)) rfl
theorem mvX0_opening : MV yX0_opening cX0_opening 5 (some .int) RX0 2 := ⟨⟨w_440, w_441, w_3, w_439⟩, rfl, by decide, by decide, by decide +kernel⟩
theorem w_442 : Cond.methodLink RX0 82 yX0_closing ∈ lw_gd := gd (List.mem_of_getElem? (i := 753) (by decide +kernel)) rfl
theorem w_443 : Cond.code yX0_closing cX0_closing 5 (some .int) ∈ lw_gd := gd (List.mem_of_getElem? (i := 756) (by decide +kernel)) rfl
theorem w_444 : Cond.instanceMethod yX0_closing ∈ lw_gd := gd (List.mem_of_getElem? (i := 755) (by decide +kernel)) rfl
theorem w_445 : Cond.selects RX0 yX0_closing yX0_closing ∈ lw_gd := gp (List.mem_of_getElem? (i := 25) (by decide +kernel)) rfl
theorem mvX0_closing : MV yX0_closing cX0_closing 5 (some .int) RX0 2 := ⟨⟨w_444, w_445, w_3, w_443⟩, rfl, by decide, by decide, by decide +kernel⟩
theorem w_446 : Cond.methodLink RX6 278 yX0_textByte ∈ lw_gd := gd (List.mem_of_getElem? (i := 745) (by decide +kernel)) rfl
theorem w_447 : Cond.code yX0_textByte cX0_textByte 5 (some .int) ∈ lw_gd := gd (List.mem_of_getElem? (i := 748) (by decide +kernel)) rfl
theorem w_448 : Cond.instanceMethod yX0_textByte ∈ lw_gd := gd (List.mem_of_getElem? (i := 746) (by decide +kernel)) rfl
theorem w_449 : Cond.selects RX0 yX0_textByte yX0_textByte ∈ lw_gd := gd (List.mem_of_getElem? (i := 747) (by decide +kernel)) rfl
theorem mvX0_textByte : MV yX0_textByte cX0_textByte 5 (some .int) RX0 2 := ⟨⟨w_448, w_449, w_3, w_447⟩, rfl, by decide, by decide, by decide +kernel⟩
theorem w_450 : Cond.methodLink RX6 275 yX0_textLength ∈ lw_gd := gd (List.mem_of_getElem? (i := 741) (by decide +kernel)) rfl
theorem w_451 : Cond.code yX0_textLength cX0_textLength 2 (some .int) ∈ lw_gd := gd (List.mem_of_getElem? (i := 744) (by decide +kernel)) rfl
theorem w_452 : Cond.instanceMethod yX0_textLength ∈ lw_gd := gd (List.mem_of_getElem? (i := 742) (by decide +kernel)) rfl
theorem w_453 : Cond.selects RX0 yX0_textLength yX0_textLength ∈ lw_gd := gd (List.mem_of_getElem? (i := 743) (by decide +kernel)) rfl
theorem mvX0_textLength : MV yX0_textLength cX0_textLength 2 (some .int) RX0 1 := ⟨⟨w_452, w_453, w_3, w_451⟩, rfl, by decide, by decide, by decide +kernel⟩
theorem w_454 : Cond.fieldLink RX6 62 "LeaningTrees" "imageTree" "I" ∈ lw_gd := gd (List.mem_of_getElem? (i := 170) (by decide +kernel)) rfl
theorem w_455 : Cond.fieldLink RX6 59 "LeaningTrees" "imageShelves" "[I" ∈ lw_gd := gd (List.mem_of_getElem? (i := 169) (by decide +kernel)) rfl
theorem w_456 : Cond.methodLink RX6 281 arraycopyName ∈ lw_gd := gd (List.mem_of_getElem? (i := 761) (by decide +kernel)) rfl
theorem w_457 : Cond.methodLink RX6 287 yX6_shelvesInUse ∈ lw_gd := gd (List.mem_of_getElem? (i := 770) (by decide +kernel)) rfl
theorem w_458 : Cond.code yX6_shelvesInUse cX6_shelvesInUse 6 (some .int) ∈ lw_gd := gd (List.mem_of_getElem? (i := 773) (by decide +kernel)) rfl
theorem w_459 : Cond.instanceMethod yX6_shelvesInUse ∈ lw_gd := gd (List.mem_of_getElem? (i := 772) (by decide +kernel)) rfl
theorem w_460 : Cond.selects RX6 yX6_shelvesInUse yX6_shelvesInUse ∈ lw_gd := gp (List.mem_of_getElem? (i := 26) (by decide +kernel)) rfl
theorem mvX6_shelvesInUse : MV yX6_shelvesInUse cX6_shelvesInUse 6 (some .int) RX6 0 := ⟨⟨w_459, w_460, w_20, w_458⟩, rfl, by decide, by decide, by decide +kernel⟩
theorem w_461 : Cond.methodLink RX6 290 yX1_howManyThere ∈ lw_gd := gd (List.mem_of_getElem? (i := 774) (by decide +kernel)) rfl
theorem w_462 : Cond.code yX1_howManyThere cX1_howManyThere 6 (some .int) ∈ lw_gd := gd (List.mem_of_getElem? (i := 777) (by decide +kernel)) rfl
theorem w_463 : Cond.instanceMethod yX1_howManyThere ∈ lw_gd := gd (List.mem_of_getElem? (i := 775) (by decide +kernel)) rfl
theorem w_464 : Cond.selects RX1 yX1_howManyThere yX1_howManyThere ∈ lw_gd := gd (List.mem_of_getElem? (i := 776) (by decide +kernel)) rfl
theorem mvX1_howManyThere : MV yX1_howManyThere cX1_howManyThere 6 (some .int) RX1 0 := ⟨⟨w_463, w_464, w_332, w_462⟩, rfl, by decide, by decide, by decide +kernel⟩
theorem w_465 : Cond.methodLink RX7 77 yX7_ten ∈ lw_gd := gd (List.mem_of_getElem? (i := 905) (by decide +kernel)) rfl
theorem w_466 : Cond.code yX7_ten cX7_ten 3 (some .int) ∈ lw_gd := gd (List.mem_of_getElem? (i := 907) (by decide +kernel)) rfl
theorem w_467 : Cond.initialized RX7 ∈ lw_gd := gd (List.mem_of_getElem? (i := 9) (by decide +kernel)) rfl
theorem w_468 : Cond.static yX7_ten ∈ lw_gd := gd (List.mem_of_getElem? (i := 906) (by decide +kernel)) rfl
theorem msX7_ten : MS yX7_ten cX7_ten 3 (some .int) 1 := ⟨⟨w_468, w_467, w_466⟩, by decide, by decide, by decide +kernel⟩
theorem w_469 : Cond.methodLink RX7 81 yX7_at ∈ lw_gd := gd (List.mem_of_getElem? (i := 908) (by decide +kernel)) rfl
theorem w_470 : Cond.code yX7_at cX7_at 3 (some .int) ∈ lw_gd := gd (List.mem_of_getElem? (i := 910) (by decide +kernel)) rfl
theorem w_471 : Cond.static yX7_at ∈ lw_gd := gd (List.mem_of_getElem? (i := 909) (by decide +kernel)) rfl
theorem msX7_at : MS yX7_at cX7_at 3 (some .int) 3 := ⟨⟨w_471, w_467, w_470⟩, by decide, by decide, by decide +kernel⟩
theorem w_472 : Cond.methodLink RX7 85 yX7_in ∈ lw_gd := gd (List.mem_of_getElem? (i := 895) (by decide +kernel)) rfl
theorem w_473 : Cond.code yX7_in cX7_in 6 (some .boolean) ∈ lw_gd := gd (List.mem_of_getElem? (i := 897) (by decide +kernel)) rfl
theorem w_474 : Cond.static yX7_in ∈ lw_gd := gd (List.mem_of_getElem? (i := 896) (by decide +kernel)) rfl
theorem msX7_in : MS yX7_in cX7_in 6 (some .boolean) 3 := ⟨⟨w_474, w_467, w_473⟩, by decide, by decide, by decide +kernel⟩
theorem w_475 : Cond.fieldLink RX7 89 "LeaningTreesModel" "tableOf" "I" ∈ lw_gd := gd (List.mem_of_getElem? (i := 803) (by decide +kernel)) rfl
theorem w_476 : Cond.fieldLink RX7 92 "LeaningTreesModel" "many" "I" ∈ lw_gd := gd (List.mem_of_getElem? (i := 802) (by decide +kernel)) rfl
theorem w_477 : Cond.methodLink RX7 95 yX7_isTree ∈ lw_gd := gd (List.mem_of_getElem? (i := 902) (by decide +kernel)) rfl
theorem w_478 : Cond.code yX7_isTree cX7_isTree 5 (some .boolean) ∈ lw_gd := gd (List.mem_of_getElem? (i := 904) (by decide +kernel)) rfl
theorem w_479 : Cond.static yX7_isTree ∈ lw_gd := gd (List.mem_of_getElem? (i := 903) (by decide +kernel)) rfl
theorem msX7_isTree : MS yX7_isTree cX7_isTree 5 (some .boolean) 2 := ⟨⟨w_479, w_467, w_478⟩, by decide, by decide, by decide +kernel⟩
theorem w_480 : Cond.fieldLink RX7 44 "LeaningTreesModel" "all" "[I" ∈ lw_gd := gd (List.mem_of_getElem? (i := 801) (by decide +kernel)) rfl
theorem w_481 : Cond.methodLink RX7 99 yX7_table ∈ lw_gd := gd (List.mem_of_getElem? (i := 923) (by decide +kernel)) rfl
theorem w_482 : Cond.code yX7_table cX7_table 6 none ∈ lw_gd := gd (List.mem_of_getElem? (i := 926) (by decide +kernel)) rfl
theorem w_483 : Cond.instanceMethod yX7_table ∈ lw_gd := gd (List.mem_of_getElem? (i := 925) (by decide +kernel)) rfl
theorem w_484 : Cond.selects RX7 yX7_table yX7_table ∈ lw_gd := gp (List.mem_of_getElem? (i := 29) (by decide +kernel)) rfl
theorem mvX7_table : MV yX7_table cX7_table 6 none RX7 1 := ⟨⟨w_483, w_484, w_467, w_482⟩, rfl, by decide, by decide, by decide +kernel⟩
theorem w_485 : Cond.fieldLink RX7 47 "LeaningTreesModel" "parent" "[I" ∈ lw_gd := gd (List.mem_of_getElem? (i := 804) (by decide +kernel)) rfl
theorem w_486 : Cond.fieldLink RX7 59 "LeaningTreesModel" "above" "[I" ∈ lw_gd := gd (List.mem_of_getElem? (i := 808) (by decide +kernel)) rfl
theorem w_487 : Cond.fieldLink RX7 56 "LeaningTreesModel" "leftSize" "[I" ∈ lw_gd := gd (List.mem_of_getElem? (i := 807) (by decide +kernel)) rfl
theorem w_488 : Cond.fieldLink RX7 50 "LeaningTreesModel" "left" "[I" ∈ lw_gd := gd (List.mem_of_getElem? (i := 805) (by decide +kernel)) rfl
theorem w_489 : Cond.methodLink RX7 103 yX7_reads ∈ lw_gd := gd (List.mem_of_getElem? (i := 940) (by decide +kernel)) rfl
theorem w_490 : Cond.code yX7_reads cX7_reads 8 (some .int) ∈ lw_gd := gd (List.mem_of_getElem? (i := 943) (by decide +kernel)) rfl
theorem w_491 : Cond.instanceMethod yX7_reads ∈ lw_gd := gd (List.mem_of_getElem? (i := 942) (by decide +kernel)) rfl
theorem w_492 : Cond.selects RX7 yX7_reads yX7_reads ∈ lw_gd := gp (List.mem_of_getElem? (i := 32) (by decide +kernel)) rfl
theorem mvX7_reads : MV yX7_reads cX7_reads 8 (some .int) RX7 6 := ⟨⟨w_491, w_492, w_467, w_490⟩, rfl, by decide, by decide, by decide +kernel⟩
theorem w_493 : Cond.fieldLink RX7 53 "LeaningTreesModel" "right" "[I" ∈ lw_gd := gd (List.mem_of_getElem? (i := 806) (by decide +kernel)) rfl
theorem w_494 : Cond.fieldLink RX7 107 "LeaningTreesModel" "read" "I" ∈ lw_gd := gd (List.mem_of_getElem? (i := 809) (by decide +kernel)) rfl
theorem w_495 : Cond.methodLink RX7 110 yX7_looks ∈ lw_gd := gd (List.mem_of_getElem? (i := 936) (by decide +kernel)) rfl
theorem w_496 : Cond.code yX7_looks cX7_looks 3 none ∈ lw_gd := gd (List.mem_of_getElem? (i := 939) (by decide +kernel)) rfl
theorem w_497 : Cond.instanceMethod yX7_looks ∈ lw_gd := gd (List.mem_of_getElem? (i := 938) (by decide +kernel)) rfl
theorem w_498 : Cond.selects RX7 yX7_looks yX7_looks ∈ lw_gd := gp (List.mem_of_getElem? (i := 31) (by decide +kernel)) rfl
theorem mvX7_looks : MV yX7_looks cX7_looks 3 none RX7 2 := ⟨⟨w_497, w_498, w_467, w_496⟩, rfl, by decide, by decide, by decide +kernel⟩
theorem w_499 : Cond.methodLink RX7 114 yX7_with ∈ lw_gd := gd (List.mem_of_getElem? (i := 965) (by decide +kernel)) rfl
theorem w_500 : Cond.code yX7_with cX7_with 4 (some .int) ∈ lw_gd := gd (List.mem_of_getElem? (i := 967) (by decide +kernel)) rfl
theorem w_501 : Cond.static yX7_with ∈ lw_gd := gd (List.mem_of_getElem? (i := 966) (by decide +kernel)) rfl
theorem msX7_with : MS yX7_with cX7_with 4 (some .int) 4 := ⟨⟨w_501, w_467, w_500⟩, by decide, by decide, by decide +kernel⟩
theorem w_502 : Cond.fieldLink RX7 9 "LeaningTreesModel" "nodes" "I" ∈ lw_gd := gd (List.mem_of_getElem? (i := 784) (by decide +kernel)) rfl
theorem w_503 : Cond.fieldLink RX7 121 "LeaningTreesModel" "steps" "I" ∈ lw_gd := gd (List.mem_of_getElem? (i := 790) (by decide +kernel)) rfl
theorem w_504 : Cond.fieldLink RX7 22 "LeaningTreesModel" "stepNodes" "[I" ∈ lw_gd := gd (List.mem_of_getElem? (i := 788) (by decide +kernel)) rfl
theorem w_505 : Cond.fieldLink RX7 25 "LeaningTreesModel" "stepTree" "[I" ∈ lw_gd := gd (List.mem_of_getElem? (i := 789) (by decide +kernel)) rfl
theorem w_506 : Cond.fieldLink RX7 118 "LeaningTreesModel" "tree" "I" ∈ lw_gd := gd (List.mem_of_getElem? (i := 785) (by decide +kernel)) rfl
theorem w_507 : Cond.constantLong RX7 124 (7 : Int64) ∈ lw_gd := gd (List.mem_of_getElem? (i := 894) (by decide +kernel)) rfl
theorem w_508 : Cond.methodLink RX7 139 yX7_numberOf ∈ lw_gd := gd (List.mem_of_getElem? (i := 919) (by decide +kernel)) rfl
theorem w_509 : Cond.code yX7_numberOf cX7_numberOf 4 (some .int) ∈ lw_gd := gd (List.mem_of_getElem? (i := 922) (by decide +kernel)) rfl
theorem w_510 : Cond.instanceMethod yX7_numberOf ∈ lw_gd := gd (List.mem_of_getElem? (i := 921) (by decide +kernel)) rfl
theorem w_511 : Cond.selects RX7 yX7_numberOf yX7_numberOf ∈ lw_gd := gp (List.mem_of_getElem? (i := 28) (by decide +kernel)) rfl
theorem mvX7_numberOf : MV yX7_numberOf cX7_numberOf 4 (some .int) RX7 2 := ⟨⟨w_510, w_511, w_467, w_509⟩, rfl, by decide, by decide, by decide +kernel⟩
theorem w_512 : Cond.methodLink RX7 126 yX7_becomes ∈ lw_gd := gd (List.mem_of_getElem? (i := 911) (by decide +kernel)) rfl
theorem w_513 : Cond.code yX7_becomes cX7_becomes 4 none ∈ lw_gd := gd (List.mem_of_getElem? (i := 914) (by decide +kernel)) rfl
theorem w_514 : Cond.instanceMethod yX7_becomes ∈ lw_gd := gd (List.mem_of_getElem? (i := 913) (by decide +kernel)) rfl
theorem w_515 : Cond.selects RX7 yX7_becomes yX7_becomes ∈ lw_gd := gp (List.mem_of_getElem? (i := 27) (by decide +kernel)) rfl
theorem mvX7_becomes : MV yX7_becomes cX7_becomes 4 none RX7 2 := ⟨⟨w_514, w_515, w_467, w_513⟩, rfl, by decide, by decide, by decide +kernel⟩
theorem w_516 : Cond.methodLink RX7 129 yX7_which ∈ lw_gd := gd (List.mem_of_getElem? (i := 915) (by decide +kernel)) rfl
theorem w_517 : Cond.code yX7_which cX7_which 1 (some .int) ∈ lw_gd := gd (List.mem_of_getElem? (i := 918) (by decide +kernel)) rfl
theorem w_518 : Cond.instanceMethod yX7_which ∈ lw_gd := gd (List.mem_of_getElem? (i := 916) (by decide +kernel)) rfl
theorem w_519 : Cond.selects RX7 yX7_which yX7_which ∈ lw_gd := gd (List.mem_of_getElem? (i := 917) (by decide +kernel)) rfl
theorem mvX7_which : MV yX7_which cX7_which 1 (some .int) RX7 0 := ⟨⟨w_518, w_519, w_467, w_517⟩, rfl, by decide, by decide, by decide +kernel⟩
theorem w_520 : Cond.methodLink RX7 133 yX7_isNode ∈ lw_gd := gd (List.mem_of_getElem? (i := 931) (by decide +kernel)) rfl
theorem w_521 : Cond.code yX7_isNode cX7_isNode 2 (some .boolean) ∈ lw_gd := gd (List.mem_of_getElem? (i := 934) (by decide +kernel)) rfl
theorem w_522 : Cond.instanceMethod yX7_isNode ∈ lw_gd := gd (List.mem_of_getElem? (i := 933) (by decide +kernel)) rfl
theorem w_523 : Cond.selects RX7 yX7_isNode yX7_isNode ∈ lw_gd := gp (List.mem_of_getElem? (i := 30) (by decide +kernel)) rfl
theorem mvX7_isNode : MV yX7_isNode cX7_isNode 2 (some .boolean) RX7 1 := ⟨⟨w_522, w_523, w_467, w_521⟩, rfl, by decide, by decide, by decide +kernel⟩
theorem w_524 : Cond.constantLong RX7 137 (5 : Int64) ∈ lw_gd := gd (List.mem_of_getElem? (i := 935) (by decide +kernel)) rfl
theorem w_525 : Cond.methodLink RX7 143 yX7_up ∈ lw_gd := gd (List.mem_of_getElem? (i := 961) (by decide +kernel)) rfl
theorem w_526 : Cond.code yX7_up cX7_up 5 (some .int) ∈ lw_gd := gd (List.mem_of_getElem? (i := 964) (by decide +kernel)) rfl
theorem w_527 : Cond.instanceMethod yX7_up ∈ lw_gd := gd (List.mem_of_getElem? (i := 963) (by decide +kernel)) rfl
theorem w_528 : Cond.selects RX7 yX7_up yX7_up ∈ lw_gd := gp (List.mem_of_getElem? (i := 33) (by decide +kernel)) rfl
theorem mvX7_up : MV yX7_up cX7_up 5 (some .int) RX7 3 := ⟨⟨w_527, w_528, w_467, w_526⟩, rfl, by decide, by decide, by decide +kernel⟩
theorem w_529 : Cond.methodLink RX7 146 yX7_down ∈ lw_gd := gd (List.mem_of_getElem? (i := 972) (by decide +kernel)) rfl
theorem w_530 : Cond.code yX7_down cX7_down 4 (some .int) ∈ lw_gd := gd (List.mem_of_getElem? (i := 975) (by decide +kernel)) rfl
theorem w_531 : Cond.instanceMethod yX7_down ∈ lw_gd := gd (List.mem_of_getElem? (i := 974) (by decide +kernel)) rfl
theorem w_532 : Cond.selects RX7 yX7_down yX7_down ∈ lw_gd := gp (List.mem_of_getElem? (i := 34) (by decide +kernel)) rfl
theorem mvX7_down : MV yX7_down cX7_down 4 (some .int) RX7 3 := ⟨⟨w_531, w_532, w_467, w_530⟩, rfl, by decide, by decide, by decide +kernel⟩
theorem w_533 : Cond.constantLong RX7 149 (3 : Int64) ∈ lw_gd := gd (List.mem_of_getElem? (i := 980) (by decide +kernel)) rfl
theorem w_534 : Cond.methodLink RX7 151 yJ0_bitCount ∈ lw_gd := gd (List.mem_of_getElem? (i := 981) (by decide +kernel)) rfl
theorem w_535 : Cond.methodLink RX7 156 yX7_mirrored ∈ lw_gd := gd (List.mem_of_getElem? (i := 986) (by decide +kernel)) rfl
theorem w_536 : Cond.code yX7_mirrored cX7_mirrored 5 (some .int) ∈ lw_gd := gd (List.mem_of_getElem? (i := 989) (by decide +kernel)) rfl
theorem w_537 : Cond.instanceMethod yX7_mirrored ∈ lw_gd := gd (List.mem_of_getElem? (i := 988) (by decide +kernel)) rfl
theorem w_538 : Cond.selects RX7 yX7_mirrored yX7_mirrored ∈ lw_gd := gp (List.mem_of_getElem? (i := 35) (by decide +kernel)) rfl
theorem mvX7_mirrored : MV yX7_mirrored cX7_mirrored 5 (some .int) RX7 2 := ⟨⟨w_537, w_538, w_467, w_536⟩, rfl, by decide, by decide, by decide +kernel⟩
theorem w_539 : Cond.fieldLink RX7 15 "LeaningTreesModel" "shelfNodes" "[I" ∈ lw_gd := gd (List.mem_of_getElem? (i := 786) (by decide +kernel)) rfl
theorem w_540 : Cond.methodLink RX7 159 yX7_isShelf ∈ lw_gd := gd (List.mem_of_getElem? (i := 998) (by decide +kernel)) rfl
theorem w_541 : Cond.code yX7_isShelf cX7_isShelf 1 (some .boolean) ∈ lw_gd := gd (List.mem_of_getElem? (i := 1000) (by decide +kernel)) rfl
theorem w_542 : Cond.static yX7_isShelf ∈ lw_gd := gd (List.mem_of_getElem? (i := 999) (by decide +kernel)) rfl
theorem msX7_isShelf : MS yX7_isShelf cX7_isShelf 1 (some .boolean) 1 := ⟨⟨w_542, w_467, w_541⟩, by decide, by decide, by decide +kernel⟩
theorem w_543 : Cond.methodLink RX7 162 yX7_barOf ∈ lw_gd := gd (List.mem_of_getElem? (i := 1001) (by decide +kernel)) rfl
theorem w_544 : Cond.code yX7_barOf cX7_barOf 2 (some .int) ∈ lw_gd := gd (List.mem_of_getElem? (i := 1004) (by decide +kernel)) rfl
theorem w_545 : Cond.instanceMethod yX7_barOf ∈ lw_gd := gd (List.mem_of_getElem? (i := 1003) (by decide +kernel)) rfl
theorem w_546 : Cond.selects RX7 yX7_barOf yX7_barOf ∈ lw_gd := gp (List.mem_of_getElem? (i := 36) (by decide +kernel)) rfl
theorem mvX7_barOf : MV yX7_barOf cX7_barOf 2 (some .int) RX7 1 := ⟨⟨w_545, w_546, w_467, w_544⟩, rfl, by decide, by decide, by decide +kernel⟩
theorem w_547 : Cond.fieldLink RX7 19 "LeaningTreesModel" "shelfTree" "[I" ∈ lw_gd := gd (List.mem_of_getElem? (i := 787) (by decide +kernel)) rfl
theorem w_548 : Cond.methodLink RX7 165 yX7_isBelow ∈ lw_gd := gd (List.mem_of_getElem? (i := 1005) (by decide +kernel)) rfl
theorem w_549 : Cond.code yX7_isBelow cX7_isBelow 4 (some .boolean) ∈ lw_gd := gd (List.mem_of_getElem? (i := 1007) (by decide +kernel)) rfl
theorem w_550 : Cond.static yX7_isBelow ∈ lw_gd := gd (List.mem_of_getElem? (i := 1006) (by decide +kernel)) rfl
theorem msX7_isBelow : MS yX7_isBelow cX7_isBelow 4 (some .boolean) 3 := ⟨⟨w_550, w_467, w_549⟩, by decide, by decide, by decide +kernel⟩
theorem w_551 : Cond.methodLink RX7 169 yX7_bound ∈ lw_gd := gd (List.mem_of_getElem? (i := 1012) (by decide +kernel)) rfl
theorem w_552 : Cond.code yX7_bound cX7_bound 8 (some .int) ∈ lw_gd := gd (List.mem_of_getElem? (i := 1015) (by decide +kernel)) rfl
theorem w_553 : Cond.instanceMethod yX7_bound ∈ lw_gd := gd (List.mem_of_getElem? (i := 1014) (by decide +kernel)) rfl
theorem w_554 : Cond.selects RX7 yX7_bound yX7_bound ∈ lw_gd := gp (List.mem_of_getElem? (i := 37) (by decide +kernel)) rfl
theorem mvX7_bound : MV yX7_bound cX7_bound 8 (some .int) RX7 3 := ⟨⟨w_553, w_554, w_467, w_552⟩, rfl, by decide, by decide, by decide +kernel⟩
theorem w_555 : Cond.methodLink RX7 173 yX7_isBetween ∈ lw_gd := gd (List.mem_of_getElem? (i := 1024) (by decide +kernel)) rfl
theorem w_556 : Cond.code yX7_isBetween cX7_isBetween 4 (some .boolean) ∈ lw_gd := gd (List.mem_of_getElem? (i := 1027) (by decide +kernel)) rfl
theorem w_557 : Cond.instanceMethod yX7_isBetween ∈ lw_gd := gd (List.mem_of_getElem? (i := 1026) (by decide +kernel)) rfl
theorem w_558 : Cond.selects RX7 yX7_isBetween yX7_isBetween ∈ lw_gd := gp (List.mem_of_getElem? (i := 38) (by decide +kernel)) rfl
theorem mvX7_isBetween : MV yX7_isBetween cX7_isBetween 4 (some .boolean) RX7 3 := ⟨⟨w_557, w_558, w_467, w_556⟩, rfl, by decide, by decide, by decide +kernel⟩
theorem w_559 : Cond.fieldLink RX7 62 "LeaningTreesModel" "dist" "[I" ∈ lw_gd := gd (List.mem_of_getElem? (i := 810) (by decide +kernel)) rfl
theorem w_560 : Cond.fieldLink RX7 65 "LeaningTreesModel" "queue" "[I" ∈ lw_gd := gd (List.mem_of_getElem? (i := 811) (by decide +kernel)) rfl
theorem w_561 : Cond.methodLink RX7 176 yX7_measure ∈ lw_gd := gd (List.mem_of_getElem? (i := 1032) (by decide +kernel)) rfl
theorem w_562 : Cond.code yX7_measure cX7_measure 11 none ∈ lw_gd := gd (List.mem_of_getElem? (i := 1035) (by decide +kernel)) rfl
theorem w_563 : Cond.instanceMethod yX7_measure ∈ lw_gd := gd (List.mem_of_getElem? (i := 1034) (by decide +kernel)) rfl
theorem w_564 : Cond.selects RX7 yX7_measure yX7_measure ∈ lw_gd := gp (List.mem_of_getElem? (i := 39) (by decide +kernel)) rfl
theorem mvX7_measure : MV yX7_measure cX7_measure 11 none RX7 2 := ⟨⟨w_563, w_564, w_467, w_562⟩, rfl, by decide, by decide, by decide +kernel⟩
theorem w_565 : Cond.methodLink RX7 180 yX7_firstTurn ∈ lw_gd := gd (List.mem_of_getElem? (i := 1036) (by decide +kernel)) rfl
theorem w_566 : Cond.code yX7_firstTurn cX7_firstTurn 6 (some .int) ∈ lw_gd := gd (List.mem_of_getElem? (i := 1039) (by decide +kernel)) rfl
theorem w_567 : Cond.instanceMethod yX7_firstTurn ∈ lw_gd := gd (List.mem_of_getElem? (i := 1038) (by decide +kernel)) rfl
theorem w_568 : Cond.selects RX7 yX7_firstTurn yX7_firstTurn ∈ lw_gd := gp (List.mem_of_getElem? (i := 40) (by decide +kernel)) rfl
theorem mvX7_firstTurn : MV yX7_firstTurn cX7_firstTurn 6 (some .int) RX7 1 := ⟨⟨w_567, w_568, w_467, w_566⟩, rfl, by decide, by decide, by decide +kernel⟩
theorem w_569 : Cond.methodLink RX7 183 Lib.Math.max.name ∈ lw_gd := gd (List.mem_of_getElem? (i := 1048) (by decide +kernel)) rfl
theorem w_570 : Cond.methodLink RX7 188 yX7_longest ∈ lw_gd := gd (List.mem_of_getElem? (i := 1044) (by decide +kernel)) rfl
theorem w_571 : Cond.code yX7_longest cX7_longest 6 (some .int) ∈ lw_gd := gd (List.mem_of_getElem? (i := 1047) (by decide +kernel)) rfl
theorem w_572 : Cond.instanceMethod yX7_longest ∈ lw_gd := gd (List.mem_of_getElem? (i := 1046) (by decide +kernel)) rfl
theorem w_573 : Cond.selects RX7 yX7_longest yX7_longest ∈ lw_gd := gp (List.mem_of_getElem? (i := 41) (by decide +kernel)) rfl
theorem mvX7_longest : MV yX7_longest cX7_longest 6 (some .int) RX7 1 := ⟨⟨w_572, w_573, w_467, w_571⟩, rfl, by decide, by decide, by decide +kernel⟩
theorem w_574 : Cond.fieldLink RX7 68 "LeaningTreesModel" "marks" "[I" ∈ lw_gd := gd (List.mem_of_getElem? (i := 812) (by decide +kernel)) rfl
theorem w_575 : Cond.constantLong RX7 191 (6 : Int64) ∈ lw_gd := gd (List.mem_of_getElem? (i := 1057) (by decide +kernel)) rfl
theorem w_576 : Cond.constantLong RX7 193 (2 : Int64) ∈ lw_gd := gd (List.mem_of_getElem? (i := 1062) (by decide +kernel)) rfl
theorem w_577 : Cond.methodLink RX7 195 yX7_canopyOf ∈ lw_gd := gd (List.mem_of_getElem? (i := 1067) (by decide +kernel)) rfl
theorem w_578 : Cond.code yX7_canopyOf cX7_canopyOf 4 (some .int) ∈ lw_gd := gd (List.mem_of_getElem? (i := 1069) (by decide +kernel)) rfl
theorem w_579 : Cond.static yX7_canopyOf ∈ lw_gd := gd (List.mem_of_getElem? (i := 1068) (by decide +kernel)) rfl
theorem msX7_canopyOf : MS yX7_canopyOf cX7_canopyOf 4 (some .int) 2 := ⟨⟨w_579, w_467, w_578⟩, by decide, by decide, by decide +kernel⟩
theorem w_580 : Cond.methodLink RX7 198 yX7_canopy ∈ lw_gd := gd (List.mem_of_getElem? (i := 1078) (by decide +kernel)) rfl
theorem w_581 : Cond.code yX7_canopy cX7_canopy 1 (some .int) ∈ lw_gd := gd (List.mem_of_getElem? (i := 1066) (by decide +kernel)) rfl
theorem w_582 : Cond.instanceMethod yX7_canopy ∈ lw_gd := gd (List.mem_of_getElem? (i := 1064) (by decide +kernel)) rfl
theorem w_583 : Cond.selects RX7 yX7_canopy yX7_canopy ∈ lw_gd := gd (List.mem_of_getElem? (i := 1065) (by decide +kernel)) rfl
theorem mvX7_canopy : MV yX7_canopy cX7_canopy 1 (some .int) RX7 0 := ⟨⟨w_582, w_583, w_467, w_581⟩, rfl, by decide, by decide, by decide +kernel⟩
theorem w_584 : Cond.fieldLink RX7 32 "LeaningTreesModel" "listSize" "[I" ∈ lw_gd := gd (List.mem_of_getElem? (i := 792) (by decide +kernel)) rfl
theorem w_585 : Cond.fieldLink RX7 28 "LeaningTreesModel" "lists" "[J" ∈ lw_gd := gd (List.mem_of_getElem? (i := 791) (by decide +kernel)) rfl
theorem w_586 : Cond.methodLink RX7 201 yX7_isList ∈ lw_gd := gd (List.mem_of_getElem? (i := 1107) (by decide +kernel)) rfl
theorem w_587 : Cond.code yX7_isList cX7_isList 1 (some .boolean) ∈ lw_gd := gd (List.mem_of_getElem? (i := 1109) (by decide +kernel)) rfl
theorem w_588 : Cond.static yX7_isList ∈ lw_gd := gd (List.mem_of_getElem? (i := 1108) (by decide +kernel)) rfl
theorem msX7_isList : MS yX7_isList cX7_isList 1 (some .boolean) 1 := ⟨⟨w_588, w_467, w_587⟩, by decide, by decide, by decide +kernel⟩
theorem w_589 : Cond.methodLink RX7 204 yX7_makes ∈ lw_gd := gd (List.mem_of_getElem? (i := 1110) (by decide +kernel)) rfl
theorem w_590 : Cond.code yX7_makes cX7_makes 4 none ∈ lw_gd := gd (List.mem_of_getElem? (i := 1113) (by decide +kernel)) rfl
theorem w_591 : Cond.instanceMethod yX7_makes ∈ lw_gd := gd (List.mem_of_getElem? (i := 1112) (by decide +kernel)) rfl
theorem w_592 : Cond.selects RX7 yX7_makes yX7_makes ∈ lw_gd := gp (List.mem_of_getElem? (i := 42) (by decide +kernel)) rfl
theorem mvX7_makes : MV yX7_makes cX7_makes 4 none RX7 2 := ⟨⟨w_591, w_592, w_467, w_590⟩, rfl, by decide, by decide, by decide +kernel⟩
theorem w_593 : Cond.constantLong RX7 207 (-9223372036854775808 : Int64) ∈ lw_gd := gd (List.mem_of_getElem? (i := 1122) (by decide +kernel)) rfl
theorem w_594 : Cond.constantLong RX7 209 (-1 : Int64) ∈ lw_gd := gd (List.mem_of_getElem? (i := 1127) (by decide +kernel)) rfl
theorem w_595 : Cond.constantLong RX7 211 (32 : Int64) ∈ lw_gd := gd (List.mem_of_getElem? (i := 1136) (by decide +kernel)) rfl
theorem w_596 : Cond.constantLong RX7 213 (126 : Int64) ∈ lw_gd := gd (List.mem_of_getElem? (i := 1137) (by decide +kernel)) rfl
theorem w_597 : Cond.fieldLink RX7 215 "LeaningTreesModel" "taped" "I" ∈ lw_gd := gd (List.mem_of_getElem? (i := 794) (by decide +kernel)) rfl
theorem w_598 : Cond.fieldLink RX7 35 "LeaningTreesModel" "tape" "[I" ∈ lw_gd := gd (List.mem_of_getElem? (i := 793) (by decide +kernel)) rfl
theorem w_599 : Cond.fieldLink RX7 218 "LeaningTreesModel" "at" "I" ∈ lw_gd := gd (List.mem_of_getElem? (i := 795) (by decide +kernel)) rfl
theorem w_600 : Cond.methodLink RX7 220 yX7_sign ∈ lw_gd := gd (List.mem_of_getElem? (i := 1150) (by decide +kernel)) rfl
theorem w_601 : Cond.code yX7_sign cX7_sign 1 (some .int) ∈ lw_gd := gd (List.mem_of_getElem? (i := 1153) (by decide +kernel)) rfl
theorem w_602 : Cond.instanceMethod yX7_sign ∈ lw_gd := gd (List.mem_of_getElem? (i := 1152) (by decide +kernel)) rfl
theorem w_603 : Cond.selects RX7 yX7_sign yX7_sign ∈ lw_gd := gp (List.mem_of_getElem? (i := 44) (by decide +kernel)) rfl
theorem mvX7_sign : MV yX7_sign cX7_sign 1 (some .int) RX7 0 := ⟨⟨w_602, w_603, w_467, w_601⟩, rfl, by decide, by decide, by decide +kernel⟩
theorem w_604 : Cond.fieldLink RX7 226 "LeaningTreesModel" "open" "I" ∈ lw_gd := gd (List.mem_of_getElem? (i := 817) (by decide +kernel)) rfl
theorem w_605 : Cond.methodLink RX7 229 yX7_sees ∈ lw_gd := gd (List.mem_of_getElem? (i := 1146) (by decide +kernel)) rfl
theorem w_606 : Cond.code yX7_sees cX7_sees 4 (some .boolean) ∈ lw_gd := gd (List.mem_of_getElem? (i := 1149) (by decide +kernel)) rfl
theorem w_607 : Cond.instanceMethod yX7_sees ∈ lw_gd := gd (List.mem_of_getElem? (i := 1148) (by decide +kernel)) rfl
theorem w_608 : Cond.selects RX7 yX7_sees yX7_sees ∈ lw_gd := gp (List.mem_of_getElem? (i := 43) (by decide +kernel)) rfl
theorem mvX7_sees : MV yX7_sees cX7_sees 4 (some .boolean) RX7 1 := ⟨⟨w_607, w_608, w_467, w_606⟩, rfl, by decide, by decide, by decide +kernel⟩
theorem w_609 : Cond.fieldLink RX7 223 "LeaningTreesModel" "part" "I" ∈ lw_gd := gd (List.mem_of_getElem? (i := 818) (by decide +kernel)) rfl
theorem w_610 : Cond.fieldLink RX7 233 "LeaningTreesModel" "seen" "I" ∈ lw_gd := gd (List.mem_of_getElem? (i := 815) (by decide +kernel)) rfl
theorem w_611 : Cond.fieldLink RX7 74 "LeaningTreesModel" "seenRow" "[I" ∈ lw_gd := gd (List.mem_of_getElem? (i := 816) (by decide +kernel)) rfl
theorem w_612 : Cond.fieldLink RX7 71 "LeaningTreesModel" "text" "[I" ∈ lw_gd := gd (List.mem_of_getElem? (i := 813) (by decide +kernel)) rfl
theorem w_613 : Cond.fieldLink RX7 236 "LeaningTreesModel" "written" "I" ∈ lw_gd := gd (List.mem_of_getElem? (i := 814) (by decide +kernel)) rfl
theorem w_614 : Cond.methodLink RX7 239 yX7_write ∈ lw_gd := gd (List.mem_of_getElem? (i := 1158) (by decide +kernel)) rfl
theorem w_615 : Cond.code yX7_write cX7_write 2 none ∈ lw_gd := gd (List.mem_of_getElem? (i := 1161) (by decide +kernel)) rfl
theorem w_616 : Cond.instanceMethod yX7_write ∈ lw_gd := gd (List.mem_of_getElem? (i := 1160) (by decide +kernel)) rfl
theorem w_617 : Cond.selects RX7 yX7_write yX7_write ∈ lw_gd := gp (List.mem_of_getElem? (i := 45) (by decide +kernel)) rfl
theorem mvX7_write : MV yX7_write cX7_write 2 none RX7 1 := ⟨⟨w_616, w_617, w_467, w_615⟩, rfl, by decide, by decide, by decide +kernel⟩
theorem w_618 : Cond.fieldLink RX7 242 "LeaningTreesModel" "imaged" "Z" ∈ lw_gd := gd (List.mem_of_getElem? (i := 796) (by decide +kernel)) rfl
theorem w_619 : Cond.fieldLink RX7 246 "LeaningTreesModel" "imageNodes" "I" ∈ lw_gd := gd (List.mem_of_getElem? (i := 797) (by decide +kernel)) rfl
theorem w_620 : Cond.fieldLink RX7 249 "LeaningTreesModel" "imageTree" "I" ∈ lw_gd := gd (List.mem_of_getElem? (i := 798) (by decide +kernel)) rfl
theorem w_621 : Cond.fieldLink RX7 38 "LeaningTreesModel" "imageShelfNodes" "[I" ∈ lw_gd := gd (List.mem_of_getElem? (i := 799) (by decide +kernel)) rfl
theorem w_622 : Cond.fieldLink RX7 41 "LeaningTreesModel" "imageShelfTree" "[I" ∈ lw_gd := gd (List.mem_of_getElem? (i := 800) (by decide +kernel)) rfl
theorem w_max : Cond.static Lib.Math.max.name ∈ lw_gd ∧ Cond.initialized "java/lang/Math" ∈ lw_gd ∧ Cond.code Lib.Math.max.name Lib.Math.max.code 2 (some .int) ∈ lw_gd := ⟨gd (w := Cond.static Lib.Math.max.name) (List.mem_of_getElem? (i := 421) (by decide +kernel)) rfl, gd (w := Cond.initialized "java/lang/Math") (List.mem_of_getElem? (i := 12) (by decide +kernel)) rfl, gd (w := Cond.code Lib.Math.max.name Lib.Math.max.code 2 (some .int)) (List.mem_of_getElem? (i := 422) (by decide +kernel)) rfl⟩
theorem w_min : Cond.static Lib.Math.min.name ∈ lw_gd ∧ Cond.initialized "java/lang/Math" ∈ lw_gd ∧ Cond.code Lib.Math.min.name Lib.Math.min.code 2 (some .int) ∈ lw_gd := ⟨gd (w := Cond.static Lib.Math.min.name) (List.mem_of_getElem? (i := 434) (by decide +kernel)) rfl, gd (w := Cond.initialized "java/lang/Math") (List.mem_of_getElem? (i := 12) (by decide +kernel)) rfl, gd (w := Cond.code Lib.Math.min.name Lib.Math.min.code 2 (some .int)) (List.mem_of_getElem? (i := 435) (by decide +kernel)) rfl⟩
theorem w_copy : Cond.native arraycopyName ∈ lw_gd ∧ Cond.static arraycopyName ∈ lw_gd ∧ Cond.initialized "java/lang/System" ∈ lw_gd := ⟨gd (w := Cond.native arraycopyName) (List.mem_of_getElem? (i := 245) (by decide +kernel)) rfl, gd (w := Cond.static arraycopyName) (List.mem_of_getElem? (i := 244) (by decide +kernel)) rfl, gd (w := Cond.initialized "java/lang/System") (List.mem_of_getElem? (i := 10) (by decide +kernel)) rfl⟩
theorem msJ_fillI : MS yJ_fillI prog_13_method_103_code 4 none 2 := ⟨⟨gd (w := Cond.static yJ_fillI) (List.mem_of_getElem? (i := 114) (by decide +kernel)) rfl, gd (w := Cond.initialized "java/util/Arrays") (List.mem_of_getElem? (i := 7) (by decide +kernel)) rfl, gd (w := Cond.code yJ_fillI prog_13_method_103_code 4 none) (List.mem_of_getElem? (i := 115) (by decide +kernel)) rfl⟩, by decide, by decide, by decide +kernel⟩
theorem msJ_fillL : MS yJ_fillL prog_13_method_101_code 5 none 2 := ⟨⟨gd (w := Cond.static yJ_fillL) (List.mem_of_getElem? (i := 622) (by decide +kernel)) rfl, gd (w := Cond.initialized "java/util/Arrays") (List.mem_of_getElem? (i := 7) (by decide +kernel)) rfl, gd (w := Cond.code yJ_fillL prog_13_method_101_code 5 none) (List.mem_of_getElem? (i := 623) (by decide +kernel)) rfl⟩, by decide, by decide, by decide +kernel⟩
