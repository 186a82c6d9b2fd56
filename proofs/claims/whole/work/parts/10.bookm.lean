/-! ===== the m side: shapes, books of the methods, what the tables say ===== -/
def sh_m : List gx_Sh := [.inr (6, [none, none, none, none, none, some 1, some 2, some 3, some 4, some 5, some 6, some 7, some 8, some 9, none, none, none, none, some 10, none, some 11, some 12, none, none, some 13, none, none, none, none, some 14, some 15, some 16, some 17, some 18, some 19]), .inl 7, .inl 7, .inl 7, .inl 7, .inl 6, .inl 16, .inl 96, .inl 7, .inl 7, .inl 7, .inl 448, .inl 448, .inl 6, .inl 7, .inl 7, .inl 7, .inl 7, .inl 6, .inl 16]
theorem sh_m_0 : sh_m[0]? = some (.inr (6, [none, none, none, none, none, some 1, some 2, some 3, some 4, some 5, some 6, some 7, some 8, some 9, none, none, none, none, some 10, none, some 11, some 12, none, none, some 13, none, none, none, none, some 14, some 15, some 16, some 17, some 18, some 19])) := rfl
def mi_m_no : gx_Mi := (⟨"EachBearsPillarModel", "no", "(I)I"⟩, prog_8_method_4_code, 2, (some .int), { frames := 0, cells := 0, slots := 0, locals := 0 }, sh_m)
def mi_m_letter : gx_Mi := (⟨"EachBearsPillarModel", "letter", "(I)I"⟩, prog_8_method_6_code, 2, (some .int), { frames := 1, cells := 0, slots := 0, locals := 21 }, sh_m)
def mi_m_next : gx_Mi := (⟨"EachBearsPillarModel", "next", "()I"⟩, prog_8_method_7_code, 1, (some .int), { frames := 0, cells := 0, slots := 0, locals := 0 }, sh_m)
def mi_m_kindOf : gx_Mi := (⟨"EachBearsPillarModel", "kindOf", "(I)I"⟩, prog_8_method_11_code, 2, (some .int), { frames := 0, cells := 0, slots := 0, locals := 0 }, sh_m)
def mi_m_takesKind : gx_Mi := (⟨"EachBearsPillarModel", "takesKind", "()Z"⟩, prog_8_method_12_code, 1, (some .boolean), { frames := 1, cells := 0, slots := 0, locals := 21 }, sh_m)
def mi_m_in : gx_Mi := (⟨"EachBearsPillarModel", "in", "(III)Z"⟩, prog_8_method_2_code, 4, (some .boolean), { frames := 0, cells := 0, slots := 0, locals := 0 }, sh_m)
def mi_m_isDigit : gx_Mi := (⟨"EachBearsPillarModel", "isDigit", "()Z"⟩, prog_8_method_8_code, 1, (some .boolean), { frames := 1, cells := 0, slots := 0, locals := 23 }, sh_m)
def mi_m_number : gx_Mi := (⟨"EachBearsPillarModel", "number", "(I)I"⟩, prog_8_method_10_code, 4, (some .int), { frames := 2, cells := 0, slots := 0, locals := 43 }, sh_m)
def mi_m_takes : gx_Mi := (⟨"EachBearsPillarModel", "takes", "(I)Z"⟩, prog_8_method_9_code, 2, (some .boolean), { frames := 1, cells := 0, slots := 0, locals := 20 }, sh_m)
def mi_m_takesTwo : gx_Mi := (⟨"EachBearsPillarModel", "takesTwo", "(II)Z"⟩, prog_8_method_13_code, 3, (some .boolean), { frames := 3, cells := 0, slots := 0, locals := 66 }, sh_m)
def mi_m_takesRest : gx_Mi := (⟨"EachBearsPillarModel", "takesRest", "(I)Z"⟩, prog_8_method_14_code, 2, (some .boolean), { frames := 4, cells := 0, slots := 0, locals := 88 }, sh_m)
def mi_m_takesStatement : gx_Mi := (⟨"EachBearsPillarModel", "takesStatement", "()Z"⟩, prog_8_method_15_code, 2, (some .boolean), { frames := 5, cells := 0, slots := 0, locals := 109 }, sh_m)
def mi_m_isText : gx_Mi := (⟨"EachBearsPillarModel", "isText", "()Z"⟩, prog_8_method_16_code, 2, (some .boolean), { frames := 6, cells := 0, slots := 0, locals := 130 }, sh_m)
def mi_m_isGood : gx_Mi := (⟨"EachBearsPillarModel", "isGood", "(II)Z"⟩, prog_8_method_17_code, 3, (some .boolean), { frames := 0, cells := 0, slots := 0, locals := 0 }, sh_m)
def mi_m_wrongPlace : gx_Mi := (⟨"EachBearsPillarModel", "wrongPlace", "()I"⟩, prog_8_method_18_code, 4, (some .int), { frames := 6, cells := 0, slots := 0, locals := 130 }, sh_m)
def mi_m_comes : gx_Mi := (⟨"EachBearsPillarModel", "comes", "(I)V"⟩, prog_8_method_19_code, 2, none, { frames := 0, cells := 0, slots := 0, locals := 0 }, sh_m)
def mi_m_comesAll : gx_Mi := (⟨"EachBearsPillarModel", "comesAll", "()I"⟩, prog_8_method_20_code, 4, (some .int), { frames := 6, cells := 0, slots := 0, locals := 130 }, sh_m)
def mi_m_roof : gx_Mi := (⟨"EachBearsPillarModel", "roof", "()I"⟩, prog_8_method_21_code, 3, (some .int), { frames := 7, cells := 0, slots := 0, locals := 153 }, sh_m)
def mi_m_isBearer : gx_Mi := (⟨"EachBearsPillarModel", "isBearer", "(I)Z"⟩, prog_8_method_5_code, 2, (some .boolean), { frames := 1, cells := 0, slots := 0, locals := 23 }, sh_m)
def mi_m_topOf : gx_Mi := (⟨"EachBearsPillarModel", "topOf", "(I)I"⟩, prog_8_method_22_code, 2, (some .int), { frames := 0, cells := 0, slots := 0, locals := 0 }, sh_m)
def mi_m_bears : gx_Mi := (⟨"EachBearsPillarModel", "bears", "(I)Z"⟩, prog_8_method_23_code, 2, (some .boolean), { frames := 1, cells := 0, slots := 0, locals := 21 }, sh_m)
def mi_m_mightOf : gx_Mi := (⟨"EachBearsPillarModel", "mightOf", "(I)I"⟩, prog_8_method_24_code, 4, (some .int), { frames := 1, cells := 0, slots := 0, locals := 21 }, sh_m)
def mi_m_bearer : gx_Mi := (⟨"EachBearsPillarModel", "bearer", "(II)I"⟩, prog_8_method_31_code, 3, (some .int), { frames := 2, cells := 0, slots := 0, locals := 44 }, sh_m)
def mi_m_span : gx_Mi := (⟨"EachBearsPillarModel", "span", "(II)I"⟩, prog_8_method_32_code, 4, (some .int), { frames := 1, cells := 0, slots := 0, locals := 23 }, sh_m)
def mi_m_ground : gx_Mi := (⟨"EachBearsPillarModel", "ground", "(II)I"⟩, prog_8_method_33_code, 4, (some .int), { frames := 1, cells := 0, slots := 0, locals := 23 }, sh_m)
def mi_m_level : gx_Mi := (⟨"EachBearsPillarModel", "level", "(I)I"⟩, prog_8_method_34_code, 3, (some .int), { frames := 1, cells := 0, slots := 0, locals := 21 }, sh_m)
def mi_m_block : gx_Mi := (⟨"EachBearsPillarModel", "block", "(II)I"⟩, prog_8_method_35_code, 4, (some .int), { frames := 2, cells := 0, slots := 0, locals := 44 }, sh_m)
def mi_m_lastAt : gx_Mi := (⟨"EachBearsPillarModel", "lastAt", "()I"⟩, prog_8_method_36_code, 1, (some .int), { frames := 0, cells := 0, slots := 0, locals := 0 }, sh_m)
def mi_m_at : gx_Mi := (⟨"EachBearsPillarModel", "at", "(I)I"⟩, prog_8_method_37_code, 3, (some .int), { frames := 1, cells := 0, slots := 0, locals := 21 }, sh_m)
def mi_m_hasEnds : gx_Mi := (⟨"EachBearsPillarModel", "hasEnds", "(I)Z"⟩, prog_8_method_25_code, 2, (some .boolean), { frames := 0, cells := 0, slots := 0, locals := 0 }, sh_m)
def mi_m_loadBy : gx_Mi := (⟨"EachBearsPillarModel", "loadBy", "(III)I"⟩, prog_8_method_26_code, 4, (some .int), { frames := 2, cells := 0, slots := 0, locals := 42 }, sh_m)
def mi_m_loadOf : gx_Mi := (⟨"EachBearsPillarModel", "loadOf", "(I)I"⟩, prog_8_method_27_code, 2, (some .int), { frames := 3, cells := 0, slots := 0, locals := 65 }, sh_m)
def mi_m_load : gx_Mi := (⟨"EachBearsPillarModel", "load", "(I)I"⟩, prog_8_method_38_code, 2, (some .int), { frames := 4, cells := 0, slots := 0, locals := 86 }, sh_m)
def mi_m_falls : gx_Mi := (⟨"EachBearsPillarModel", "falls", "(I)Z"⟩, prog_8_method_28_code, 2, (some .boolean), { frames := 2, cells := 0, slots := 0, locals := 42 }, sh_m)
def mi_m_sagNow : gx_Mi := (⟨"EachBearsPillarModel", "sagNow", "()I"⟩, prog_8_method_29_code, 2, (some .int), { frames := 4, cells := 0, slots := 0, locals := 86 }, sh_m)
def mi_m_isHeld : gx_Mi := (⟨"EachBearsPillarModel", "isHeld", "()Z"⟩, prog_8_method_30_code, 1, (some .boolean), { frames := 5, cells := 0, slots := 0, locals := 107 }, sh_m)
def mi_m_holds : gx_Mi := (⟨"EachBearsPillarModel", "holds", "()I"⟩, prog_8_method_39_code, 1, (some .int), { frames := 6, cells := 0, slots := 0, locals := 127 }, sh_m)
def mi_m_sag : gx_Mi := (⟨"EachBearsPillarModel", "sag", "()I"⟩, prog_8_method_40_code, 1, (some .int), { frames := 5, cells := 0, slots := 0, locals := 107 }, sh_m)
def mi_m_levels : gx_Mi := (⟨"EachBearsPillarModel", "levels", "()I"⟩, prog_8_method_41_code, 4, (some .int), { frames := 6, cells := 0, slots := 0, locals := 127 }, sh_m)
def mi_m_blocksFor : gx_Mi := (⟨"EachBearsPillarModel", "blocksFor", "(III)I"⟩, prog_8_method_42_code, 9, (some .int), { frames := 6, cells := 0, slots := 0, locals := 127 }, sh_m)
def mi_m_blocks : gx_Mi := (⟨"EachBearsPillarModel", "blocks", "()I"⟩, prog_8_method_43_code, 4, (some .int), { frames := 7, cells := 0, slots := 0, locals := 155 }, sh_m)
def mi_m_changes : gx_Mi := (⟨"EachBearsPillarModel", "changes", "(II)V"⟩, prog_8_method_44_code, 4, none, { frames := 0, cells := 0, slots := 0, locals := 0 }, sh_m)
def mi_m_swap : gx_Mi := (⟨"EachBearsPillarModel", "swap", "()I"⟩, prog_8_method_45_code, 4, (some .int), { frames := 6, cells := 0, slots := 0, locals := 127 }, sh_m)
def mi_m_has : gx_Mi := (⟨"EachBearsPillarModel", "has", "(II)Z"⟩, prog_8_method_3_code, 3, (some .boolean), { frames := 0, cells := 0, slots := 0, locals := 0 }, sh_m)
def mi_m_layOrder : gx_Mi := (⟨"EachBearsPillarModel", "layOrder", "(I)Z"⟩, prog_8_method_46_code, 8, (some .boolean), { frames := 1, cells := 0, slots := 0, locals := 22 }, sh_m)
def mi_m_orders : gx_Mi := (⟨"EachBearsPillarModel", "orders", "(I)I"⟩, prog_8_method_47_code, 5, (some .int), { frames := 6, cells := 0, slots := 0, locals := 127 }, sh_m)
def mi_m_needed : gx_Mi := (⟨"EachBearsPillarModel", "needed", "()I"⟩, prog_8_method_48_code, 3, (some .int), { frames := 6, cells := 0, slots := 0, locals := 127 }, sh_m)
def mi_m_more : gx_Mi := (⟨"EachBearsPillarModel", "more", "(I)I"⟩, prog_8_method_49_code, 5, (some .int), { frames := 6, cells := 0, slots := 0, locals := 127 }, sh_m)
def mi_m_row : gx_Mi := (⟨"EachBearsPillarModel", "row", "(I)I"⟩, prog_8_method_50_code, 2, (some .int), { frames := 1, cells := 0, slots := 0, locals := 21 }, sh_m)
def mi_m_isRow : gx_Mi := (⟨"EachBearsPillarModel", "isRow", "()Z"⟩, prog_8_method_51_code, 2, (some .boolean), { frames := 4, cells := 0, slots := 0, locals := 86 }, sh_m)
def mi_m_slacked : gx_Mi := (⟨"EachBearsPillarModel", "slacked", "()I"⟩, prog_8_method_52_code, 3, (some .int), { frames := 5, cells := 0, slots := 0, locals := 107 }, sh_m)
def mi_m_judged : gx_Mi := (⟨"EachBearsPillarModel", "judged", "()I"⟩, prog_8_method_53_code, 2, (some .int), { frames := 4, cells := 0, slots := 0, locals := 86 }, sh_m)
def mi_m_judge : gx_Mi := (⟨"EachBearsPillarModel", "judge", "()I"⟩, prog_8_method_54_code, 2, (some .int), { frames := 5, cells := 0, slots := 0, locals := 107 }, sh_m)
def mi_m_isHeldAt : gx_Mi := (⟨"EachBearsPillarModel", "isHeldAt", "(II)Z"⟩, prog_8_method_55_code, 6, (some .boolean), { frames := 6, cells := 0, slots := 0, locals := 127 }, sh_m)
def mi_m_reaches : gx_Mi := (⟨"EachBearsPillarModel", "reaches", "(III)V"⟩, prog_8_method_56_code, 4, none, { frames := 7, cells := 0, slots := 0, locals := 152 }, sh_m)
def mi_m_layWays : gx_Mi := (⟨"EachBearsPillarModel", "layWays", "()V"⟩, prog_8_method_57_code, 5, none, { frames := 8, cells := 0, slots := 0, locals := 175 }, sh_m)
def mi_m_way : gx_Mi := (⟨"EachBearsPillarModel", "way", "(I)I"⟩, prog_8_method_58_code, 5, (some .int), { frames := 9, cells := 0, slots := 0, locals := 199 }, sh_m)
def mi_m_reach : gx_Mi := (⟨"EachBearsPillarModel", "reach", "(I)I"⟩, prog_8_method_59_code, 4, (some .int), { frames := 9, cells := 0, slots := 0, locals := 199 }, sh_m)
def mi_m_lowest : gx_Mi := (⟨"EachBearsPillarModel", "lowest", "(II)I"⟩, prog_8_method_60_code, 4, (some .int), { frames := 9, cells := 0, slots := 0, locals := 199 }, sh_m)
def mi_m_draw : gx_Mi := (⟨"EachBearsPillarModel", "draw", "(I)I"⟩, prog_8_method_61_code, 2, (some .int), { frames := 0, cells := 0, slots := 0, locals := 0 }, sh_m)
def mi_m_seeds : gx_Mi := (⟨"EachBearsPillarModel", "seeds", "(II)I"⟩, prog_8_method_62_code, 6, (some .int), { frames := 6, cells := 0, slots := 0, locals := 127 }, sh_m)
def mi_m_image : gx_Mi := (⟨"EachBearsPillarModel", "image", "()I"⟩, prog_8_method_63_code, 2, (some .int), { frames := 0, cells := 0, slots := 0, locals := 0 }, sh_m)
def mi_m_on : gx_Mi := (⟨"EachBearsPillarModel", "on", "()I"⟩, prog_8_method_64_code, 2, (some .int), { frames := 1, cells := 0, slots := 0, locals := 21 }, sh_m)
def mi_m_allWeight : gx_Mi := (⟨"EachBearsPillarModel", "allWeight", "()I"⟩, prog_8_method_65_code, 3, (some .int), { frames := 0, cells := 0, slots := 0, locals := 0 }, sh_m)
def mi_m_allLoads : gx_Mi := (⟨"EachBearsPillarModel", "allLoads", "()I"⟩, prog_8_method_66_code, 3, (some .int), { frames := 4, cells := 0, slots := 0, locals := 86 }, sh_m)
def mi_m_manyBear : gx_Mi := (⟨"EachBearsPillarModel", "manyBear", "()I"⟩, prog_8_method_67_code, 3, (some .int), { frames := 2, cells := 0, slots := 0, locals := 42 }, sh_m)
def mi_m_count : gx_Mi := (⟨"EachBearsPillarModel", "count", "(I)I"⟩, prog_8_method_68_code, 2, (some .int), { frames := 5, cells := 0, slots := 0, locals := 108 }, sh_m)
def gq_m_w1_0 : List (Nat × Cond) := [(7, Cond.initialized "EachBearsPillarModel")]
theorem gq_m_w1_0_ok : gx_wl1 gq_m_w1_0 = true := by decide +kernel
def gq_m_w3_0 : List (Nat × Cond) := [(196, Cond.fieldLink "EachBearsPillarModel" 102 "EachBearsPillarModel" "imageStrength" "[I"), (197, Cond.fieldLink "EachBearsPillarModel" 105 "EachBearsPillarModel" "imageTall" "[I"), (198, Cond.fieldLink "EachBearsPillarModel" 108 "EachBearsPillarModel" "imageBlock" "[I"), (199, Cond.fieldLink "EachBearsPillarModel" 111 "EachBearsPillarModel" "imageSpan" "[I"), (200, Cond.fieldLink "EachBearsPillarModel" 114 "EachBearsPillarModel" "imageGround" "[I"), (167, Cond.fieldLink "EachBearsPillarModel" 13 "EachBearsPillarModel" "at" "I"), (168, Cond.fieldLink "EachBearsPillarModel" 16 "EachBearsPillarModel" "level" "I"), (169, Cond.fieldLink "EachBearsPillarModel" 19 "EachBearsPillarModel" "fed" "I"), (170, Cond.fieldLink "EachBearsPillarModel" 22 "EachBearsPillarModel" "rows" "I"), (171, Cond.fieldLink "EachBearsPillarModel" 25 "EachBearsPillarModel" "kind" "[I"), (172, Cond.fieldLink "EachBearsPillarModel" 29 "EachBearsPillarModel" "strength" "[I"), (173, Cond.fieldLink "EachBearsPillarModel" 32 "EachBearsPillarModel" "tall" "[I"), (174, Cond.fieldLink "EachBearsPillarModel" 35 "EachBearsPillarModel" "block" "[I"), (175, Cond.fieldLink "EachBearsPillarModel" 38 "EachBearsPillarModel" "span" "[I"), (176, Cond.fieldLink "EachBearsPillarModel" 41 "EachBearsPillarModel" "ground" "[I"), (177, Cond.fieldLink "EachBearsPillarModel" 44 "EachBearsPillarModel" "text" "[I"), (178, Cond.fieldLink "EachBearsPillarModel" 47 "EachBearsPillarModel" "row" "[I"), (179, Cond.fieldLink "EachBearsPillarModel" 50 "EachBearsPillarModel" "refused" "[I"), (180, Cond.fieldLink "EachBearsPillarModel" 53 "EachBearsPillarModel" "place" "I"), (181, Cond.fieldLink "EachBearsPillarModel" 56 "EachBearsPillarModel" "one" "I"), (182, Cond.fieldLink "EachBearsPillarModel" 59 "EachBearsPillarModel" "two" "I"), (183, Cond.fieldLink "EachBearsPillarModel" 62 "EachBearsPillarModel" "sort" "I"), (184, Cond.fieldLink "EachBearsPillarModel" 65 "EachBearsPillarModel" "stands" "[I"), (185, Cond.fieldLink "EachBearsPillarModel" 68 "EachBearsPillarModel" "slack" "I"), (166, Cond.fieldLink "EachBearsPillarModel" 7 "EachBearsPillarModel" "bearers" "I"), (186, Cond.fieldLink "EachBearsPillarModel" 71 "EachBearsPillarModel" "minutes" "[I"), (187, Cond.fieldLink "EachBearsPillarModel" 74 "EachBearsPillarModel" "waits" "[I"), (188, Cond.fieldLink "EachBearsPillarModel" 77 "EachBearsPillarModel" "waiting" "I"), (189, Cond.fieldLink "EachBearsPillarModel" 80 "EachBearsPillarModel" "seed" "I"), (190, Cond.fieldLink "EachBearsPillarModel" 83 "EachBearsPillarModel" "keptSpan" "[I")]
theorem gq_m_w3_0_ok : gx_wl3 gq_m_w3_0 = true := by decide +kernel
def gq_m_w3_1 : List (Nat × Cond) := [(191, Cond.fieldLink "EachBearsPillarModel" 86 "EachBearsPillarModel" "hasImage" "Z"), (192, Cond.fieldLink "EachBearsPillarModel" 90 "EachBearsPillarModel" "imageBearers" "I"), (193, Cond.fieldLink "EachBearsPillarModel" 93 "EachBearsPillarModel" "imageAt" "I"), (194, Cond.fieldLink "EachBearsPillarModel" 96 "EachBearsPillarModel" "imageLevel" "I"), (195, Cond.fieldLink "EachBearsPillarModel" 99 "EachBearsPillarModel" "imageKind" "[I")]
theorem gq_m_w3_1_ok : gx_wl3 gq_m_w3_1 = true := by decide +kernel
def gq_m_w4_0 : List (Nat × Cond) := [(38, Cond.instanceMethod ⟨"EachBearsPillarModel", "no", "(I)I"⟩), (33, Cond.instanceMethod ⟨"EachBearsPillarModel", "letter", "(I)I"⟩), (34, Cond.selects "EachBearsPillarModel" ⟨"EachBearsPillarModel", "letter", "(I)I"⟩ ⟨"EachBearsPillarModel", "letter", "(I)I"⟩), (54, Cond.instanceMethod ⟨"EachBearsPillarModel", "next", "()I"⟩), (66, Cond.instanceMethod ⟨"EachBearsPillarModel", "kindOf", "(I)I"⟩), (62, Cond.instanceMethod ⟨"EachBearsPillarModel", "takesKind", "()Z"⟩), (82, Cond.instanceMethod ⟨"EachBearsPillarModel", "in", "(III)Z"⟩), (78, Cond.instanceMethod ⟨"EachBearsPillarModel", "isDigit", "()Z"⟩), (74, Cond.instanceMethod ⟨"EachBearsPillarModel", "number", "(I)I"⟩), (86, Cond.instanceMethod ⟨"EachBearsPillarModel", "takes", "(I)Z"⟩), (70, Cond.instanceMethod ⟨"EachBearsPillarModel", "takesTwo", "(II)Z"⟩), (58, Cond.instanceMethod ⟨"EachBearsPillarModel", "takesRest", "(I)Z"⟩), (50, Cond.instanceMethod ⟨"EachBearsPillarModel", "takesStatement", "()Z"⟩), (46, Cond.instanceMethod ⟨"EachBearsPillarModel", "isText", "()Z"⟩), (94, Cond.instanceMethod ⟨"EachBearsPillarModel", "isGood", "(II)Z"⟩), (90, Cond.instanceMethod ⟨"EachBearsPillarModel", "wrongPlace", "()I"⟩), (102, Cond.instanceMethod ⟨"EachBearsPillarModel", "comes", "(I)V"⟩), (98, Cond.instanceMethod ⟨"EachBearsPillarModel", "comesAll", "()I"⟩), (41, Cond.instanceMethod ⟨"EachBearsPillarModel", "roof", "()I"⟩), (42, Cond.selects "EachBearsPillarModel" ⟨"EachBearsPillarModel", "roof", "()I"⟩ ⟨"EachBearsPillarModel", "roof", "()I"⟩), (110, Cond.instanceMethod ⟨"EachBearsPillarModel", "isBearer", "(I)Z"⟩), (114, Cond.instanceMethod ⟨"EachBearsPillarModel", "topOf", "(I)I"⟩), (118, Cond.instanceMethod ⟨"EachBearsPillarModel", "bears", "(I)Z"⟩), (122, Cond.instanceMethod ⟨"EachBearsPillarModel", "mightOf", "(I)I"⟩), (105, Cond.instanceMethod ⟨"EachBearsPillarModel", "bearer", "(II)I"⟩), (106, Cond.selects "EachBearsPillarModel" ⟨"EachBearsPillarModel", "bearer", "(II)I"⟩ ⟨"EachBearsPillarModel", "bearer", "(II)I"⟩), (125, Cond.instanceMethod ⟨"EachBearsPillarModel", "span", "(II)I"⟩), (126, Cond.selects "EachBearsPillarModel" ⟨"EachBearsPillarModel", "span", "(II)I"⟩ ⟨"EachBearsPillarModel", "span", "(II)I"⟩), (129, Cond.instanceMethod ⟨"EachBearsPillarModel", "ground", "(II)I"⟩), (130, Cond.selects "EachBearsPillarModel" ⟨"EachBearsPillarModel", "ground", "(II)I"⟩ ⟨"EachBearsPillarModel", "ground", "(II)I"⟩)]
theorem gq_m_w4_0_ok : gx_wl4 gq_m_w4_0 = true := by decide +kernel
def gq_m_w4_1 : List (Nat × Cond) := [(133, Cond.instanceMethod ⟨"EachBearsPillarModel", "level", "(I)I"⟩), (134, Cond.selects "EachBearsPillarModel" ⟨"EachBearsPillarModel", "level", "(I)I"⟩ ⟨"EachBearsPillarModel", "level", "(I)I"⟩), (137, Cond.instanceMethod ⟨"EachBearsPillarModel", "block", "(II)I"⟩), (138, Cond.selects "EachBearsPillarModel" ⟨"EachBearsPillarModel", "block", "(II)I"⟩ ⟨"EachBearsPillarModel", "block", "(II)I"⟩), (146, Cond.instanceMethod ⟨"EachBearsPillarModel", "lastAt", "()I"⟩), (141, Cond.instanceMethod ⟨"EachBearsPillarModel", "at", "(I)I"⟩), (142, Cond.selects "EachBearsPillarModel" ⟨"EachBearsPillarModel", "at", "(I)I"⟩ ⟨"EachBearsPillarModel", "at", "(I)I"⟩), (162, Cond.instanceMethod ⟨"EachBearsPillarModel", "hasEnds", "(I)Z"⟩), (158, Cond.instanceMethod ⟨"EachBearsPillarModel", "loadBy", "(III)I"⟩), (154, Cond.instanceMethod ⟨"EachBearsPillarModel", "loadOf", "(I)I"⟩), (149, Cond.instanceMethod ⟨"EachBearsPillarModel", "load", "(I)I"⟩), (150, Cond.selects "EachBearsPillarModel" ⟨"EachBearsPillarModel", "load", "(I)I"⟩ ⟨"EachBearsPillarModel", "load", "(I)I"⟩), (178, Cond.instanceMethod ⟨"EachBearsPillarModel", "falls", "(I)Z"⟩), (174, Cond.instanceMethod ⟨"EachBearsPillarModel", "sagNow", "()I"⟩), (170, Cond.instanceMethod ⟨"EachBearsPillarModel", "isHeld", "()Z"⟩), (165, Cond.instanceMethod ⟨"EachBearsPillarModel", "holds", "()I"⟩), (166, Cond.selects "EachBearsPillarModel" ⟨"EachBearsPillarModel", "holds", "()I"⟩ ⟨"EachBearsPillarModel", "holds", "()I"⟩), (181, Cond.instanceMethod ⟨"EachBearsPillarModel", "sag", "()I"⟩), (182, Cond.selects "EachBearsPillarModel" ⟨"EachBearsPillarModel", "sag", "()I"⟩ ⟨"EachBearsPillarModel", "sag", "()I"⟩), (185, Cond.instanceMethod ⟨"EachBearsPillarModel", "levels", "()I"⟩), (186, Cond.selects "EachBearsPillarModel" ⟨"EachBearsPillarModel", "levels", "()I"⟩ ⟨"EachBearsPillarModel", "levels", "()I"⟩), (194, Cond.instanceMethod ⟨"EachBearsPillarModel", "blocksFor", "(III)I"⟩), (189, Cond.instanceMethod ⟨"EachBearsPillarModel", "blocks", "()I"⟩), (190, Cond.selects "EachBearsPillarModel" ⟨"EachBearsPillarModel", "blocks", "()I"⟩ ⟨"EachBearsPillarModel", "blocks", "()I"⟩), (202, Cond.instanceMethod ⟨"EachBearsPillarModel", "changes", "(II)V"⟩), (197, Cond.instanceMethod ⟨"EachBearsPillarModel", "swap", "()I"⟩), (198, Cond.selects "EachBearsPillarModel" ⟨"EachBearsPillarModel", "swap", "()I"⟩ ⟨"EachBearsPillarModel", "swap", "()I"⟩), (214, Cond.instanceMethod ⟨"EachBearsPillarModel", "has", "(II)Z"⟩), (210, Cond.instanceMethod ⟨"EachBearsPillarModel", "layOrder", "(I)Z"⟩), (205, Cond.instanceMethod ⟨"EachBearsPillarModel", "orders", "(I)I"⟩)]
theorem gq_m_w4_1_ok : gx_wl4 gq_m_w4_1 = true := by decide +kernel
def gq_m_w4_2 : List (Nat × Cond) := [(206, Cond.selects "EachBearsPillarModel" ⟨"EachBearsPillarModel", "orders", "(I)I"⟩ ⟨"EachBearsPillarModel", "orders", "(I)I"⟩), (217, Cond.instanceMethod ⟨"EachBearsPillarModel", "needed", "()I"⟩), (218, Cond.selects "EachBearsPillarModel" ⟨"EachBearsPillarModel", "needed", "()I"⟩ ⟨"EachBearsPillarModel", "needed", "()I"⟩), (221, Cond.instanceMethod ⟨"EachBearsPillarModel", "more", "(I)I"⟩), (222, Cond.selects "EachBearsPillarModel" ⟨"EachBearsPillarModel", "more", "(I)I"⟩ ⟨"EachBearsPillarModel", "more", "(I)I"⟩), (225, Cond.instanceMethod ⟨"EachBearsPillarModel", "row", "(I)I"⟩), (226, Cond.selects "EachBearsPillarModel" ⟨"EachBearsPillarModel", "row", "(I)I"⟩ ⟨"EachBearsPillarModel", "row", "(I)I"⟩), (234, Cond.instanceMethod ⟨"EachBearsPillarModel", "isRow", "()Z"⟩), (229, Cond.instanceMethod ⟨"EachBearsPillarModel", "slacked", "()I"⟩), (230, Cond.selects "EachBearsPillarModel" ⟨"EachBearsPillarModel", "slacked", "()I"⟩ ⟨"EachBearsPillarModel", "slacked", "()I"⟩), (237, Cond.instanceMethod ⟨"EachBearsPillarModel", "judge", "()I"⟩), (238, Cond.selects "EachBearsPillarModel" ⟨"EachBearsPillarModel", "judge", "()I"⟩ ⟨"EachBearsPillarModel", "judge", "()I"⟩), (80, Cond.methodLink "EachBearsPillarModel" 117 ⟨"EachBearsPillarModel", "in", "(III)Z"⟩), (36, Cond.methodLink "EachBearsPillarModel" 121 ⟨"EachBearsPillarModel", "no", "(I)I"⟩), (52, Cond.methodLink "EachBearsPillarModel" 125 ⟨"EachBearsPillarModel", "next", "()I"⟩), (76, Cond.methodLink "EachBearsPillarModel" 129 ⟨"EachBearsPillarModel", "isDigit", "()Z"⟩), (64, Cond.methodLink "EachBearsPillarModel" 133 ⟨"EachBearsPillarModel", "kindOf", "(I)I"⟩), (72, Cond.methodLink "EachBearsPillarModel" 136 ⟨"EachBearsPillarModel", "number", "(I)I"⟩), (84, Cond.methodLink "EachBearsPillarModel" 139 ⟨"EachBearsPillarModel", "takes", "(I)Z"⟩), (60, Cond.methodLink "EachBearsPillarModel" 143 ⟨"EachBearsPillarModel", "takesKind", "()Z"⟩), (68, Cond.methodLink "EachBearsPillarModel" 146 ⟨"EachBearsPillarModel", "takesTwo", "(II)Z"⟩), (56, Cond.methodLink "EachBearsPillarModel" 150 ⟨"EachBearsPillarModel", "takesRest", "(I)Z"⟩), (48, Cond.methodLink "EachBearsPillarModel" 153 ⟨"EachBearsPillarModel", "takesStatement", "()Z"⟩), (92, Cond.methodLink "EachBearsPillarModel" 156 ⟨"EachBearsPillarModel", "isGood", "(II)Z"⟩), (100, Cond.methodLink "EachBearsPillarModel" 159 ⟨"EachBearsPillarModel", "comes", "(I)V"⟩), (44, Cond.methodLink "EachBearsPillarModel" 163 ⟨"EachBearsPillarModel", "isText", "()Z"⟩), (88, Cond.methodLink "EachBearsPillarModel" 166 ⟨"EachBearsPillarModel", "wrongPlace", "()I"⟩), (96, Cond.methodLink "EachBearsPillarModel" 169 ⟨"EachBearsPillarModel", "comesAll", "()I"⟩), (112, Cond.methodLink "EachBearsPillarModel" 172 ⟨"EachBearsPillarModel", "topOf", "(I)I"⟩), (160, Cond.methodLink "EachBearsPillarModel" 175 ⟨"EachBearsPillarModel", "hasEnds", "(I)Z"⟩)]
theorem gq_m_w4_2_ok : gx_wl4 gq_m_w4_2 = true := by decide +kernel
def gq_m_w4_3 : List (Nat × Cond) := [(116, Cond.methodLink "EachBearsPillarModel" 178 ⟨"EachBearsPillarModel", "bears", "(I)Z"⟩), (156, Cond.methodLink "EachBearsPillarModel" 181 ⟨"EachBearsPillarModel", "loadBy", "(III)I"⟩), (152, Cond.methodLink "EachBearsPillarModel" 185 ⟨"EachBearsPillarModel", "loadOf", "(I)I"⟩), (120, Cond.methodLink "EachBearsPillarModel" 188 ⟨"EachBearsPillarModel", "mightOf", "(I)I"⟩), (176, Cond.methodLink "EachBearsPillarModel" 191 ⟨"EachBearsPillarModel", "falls", "(I)Z"⟩), (172, Cond.methodLink "EachBearsPillarModel" 194 ⟨"EachBearsPillarModel", "sagNow", "()I"⟩), (108, Cond.methodLink "EachBearsPillarModel" 197 ⟨"EachBearsPillarModel", "isBearer", "(I)Z"⟩), (144, Cond.methodLink "EachBearsPillarModel" 200 ⟨"EachBearsPillarModel", "lastAt", "()I"⟩), (168, Cond.methodLink "EachBearsPillarModel" 203 ⟨"EachBearsPillarModel", "isHeld", "()Z"⟩), (192, Cond.methodLink "EachBearsPillarModel" 206 ⟨"EachBearsPillarModel", "blocksFor", "(III)I"⟩), (200, Cond.methodLink "EachBearsPillarModel" 209 ⟨"EachBearsPillarModel", "changes", "(II)V"⟩), (212, Cond.methodLink "EachBearsPillarModel" 213 ⟨"EachBearsPillarModel", "has", "(II)Z"⟩), (208, Cond.methodLink "EachBearsPillarModel" 216 ⟨"EachBearsPillarModel", "layOrder", "(I)Z"⟩), (232, Cond.methodLink "EachBearsPillarModel" 219 ⟨"EachBearsPillarModel", "isRow", "()Z"⟩)]
theorem gq_m_w4_3_ok : gx_wl4 gq_m_w4_3 = true := by decide +kernel
def gq_m_w5_0 : List (Nat × Cond) := [(2, Cond.instanceMethod ⟨"EachBearsPillarModel", "judged", "()I"⟩), (18, Cond.instanceMethod ⟨"EachBearsPillarModel", "isHeldAt", "(II)Z"⟩), (14, Cond.instanceMethod ⟨"EachBearsPillarModel", "reaches", "(III)V"⟩), (10, Cond.instanceMethod ⟨"EachBearsPillarModel", "layWays", "()V"⟩), (5, Cond.instanceMethod ⟨"EachBearsPillarModel", "way", "(I)I"⟩), (6, Cond.selects "EachBearsPillarModel" ⟨"EachBearsPillarModel", "way", "(I)I"⟩ ⟨"EachBearsPillarModel", "way", "(I)I"⟩), (21, Cond.instanceMethod ⟨"EachBearsPillarModel", "reach", "(I)I"⟩), (22, Cond.selects "EachBearsPillarModel" ⟨"EachBearsPillarModel", "reach", "(I)I"⟩ ⟨"EachBearsPillarModel", "reach", "(I)I"⟩), (25, Cond.instanceMethod ⟨"EachBearsPillarModel", "lowest", "(II)I"⟩), (26, Cond.selects "EachBearsPillarModel" ⟨"EachBearsPillarModel", "lowest", "(II)I"⟩ ⟨"EachBearsPillarModel", "lowest", "(II)I"⟩), (34, Cond.instanceMethod ⟨"EachBearsPillarModel", "draw", "(I)I"⟩), (29, Cond.instanceMethod ⟨"EachBearsPillarModel", "seeds", "(II)I"⟩), (30, Cond.selects "EachBearsPillarModel" ⟨"EachBearsPillarModel", "seeds", "(II)I"⟩ ⟨"EachBearsPillarModel", "seeds", "(II)I"⟩), (40, Cond.instanceMethod ⟨"EachBearsPillarModel", "image", "()I"⟩), (41, Cond.selects "EachBearsPillarModel" ⟨"EachBearsPillarModel", "image", "()I"⟩ ⟨"EachBearsPillarModel", "image", "()I"⟩), (44, Cond.instanceMethod ⟨"EachBearsPillarModel", "on", "()I"⟩), (45, Cond.selects "EachBearsPillarModel" ⟨"EachBearsPillarModel", "on", "()I"⟩ ⟨"EachBearsPillarModel", "on", "()I"⟩), (53, Cond.instanceMethod ⟨"EachBearsPillarModel", "allWeight", "()I"⟩), (57, Cond.instanceMethod ⟨"EachBearsPillarModel", "allLoads", "()I"⟩), (61, Cond.instanceMethod ⟨"EachBearsPillarModel", "manyBear", "()I"⟩), (48, Cond.instanceMethod ⟨"EachBearsPillarModel", "count", "(I)I"⟩), (49, Cond.selects "EachBearsPillarModel" ⟨"EachBearsPillarModel", "count", "(I)I"⟩ ⟨"EachBearsPillarModel", "count", "(I)I"⟩), (0, Cond.methodLink "EachBearsPillarModel" 222 ⟨"EachBearsPillarModel", "judged", "()I"⟩), (16, Cond.methodLink "EachBearsPillarModel" 225 ⟨"EachBearsPillarModel", "isHeldAt", "(II)Z"⟩), (12, Cond.methodLink "EachBearsPillarModel" 228 ⟨"EachBearsPillarModel", "reaches", "(III)V"⟩), (8, Cond.methodLink "EachBearsPillarModel" 232 ⟨"EachBearsPillarModel", "layWays", "()V"⟩), (32, Cond.methodLink "EachBearsPillarModel" 238 ⟨"EachBearsPillarModel", "draw", "(I)I"⟩), (51, Cond.methodLink "EachBearsPillarModel" 241 ⟨"EachBearsPillarModel", "allWeight", "()I"⟩), (55, Cond.methodLink "EachBearsPillarModel" 244 ⟨"EachBearsPillarModel", "allLoads", "()I"⟩), (59, Cond.methodLink "EachBearsPillarModel" 247 ⟨"EachBearsPillarModel", "manyBear", "()I"⟩)]
theorem gq_m_w5_0_ok : gx_wl5 gq_m_w5_0 = true := by decide +kernel
def gq_m_w5_1 : List (Nat × Cond) := [(36, Cond.constant "EachBearsPillarModel" 235 1664525), (37, Cond.constant "EachBearsPillarModel" 236 1013904223), (38, Cond.constant "EachBearsPillarModel" 237 2147483647)]
theorem gq_m_w5_1_ok : gx_wl5 gq_m_w5_1 = true := by decide +kernel
theorem mo_m_no : gx_mo mi_m_no 1 := ⟨(gx_ic4 (i := 39) rfl rfl), (gx_wb1 gq_m_w1_0_ok 0 rfl), ⟨by decide, by decide⟩, by decide +kernel, rfl, rfl⟩
theorem mv_m_no : gx_mv mi_m_no := ⟨(gx_wb4 gq_m_w4_0_ok 0 rfl), (gx_sb (i := 45) (n := 35) rfl)⟩
theorem mo_m_letter : gx_mo mi_m_letter 1 := ⟨(gx_ic4 (i := 35) rfl rfl), (gx_wb1 gq_m_w1_0_ok 0 rfl), ⟨by decide, by decide⟩, by decide +kernel, rfl, rfl⟩
theorem mv_m_letter : gx_mv mi_m_letter := ⟨(gx_wb4 gq_m_w4_0_ok 1 rfl), (gx_wb4 gq_m_w4_0_ok 2 rfl)⟩
theorem mo_m_next : gx_mo mi_m_next 0 := ⟨(gx_ic4 (i := 55) rfl rfl), (gx_wb1 gq_m_w1_0_ok 0 rfl), ⟨by decide, by decide⟩, by decide +kernel, rfl, rfl⟩
theorem mv_m_next : gx_mv mi_m_next := ⟨(gx_wb4 gq_m_w4_0_ok 3 rfl), (gx_sb (i := 48) (n := 35) rfl)⟩
theorem mo_m_kindOf : gx_mo mi_m_kindOf 1 := ⟨(gx_ic4 (i := 67) rfl rfl), (gx_wb1 gq_m_w1_0_ok 0 rfl), ⟨by decide, by decide⟩, by decide +kernel, rfl, rfl⟩
theorem mv_m_kindOf : gx_mv mi_m_kindOf := ⟨(gx_wb4 gq_m_w4_0_ok 4 rfl), (gx_sb (i := 51) (n := 35) rfl)⟩
theorem mo_m_takesKind : gx_mo mi_m_takesKind 0 := ⟨(gx_ic4 (i := 63) rfl rfl), (gx_wb1 gq_m_w1_0_ok 0 rfl), ⟨by decide, by decide⟩, by decide +kernel, rfl, rfl⟩
theorem mv_m_takesKind : gx_mv mi_m_takesKind := ⟨(gx_wb4 gq_m_w4_0_ok 5 rfl), (gx_sb (i := 50) (n := 35) rfl)⟩
theorem mo_m_in : gx_mo mi_m_in 3 := ⟨(gx_ic4 (i := 83) rfl rfl), (gx_wb1 gq_m_w1_0_ok 0 rfl), ⟨by decide, by decide⟩, by decide +kernel, rfl, rfl⟩
theorem mv_m_in : gx_mv mi_m_in := ⟨(gx_wb4 gq_m_w4_0_ok 6 rfl), (gx_sb (i := 55) (n := 35) rfl)⟩
theorem mo_m_isDigit : gx_mo mi_m_isDigit 0 := ⟨(gx_ic4 (i := 79) rfl rfl), (gx_wb1 gq_m_w1_0_ok 0 rfl), ⟨by decide, by decide⟩, by decide +kernel, rfl, rfl⟩
theorem mv_m_isDigit : gx_mv mi_m_isDigit := ⟨(gx_wb4 gq_m_w4_0_ok 7 rfl), (gx_sb (i := 54) (n := 35) rfl)⟩
theorem mo_m_number : gx_mo mi_m_number 1 := ⟨(gx_ic4 (i := 75) rfl rfl), (gx_wb1 gq_m_w1_0_ok 0 rfl), ⟨by decide, by decide⟩, by decide +kernel, rfl, rfl⟩
theorem mv_m_number : gx_mv mi_m_number := ⟨(gx_wb4 gq_m_w4_0_ok 8 rfl), (gx_sb (i := 53) (n := 35) rfl)⟩
theorem mo_m_takes : gx_mo mi_m_takes 1 := ⟨(gx_ic4 (i := 87) rfl rfl), (gx_wb1 gq_m_w1_0_ok 0 rfl), ⟨by decide, by decide⟩, by decide +kernel, rfl, rfl⟩
theorem mv_m_takes : gx_mv mi_m_takes := ⟨(gx_wb4 gq_m_w4_0_ok 9 rfl), (gx_sb (i := 56) (n := 35) rfl)⟩
theorem mo_m_takesTwo : gx_mo mi_m_takesTwo 2 := ⟨(gx_ic4 (i := 71) rfl rfl), (gx_wb1 gq_m_w1_0_ok 0 rfl), ⟨by decide, by decide⟩, by decide +kernel, rfl, rfl⟩
theorem mv_m_takesTwo : gx_mv mi_m_takesTwo := ⟨(gx_wb4 gq_m_w4_0_ok 10 rfl), (gx_sb (i := 52) (n := 35) rfl)⟩
theorem mo_m_takesRest : gx_mo mi_m_takesRest 1 := ⟨(gx_ic4 (i := 59) rfl rfl), (gx_wb1 gq_m_w1_0_ok 0 rfl), ⟨by decide, by decide⟩, by decide +kernel, rfl, rfl⟩
theorem mv_m_takesRest : gx_mv mi_m_takesRest := ⟨(gx_wb4 gq_m_w4_0_ok 11 rfl), (gx_sb (i := 49) (n := 35) rfl)⟩
theorem mo_m_takesStatement : gx_mo mi_m_takesStatement 0 := ⟨(gx_ic4 (i := 51) rfl rfl), (gx_wb1 gq_m_w1_0_ok 0 rfl), ⟨by decide, by decide⟩, by decide +kernel, rfl, rfl⟩
theorem mv_m_takesStatement : gx_mv mi_m_takesStatement := ⟨(gx_wb4 gq_m_w4_0_ok 12 rfl), (gx_sb (i := 47) (n := 35) rfl)⟩
theorem mo_m_isText : gx_mo mi_m_isText 0 := ⟨(gx_ic4 (i := 47) rfl rfl), (gx_wb1 gq_m_w1_0_ok 0 rfl), ⟨by decide, by decide⟩, by decide +kernel, rfl, rfl⟩
theorem mv_m_isText : gx_mv mi_m_isText := ⟨(gx_wb4 gq_m_w4_0_ok 13 rfl), (gx_sb (i := 46) (n := 35) rfl)⟩
theorem mo_m_isGood : gx_mo mi_m_isGood 2 := ⟨(gx_ic4 (i := 95) rfl rfl), (gx_wb1 gq_m_w1_0_ok 0 rfl), ⟨by decide, by decide⟩, by decide +kernel, rfl, rfl⟩
theorem mv_m_isGood : gx_mv mi_m_isGood := ⟨(gx_wb4 gq_m_w4_0_ok 14 rfl), (gx_sb (i := 58) (n := 35) rfl)⟩
theorem mo_m_wrongPlace : gx_mo mi_m_wrongPlace 0 := ⟨(gx_ic4 (i := 91) rfl rfl), (gx_wb1 gq_m_w1_0_ok 0 rfl), ⟨by decide, by decide⟩, by decide +kernel, rfl, rfl⟩
theorem mv_m_wrongPlace : gx_mv mi_m_wrongPlace := ⟨(gx_wb4 gq_m_w4_0_ok 15 rfl), (gx_sb (i := 57) (n := 35) rfl)⟩
theorem mo_m_comes : gx_mo mi_m_comes 1 := ⟨(gx_ic4 (i := 103) rfl rfl), (gx_wb1 gq_m_w1_0_ok 0 rfl), ⟨by decide, by decide⟩, by decide +kernel, rfl, rfl⟩
theorem mv_m_comes : gx_mv mi_m_comes := ⟨(gx_wb4 gq_m_w4_0_ok 16 rfl), (gx_sb (i := 60) (n := 35) rfl)⟩
theorem mo_m_comesAll : gx_mo mi_m_comesAll 0 := ⟨(gx_ic4 (i := 99) rfl rfl), (gx_wb1 gq_m_w1_0_ok 0 rfl), ⟨by decide, by decide⟩, by decide +kernel, rfl, rfl⟩
theorem mv_m_comesAll : gx_mv mi_m_comesAll := ⟨(gx_wb4 gq_m_w4_0_ok 17 rfl), (gx_sb (i := 59) (n := 35) rfl)⟩
theorem mo_m_roof : gx_mo mi_m_roof 0 := ⟨(gx_ic4 (i := 43) rfl rfl), (gx_wb1 gq_m_w1_0_ok 0 rfl), ⟨by decide, by decide⟩, by decide +kernel, rfl, rfl⟩
theorem mv_m_roof : gx_mv mi_m_roof := ⟨(gx_wb4 gq_m_w4_0_ok 18 rfl), (gx_wb4 gq_m_w4_0_ok 19 rfl)⟩
theorem mo_m_isBearer : gx_mo mi_m_isBearer 1 := ⟨(gx_ic4 (i := 111) rfl rfl), (gx_wb1 gq_m_w1_0_ok 0 rfl), ⟨by decide, by decide⟩, by decide +kernel, rfl, rfl⟩
theorem mv_m_isBearer : gx_mv mi_m_isBearer := ⟨(gx_wb4 gq_m_w4_0_ok 20 rfl), (gx_sb (i := 61) (n := 35) rfl)⟩
theorem mo_m_topOf : gx_mo mi_m_topOf 1 := ⟨(gx_ic4 (i := 115) rfl rfl), (gx_wb1 gq_m_w1_0_ok 0 rfl), ⟨by decide, by decide⟩, by decide +kernel, rfl, rfl⟩
theorem mv_m_topOf : gx_mv mi_m_topOf := ⟨(gx_wb4 gq_m_w4_0_ok 21 rfl), (gx_sb (i := 62) (n := 35) rfl)⟩
theorem mo_m_bears : gx_mo mi_m_bears 1 := ⟨(gx_ic4 (i := 119) rfl rfl), (gx_wb1 gq_m_w1_0_ok 0 rfl), ⟨by decide, by decide⟩, by decide +kernel, rfl, rfl⟩
theorem mv_m_bears : gx_mv mi_m_bears := ⟨(gx_wb4 gq_m_w4_0_ok 22 rfl), (gx_sb (i := 63) (n := 35) rfl)⟩
theorem mo_m_mightOf : gx_mo mi_m_mightOf 1 := ⟨(gx_ic4 (i := 123) rfl rfl), (gx_wb1 gq_m_w1_0_ok 0 rfl), ⟨by decide, by decide⟩, by decide +kernel, rfl, rfl⟩
theorem mv_m_mightOf : gx_mv mi_m_mightOf := ⟨(gx_wb4 gq_m_w4_0_ok 23 rfl), (gx_sb (i := 64) (n := 35) rfl)⟩
theorem mo_m_bearer : gx_mo mi_m_bearer 2 := ⟨(gx_ic4 (i := 107) rfl rfl), (gx_wb1 gq_m_w1_0_ok 0 rfl), ⟨by decide, by decide⟩, by decide +kernel, rfl, rfl⟩
theorem mv_m_bearer : gx_mv mi_m_bearer := ⟨(gx_wb4 gq_m_w4_0_ok 24 rfl), (gx_wb4 gq_m_w4_0_ok 25 rfl)⟩
theorem mo_m_span : gx_mo mi_m_span 2 := ⟨(gx_ic4 (i := 127) rfl rfl), (gx_wb1 gq_m_w1_0_ok 0 rfl), ⟨by decide, by decide⟩, by decide +kernel, rfl, rfl⟩
theorem mv_m_span : gx_mv mi_m_span := ⟨(gx_wb4 gq_m_w4_0_ok 26 rfl), (gx_wb4 gq_m_w4_0_ok 27 rfl)⟩
theorem mo_m_ground : gx_mo mi_m_ground 2 := ⟨(gx_ic4 (i := 131) rfl rfl), (gx_wb1 gq_m_w1_0_ok 0 rfl), ⟨by decide, by decide⟩, by decide +kernel, rfl, rfl⟩
theorem mv_m_ground : gx_mv mi_m_ground := ⟨(gx_wb4 gq_m_w4_0_ok 28 rfl), (gx_wb4 gq_m_w4_0_ok 29 rfl)⟩
theorem mo_m_level : gx_mo mi_m_level 1 := ⟨(gx_ic4 (i := 135) rfl rfl), (gx_wb1 gq_m_w1_0_ok 0 rfl), ⟨by decide, by decide⟩, by decide +kernel, rfl, rfl⟩
theorem mv_m_level : gx_mv mi_m_level := ⟨(gx_wb4 gq_m_w4_1_ok 0 rfl), (gx_wb4 gq_m_w4_1_ok 1 rfl)⟩
theorem mo_m_block : gx_mo mi_m_block 2 := ⟨(gx_ic4 (i := 139) rfl rfl), (gx_wb1 gq_m_w1_0_ok 0 rfl), ⟨by decide, by decide⟩, by decide +kernel, rfl, rfl⟩
theorem mv_m_block : gx_mv mi_m_block := ⟨(gx_wb4 gq_m_w4_1_ok 2 rfl), (gx_wb4 gq_m_w4_1_ok 3 rfl)⟩
theorem mo_m_lastAt : gx_mo mi_m_lastAt 0 := ⟨(gx_ic4 (i := 147) rfl rfl), (gx_wb1 gq_m_w1_0_ok 0 rfl), ⟨by decide, by decide⟩, by decide +kernel, rfl, rfl⟩
theorem mv_m_lastAt : gx_mv mi_m_lastAt := ⟨(gx_wb4 gq_m_w4_1_ok 4 rfl), (gx_sb (i := 65) (n := 35) rfl)⟩
theorem mo_m_at : gx_mo mi_m_at 1 := ⟨(gx_ic4 (i := 143) rfl rfl), (gx_wb1 gq_m_w1_0_ok 0 rfl), ⟨by decide, by decide⟩, by decide +kernel, rfl, rfl⟩
theorem mv_m_at : gx_mv mi_m_at := ⟨(gx_wb4 gq_m_w4_1_ok 5 rfl), (gx_wb4 gq_m_w4_1_ok 6 rfl)⟩
theorem mo_m_hasEnds : gx_mo mi_m_hasEnds 1 := ⟨(gx_ic4 (i := 163) rfl rfl), (gx_wb1 gq_m_w1_0_ok 0 rfl), ⟨by decide, by decide⟩, by decide +kernel, rfl, rfl⟩
theorem mv_m_hasEnds : gx_mv mi_m_hasEnds := ⟨(gx_wb4 gq_m_w4_1_ok 7 rfl), (gx_sb (i := 68) (n := 35) rfl)⟩
theorem mo_m_loadBy : gx_mo mi_m_loadBy 3 := ⟨(gx_ic4 (i := 159) rfl rfl), (gx_wb1 gq_m_w1_0_ok 0 rfl), ⟨by decide, by decide⟩, by decide +kernel, rfl, rfl⟩
theorem mv_m_loadBy : gx_mv mi_m_loadBy := ⟨(gx_wb4 gq_m_w4_1_ok 8 rfl), (gx_sb (i := 67) (n := 35) rfl)⟩
theorem mo_m_loadOf : gx_mo mi_m_loadOf 1 := ⟨(gx_ic4 (i := 155) rfl rfl), (gx_wb1 gq_m_w1_0_ok 0 rfl), ⟨by decide, by decide⟩, by decide +kernel, rfl, rfl⟩
theorem mv_m_loadOf : gx_mv mi_m_loadOf := ⟨(gx_wb4 gq_m_w4_1_ok 9 rfl), (gx_sb (i := 66) (n := 35) rfl)⟩
theorem mo_m_load : gx_mo mi_m_load 1 := ⟨(gx_ic4 (i := 151) rfl rfl), (gx_wb1 gq_m_w1_0_ok 0 rfl), ⟨by decide, by decide⟩, by decide +kernel, rfl, rfl⟩
theorem mv_m_load : gx_mv mi_m_load := ⟨(gx_wb4 gq_m_w4_1_ok 10 rfl), (gx_wb4 gq_m_w4_1_ok 11 rfl)⟩
theorem mo_m_falls : gx_mo mi_m_falls 1 := ⟨(gx_ic4 (i := 179) rfl rfl), (gx_wb1 gq_m_w1_0_ok 0 rfl), ⟨by decide, by decide⟩, by decide +kernel, rfl, rfl⟩
theorem mv_m_falls : gx_mv mi_m_falls := ⟨(gx_wb4 gq_m_w4_1_ok 12 rfl), (gx_sb (i := 71) (n := 35) rfl)⟩
theorem mo_m_sagNow : gx_mo mi_m_sagNow 0 := ⟨(gx_ic4 (i := 175) rfl rfl), (gx_wb1 gq_m_w1_0_ok 0 rfl), ⟨by decide, by decide⟩, by decide +kernel, rfl, rfl⟩
theorem mv_m_sagNow : gx_mv mi_m_sagNow := ⟨(gx_wb4 gq_m_w4_1_ok 13 rfl), (gx_sb (i := 70) (n := 35) rfl)⟩
theorem mo_m_isHeld : gx_mo mi_m_isHeld 0 := ⟨(gx_ic4 (i := 171) rfl rfl), (gx_wb1 gq_m_w1_0_ok 0 rfl), ⟨by decide, by decide⟩, by decide +kernel, rfl, rfl⟩
theorem mv_m_isHeld : gx_mv mi_m_isHeld := ⟨(gx_wb4 gq_m_w4_1_ok 14 rfl), (gx_sb (i := 69) (n := 35) rfl)⟩
theorem mo_m_holds : gx_mo mi_m_holds 0 := ⟨(gx_ic4 (i := 167) rfl rfl), (gx_wb1 gq_m_w1_0_ok 0 rfl), ⟨by decide, by decide⟩, by decide +kernel, rfl, rfl⟩
theorem mv_m_holds : gx_mv mi_m_holds := ⟨(gx_wb4 gq_m_w4_1_ok 15 rfl), (gx_wb4 gq_m_w4_1_ok 16 rfl)⟩
theorem mo_m_sag : gx_mo mi_m_sag 0 := ⟨(gx_ic4 (i := 183) rfl rfl), (gx_wb1 gq_m_w1_0_ok 0 rfl), ⟨by decide, by decide⟩, by decide +kernel, rfl, rfl⟩
theorem mv_m_sag : gx_mv mi_m_sag := ⟨(gx_wb4 gq_m_w4_1_ok 17 rfl), (gx_wb4 gq_m_w4_1_ok 18 rfl)⟩
theorem mo_m_levels : gx_mo mi_m_levels 0 := ⟨(gx_ic4 (i := 187) rfl rfl), (gx_wb1 gq_m_w1_0_ok 0 rfl), ⟨by decide, by decide⟩, by decide +kernel, rfl, rfl⟩
theorem mv_m_levels : gx_mv mi_m_levels := ⟨(gx_wb4 gq_m_w4_1_ok 19 rfl), (gx_wb4 gq_m_w4_1_ok 20 rfl)⟩
theorem mo_m_blocksFor : gx_mo mi_m_blocksFor 3 := ⟨(gx_ic4 (i := 195) rfl rfl), (gx_wb1 gq_m_w1_0_ok 0 rfl), ⟨by decide, by decide⟩, by decide +kernel, rfl, rfl⟩
theorem mv_m_blocksFor : gx_mv mi_m_blocksFor := ⟨(gx_wb4 gq_m_w4_1_ok 21 rfl), (gx_sb (i := 72) (n := 35) rfl)⟩
theorem mo_m_blocks : gx_mo mi_m_blocks 0 := ⟨(gx_ic4 (i := 191) rfl rfl), (gx_wb1 gq_m_w1_0_ok 0 rfl), ⟨by decide, by decide⟩, by decide +kernel, rfl, rfl⟩
theorem mv_m_blocks : gx_mv mi_m_blocks := ⟨(gx_wb4 gq_m_w4_1_ok 22 rfl), (gx_wb4 gq_m_w4_1_ok 23 rfl)⟩
theorem mo_m_changes : gx_mo mi_m_changes 2 := ⟨(gx_ic4 (i := 203) rfl rfl), (gx_wb1 gq_m_w1_0_ok 0 rfl), ⟨by decide, by decide⟩, by decide +kernel, rfl, rfl⟩
theorem mv_m_changes : gx_mv mi_m_changes := ⟨(gx_wb4 gq_m_w4_1_ok 24 rfl), (gx_sb (i := 73) (n := 35) rfl)⟩
theorem mo_m_swap : gx_mo mi_m_swap 0 := ⟨(gx_ic4 (i := 199) rfl rfl), (gx_wb1 gq_m_w1_0_ok 0 rfl), ⟨by decide, by decide⟩, by decide +kernel, rfl, rfl⟩
theorem mv_m_swap : gx_mv mi_m_swap := ⟨(gx_wb4 gq_m_w4_1_ok 25 rfl), (gx_wb4 gq_m_w4_1_ok 26 rfl)⟩
theorem mo_m_has : gx_mo mi_m_has 2 := ⟨(gx_ic4 (i := 215) rfl rfl), (gx_wb1 gq_m_w1_0_ok 0 rfl), ⟨by decide, by decide⟩, by decide +kernel, rfl, rfl⟩
theorem mv_m_has : gx_mv mi_m_has := ⟨(gx_wb4 gq_m_w4_1_ok 27 rfl), (gx_sb (i := 75) (n := 35) rfl)⟩
theorem mo_m_layOrder : gx_mo mi_m_layOrder 1 := ⟨(gx_ic4 (i := 211) rfl rfl), (gx_wb1 gq_m_w1_0_ok 0 rfl), ⟨by decide, by decide⟩, by decide +kernel, rfl, rfl⟩
theorem mv_m_layOrder : gx_mv mi_m_layOrder := ⟨(gx_wb4 gq_m_w4_1_ok 28 rfl), (gx_sb (i := 74) (n := 35) rfl)⟩
theorem mo_m_orders : gx_mo mi_m_orders 1 := ⟨(gx_ic4 (i := 207) rfl rfl), (gx_wb1 gq_m_w1_0_ok 0 rfl), ⟨by decide, by decide⟩, by decide +kernel, rfl, rfl⟩
theorem mv_m_orders : gx_mv mi_m_orders := ⟨(gx_wb4 gq_m_w4_1_ok 29 rfl), (gx_wb4 gq_m_w4_2_ok 0 rfl)⟩
theorem mo_m_needed : gx_mo mi_m_needed 0 := ⟨(gx_ic4 (i := 219) rfl rfl), (gx_wb1 gq_m_w1_0_ok 0 rfl), ⟨by decide, by decide⟩, by decide +kernel, rfl, rfl⟩
theorem mv_m_needed : gx_mv mi_m_needed := ⟨(gx_wb4 gq_m_w4_2_ok 1 rfl), (gx_wb4 gq_m_w4_2_ok 2 rfl)⟩
theorem mo_m_more : gx_mo mi_m_more 1 := ⟨(gx_ic4 (i := 223) rfl rfl), (gx_wb1 gq_m_w1_0_ok 0 rfl), ⟨by decide, by decide⟩, by decide +kernel, rfl, rfl⟩
theorem mv_m_more : gx_mv mi_m_more := ⟨(gx_wb4 gq_m_w4_2_ok 3 rfl), (gx_wb4 gq_m_w4_2_ok 4 rfl)⟩
theorem mo_m_row : gx_mo mi_m_row 1 := ⟨(gx_ic4 (i := 227) rfl rfl), (gx_wb1 gq_m_w1_0_ok 0 rfl), ⟨by decide, by decide⟩, by decide +kernel, rfl, rfl⟩
theorem mv_m_row : gx_mv mi_m_row := ⟨(gx_wb4 gq_m_w4_2_ok 5 rfl), (gx_wb4 gq_m_w4_2_ok 6 rfl)⟩
theorem mo_m_isRow : gx_mo mi_m_isRow 0 := ⟨(gx_ic4 (i := 235) rfl rfl), (gx_wb1 gq_m_w1_0_ok 0 rfl), ⟨by decide, by decide⟩, by decide +kernel, rfl, rfl⟩
theorem mv_m_isRow : gx_mv mi_m_isRow := ⟨(gx_wb4 gq_m_w4_2_ok 7 rfl), (gx_sb (i := 76) (n := 35) rfl)⟩
theorem mo_m_slacked : gx_mo mi_m_slacked 0 := ⟨(gx_ic4 (i := 231) rfl rfl), (gx_wb1 gq_m_w1_0_ok 0 rfl), ⟨by decide, by decide⟩, by decide +kernel, rfl, rfl⟩
theorem mv_m_slacked : gx_mv mi_m_slacked := ⟨(gx_wb4 gq_m_w4_2_ok 8 rfl), (gx_wb4 gq_m_w4_2_ok 9 rfl)⟩
theorem mo_m_judged : gx_mo mi_m_judged 0 := ⟨(gx_ic5 (i := 3) rfl rfl), (gx_wb1 gq_m_w1_0_ok 0 rfl), ⟨by decide, by decide⟩, by decide +kernel, rfl, rfl⟩
theorem mv_m_judged : gx_mv mi_m_judged := ⟨(gx_wb5 gq_m_w5_0_ok 0 rfl), (gx_sb (i := 77) (n := 35) rfl)⟩
theorem mo_m_judge : gx_mo mi_m_judge 0 := ⟨(gx_ic4 (i := 239) rfl rfl), (gx_wb1 gq_m_w1_0_ok 0 rfl), ⟨by decide, by decide⟩, by decide +kernel, rfl, rfl⟩
theorem mv_m_judge : gx_mv mi_m_judge := ⟨(gx_wb4 gq_m_w4_2_ok 10 rfl), (gx_wb4 gq_m_w4_2_ok 11 rfl)⟩
theorem mo_m_isHeldAt : gx_mo mi_m_isHeldAt 2 := ⟨(gx_ic5 (i := 19) rfl rfl), (gx_wb1 gq_m_w1_0_ok 0 rfl), ⟨by decide, by decide⟩, by decide +kernel, rfl, rfl⟩
theorem mv_m_isHeldAt : gx_mv mi_m_isHeldAt := ⟨(gx_wb5 gq_m_w5_0_ok 1 rfl), (gx_sb (i := 80) (n := 35) rfl)⟩
theorem mo_m_reaches : gx_mo mi_m_reaches 3 := ⟨(gx_ic5 (i := 15) rfl rfl), (gx_wb1 gq_m_w1_0_ok 0 rfl), ⟨by decide, by decide⟩, by decide +kernel, rfl, rfl⟩
theorem mv_m_reaches : gx_mv mi_m_reaches := ⟨(gx_wb5 gq_m_w5_0_ok 2 rfl), (gx_sb (i := 79) (n := 35) rfl)⟩
theorem mo_m_layWays : gx_mo mi_m_layWays 0 := ⟨(gx_ic5 (i := 11) rfl rfl), (gx_wb1 gq_m_w1_0_ok 0 rfl), ⟨by decide, by decide⟩, by decide +kernel, rfl, rfl⟩
theorem mv_m_layWays : gx_mv mi_m_layWays := ⟨(gx_wb5 gq_m_w5_0_ok 3 rfl), (gx_sb (i := 78) (n := 35) rfl)⟩
theorem mo_m_way : gx_mo mi_m_way 1 := ⟨(gx_ic5 (i := 7) rfl rfl), (gx_wb1 gq_m_w1_0_ok 0 rfl), ⟨by decide, by decide⟩, by decide +kernel, rfl, rfl⟩
theorem mv_m_way : gx_mv mi_m_way := ⟨(gx_wb5 gq_m_w5_0_ok 4 rfl), (gx_wb5 gq_m_w5_0_ok 5 rfl)⟩
theorem mo_m_reach : gx_mo mi_m_reach 1 := ⟨(gx_ic5 (i := 23) rfl rfl), (gx_wb1 gq_m_w1_0_ok 0 rfl), ⟨by decide, by decide⟩, by decide +kernel, rfl, rfl⟩
theorem mv_m_reach : gx_mv mi_m_reach := ⟨(gx_wb5 gq_m_w5_0_ok 6 rfl), (gx_wb5 gq_m_w5_0_ok 7 rfl)⟩
theorem mo_m_lowest : gx_mo mi_m_lowest 2 := ⟨(gx_ic5 (i := 27) rfl rfl), (gx_wb1 gq_m_w1_0_ok 0 rfl), ⟨by decide, by decide⟩, by decide +kernel, rfl, rfl⟩
theorem mv_m_lowest : gx_mv mi_m_lowest := ⟨(gx_wb5 gq_m_w5_0_ok 8 rfl), (gx_wb5 gq_m_w5_0_ok 9 rfl)⟩
theorem mo_m_draw : gx_mo mi_m_draw 1 := ⟨(gx_ic5 (i := 35) rfl rfl), (gx_wb1 gq_m_w1_0_ok 0 rfl), ⟨by decide, by decide⟩, by decide +kernel, rfl, rfl⟩
theorem mv_m_draw : gx_mv mi_m_draw := ⟨(gx_wb5 gq_m_w5_0_ok 10 rfl), (gx_sb (i := 81) (n := 35) rfl)⟩
theorem mo_m_seeds : gx_mo mi_m_seeds 2 := ⟨(gx_ic5 (i := 31) rfl rfl), (gx_wb1 gq_m_w1_0_ok 0 rfl), ⟨by decide, by decide⟩, by decide +kernel, rfl, rfl⟩
theorem mv_m_seeds : gx_mv mi_m_seeds := ⟨(gx_wb5 gq_m_w5_0_ok 11 rfl), (gx_wb5 gq_m_w5_0_ok 12 rfl)⟩
theorem mo_m_image : gx_mo mi_m_image 0 := ⟨(gx_ic5 (i := 42) rfl rfl), (gx_wb1 gq_m_w1_0_ok 0 rfl), ⟨by decide, by decide⟩, by decide +kernel, rfl, rfl⟩
theorem mv_m_image : gx_mv mi_m_image := ⟨(gx_wb5 gq_m_w5_0_ok 13 rfl), (gx_wb5 gq_m_w5_0_ok 14 rfl)⟩
theorem mo_m_on : gx_mo mi_m_on 0 := ⟨(gx_ic5 (i := 46) rfl rfl), (gx_wb1 gq_m_w1_0_ok 0 rfl), ⟨by decide, by decide⟩, by decide +kernel, rfl, rfl⟩
theorem mv_m_on : gx_mv mi_m_on := ⟨(gx_wb5 gq_m_w5_0_ok 15 rfl), (gx_wb5 gq_m_w5_0_ok 16 rfl)⟩
theorem mo_m_allWeight : gx_mo mi_m_allWeight 0 := ⟨(gx_ic5 (i := 54) rfl rfl), (gx_wb1 gq_m_w1_0_ok 0 rfl), ⟨by decide, by decide⟩, by decide +kernel, rfl, rfl⟩
theorem mv_m_allWeight : gx_mv mi_m_allWeight := ⟨(gx_wb5 gq_m_w5_0_ok 17 rfl), (gx_sb (i := 82) (n := 35) rfl)⟩
theorem mo_m_allLoads : gx_mo mi_m_allLoads 0 := ⟨(gx_ic5 (i := 58) rfl rfl), (gx_wb1 gq_m_w1_0_ok 0 rfl), ⟨by decide, by decide⟩, by decide +kernel, rfl, rfl⟩
theorem mv_m_allLoads : gx_mv mi_m_allLoads := ⟨(gx_wb5 gq_m_w5_0_ok 18 rfl), (gx_sb (i := 83) (n := 35) rfl)⟩
theorem mo_m_manyBear : gx_mo mi_m_manyBear 0 := ⟨(gx_ic5 (i := 62) rfl rfl), (gx_wb1 gq_m_w1_0_ok 0 rfl), ⟨by decide, by decide⟩, by decide +kernel, rfl, rfl⟩
theorem mv_m_manyBear : gx_mv mi_m_manyBear := ⟨(gx_wb5 gq_m_w5_0_ok 19 rfl), (gx_sb (i := 84) (n := 35) rfl)⟩
theorem mo_m_count : gx_mo mi_m_count 1 := ⟨(gx_ic5 (i := 50) rfl rfl), (gx_wb1 gq_m_w1_0_ok 0 rfl), ⟨by decide, by decide⟩, by decide +kernel, rfl, rfl⟩
theorem mv_m_count : gx_mv mi_m_count := ⟨(gx_wb5 gq_m_w5_0_ok 20 rfl), (gx_wb5 gq_m_w5_0_ok 21 rfl)⟩
theorem fl_D_102 : gx_fl "EachBearsPillarModel" 102 6 30 := ⟨_, _, _, rfl, by decide, Or.inl (gx_wb3 gq_m_w3_0_ok 0 rfl)⟩
theorem fl_D_105 : gx_fl "EachBearsPillarModel" 105 6 31 := ⟨_, _, _, rfl, by decide, Or.inl (gx_wb3 gq_m_w3_0_ok 1 rfl)⟩
theorem fl_D_108 : gx_fl "EachBearsPillarModel" 108 6 32 := ⟨_, _, _, rfl, by decide, Or.inl (gx_wb3 gq_m_w3_0_ok 2 rfl)⟩
theorem fl_D_111 : gx_fl "EachBearsPillarModel" 111 6 33 := ⟨_, _, _, rfl, by decide, Or.inl (gx_wb3 gq_m_w3_0_ok 3 rfl)⟩
theorem fl_D_114 : gx_fl "EachBearsPillarModel" 114 6 34 := ⟨_, _, _, rfl, by decide, Or.inl (gx_wb3 gq_m_w3_0_ok 4 rfl)⟩
theorem fl_D_13 : gx_fl "EachBearsPillarModel" 13 6 1 := ⟨_, _, _, rfl, by decide, Or.inl (gx_wb3 gq_m_w3_0_ok 5 rfl)⟩
theorem fl_D_16 : gx_fl "EachBearsPillarModel" 16 6 2 := ⟨_, _, _, rfl, by decide, Or.inl (gx_wb3 gq_m_w3_0_ok 6 rfl)⟩
theorem fl_D_19 : gx_fl "EachBearsPillarModel" 19 6 3 := ⟨_, _, _, rfl, by decide, Or.inl (gx_wb3 gq_m_w3_0_ok 7 rfl)⟩
theorem fl_D_22 : gx_fl "EachBearsPillarModel" 22 6 4 := ⟨_, _, _, rfl, by decide, Or.inl (gx_wb3 gq_m_w3_0_ok 8 rfl)⟩
theorem fl_D_25 : gx_fl "EachBearsPillarModel" 25 6 5 := ⟨_, _, _, rfl, by decide, Or.inl (gx_wb3 gq_m_w3_0_ok 9 rfl)⟩
theorem fl_D_29 : gx_fl "EachBearsPillarModel" 29 6 6 := ⟨_, _, _, rfl, by decide, Or.inl (gx_wb3 gq_m_w3_0_ok 10 rfl)⟩
theorem fl_D_32 : gx_fl "EachBearsPillarModel" 32 6 7 := ⟨_, _, _, rfl, by decide, Or.inl (gx_wb3 gq_m_w3_0_ok 11 rfl)⟩
theorem fl_D_35 : gx_fl "EachBearsPillarModel" 35 6 8 := ⟨_, _, _, rfl, by decide, Or.inl (gx_wb3 gq_m_w3_0_ok 12 rfl)⟩
theorem fl_D_38 : gx_fl "EachBearsPillarModel" 38 6 9 := ⟨_, _, _, rfl, by decide, Or.inl (gx_wb3 gq_m_w3_0_ok 13 rfl)⟩
theorem fl_D_41 : gx_fl "EachBearsPillarModel" 41 6 10 := ⟨_, _, _, rfl, by decide, Or.inl (gx_wb3 gq_m_w3_0_ok 14 rfl)⟩
theorem fl_D_44 : gx_fl "EachBearsPillarModel" 44 6 11 := ⟨_, _, _, rfl, by decide, Or.inl (gx_wb3 gq_m_w3_0_ok 15 rfl)⟩
theorem fl_D_47 : gx_fl "EachBearsPillarModel" 47 6 12 := ⟨_, _, _, rfl, by decide, Or.inl (gx_wb3 gq_m_w3_0_ok 16 rfl)⟩
theorem fl_D_50 : gx_fl "EachBearsPillarModel" 50 6 13 := ⟨_, _, _, rfl, by decide, Or.inl (gx_wb3 gq_m_w3_0_ok 17 rfl)⟩
theorem fl_D_53 : gx_fl "EachBearsPillarModel" 53 6 14 := ⟨_, _, _, rfl, by decide, Or.inl (gx_wb3 gq_m_w3_0_ok 18 rfl)⟩
theorem fl_D_56 : gx_fl "EachBearsPillarModel" 56 6 15 := ⟨_, _, _, rfl, by decide, Or.inl (gx_wb3 gq_m_w3_0_ok 19 rfl)⟩
theorem fl_D_59 : gx_fl "EachBearsPillarModel" 59 6 16 := ⟨_, _, _, rfl, by decide, Or.inl (gx_wb3 gq_m_w3_0_ok 20 rfl)⟩
theorem fl_D_62 : gx_fl "EachBearsPillarModel" 62 6 17 := ⟨_, _, _, rfl, by decide, Or.inl (gx_wb3 gq_m_w3_0_ok 21 rfl)⟩
theorem fl_D_65 : gx_fl "EachBearsPillarModel" 65 6 18 := ⟨_, _, _, rfl, by decide, Or.inl (gx_wb3 gq_m_w3_0_ok 22 rfl)⟩
theorem fl_D_68 : gx_fl "EachBearsPillarModel" 68 6 19 := ⟨_, _, _, rfl, by decide, Or.inl (gx_wb3 gq_m_w3_0_ok 23 rfl)⟩
theorem fl_D_7 : gx_fl "EachBearsPillarModel" 7 6 0 := ⟨_, _, _, rfl, by decide, Or.inl (gx_wb3 gq_m_w3_0_ok 24 rfl)⟩
theorem fl_D_71 : gx_fl "EachBearsPillarModel" 71 6 20 := ⟨_, _, _, rfl, by decide, Or.inl (gx_wb3 gq_m_w3_0_ok 25 rfl)⟩
theorem fl_D_74 : gx_fl "EachBearsPillarModel" 74 6 21 := ⟨_, _, _, rfl, by decide, Or.inl (gx_wb3 gq_m_w3_0_ok 26 rfl)⟩
theorem fl_D_77 : gx_fl "EachBearsPillarModel" 77 6 22 := ⟨_, _, _, rfl, by decide, Or.inl (gx_wb3 gq_m_w3_0_ok 27 rfl)⟩
theorem fl_D_80 : gx_fl "EachBearsPillarModel" 80 6 23 := ⟨_, _, _, rfl, by decide, Or.inl (gx_wb3 gq_m_w3_0_ok 28 rfl)⟩
theorem fl_D_83 : gx_fl "EachBearsPillarModel" 83 6 24 := ⟨_, _, _, rfl, by decide, Or.inl (gx_wb3 gq_m_w3_0_ok 29 rfl)⟩
theorem fl_D_86 : gx_fl "EachBearsPillarModel" 86 6 25 := ⟨_, _, _, rfl, by decide, Or.inl (gx_wb3 gq_m_w3_1_ok 0 rfl)⟩
theorem fl_D_90 : gx_fl "EachBearsPillarModel" 90 6 26 := ⟨_, _, _, rfl, by decide, Or.inl (gx_wb3 gq_m_w3_1_ok 1 rfl)⟩
theorem fl_D_93 : gx_fl "EachBearsPillarModel" 93 6 27 := ⟨_, _, _, rfl, by decide, Or.inl (gx_wb3 gq_m_w3_1_ok 2 rfl)⟩
theorem fl_D_96 : gx_fl "EachBearsPillarModel" 96 6 28 := ⟨_, _, _, rfl, by decide, Or.inl (gx_wb3 gq_m_w3_1_ok 3 rfl)⟩
theorem fl_D_99 : gx_fl "EachBearsPillarModel" 99 6 29 := ⟨_, _, _, rfl, by decide, Or.inl (gx_wb3 gq_m_w3_1_ok 4 rfl)⟩
theorem pf_D_0 (v : Int32) : gx_pf 6 0 v := ⟨_, _, _, .int, rfl, rfl, by decide +kernel, rfl, rfl⟩
theorem pf_D_1 (v : Int32) : gx_pf 6 1 v := ⟨_, _, _, .int, rfl, rfl, by decide +kernel, rfl, rfl⟩
theorem pf_D_14 (v : Int32) : gx_pf 6 14 v := ⟨_, _, _, .int, rfl, rfl, by decide +kernel, rfl, rfl⟩
theorem pf_D_15 (v : Int32) : gx_pf 6 15 v := ⟨_, _, _, .int, rfl, rfl, by decide +kernel, rfl, rfl⟩
theorem pf_D_16 (v : Int32) : gx_pf 6 16 v := ⟨_, _, _, .int, rfl, rfl, by decide +kernel, rfl, rfl⟩
theorem pf_D_17 (v : Int32) : gx_pf 6 17 v := ⟨_, _, _, .int, rfl, rfl, by decide +kernel, rfl, rfl⟩
theorem pf_D_19 (v : Int32) : gx_pf 6 19 v := ⟨_, _, _, .int, rfl, rfl, by decide +kernel, rfl, rfl⟩
theorem pf_D_2 (v : Int32) : gx_pf 6 2 v := ⟨_, _, _, .int, rfl, rfl, by decide +kernel, rfl, rfl⟩
theorem pf_D_22 (v : Int32) : gx_pf 6 22 v := ⟨_, _, _, .int, rfl, rfl, by decide +kernel, rfl, rfl⟩
theorem pf_D_23 (v : Int32) : gx_pf 6 23 v := ⟨_, _, _, .int, rfl, rfl, by decide +kernel, rfl, rfl⟩
theorem pf_D_25_1 : gx_pf 6 25 1 := ⟨_, _, _, .boolean, rfl, rfl, by decide +kernel, rfl, rfl⟩
theorem pf_D_26 (v : Int32) : gx_pf 6 26 v := ⟨_, _, _, .int, rfl, rfl, by decide +kernel, rfl, rfl⟩
theorem pf_D_27 (v : Int32) : gx_pf 6 27 v := ⟨_, _, _, .int, rfl, rfl, by decide +kernel, rfl, rfl⟩
theorem pf_D_28 (v : Int32) : gx_pf 6 28 v := ⟨_, _, _, .int, rfl, rfl, by decide +kernel, rfl, rfl⟩
theorem pf_D_3 (v : Int32) : gx_pf 6 3 v := ⟨_, _, _, .int, rfl, rfl, by decide +kernel, rfl, rfl⟩
theorem pf_D_4 (v : Int32) : gx_pf 6 4 v := ⟨_, _, _, .int, rfl, rfl, by decide +kernel, rfl, rfl⟩
theorem ln_D_117_m_in : gx_ln "EachBearsPillarModel" 117 mi_m_in := Or.inl (gx_wb4 gq_m_w4_2_ok 12 rfl)
theorem ln_D_121_m_no : gx_ln "EachBearsPillarModel" 121 mi_m_no := Or.inl (gx_wb4 gq_m_w4_2_ok 13 rfl)
theorem ln_D_125_m_next : gx_ln "EachBearsPillarModel" 125 mi_m_next := Or.inl (gx_wb4 gq_m_w4_2_ok 14 rfl)
theorem ln_D_129_m_isDigit : gx_ln "EachBearsPillarModel" 129 mi_m_isDigit := Or.inl (gx_wb4 gq_m_w4_2_ok 15 rfl)
theorem ln_D_133_m_kindOf : gx_ln "EachBearsPillarModel" 133 mi_m_kindOf := Or.inl (gx_wb4 gq_m_w4_2_ok 16 rfl)
theorem ln_D_136_m_number : gx_ln "EachBearsPillarModel" 136 mi_m_number := Or.inl (gx_wb4 gq_m_w4_2_ok 17 rfl)
theorem ln_D_139_m_takes : gx_ln "EachBearsPillarModel" 139 mi_m_takes := Or.inl (gx_wb4 gq_m_w4_2_ok 18 rfl)
theorem ln_D_143_m_takesKind : gx_ln "EachBearsPillarModel" 143 mi_m_takesKind := Or.inl (gx_wb4 gq_m_w4_2_ok 19 rfl)
theorem ln_D_146_m_takesTwo : gx_ln "EachBearsPillarModel" 146 mi_m_takesTwo := Or.inl (gx_wb4 gq_m_w4_2_ok 20 rfl)
theorem ln_D_150_m_takesRest : gx_ln "EachBearsPillarModel" 150 mi_m_takesRest := Or.inl (gx_wb4 gq_m_w4_2_ok 21 rfl)
theorem ln_D_153_m_takesStatement : gx_ln "EachBearsPillarModel" 153 mi_m_takesStatement := Or.inl (gx_wb4 gq_m_w4_2_ok 22 rfl)
theorem ln_D_156_m_isGood : gx_ln "EachBearsPillarModel" 156 mi_m_isGood := Or.inl (gx_wb4 gq_m_w4_2_ok 23 rfl)
theorem ln_D_159_m_comes : gx_ln "EachBearsPillarModel" 159 mi_m_comes := Or.inl (gx_wb4 gq_m_w4_2_ok 24 rfl)
theorem ln_D_163_m_isText : gx_ln "EachBearsPillarModel" 163 mi_m_isText := Or.inl (gx_wb4 gq_m_w4_2_ok 25 rfl)
theorem ln_D_166_m_wrongPlace : gx_ln "EachBearsPillarModel" 166 mi_m_wrongPlace := Or.inl (gx_wb4 gq_m_w4_2_ok 26 rfl)
theorem ln_D_169_m_comesAll : gx_ln "EachBearsPillarModel" 169 mi_m_comesAll := Or.inl (gx_wb4 gq_m_w4_2_ok 27 rfl)
theorem ln_D_172_m_topOf : gx_ln "EachBearsPillarModel" 172 mi_m_topOf := Or.inl (gx_wb4 gq_m_w4_2_ok 28 rfl)
theorem ln_D_175_m_hasEnds : gx_ln "EachBearsPillarModel" 175 mi_m_hasEnds := Or.inl (gx_wb4 gq_m_w4_2_ok 29 rfl)
theorem ln_D_178_m_bears : gx_ln "EachBearsPillarModel" 178 mi_m_bears := Or.inl (gx_wb4 gq_m_w4_3_ok 0 rfl)
theorem ln_D_181_m_loadBy : gx_ln "EachBearsPillarModel" 181 mi_m_loadBy := Or.inl (gx_wb4 gq_m_w4_3_ok 1 rfl)
theorem ln_D_185_m_loadOf : gx_ln "EachBearsPillarModel" 185 mi_m_loadOf := Or.inl (gx_wb4 gq_m_w4_3_ok 2 rfl)
theorem ln_D_188_m_mightOf : gx_ln "EachBearsPillarModel" 188 mi_m_mightOf := Or.inl (gx_wb4 gq_m_w4_3_ok 3 rfl)
theorem ln_D_191_m_falls : gx_ln "EachBearsPillarModel" 191 mi_m_falls := Or.inl (gx_wb4 gq_m_w4_3_ok 4 rfl)
theorem ln_D_194_m_sagNow : gx_ln "EachBearsPillarModel" 194 mi_m_sagNow := Or.inl (gx_wb4 gq_m_w4_3_ok 5 rfl)
theorem ln_D_197_m_isBearer : gx_ln "EachBearsPillarModel" 197 mi_m_isBearer := Or.inl (gx_wb4 gq_m_w4_3_ok 6 rfl)
theorem ln_D_200_m_lastAt : gx_ln "EachBearsPillarModel" 200 mi_m_lastAt := Or.inl (gx_wb4 gq_m_w4_3_ok 7 rfl)
theorem ln_D_203_m_isHeld : gx_ln "EachBearsPillarModel" 203 mi_m_isHeld := Or.inl (gx_wb4 gq_m_w4_3_ok 8 rfl)
theorem ln_D_206_m_blocksFor : gx_ln "EachBearsPillarModel" 206 mi_m_blocksFor := Or.inl (gx_wb4 gq_m_w4_3_ok 9 rfl)
theorem ln_D_209_m_changes : gx_ln "EachBearsPillarModel" 209 mi_m_changes := Or.inl (gx_wb4 gq_m_w4_3_ok 10 rfl)
theorem ln_D_213_m_has : gx_ln "EachBearsPillarModel" 213 mi_m_has := Or.inl (gx_wb4 gq_m_w4_3_ok 11 rfl)
theorem ln_D_216_m_layOrder : gx_ln "EachBearsPillarModel" 216 mi_m_layOrder := Or.inl (gx_wb4 gq_m_w4_3_ok 12 rfl)
theorem ln_D_219_m_isRow : gx_ln "EachBearsPillarModel" 219 mi_m_isRow := Or.inl (gx_wb4 gq_m_w4_3_ok 13 rfl)
theorem ln_D_222_m_judged : gx_ln "EachBearsPillarModel" 222 mi_m_judged := Or.inl (gx_wb5 gq_m_w5_0_ok 22 rfl)
theorem ln_D_225_m_isHeldAt : gx_ln "EachBearsPillarModel" 225 mi_m_isHeldAt := Or.inl (gx_wb5 gq_m_w5_0_ok 23 rfl)
theorem ln_D_228_m_reaches : gx_ln "EachBearsPillarModel" 228 mi_m_reaches := Or.inl (gx_wb5 gq_m_w5_0_ok 24 rfl)
theorem ln_D_232_m_layWays : gx_ln "EachBearsPillarModel" 232 mi_m_layWays := Or.inl (gx_wb5 gq_m_w5_0_ok 25 rfl)
theorem ln_D_238_m_draw : gx_ln "EachBearsPillarModel" 238 mi_m_draw := Or.inl (gx_wb5 gq_m_w5_0_ok 26 rfl)
theorem ln_D_241_m_allWeight : gx_ln "EachBearsPillarModel" 241 mi_m_allWeight := Or.inl (gx_wb5 gq_m_w5_0_ok 27 rfl)
theorem ln_D_244_m_allLoads : gx_ln "EachBearsPillarModel" 244 mi_m_allLoads := Or.inl (gx_wb5 gq_m_w5_0_ok 28 rfl)
theorem ln_D_247_m_manyBear : gx_ln "EachBearsPillarModel" 247 mi_m_manyBear := Or.inl (gx_wb5 gq_m_w5_0_ok 29 rfl)
theorem wr_constant_D_235 : Cond.constant "EachBearsPillarModel" 235 1664525 ∈ gx_big := (gx_wb5 gq_m_w5_1_ok 0 rfl)
theorem wr_constant_D_236 : Cond.constant "EachBearsPillarModel" 236 1013904223 ∈ gx_big := (gx_wb5 gq_m_w5_1_ok 1 rfl)
theorem wr_constant_D_237 : Cond.constant "EachBearsPillarModel" 237 2147483647 ∈ gx_big := (gx_wb5 gq_m_w5_1_ok 2 rfl)
