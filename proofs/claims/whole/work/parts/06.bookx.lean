/-! ===== the x side: shapes, books of the methods, what the tables say ===== -/
def sh_x : List gx_Sh := [.inr (0, [some 1, some 8, some 15, none, some 22, some 29, some 32, some 35, some 38, none, some 39]), .inr (1, [none, none, none, some 2, some 3, some 4, some 5, some 6, some 7]), .inl 7, .inl 7, .inl 7, .inl 7, .inl 6, .inl 16, .inr (1, [none, none, none, some 9, some 10, some 11, some 12, some 13, some 14]), .inl 7, .inl 7, .inl 7, .inl 7, .inl 6, .inl 16, .inr (1, [none, none, none, some 16, some 17, some 18, some 19, some 20, some 21]), .inl 7, .inl 7, .inl 7, .inl 7, .inl 6, .inl 16, .inr (2, [some 1, none, none, none, some 23, some 24, some 25, some 26, some 27, some 28]), .inl 7, .inl 7, .inl 6, .inl 7, .inl 7, .inl 7, .inr (3, [some 30, none, none, none, some 31, none]), .inl 96, .inl 3, .inr (4, [some 22, some 33, some 34, none]), .inl 448, .inl 448, .inr (5, [some 22, some 36, some 37]), .inl 49, .inl 1792, .inl 7, .inl 7]
theorem sh_x_0 : sh_x[0]? = some (.inr (0, [some 1, some 8, some 15, none, some 22, some 29, some 32, some 35, some 38, none, some 39])) := rfl
theorem sh_x_1 : sh_x[1]? = some (.inr (1, [none, none, none, some 2, some 3, some 4, some 5, some 6, some 7])) := rfl
theorem sh_x_8 : sh_x[8]? = some (.inr (1, [none, none, none, some 9, some 10, some 11, some 12, some 13, some 14])) := rfl
theorem sh_x_15 : sh_x[15]? = some (.inr (1, [none, none, none, some 16, some 17, some 18, some 19, some 20, some 21])) := rfl
theorem sh_x_22 : sh_x[22]? = some (.inr (2, [some 1, none, none, none, some 23, some 24, some 25, some 26, some 27, some 28])) := rfl
theorem sh_x_29 : sh_x[29]? = some (.inr (3, [some 30, none, none, none, some 31, none])) := rfl
theorem sh_x_32 : sh_x[32]? = some (.inr (4, [some 22, some 33, some 34, none])) := rfl
theorem sh_x_35 : sh_x[35]? = some (.inr (5, [some 22, some 36, some 37])) := rfl
def mi_x_E_cell : gx_Mi := (⟨"EachBearsPillar", "cell", "([II)I"⟩, prog_1_method_36_code, 2, (some .int), { frames := 0, cells := 0, slots := 0, locals := 0 }, sh_x)
def mi_x_E_setCell : gx_Mi := (⟨"EachBearsPillar", "setCell", "([III)Z"⟩, prog_1_method_37_code, 3, (some .boolean), { frames := 0, cells := 0, slots := 0, locals := 0 }, sh_x)
def mi_x_E_refuse : gx_Mi := (⟨"EachBearsPillar", "refuse", "(I)I"⟩, prog_1_method_29_code, 2, (some .int), { frames := 1, cells := 0, slots := 0, locals := 22 }, sh_x)
def mi_x_T_append : gx_Mi := (⟨"EachBearsPillar$Text", "append", "(I)I"⟩, prog_5_method_2_code, 2, (some .int), { frames := 1, cells := 0, slots := 0, locals := 22 }, sh_x)
def mi_x_E_letter : gx_Mi := (⟨"EachBearsPillar", "letter", "(I)I"⟩, prog_1_method_2_code, 2, (some .int), { frames := 2, cells := 0, slots := 0, locals := 43 }, sh_x)
def mi_x_T_rewind : gx_Mi := (⟨"EachBearsPillar$Text", "rewind", "()V"⟩, prog_5_method_3_code, 1, none, { frames := 0, cells := 0, slots := 0, locals := 0 }, sh_x)
def mi_x_T_here : gx_Mi := (⟨"EachBearsPillar$Text", "here", "()I"⟩, prog_5_method_11_code, 1, (some .int), { frames := 1, cells := 0, slots := 0, locals := 21 }, sh_x)
def mi_x_T_formOf : gx_Mi := (⟨"EachBearsPillar$Text", "formOf", "(I)Ljava/lang/String;"⟩, prog_5_method_6_code, 1, (some (.object "java/lang/String")), { frames := 0, cells := 0, slots := 0, locals := 0 }, sh_x)
def mi_x_S_isEmpty : gx_Mi := (⟨"java/lang/String", "isEmpty", "()Z"⟩, prog_11_method_55_code, 1, (some .boolean), { frames := 4, cells := 0, slots := 0, locals := 120 }, sh_x)
def mi_x_S_length : gx_Mi := (⟨"java/lang/String", "length", "()I"⟩, prog_11_method_54_code, 1, (some .int), { frames := 4, cells := 0, slots := 0, locals := 120 }, sh_x)
def mi_x_S_charAt : gx_Mi := (⟨"java/lang/String", "charAt", "(I)C"⟩, prog_11_method_56_code, 2, (some .char), { frames := 4, cells := 0, slots := 0, locals := 120 }, sh_x)
def mi_x_T_keepNumber : gx_Mi := (⟨"EachBearsPillar$Text", "keepNumber", "(I)V"⟩, prog_5_method_10_code, 2, none, { frames := 1, cells := 0, slots := 0, locals := 22 }, sh_x)
def mi_x_T_readNumber : gx_Mi := (⟨"EachBearsPillar$Text", "readNumber", "(I)Z"⟩, prog_5_method_9_code, 4, (some .boolean), { frames := 2, cells := 0, slots := 0, locals := 43 }, sh_x)
def mi_x_T_readKind : gx_Mi := (⟨"EachBearsPillar$Text", "readKind", "()Z"⟩, prog_5_method_8_code, 3, (some .boolean), { frames := 5, cells := 0, slots := 0, locals := 141 }, sh_x)
def mi_x_T_readPart : gx_Mi := (⟨"EachBearsPillar$Text", "readPart", "(C)Z"⟩, prog_5_method_7_code, 2, (some .boolean), { frames := 6, cells := 0, slots := 0, locals := 163 }, sh_x)
def mi_x_T_readStatement : gx_Mi := (⟨"EachBearsPillar$Text", "readStatement", "()Z"⟩, prog_5_method_5_code, 3, (some .boolean), { frames := 7, cells := 0, slots := 0, locals := 184 }, sh_x)
def mi_x_T_faultOfForm : gx_Mi := (⟨"EachBearsPillar$Text", "faultOfForm", "()I"⟩, prog_5_method_4_code, 2, (some .int), { frames := 8, cells := 0, slots := 0, locals := 206 }, sh_x)
def mi_x_E_copyCells : gx_Mi := (⟨"EachBearsPillar", "copyCells", "([I[I)V"⟩, prog_1_method_39_code, 3, none, { frames := 0, cells := 0, slots := 0, locals := 0 }, sh_x)
def mi_x_R_become_8_1 : gx_Mi := (⟨"EachBearsPillar$Roof", "become", "(LEachBearsPillar$Roof;)V"⟩, prog_4_method_2_code, 2, none, { frames := 1, cells := 0, slots := 0, locals := 22 }, sh_x)
def mi_x_R_become_1_8 : gx_Mi := (⟨"EachBearsPillar$Roof", "become", "(LEachBearsPillar$Roof;)V"⟩, prog_4_method_2_code, 2, none, { frames := 1, cells := 0, slots := 0, locals := 22 }, sh_x)
def mi_x_R_addBearer_8 : gx_Mi := (⟨"EachBearsPillar$Roof", "addBearer", "(III)Z"⟩, prog_4_method_5_code, 4, (some .boolean), { frames := 1, cells := 0, slots := 0, locals := 22 }, sh_x)
def mi_x_R_hasBearer_8 : gx_Mi := (⟨"EachBearsPillar$Roof", "hasBearer", "(I)Z"⟩, prog_4_method_3_code, 2, (some .boolean), { frames := 0, cells := 0, slots := 0, locals := 0 }, sh_x)
def mi_x_E_isSpan : gx_Mi := (⟨"EachBearsPillar", "isSpan", "(I)Z"⟩, prog_1_method_30_code, 1, (some .boolean), { frames := 0, cells := 0, slots := 0, locals := 0 }, sh_x)
def mi_x_E_enterStatement : gx_Mi := (⟨"EachBearsPillar", "enterStatement", "()Z"⟩, prog_1_method_32_code, 3, (some .boolean), { frames := 2, cells := 0, slots := 0, locals := 45 }, sh_x)
def mi_x_E_enterStatements : gx_Mi := (⟨"EachBearsPillar", "enterStatements", "()I"⟩, prog_1_method_31_code, 4, (some .int), { frames := 8, cells := 0, slots := 0, locals := 206 }, sh_x)
def mi_x_E_roof : gx_Mi := (⟨"EachBearsPillar", "roof", "()I"⟩, prog_1_method_3_code, 2, (some .int), { frames := 9, cells := 0, slots := 0, locals := 229 }, sh_x)
def mi_x_E_exchange : gx_Mi := (⟨"EachBearsPillar", "exchange", "([III)I"⟩, prog_1_method_38_code, 4, (some .int), { frames := 1, cells := 0, slots := 0, locals := 22 }, sh_x)
def mi_x_E_span : gx_Mi := (⟨"EachBearsPillar", "span", "(II)I"⟩, prog_1_method_4_code, 3, (some .int), { frames := 2, cells := 0, slots := 0, locals := 45 }, sh_x)
def mi_x_E_ground : gx_Mi := (⟨"EachBearsPillar", "ground", "(II)I"⟩, prog_1_method_5_code, 3, (some .int), { frames := 2, cells := 0, slots := 0, locals := 45 }, sh_x)
def mi_x_E_level : gx_Mi := (⟨"EachBearsPillar", "level", "(I)I"⟩, prog_1_method_6_code, 3, (some .int), { frames := 2, cells := 0, slots := 0, locals := 43 }, sh_x)
def mi_x_R_hasBearer_1 : gx_Mi := (⟨"EachBearsPillar$Roof", "hasBearer", "(I)Z"⟩, prog_4_method_3_code, 2, (some .boolean), { frames := 0, cells := 0, slots := 0, locals := 0 }, sh_x)
def mi_x_E_block : gx_Mi := (⟨"EachBearsPillar", "block", "(II)I"⟩, prog_1_method_7_code, 3, (some .int), { frames := 2, cells := 0, slots := 0, locals := 45 }, sh_x)
def mi_x_R_lastAt_1 : gx_Mi := (⟨"EachBearsPillar$Roof", "lastAt", "()I"⟩, prog_4_method_4_code, 1, (some .int), { frames := 0, cells := 0, slots := 0, locals := 0 }, sh_x)
def mi_x_E_at : gx_Mi := (⟨"EachBearsPillar", "at", "(I)I"⟩, prog_1_method_8_code, 3, (some .int), { frames := 2, cells := 0, slots := 0, locals := 43 }, sh_x)
def mi_x_M_asTold : gx_Mi := (⟨"EachBearsPillar$Mind", "asTold", "()V"⟩, prog_2_method_2_code, 2, none, { frames := 1, cells := 0, slots := 0, locals := 22 }, sh_x)
def mi_x_M_topOf : gx_Mi := (⟨"EachBearsPillar$Mind", "topOf", "(II)I"⟩, prog_2_method_3_code, 3, (some .int), { frames := 1, cells := 0, slots := 0, locals := 21 }, sh_x)
def mi_x_M_canBear : gx_Mi := (⟨"EachBearsPillar$Mind", "canBear", "(II)Z"⟩, prog_2_method_4_code, 3, (some .boolean), { frames := 1, cells := 0, slots := 0, locals := 21 }, sh_x)
def mi_x_M_mightOf : gx_Mi := (⟨"EachBearsPillar$Mind", "mightOf", "(II)I"⟩, prog_2_method_5_code, 5, (some .int), { frames := 1, cells := 0, slots := 0, locals := 21 }, sh_x)
def mi_x_E_bearer : gx_Mi := (⟨"EachBearsPillar", "bearer", "(II)I"⟩, prog_1_method_9_code, 4, (some .int), { frames := 2, cells := 0, slots := 0, locals := 45 }, sh_x)
def mi_x_M_stand : gx_Mi := (⟨"EachBearsPillar$Mind", "stand", "()V"⟩, prog_2_method_6_code, 5, none, { frames := 2, cells := 0, slots := 0, locals := 45 }, sh_x)
def mi_x_M_shareOf : gx_Mi := (⟨"EachBearsPillar$Mind", "shareOf", "(II)I"⟩, prog_2_method_9_code, 4, (some .int), { frames := 1, cells := 0, slots := 0, locals := 21 }, sh_x)
def mi_x_M_weigh : gx_Mi := (⟨"EachBearsPillar$Mind", "weigh", "()V"⟩, prog_2_method_7_code, 2, none, { frames := 2, cells := 0, slots := 0, locals := 44 }, sh_x)
def mi_x_M_standAndWeigh : gx_Mi := (⟨"EachBearsPillar$Mind", "standAndWeigh", "()V"⟩, prog_2_method_8_code, 1, none, { frames := 3, cells := 0, slots := 0, locals := 69 }, sh_x)
def mi_x_E_load : gx_Mi := (⟨"EachBearsPillar", "load", "(I)I"⟩, prog_1_method_10_code, 2, (some .int), { frames := 4, cells := 0, slots := 0, locals := 89 }, sh_x)
def mi_x_M_firstOverloaded : gx_Mi := (⟨"EachBearsPillar$Mind", "firstOverloaded", "()I"⟩, prog_2_method_10_code, 2, (some .int), { frames := 1, cells := 0, slots := 0, locals := 21 }, sh_x)
def mi_x_M_firstFalling : gx_Mi := (⟨"EachBearsPillar$Mind", "firstFalling", "()I"⟩, prog_2_method_11_code, 2, (some .int), { frames := 1, cells := 0, slots := 0, locals := 21 }, sh_x)
def mi_x_M_isBorne : gx_Mi := (⟨"EachBearsPillar$Mind", "isBorne", "()Z"⟩, prog_2_method_12_code, 1, (some .boolean), { frames := 2, cells := 0, slots := 0, locals := 42 }, sh_x)
def mi_x_M_isFirm : gx_Mi := (⟨"EachBearsPillar$Mind", "isFirm", "()Z"⟩, prog_2_method_13_code, 1, (some .boolean), { frames := 3, cells := 0, slots := 0, locals := 69 }, sh_x)
def mi_x_E_holds : gx_Mi := (⟨"EachBearsPillar", "holds", "()I"⟩, prog_1_method_11_code, 1, (some .int), { frames := 4, cells := 0, slots := 0, locals := 89 }, sh_x)
def mi_x_E_sag : gx_Mi := (⟨"EachBearsPillar", "sag", "()I"⟩, prog_1_method_12_code, 3, (some .int), { frames := 4, cells := 0, slots := 0, locals := 89 }, sh_x)
def mi_x_E_sumOf : gx_Mi := (⟨"EachBearsPillar", "sumOf", "([II)I"⟩, prog_1_method_40_code, 4, (some .int), { frames := 1, cells := 0, slots := 0, locals := 21 }, sh_x)
def mi_x_E_count : gx_Mi := (⟨"EachBearsPillar", "count", "(I)I"⟩, prog_1_method_13_code, 2, (some .int), { frames := 4, cells := 0, slots := 0, locals := 89 }, sh_x)
def mi_x_E_levels : gx_Mi := (⟨"EachBearsPillar", "levels", "()I"⟩, prog_1_method_14_code, 3, (some .int), { frames := 4, cells := 0, slots := 0, locals := 89 }, sh_x)
def mi_x_E_raise : gx_Mi := (⟨"EachBearsPillar", "raise", "(I)I"⟩, prog_1_method_34_code, 3, (some .int), { frames := 2, cells := 0, slots := 0, locals := 43 }, sh_x)
def mi_x_E_raiseBoth : gx_Mi := (⟨"EachBearsPillar", "raiseBoth", "(II)I"⟩, prog_1_method_33_code, 5, (some .int), { frames := 4, cells := 0, slots := 0, locals := 89 }, sh_x)
def mi_x_E_blocks : gx_Mi := (⟨"EachBearsPillar", "blocks", "()I"⟩, prog_1_method_15_code, 5, (some .int), { frames := 5, cells := 0, slots := 0, locals := 113 }, sh_x)
def mi_x_E_swap : gx_Mi := (⟨"EachBearsPillar", "swap", "()I"⟩, prog_1_method_16_code, 3, (some .int), { frames := 4, cells := 0, slots := 0, locals := 89 }, sh_x)
def mi_x_O_spotOf : gx_Mi := (⟨"EachBearsPillar$Orders", "spotOf", "(III)I"⟩, prog_3_method_3_code, 3, (some .int), { frames := 0, cells := 0, slots := 0, locals := 0 }, sh_x)
def mi_x_I_bitCount : gx_Mi := (⟨"java/lang/Integer", "bitCount", "(I)I"⟩, prog_9_method_49_code, 1, (some .int), { frames := 0, cells := 0, slots := 0, locals := 0 }, sh_x)
def mi_x_O_mostOf : gx_Mi := (⟨"EachBearsPillar$Orders", "mostOf", "(II)I"⟩, prog_3_method_4_code, 3, (some .int), { frames := 1, cells := 0, slots := 0, locals := 21 }, sh_x)
def mi_x_O_bearsLeft : gx_Mi := (⟨"EachBearsPillar$Orders", "bearsLeft", "(IIII)Z"⟩, prog_3_method_7_code, 8, (some .boolean), { frames := 2, cells := 0, slots := 0, locals := 43 }, sh_x)
def mi_x_O_waysWith : gx_Mi := (⟨"EachBearsPillar$Orders", "waysWith", "(IIII)I"⟩, prog_3_method_6_code, 9, (some .int), { frames := 3, cells := 0, slots := 0, locals := 70 }, sh_x)
def mi_x_O_waysOn : gx_Mi := (⟨"EachBearsPillar$Orders", "waysOn", "(III)I"⟩, prog_3_method_5_code, 7, (some .int), { frames := 4, cells := 0, slots := 0, locals := 98 }, sh_x)
def mi_x_O_fill : gx_Mi := (⟨"EachBearsPillar$Orders", "fill", "()V"⟩, prog_3_method_2_code, 6, none, { frames := 5, cells := 0, slots := 0, locals := 124 }, sh_x)
def mi_x_O_leastNext : gx_Mi := (⟨"EachBearsPillar$Orders", "leastNext", "(III)I"⟩, prog_3_method_10_code, 6, (some .int), { frames := 4, cells := 0, slots := 0, locals := 98 }, sh_x)
def mi_x_O_firstUnder : gx_Mi := (⟨"EachBearsPillar$Orders", "firstUnder", "(I)I"⟩, prog_3_method_9_code, 7, (some .int), { frames := 5, cells := 0, slots := 0, locals := 123 }, sh_x)
def mi_x_O_total : gx_Mi := (⟨"EachBearsPillar$Orders", "total", "()I"⟩, prog_3_method_8_code, 3, (some .int), { frames := 1, cells := 0, slots := 0, locals := 22 }, sh_x)
def mi_x_E_orders : gx_Mi := (⟨"EachBearsPillar", "orders", "(I)I"⟩, prog_1_method_17_code, 2, (some .int), { frames := 6, cells := 0, slots := 0, locals := 149 }, sh_x)
def mi_x_E_needed : gx_Mi := (⟨"EachBearsPillar", "needed", "()I"⟩, prog_1_method_18_code, 3, (some .int), { frames := 4, cells := 0, slots := 0, locals := 89 }, sh_x)
def mi_x_E_more : gx_Mi := (⟨"EachBearsPillar", "more", "(I)I"⟩, prog_1_method_19_code, 4, (some .int), { frames := 4, cells := 0, slots := 0, locals := 89 }, sh_x)
def mi_x_E_seeds : gx_Mi := (⟨"EachBearsPillar", "seeds", "(II)I"⟩, prog_1_method_20_code, 7, (some .int), { frames := 3, cells := 0, slots := 0, locals := 69 }, sh_x)
def mi_x_E_row : gx_Mi := (⟨"EachBearsPillar", "row", "(I)I"⟩, prog_1_method_21_code, 2, (some .int), { frames := 2, cells := 0, slots := 0, locals := 43 }, sh_x)
def mi_x_E_firstUntrue : gx_Mi := (⟨"EachBearsPillar", "firstUntrue", "()I"⟩, prog_1_method_35_code, 2, (some .int), { frames := 4, cells := 0, slots := 0, locals := 89 }, sh_x)
def mi_x_E_slacked : gx_Mi := (⟨"EachBearsPillar", "slacked", "()I"⟩, prog_1_method_22_code, 3, (some .int), { frames := 5, cells := 0, slots := 0, locals := 110 }, sh_x)
def mi_x_E_judge : gx_Mi := (⟨"EachBearsPillar", "judge", "()I"⟩, prog_1_method_23_code, 3, (some .int), { frames := 5, cells := 0, slots := 0, locals := 110 }, sh_x)
def mi_x_W_visit : gx_Mi := (⟨"EachBearsPillar$Walk", "visit", "(III)V"⟩, prog_6_method_3_code, 5, none, { frames := 4, cells := 0, slots := 0, locals := 89 }, sh_x)
def mi_x_W_explore : gx_Mi := (⟨"EachBearsPillar$Walk", "explore", "()V"⟩, prog_6_method_2_code, 6, none, { frames := 5, cells := 0, slots := 0, locals := 113 }, sh_x)
def mi_x_W_minutesTo : gx_Mi := (⟨"EachBearsPillar$Walk", "minutesTo", "(II)I"⟩, prog_6_method_4_code, 3, (some .int), { frames := 1, cells := 0, slots := 0, locals := 21 }, sh_x)
def mi_x_W_fewestTo : gx_Mi := (⟨"EachBearsPillar$Walk", "fewestTo", "(I)I"⟩, prog_6_method_5_code, 5, (some .int), { frames := 2, cells := 0, slots := 0, locals := 43 }, sh_x)
def mi_x_E_way : gx_Mi := (⟨"EachBearsPillar", "way", "(I)I"⟩, prog_1_method_24_code, 2, (some .int), { frames := 6, cells := 0, slots := 0, locals := 138 }, sh_x)
def mi_x_W_reachedWithin : gx_Mi := (⟨"EachBearsPillar$Walk", "reachedWithin", "(I)I"⟩, prog_6_method_6_code, 5, (some .int), { frames := 3, cells := 0, slots := 0, locals := 67 }, sh_x)
def mi_x_E_reach : gx_Mi := (⟨"EachBearsPillar", "reach", "(I)I"⟩, prog_1_method_25_code, 2, (some .int), { frames := 6, cells := 0, slots := 0, locals := 138 }, sh_x)
def mi_x_W_lowestAt : gx_Mi := (⟨"EachBearsPillar$Walk", "lowestAt", "(II)I"⟩, prog_6_method_7_code, 5, (some .int), { frames := 2, cells := 0, slots := 0, locals := 43 }, sh_x)
def mi_x_E_lowest : gx_Mi := (⟨"EachBearsPillar", "lowest", "(II)I"⟩, prog_1_method_26_code, 3, (some .int), { frames := 6, cells := 0, slots := 0, locals := 138 }, sh_x)
def mi_x_R_become_15_1 : gx_Mi := (⟨"EachBearsPillar$Roof", "become", "(LEachBearsPillar$Roof;)V"⟩, prog_4_method_2_code, 2, none, { frames := 1, cells := 0, slots := 0, locals := 22 }, sh_x)
def mi_x_E_image : gx_Mi := (⟨"EachBearsPillar", "image", "()I"⟩, prog_1_method_27_code, 1, (some .int), { frames := 2, cells := 0, slots := 0, locals := 43 }, sh_x)
def mi_x_R_become_1_15 : gx_Mi := (⟨"EachBearsPillar$Roof", "become", "(LEachBearsPillar$Roof;)V"⟩, prog_4_method_2_code, 2, none, { frames := 1, cells := 0, slots := 0, locals := 22 }, sh_x)
def mi_x_E_on : gx_Mi := (⟨"EachBearsPillar", "on", "()I"⟩, prog_1_method_28_code, 1, (some .int), { frames := 2, cells := 0, slots := 0, locals := 43 }, sh_x)
def gq_x_n1_0 : List (Nat × Cond) := [(33, Cond.fieldLinkNest "EachBearsPillar$Mind" 44 "EachBearsPillar$Roof" "at" "I" "EachBearsPillar"), (37, Cond.fieldLinkNest "EachBearsPillar$Mind" 47 "EachBearsPillar$Roof" "level" "I" "EachBearsPillar"), (53, Cond.fieldLinkNest "EachBearsPillar$Mind" 52 "EachBearsPillar$Roof" "weight" "[I" "EachBearsPillar"), (56, Cond.fieldLinkNest "EachBearsPillar$Mind" 57 "EachBearsPillar$Roof" "ground" "[I" "EachBearsPillar"), (47, Cond.fieldLinkNest "EachBearsPillar$Mind" 64 "EachBearsPillar$Roof" "height" "[I" "EachBearsPillar"), (50, Cond.fieldLinkNest "EachBearsPillar$Mind" 67 "EachBearsPillar$Roof" "block" "[I" "EachBearsPillar"), (41, Cond.fieldLinkNest "EachBearsPillar$Mind" 70 "EachBearsPillar$Roof" "kind" "[I" "EachBearsPillar"), (44, Cond.fieldLinkNest "EachBearsPillar$Mind" 73 "EachBearsPillar$Roof" "strength" "[I" "EachBearsPillar"), (30, Cond.fieldLinkNest "EachBearsPillar$Mind" 82 "EachBearsPillar$Roof" "bearers" "I" "EachBearsPillar"), (85, Cond.fieldLinkNest "EachBearsPillar$Orders" 22 "EachBearsPillar$Mind" "roof" "LEachBearsPillar$Roof;" "EachBearsPillar"), (29, Cond.fieldLinkNest "EachBearsPillar$Orders" 28 "EachBearsPillar$Roof" "bearers" "I" "EachBearsPillar"), (99, Cond.fieldLinkNest "EachBearsPillar$Orders" 74 "EachBearsPillar$Mind" "weight" "[I" "EachBearsPillar"), (86, Cond.fieldLinkNest "EachBearsPillar$Walk" 30 "EachBearsPillar$Mind" "roof" "LEachBearsPillar$Roof;" "EachBearsPillar"), (34, Cond.fieldLinkNest "EachBearsPillar$Walk" 36 "EachBearsPillar$Roof" "at" "I" "EachBearsPillar"), (38, Cond.fieldLinkNest "EachBearsPillar$Walk" 41 "EachBearsPillar$Roof" "level" "I" "EachBearsPillar"), (88, Cond.fieldLinkNest "EachBearsPillar$Walk" 56 "EachBearsPillar$Mind" "at" "I" "EachBearsPillar"), (90, Cond.fieldLinkNest "EachBearsPillar$Walk" 57 "EachBearsPillar$Mind" "level" "I" "EachBearsPillar"), (39, Cond.fieldLinkNest "EachBearsPillar" 100 "EachBearsPillar$Roof" "level" "I" "EachBearsPillar"), (51, Cond.fieldLinkNest "EachBearsPillar" 106 "EachBearsPillar$Roof" "block" "[I" "EachBearsPillar"), (35, Cond.fieldLinkNest "EachBearsPillar" 112 "EachBearsPillar$Roof" "at" "I" "EachBearsPillar"), (42, Cond.fieldLinkNest "EachBearsPillar" 122 "EachBearsPillar$Roof" "kind" "[I" "EachBearsPillar"), (45, Cond.fieldLinkNest "EachBearsPillar" 129 "EachBearsPillar$Roof" "strength" "[I" "EachBearsPillar"), (48, Cond.fieldLinkNest "EachBearsPillar" 132 "EachBearsPillar$Roof" "height" "[I" "EachBearsPillar"), (105, Cond.fieldLinkNest "EachBearsPillar" 145 "EachBearsPillar$Mind" "load" "[I" "EachBearsPillar"), (31, Cond.fieldLinkNest "EachBearsPillar" 158 "EachBearsPillar$Roof" "bearers" "I" "EachBearsPillar"), (102, Cond.fieldLinkNest "EachBearsPillar" 164 "EachBearsPillar$Mind" "bearing" "[I" "EachBearsPillar"), (91, Cond.fieldLinkNest "EachBearsPillar" 167 "EachBearsPillar$Mind" "level" "I" "EachBearsPillar"), (95, Cond.fieldLinkNest "EachBearsPillar" 171 "EachBearsPillar$Mind" "who" "[I" "EachBearsPillar"), (93, Cond.fieldLinkNest "EachBearsPillar" 187 "EachBearsPillar$Mind" "idle" "I" "EachBearsPillar"), (100, Cond.fieldLinkNest "EachBearsPillar" 190 "EachBearsPillar$Mind" "weight" "[I" "EachBearsPillar")]
theorem gq_x_n1_0_ok : gx_nl1 gq_x_n1_0 = true := by decide +kernel
def gq_x_n1_1 : List (Nat × Cond) := [(137, Cond.fieldLinkNest "EachBearsPillar" 229 "EachBearsPillar$Text" "place" "I" "EachBearsPillar"), (141, Cond.fieldLinkNest "EachBearsPillar" 238 "EachBearsPillar$Text" "numbers" "[I" "EachBearsPillar"), (139, Cond.fieldLinkNest "EachBearsPillar" 241 "EachBearsPillar$Text" "opener" "I" "EachBearsPillar"), (97, Cond.fieldLinkNest "EachBearsPillar" 251 "EachBearsPillar$Mind" "raised" "[I" "EachBearsPillar"), (135, Cond.fieldLinkNest "EachBearsPillar" 73 "EachBearsPillar$Text" "length" "I" "EachBearsPillar"), (54, Cond.fieldLinkNest "EachBearsPillar" 90 "EachBearsPillar$Roof" "weight" "[I" "EachBearsPillar"), (57, Cond.fieldLinkNest "EachBearsPillar" 97 "EachBearsPillar$Roof" "ground" "[I" "EachBearsPillar"), (239, Cond.methodLinkNest "EachBearsPillar" 76 ⟨"EachBearsPillar$Text", "append", "(I)I"⟩ "EachBearsPillar")]
theorem gq_x_n1_1_ok : gx_nl1 gq_x_n1_1 = true := by decide +kernel
def gq_x_n2_0 : List (Nat × Cond) := [(209, Cond.methodLinkNest "EachBearsPillar$Mind" 104 ⟨"EachBearsPillar$Roof", "hasBearer", "(I)Z"⟩ "EachBearsPillar"), (168, Cond.methodLinkNest "EachBearsPillar$Mind" 48 ⟨"EachBearsPillar", "setCell", "([III)Z"⟩ "EachBearsPillar"), (169, Cond.methodLinkNest "EachBearsPillar$Mind" 53 ⟨"EachBearsPillar", "copyCells", "([I[I)V"⟩ "EachBearsPillar"), (174, Cond.methodLinkNest "EachBearsPillar$Mind" 60 ⟨"EachBearsPillar", "cell", "([II)I"⟩ "EachBearsPillar"), (111, Cond.methodLinkNest "EachBearsPillar$Roof" 40 ⟨"EachBearsPillar", "copyCells", "([I[I)V"⟩ "EachBearsPillar"), (124, Cond.methodLinkNest "EachBearsPillar$Roof" 44 ⟨"EachBearsPillar", "setCell", "([III)Z"⟩ "EachBearsPillar"), (3, Cond.methodLinkNest "EachBearsPillar$Text" 31 ⟨"EachBearsPillar", "setCell", "([III)Z"⟩ "EachBearsPillar"), (24, Cond.methodLinkNest "EachBearsPillar$Text" 90 ⟨"EachBearsPillar", "cell", "([II)I"⟩ "EachBearsPillar"), (128, Cond.methodLinkNest "EachBearsPillar" 103 ⟨"EachBearsPillar$Roof", "hasBearer", "(I)Z"⟩ "EachBearsPillar"), (156, Cond.methodLinkNest "EachBearsPillar" 109 ⟨"EachBearsPillar$Roof", "lastAt", "()I"⟩ "EachBearsPillar"), (164, Cond.methodLinkNest "EachBearsPillar" 115 ⟨"EachBearsPillar$Mind", "asTold", "()V"⟩ "EachBearsPillar"), (170, Cond.methodLinkNest "EachBearsPillar" 118 ⟨"EachBearsPillar$Mind", "topOf", "(II)I"⟩ "EachBearsPillar"), (175, Cond.methodLinkNest "EachBearsPillar" 135 ⟨"EachBearsPillar$Mind", "canBear", "(II)Z"⟩ "EachBearsPillar"), (179, Cond.methodLinkNest "EachBearsPillar" 139 ⟨"EachBearsPillar$Mind", "mightOf", "(II)I"⟩ "EachBearsPillar"), (190, Cond.methodLinkNest "EachBearsPillar" 142 ⟨"EachBearsPillar$Mind", "standAndWeigh", "()V"⟩ "EachBearsPillar"), (217, Cond.methodLinkNest "EachBearsPillar" 148 ⟨"EachBearsPillar$Mind", "isFirm", "()Z"⟩ "EachBearsPillar"), (237, Cond.methodLinkNest "EachBearsPillar" 152 ⟨"EachBearsPillar$Mind", "firstOverloaded", "()I"⟩ "EachBearsPillar"), (238, Cond.methodLinkNest "EachBearsPillar" 155 ⟨"EachBearsPillar$Mind", "firstFalling", "()I"⟩ "EachBearsPillar"), (107, Cond.methodLinkNest "EachBearsPillar" 223 ⟨"EachBearsPillar$Roof", "become", "(LEachBearsPillar$Roof;)V"⟩ "EachBearsPillar"), (114, Cond.methodLinkNest "EachBearsPillar" 226 ⟨"EachBearsPillar$Text", "rewind", "()V"⟩ "EachBearsPillar"), (115, Cond.methodLinkNest "EachBearsPillar" 232 ⟨"EachBearsPillar$Text", "readStatement", "()Z"⟩ "EachBearsPillar"), (120, Cond.methodLinkNest "EachBearsPillar" 244 ⟨"EachBearsPillar$Roof", "addBearer", "(III)Z"⟩ "EachBearsPillar"), (8, Cond.methodLinkNest "EachBearsPillar" 79 ⟨"EachBearsPillar$Text", "faultOfForm", "()I"⟩ "EachBearsPillar")]
theorem gq_x_n2_0_ok : gx_nl2 gq_x_n2_0 = true := by decide +kernel
def gq_x_n3_0 : List (Nat × Cond) := [(34, Cond.methodLinkNest "EachBearsPillar$Orders" 34 ⟨"EachBearsPillar$Mind", "topOf", "(II)I"⟩ "EachBearsPillar"), (35, Cond.methodLinkNest "EachBearsPillar$Orders" 38 ⟨"EachBearsPillar$Mind", "canBear", "(II)Z"⟩ "EachBearsPillar"), (36, Cond.methodLinkNest "EachBearsPillar$Orders" 42 ⟨"EachBearsPillar$Mind", "mightOf", "(II)I"⟩ "EachBearsPillar"), (37, Cond.methodLinkNest "EachBearsPillar$Orders" 45 ⟨"EachBearsPillar", "setCell", "([III)Z"⟩ "EachBearsPillar"), (59, Cond.methodLinkNest "EachBearsPillar$Orders" 56 ⟨"EachBearsPillar", "cell", "([II)I"⟩ "EachBearsPillar"), (119, Cond.methodLinkNest "EachBearsPillar$Walk" 26 ⟨"EachBearsPillar", "setCell", "([III)Z"⟩ "EachBearsPillar"), (125, Cond.methodLinkNest "EachBearsPillar$Walk" 48 ⟨"EachBearsPillar", "cell", "([II)I"⟩ "EachBearsPillar"), (124, Cond.methodLinkNest "EachBearsPillar$Walk" 52 ⟨"EachBearsPillar$Roof", "lastAt", "()I"⟩ "EachBearsPillar"), (126, Cond.methodLinkNest "EachBearsPillar$Walk" 58 ⟨"EachBearsPillar$Mind", "isFirm", "()Z"⟩ "EachBearsPillar"), (30, Cond.methodLinkNest "EachBearsPillar" 178 ⟨"EachBearsPillar$Orders", "fill", "()V"⟩ "EachBearsPillar"), (64, Cond.methodLinkNest "EachBearsPillar" 181 ⟨"EachBearsPillar$Orders", "total", "()I"⟩ "EachBearsPillar"), (68, Cond.methodLinkNest "EachBearsPillar" 184 ⟨"EachBearsPillar$Orders", "firstUnder", "(I)I"⟩ "EachBearsPillar"), (84, Cond.methodLinkNest "EachBearsPillar" 191 ⟨"EachBearsPillar$Mind", "weigh", "()V"⟩ "EachBearsPillar"), (85, Cond.methodLinkNest "EachBearsPillar" 194 ⟨"EachBearsPillar$Mind", "isBorne", "()Z"⟩ "EachBearsPillar"), (90, Cond.methodLinkNest "EachBearsPillar" 197 ⟨"EachBearsPillar$Mind", "stand", "()V"⟩ "EachBearsPillar"), (115, Cond.methodLinkNest "EachBearsPillar" 211 ⟨"EachBearsPillar$Walk", "explore", "()V"⟩ "EachBearsPillar"), (127, Cond.methodLinkNest "EachBearsPillar" 214 ⟨"EachBearsPillar$Walk", "fewestTo", "(I)I"⟩ "EachBearsPillar"), (139, Cond.methodLinkNest "EachBearsPillar" 217 ⟨"EachBearsPillar$Walk", "reachedWithin", "(I)I"⟩ "EachBearsPillar"), (148, Cond.methodLinkNest "EachBearsPillar" 220 ⟨"EachBearsPillar$Walk", "lowestAt", "(II)I"⟩ "EachBearsPillar")]
theorem gq_x_n3_0_ok : gx_nl3 gq_x_n3_0 = true := by decide +kernel
def gq_x_w1_0 : List (Nat × Cond) := [(1, Cond.initialized "EachBearsPillar"), (234, Cond.static ⟨"EachBearsPillar", "cell", "([II)I"⟩), (237, Cond.static ⟨"EachBearsPillar", "setCell", "([III)Z"⟩), (231, Cond.instanceMethod ⟨"EachBearsPillar", "refuse", "(I)I"⟩), (4, Cond.initialized "EachBearsPillar$Text"), (226, Cond.instanceMethod ⟨"EachBearsPillar", "letter", "(I)I"⟩), (227, Cond.selects "EachBearsPillar" ⟨"EachBearsPillar", "letter", "(I)I"⟩ ⟨"EachBearsPillar", "letter", "(I)I"⟩), (8, Cond.initialized "java/lang/String"), (2, Cond.initialized "EachBearsPillar$Roof"), (3, Cond.initialized "EachBearsPillar$Mind"), (6, Cond.initialized "EachBearsPillar$Orders"), (13, Cond.initialized "java/lang/Integer"), (5, Cond.initialized "EachBearsPillar$Walk"), (87, Cond.fieldLink "EachBearsPillar$Mind" 15 "EachBearsPillar$Mind" "at" "I"), (89, Cond.fieldLink "EachBearsPillar$Mind" 19 "EachBearsPillar$Mind" "level" "I"), (92, Cond.fieldLink "EachBearsPillar$Mind" 22 "EachBearsPillar$Mind" "idle" "I"), (94, Cond.fieldLink "EachBearsPillar$Mind" 25 "EachBearsPillar$Mind" "who" "[I"), (96, Cond.fieldLink "EachBearsPillar$Mind" 29 "EachBearsPillar$Mind" "raised" "[I"), (98, Cond.fieldLink "EachBearsPillar$Mind" 32 "EachBearsPillar$Mind" "weight" "[I"), (101, Cond.fieldLink "EachBearsPillar$Mind" 35 "EachBearsPillar$Mind" "bearing" "[I"), (103, Cond.fieldLink "EachBearsPillar$Mind" 38 "EachBearsPillar$Mind" "might" "[I"), (104, Cond.fieldLink "EachBearsPillar$Mind" 41 "EachBearsPillar$Mind" "load" "[I"), (84, Cond.fieldLink "EachBearsPillar$Mind" 9 "EachBearsPillar$Mind" "roof" "LEachBearsPillar$Roof;"), (182, Cond.fieldLink "EachBearsPillar$Orders" 15 "EachBearsPillar$Orders" "most" "[I"), (183, Cond.fieldLink "EachBearsPillar$Orders" 19 "EachBearsPillar$Orders" "ways" "[I"), (181, Cond.fieldLink "EachBearsPillar$Orders" 9 "EachBearsPillar$Orders" "mind" "LEachBearsPillar$Mind;"), (32, Cond.fieldLink "EachBearsPillar$Roof" 15 "EachBearsPillar$Roof" "at" "I"), (36, Cond.fieldLink "EachBearsPillar$Roof" 18 "EachBearsPillar$Roof" "level" "I"), (40, Cond.fieldLink "EachBearsPillar$Roof" 21 "EachBearsPillar$Roof" "kind" "[I"), (43, Cond.fieldLink "EachBearsPillar$Roof" 25 "EachBearsPillar$Roof" "strength" "[I")]
theorem gq_x_w1_0_ok : gx_wl1 gq_x_w1_0 = true := by decide +kernel
def gq_x_w1_1 : List (Nat × Cond) := [(46, Cond.fieldLink "EachBearsPillar$Roof" 28 "EachBearsPillar$Roof" "height" "[I"), (49, Cond.fieldLink "EachBearsPillar$Roof" 31 "EachBearsPillar$Roof" "block" "[I"), (52, Cond.fieldLink "EachBearsPillar$Roof" 34 "EachBearsPillar$Roof" "weight" "[I"), (55, Cond.fieldLink "EachBearsPillar$Roof" 37 "EachBearsPillar$Roof" "ground" "[I"), (28, Cond.fieldLink "EachBearsPillar$Roof" 9 "EachBearsPillar$Roof" "bearers" "I"), (134, Cond.fieldLink "EachBearsPillar$Text" 15 "EachBearsPillar$Text" "length" "I"), (136, Cond.fieldLink "EachBearsPillar$Text" 19 "EachBearsPillar$Text" "place" "I"), (138, Cond.fieldLink "EachBearsPillar$Text" 22 "EachBearsPillar$Text" "opener" "I"), (140, Cond.fieldLink "EachBearsPillar$Text" 25 "EachBearsPillar$Text" "numbers" "[I"), (142, Cond.fieldLink "EachBearsPillar$Text" 28 "EachBearsPillar$Text" "numbersRead" "I"), (133, Cond.fieldLink "EachBearsPillar$Text" 9 "EachBearsPillar$Text" "letters" "[I"), (163, Cond.fieldLink "EachBearsPillar$Walk" 15 "EachBearsPillar$Walk" "minutes" "[I"), (164, Cond.fieldLink "EachBearsPillar$Walk" 19 "EachBearsPillar$Walk" "queue" "[I"), (165, Cond.fieldLink "EachBearsPillar$Walk" 22 "EachBearsPillar$Walk" "queued" "I"), (162, Cond.fieldLink "EachBearsPillar$Walk" 9 "EachBearsPillar$Walk" "mind" "LEachBearsPillar$Mind;"), (191, Cond.fieldLink "EachBearsPillar" 10 "EachBearsPillar" "now" "LEachBearsPillar$Roof;"), (192, Cond.fieldLink "EachBearsPillar" 16 "EachBearsPillar" "draft" "LEachBearsPillar$Roof;"), (193, Cond.fieldLink "EachBearsPillar" 19 "EachBearsPillar" "kept" "LEachBearsPillar$Roof;"), (194, Cond.fieldLink "EachBearsPillar" 22 "EachBearsPillar" "hasImage" "Z"), (195, Cond.fieldLink "EachBearsPillar" 31 "EachBearsPillar" "mind" "LEachBearsPillar$Mind;"), (196, Cond.fieldLink "EachBearsPillar" 38 "EachBearsPillar" "text" "LEachBearsPillar$Text;"), (197, Cond.fieldLink "EachBearsPillar" 47 "EachBearsPillar" "walk" "LEachBearsPillar$Walk;"), (198, Cond.fieldLink "EachBearsPillar" 54 "EachBearsPillar" "standing" "LEachBearsPillar$Orders;"), (199, Cond.fieldLink "EachBearsPillar" 58 "EachBearsPillar" "told" "[I"), (200, Cond.fieldLink "EachBearsPillar" 62 "EachBearsPillar" "toldLength" "I"), (201, Cond.fieldLink "EachBearsPillar" 66 "EachBearsPillar" "refused" "[I"), (233, Cond.methodLink "EachBearsPillar" 125 ⟨"EachBearsPillar", "cell", "([II)I"⟩), (236, Cond.methodLink "EachBearsPillar" 174 ⟨"EachBearsPillar", "setCell", "([III)Z"⟩), (229, Cond.methodLink "EachBearsPillar" 69 ⟨"EachBearsPillar", "refuse", "(I)I"⟩), (12, Cond.initialized "java/lang/Math")]
theorem gq_x_w1_1_ok : gx_wl1 gq_x_w1_1 = true := by decide +kernel
def gq_x_w2_0 : List (Nat × Cond) := [(1, Cond.instanceMethod ⟨"EachBearsPillar$Text", "append", "(I)I"⟩), (14, Cond.instanceMethod ⟨"EachBearsPillar$Text", "rewind", "()V"⟩), (22, Cond.instanceMethod ⟨"EachBearsPillar$Text", "here", "()I"⟩), (26, Cond.static ⟨"EachBearsPillar$Text", "formOf", "(I)Ljava/lang/String;"⟩), (35, Cond.instanceMethod ⟨"java/lang/String", "isEmpty", "()Z"⟩), (36, Cond.selects "java/lang/String" ⟨"java/lang/String", "isEmpty", "()Z"⟩ ⟨"java/lang/String", "isEmpty", "()Z"⟩), (39, Cond.instanceMethod ⟨"java/lang/String", "length", "()I"⟩), (40, Cond.selects "java/lang/String" ⟨"java/lang/String", "length", "()I"⟩ ⟨"java/lang/String", "length", "()I"⟩), (49, Cond.instanceMethod ⟨"java/lang/String", "charAt", "(I)C"⟩), (50, Cond.selects "java/lang/String" ⟨"java/lang/String", "charAt", "(I)C"⟩ ⟨"java/lang/String", "charAt", "(I)C"⟩), (97, Cond.instanceMethod ⟨"EachBearsPillar$Text", "keepNumber", "(I)V"⟩), (101, Cond.instanceMethod ⟨"EachBearsPillar$Text", "readNumber", "(I)Z"⟩), (92, Cond.instanceMethod ⟨"EachBearsPillar$Text", "readKind", "()Z"⟩), (88, Cond.instanceMethod ⟨"EachBearsPillar$Text", "readPart", "(C)Z"⟩), (18, Cond.instanceMethod ⟨"EachBearsPillar$Text", "readStatement", "()Z"⟩), (10, Cond.instanceMethod ⟨"EachBearsPillar$Text", "faultOfForm", "()I"⟩), (112, Cond.static ⟨"EachBearsPillar", "copyCells", "([I[I)V"⟩), (109, Cond.instanceMethod ⟨"EachBearsPillar$Roof", "become", "(LEachBearsPillar$Roof;)V"⟩), (122, Cond.instanceMethod ⟨"EachBearsPillar$Roof", "addBearer", "(III)Z"⟩), (130, Cond.instanceMethod ⟨"EachBearsPillar$Roof", "hasBearer", "(I)Z"⟩), (126, Cond.static ⟨"EachBearsPillar", "isSpan", "(I)Z"⟩), (118, Cond.instanceMethod ⟨"EachBearsPillar", "enterStatement", "()Z"⟩), (105, Cond.instanceMethod ⟨"EachBearsPillar", "enterStatements", "()I"⟩), (5, Cond.instanceMethod ⟨"EachBearsPillar", "roof", "()I"⟩), (6, Cond.selects "EachBearsPillar" ⟨"EachBearsPillar", "roof", "()I"⟩ ⟨"EachBearsPillar", "roof", "()I"⟩), (138, Cond.static ⟨"EachBearsPillar", "exchange", "([III)I"⟩), (134, Cond.instanceMethod ⟨"EachBearsPillar", "span", "(II)I"⟩), (135, Cond.selects "EachBearsPillar" ⟨"EachBearsPillar", "span", "(II)I"⟩ ⟨"EachBearsPillar", "span", "(II)I"⟩), (141, Cond.instanceMethod ⟨"EachBearsPillar", "ground", "(II)I"⟩), (142, Cond.selects "EachBearsPillar" ⟨"EachBearsPillar", "ground", "(II)I"⟩ ⟨"EachBearsPillar", "ground", "(II)I"⟩)]
theorem gq_x_w2_0_ok : gx_wl2 gq_x_w2_0 = true := by decide +kernel
def gq_x_w2_1 : List (Nat × Cond) := [(145, Cond.instanceMethod ⟨"EachBearsPillar", "level", "(I)I"⟩), (146, Cond.selects "EachBearsPillar" ⟨"EachBearsPillar", "level", "(I)I"⟩ ⟨"EachBearsPillar", "level", "(I)I"⟩), (149, Cond.instanceMethod ⟨"EachBearsPillar", "block", "(II)I"⟩), (150, Cond.selects "EachBearsPillar" ⟨"EachBearsPillar", "block", "(II)I"⟩ ⟨"EachBearsPillar", "block", "(II)I"⟩), (158, Cond.instanceMethod ⟨"EachBearsPillar$Roof", "lastAt", "()I"⟩), (153, Cond.instanceMethod ⟨"EachBearsPillar", "at", "(I)I"⟩), (154, Cond.selects "EachBearsPillar" ⟨"EachBearsPillar", "at", "(I)I"⟩ ⟨"EachBearsPillar", "at", "(I)I"⟩), (166, Cond.instanceMethod ⟨"EachBearsPillar$Mind", "asTold", "()V"⟩), (172, Cond.instanceMethod ⟨"EachBearsPillar$Mind", "topOf", "(II)I"⟩), (177, Cond.instanceMethod ⟨"EachBearsPillar$Mind", "canBear", "(II)Z"⟩), (181, Cond.instanceMethod ⟨"EachBearsPillar$Mind", "mightOf", "(II)I"⟩), (161, Cond.instanceMethod ⟨"EachBearsPillar", "bearer", "(II)I"⟩), (162, Cond.selects "EachBearsPillar" ⟨"EachBearsPillar", "bearer", "(II)I"⟩ ⟨"EachBearsPillar", "bearer", "(II)I"⟩), (196, Cond.instanceMethod ⟨"EachBearsPillar$Mind", "stand", "()V"⟩), (207, Cond.instanceMethod ⟨"EachBearsPillar$Mind", "shareOf", "(II)I"⟩), (203, Cond.instanceMethod ⟨"EachBearsPillar$Mind", "weigh", "()V"⟩), (192, Cond.instanceMethod ⟨"EachBearsPillar$Mind", "standAndWeigh", "()V"⟩), (187, Cond.instanceMethod ⟨"EachBearsPillar", "load", "(I)I"⟩), (188, Cond.selects "EachBearsPillar" ⟨"EachBearsPillar", "load", "(I)I"⟩ ⟨"EachBearsPillar", "load", "(I)I"⟩), (227, Cond.instanceMethod ⟨"EachBearsPillar$Mind", "firstOverloaded", "()I"⟩), (231, Cond.instanceMethod ⟨"EachBearsPillar$Mind", "firstFalling", "()I"⟩), (223, Cond.instanceMethod ⟨"EachBearsPillar$Mind", "isBorne", "()Z"⟩), (219, Cond.instanceMethod ⟨"EachBearsPillar$Mind", "isFirm", "()Z"⟩), (214, Cond.instanceMethod ⟨"EachBearsPillar", "holds", "()I"⟩), (215, Cond.selects "EachBearsPillar" ⟨"EachBearsPillar", "holds", "()I"⟩ ⟨"EachBearsPillar", "holds", "()I"⟩), (234, Cond.instanceMethod ⟨"EachBearsPillar", "sag", "()I"⟩), (235, Cond.selects "EachBearsPillar" ⟨"EachBearsPillar", "sag", "()I"⟩ ⟨"EachBearsPillar", "sag", "()I"⟩), (201, Cond.methodLink "EachBearsPillar$Mind" 101 ⟨"EachBearsPillar$Mind", "weigh", "()V"⟩), (225, Cond.methodLink "EachBearsPillar$Mind" 111 ⟨"EachBearsPillar$Mind", "firstOverloaded", "()I"⟩), (229, Cond.methodLink "EachBearsPillar$Mind" 115 ⟨"EachBearsPillar$Mind", "firstFalling", "()I"⟩)]
theorem gq_x_w2_1_ok : gx_wl2 gq_x_w2_1 = true := by decide +kernel
def gq_x_w2_2 : List (Nat × Cond) := [(221, Cond.methodLink "EachBearsPillar$Mind" 118 ⟨"EachBearsPillar$Mind", "isBorne", "()Z"⟩), (198, Cond.methodLink "EachBearsPillar$Mind" 85 ⟨"EachBearsPillar$Mind", "topOf", "(II)I"⟩), (199, Cond.methodLink "EachBearsPillar$Mind" 88 ⟨"EachBearsPillar$Mind", "canBear", "(II)Z"⟩), (200, Cond.methodLink "EachBearsPillar$Mind" 92 ⟨"EachBearsPillar$Mind", "mightOf", "(II)I"⟩), (205, Cond.methodLink "EachBearsPillar$Mind" 95 ⟨"EachBearsPillar$Mind", "shareOf", "(II)I"⟩), (194, Cond.methodLink "EachBearsPillar$Mind" 98 ⟨"EachBearsPillar$Mind", "stand", "()V"⟩), (12, Cond.methodLink "EachBearsPillar$Text" 35 ⟨"EachBearsPillar$Text", "rewind", "()V"⟩), (16, Cond.methodLink "EachBearsPillar$Text" 38 ⟨"EachBearsPillar$Text", "readStatement", "()Z"⟩), (20, Cond.methodLink "EachBearsPillar$Text" 42 ⟨"EachBearsPillar$Text", "here", "()I"⟩), (25, Cond.methodLink "EachBearsPillar$Text" 46 ⟨"EachBearsPillar$Text", "formOf", "(I)Ljava/lang/String;"⟩), (34, Cond.methodLink "EachBearsPillar$Text" 50 ⟨"java/lang/String", "isEmpty", "()Z"⟩), (38, Cond.methodLink "EachBearsPillar$Text" 55 ⟨"java/lang/String", "length", "()I"⟩), (48, Cond.methodLink "EachBearsPillar$Text" 57 ⟨"java/lang/String", "charAt", "(I)C"⟩), (86, Cond.methodLink "EachBearsPillar$Text" 61 ⟨"EachBearsPillar$Text", "readPart", "(C)Z"⟩), (90, Cond.methodLink "EachBearsPillar$Text" 77 ⟨"EachBearsPillar$Text", "readKind", "()Z"⟩), (99, Cond.methodLink "EachBearsPillar$Text" 80 ⟨"EachBearsPillar$Text", "readNumber", "(I)Z"⟩), (95, Cond.methodLink "EachBearsPillar$Text" 86 ⟨"EachBearsPillar$Text", "keepNumber", "(I)V"⟩), (116, Cond.methodLink "EachBearsPillar" 235 ⟨"EachBearsPillar", "enterStatement", "()Z"⟩), (103, Cond.methodLink "EachBearsPillar" 83 ⟨"EachBearsPillar", "enterStatements", "()I"⟩), (125, Cond.methodLink "EachBearsPillar" 86 ⟨"EachBearsPillar", "isSpan", "(I)Z"⟩), (137, Cond.methodLink "EachBearsPillar" 93 ⟨"EachBearsPillar", "exchange", "([III)I"⟩), (210, Cond.methodLink "EachBearsPillar$Mind" 108 ⟨"java/lang/Math", "min", "(II)I"⟩), (183, Cond.methodLink "EachBearsPillar$Mind" 76 ⟨"java/lang/Math", "max", "(II)I"⟩), (211, Cond.static ⟨"java/lang/Math", "min", "(II)I"⟩), (184, Cond.static ⟨"java/lang/Math", "max", "(II)I"⟩)]
theorem gq_x_w2_2_ok : gx_wl2 gq_x_w2_2 = true := by decide +kernel
def gq_x_w3_0 : List (Nat × Cond) := [(4, Cond.static ⟨"EachBearsPillar", "sumOf", "([II)I"⟩), (0, Cond.instanceMethod ⟨"EachBearsPillar", "count", "(I)I"⟩), (1, Cond.selects "EachBearsPillar" ⟨"EachBearsPillar", "count", "(I)I"⟩ ⟨"EachBearsPillar", "count", "(I)I"⟩), (7, Cond.instanceMethod ⟨"EachBearsPillar", "levels", "()I"⟩), (8, Cond.selects "EachBearsPillar" ⟨"EachBearsPillar", "levels", "()I"⟩ ⟨"EachBearsPillar", "levels", "()I"⟩), (20, Cond.instanceMethod ⟨"EachBearsPillar", "raise", "(I)I"⟩), (16, Cond.instanceMethod ⟨"EachBearsPillar", "raiseBoth", "(II)I"⟩), (11, Cond.instanceMethod ⟨"EachBearsPillar", "blocks", "()I"⟩), (12, Cond.selects "EachBearsPillar" ⟨"EachBearsPillar", "blocks", "()I"⟩ ⟨"EachBearsPillar", "blocks", "()I"⟩), (23, Cond.instanceMethod ⟨"EachBearsPillar", "swap", "()I"⟩), (24, Cond.selects "EachBearsPillar" ⟨"EachBearsPillar", "swap", "()I"⟩ ⟨"EachBearsPillar", "swap", "()I"⟩), (39, Cond.static ⟨"EachBearsPillar$Orders", "spotOf", "(III)I"⟩), (46, Cond.static ⟨"java/lang/Integer", "bitCount", "(I)I"⟩), (57, Cond.instanceMethod ⟨"EachBearsPillar$Orders", "mostOf", "(II)I"⟩), (53, Cond.instanceMethod ⟨"EachBearsPillar$Orders", "bearsLeft", "(IIII)Z"⟩), (62, Cond.instanceMethod ⟨"EachBearsPillar$Orders", "waysWith", "(IIII)I"⟩), (43, Cond.instanceMethod ⟨"EachBearsPillar$Orders", "waysOn", "(III)I"⟩), (32, Cond.instanceMethod ⟨"EachBearsPillar$Orders", "fill", "()V"⟩), (74, Cond.instanceMethod ⟨"EachBearsPillar$Orders", "leastNext", "(III)I"⟩), (70, Cond.instanceMethod ⟨"EachBearsPillar$Orders", "firstUnder", "(I)I"⟩), (66, Cond.instanceMethod ⟨"EachBearsPillar$Orders", "total", "()I"⟩), (27, Cond.instanceMethod ⟨"EachBearsPillar", "orders", "(I)I"⟩), (28, Cond.selects "EachBearsPillar" ⟨"EachBearsPillar", "orders", "(I)I"⟩ ⟨"EachBearsPillar", "orders", "(I)I"⟩), (77, Cond.instanceMethod ⟨"EachBearsPillar", "needed", "()I"⟩), (78, Cond.selects "EachBearsPillar" ⟨"EachBearsPillar", "needed", "()I"⟩ ⟨"EachBearsPillar", "needed", "()I"⟩), (81, Cond.instanceMethod ⟨"EachBearsPillar", "more", "(I)I"⟩), (82, Cond.selects "EachBearsPillar" ⟨"EachBearsPillar", "more", "(I)I"⟩ ⟨"EachBearsPillar", "more", "(I)I"⟩), (87, Cond.instanceMethod ⟨"EachBearsPillar", "seeds", "(II)I"⟩), (88, Cond.selects "EachBearsPillar" ⟨"EachBearsPillar", "seeds", "(II)I"⟩ ⟨"EachBearsPillar", "seeds", "(II)I"⟩), (95, Cond.instanceMethod ⟨"EachBearsPillar", "row", "(I)I"⟩)]
theorem gq_x_w3_0_ok : gx_wl3 gq_x_w3_0 = true := by decide +kernel
def gq_x_w3_1 : List (Nat × Cond) := [(96, Cond.selects "EachBearsPillar" ⟨"EachBearsPillar", "row", "(I)I"⟩ ⟨"EachBearsPillar", "row", "(I)I"⟩), (104, Cond.instanceMethod ⟨"EachBearsPillar", "firstUntrue", "()I"⟩), (99, Cond.instanceMethod ⟨"EachBearsPillar", "slacked", "()I"⟩), (100, Cond.selects "EachBearsPillar" ⟨"EachBearsPillar", "slacked", "()I"⟩ ⟨"EachBearsPillar", "slacked", "()I"⟩), (107, Cond.instanceMethod ⟨"EachBearsPillar", "judge", "()I"⟩), (108, Cond.selects "EachBearsPillar" ⟨"EachBearsPillar", "judge", "()I"⟩ ⟨"EachBearsPillar", "judge", "()I"⟩), (122, Cond.instanceMethod ⟨"EachBearsPillar$Walk", "visit", "(III)V"⟩), (117, Cond.instanceMethod ⟨"EachBearsPillar$Walk", "explore", "()V"⟩), (133, Cond.instanceMethod ⟨"EachBearsPillar$Walk", "minutesTo", "(II)I"⟩), (129, Cond.instanceMethod ⟨"EachBearsPillar$Walk", "fewestTo", "(I)I"⟩), (112, Cond.instanceMethod ⟨"EachBearsPillar", "way", "(I)I"⟩), (113, Cond.selects "EachBearsPillar" ⟨"EachBearsPillar", "way", "(I)I"⟩ ⟨"EachBearsPillar", "way", "(I)I"⟩), (141, Cond.instanceMethod ⟨"EachBearsPillar$Walk", "reachedWithin", "(I)I"⟩), (136, Cond.instanceMethod ⟨"EachBearsPillar", "reach", "(I)I"⟩), (137, Cond.selects "EachBearsPillar" ⟨"EachBearsPillar", "reach", "(I)I"⟩ ⟨"EachBearsPillar", "reach", "(I)I"⟩), (150, Cond.instanceMethod ⟨"EachBearsPillar$Walk", "lowestAt", "(II)I"⟩), (145, Cond.instanceMethod ⟨"EachBearsPillar", "lowest", "(II)I"⟩), (146, Cond.selects "EachBearsPillar" ⟨"EachBearsPillar", "lowest", "(II)I"⟩ ⟨"EachBearsPillar", "lowest", "(II)I"⟩), (153, Cond.instanceMethod ⟨"EachBearsPillar", "image", "()I"⟩), (154, Cond.selects "EachBearsPillar" ⟨"EachBearsPillar", "image", "()I"⟩ ⟨"EachBearsPillar", "image", "()I"⟩), (157, Cond.instanceMethod ⟨"EachBearsPillar", "on", "()I"⟩), (158, Cond.selects "EachBearsPillar" ⟨"EachBearsPillar", "on", "()I"⟩ ⟨"EachBearsPillar", "on", "()I"⟩), (38, Cond.methodLink "EachBearsPillar$Orders" 49 ⟨"EachBearsPillar$Orders", "spotOf", "(III)I"⟩), (41, Cond.methodLink "EachBearsPillar$Orders" 53 ⟨"EachBearsPillar$Orders", "waysOn", "(III)I"⟩), (45, Cond.methodLink "EachBearsPillar$Orders" 60 ⟨"java/lang/Integer", "bitCount", "(I)I"⟩), (51, Cond.methodLink "EachBearsPillar$Orders" 66 ⟨"EachBearsPillar$Orders", "bearsLeft", "(IIII)Z"⟩), (60, Cond.methodLink "EachBearsPillar$Orders" 70 ⟨"EachBearsPillar$Orders", "waysWith", "(IIII)I"⟩), (55, Cond.methodLink "EachBearsPillar$Orders" 77 ⟨"EachBearsPillar$Orders", "mostOf", "(II)I"⟩), (72, Cond.methodLink "EachBearsPillar$Orders" 80 ⟨"EachBearsPillar$Orders", "leastNext", "(III)I"⟩), (120, Cond.methodLink "EachBearsPillar$Walk" 44 ⟨"EachBearsPillar$Walk", "visit", "(III)V"⟩)]
theorem gq_x_w3_1_ok : gx_wl3 gq_x_w3_1 = true := by decide +kernel
def gq_x_w3_2 : List (Nat × Cond) := [(131, Cond.methodLink "EachBearsPillar$Walk" 62 ⟨"EachBearsPillar$Walk", "minutesTo", "(II)I"⟩), (143, Cond.methodLink "EachBearsPillar$Walk" 66 ⟨"EachBearsPillar$Walk", "fewestTo", "(I)I"⟩), (3, Cond.methodLink "EachBearsPillar" 161 ⟨"EachBearsPillar", "sumOf", "([II)I"⟩), (14, Cond.methodLink "EachBearsPillar" 168 ⟨"EachBearsPillar", "raiseBoth", "(II)I"⟩), (102, Cond.methodLink "EachBearsPillar" 203 ⟨"EachBearsPillar", "firstUntrue", "()I"⟩), (18, Cond.methodLink "EachBearsPillar" 248 ⟨"EachBearsPillar", "raise", "(I)I"⟩), (91, Cond.constant "EachBearsPillar" 200 1664525), (92, Cond.constant "EachBearsPillar" 201 1013904223), (93, Cond.constant "EachBearsPillar" 202 2147483647), (48, Cond.constant "java/lang/Integer" 265 1431655765), (49, Cond.constant "java/lang/Integer" 266 858993459), (50, Cond.constant "java/lang/Integer" 267 252645135), (110, Cond.methodLink "EachBearsPillar" 206 ⟨"java/lang/Math", "min", "(II)I"⟩)]
theorem gq_x_w3_2_ok : gx_wl3 gq_x_w3_2 = true := by decide +kernel
theorem mo_x_E_cell : gx_mo mi_x_E_cell 2 := ⟨(gx_ic1 (i := 235) rfl rfl), (gx_wb1 gq_x_w1_0_ok 0 rfl), ⟨by decide, by decide⟩, by decide +kernel, rfl, rfl⟩
theorem ms_x_E_cell : gx_ms mi_x_E_cell := (gx_wb1 gq_x_w1_0_ok 1 rfl)
theorem mo_x_E_setCell : gx_mo mi_x_E_setCell 3 := ⟨(gx_ic1 (i := 238) rfl rfl), (gx_wb1 gq_x_w1_0_ok 0 rfl), ⟨by decide, by decide⟩, by decide +kernel, rfl, rfl⟩
theorem ms_x_E_setCell : gx_ms mi_x_E_setCell := (gx_wb1 gq_x_w1_0_ok 2 rfl)
theorem mo_x_E_refuse : gx_mo mi_x_E_refuse 1 := ⟨(gx_ic1 (i := 232) rfl rfl), (gx_wb1 gq_x_w1_0_ok 0 rfl), ⟨by decide, by decide⟩, by decide +kernel, rfl, rfl⟩
theorem mv_x_E_refuse : gx_mv mi_x_E_refuse := ⟨(gx_wb1 gq_x_w1_0_ok 3 rfl), (gx_sb (i := 0) (n := 11) rfl)⟩
theorem mo_x_T_append : gx_mo mi_x_T_append 1 := ⟨(gx_ic2 (i := 2) rfl rfl), (gx_wb1 gq_x_w1_0_ok 4 rfl), ⟨by decide, by decide⟩, by decide +kernel, rfl, rfl⟩
theorem mv_x_T_append : gx_mv mi_x_T_append := ⟨(gx_wb2 gq_x_w2_0_ok 0 rfl), (gx_sb (i := 1) (n := 6) rfl)⟩
theorem mo_x_E_letter : gx_mo mi_x_E_letter 1 := ⟨(gx_ic1 (i := 228) rfl rfl), (gx_wb1 gq_x_w1_0_ok 0 rfl), ⟨by decide, by decide⟩, by decide +kernel, rfl, rfl⟩
theorem mv_x_E_letter : gx_mv mi_x_E_letter := ⟨(gx_wb1 gq_x_w1_0_ok 5 rfl), (gx_wb1 gq_x_w1_0_ok 6 rfl)⟩
theorem mo_x_T_rewind : gx_mo mi_x_T_rewind 0 := ⟨(gx_ic2 (i := 15) rfl rfl), (gx_wb1 gq_x_w1_0_ok 4 rfl), ⟨by decide, by decide⟩, by decide +kernel, rfl, rfl⟩
theorem mv_x_T_rewind : gx_mv mi_x_T_rewind := ⟨(gx_wb2 gq_x_w2_0_ok 1 rfl), (gx_sb (i := 3) (n := 6) rfl)⟩
theorem mo_x_T_here : gx_mo mi_x_T_here 0 := ⟨(gx_ic2 (i := 23) rfl rfl), (gx_wb1 gq_x_w1_0_ok 4 rfl), ⟨by decide, by decide⟩, by decide +kernel, rfl, rfl⟩
theorem mv_x_T_here : gx_mv mi_x_T_here := ⟨(gx_wb2 gq_x_w2_0_ok 2 rfl), (gx_sb (i := 5) (n := 6) rfl)⟩
theorem mo_x_T_formOf : gx_mo mi_x_T_formOf 1 := ⟨(gx_ic2 (i := 27) rfl rfl), (gx_wb1 gq_x_w1_0_ok 4 rfl), ⟨by decide, by decide⟩, by decide +kernel, rfl, rfl⟩
theorem ms_x_T_formOf : gx_ms mi_x_T_formOf := (gx_wb2 gq_x_w2_0_ok 3 rfl)
theorem mo_x_S_isEmpty : gx_mo mi_x_S_isEmpty 0 := ⟨(gx_ic2 (i := 37) rfl rfl), (gx_wb1 gq_x_w1_0_ok 7 rfl), ⟨by decide, by decide⟩, by decide +kernel, rfl, rfl⟩
theorem mv_x_S_isEmpty : gx_mv mi_x_S_isEmpty := ⟨(gx_wb2 gq_x_w2_0_ok 4 rfl), (gx_wb2 gq_x_w2_0_ok 5 rfl)⟩
theorem mo_x_S_length : gx_mo mi_x_S_length 0 := ⟨(gx_ic2 (i := 41) rfl rfl), (gx_wb1 gq_x_w1_0_ok 7 rfl), ⟨by decide, by decide⟩, by decide +kernel, rfl, rfl⟩
theorem mv_x_S_length : gx_mv mi_x_S_length := ⟨(gx_wb2 gq_x_w2_0_ok 6 rfl), (gx_wb2 gq_x_w2_0_ok 7 rfl)⟩
theorem mo_x_S_charAt : gx_mo mi_x_S_charAt 1 := ⟨(gx_ic2 (i := 51) rfl rfl), (gx_wb1 gq_x_w1_0_ok 7 rfl), ⟨by decide, by decide⟩, by decide +kernel, rfl, rfl⟩
theorem mv_x_S_charAt : gx_mv mi_x_S_charAt := ⟨(gx_wb2 gq_x_w2_0_ok 8 rfl), (gx_wb2 gq_x_w2_0_ok 9 rfl)⟩
theorem mo_x_T_keepNumber : gx_mo mi_x_T_keepNumber 1 := ⟨(gx_ic2 (i := 98) rfl rfl), (gx_wb1 gq_x_w1_0_ok 4 rfl), ⟨by decide, by decide⟩, by decide +kernel, rfl, rfl⟩
theorem mv_x_T_keepNumber : gx_mv mi_x_T_keepNumber := ⟨(gx_wb2 gq_x_w2_0_ok 10 rfl), (gx_sb (i := 8) (n := 6) rfl)⟩
theorem mo_x_T_readNumber : gx_mo mi_x_T_readNumber 1 := ⟨(gx_ic2 (i := 102) rfl rfl), (gx_wb1 gq_x_w1_0_ok 4 rfl), ⟨by decide, by decide⟩, by decide +kernel, rfl, rfl⟩
theorem mv_x_T_readNumber : gx_mv mi_x_T_readNumber := ⟨(gx_wb2 gq_x_w2_0_ok 11 rfl), (gx_sb (i := 9) (n := 6) rfl)⟩
theorem mo_x_T_readKind : gx_mo mi_x_T_readKind 0 := ⟨(gx_ic2 (i := 93) rfl rfl), (gx_wb1 gq_x_w1_0_ok 4 rfl), ⟨by decide, by decide⟩, by decide +kernel, rfl, rfl⟩
theorem mv_x_T_readKind : gx_mv mi_x_T_readKind := ⟨(gx_wb2 gq_x_w2_0_ok 12 rfl), (gx_sb (i := 7) (n := 6) rfl)⟩
theorem mo_x_T_readPart : gx_mo mi_x_T_readPart 1 := ⟨(gx_ic2 (i := 89) rfl rfl), (gx_wb1 gq_x_w1_0_ok 4 rfl), ⟨by decide, by decide⟩, by decide +kernel, rfl, rfl⟩
theorem mv_x_T_readPart : gx_mv mi_x_T_readPart := ⟨(gx_wb2 gq_x_w2_0_ok 13 rfl), (gx_sb (i := 6) (n := 6) rfl)⟩
theorem mo_x_T_readStatement : gx_mo mi_x_T_readStatement 0 := ⟨(gx_ic2 (i := 19) rfl rfl), (gx_wb1 gq_x_w1_0_ok 4 rfl), ⟨by decide, by decide⟩, by decide +kernel, rfl, rfl⟩
theorem mv_x_T_readStatement : gx_mv mi_x_T_readStatement := ⟨(gx_wb2 gq_x_w2_0_ok 14 rfl), (gx_sb (i := 4) (n := 6) rfl)⟩
theorem mo_x_T_faultOfForm : gx_mo mi_x_T_faultOfForm 0 := ⟨(gx_ic2 (i := 11) rfl rfl), (gx_wb1 gq_x_w1_0_ok 4 rfl), ⟨by decide, by decide⟩, by decide +kernel, rfl, rfl⟩
theorem mv_x_T_faultOfForm : gx_mv mi_x_T_faultOfForm := ⟨(gx_wb2 gq_x_w2_0_ok 15 rfl), (gx_sb (i := 2) (n := 6) rfl)⟩
theorem mo_x_E_copyCells : gx_mo mi_x_E_copyCells 2 := ⟨(gx_ic2 (i := 113) rfl rfl), (gx_wb1 gq_x_w1_0_ok 0 rfl), ⟨by decide, by decide⟩, by decide +kernel, rfl, rfl⟩
theorem ms_x_E_copyCells : gx_ms mi_x_E_copyCells := (gx_wb2 gq_x_w2_0_ok 16 rfl)
theorem mo_x_R_become_8_1 : gx_mo mi_x_R_become_8_1 1 := ⟨(gx_ic2 (i := 110) rfl rfl), (gx_wb1 gq_x_w1_0_ok 8 rfl), ⟨by decide, by decide⟩, by decide +kernel, rfl, rfl⟩
theorem mv_x_R_become_8_1 : gx_mv mi_x_R_become_8_1 := ⟨(gx_wb2 gq_x_w2_0_ok 17 rfl), (gx_sb (i := 11) (n := 9) rfl)⟩
theorem mo_x_R_become_1_8 : gx_mo mi_x_R_become_1_8 1 := ⟨(gx_ic2 (i := 110) rfl rfl), (gx_wb1 gq_x_w1_0_ok 8 rfl), ⟨by decide, by decide⟩, by decide +kernel, rfl, rfl⟩
theorem mv_x_R_become_1_8 : gx_mv mi_x_R_become_1_8 := ⟨(gx_wb2 gq_x_w2_0_ok 17 rfl), (gx_sb (i := 11) (n := 9) rfl)⟩
theorem mo_x_R_addBearer_8 : gx_mo mi_x_R_addBearer_8 3 := ⟨(gx_ic2 (i := 123) rfl rfl), (gx_wb1 gq_x_w1_0_ok 8 rfl), ⟨by decide, by decide⟩, by decide +kernel, rfl, rfl⟩
theorem mv_x_R_addBearer_8 : gx_mv mi_x_R_addBearer_8 := ⟨(gx_wb2 gq_x_w2_0_ok 18 rfl), (gx_sb (i := 13) (n := 9) rfl)⟩
theorem mo_x_R_hasBearer_8 : gx_mo mi_x_R_hasBearer_8 1 := ⟨(gx_ic2 (i := 131) rfl rfl), (gx_wb1 gq_x_w1_0_ok 8 rfl), ⟨by decide, by decide⟩, by decide +kernel, rfl, rfl⟩
theorem mv_x_R_hasBearer_8 : gx_mv mi_x_R_hasBearer_8 := ⟨(gx_wb2 gq_x_w2_0_ok 19 rfl), (gx_sb (i := 14) (n := 9) rfl)⟩
theorem mo_x_E_isSpan : gx_mo mi_x_E_isSpan 1 := ⟨(gx_ic2 (i := 127) rfl rfl), (gx_wb1 gq_x_w1_0_ok 0 rfl), ⟨by decide, by decide⟩, by decide +kernel, rfl, rfl⟩
theorem ms_x_E_isSpan : gx_ms mi_x_E_isSpan := (gx_wb2 gq_x_w2_0_ok 20 rfl)
theorem mo_x_E_enterStatement : gx_mo mi_x_E_enterStatement 0 := ⟨(gx_ic2 (i := 119) rfl rfl), (gx_wb1 gq_x_w1_0_ok 0 rfl), ⟨by decide, by decide⟩, by decide +kernel, rfl, rfl⟩
theorem mv_x_E_enterStatement : gx_mv mi_x_E_enterStatement := ⟨(gx_wb2 gq_x_w2_0_ok 21 rfl), (gx_sb (i := 12) (n := 11) rfl)⟩
theorem mo_x_E_enterStatements : gx_mo mi_x_E_enterStatements 0 := ⟨(gx_ic2 (i := 106) rfl rfl), (gx_wb1 gq_x_w1_0_ok 0 rfl), ⟨by decide, by decide⟩, by decide +kernel, rfl, rfl⟩
theorem mv_x_E_enterStatements : gx_mv mi_x_E_enterStatements := ⟨(gx_wb2 gq_x_w2_0_ok 22 rfl), (gx_sb (i := 10) (n := 11) rfl)⟩
theorem mo_x_E_roof : gx_mo mi_x_E_roof 0 := ⟨(gx_ic2 (i := 7) rfl rfl), (gx_wb1 gq_x_w1_0_ok 0 rfl), ⟨by decide, by decide⟩, by decide +kernel, rfl, rfl⟩
theorem mv_x_E_roof : gx_mv mi_x_E_roof := ⟨(gx_wb2 gq_x_w2_0_ok 23 rfl), (gx_wb2 gq_x_w2_0_ok 24 rfl)⟩
theorem mo_x_E_exchange : gx_mo mi_x_E_exchange 3 := ⟨(gx_ic2 (i := 139) rfl rfl), (gx_wb1 gq_x_w1_0_ok 0 rfl), ⟨by decide, by decide⟩, by decide +kernel, rfl, rfl⟩
theorem ms_x_E_exchange : gx_ms mi_x_E_exchange := (gx_wb2 gq_x_w2_0_ok 25 rfl)
theorem mo_x_E_span : gx_mo mi_x_E_span 2 := ⟨(gx_ic2 (i := 136) rfl rfl), (gx_wb1 gq_x_w1_0_ok 0 rfl), ⟨by decide, by decide⟩, by decide +kernel, rfl, rfl⟩
theorem mv_x_E_span : gx_mv mi_x_E_span := ⟨(gx_wb2 gq_x_w2_0_ok 26 rfl), (gx_wb2 gq_x_w2_0_ok 27 rfl)⟩
theorem mo_x_E_ground : gx_mo mi_x_E_ground 2 := ⟨(gx_ic2 (i := 143) rfl rfl), (gx_wb1 gq_x_w1_0_ok 0 rfl), ⟨by decide, by decide⟩, by decide +kernel, rfl, rfl⟩
theorem mv_x_E_ground : gx_mv mi_x_E_ground := ⟨(gx_wb2 gq_x_w2_0_ok 28 rfl), (gx_wb2 gq_x_w2_0_ok 29 rfl)⟩
theorem mo_x_E_level : gx_mo mi_x_E_level 1 := ⟨(gx_ic2 (i := 147) rfl rfl), (gx_wb1 gq_x_w1_0_ok 0 rfl), ⟨by decide, by decide⟩, by decide +kernel, rfl, rfl⟩
theorem mv_x_E_level : gx_mv mi_x_E_level := ⟨(gx_wb2 gq_x_w2_1_ok 0 rfl), (gx_wb2 gq_x_w2_1_ok 1 rfl)⟩
theorem mo_x_R_hasBearer_1 : gx_mo mi_x_R_hasBearer_1 1 := ⟨(gx_ic2 (i := 131) rfl rfl), (gx_wb1 gq_x_w1_0_ok 8 rfl), ⟨by decide, by decide⟩, by decide +kernel, rfl, rfl⟩
theorem mv_x_R_hasBearer_1 : gx_mv mi_x_R_hasBearer_1 := ⟨(gx_wb2 gq_x_w2_0_ok 19 rfl), (gx_sb (i := 14) (n := 9) rfl)⟩
theorem mo_x_E_block : gx_mo mi_x_E_block 2 := ⟨(gx_ic2 (i := 151) rfl rfl), (gx_wb1 gq_x_w1_0_ok 0 rfl), ⟨by decide, by decide⟩, by decide +kernel, rfl, rfl⟩
theorem mv_x_E_block : gx_mv mi_x_E_block := ⟨(gx_wb2 gq_x_w2_1_ok 2 rfl), (gx_wb2 gq_x_w2_1_ok 3 rfl)⟩
theorem mo_x_R_lastAt_1 : gx_mo mi_x_R_lastAt_1 0 := ⟨(gx_ic2 (i := 159) rfl rfl), (gx_wb1 gq_x_w1_0_ok 8 rfl), ⟨by decide, by decide⟩, by decide +kernel, rfl, rfl⟩
theorem mv_x_R_lastAt_1 : gx_mv mi_x_R_lastAt_1 := ⟨(gx_wb2 gq_x_w2_1_ok 4 rfl), (gx_sb (i := 15) (n := 9) rfl)⟩
theorem mo_x_E_at : gx_mo mi_x_E_at 1 := ⟨(gx_ic2 (i := 155) rfl rfl), (gx_wb1 gq_x_w1_0_ok 0 rfl), ⟨by decide, by decide⟩, by decide +kernel, rfl, rfl⟩
theorem mv_x_E_at : gx_mv mi_x_E_at := ⟨(gx_wb2 gq_x_w2_1_ok 5 rfl), (gx_wb2 gq_x_w2_1_ok 6 rfl)⟩
theorem mo_x_M_asTold : gx_mo mi_x_M_asTold 0 := ⟨(gx_ic2 (i := 167) rfl rfl), (gx_wb1 gq_x_w1_0_ok 9 rfl), ⟨by decide, by decide⟩, by decide +kernel, rfl, rfl⟩
theorem mv_x_M_asTold : gx_mv mi_x_M_asTold := ⟨(gx_wb2 gq_x_w2_1_ok 7 rfl), (gx_sb (i := 16) (n := 10) rfl)⟩
theorem mo_x_M_topOf : gx_mo mi_x_M_topOf 2 := ⟨(gx_ic2 (i := 173) rfl rfl), (gx_wb1 gq_x_w1_0_ok 9 rfl), ⟨by decide, by decide⟩, by decide +kernel, rfl, rfl⟩
theorem mv_x_M_topOf : gx_mv mi_x_M_topOf := ⟨(gx_wb2 gq_x_w2_1_ok 8 rfl), (gx_sb (i := 17) (n := 10) rfl)⟩
theorem mo_x_M_canBear : gx_mo mi_x_M_canBear 2 := ⟨(gx_ic2 (i := 178) rfl rfl), (gx_wb1 gq_x_w1_0_ok 9 rfl), ⟨by decide, by decide⟩, by decide +kernel, rfl, rfl⟩
theorem mv_x_M_canBear : gx_mv mi_x_M_canBear := ⟨(gx_wb2 gq_x_w2_1_ok 9 rfl), (gx_sb (i := 18) (n := 10) rfl)⟩
theorem mo_x_M_mightOf : gx_mo mi_x_M_mightOf 2 := ⟨(gx_ic2 (i := 182) rfl rfl), (gx_wb1 gq_x_w1_0_ok 9 rfl), ⟨by decide, by decide⟩, by decide +kernel, rfl, rfl⟩
theorem mv_x_M_mightOf : gx_mv mi_x_M_mightOf := ⟨(gx_wb2 gq_x_w2_1_ok 10 rfl), (gx_sb (i := 19) (n := 10) rfl)⟩
theorem mo_x_E_bearer : gx_mo mi_x_E_bearer 2 := ⟨(gx_ic2 (i := 163) rfl rfl), (gx_wb1 gq_x_w1_0_ok 0 rfl), ⟨by decide, by decide⟩, by decide +kernel, rfl, rfl⟩
theorem mv_x_E_bearer : gx_mv mi_x_E_bearer := ⟨(gx_wb2 gq_x_w2_1_ok 11 rfl), (gx_wb2 gq_x_w2_1_ok 12 rfl)⟩
theorem mo_x_M_stand : gx_mo mi_x_M_stand 0 := ⟨(gx_ic2 (i := 197) rfl rfl), (gx_wb1 gq_x_w1_0_ok 9 rfl), ⟨by decide, by decide⟩, by decide +kernel, rfl, rfl⟩
theorem mv_x_M_stand : gx_mv mi_x_M_stand := ⟨(gx_wb2 gq_x_w2_1_ok 13 rfl), (gx_sb (i := 21) (n := 10) rfl)⟩
theorem mo_x_M_shareOf : gx_mo mi_x_M_shareOf 2 := ⟨(gx_ic2 (i := 208) rfl rfl), (gx_wb1 gq_x_w1_0_ok 9 rfl), ⟨by decide, by decide⟩, by decide +kernel, rfl, rfl⟩
theorem mv_x_M_shareOf : gx_mv mi_x_M_shareOf := ⟨(gx_wb2 gq_x_w2_1_ok 14 rfl), (gx_sb (i := 23) (n := 10) rfl)⟩
theorem mo_x_M_weigh : gx_mo mi_x_M_weigh 0 := ⟨(gx_ic2 (i := 204) rfl rfl), (gx_wb1 gq_x_w1_0_ok 9 rfl), ⟨by decide, by decide⟩, by decide +kernel, rfl, rfl⟩
theorem mv_x_M_weigh : gx_mv mi_x_M_weigh := ⟨(gx_wb2 gq_x_w2_1_ok 15 rfl), (gx_sb (i := 22) (n := 10) rfl)⟩
theorem mo_x_M_standAndWeigh : gx_mo mi_x_M_standAndWeigh 0 := ⟨(gx_ic2 (i := 193) rfl rfl), (gx_wb1 gq_x_w1_0_ok 9 rfl), ⟨by decide, by decide⟩, by decide +kernel, rfl, rfl⟩
theorem mv_x_M_standAndWeigh : gx_mv mi_x_M_standAndWeigh := ⟨(gx_wb2 gq_x_w2_1_ok 16 rfl), (gx_sb (i := 20) (n := 10) rfl)⟩
theorem mo_x_E_load : gx_mo mi_x_E_load 1 := ⟨(gx_ic2 (i := 189) rfl rfl), (gx_wb1 gq_x_w1_0_ok 0 rfl), ⟨by decide, by decide⟩, by decide +kernel, rfl, rfl⟩
theorem mv_x_E_load : gx_mv mi_x_E_load := ⟨(gx_wb2 gq_x_w2_1_ok 17 rfl), (gx_wb2 gq_x_w2_1_ok 18 rfl)⟩
theorem mo_x_M_firstOverloaded : gx_mo mi_x_M_firstOverloaded 0 := ⟨(gx_ic2 (i := 228) rfl rfl), (gx_wb1 gq_x_w1_0_ok 9 rfl), ⟨by decide, by decide⟩, by decide +kernel, rfl, rfl⟩
theorem mv_x_M_firstOverloaded : gx_mv mi_x_M_firstOverloaded := ⟨(gx_wb2 gq_x_w2_1_ok 19 rfl), (gx_sb (i := 26) (n := 10) rfl)⟩
theorem mo_x_M_firstFalling : gx_mo mi_x_M_firstFalling 0 := ⟨(gx_ic2 (i := 232) rfl rfl), (gx_wb1 gq_x_w1_0_ok 9 rfl), ⟨by decide, by decide⟩, by decide +kernel, rfl, rfl⟩
theorem mv_x_M_firstFalling : gx_mv mi_x_M_firstFalling := ⟨(gx_wb2 gq_x_w2_1_ok 20 rfl), (gx_sb (i := 27) (n := 10) rfl)⟩
theorem mo_x_M_isBorne : gx_mo mi_x_M_isBorne 0 := ⟨(gx_ic2 (i := 224) rfl rfl), (gx_wb1 gq_x_w1_0_ok 9 rfl), ⟨by decide, by decide⟩, by decide +kernel, rfl, rfl⟩
theorem mv_x_M_isBorne : gx_mv mi_x_M_isBorne := ⟨(gx_wb2 gq_x_w2_1_ok 21 rfl), (gx_sb (i := 25) (n := 10) rfl)⟩
theorem mo_x_M_isFirm : gx_mo mi_x_M_isFirm 0 := ⟨(gx_ic2 (i := 220) rfl rfl), (gx_wb1 gq_x_w1_0_ok 9 rfl), ⟨by decide, by decide⟩, by decide +kernel, rfl, rfl⟩
theorem mv_x_M_isFirm : gx_mv mi_x_M_isFirm := ⟨(gx_wb2 gq_x_w2_1_ok 22 rfl), (gx_sb (i := 24) (n := 10) rfl)⟩
theorem mo_x_E_holds : gx_mo mi_x_E_holds 0 := ⟨(gx_ic2 (i := 216) rfl rfl), (gx_wb1 gq_x_w1_0_ok 0 rfl), ⟨by decide, by decide⟩, by decide +kernel, rfl, rfl⟩
theorem mv_x_E_holds : gx_mv mi_x_E_holds := ⟨(gx_wb2 gq_x_w2_1_ok 23 rfl), (gx_wb2 gq_x_w2_1_ok 24 rfl)⟩
theorem mo_x_E_sag : gx_mo mi_x_E_sag 0 := ⟨(gx_ic2 (i := 236) rfl rfl), (gx_wb1 gq_x_w1_0_ok 0 rfl), ⟨by decide, by decide⟩, by decide +kernel, rfl, rfl⟩
theorem mv_x_E_sag : gx_mv mi_x_E_sag := ⟨(gx_wb2 gq_x_w2_1_ok 25 rfl), (gx_wb2 gq_x_w2_1_ok 26 rfl)⟩
theorem mo_x_E_sumOf : gx_mo mi_x_E_sumOf 2 := ⟨(gx_ic3 (i := 5) rfl rfl), (gx_wb1 gq_x_w1_0_ok 0 rfl), ⟨by decide, by decide⟩, by decide +kernel, rfl, rfl⟩
theorem ms_x_E_sumOf : gx_ms mi_x_E_sumOf := (gx_wb3 gq_x_w3_0_ok 0 rfl)
theorem mo_x_E_count : gx_mo mi_x_E_count 1 := ⟨(gx_ic3 (i := 2) rfl rfl), (gx_wb1 gq_x_w1_0_ok 0 rfl), ⟨by decide, by decide⟩, by decide +kernel, rfl, rfl⟩
theorem mv_x_E_count : gx_mv mi_x_E_count := ⟨(gx_wb3 gq_x_w3_0_ok 1 rfl), (gx_wb3 gq_x_w3_0_ok 2 rfl)⟩
theorem mo_x_E_levels : gx_mo mi_x_E_levels 0 := ⟨(gx_ic3 (i := 9) rfl rfl), (gx_wb1 gq_x_w1_0_ok 0 rfl), ⟨by decide, by decide⟩, by decide +kernel, rfl, rfl⟩
theorem mv_x_E_levels : gx_mv mi_x_E_levels := ⟨(gx_wb3 gq_x_w3_0_ok 3 rfl), (gx_wb3 gq_x_w3_0_ok 4 rfl)⟩
theorem mo_x_E_raise : gx_mo mi_x_E_raise 1 := ⟨(gx_ic3 (i := 21) rfl rfl), (gx_wb1 gq_x_w1_0_ok 0 rfl), ⟨by decide, by decide⟩, by decide +kernel, rfl, rfl⟩
theorem mv_x_E_raise : gx_mv mi_x_E_raise := ⟨(gx_wb3 gq_x_w3_0_ok 5 rfl), (gx_sb (i := 29) (n := 11) rfl)⟩
theorem mo_x_E_raiseBoth : gx_mo mi_x_E_raiseBoth 2 := ⟨(gx_ic3 (i := 17) rfl rfl), (gx_wb1 gq_x_w1_0_ok 0 rfl), ⟨by decide, by decide⟩, by decide +kernel, rfl, rfl⟩
theorem mv_x_E_raiseBoth : gx_mv mi_x_E_raiseBoth := ⟨(gx_wb3 gq_x_w3_0_ok 6 rfl), (gx_sb (i := 28) (n := 11) rfl)⟩
theorem mo_x_E_blocks : gx_mo mi_x_E_blocks 0 := ⟨(gx_ic3 (i := 13) rfl rfl), (gx_wb1 gq_x_w1_0_ok 0 rfl), ⟨by decide, by decide⟩, by decide +kernel, rfl, rfl⟩
theorem mv_x_E_blocks : gx_mv mi_x_E_blocks := ⟨(gx_wb3 gq_x_w3_0_ok 7 rfl), (gx_wb3 gq_x_w3_0_ok 8 rfl)⟩
theorem mo_x_E_swap : gx_mo mi_x_E_swap 0 := ⟨(gx_ic3 (i := 25) rfl rfl), (gx_wb1 gq_x_w1_0_ok 0 rfl), ⟨by decide, by decide⟩, by decide +kernel, rfl, rfl⟩
theorem mv_x_E_swap : gx_mv mi_x_E_swap := ⟨(gx_wb3 gq_x_w3_0_ok 9 rfl), (gx_wb3 gq_x_w3_0_ok 10 rfl)⟩
theorem mo_x_O_spotOf : gx_mo mi_x_O_spotOf 3 := ⟨(gx_ic3 (i := 40) rfl rfl), (gx_wb1 gq_x_w1_0_ok 10 rfl), ⟨by decide, by decide⟩, by decide +kernel, rfl, rfl⟩
theorem ms_x_O_spotOf : gx_ms mi_x_O_spotOf := (gx_wb3 gq_x_w3_0_ok 11 rfl)
theorem mo_x_I_bitCount : gx_mo mi_x_I_bitCount 1 := ⟨(gx_ic3 (i := 47) rfl rfl), (gx_wb1 gq_x_w1_0_ok 11 rfl), ⟨by decide, by decide⟩, by decide +kernel, rfl, rfl⟩
theorem ms_x_I_bitCount : gx_ms mi_x_I_bitCount := (gx_wb3 gq_x_w3_0_ok 12 rfl)
theorem mo_x_O_mostOf : gx_mo mi_x_O_mostOf 2 := ⟨(gx_ic3 (i := 58) rfl rfl), (gx_wb1 gq_x_w1_0_ok 10 rfl), ⟨by decide, by decide⟩, by decide +kernel, rfl, rfl⟩
theorem mv_x_O_mostOf : gx_mv mi_x_O_mostOf := ⟨(gx_wb3 gq_x_w3_0_ok 13 rfl), (gx_sb (i := 33) (n := 3) rfl)⟩
theorem mo_x_O_bearsLeft : gx_mo mi_x_O_bearsLeft 4 := ⟨(gx_ic3 (i := 54) rfl rfl), (gx_wb1 gq_x_w1_0_ok 10 rfl), ⟨by decide, by decide⟩, by decide +kernel, rfl, rfl⟩
theorem mv_x_O_bearsLeft : gx_mv mi_x_O_bearsLeft := ⟨(gx_wb3 gq_x_w3_0_ok 14 rfl), (gx_sb (i := 32) (n := 3) rfl)⟩
theorem mo_x_O_waysWith : gx_mo mi_x_O_waysWith 4 := ⟨(gx_ic3 (i := 63) rfl rfl), (gx_wb1 gq_x_w1_0_ok 10 rfl), ⟨by decide, by decide⟩, by decide +kernel, rfl, rfl⟩
theorem mv_x_O_waysWith : gx_mv mi_x_O_waysWith := ⟨(gx_wb3 gq_x_w3_0_ok 15 rfl), (gx_sb (i := 34) (n := 3) rfl)⟩
theorem mo_x_O_waysOn : gx_mo mi_x_O_waysOn 3 := ⟨(gx_ic3 (i := 44) rfl rfl), (gx_wb1 gq_x_w1_0_ok 10 rfl), ⟨by decide, by decide⟩, by decide +kernel, rfl, rfl⟩
theorem mv_x_O_waysOn : gx_mv mi_x_O_waysOn := ⟨(gx_wb3 gq_x_w3_0_ok 16 rfl), (gx_sb (i := 31) (n := 3) rfl)⟩
theorem mo_x_O_fill : gx_mo mi_x_O_fill 0 := ⟨(gx_ic3 (i := 33) rfl rfl), (gx_wb1 gq_x_w1_0_ok 10 rfl), ⟨by decide, by decide⟩, by decide +kernel, rfl, rfl⟩
theorem mv_x_O_fill : gx_mv mi_x_O_fill := ⟨(gx_wb3 gq_x_w3_0_ok 17 rfl), (gx_sb (i := 30) (n := 3) rfl)⟩
theorem mo_x_O_leastNext : gx_mo mi_x_O_leastNext 3 := ⟨(gx_ic3 (i := 75) rfl rfl), (gx_wb1 gq_x_w1_0_ok 10 rfl), ⟨by decide, by decide⟩, by decide +kernel, rfl, rfl⟩
theorem mv_x_O_leastNext : gx_mv mi_x_O_leastNext := ⟨(gx_wb3 gq_x_w3_0_ok 18 rfl), (gx_sb (i := 37) (n := 3) rfl)⟩
theorem mo_x_O_firstUnder : gx_mo mi_x_O_firstUnder 1 := ⟨(gx_ic3 (i := 71) rfl rfl), (gx_wb1 gq_x_w1_0_ok 10 rfl), ⟨by decide, by decide⟩, by decide +kernel, rfl, rfl⟩
theorem mv_x_O_firstUnder : gx_mv mi_x_O_firstUnder := ⟨(gx_wb3 gq_x_w3_0_ok 19 rfl), (gx_sb (i := 36) (n := 3) rfl)⟩
theorem mo_x_O_total : gx_mo mi_x_O_total 0 := ⟨(gx_ic3 (i := 67) rfl rfl), (gx_wb1 gq_x_w1_0_ok 10 rfl), ⟨by decide, by decide⟩, by decide +kernel, rfl, rfl⟩
theorem mv_x_O_total : gx_mv mi_x_O_total := ⟨(gx_wb3 gq_x_w3_0_ok 20 rfl), (gx_sb (i := 35) (n := 3) rfl)⟩
theorem mo_x_E_orders : gx_mo mi_x_E_orders 1 := ⟨(gx_ic3 (i := 29) rfl rfl), (gx_wb1 gq_x_w1_0_ok 0 rfl), ⟨by decide, by decide⟩, by decide +kernel, rfl, rfl⟩
theorem mv_x_E_orders : gx_mv mi_x_E_orders := ⟨(gx_wb3 gq_x_w3_0_ok 21 rfl), (gx_wb3 gq_x_w3_0_ok 22 rfl)⟩
theorem mo_x_E_needed : gx_mo mi_x_E_needed 0 := ⟨(gx_ic3 (i := 79) rfl rfl), (gx_wb1 gq_x_w1_0_ok 0 rfl), ⟨by decide, by decide⟩, by decide +kernel, rfl, rfl⟩
theorem mv_x_E_needed : gx_mv mi_x_E_needed := ⟨(gx_wb3 gq_x_w3_0_ok 23 rfl), (gx_wb3 gq_x_w3_0_ok 24 rfl)⟩
theorem mo_x_E_more : gx_mo mi_x_E_more 1 := ⟨(gx_ic3 (i := 83) rfl rfl), (gx_wb1 gq_x_w1_0_ok 0 rfl), ⟨by decide, by decide⟩, by decide +kernel, rfl, rfl⟩
theorem mv_x_E_more : gx_mv mi_x_E_more := ⟨(gx_wb3 gq_x_w3_0_ok 25 rfl), (gx_wb3 gq_x_w3_0_ok 26 rfl)⟩
theorem mo_x_E_seeds : gx_mo mi_x_E_seeds 2 := ⟨(gx_ic3 (i := 89) rfl rfl), (gx_wb1 gq_x_w1_0_ok 0 rfl), ⟨by decide, by decide⟩, by decide +kernel, rfl, rfl⟩
theorem mv_x_E_seeds : gx_mv mi_x_E_seeds := ⟨(gx_wb3 gq_x_w3_0_ok 27 rfl), (gx_wb3 gq_x_w3_0_ok 28 rfl)⟩
theorem mo_x_E_row : gx_mo mi_x_E_row 1 := ⟨(gx_ic3 (i := 97) rfl rfl), (gx_wb1 gq_x_w1_0_ok 0 rfl), ⟨by decide, by decide⟩, by decide +kernel, rfl, rfl⟩
theorem mv_x_E_row : gx_mv mi_x_E_row := ⟨(gx_wb3 gq_x_w3_0_ok 29 rfl), (gx_wb3 gq_x_w3_1_ok 0 rfl)⟩
theorem mo_x_E_firstUntrue : gx_mo mi_x_E_firstUntrue 0 := ⟨(gx_ic3 (i := 105) rfl rfl), (gx_wb1 gq_x_w1_0_ok 0 rfl), ⟨by decide, by decide⟩, by decide +kernel, rfl, rfl⟩
theorem mv_x_E_firstUntrue : gx_mv mi_x_E_firstUntrue := ⟨(gx_wb3 gq_x_w3_1_ok 1 rfl), (gx_sb (i := 38) (n := 11) rfl)⟩
theorem mo_x_E_slacked : gx_mo mi_x_E_slacked 0 := ⟨(gx_ic3 (i := 101) rfl rfl), (gx_wb1 gq_x_w1_0_ok 0 rfl), ⟨by decide, by decide⟩, by decide +kernel, rfl, rfl⟩
theorem mv_x_E_slacked : gx_mv mi_x_E_slacked := ⟨(gx_wb3 gq_x_w3_1_ok 2 rfl), (gx_wb3 gq_x_w3_1_ok 3 rfl)⟩
theorem mo_x_E_judge : gx_mo mi_x_E_judge 0 := ⟨(gx_ic3 (i := 109) rfl rfl), (gx_wb1 gq_x_w1_0_ok 0 rfl), ⟨by decide, by decide⟩, by decide +kernel, rfl, rfl⟩
theorem mv_x_E_judge : gx_mv mi_x_E_judge := ⟨(gx_wb3 gq_x_w3_1_ok 4 rfl), (gx_wb3 gq_x_w3_1_ok 5 rfl)⟩
theorem mo_x_W_visit : gx_mo mi_x_W_visit 3 := ⟨(gx_ic3 (i := 123) rfl rfl), (gx_wb1 gq_x_w1_0_ok 12 rfl), ⟨by decide, by decide⟩, by decide +kernel, rfl, rfl⟩
theorem mv_x_W_visit : gx_mv mi_x_W_visit := ⟨(gx_wb3 gq_x_w3_1_ok 6 rfl), (gx_sb (i := 40) (n := 4) rfl)⟩
theorem mo_x_W_explore : gx_mo mi_x_W_explore 0 := ⟨(gx_ic3 (i := 118) rfl rfl), (gx_wb1 gq_x_w1_0_ok 12 rfl), ⟨by decide, by decide⟩, by decide +kernel, rfl, rfl⟩
theorem mv_x_W_explore : gx_mv mi_x_W_explore := ⟨(gx_wb3 gq_x_w3_1_ok 7 rfl), (gx_sb (i := 39) (n := 4) rfl)⟩
theorem mo_x_W_minutesTo : gx_mo mi_x_W_minutesTo 2 := ⟨(gx_ic3 (i := 134) rfl rfl), (gx_wb1 gq_x_w1_0_ok 12 rfl), ⟨by decide, by decide⟩, by decide +kernel, rfl, rfl⟩
theorem mv_x_W_minutesTo : gx_mv mi_x_W_minutesTo := ⟨(gx_wb3 gq_x_w3_1_ok 8 rfl), (gx_sb (i := 42) (n := 4) rfl)⟩
theorem mo_x_W_fewestTo : gx_mo mi_x_W_fewestTo 1 := ⟨(gx_ic3 (i := 130) rfl rfl), (gx_wb1 gq_x_w1_0_ok 12 rfl), ⟨by decide, by decide⟩, by decide +kernel, rfl, rfl⟩
theorem mv_x_W_fewestTo : gx_mv mi_x_W_fewestTo := ⟨(gx_wb3 gq_x_w3_1_ok 9 rfl), (gx_sb (i := 41) (n := 4) rfl)⟩
theorem mo_x_E_way : gx_mo mi_x_E_way 1 := ⟨(gx_ic3 (i := 114) rfl rfl), (gx_wb1 gq_x_w1_0_ok 0 rfl), ⟨by decide, by decide⟩, by decide +kernel, rfl, rfl⟩
theorem mv_x_E_way : gx_mv mi_x_E_way := ⟨(gx_wb3 gq_x_w3_1_ok 10 rfl), (gx_wb3 gq_x_w3_1_ok 11 rfl)⟩
theorem mo_x_W_reachedWithin : gx_mo mi_x_W_reachedWithin 1 := ⟨(gx_ic3 (i := 142) rfl rfl), (gx_wb1 gq_x_w1_0_ok 12 rfl), ⟨by decide, by decide⟩, by decide +kernel, rfl, rfl⟩
theorem mv_x_W_reachedWithin : gx_mv mi_x_W_reachedWithin := ⟨(gx_wb3 gq_x_w3_1_ok 12 rfl), (gx_sb (i := 43) (n := 4) rfl)⟩
theorem mo_x_E_reach : gx_mo mi_x_E_reach 1 := ⟨(gx_ic3 (i := 138) rfl rfl), (gx_wb1 gq_x_w1_0_ok 0 rfl), ⟨by decide, by decide⟩, by decide +kernel, rfl, rfl⟩
theorem mv_x_E_reach : gx_mv mi_x_E_reach := ⟨(gx_wb3 gq_x_w3_1_ok 13 rfl), (gx_wb3 gq_x_w3_1_ok 14 rfl)⟩
theorem mo_x_W_lowestAt : gx_mo mi_x_W_lowestAt 2 := ⟨(gx_ic3 (i := 151) rfl rfl), (gx_wb1 gq_x_w1_0_ok 12 rfl), ⟨by decide, by decide⟩, by decide +kernel, rfl, rfl⟩
theorem mv_x_W_lowestAt : gx_mv mi_x_W_lowestAt := ⟨(gx_wb3 gq_x_w3_1_ok 15 rfl), (gx_sb (i := 44) (n := 4) rfl)⟩
theorem mo_x_E_lowest : gx_mo mi_x_E_lowest 2 := ⟨(gx_ic3 (i := 147) rfl rfl), (gx_wb1 gq_x_w1_0_ok 0 rfl), ⟨by decide, by decide⟩, by decide +kernel, rfl, rfl⟩
theorem mv_x_E_lowest : gx_mv mi_x_E_lowest := ⟨(gx_wb3 gq_x_w3_1_ok 16 rfl), (gx_wb3 gq_x_w3_1_ok 17 rfl)⟩
theorem mo_x_R_become_15_1 : gx_mo mi_x_R_become_15_1 1 := ⟨(gx_ic2 (i := 110) rfl rfl), (gx_wb1 gq_x_w1_0_ok 8 rfl), ⟨by decide, by decide⟩, by decide +kernel, rfl, rfl⟩
theorem mv_x_R_become_15_1 : gx_mv mi_x_R_become_15_1 := ⟨(gx_wb2 gq_x_w2_0_ok 17 rfl), (gx_sb (i := 11) (n := 9) rfl)⟩
theorem mo_x_E_image : gx_mo mi_x_E_image 0 := ⟨(gx_ic3 (i := 155) rfl rfl), (gx_wb1 gq_x_w1_0_ok 0 rfl), ⟨by decide, by decide⟩, by decide +kernel, rfl, rfl⟩
theorem mv_x_E_image : gx_mv mi_x_E_image := ⟨(gx_wb3 gq_x_w3_1_ok 18 rfl), (gx_wb3 gq_x_w3_1_ok 19 rfl)⟩
theorem mo_x_R_become_1_15 : gx_mo mi_x_R_become_1_15 1 := ⟨(gx_ic2 (i := 110) rfl rfl), (gx_wb1 gq_x_w1_0_ok 8 rfl), ⟨by decide, by decide⟩, by decide +kernel, rfl, rfl⟩
theorem mv_x_R_become_1_15 : gx_mv mi_x_R_become_1_15 := ⟨(gx_wb2 gq_x_w2_0_ok 17 rfl), (gx_sb (i := 11) (n := 9) rfl)⟩
theorem mo_x_E_on : gx_mo mi_x_E_on 0 := ⟨(gx_ic3 (i := 159) rfl rfl), (gx_wb1 gq_x_w1_0_ok 0 rfl), ⟨by decide, by decide⟩, by decide +kernel, rfl, rfl⟩
theorem mv_x_E_on : gx_mv mi_x_E_on := ⟨(gx_wb3 gq_x_w3_1_ok 20 rfl), (gx_wb3 gq_x_w3_1_ok 21 rfl)⟩
theorem fl_M_15 : gx_fl "EachBearsPillar$Mind" 15 2 1 := ⟨_, _, _, rfl, by decide, Or.inl (gx_wb1 gq_x_w1_0_ok 13 rfl)⟩
theorem fl_M_19 : gx_fl "EachBearsPillar$Mind" 19 2 2 := ⟨_, _, _, rfl, by decide, Or.inl (gx_wb1 gq_x_w1_0_ok 14 rfl)⟩
theorem fl_M_22 : gx_fl "EachBearsPillar$Mind" 22 2 3 := ⟨_, _, _, rfl, by decide, Or.inl (gx_wb1 gq_x_w1_0_ok 15 rfl)⟩
theorem fl_M_25 : gx_fl "EachBearsPillar$Mind" 25 2 4 := ⟨_, _, _, rfl, by decide, Or.inl (gx_wb1 gq_x_w1_0_ok 16 rfl)⟩
theorem fl_M_29 : gx_fl "EachBearsPillar$Mind" 29 2 5 := ⟨_, _, _, rfl, by decide, Or.inl (gx_wb1 gq_x_w1_0_ok 17 rfl)⟩
theorem fl_M_32 : gx_fl "EachBearsPillar$Mind" 32 2 6 := ⟨_, _, _, rfl, by decide, Or.inl (gx_wb1 gq_x_w1_0_ok 18 rfl)⟩
theorem fl_M_35 : gx_fl "EachBearsPillar$Mind" 35 2 7 := ⟨_, _, _, rfl, by decide, Or.inl (gx_wb1 gq_x_w1_0_ok 19 rfl)⟩
theorem fl_M_38 : gx_fl "EachBearsPillar$Mind" 38 2 8 := ⟨_, _, _, rfl, by decide, Or.inl (gx_wb1 gq_x_w1_0_ok 20 rfl)⟩
theorem fl_M_41 : gx_fl "EachBearsPillar$Mind" 41 2 9 := ⟨_, _, _, rfl, by decide, Or.inl (gx_wb1 gq_x_w1_0_ok 21 rfl)⟩
theorem fl_M_44 : gx_fl "EachBearsPillar$Mind" 44 1 1 := ⟨_, _, _, rfl, by decide, Or.inr (gx_nb1 gq_x_n1_0_ok 0 rfl)⟩
theorem fl_M_47 : gx_fl "EachBearsPillar$Mind" 47 1 2 := ⟨_, _, _, rfl, by decide, Or.inr (gx_nb1 gq_x_n1_0_ok 1 rfl)⟩
theorem fl_M_52 : gx_fl "EachBearsPillar$Mind" 52 1 7 := ⟨_, _, _, rfl, by decide, Or.inr (gx_nb1 gq_x_n1_0_ok 2 rfl)⟩
theorem fl_M_57 : gx_fl "EachBearsPillar$Mind" 57 1 8 := ⟨_, _, _, rfl, by decide, Or.inr (gx_nb1 gq_x_n1_0_ok 3 rfl)⟩
theorem fl_M_64 : gx_fl "EachBearsPillar$Mind" 64 1 5 := ⟨_, _, _, rfl, by decide, Or.inr (gx_nb1 gq_x_n1_0_ok 4 rfl)⟩
theorem fl_M_67 : gx_fl "EachBearsPillar$Mind" 67 1 6 := ⟨_, _, _, rfl, by decide, Or.inr (gx_nb1 gq_x_n1_0_ok 5 rfl)⟩
theorem fl_M_70 : gx_fl "EachBearsPillar$Mind" 70 1 3 := ⟨_, _, _, rfl, by decide, Or.inr (gx_nb1 gq_x_n1_0_ok 6 rfl)⟩
theorem fl_M_73 : gx_fl "EachBearsPillar$Mind" 73 1 4 := ⟨_, _, _, rfl, by decide, Or.inr (gx_nb1 gq_x_n1_0_ok 7 rfl)⟩
theorem fl_M_82 : gx_fl "EachBearsPillar$Mind" 82 1 0 := ⟨_, _, _, rfl, by decide, Or.inr (gx_nb1 gq_x_n1_0_ok 8 rfl)⟩
theorem fl_M_9 : gx_fl "EachBearsPillar$Mind" 9 2 0 := ⟨_, _, _, rfl, by decide, Or.inl (gx_wb1 gq_x_w1_0_ok 22 rfl)⟩
theorem fl_O_15 : gx_fl "EachBearsPillar$Orders" 15 5 1 := ⟨_, _, _, rfl, by decide, Or.inl (gx_wb1 gq_x_w1_0_ok 23 rfl)⟩
theorem fl_O_19 : gx_fl "EachBearsPillar$Orders" 19 5 2 := ⟨_, _, _, rfl, by decide, Or.inl (gx_wb1 gq_x_w1_0_ok 24 rfl)⟩
theorem fl_O_22 : gx_fl "EachBearsPillar$Orders" 22 2 0 := ⟨_, _, _, rfl, by decide, Or.inr (gx_nb1 gq_x_n1_0_ok 9 rfl)⟩
theorem fl_O_28 : gx_fl "EachBearsPillar$Orders" 28 1 0 := ⟨_, _, _, rfl, by decide, Or.inr (gx_nb1 gq_x_n1_0_ok 10 rfl)⟩
theorem fl_O_74 : gx_fl "EachBearsPillar$Orders" 74 2 6 := ⟨_, _, _, rfl, by decide, Or.inr (gx_nb1 gq_x_n1_0_ok 11 rfl)⟩
theorem fl_O_9 : gx_fl "EachBearsPillar$Orders" 9 5 0 := ⟨_, _, _, rfl, by decide, Or.inl (gx_wb1 gq_x_w1_0_ok 25 rfl)⟩
theorem fl_R_15 : gx_fl "EachBearsPillar$Roof" 15 1 1 := ⟨_, _, _, rfl, by decide, Or.inl (gx_wb1 gq_x_w1_0_ok 26 rfl)⟩
theorem fl_R_18 : gx_fl "EachBearsPillar$Roof" 18 1 2 := ⟨_, _, _, rfl, by decide, Or.inl (gx_wb1 gq_x_w1_0_ok 27 rfl)⟩
theorem fl_R_21 : gx_fl "EachBearsPillar$Roof" 21 1 3 := ⟨_, _, _, rfl, by decide, Or.inl (gx_wb1 gq_x_w1_0_ok 28 rfl)⟩
theorem fl_R_25 : gx_fl "EachBearsPillar$Roof" 25 1 4 := ⟨_, _, _, rfl, by decide, Or.inl (gx_wb1 gq_x_w1_0_ok 29 rfl)⟩
theorem fl_R_28 : gx_fl "EachBearsPillar$Roof" 28 1 5 := ⟨_, _, _, rfl, by decide, Or.inl (gx_wb1 gq_x_w1_1_ok 0 rfl)⟩
theorem fl_R_31 : gx_fl "EachBearsPillar$Roof" 31 1 6 := ⟨_, _, _, rfl, by decide, Or.inl (gx_wb1 gq_x_w1_1_ok 1 rfl)⟩
theorem fl_R_34 : gx_fl "EachBearsPillar$Roof" 34 1 7 := ⟨_, _, _, rfl, by decide, Or.inl (gx_wb1 gq_x_w1_1_ok 2 rfl)⟩
theorem fl_R_37 : gx_fl "EachBearsPillar$Roof" 37 1 8 := ⟨_, _, _, rfl, by decide, Or.inl (gx_wb1 gq_x_w1_1_ok 3 rfl)⟩
theorem fl_R_9 : gx_fl "EachBearsPillar$Roof" 9 1 0 := ⟨_, _, _, rfl, by decide, Or.inl (gx_wb1 gq_x_w1_1_ok 4 rfl)⟩
theorem fl_T_15 : gx_fl "EachBearsPillar$Text" 15 3 1 := ⟨_, _, _, rfl, by decide, Or.inl (gx_wb1 gq_x_w1_1_ok 5 rfl)⟩
theorem fl_T_19 : gx_fl "EachBearsPillar$Text" 19 3 2 := ⟨_, _, _, rfl, by decide, Or.inl (gx_wb1 gq_x_w1_1_ok 6 rfl)⟩
theorem fl_T_22 : gx_fl "EachBearsPillar$Text" 22 3 3 := ⟨_, _, _, rfl, by decide, Or.inl (gx_wb1 gq_x_w1_1_ok 7 rfl)⟩
theorem fl_T_25 : gx_fl "EachBearsPillar$Text" 25 3 4 := ⟨_, _, _, rfl, by decide, Or.inl (gx_wb1 gq_x_w1_1_ok 8 rfl)⟩
theorem fl_T_28 : gx_fl "EachBearsPillar$Text" 28 3 5 := ⟨_, _, _, rfl, by decide, Or.inl (gx_wb1 gq_x_w1_1_ok 9 rfl)⟩
theorem fl_T_9 : gx_fl "EachBearsPillar$Text" 9 3 0 := ⟨_, _, _, rfl, by decide, Or.inl (gx_wb1 gq_x_w1_1_ok 10 rfl)⟩
theorem fl_W_15 : gx_fl "EachBearsPillar$Walk" 15 4 1 := ⟨_, _, _, rfl, by decide, Or.inl (gx_wb1 gq_x_w1_1_ok 11 rfl)⟩
theorem fl_W_19 : gx_fl "EachBearsPillar$Walk" 19 4 2 := ⟨_, _, _, rfl, by decide, Or.inl (gx_wb1 gq_x_w1_1_ok 12 rfl)⟩
theorem fl_W_22 : gx_fl "EachBearsPillar$Walk" 22 4 3 := ⟨_, _, _, rfl, by decide, Or.inl (gx_wb1 gq_x_w1_1_ok 13 rfl)⟩
theorem fl_W_30 : gx_fl "EachBearsPillar$Walk" 30 2 0 := ⟨_, _, _, rfl, by decide, Or.inr (gx_nb1 gq_x_n1_0_ok 12 rfl)⟩
theorem fl_W_36 : gx_fl "EachBearsPillar$Walk" 36 1 1 := ⟨_, _, _, rfl, by decide, Or.inr (gx_nb1 gq_x_n1_0_ok 13 rfl)⟩
theorem fl_W_41 : gx_fl "EachBearsPillar$Walk" 41 1 2 := ⟨_, _, _, rfl, by decide, Or.inr (gx_nb1 gq_x_n1_0_ok 14 rfl)⟩
theorem fl_W_56 : gx_fl "EachBearsPillar$Walk" 56 2 1 := ⟨_, _, _, rfl, by decide, Or.inr (gx_nb1 gq_x_n1_0_ok 15 rfl)⟩
theorem fl_W_57 : gx_fl "EachBearsPillar$Walk" 57 2 2 := ⟨_, _, _, rfl, by decide, Or.inr (gx_nb1 gq_x_n1_0_ok 16 rfl)⟩
theorem fl_W_9 : gx_fl "EachBearsPillar$Walk" 9 4 0 := ⟨_, _, _, rfl, by decide, Or.inl (gx_wb1 gq_x_w1_1_ok 14 rfl)⟩
theorem fl_E_10 : gx_fl "EachBearsPillar" 10 0 0 := ⟨_, _, _, rfl, by decide, Or.inl (gx_wb1 gq_x_w1_1_ok 15 rfl)⟩
theorem fl_E_100 : gx_fl "EachBearsPillar" 100 1 2 := ⟨_, _, _, rfl, by decide, Or.inr (gx_nb1 gq_x_n1_0_ok 17 rfl)⟩
theorem fl_E_106 : gx_fl "EachBearsPillar" 106 1 6 := ⟨_, _, _, rfl, by decide, Or.inr (gx_nb1 gq_x_n1_0_ok 18 rfl)⟩
theorem fl_E_112 : gx_fl "EachBearsPillar" 112 1 1 := ⟨_, _, _, rfl, by decide, Or.inr (gx_nb1 gq_x_n1_0_ok 19 rfl)⟩
theorem fl_E_122 : gx_fl "EachBearsPillar" 122 1 3 := ⟨_, _, _, rfl, by decide, Or.inr (gx_nb1 gq_x_n1_0_ok 20 rfl)⟩
theorem fl_E_129 : gx_fl "EachBearsPillar" 129 1 4 := ⟨_, _, _, rfl, by decide, Or.inr (gx_nb1 gq_x_n1_0_ok 21 rfl)⟩
theorem fl_E_132 : gx_fl "EachBearsPillar" 132 1 5 := ⟨_, _, _, rfl, by decide, Or.inr (gx_nb1 gq_x_n1_0_ok 22 rfl)⟩
theorem fl_E_145 : gx_fl "EachBearsPillar" 145 2 9 := ⟨_, _, _, rfl, by decide, Or.inr (gx_nb1 gq_x_n1_0_ok 23 rfl)⟩
theorem fl_E_158 : gx_fl "EachBearsPillar" 158 1 0 := ⟨_, _, _, rfl, by decide, Or.inr (gx_nb1 gq_x_n1_0_ok 24 rfl)⟩
theorem fl_E_16 : gx_fl "EachBearsPillar" 16 0 1 := ⟨_, _, _, rfl, by decide, Or.inl (gx_wb1 gq_x_w1_1_ok 16 rfl)⟩
theorem fl_E_164 : gx_fl "EachBearsPillar" 164 2 7 := ⟨_, _, _, rfl, by decide, Or.inr (gx_nb1 gq_x_n1_0_ok 25 rfl)⟩
theorem fl_E_167 : gx_fl "EachBearsPillar" 167 2 2 := ⟨_, _, _, rfl, by decide, Or.inr (gx_nb1 gq_x_n1_0_ok 26 rfl)⟩
theorem fl_E_171 : gx_fl "EachBearsPillar" 171 2 4 := ⟨_, _, _, rfl, by decide, Or.inr (gx_nb1 gq_x_n1_0_ok 27 rfl)⟩
theorem fl_E_187 : gx_fl "EachBearsPillar" 187 2 3 := ⟨_, _, _, rfl, by decide, Or.inr (gx_nb1 gq_x_n1_0_ok 28 rfl)⟩
theorem fl_E_19 : gx_fl "EachBearsPillar" 19 0 2 := ⟨_, _, _, rfl, by decide, Or.inl (gx_wb1 gq_x_w1_1_ok 17 rfl)⟩
theorem fl_E_190 : gx_fl "EachBearsPillar" 190 2 6 := ⟨_, _, _, rfl, by decide, Or.inr (gx_nb1 gq_x_n1_0_ok 29 rfl)⟩
theorem fl_E_22 : gx_fl "EachBearsPillar" 22 0 3 := ⟨_, _, _, rfl, by decide, Or.inl (gx_wb1 gq_x_w1_1_ok 18 rfl)⟩
theorem fl_E_229 : gx_fl "EachBearsPillar" 229 3 2 := ⟨_, _, _, rfl, by decide, Or.inr (gx_nb1 gq_x_n1_1_ok 0 rfl)⟩
theorem fl_E_238 : gx_fl "EachBearsPillar" 238 3 4 := ⟨_, _, _, rfl, by decide, Or.inr (gx_nb1 gq_x_n1_1_ok 1 rfl)⟩
theorem fl_E_241 : gx_fl "EachBearsPillar" 241 3 3 := ⟨_, _, _, rfl, by decide, Or.inr (gx_nb1 gq_x_n1_1_ok 2 rfl)⟩
theorem fl_E_251 : gx_fl "EachBearsPillar" 251 2 5 := ⟨_, _, _, rfl, by decide, Or.inr (gx_nb1 gq_x_n1_1_ok 3 rfl)⟩
theorem fl_E_31 : gx_fl "EachBearsPillar" 31 0 4 := ⟨_, _, _, rfl, by decide, Or.inl (gx_wb1 gq_x_w1_1_ok 19 rfl)⟩
theorem fl_E_38 : gx_fl "EachBearsPillar" 38 0 5 := ⟨_, _, _, rfl, by decide, Or.inl (gx_wb1 gq_x_w1_1_ok 20 rfl)⟩
theorem fl_E_47 : gx_fl "EachBearsPillar" 47 0 6 := ⟨_, _, _, rfl, by decide, Or.inl (gx_wb1 gq_x_w1_1_ok 21 rfl)⟩
theorem fl_E_54 : gx_fl "EachBearsPillar" 54 0 7 := ⟨_, _, _, rfl, by decide, Or.inl (gx_wb1 gq_x_w1_1_ok 22 rfl)⟩
theorem fl_E_58 : gx_fl "EachBearsPillar" 58 0 8 := ⟨_, _, _, rfl, by decide, Or.inl (gx_wb1 gq_x_w1_1_ok 23 rfl)⟩
theorem fl_E_62 : gx_fl "EachBearsPillar" 62 0 9 := ⟨_, _, _, rfl, by decide, Or.inl (gx_wb1 gq_x_w1_1_ok 24 rfl)⟩
theorem fl_E_66 : gx_fl "EachBearsPillar" 66 0 10 := ⟨_, _, _, rfl, by decide, Or.inl (gx_wb1 gq_x_w1_1_ok 25 rfl)⟩
theorem fl_E_73 : gx_fl "EachBearsPillar" 73 3 1 := ⟨_, _, _, rfl, by decide, Or.inr (gx_nb1 gq_x_n1_1_ok 4 rfl)⟩
theorem fl_E_90 : gx_fl "EachBearsPillar" 90 1 7 := ⟨_, _, _, rfl, by decide, Or.inr (gx_nb1 gq_x_n1_1_ok 5 rfl)⟩
theorem fl_E_97 : gx_fl "EachBearsPillar" 97 1 8 := ⟨_, _, _, rfl, by decide, Or.inr (gx_nb1 gq_x_n1_1_ok 6 rfl)⟩
theorem pf_M_1 (v : Int32) : gx_pf 2 1 v := ⟨_, _, _, .int, rfl, rfl, by decide +kernel, rfl, rfl⟩
theorem pf_M_2 (v : Int32) : gx_pf 2 2 v := ⟨_, _, _, .int, rfl, rfl, by decide +kernel, rfl, rfl⟩
theorem pf_M_3 (v : Int32) : gx_pf 2 3 v := ⟨_, _, _, .int, rfl, rfl, by decide +kernel, rfl, rfl⟩
theorem pf_R_0 (v : Int32) : gx_pf 1 0 v := ⟨_, _, _, .int, rfl, rfl, by decide +kernel, rfl, rfl⟩
theorem pf_R_1 (v : Int32) : gx_pf 1 1 v := ⟨_, _, _, .int, rfl, rfl, by decide +kernel, rfl, rfl⟩
theorem pf_R_2 (v : Int32) : gx_pf 1 2 v := ⟨_, _, _, .int, rfl, rfl, by decide +kernel, rfl, rfl⟩
theorem pf_T_1 (v : Int32) : gx_pf 3 1 v := ⟨_, _, _, .int, rfl, rfl, by decide +kernel, rfl, rfl⟩
theorem pf_T_2 (v : Int32) : gx_pf 3 2 v := ⟨_, _, _, .int, rfl, rfl, by decide +kernel, rfl, rfl⟩
theorem pf_T_3 (v : Int32) : gx_pf 3 3 v := ⟨_, _, _, .int, rfl, rfl, by decide +kernel, rfl, rfl⟩
theorem pf_T_5 (v : Int32) : gx_pf 3 5 v := ⟨_, _, _, .int, rfl, rfl, by decide +kernel, rfl, rfl⟩
theorem pf_W_3 (v : Int32) : gx_pf 4 3 v := ⟨_, _, _, .int, rfl, rfl, by decide +kernel, rfl, rfl⟩
theorem pf_E_3_1 : gx_pf 0 3 1 := ⟨_, _, _, .boolean, rfl, rfl, by decide +kernel, rfl, rfl⟩
theorem pf_E_9 (v : Int32) : gx_pf 0 9 v := ⟨_, _, _, .int, rfl, rfl, by decide +kernel, rfl, rfl⟩
theorem ln_M_101_x_M_weigh : gx_ln "EachBearsPillar$Mind" 101 mi_x_M_weigh := Or.inl (gx_wb2 gq_x_w2_1_ok 27 rfl)
theorem ln_M_104_x_R_hasBearer_1 : gx_ln "EachBearsPillar$Mind" 104 mi_x_R_hasBearer_1 := Or.inr (gx_nb2 gq_x_n2_0_ok 0 rfl)
theorem ln_M_111_x_M_firstOverloaded : gx_ln "EachBearsPillar$Mind" 111 mi_x_M_firstOverloaded := Or.inl (gx_wb2 gq_x_w2_1_ok 28 rfl)
theorem ln_M_115_x_M_firstFalling : gx_ln "EachBearsPillar$Mind" 115 mi_x_M_firstFalling := Or.inl (gx_wb2 gq_x_w2_1_ok 29 rfl)
theorem ln_M_118_x_M_isBorne : gx_ln "EachBearsPillar$Mind" 118 mi_x_M_isBorne := Or.inl (gx_wb2 gq_x_w2_2_ok 0 rfl)
theorem ln_M_48_x_E_setCell : gx_ln "EachBearsPillar$Mind" 48 mi_x_E_setCell := Or.inr (gx_nb2 gq_x_n2_0_ok 1 rfl)
theorem ln_M_53_x_E_copyCells : gx_ln "EachBearsPillar$Mind" 53 mi_x_E_copyCells := Or.inr (gx_nb2 gq_x_n2_0_ok 2 rfl)
theorem ln_M_60_x_E_cell : gx_ln "EachBearsPillar$Mind" 60 mi_x_E_cell := Or.inr (gx_nb2 gq_x_n2_0_ok 3 rfl)
theorem ln_M_85_x_M_topOf : gx_ln "EachBearsPillar$Mind" 85 mi_x_M_topOf := Or.inl (gx_wb2 gq_x_w2_2_ok 1 rfl)
theorem ln_M_88_x_M_canBear : gx_ln "EachBearsPillar$Mind" 88 mi_x_M_canBear := Or.inl (gx_wb2 gq_x_w2_2_ok 2 rfl)
theorem ln_M_92_x_M_mightOf : gx_ln "EachBearsPillar$Mind" 92 mi_x_M_mightOf := Or.inl (gx_wb2 gq_x_w2_2_ok 3 rfl)
theorem ln_M_95_x_M_shareOf : gx_ln "EachBearsPillar$Mind" 95 mi_x_M_shareOf := Or.inl (gx_wb2 gq_x_w2_2_ok 4 rfl)
theorem ln_M_98_x_M_stand : gx_ln "EachBearsPillar$Mind" 98 mi_x_M_stand := Or.inl (gx_wb2 gq_x_w2_2_ok 5 rfl)
theorem ln_O_34_x_M_topOf : gx_ln "EachBearsPillar$Orders" 34 mi_x_M_topOf := Or.inr (gx_nb3 gq_x_n3_0_ok 0 rfl)
theorem ln_O_38_x_M_canBear : gx_ln "EachBearsPillar$Orders" 38 mi_x_M_canBear := Or.inr (gx_nb3 gq_x_n3_0_ok 1 rfl)
theorem ln_O_42_x_M_mightOf : gx_ln "EachBearsPillar$Orders" 42 mi_x_M_mightOf := Or.inr (gx_nb3 gq_x_n3_0_ok 2 rfl)
theorem ln_O_45_x_E_setCell : gx_ln "EachBearsPillar$Orders" 45 mi_x_E_setCell := Or.inr (gx_nb3 gq_x_n3_0_ok 3 rfl)
theorem ln_O_49_x_O_spotOf : gx_ln "EachBearsPillar$Orders" 49 mi_x_O_spotOf := Or.inl (gx_wb3 gq_x_w3_1_ok 22 rfl)
theorem ln_O_53_x_O_waysOn : gx_ln "EachBearsPillar$Orders" 53 mi_x_O_waysOn := Or.inl (gx_wb3 gq_x_w3_1_ok 23 rfl)
theorem ln_O_56_x_E_cell : gx_ln "EachBearsPillar$Orders" 56 mi_x_E_cell := Or.inr (gx_nb3 gq_x_n3_0_ok 4 rfl)
theorem ln_O_60_x_I_bitCount : gx_ln "EachBearsPillar$Orders" 60 mi_x_I_bitCount := Or.inl (gx_wb3 gq_x_w3_1_ok 24 rfl)
theorem ln_O_66_x_O_bearsLeft : gx_ln "EachBearsPillar$Orders" 66 mi_x_O_bearsLeft := Or.inl (gx_wb3 gq_x_w3_1_ok 25 rfl)
theorem ln_O_70_x_O_waysWith : gx_ln "EachBearsPillar$Orders" 70 mi_x_O_waysWith := Or.inl (gx_wb3 gq_x_w3_1_ok 26 rfl)
theorem ln_O_77_x_O_mostOf : gx_ln "EachBearsPillar$Orders" 77 mi_x_O_mostOf := Or.inl (gx_wb3 gq_x_w3_1_ok 27 rfl)
theorem ln_O_80_x_O_leastNext : gx_ln "EachBearsPillar$Orders" 80 mi_x_O_leastNext := Or.inl (gx_wb3 gq_x_w3_1_ok 28 rfl)
theorem ln_R_40_x_E_copyCells : gx_ln "EachBearsPillar$Roof" 40 mi_x_E_copyCells := Or.inr (gx_nb2 gq_x_n2_0_ok 4 rfl)
theorem ln_R_44_x_E_setCell : gx_ln "EachBearsPillar$Roof" 44 mi_x_E_setCell := Or.inr (gx_nb2 gq_x_n2_0_ok 5 rfl)
theorem ln_T_31_x_E_setCell : gx_ln "EachBearsPillar$Text" 31 mi_x_E_setCell := Or.inr (gx_nb2 gq_x_n2_0_ok 6 rfl)
theorem ln_T_35_x_T_rewind : gx_ln "EachBearsPillar$Text" 35 mi_x_T_rewind := Or.inl (gx_wb2 gq_x_w2_2_ok 6 rfl)
theorem ln_T_38_x_T_readStatement : gx_ln "EachBearsPillar$Text" 38 mi_x_T_readStatement := Or.inl (gx_wb2 gq_x_w2_2_ok 7 rfl)
theorem ln_T_42_x_T_here : gx_ln "EachBearsPillar$Text" 42 mi_x_T_here := Or.inl (gx_wb2 gq_x_w2_2_ok 8 rfl)
theorem ln_T_46_x_T_formOf : gx_ln "EachBearsPillar$Text" 46 mi_x_T_formOf := Or.inl (gx_wb2 gq_x_w2_2_ok 9 rfl)
theorem ln_T_50_x_S_isEmpty : gx_ln "EachBearsPillar$Text" 50 mi_x_S_isEmpty := Or.inl (gx_wb2 gq_x_w2_2_ok 10 rfl)
theorem ln_T_55_x_S_length : gx_ln "EachBearsPillar$Text" 55 mi_x_S_length := Or.inl (gx_wb2 gq_x_w2_2_ok 11 rfl)
theorem ln_T_57_x_S_charAt : gx_ln "EachBearsPillar$Text" 57 mi_x_S_charAt := Or.inl (gx_wb2 gq_x_w2_2_ok 12 rfl)
theorem ln_T_61_x_T_readPart : gx_ln "EachBearsPillar$Text" 61 mi_x_T_readPart := Or.inl (gx_wb2 gq_x_w2_2_ok 13 rfl)
theorem ln_T_77_x_T_readKind : gx_ln "EachBearsPillar$Text" 77 mi_x_T_readKind := Or.inl (gx_wb2 gq_x_w2_2_ok 14 rfl)
theorem ln_T_80_x_T_readNumber : gx_ln "EachBearsPillar$Text" 80 mi_x_T_readNumber := Or.inl (gx_wb2 gq_x_w2_2_ok 15 rfl)
theorem ln_T_86_x_T_keepNumber : gx_ln "EachBearsPillar$Text" 86 mi_x_T_keepNumber := Or.inl (gx_wb2 gq_x_w2_2_ok 16 rfl)
theorem ln_T_90_x_E_cell : gx_ln "EachBearsPillar$Text" 90 mi_x_E_cell := Or.inr (gx_nb2 gq_x_n2_0_ok 7 rfl)
theorem ln_W_26_x_E_setCell : gx_ln "EachBearsPillar$Walk" 26 mi_x_E_setCell := Or.inr (gx_nb3 gq_x_n3_0_ok 5 rfl)
theorem ln_W_44_x_W_visit : gx_ln "EachBearsPillar$Walk" 44 mi_x_W_visit := Or.inl (gx_wb3 gq_x_w3_1_ok 29 rfl)
theorem ln_W_48_x_E_cell : gx_ln "EachBearsPillar$Walk" 48 mi_x_E_cell := Or.inr (gx_nb3 gq_x_n3_0_ok 6 rfl)
theorem ln_W_52_x_R_lastAt_1 : gx_ln "EachBearsPillar$Walk" 52 mi_x_R_lastAt_1 := Or.inr (gx_nb3 gq_x_n3_0_ok 7 rfl)
theorem ln_W_58_x_M_isFirm : gx_ln "EachBearsPillar$Walk" 58 mi_x_M_isFirm := Or.inr (gx_nb3 gq_x_n3_0_ok 8 rfl)
theorem ln_W_62_x_W_minutesTo : gx_ln "EachBearsPillar$Walk" 62 mi_x_W_minutesTo := Or.inl (gx_wb3 gq_x_w3_2_ok 0 rfl)
theorem ln_W_66_x_W_fewestTo : gx_ln "EachBearsPillar$Walk" 66 mi_x_W_fewestTo := Or.inl (gx_wb3 gq_x_w3_2_ok 1 rfl)
theorem ln_E_103_x_R_hasBearer_1 : gx_ln "EachBearsPillar" 103 mi_x_R_hasBearer_1 := Or.inr (gx_nb2 gq_x_n2_0_ok 8 rfl)
theorem ln_E_103_x_R_hasBearer_8 : gx_ln "EachBearsPillar" 103 mi_x_R_hasBearer_8 := Or.inr (gx_nb2 gq_x_n2_0_ok 8 rfl)
theorem ln_E_109_x_R_lastAt_1 : gx_ln "EachBearsPillar" 109 mi_x_R_lastAt_1 := Or.inr (gx_nb2 gq_x_n2_0_ok 9 rfl)
theorem ln_E_115_x_M_asTold : gx_ln "EachBearsPillar" 115 mi_x_M_asTold := Or.inr (gx_nb2 gq_x_n2_0_ok 10 rfl)
theorem ln_E_118_x_M_topOf : gx_ln "EachBearsPillar" 118 mi_x_M_topOf := Or.inr (gx_nb2 gq_x_n2_0_ok 11 rfl)
theorem ln_E_125_x_E_cell : gx_ln "EachBearsPillar" 125 mi_x_E_cell := Or.inl (gx_wb1 gq_x_w1_1_ok 26 rfl)
theorem ln_E_135_x_M_canBear : gx_ln "EachBearsPillar" 135 mi_x_M_canBear := Or.inr (gx_nb2 gq_x_n2_0_ok 12 rfl)
theorem ln_E_139_x_M_mightOf : gx_ln "EachBearsPillar" 139 mi_x_M_mightOf := Or.inr (gx_nb2 gq_x_n2_0_ok 13 rfl)
theorem ln_E_142_x_M_standAndWeigh : gx_ln "EachBearsPillar" 142 mi_x_M_standAndWeigh := Or.inr (gx_nb2 gq_x_n2_0_ok 14 rfl)
theorem ln_E_148_x_M_isFirm : gx_ln "EachBearsPillar" 148 mi_x_M_isFirm := Or.inr (gx_nb2 gq_x_n2_0_ok 15 rfl)
theorem ln_E_152_x_M_firstOverloaded : gx_ln "EachBearsPillar" 152 mi_x_M_firstOverloaded := Or.inr (gx_nb2 gq_x_n2_0_ok 16 rfl)
theorem ln_E_155_x_M_firstFalling : gx_ln "EachBearsPillar" 155 mi_x_M_firstFalling := Or.inr (gx_nb2 gq_x_n2_0_ok 17 rfl)
theorem ln_E_161_x_E_sumOf : gx_ln "EachBearsPillar" 161 mi_x_E_sumOf := Or.inl (gx_wb3 gq_x_w3_2_ok 2 rfl)
theorem ln_E_168_x_E_raiseBoth : gx_ln "EachBearsPillar" 168 mi_x_E_raiseBoth := Or.inl (gx_wb3 gq_x_w3_2_ok 3 rfl)
theorem ln_E_174_x_E_setCell : gx_ln "EachBearsPillar" 174 mi_x_E_setCell := Or.inl (gx_wb1 gq_x_w1_1_ok 27 rfl)
theorem ln_E_178_x_O_fill : gx_ln "EachBearsPillar" 178 mi_x_O_fill := Or.inr (gx_nb3 gq_x_n3_0_ok 9 rfl)
theorem ln_E_181_x_O_total : gx_ln "EachBearsPillar" 181 mi_x_O_total := Or.inr (gx_nb3 gq_x_n3_0_ok 10 rfl)
theorem ln_E_184_x_O_firstUnder : gx_ln "EachBearsPillar" 184 mi_x_O_firstUnder := Or.inr (gx_nb3 gq_x_n3_0_ok 11 rfl)
theorem ln_E_191_x_M_weigh : gx_ln "EachBearsPillar" 191 mi_x_M_weigh := Or.inr (gx_nb3 gq_x_n3_0_ok 12 rfl)
theorem ln_E_194_x_M_isBorne : gx_ln "EachBearsPillar" 194 mi_x_M_isBorne := Or.inr (gx_nb3 gq_x_n3_0_ok 13 rfl)
theorem ln_E_197_x_M_stand : gx_ln "EachBearsPillar" 197 mi_x_M_stand := Or.inr (gx_nb3 gq_x_n3_0_ok 14 rfl)
theorem ln_E_203_x_E_firstUntrue : gx_ln "EachBearsPillar" 203 mi_x_E_firstUntrue := Or.inl (gx_wb3 gq_x_w3_2_ok 4 rfl)
theorem ln_E_211_x_W_explore : gx_ln "EachBearsPillar" 211 mi_x_W_explore := Or.inr (gx_nb3 gq_x_n3_0_ok 15 rfl)
theorem ln_E_214_x_W_fewestTo : gx_ln "EachBearsPillar" 214 mi_x_W_fewestTo := Or.inr (gx_nb3 gq_x_n3_0_ok 16 rfl)
theorem ln_E_217_x_W_reachedWithin : gx_ln "EachBearsPillar" 217 mi_x_W_reachedWithin := Or.inr (gx_nb3 gq_x_n3_0_ok 17 rfl)
theorem ln_E_220_x_W_lowestAt : gx_ln "EachBearsPillar" 220 mi_x_W_lowestAt := Or.inr (gx_nb3 gq_x_n3_0_ok 18 rfl)
theorem ln_E_223_x_R_become_1_15 : gx_ln "EachBearsPillar" 223 mi_x_R_become_1_15 := Or.inr (gx_nb2 gq_x_n2_0_ok 18 rfl)
theorem ln_E_223_x_R_become_1_8 : gx_ln "EachBearsPillar" 223 mi_x_R_become_1_8 := Or.inr (gx_nb2 gq_x_n2_0_ok 18 rfl)
theorem ln_E_223_x_R_become_15_1 : gx_ln "EachBearsPillar" 223 mi_x_R_become_15_1 := Or.inr (gx_nb2 gq_x_n2_0_ok 18 rfl)
theorem ln_E_223_x_R_become_8_1 : gx_ln "EachBearsPillar" 223 mi_x_R_become_8_1 := Or.inr (gx_nb2 gq_x_n2_0_ok 18 rfl)
theorem ln_E_226_x_T_rewind : gx_ln "EachBearsPillar" 226 mi_x_T_rewind := Or.inr (gx_nb2 gq_x_n2_0_ok 19 rfl)
theorem ln_E_232_x_T_readStatement : gx_ln "EachBearsPillar" 232 mi_x_T_readStatement := Or.inr (gx_nb2 gq_x_n2_0_ok 20 rfl)
theorem ln_E_235_x_E_enterStatement : gx_ln "EachBearsPillar" 235 mi_x_E_enterStatement := Or.inl (gx_wb2 gq_x_w2_2_ok 17 rfl)
theorem ln_E_244_x_R_addBearer_8 : gx_ln "EachBearsPillar" 244 mi_x_R_addBearer_8 := Or.inr (gx_nb2 gq_x_n2_0_ok 21 rfl)
theorem ln_E_248_x_E_raise : gx_ln "EachBearsPillar" 248 mi_x_E_raise := Or.inl (gx_wb3 gq_x_w3_2_ok 5 rfl)
theorem ln_E_69_x_E_refuse : gx_ln "EachBearsPillar" 69 mi_x_E_refuse := Or.inl (gx_wb1 gq_x_w1_1_ok 28 rfl)
theorem ln_E_76_x_T_append : gx_ln "EachBearsPillar" 76 mi_x_T_append := Or.inr (gx_nb1 gq_x_n1_1_ok 7 rfl)
theorem ln_E_79_x_T_faultOfForm : gx_ln "EachBearsPillar" 79 mi_x_T_faultOfForm := Or.inr (gx_nb2 gq_x_n2_0_ok 22 rfl)
theorem ln_E_83_x_E_enterStatements : gx_ln "EachBearsPillar" 83 mi_x_E_enterStatements := Or.inl (gx_wb2 gq_x_w2_2_ok 18 rfl)
theorem ln_E_86_x_E_isSpan : gx_ln "EachBearsPillar" 86 mi_x_E_isSpan := Or.inl (gx_wb2 gq_x_w2_2_ok 19 rfl)
theorem ln_E_93_x_E_exchange : gx_ln "EachBearsPillar" 93 mi_x_E_exchange := Or.inl (gx_wb2 gq_x_w2_2_ok 20 rfl)
theorem wr_constant_E_200 : Cond.constant "EachBearsPillar" 200 1664525 ∈ gx_big := (gx_wb3 gq_x_w3_2_ok 6 rfl)
theorem wr_constant_E_201 : Cond.constant "EachBearsPillar" 201 1013904223 ∈ gx_big := (gx_wb3 gq_x_w3_2_ok 7 rfl)
theorem wr_constant_E_202 : Cond.constant "EachBearsPillar" 202 2147483647 ∈ gx_big := (gx_wb3 gq_x_w3_2_ok 8 rfl)
theorem wr_constant_I_265 : Cond.constant "java/lang/Integer" 265 1431655765 ∈ gx_big := (gx_wb3 gq_x_w3_2_ok 9 rfl)
theorem wr_constant_I_266 : Cond.constant "java/lang/Integer" 266 858993459 ∈ gx_big := (gx_wb3 gq_x_w3_2_ok 10 rfl)
theorem wr_constant_I_267 : Cond.constant "java/lang/Integer" 267 252645135 ∈ gx_big := (gx_wb3 gq_x_w3_2_ok 11 rfl)
theorem wr_methodLink_M_108 : Cond.methodLink "EachBearsPillar$Mind" 108 ⟨"java/lang/Math", "min", "(II)I"⟩ ∈ gx_big := (gx_wb2 gq_x_w2_2_ok 21 rfl)
theorem wr_methodLink_M_76 : Cond.methodLink "EachBearsPillar$Mind" 76 ⟨"java/lang/Math", "max", "(II)I"⟩ ∈ gx_big := (gx_wb2 gq_x_w2_2_ok 22 rfl)
theorem wr_methodLink_E_206 : Cond.methodLink "EachBearsPillar" 206 ⟨"java/lang/Math", "min", "(II)I"⟩ ∈ gx_big := (gx_wb3 gq_x_w3_2_ok 12 rfl)
theorem w_min_static : Cond.static Lib.Math.min.name ∈ gx_big := (gx_wb2 gq_x_w2_2_ok 23 rfl)
theorem w_min_code : Cond.code Lib.Math.min.name Lib.Math.min.code 2 (some .int) ∈ gx_big := (gx_ic2 (i := 212) rfl rfl)
theorem w_max_static : Cond.static Lib.Math.max.name ∈ gx_big := (gx_wb2 gq_x_w2_2_ok 24 rfl)
theorem w_max_code : Cond.code Lib.Math.max.name Lib.Math.max.code 2 (some .int) ∈ gx_big := (gx_ic2 (i := 185) rfl rfl)
theorem w_math_init : Cond.initialized "java/lang/Math" ∈ gx_big := (gx_wb1 gq_x_w1_1_ok 29 rfl)
