/-! ===== the law: words of its start ===== -/
def gq_st_w1_0 : List (Nat × Cond) := [(14, Cond.classLink "EachBearsPillarLaw" 7 "EachBearsPillar"), (15, Cond.instantiable "EachBearsPillar" 11), (1, Cond.initialized "EachBearsPillar"), (17, Cond.instanceMethod ⟨"EachBearsPillar", "<init>", "()V"⟩), (16, Cond.methodLink "EachBearsPillarLaw" 9 ⟨"EachBearsPillar", "<init>", "()V"⟩), (7, Cond.initialized "EachBearsPillarModel"), (8, Cond.initialized "java/lang/String"), (10, Cond.initialized "jdk/internal/util/Preconditions")]
theorem gq_st_w1_0_ok : gx_wl1 gq_st_w1_0 = true := by decide +kernel
def gq_st_w3_0 : List (Nat × Cond) := [(160, Cond.classLink "EachBearsPillarLaw" 10 "EachBearsPillarModel"), (161, Cond.instantiable "EachBearsPillarModel" 35), (163, Cond.instanceMethod ⟨"EachBearsPillarModel", "<init>", "()V"⟩), (162, Cond.methodLink "EachBearsPillarLaw" 12 ⟨"EachBearsPillarModel", "<init>", "()V"⟩)]
theorem gq_st_w3_0_ok : gx_wl3 gq_st_w3_0 = true := by decide +kernel
theorem se_E_cl : Cond.classLink R_law 7 "EachBearsPillar" ∈ gx_big := (gx_wb1 gq_st_w1_0_ok 0 rfl)
theorem se_E_it : Cond.instantiable "EachBearsPillar" 11 ∈ gx_big := (gx_wb1 gq_st_w1_0_ok 1 rfl)
theorem se_E_in : Cond.initialized "EachBearsPillar" ∈ gx_big := (gx_wb1 gq_st_w1_0_ok 2 rfl)
theorem se_E_im : Cond.instanceMethod mi_i_E.1 ∈ gx_big := (gx_wb1 gq_st_w1_0_ok 3 rfl)
theorem se_E_co : Cond.code mi_i_E.1 mi_i_E.2.1 mi_i_E.2.2.1 none ∈ gx_big := (gx_ic1 (i := 18) rfl rfl)
theorem se_E_ln : Cond.methodLink R_law 9 mi_i_E.1 ∈ gx_big := (gx_wb1 gq_st_w1_0_ok 4 rfl)
abbrev zs_E : List Value := [.null, .null, .null, .int 0, .null, .null, .null, .null, .null, .int 0, .null]
theorem se_E_fs : ∀ j, j < 11 → ∃ t, parseFieldDescriptor (gx_FE j).2.2.1 = some t ∧ defaultValue t = vp_V zs_E j := by
  intro j hj
  match j, hj with
  | 0, _ => exact ⟨.object "EachBearsPillar$Roof", by decide +kernel, rfl⟩
  | 1, _ => exact ⟨.object "EachBearsPillar$Roof", by decide +kernel, rfl⟩
  | 2, _ => exact ⟨.object "EachBearsPillar$Roof", by decide +kernel, rfl⟩
  | 3, _ => exact ⟨.boolean, by decide +kernel, rfl⟩
  | 4, _ => exact ⟨.object "EachBearsPillar$Mind", by decide +kernel, rfl⟩
  | 5, _ => exact ⟨.object "EachBearsPillar$Text", by decide +kernel, rfl⟩
  | 6, _ => exact ⟨.object "EachBearsPillar$Walk", by decide +kernel, rfl⟩
  | 7, _ => exact ⟨.object "EachBearsPillar$Orders", by decide +kernel, rfl⟩
  | 8, _ => exact ⟨.array .int, by decide +kernel, rfl⟩
  | 9, _ => exact ⟨.int, by decide +kernel, rfl⟩
  | 10, _ => exact ⟨.array .int, by decide +kernel, rfl⟩
  | n + 11, h => exact absurd h (by omega)
theorem se_D_cl : Cond.classLink R_law 10 "EachBearsPillarModel" ∈ gx_big := (gx_wb3 gq_st_w3_0_ok 0 rfl)
theorem se_D_it : Cond.instantiable "EachBearsPillarModel" 35 ∈ gx_big := (gx_wb3 gq_st_w3_0_ok 1 rfl)
theorem se_D_in : Cond.initialized "EachBearsPillarModel" ∈ gx_big := (gx_wb1 gq_st_w1_0_ok 5 rfl)
theorem se_D_im : Cond.instanceMethod mi_i_D.1 ∈ gx_big := (gx_wb3 gq_st_w3_0_ok 2 rfl)
theorem se_D_co : Cond.code mi_i_D.1 mi_i_D.2.1 mi_i_D.2.2.1 none ∈ gx_big := (gx_ic3 (i := 164) rfl rfl)
theorem se_D_ln : Cond.methodLink R_law 12 mi_i_D.1 ∈ gx_big := (gx_wb3 gq_st_w3_0_ok 3 rfl)
abbrev zs_D : List Value := [.int 0, .int 0, .int 0, .int 0, .int 0, .null, .null, .null, .null, .null, .null, .null, .null, .null, .int 0, .int 0, .int 0, .int 0, .null, .int 0, .null, .null, .int 0, .int 0, .null, .int 0, .int 0, .int 0, .int 0, .null, .null, .null, .null, .null, .null]
theorem se_D_fs : ∀ j, j < 35 → ∃ t, parseFieldDescriptor (gx_FD j).2.2.1 = some t ∧ defaultValue t = vp_V zs_D j := by
  intro j hj
  match j, hj with
  | 0, _ => exact ⟨.int, by decide +kernel, rfl⟩
  | 1, _ => exact ⟨.int, by decide +kernel, rfl⟩
  | 2, _ => exact ⟨.int, by decide +kernel, rfl⟩
  | 3, _ => exact ⟨.int, by decide +kernel, rfl⟩
  | 4, _ => exact ⟨.int, by decide +kernel, rfl⟩
  | 5, _ => exact ⟨.array .int, by decide +kernel, rfl⟩
  | 6, _ => exact ⟨.array .int, by decide +kernel, rfl⟩
  | 7, _ => exact ⟨.array .int, by decide +kernel, rfl⟩
  | 8, _ => exact ⟨.array .int, by decide +kernel, rfl⟩
  | 9, _ => exact ⟨.array .int, by decide +kernel, rfl⟩
  | 10, _ => exact ⟨.array .int, by decide +kernel, rfl⟩
  | 11, _ => exact ⟨.array .int, by decide +kernel, rfl⟩
  | 12, _ => exact ⟨.array .int, by decide +kernel, rfl⟩
  | 13, _ => exact ⟨.array .int, by decide +kernel, rfl⟩
  | 14, _ => exact ⟨.int, by decide +kernel, rfl⟩
  | 15, _ => exact ⟨.int, by decide +kernel, rfl⟩
  | 16, _ => exact ⟨.int, by decide +kernel, rfl⟩
  | 17, _ => exact ⟨.int, by decide +kernel, rfl⟩
  | 18, _ => exact ⟨.array .int, by decide +kernel, rfl⟩
  | 19, _ => exact ⟨.int, by decide +kernel, rfl⟩
  | 20, _ => exact ⟨.array .int, by decide +kernel, rfl⟩
  | 21, _ => exact ⟨.array .int, by decide +kernel, rfl⟩
  | 22, _ => exact ⟨.int, by decide +kernel, rfl⟩
  | 23, _ => exact ⟨.int, by decide +kernel, rfl⟩
  | 24, _ => exact ⟨.array .int, by decide +kernel, rfl⟩
  | 25, _ => exact ⟨.boolean, by decide +kernel, rfl⟩
  | 26, _ => exact ⟨.int, by decide +kernel, rfl⟩
  | 27, _ => exact ⟨.int, by decide +kernel, rfl⟩
  | 28, _ => exact ⟨.int, by decide +kernel, rfl⟩
  | 29, _ => exact ⟨.array .int, by decide +kernel, rfl⟩
  | 30, _ => exact ⟨.array .int, by decide +kernel, rfl⟩
  | 31, _ => exact ⟨.array .int, by decide +kernel, rfl⟩
  | 32, _ => exact ⟨.array .int, by decide +kernel, rfl⟩
  | 33, _ => exact ⟨.array .int, by decide +kernel, rfl⟩
  | 34, _ => exact ⟨.array .int, by decide +kernel, rfl⟩
  | n + 35, h => exact absurd h (by omega)
theorem se_si : Cond.initialized "java/lang/String" ∈ gx_big := (gx_wb1 gq_st_w1_0_ok 6 rfl)
theorem se_pi : Cond.initialized "jdk/internal/util/Preconditions" ∈ gx_big := (gx_wb1 gq_st_w1_0_ok 7 rfl)
theorem se_sc : Cond.laysStatic "java/lang/String" "COMPACT_STRINGS" "Z" ∈ lw_tbl := (List.mem_append_right _ (gx_mp2 (List.mem_of_getElem? (i := 47) rfl)))
theorem se_pf : Cond.laysStatic "jdk/internal/util/Preconditions" "SIOOBE_FORMATTER" "Ljava/util/function/BiFunction;" ∈ lw_tbl := (List.mem_append_right _ (gx_mp2 (List.mem_of_getElem? (i := 63) rfl)))
theorem se_t0 : Cond.stringRef "EachBearsPillar$Text" 65 "KN,D;" ∈ lw_tbl := (List.mem_append_right _ (gx_mp2 (List.mem_of_getElem? (i := 28) rfl)))
theorem se_t1 : Cond.stringRef "EachBearsPillar$Text" 67 "D,N;" ∈ lw_tbl := (List.mem_append_right _ (gx_mp2 (List.mem_of_getElem? (i := 29) rfl)))
theorem se_t2 : Cond.stringRef "EachBearsPillar$Text" 69 "N,D;" ∈ lw_tbl := (List.mem_append_right _ (gx_mp2 (List.mem_of_getElem? (i := 30) rfl)))
theorem se_t3 : Cond.stringRef "EachBearsPillar$Text" 71 "N;" ∈ lw_tbl := (List.mem_append_right _ (gx_mp2 (List.mem_of_getElem? (i := 31) rfl)))
theorem se_t4 : Cond.stringRef "EachBearsPillar$Text" 73 "D,D;" ∈ lw_tbl := (List.mem_append_right _ (gx_mp2 (List.mem_of_getElem? (i := 32) rfl)))
theorem se_t5 : Cond.stringRef "EachBearsPillar$Text" 75 "" ∈ lw_tbl := (List.mem_append_right _ (gx_mp2 (List.mem_of_getElem? (i := 33) rfl)))
theorem se_t6 : Cond.stringRef "EachBearsPillar$Text" 84 "bctslh" ∈ lw_tbl := (List.mem_append_right _ (gx_mp2 (List.mem_of_getElem? (i := 94) rfl)))
