/-! ===== the constructors without calls of our own ===== -/
def gq_i_w1_0 : List (Nat × Cond) := [(20, Cond.instanceMethod Lib.objectInit), (27, Cond.methodLink "EachBearsPillar$Roof" 3 Lib.objectInit), (28, Cond.fieldLink "EachBearsPillar$Roof" 9 "EachBearsPillar$Roof" "bearers" "I"), (32, Cond.fieldLink "EachBearsPillar$Roof" 15 "EachBearsPillar$Roof" "at" "I"), (36, Cond.fieldLink "EachBearsPillar$Roof" 18 "EachBearsPillar$Roof" "level" "I"), (40, Cond.fieldLink "EachBearsPillar$Roof" 21 "EachBearsPillar$Roof" "kind" "[I"), (43, Cond.fieldLink "EachBearsPillar$Roof" 25 "EachBearsPillar$Roof" "strength" "[I"), (46, Cond.fieldLink "EachBearsPillar$Roof" 28 "EachBearsPillar$Roof" "height" "[I"), (49, Cond.fieldLink "EachBearsPillar$Roof" 31 "EachBearsPillar$Roof" "block" "[I"), (52, Cond.fieldLink "EachBearsPillar$Roof" 34 "EachBearsPillar$Roof" "weight" "[I"), (55, Cond.fieldLink "EachBearsPillar$Roof" 37 "EachBearsPillar$Roof" "ground" "[I"), (83, Cond.methodLink "EachBearsPillar$Mind" 3 Lib.objectInit), (84, Cond.fieldLink "EachBearsPillar$Mind" 9 "EachBearsPillar$Mind" "roof" "LEachBearsPillar$Roof;"), (87, Cond.fieldLink "EachBearsPillar$Mind" 15 "EachBearsPillar$Mind" "at" "I"), (89, Cond.fieldLink "EachBearsPillar$Mind" 19 "EachBearsPillar$Mind" "level" "I"), (92, Cond.fieldLink "EachBearsPillar$Mind" 22 "EachBearsPillar$Mind" "idle" "I"), (94, Cond.fieldLink "EachBearsPillar$Mind" 25 "EachBearsPillar$Mind" "who" "[I"), (96, Cond.fieldLink "EachBearsPillar$Mind" 29 "EachBearsPillar$Mind" "raised" "[I"), (98, Cond.fieldLink "EachBearsPillar$Mind" 32 "EachBearsPillar$Mind" "weight" "[I"), (101, Cond.fieldLink "EachBearsPillar$Mind" 35 "EachBearsPillar$Mind" "bearing" "[I"), (103, Cond.fieldLink "EachBearsPillar$Mind" 38 "EachBearsPillar$Mind" "might" "[I"), (104, Cond.fieldLink "EachBearsPillar$Mind" 41 "EachBearsPillar$Mind" "load" "[I"), (132, Cond.methodLink "EachBearsPillar$Text" 3 Lib.objectInit), (133, Cond.fieldLink "EachBearsPillar$Text" 9 "EachBearsPillar$Text" "letters" "[I"), (134, Cond.fieldLink "EachBearsPillar$Text" 15 "EachBearsPillar$Text" "length" "I"), (136, Cond.fieldLink "EachBearsPillar$Text" 19 "EachBearsPillar$Text" "place" "I"), (138, Cond.fieldLink "EachBearsPillar$Text" 22 "EachBearsPillar$Text" "opener" "I"), (140, Cond.fieldLink "EachBearsPillar$Text" 25 "EachBearsPillar$Text" "numbers" "[I"), (142, Cond.fieldLink "EachBearsPillar$Text" 28 "EachBearsPillar$Text" "numbersRead" "I"), (161, Cond.methodLink "EachBearsPillar$Walk" 3 Lib.objectInit)]
theorem gq_i_w1_0_ok : gx_wl1 gq_i_w1_0 = true := by decide +kernel
def gq_i_w1_1 : List (Nat × Cond) := [(162, Cond.fieldLink "EachBearsPillar$Walk" 9 "EachBearsPillar$Walk" "mind" "LEachBearsPillar$Mind;"), (163, Cond.fieldLink "EachBearsPillar$Walk" 15 "EachBearsPillar$Walk" "minutes" "[I"), (164, Cond.fieldLink "EachBearsPillar$Walk" 19 "EachBearsPillar$Walk" "queue" "[I"), (165, Cond.fieldLink "EachBearsPillar$Walk" 22 "EachBearsPillar$Walk" "queued" "I"), (180, Cond.methodLink "EachBearsPillar$Orders" 3 Lib.objectInit), (181, Cond.fieldLink "EachBearsPillar$Orders" 9 "EachBearsPillar$Orders" "mind" "LEachBearsPillar$Mind;"), (182, Cond.fieldLink "EachBearsPillar$Orders" 15 "EachBearsPillar$Orders" "most" "[I"), (183, Cond.fieldLink "EachBearsPillar$Orders" 19 "EachBearsPillar$Orders" "ways" "[I")]
theorem gq_i_w1_1_ok : gx_wl1 gq_i_w1_1 = true := by decide +kernel
def gq_i_w2_0 : List (Nat × Cond) := [(132, Cond.arrayClass .int)]
theorem gq_i_w2_0_ok : gx_wl2 gq_i_w2_0 = true := by decide +kernel
def gq_i_w3_0 : List (Nat × Cond) := [(165, Cond.methodLink "EachBearsPillarModel" 1 Lib.objectInit), (166, Cond.fieldLink "EachBearsPillarModel" 7 "EachBearsPillarModel" "bearers" "I"), (167, Cond.fieldLink "EachBearsPillarModel" 13 "EachBearsPillarModel" "at" "I"), (168, Cond.fieldLink "EachBearsPillarModel" 16 "EachBearsPillarModel" "level" "I"), (169, Cond.fieldLink "EachBearsPillarModel" 19 "EachBearsPillarModel" "fed" "I"), (170, Cond.fieldLink "EachBearsPillarModel" 22 "EachBearsPillarModel" "rows" "I"), (171, Cond.fieldLink "EachBearsPillarModel" 25 "EachBearsPillarModel" "kind" "[I"), (172, Cond.fieldLink "EachBearsPillarModel" 29 "EachBearsPillarModel" "strength" "[I"), (173, Cond.fieldLink "EachBearsPillarModel" 32 "EachBearsPillarModel" "tall" "[I"), (174, Cond.fieldLink "EachBearsPillarModel" 35 "EachBearsPillarModel" "block" "[I"), (175, Cond.fieldLink "EachBearsPillarModel" 38 "EachBearsPillarModel" "span" "[I"), (176, Cond.fieldLink "EachBearsPillarModel" 41 "EachBearsPillarModel" "ground" "[I"), (177, Cond.fieldLink "EachBearsPillarModel" 44 "EachBearsPillarModel" "text" "[I"), (178, Cond.fieldLink "EachBearsPillarModel" 47 "EachBearsPillarModel" "row" "[I"), (179, Cond.fieldLink "EachBearsPillarModel" 50 "EachBearsPillarModel" "refused" "[I"), (180, Cond.fieldLink "EachBearsPillarModel" 53 "EachBearsPillarModel" "place" "I"), (181, Cond.fieldLink "EachBearsPillarModel" 56 "EachBearsPillarModel" "one" "I"), (182, Cond.fieldLink "EachBearsPillarModel" 59 "EachBearsPillarModel" "two" "I"), (183, Cond.fieldLink "EachBearsPillarModel" 62 "EachBearsPillarModel" "sort" "I"), (184, Cond.fieldLink "EachBearsPillarModel" 65 "EachBearsPillarModel" "stands" "[I"), (185, Cond.fieldLink "EachBearsPillarModel" 68 "EachBearsPillarModel" "slack" "I"), (186, Cond.fieldLink "EachBearsPillarModel" 71 "EachBearsPillarModel" "minutes" "[I"), (187, Cond.fieldLink "EachBearsPillarModel" 74 "EachBearsPillarModel" "waits" "[I"), (188, Cond.fieldLink "EachBearsPillarModel" 77 "EachBearsPillarModel" "waiting" "I"), (189, Cond.fieldLink "EachBearsPillarModel" 80 "EachBearsPillarModel" "seed" "I"), (190, Cond.fieldLink "EachBearsPillarModel" 83 "EachBearsPillarModel" "keptSpan" "[I"), (191, Cond.fieldLink "EachBearsPillarModel" 86 "EachBearsPillarModel" "hasImage" "Z"), (192, Cond.fieldLink "EachBearsPillarModel" 90 "EachBearsPillarModel" "imageBearers" "I"), (193, Cond.fieldLink "EachBearsPillarModel" 93 "EachBearsPillarModel" "imageAt" "I"), (194, Cond.fieldLink "EachBearsPillarModel" 96 "EachBearsPillarModel" "imageLevel" "I")]
theorem gq_i_w3_0_ok : gx_wl3 gq_i_w3_0 = true := by decide +kernel
def gq_i_w3_1 : List (Nat × Cond) := [(195, Cond.fieldLink "EachBearsPillarModel" 99 "EachBearsPillarModel" "imageKind" "[I"), (196, Cond.fieldLink "EachBearsPillarModel" 102 "EachBearsPillarModel" "imageStrength" "[I"), (197, Cond.fieldLink "EachBearsPillarModel" 105 "EachBearsPillarModel" "imageTall" "[I"), (198, Cond.fieldLink "EachBearsPillarModel" 108 "EachBearsPillarModel" "imageBlock" "[I"), (199, Cond.fieldLink "EachBearsPillarModel" 111 "EachBearsPillarModel" "imageSpan" "[I"), (200, Cond.fieldLink "EachBearsPillarModel" 114 "EachBearsPillarModel" "imageGround" "[I")]
theorem gq_i_w3_1_ok : gx_wl3 gq_i_w3_1 = true := by decide +kernel
theorem wi_oi : Cond.instanceMethod Lib.objectInit ∈ gx_big := (gx_wb1 gq_i_w1_0_ok 0 rfl)
theorem wi_oc : Cond.code Lib.objectInit ⟨#[0xb1]⟩ 1 none ∈ gx_big := (gx_ic1 (i := 21) rfl rfl)
theorem wi_ac : Cond.arrayClass .int ∈ gx_big := (gx_wb2 gq_i_w2_0_ok 0 rfl)
def mi_i_R : gn_Mi := (⟨"EachBearsPillar$Roof", "<init>", "()V"⟩, prog_4_method_1_code, 1, { frames := 1, cells := 6, slots := 50, locals := 12 })
def dl_i_R : List (Nat × Instr × Nat) := [(0, .aload_n 0, 1), (1, .invokespecial 3, 3), (4, .aload_n 0, 1), (5, .iconst 0, 1), (6, .putfield 9, 3), (9, .aload_n 0, 1), (10, .iconst 0, 1), (11, .putfield 15, 3), (14, .aload_n 0, 1), (15, .iconst 0, 1), (16, .putfield 18, 3), (19, .aload_n 0, 1), (20, .bipush 7, 2), (22, .newarray .int, 2), (24, .putfield 21, 3), (27, .aload_n 0, 1), (28, .bipush 7, 2), (30, .newarray .int, 2), (32, .putfield 25, 3), (35, .aload_n 0, 1), (36, .bipush 7, 2), (38, .newarray .int, 2), (40, .putfield 28, 3), (43, .aload_n 0, 1), (44, .bipush 7, 2), (46, .newarray .int, 2), (48, .putfield 31, 3), (51, .aload_n 0, 1), (52, .bipush 6, 2), (54, .newarray .int, 2), (56, .putfield 34, 3), (59, .aload_n 0, 1), (60, .bipush 16, 2), (62, .newarray .int, 2), (64, .putfield 37, 3), (67, .return_, 1)]
theorem dt_i_R : ∀ q ∈ dl_i_R, decode prog_4_method_1_code q.1 = .ok (q.2.1, q.2.2) := by decide +kernel
theorem wl_i_R : Cond.methodLink "EachBearsPillar$Roof" 3 Lib.objectInit ∈ gx_big := (gx_wb1 gq_i_w1_0_ok 1 rfl)
theorem fi_i_R_0 : ∃ (C : String) (T : u_T) (N : Nat), gx_cl[1]? = some (C, T, N) ∧ 0 < N ∧ Cond.fieldLink "EachBearsPillar$Roof" 9 (T 0).1 (T 0).2.1 (T 0).2.2.1 ∈ gx_big ∧ parseFieldDescriptor (T 0).2.2.1 = some (.int) ∧ ((T 0).2.2.2 = true → (T 0).1 = "EachBearsPillar$Roof") := ⟨_, _, _, rfl, by decide, (gx_wb1 gq_i_w1_0_ok 2 rfl), by decide +kernel, fun _ => rfl⟩
theorem fi_i_R_1 : ∃ (C : String) (T : u_T) (N : Nat), gx_cl[1]? = some (C, T, N) ∧ 1 < N ∧ Cond.fieldLink "EachBearsPillar$Roof" 15 (T 1).1 (T 1).2.1 (T 1).2.2.1 ∈ gx_big ∧ parseFieldDescriptor (T 1).2.2.1 = some (.int) ∧ ((T 1).2.2.2 = true → (T 1).1 = "EachBearsPillar$Roof") := ⟨_, _, _, rfl, by decide, (gx_wb1 gq_i_w1_0_ok 3 rfl), by decide +kernel, fun _ => rfl⟩
theorem fi_i_R_2 : ∃ (C : String) (T : u_T) (N : Nat), gx_cl[1]? = some (C, T, N) ∧ 2 < N ∧ Cond.fieldLink "EachBearsPillar$Roof" 18 (T 2).1 (T 2).2.1 (T 2).2.2.1 ∈ gx_big ∧ parseFieldDescriptor (T 2).2.2.1 = some (.int) ∧ ((T 2).2.2.2 = true → (T 2).1 = "EachBearsPillar$Roof") := ⟨_, _, _, rfl, by decide, (gx_wb1 gq_i_w1_0_ok 4 rfl), by decide +kernel, fun _ => rfl⟩
theorem fi_i_R_3 : ∃ (C : String) (T : u_T) (N : Nat), gx_cl[1]? = some (C, T, N) ∧ 3 < N ∧ Cond.fieldLink "EachBearsPillar$Roof" 21 (T 3).1 (T 3).2.1 (T 3).2.2.1 ∈ gx_big ∧ parseFieldDescriptor (T 3).2.2.1 = some (.array .int) ∧ ((T 3).2.2.2 = true → (T 3).1 = "EachBearsPillar$Roof") := ⟨_, _, _, rfl, by decide, (gx_wb1 gq_i_w1_0_ok 5 rfl), by decide +kernel, fun _ => rfl⟩
theorem fi_i_R_4 : ∃ (C : String) (T : u_T) (N : Nat), gx_cl[1]? = some (C, T, N) ∧ 4 < N ∧ Cond.fieldLink "EachBearsPillar$Roof" 25 (T 4).1 (T 4).2.1 (T 4).2.2.1 ∈ gx_big ∧ parseFieldDescriptor (T 4).2.2.1 = some (.array .int) ∧ ((T 4).2.2.2 = true → (T 4).1 = "EachBearsPillar$Roof") := ⟨_, _, _, rfl, by decide, (gx_wb1 gq_i_w1_0_ok 6 rfl), by decide +kernel, fun _ => rfl⟩
theorem fi_i_R_5 : ∃ (C : String) (T : u_T) (N : Nat), gx_cl[1]? = some (C, T, N) ∧ 5 < N ∧ Cond.fieldLink "EachBearsPillar$Roof" 28 (T 5).1 (T 5).2.1 (T 5).2.2.1 ∈ gx_big ∧ parseFieldDescriptor (T 5).2.2.1 = some (.array .int) ∧ ((T 5).2.2.2 = true → (T 5).1 = "EachBearsPillar$Roof") := ⟨_, _, _, rfl, by decide, (gx_wb1 gq_i_w1_0_ok 7 rfl), by decide +kernel, fun _ => rfl⟩
theorem fi_i_R_6 : ∃ (C : String) (T : u_T) (N : Nat), gx_cl[1]? = some (C, T, N) ∧ 6 < N ∧ Cond.fieldLink "EachBearsPillar$Roof" 31 (T 6).1 (T 6).2.1 (T 6).2.2.1 ∈ gx_big ∧ parseFieldDescriptor (T 6).2.2.1 = some (.array .int) ∧ ((T 6).2.2.2 = true → (T 6).1 = "EachBearsPillar$Roof") := ⟨_, _, _, rfl, by decide, (gx_wb1 gq_i_w1_0_ok 8 rfl), by decide +kernel, fun _ => rfl⟩
theorem fi_i_R_7 : ∃ (C : String) (T : u_T) (N : Nat), gx_cl[1]? = some (C, T, N) ∧ 7 < N ∧ Cond.fieldLink "EachBearsPillar$Roof" 34 (T 7).1 (T 7).2.1 (T 7).2.2.1 ∈ gx_big ∧ parseFieldDescriptor (T 7).2.2.1 = some (.array .int) ∧ ((T 7).2.2.2 = true → (T 7).1 = "EachBearsPillar$Roof") := ⟨_, _, _, rfl, by decide, (gx_wb1 gq_i_w1_0_ok 9 rfl), by decide +kernel, fun _ => rfl⟩
theorem fi_i_R_8 : ∃ (C : String) (T : u_T) (N : Nat), gx_cl[1]? = some (C, T, N) ∧ 8 < N ∧ Cond.fieldLink "EachBearsPillar$Roof" 37 (T 8).1 (T 8).2.1 (T 8).2.2.1 ∈ gx_big ∧ parseFieldDescriptor (T 8).2.2.1 = some (.array .int) ∧ ((T 8).2.2.2 = true → (T 8).1 = "EachBearsPillar$Roof") := ⟨_, _, _, rfl, by decide, (gx_wb1 gq_i_w1_0_ok 10 rfl), by decide +kernel, fun _ => rfl⟩
def mi_i_M : gn_Mi := (⟨"EachBearsPillar$Mind", "<init>", "(LEachBearsPillar$Roof;)V"⟩, prog_2_method_1_code, 2, { frames := 1, cells := 6, slots := 41, locals := 12 })
def dl_i_M : List (Nat × Instr × Nat) := [(0, .aload_n 0, 1), (1, .invokespecial 3, 3), (4, .aload_n 0, 1), (5, .aload_n 1, 1), (6, .putfield 9, 3), (9, .aload_n 0, 1), (10, .iconst 0, 1), (11, .putfield 15, 3), (14, .aload_n 0, 1), (15, .iconst 0, 1), (16, .putfield 19, 3), (19, .aload_n 0, 1), (20, .iconst 0, 1), (21, .putfield 22, 3), (24, .aload_n 0, 1), (25, .bipush 7, 2), (27, .newarray .int, 2), (29, .putfield 25, 3), (32, .aload_n 0, 1), (33, .bipush 7, 2), (35, .newarray .int, 2), (37, .putfield 29, 3), (40, .aload_n 0, 1), (41, .bipush 6, 2), (43, .newarray .int, 2), (45, .putfield 32, 3), (48, .aload_n 0, 1), (49, .bipush 7, 2), (51, .newarray .int, 2), (53, .putfield 35, 3), (56, .aload_n 0, 1), (57, .bipush 7, 2), (59, .newarray .int, 2), (61, .putfield 38, 3), (64, .aload_n 0, 1), (65, .bipush 7, 2), (67, .newarray .int, 2), (69, .putfield 41, 3), (72, .return_, 1)]
theorem dt_i_M : ∀ q ∈ dl_i_M, decode prog_2_method_1_code q.1 = .ok (q.2.1, q.2.2) := by decide +kernel
theorem wl_i_M : Cond.methodLink "EachBearsPillar$Mind" 3 Lib.objectInit ∈ gx_big := (gx_wb1 gq_i_w1_0_ok 11 rfl)
theorem fi_i_M_0 : ∃ (C : String) (T : u_T) (N : Nat), gx_cl[2]? = some (C, T, N) ∧ 0 < N ∧ Cond.fieldLink "EachBearsPillar$Mind" 9 (T 0).1 (T 0).2.1 (T 0).2.2.1 ∈ gx_big ∧ parseFieldDescriptor (T 0).2.2.1 = some (.object "EachBearsPillar$Roof") ∧ ((T 0).2.2.2 = true → (T 0).1 = "EachBearsPillar$Mind") := ⟨_, _, _, rfl, by decide, (gx_wb1 gq_i_w1_0_ok 12 rfl), by decide +kernel, fun _ => rfl⟩
theorem fi_i_M_1 : ∃ (C : String) (T : u_T) (N : Nat), gx_cl[2]? = some (C, T, N) ∧ 1 < N ∧ Cond.fieldLink "EachBearsPillar$Mind" 15 (T 1).1 (T 1).2.1 (T 1).2.2.1 ∈ gx_big ∧ parseFieldDescriptor (T 1).2.2.1 = some (.int) ∧ ((T 1).2.2.2 = true → (T 1).1 = "EachBearsPillar$Mind") := ⟨_, _, _, rfl, by decide, (gx_wb1 gq_i_w1_0_ok 13 rfl), by decide +kernel, fun _ => rfl⟩
theorem fi_i_M_2 : ∃ (C : String) (T : u_T) (N : Nat), gx_cl[2]? = some (C, T, N) ∧ 2 < N ∧ Cond.fieldLink "EachBearsPillar$Mind" 19 (T 2).1 (T 2).2.1 (T 2).2.2.1 ∈ gx_big ∧ parseFieldDescriptor (T 2).2.2.1 = some (.int) ∧ ((T 2).2.2.2 = true → (T 2).1 = "EachBearsPillar$Mind") := ⟨_, _, _, rfl, by decide, (gx_wb1 gq_i_w1_0_ok 14 rfl), by decide +kernel, fun _ => rfl⟩
theorem fi_i_M_3 : ∃ (C : String) (T : u_T) (N : Nat), gx_cl[2]? = some (C, T, N) ∧ 3 < N ∧ Cond.fieldLink "EachBearsPillar$Mind" 22 (T 3).1 (T 3).2.1 (T 3).2.2.1 ∈ gx_big ∧ parseFieldDescriptor (T 3).2.2.1 = some (.int) ∧ ((T 3).2.2.2 = true → (T 3).1 = "EachBearsPillar$Mind") := ⟨_, _, _, rfl, by decide, (gx_wb1 gq_i_w1_0_ok 15 rfl), by decide +kernel, fun _ => rfl⟩
theorem fi_i_M_4 : ∃ (C : String) (T : u_T) (N : Nat), gx_cl[2]? = some (C, T, N) ∧ 4 < N ∧ Cond.fieldLink "EachBearsPillar$Mind" 25 (T 4).1 (T 4).2.1 (T 4).2.2.1 ∈ gx_big ∧ parseFieldDescriptor (T 4).2.2.1 = some (.array .int) ∧ ((T 4).2.2.2 = true → (T 4).1 = "EachBearsPillar$Mind") := ⟨_, _, _, rfl, by decide, (gx_wb1 gq_i_w1_0_ok 16 rfl), by decide +kernel, fun _ => rfl⟩
theorem fi_i_M_5 : ∃ (C : String) (T : u_T) (N : Nat), gx_cl[2]? = some (C, T, N) ∧ 5 < N ∧ Cond.fieldLink "EachBearsPillar$Mind" 29 (T 5).1 (T 5).2.1 (T 5).2.2.1 ∈ gx_big ∧ parseFieldDescriptor (T 5).2.2.1 = some (.array .int) ∧ ((T 5).2.2.2 = true → (T 5).1 = "EachBearsPillar$Mind") := ⟨_, _, _, rfl, by decide, (gx_wb1 gq_i_w1_0_ok 17 rfl), by decide +kernel, fun _ => rfl⟩
theorem fi_i_M_6 : ∃ (C : String) (T : u_T) (N : Nat), gx_cl[2]? = some (C, T, N) ∧ 6 < N ∧ Cond.fieldLink "EachBearsPillar$Mind" 32 (T 6).1 (T 6).2.1 (T 6).2.2.1 ∈ gx_big ∧ parseFieldDescriptor (T 6).2.2.1 = some (.array .int) ∧ ((T 6).2.2.2 = true → (T 6).1 = "EachBearsPillar$Mind") := ⟨_, _, _, rfl, by decide, (gx_wb1 gq_i_w1_0_ok 18 rfl), by decide +kernel, fun _ => rfl⟩
theorem fi_i_M_7 : ∃ (C : String) (T : u_T) (N : Nat), gx_cl[2]? = some (C, T, N) ∧ 7 < N ∧ Cond.fieldLink "EachBearsPillar$Mind" 35 (T 7).1 (T 7).2.1 (T 7).2.2.1 ∈ gx_big ∧ parseFieldDescriptor (T 7).2.2.1 = some (.array .int) ∧ ((T 7).2.2.2 = true → (T 7).1 = "EachBearsPillar$Mind") := ⟨_, _, _, rfl, by decide, (gx_wb1 gq_i_w1_0_ok 19 rfl), by decide +kernel, fun _ => rfl⟩
theorem fi_i_M_8 : ∃ (C : String) (T : u_T) (N : Nat), gx_cl[2]? = some (C, T, N) ∧ 8 < N ∧ Cond.fieldLink "EachBearsPillar$Mind" 38 (T 8).1 (T 8).2.1 (T 8).2.2.1 ∈ gx_big ∧ parseFieldDescriptor (T 8).2.2.1 = some (.array .int) ∧ ((T 8).2.2.2 = true → (T 8).1 = "EachBearsPillar$Mind") := ⟨_, _, _, rfl, by decide, (gx_wb1 gq_i_w1_0_ok 20 rfl), by decide +kernel, fun _ => rfl⟩
theorem fi_i_M_9 : ∃ (C : String) (T : u_T) (N : Nat), gx_cl[2]? = some (C, T, N) ∧ 9 < N ∧ Cond.fieldLink "EachBearsPillar$Mind" 41 (T 9).1 (T 9).2.1 (T 9).2.2.1 ∈ gx_big ∧ parseFieldDescriptor (T 9).2.2.1 = some (.array .int) ∧ ((T 9).2.2.2 = true → (T 9).1 = "EachBearsPillar$Mind") := ⟨_, _, _, rfl, by decide, (gx_wb1 gq_i_w1_0_ok 21 rfl), by decide +kernel, fun _ => rfl⟩
def mi_i_T : gn_Mi := (⟨"EachBearsPillar$Text", "<init>", "()V"⟩, prog_5_method_1_code, 1, { frames := 1, cells := 2, slots := 99, locals := 12 })
def dl_i_T : List (Nat × Instr × Nat) := [(0, .aload_n 0, 1), (1, .invokespecial 3, 3), (4, .aload_n 0, 1), (5, .bipush 96, 2), (7, .newarray .int, 2), (9, .putfield 9, 3), (12, .aload_n 0, 1), (13, .iconst 0, 1), (14, .putfield 15, 3), (17, .aload_n 0, 1), (18, .iconst 0, 1), (19, .putfield 19, 3), (22, .aload_n 0, 1), (23, .iconst 0, 1), (24, .putfield 22, 3), (27, .aload_n 0, 1), (28, .iconst 3, 1), (29, .newarray .int, 2), (31, .putfield 25, 3), (34, .aload_n 0, 1), (35, .iconst 0, 1), (36, .putfield 28, 3), (39, .return_, 1)]
theorem dt_i_T : ∀ q ∈ dl_i_T, decode prog_5_method_1_code q.1 = .ok (q.2.1, q.2.2) := by decide +kernel
theorem wl_i_T : Cond.methodLink "EachBearsPillar$Text" 3 Lib.objectInit ∈ gx_big := (gx_wb1 gq_i_w1_0_ok 22 rfl)
theorem fi_i_T_0 : ∃ (C : String) (T : u_T) (N : Nat), gx_cl[3]? = some (C, T, N) ∧ 0 < N ∧ Cond.fieldLink "EachBearsPillar$Text" 9 (T 0).1 (T 0).2.1 (T 0).2.2.1 ∈ gx_big ∧ parseFieldDescriptor (T 0).2.2.1 = some (.array .int) ∧ ((T 0).2.2.2 = true → (T 0).1 = "EachBearsPillar$Text") := ⟨_, _, _, rfl, by decide, (gx_wb1 gq_i_w1_0_ok 23 rfl), by decide +kernel, fun _ => rfl⟩
theorem fi_i_T_1 : ∃ (C : String) (T : u_T) (N : Nat), gx_cl[3]? = some (C, T, N) ∧ 1 < N ∧ Cond.fieldLink "EachBearsPillar$Text" 15 (T 1).1 (T 1).2.1 (T 1).2.2.1 ∈ gx_big ∧ parseFieldDescriptor (T 1).2.2.1 = some (.int) ∧ ((T 1).2.2.2 = true → (T 1).1 = "EachBearsPillar$Text") := ⟨_, _, _, rfl, by decide, (gx_wb1 gq_i_w1_0_ok 24 rfl), by decide +kernel, fun _ => rfl⟩
theorem fi_i_T_2 : ∃ (C : String) (T : u_T) (N : Nat), gx_cl[3]? = some (C, T, N) ∧ 2 < N ∧ Cond.fieldLink "EachBearsPillar$Text" 19 (T 2).1 (T 2).2.1 (T 2).2.2.1 ∈ gx_big ∧ parseFieldDescriptor (T 2).2.2.1 = some (.int) ∧ ((T 2).2.2.2 = true → (T 2).1 = "EachBearsPillar$Text") := ⟨_, _, _, rfl, by decide, (gx_wb1 gq_i_w1_0_ok 25 rfl), by decide +kernel, fun _ => rfl⟩
theorem fi_i_T_3 : ∃ (C : String) (T : u_T) (N : Nat), gx_cl[3]? = some (C, T, N) ∧ 3 < N ∧ Cond.fieldLink "EachBearsPillar$Text" 22 (T 3).1 (T 3).2.1 (T 3).2.2.1 ∈ gx_big ∧ parseFieldDescriptor (T 3).2.2.1 = some (.int) ∧ ((T 3).2.2.2 = true → (T 3).1 = "EachBearsPillar$Text") := ⟨_, _, _, rfl, by decide, (gx_wb1 gq_i_w1_0_ok 26 rfl), by decide +kernel, fun _ => rfl⟩
theorem fi_i_T_4 : ∃ (C : String) (T : u_T) (N : Nat), gx_cl[3]? = some (C, T, N) ∧ 4 < N ∧ Cond.fieldLink "EachBearsPillar$Text" 25 (T 4).1 (T 4).2.1 (T 4).2.2.1 ∈ gx_big ∧ parseFieldDescriptor (T 4).2.2.1 = some (.array .int) ∧ ((T 4).2.2.2 = true → (T 4).1 = "EachBearsPillar$Text") := ⟨_, _, _, rfl, by decide, (gx_wb1 gq_i_w1_0_ok 27 rfl), by decide +kernel, fun _ => rfl⟩
theorem fi_i_T_5 : ∃ (C : String) (T : u_T) (N : Nat), gx_cl[3]? = some (C, T, N) ∧ 5 < N ∧ Cond.fieldLink "EachBearsPillar$Text" 28 (T 5).1 (T 5).2.1 (T 5).2.2.1 ∈ gx_big ∧ parseFieldDescriptor (T 5).2.2.1 = some (.int) ∧ ((T 5).2.2.2 = true → (T 5).1 = "EachBearsPillar$Text") := ⟨_, _, _, rfl, by decide, (gx_wb1 gq_i_w1_0_ok 28 rfl), by decide +kernel, fun _ => rfl⟩
def mi_i_W : gn_Mi := (⟨"EachBearsPillar$Walk", "<init>", "(LEachBearsPillar$Mind;)V"⟩, prog_6_method_1_code, 2, { frames := 1, cells := 2, slots := 896, locals := 12 })
def dl_i_W : List (Nat × Instr × Nat) := [(0, .aload_n 0, 1), (1, .invokespecial 3, 3), (4, .aload_n 0, 1), (5, .aload_n 1, 1), (6, .putfield 9, 3), (9, .aload_n 0, 1), (10, .sipush 448, 3), (13, .newarray .int, 2), (15, .putfield 15, 3), (18, .aload_n 0, 1), (19, .sipush 448, 3), (22, .newarray .int, 2), (24, .putfield 19, 3), (27, .aload_n 0, 1), (28, .iconst 0, 1), (29, .putfield 22, 3), (32, .return_, 1)]
theorem dt_i_W : ∀ q ∈ dl_i_W, decode prog_6_method_1_code q.1 = .ok (q.2.1, q.2.2) := by decide +kernel
theorem wl_i_W : Cond.methodLink "EachBearsPillar$Walk" 3 Lib.objectInit ∈ gx_big := (gx_wb1 gq_i_w1_0_ok 29 rfl)
theorem fi_i_W_0 : ∃ (C : String) (T : u_T) (N : Nat), gx_cl[4]? = some (C, T, N) ∧ 0 < N ∧ Cond.fieldLink "EachBearsPillar$Walk" 9 (T 0).1 (T 0).2.1 (T 0).2.2.1 ∈ gx_big ∧ parseFieldDescriptor (T 0).2.2.1 = some (.object "EachBearsPillar$Mind") ∧ ((T 0).2.2.2 = true → (T 0).1 = "EachBearsPillar$Walk") := ⟨_, _, _, rfl, by decide, (gx_wb1 gq_i_w1_1_ok 0 rfl), by decide +kernel, fun _ => rfl⟩
theorem fi_i_W_1 : ∃ (C : String) (T : u_T) (N : Nat), gx_cl[4]? = some (C, T, N) ∧ 1 < N ∧ Cond.fieldLink "EachBearsPillar$Walk" 15 (T 1).1 (T 1).2.1 (T 1).2.2.1 ∈ gx_big ∧ parseFieldDescriptor (T 1).2.2.1 = some (.array .int) ∧ ((T 1).2.2.2 = true → (T 1).1 = "EachBearsPillar$Walk") := ⟨_, _, _, rfl, by decide, (gx_wb1 gq_i_w1_1_ok 1 rfl), by decide +kernel, fun _ => rfl⟩
theorem fi_i_W_2 : ∃ (C : String) (T : u_T) (N : Nat), gx_cl[4]? = some (C, T, N) ∧ 2 < N ∧ Cond.fieldLink "EachBearsPillar$Walk" 19 (T 2).1 (T 2).2.1 (T 2).2.2.1 ∈ gx_big ∧ parseFieldDescriptor (T 2).2.2.1 = some (.array .int) ∧ ((T 2).2.2.2 = true → (T 2).1 = "EachBearsPillar$Walk") := ⟨_, _, _, rfl, by decide, (gx_wb1 gq_i_w1_1_ok 2 rfl), by decide +kernel, fun _ => rfl⟩
theorem fi_i_W_3 : ∃ (C : String) (T : u_T) (N : Nat), gx_cl[4]? = some (C, T, N) ∧ 3 < N ∧ Cond.fieldLink "EachBearsPillar$Walk" 22 (T 3).1 (T 3).2.1 (T 3).2.2.1 ∈ gx_big ∧ parseFieldDescriptor (T 3).2.2.1 = some (.int) ∧ ((T 3).2.2.2 = true → (T 3).1 = "EachBearsPillar$Walk") := ⟨_, _, _, rfl, by decide, (gx_wb1 gq_i_w1_1_ok 3 rfl), by decide +kernel, fun _ => rfl⟩
def mi_i_O : gn_Mi := (⟨"EachBearsPillar$Orders", "<init>", "(LEachBearsPillar$Mind;)V"⟩, prog_3_method_1_code, 2, { frames := 1, cells := 2, slots := 1841, locals := 12 })
def dl_i_O : List (Nat × Instr × Nat) := [(0, .aload_n 0, 1), (1, .invokespecial 3, 3), (4, .aload_n 0, 1), (5, .aload_n 1, 1), (6, .putfield 9, 3), (9, .aload_n 0, 1), (10, .bipush 49, 2), (12, .newarray .int, 2), (14, .putfield 15, 3), (17, .aload_n 0, 1), (18, .sipush 1792, 3), (21, .newarray .int, 2), (23, .putfield 19, 3), (26, .return_, 1)]
theorem dt_i_O : ∀ q ∈ dl_i_O, decode prog_3_method_1_code q.1 = .ok (q.2.1, q.2.2) := by decide +kernel
theorem wl_i_O : Cond.methodLink "EachBearsPillar$Orders" 3 Lib.objectInit ∈ gx_big := (gx_wb1 gq_i_w1_1_ok 4 rfl)
theorem fi_i_O_0 : ∃ (C : String) (T : u_T) (N : Nat), gx_cl[5]? = some (C, T, N) ∧ 0 < N ∧ Cond.fieldLink "EachBearsPillar$Orders" 9 (T 0).1 (T 0).2.1 (T 0).2.2.1 ∈ gx_big ∧ parseFieldDescriptor (T 0).2.2.1 = some (.object "EachBearsPillar$Mind") ∧ ((T 0).2.2.2 = true → (T 0).1 = "EachBearsPillar$Orders") := ⟨_, _, _, rfl, by decide, (gx_wb1 gq_i_w1_1_ok 5 rfl), by decide +kernel, fun _ => rfl⟩
theorem fi_i_O_1 : ∃ (C : String) (T : u_T) (N : Nat), gx_cl[5]? = some (C, T, N) ∧ 1 < N ∧ Cond.fieldLink "EachBearsPillar$Orders" 15 (T 1).1 (T 1).2.1 (T 1).2.2.1 ∈ gx_big ∧ parseFieldDescriptor (T 1).2.2.1 = some (.array .int) ∧ ((T 1).2.2.2 = true → (T 1).1 = "EachBearsPillar$Orders") := ⟨_, _, _, rfl, by decide, (gx_wb1 gq_i_w1_1_ok 6 rfl), by decide +kernel, fun _ => rfl⟩
theorem fi_i_O_2 : ∃ (C : String) (T : u_T) (N : Nat), gx_cl[5]? = some (C, T, N) ∧ 2 < N ∧ Cond.fieldLink "EachBearsPillar$Orders" 19 (T 2).1 (T 2).2.1 (T 2).2.2.1 ∈ gx_big ∧ parseFieldDescriptor (T 2).2.2.1 = some (.array .int) ∧ ((T 2).2.2.2 = true → (T 2).1 = "EachBearsPillar$Orders") := ⟨_, _, _, rfl, by decide, (gx_wb1 gq_i_w1_1_ok 7 rfl), by decide +kernel, fun _ => rfl⟩
def mi_i_D : gn_Mi := (⟨"EachBearsPillarModel", "<init>", "()V"⟩, prog_8_method_1_code, 1, { frames := 1, cells := 19, slots := 1119, locals := 12 })
def dl_i_D : List (Nat × Instr × Nat) := [(0, .aload_n 0, 1), (1, .invokespecial 1, 3), (4, .aload_n 0, 1), (5, .iconst 0, 1), (6, .putfield 7, 3), (9, .aload_n 0, 1), (10, .iconst 0, 1), (11, .putfield 13, 3), (14, .aload_n 0, 1), (15, .iconst 0, 1), (16, .putfield 16, 3), (19, .aload_n 0, 1), (20, .iconst 0, 1), (21, .putfield 19, 3), (24, .aload_n 0, 1), (25, .iconst 0, 1), (26, .putfield 22, 3), (29, .aload_n 0, 1), (30, .bipush 7, 2), (32, .newarray .int, 2), (34, .putfield 25, 3), (37, .aload_n 0, 1), (38, .bipush 7, 2), (40, .newarray .int, 2), (42, .putfield 29, 3), (45, .aload_n 0, 1), (46, .bipush 7, 2), (48, .newarray .int, 2), (50, .putfield 32, 3), (53, .aload_n 0, 1), (54, .bipush 7, 2), (56, .newarray .int, 2), (58, .putfield 35, 3), (61, .aload_n 0, 1), (62, .bipush 6, 2), (64, .newarray .int, 2), (66, .putfield 38, 3), (69, .aload_n 0, 1), (70, .bipush 16, 2), (72, .newarray .int, 2), (74, .putfield 41, 3), (77, .aload_n 0, 1), (78, .bipush 96, 2), (80, .newarray .int, 2), (82, .putfield 44, 3), (85, .aload_n 0, 1), (86, .bipush 7, 2), (88, .newarray .int, 2), (90, .putfield 47, 3), (93, .aload_n 0, 1), (94, .bipush 7, 2), (96, .newarray .int, 2), (98, .putfield 50, 3), (101, .aload_n 0, 1), (102, .iconst 0, 1), (103, .putfield 53, 3), (106, .aload_n 0, 1), (107, .iconst 0, 1), (108, .putfield 56, 3), (111, .aload_n 0, 1), (112, .iconst 0, 1), (113, .putfield 59, 3), (116, .aload_n 0, 1), (117, .iconst 0, 1), (118, .putfield 62, 3), (121, .aload_n 0, 1), (122, .bipush 7, 2), (124, .newarray .int, 2), (126, .dup, 1), (127, .iconst 0, 1), (128, .iconst 0, 1), (129, .iastore, 1), (130, .dup, 1), (131, .iconst 1, 1), (132, .iconst 1, 1), (133, .iastore, 1), (134, .dup, 1), (135, .iconst 2, 1), (136, .iconst 2, 1), (137, .iastore, 1), (138, .dup, 1), (139, .iconst 3, 1), (140, .iconst 3, 1), (141, .iastore, 1), (142, .dup, 1), (143, .iconst 4, 1), (144, .iconst 4, 1), (145, .iastore, 1), (146, .dup, 1), (147, .iconst 5, 1), (148, .iconst 5, 1), (149, .iastore, 1), (150, .dup, 1), (151, .bipush 6, 2), (153, .bipush 6, 2), (155, .iastore, 1), (156, .putfield 65, 3), (159, .aload_n 0, 1), (160, .iconst (-1), 1), (161, .putfield 68, 3), (164, .aload_n 0, 1), (165, .sipush 448, 3), (168, .newarray .int, 2), (170, .putfield 71, 3), (173, .aload_n 0, 1), (174, .sipush 448, 3), (177, .newarray .int, 2), (179, .putfield 74, 3), (182, .aload_n 0, 1), (183, .iconst 0, 1), (184, .putfield 77, 3), (187, .aload_n 0, 1), (188, .iconst 0, 1), (189, .putfield 80, 3), (192, .aload_n 0, 1), (193, .bipush 6, 2), (195, .newarray .int, 2), (197, .putfield 83, 3), (200, .aload_n 0, 1), (201, .iconst 0, 1), (202, .putfield 86, 3), (205, .aload_n 0, 1), (206, .iconst 0, 1), (207, .putfield 90, 3), (210, .aload_n 0, 1), (211, .iconst 0, 1), (212, .putfield 93, 3), (215, .aload_n 0, 1), (216, .iconst 0, 1), (217, .putfield 96, 3), (220, .aload_n 0, 1), (221, .bipush 7, 2), (223, .newarray .int, 2), (225, .putfield 99, 3), (228, .aload_n 0, 1), (229, .bipush 7, 2), (231, .newarray .int, 2), (233, .putfield 102, 3), (236, .aload_n 0, 1), (237, .bipush 7, 2), (239, .newarray .int, 2), (241, .putfield 105, 3), (244, .aload_n 0, 1), (245, .bipush 7, 2), (247, .newarray .int, 2), (249, .putfield 108, 3), (252, .aload_n 0, 1), (253, .bipush 6, 2), (255, .newarray .int, 2), (257, .putfield 111, 3), (260, .aload_n 0, 1), (261, .bipush 16, 2), (263, .newarray .int, 2), (265, .putfield 114, 3), (268, .return_, 1)]
theorem dt_i_D : ∀ q ∈ dl_i_D, decode prog_8_method_1_code q.1 = .ok (q.2.1, q.2.2) := by decide +kernel
theorem wl_i_D : Cond.methodLink "EachBearsPillarModel" 1 Lib.objectInit ∈ gx_big := (gx_wb3 gq_i_w3_0_ok 0 rfl)
theorem fi_i_D_0 : ∃ (C : String) (T : u_T) (N : Nat), gx_cl[6]? = some (C, T, N) ∧ 0 < N ∧ Cond.fieldLink "EachBearsPillarModel" 7 (T 0).1 (T 0).2.1 (T 0).2.2.1 ∈ gx_big ∧ parseFieldDescriptor (T 0).2.2.1 = some (.int) ∧ ((T 0).2.2.2 = true → (T 0).1 = "EachBearsPillarModel") := ⟨_, _, _, rfl, by decide, (gx_wb3 gq_i_w3_0_ok 1 rfl), by decide +kernel, fun _ => rfl⟩
theorem fi_i_D_1 : ∃ (C : String) (T : u_T) (N : Nat), gx_cl[6]? = some (C, T, N) ∧ 1 < N ∧ Cond.fieldLink "EachBearsPillarModel" 13 (T 1).1 (T 1).2.1 (T 1).2.2.1 ∈ gx_big ∧ parseFieldDescriptor (T 1).2.2.1 = some (.int) ∧ ((T 1).2.2.2 = true → (T 1).1 = "EachBearsPillarModel") := ⟨_, _, _, rfl, by decide, (gx_wb3 gq_i_w3_0_ok 2 rfl), by decide +kernel, fun _ => rfl⟩
theorem fi_i_D_2 : ∃ (C : String) (T : u_T) (N : Nat), gx_cl[6]? = some (C, T, N) ∧ 2 < N ∧ Cond.fieldLink "EachBearsPillarModel" 16 (T 2).1 (T 2).2.1 (T 2).2.2.1 ∈ gx_big ∧ parseFieldDescriptor (T 2).2.2.1 = some (.int) ∧ ((T 2).2.2.2 = true → (T 2).1 = "EachBearsPillarModel") := ⟨_, _, _, rfl, by decide, (gx_wb3 gq_i_w3_0_ok 3 rfl), by decide +kernel, fun _ => rfl⟩
theorem fi_i_D_3 : ∃ (C : String) (T : u_T) (N : Nat), gx_cl[6]? = some (C, T, N) ∧ 3 < N ∧ Cond.fieldLink "EachBearsPillarModel" 19 (T 3).1 (T 3).2.1 (T 3).2.2.1 ∈ gx_big ∧ parseFieldDescriptor (T 3).2.2.1 = some (.int) ∧ ((T 3).2.2.2 = true → (T 3).1 = "EachBearsPillarModel") := ⟨_, _, _, rfl, by decide, (gx_wb3 gq_i_w3_0_ok 4 rfl), by decide +kernel, fun _ => rfl⟩
theorem fi_i_D_4 : ∃ (C : String) (T : u_T) (N : Nat), gx_cl[6]? = some (C, T, N) ∧ 4 < N ∧ Cond.fieldLink "EachBearsPillarModel" 22 (T 4).1 (T 4).2.1 (T 4).2.2.1 ∈ gx_big ∧ parseFieldDescriptor (T 4).2.2.1 = some (.int) ∧ ((T 4).2.2.2 = true → (T 4).1 = "EachBearsPillarModel") := ⟨_, _, _, rfl, by decide, (gx_wb3 gq_i_w3_0_ok 5 rfl), by decide +kernel, fun _ => rfl⟩
theorem fi_i_D_5 : ∃ (C : String) (T : u_T) (N : Nat), gx_cl[6]? = some (C, T, N) ∧ 5 < N ∧ Cond.fieldLink "EachBearsPillarModel" 25 (T 5).1 (T 5).2.1 (T 5).2.2.1 ∈ gx_big ∧ parseFieldDescriptor (T 5).2.2.1 = some (.array .int) ∧ ((T 5).2.2.2 = true → (T 5).1 = "EachBearsPillarModel") := ⟨_, _, _, rfl, by decide, (gx_wb3 gq_i_w3_0_ok 6 rfl), by decide +kernel, fun _ => rfl⟩
theorem fi_i_D_6 : ∃ (C : String) (T : u_T) (N : Nat), gx_cl[6]? = some (C, T, N) ∧ 6 < N ∧ Cond.fieldLink "EachBearsPillarModel" 29 (T 6).1 (T 6).2.1 (T 6).2.2.1 ∈ gx_big ∧ parseFieldDescriptor (T 6).2.2.1 = some (.array .int) ∧ ((T 6).2.2.2 = true → (T 6).1 = "EachBearsPillarModel") := ⟨_, _, _, rfl, by decide, (gx_wb3 gq_i_w3_0_ok 7 rfl), by decide +kernel, fun _ => rfl⟩
theorem fi_i_D_7 : ∃ (C : String) (T : u_T) (N : Nat), gx_cl[6]? = some (C, T, N) ∧ 7 < N ∧ Cond.fieldLink "EachBearsPillarModel" 32 (T 7).1 (T 7).2.1 (T 7).2.2.1 ∈ gx_big ∧ parseFieldDescriptor (T 7).2.2.1 = some (.array .int) ∧ ((T 7).2.2.2 = true → (T 7).1 = "EachBearsPillarModel") := ⟨_, _, _, rfl, by decide, (gx_wb3 gq_i_w3_0_ok 8 rfl), by decide +kernel, fun _ => rfl⟩
theorem fi_i_D_8 : ∃ (C : String) (T : u_T) (N : Nat), gx_cl[6]? = some (C, T, N) ∧ 8 < N ∧ Cond.fieldLink "EachBearsPillarModel" 35 (T 8).1 (T 8).2.1 (T 8).2.2.1 ∈ gx_big ∧ parseFieldDescriptor (T 8).2.2.1 = some (.array .int) ∧ ((T 8).2.2.2 = true → (T 8).1 = "EachBearsPillarModel") := ⟨_, _, _, rfl, by decide, (gx_wb3 gq_i_w3_0_ok 9 rfl), by decide +kernel, fun _ => rfl⟩
theorem fi_i_D_9 : ∃ (C : String) (T : u_T) (N : Nat), gx_cl[6]? = some (C, T, N) ∧ 9 < N ∧ Cond.fieldLink "EachBearsPillarModel" 38 (T 9).1 (T 9).2.1 (T 9).2.2.1 ∈ gx_big ∧ parseFieldDescriptor (T 9).2.2.1 = some (.array .int) ∧ ((T 9).2.2.2 = true → (T 9).1 = "EachBearsPillarModel") := ⟨_, _, _, rfl, by decide, (gx_wb3 gq_i_w3_0_ok 10 rfl), by decide +kernel, fun _ => rfl⟩
theorem fi_i_D_10 : ∃ (C : String) (T : u_T) (N : Nat), gx_cl[6]? = some (C, T, N) ∧ 10 < N ∧ Cond.fieldLink "EachBearsPillarModel" 41 (T 10).1 (T 10).2.1 (T 10).2.2.1 ∈ gx_big ∧ parseFieldDescriptor (T 10).2.2.1 = some (.array .int) ∧ ((T 10).2.2.2 = true → (T 10).1 = "EachBearsPillarModel") := ⟨_, _, _, rfl, by decide, (gx_wb3 gq_i_w3_0_ok 11 rfl), by decide +kernel, fun _ => rfl⟩
theorem fi_i_D_11 : ∃ (C : String) (T : u_T) (N : Nat), gx_cl[6]? = some (C, T, N) ∧ 11 < N ∧ Cond.fieldLink "EachBearsPillarModel" 44 (T 11).1 (T 11).2.1 (T 11).2.2.1 ∈ gx_big ∧ parseFieldDescriptor (T 11).2.2.1 = some (.array .int) ∧ ((T 11).2.2.2 = true → (T 11).1 = "EachBearsPillarModel") := ⟨_, _, _, rfl, by decide, (gx_wb3 gq_i_w3_0_ok 12 rfl), by decide +kernel, fun _ => rfl⟩
theorem fi_i_D_12 : ∃ (C : String) (T : u_T) (N : Nat), gx_cl[6]? = some (C, T, N) ∧ 12 < N ∧ Cond.fieldLink "EachBearsPillarModel" 47 (T 12).1 (T 12).2.1 (T 12).2.2.1 ∈ gx_big ∧ parseFieldDescriptor (T 12).2.2.1 = some (.array .int) ∧ ((T 12).2.2.2 = true → (T 12).1 = "EachBearsPillarModel") := ⟨_, _, _, rfl, by decide, (gx_wb3 gq_i_w3_0_ok 13 rfl), by decide +kernel, fun _ => rfl⟩
theorem fi_i_D_13 : ∃ (C : String) (T : u_T) (N : Nat), gx_cl[6]? = some (C, T, N) ∧ 13 < N ∧ Cond.fieldLink "EachBearsPillarModel" 50 (T 13).1 (T 13).2.1 (T 13).2.2.1 ∈ gx_big ∧ parseFieldDescriptor (T 13).2.2.1 = some (.array .int) ∧ ((T 13).2.2.2 = true → (T 13).1 = "EachBearsPillarModel") := ⟨_, _, _, rfl, by decide, (gx_wb3 gq_i_w3_0_ok 14 rfl), by decide +kernel, fun _ => rfl⟩
theorem fi_i_D_14 : ∃ (C : String) (T : u_T) (N : Nat), gx_cl[6]? = some (C, T, N) ∧ 14 < N ∧ Cond.fieldLink "EachBearsPillarModel" 53 (T 14).1 (T 14).2.1 (T 14).2.2.1 ∈ gx_big ∧ parseFieldDescriptor (T 14).2.2.1 = some (.int) ∧ ((T 14).2.2.2 = true → (T 14).1 = "EachBearsPillarModel") := ⟨_, _, _, rfl, by decide, (gx_wb3 gq_i_w3_0_ok 15 rfl), by decide +kernel, fun _ => rfl⟩
theorem fi_i_D_15 : ∃ (C : String) (T : u_T) (N : Nat), gx_cl[6]? = some (C, T, N) ∧ 15 < N ∧ Cond.fieldLink "EachBearsPillarModel" 56 (T 15).1 (T 15).2.1 (T 15).2.2.1 ∈ gx_big ∧ parseFieldDescriptor (T 15).2.2.1 = some (.int) ∧ ((T 15).2.2.2 = true → (T 15).1 = "EachBearsPillarModel") := ⟨_, _, _, rfl, by decide, (gx_wb3 gq_i_w3_0_ok 16 rfl), by decide +kernel, fun _ => rfl⟩
theorem fi_i_D_16 : ∃ (C : String) (T : u_T) (N : Nat), gx_cl[6]? = some (C, T, N) ∧ 16 < N ∧ Cond.fieldLink "EachBearsPillarModel" 59 (T 16).1 (T 16).2.1 (T 16).2.2.1 ∈ gx_big ∧ parseFieldDescriptor (T 16).2.2.1 = some (.int) ∧ ((T 16).2.2.2 = true → (T 16).1 = "EachBearsPillarModel") := ⟨_, _, _, rfl, by decide, (gx_wb3 gq_i_w3_0_ok 17 rfl), by decide +kernel, fun _ => rfl⟩
theorem fi_i_D_17 : ∃ (C : String) (T : u_T) (N : Nat), gx_cl[6]? = some (C, T, N) ∧ 17 < N ∧ Cond.fieldLink "EachBearsPillarModel" 62 (T 17).1 (T 17).2.1 (T 17).2.2.1 ∈ gx_big ∧ parseFieldDescriptor (T 17).2.2.1 = some (.int) ∧ ((T 17).2.2.2 = true → (T 17).1 = "EachBearsPillarModel") := ⟨_, _, _, rfl, by decide, (gx_wb3 gq_i_w3_0_ok 18 rfl), by decide +kernel, fun _ => rfl⟩
theorem fi_i_D_18 : ∃ (C : String) (T : u_T) (N : Nat), gx_cl[6]? = some (C, T, N) ∧ 18 < N ∧ Cond.fieldLink "EachBearsPillarModel" 65 (T 18).1 (T 18).2.1 (T 18).2.2.1 ∈ gx_big ∧ parseFieldDescriptor (T 18).2.2.1 = some (.array .int) ∧ ((T 18).2.2.2 = true → (T 18).1 = "EachBearsPillarModel") := ⟨_, _, _, rfl, by decide, (gx_wb3 gq_i_w3_0_ok 19 rfl), by decide +kernel, fun _ => rfl⟩
theorem fi_i_D_19 : ∃ (C : String) (T : u_T) (N : Nat), gx_cl[6]? = some (C, T, N) ∧ 19 < N ∧ Cond.fieldLink "EachBearsPillarModel" 68 (T 19).1 (T 19).2.1 (T 19).2.2.1 ∈ gx_big ∧ parseFieldDescriptor (T 19).2.2.1 = some (.int) ∧ ((T 19).2.2.2 = true → (T 19).1 = "EachBearsPillarModel") := ⟨_, _, _, rfl, by decide, (gx_wb3 gq_i_w3_0_ok 20 rfl), by decide +kernel, fun _ => rfl⟩
theorem fi_i_D_20 : ∃ (C : String) (T : u_T) (N : Nat), gx_cl[6]? = some (C, T, N) ∧ 20 < N ∧ Cond.fieldLink "EachBearsPillarModel" 71 (T 20).1 (T 20).2.1 (T 20).2.2.1 ∈ gx_big ∧ parseFieldDescriptor (T 20).2.2.1 = some (.array .int) ∧ ((T 20).2.2.2 = true → (T 20).1 = "EachBearsPillarModel") := ⟨_, _, _, rfl, by decide, (gx_wb3 gq_i_w3_0_ok 21 rfl), by decide +kernel, fun _ => rfl⟩
theorem fi_i_D_21 : ∃ (C : String) (T : u_T) (N : Nat), gx_cl[6]? = some (C, T, N) ∧ 21 < N ∧ Cond.fieldLink "EachBearsPillarModel" 74 (T 21).1 (T 21).2.1 (T 21).2.2.1 ∈ gx_big ∧ parseFieldDescriptor (T 21).2.2.1 = some (.array .int) ∧ ((T 21).2.2.2 = true → (T 21).1 = "EachBearsPillarModel") := ⟨_, _, _, rfl, by decide, (gx_wb3 gq_i_w3_0_ok 22 rfl), by decide +kernel, fun _ => rfl⟩
theorem fi_i_D_22 : ∃ (C : String) (T : u_T) (N : Nat), gx_cl[6]? = some (C, T, N) ∧ 22 < N ∧ Cond.fieldLink "EachBearsPillarModel" 77 (T 22).1 (T 22).2.1 (T 22).2.2.1 ∈ gx_big ∧ parseFieldDescriptor (T 22).2.2.1 = some (.int) ∧ ((T 22).2.2.2 = true → (T 22).1 = "EachBearsPillarModel") := ⟨_, _, _, rfl, by decide, (gx_wb3 gq_i_w3_0_ok 23 rfl), by decide +kernel, fun _ => rfl⟩
theorem fi_i_D_23 : ∃ (C : String) (T : u_T) (N : Nat), gx_cl[6]? = some (C, T, N) ∧ 23 < N ∧ Cond.fieldLink "EachBearsPillarModel" 80 (T 23).1 (T 23).2.1 (T 23).2.2.1 ∈ gx_big ∧ parseFieldDescriptor (T 23).2.2.1 = some (.int) ∧ ((T 23).2.2.2 = true → (T 23).1 = "EachBearsPillarModel") := ⟨_, _, _, rfl, by decide, (gx_wb3 gq_i_w3_0_ok 24 rfl), by decide +kernel, fun _ => rfl⟩
theorem fi_i_D_24 : ∃ (C : String) (T : u_T) (N : Nat), gx_cl[6]? = some (C, T, N) ∧ 24 < N ∧ Cond.fieldLink "EachBearsPillarModel" 83 (T 24).1 (T 24).2.1 (T 24).2.2.1 ∈ gx_big ∧ parseFieldDescriptor (T 24).2.2.1 = some (.array .int) ∧ ((T 24).2.2.2 = true → (T 24).1 = "EachBearsPillarModel") := ⟨_, _, _, rfl, by decide, (gx_wb3 gq_i_w3_0_ok 25 rfl), by decide +kernel, fun _ => rfl⟩
theorem fi_i_D_25 : ∃ (C : String) (T : u_T) (N : Nat), gx_cl[6]? = some (C, T, N) ∧ 25 < N ∧ Cond.fieldLink "EachBearsPillarModel" 86 (T 25).1 (T 25).2.1 (T 25).2.2.1 ∈ gx_big ∧ parseFieldDescriptor (T 25).2.2.1 = some (.boolean) ∧ ((T 25).2.2.2 = true → (T 25).1 = "EachBearsPillarModel") := ⟨_, _, _, rfl, by decide, (gx_wb3 gq_i_w3_0_ok 26 rfl), by decide +kernel, fun _ => rfl⟩
theorem fi_i_D_26 : ∃ (C : String) (T : u_T) (N : Nat), gx_cl[6]? = some (C, T, N) ∧ 26 < N ∧ Cond.fieldLink "EachBearsPillarModel" 90 (T 26).1 (T 26).2.1 (T 26).2.2.1 ∈ gx_big ∧ parseFieldDescriptor (T 26).2.2.1 = some (.int) ∧ ((T 26).2.2.2 = true → (T 26).1 = "EachBearsPillarModel") := ⟨_, _, _, rfl, by decide, (gx_wb3 gq_i_w3_0_ok 27 rfl), by decide +kernel, fun _ => rfl⟩
theorem fi_i_D_27 : ∃ (C : String) (T : u_T) (N : Nat), gx_cl[6]? = some (C, T, N) ∧ 27 < N ∧ Cond.fieldLink "EachBearsPillarModel" 93 (T 27).1 (T 27).2.1 (T 27).2.2.1 ∈ gx_big ∧ parseFieldDescriptor (T 27).2.2.1 = some (.int) ∧ ((T 27).2.2.2 = true → (T 27).1 = "EachBearsPillarModel") := ⟨_, _, _, rfl, by decide, (gx_wb3 gq_i_w3_0_ok 28 rfl), by decide +kernel, fun _ => rfl⟩
theorem fi_i_D_28 : ∃ (C : String) (T : u_T) (N : Nat), gx_cl[6]? = some (C, T, N) ∧ 28 < N ∧ Cond.fieldLink "EachBearsPillarModel" 96 (T 28).1 (T 28).2.1 (T 28).2.2.1 ∈ gx_big ∧ parseFieldDescriptor (T 28).2.2.1 = some (.int) ∧ ((T 28).2.2.2 = true → (T 28).1 = "EachBearsPillarModel") := ⟨_, _, _, rfl, by decide, (gx_wb3 gq_i_w3_0_ok 29 rfl), by decide +kernel, fun _ => rfl⟩
theorem fi_i_D_29 : ∃ (C : String) (T : u_T) (N : Nat), gx_cl[6]? = some (C, T, N) ∧ 29 < N ∧ Cond.fieldLink "EachBearsPillarModel" 99 (T 29).1 (T 29).2.1 (T 29).2.2.1 ∈ gx_big ∧ parseFieldDescriptor (T 29).2.2.1 = some (.array .int) ∧ ((T 29).2.2.2 = true → (T 29).1 = "EachBearsPillarModel") := ⟨_, _, _, rfl, by decide, (gx_wb3 gq_i_w3_1_ok 0 rfl), by decide +kernel, fun _ => rfl⟩
theorem fi_i_D_30 : ∃ (C : String) (T : u_T) (N : Nat), gx_cl[6]? = some (C, T, N) ∧ 30 < N ∧ Cond.fieldLink "EachBearsPillarModel" 102 (T 30).1 (T 30).2.1 (T 30).2.2.1 ∈ gx_big ∧ parseFieldDescriptor (T 30).2.2.1 = some (.array .int) ∧ ((T 30).2.2.2 = true → (T 30).1 = "EachBearsPillarModel") := ⟨_, _, _, rfl, by decide, (gx_wb3 gq_i_w3_1_ok 1 rfl), by decide +kernel, fun _ => rfl⟩
theorem fi_i_D_31 : ∃ (C : String) (T : u_T) (N : Nat), gx_cl[6]? = some (C, T, N) ∧ 31 < N ∧ Cond.fieldLink "EachBearsPillarModel" 105 (T 31).1 (T 31).2.1 (T 31).2.2.1 ∈ gx_big ∧ parseFieldDescriptor (T 31).2.2.1 = some (.array .int) ∧ ((T 31).2.2.2 = true → (T 31).1 = "EachBearsPillarModel") := ⟨_, _, _, rfl, by decide, (gx_wb3 gq_i_w3_1_ok 2 rfl), by decide +kernel, fun _ => rfl⟩
theorem fi_i_D_32 : ∃ (C : String) (T : u_T) (N : Nat), gx_cl[6]? = some (C, T, N) ∧ 32 < N ∧ Cond.fieldLink "EachBearsPillarModel" 108 (T 32).1 (T 32).2.1 (T 32).2.2.1 ∈ gx_big ∧ parseFieldDescriptor (T 32).2.2.1 = some (.array .int) ∧ ((T 32).2.2.2 = true → (T 32).1 = "EachBearsPillarModel") := ⟨_, _, _, rfl, by decide, (gx_wb3 gq_i_w3_1_ok 3 rfl), by decide +kernel, fun _ => rfl⟩
theorem fi_i_D_33 : ∃ (C : String) (T : u_T) (N : Nat), gx_cl[6]? = some (C, T, N) ∧ 33 < N ∧ Cond.fieldLink "EachBearsPillarModel" 111 (T 33).1 (T 33).2.1 (T 33).2.2.1 ∈ gx_big ∧ parseFieldDescriptor (T 33).2.2.1 = some (.array .int) ∧ ((T 33).2.2.2 = true → (T 33).1 = "EachBearsPillarModel") := ⟨_, _, _, rfl, by decide, (gx_wb3 gq_i_w3_1_ok 4 rfl), by decide +kernel, fun _ => rfl⟩
theorem fi_i_D_34 : ∃ (C : String) (T : u_T) (N : Nat), gx_cl[6]? = some (C, T, N) ∧ 34 < N ∧ Cond.fieldLink "EachBearsPillarModel" 114 (T 34).1 (T 34).2.1 (T 34).2.2.1 ∈ gx_big ∧ parseFieldDescriptor (T 34).2.2.1 = some (.array .int) ∧ ((T 34).2.2.2 = true → (T 34).1 = "EachBearsPillarModel") := ⟨_, _, _, rfl, by decide, (gx_wb3 gq_i_w3_1_ok 5 rfl), by decide +kernel, fun _ => rfl⟩
def o_i_R : ClassId → Nat → List Nat → va_W := fun cI h0 qs => match qs with
  | [q0, q1, q2, q3, q4, q5] => [(h0, .inr (1, [.int 0, .int 0, .int 0, .ref q0, .ref q1, .ref q2, .ref q3, .ref q4, .ref q5])), (q0, gz cI 7), (q1, gz cI 7), (q2, gz cI 7), (q3, gz cI 7), (q4, gz cI 6), (q5, gz cI 16)]
  | _ => []
def o_i_M (r0 : Nat) : ClassId → Nat → List Nat → va_W := fun cI h0 qs => match qs with
  | [q0, q1, q2, q3, q4, q5] => [(h0, .inr (2, [.ref r0, .int 0, .int 0, .int 0, .ref q0, .ref q1, .ref q2, .ref q3, .ref q4, .ref q5])), (q0, gz cI 7), (q1, gz cI 7), (q2, gz cI 6), (q3, gz cI 7), (q4, gz cI 7), (q5, gz cI 7)]
  | _ => []
def o_i_T : ClassId → Nat → List Nat → va_W := fun cI h0 qs => match qs with
  | [q0, q1] => [(h0, .inr (3, [.ref q0, .int 0, .int 0, .int 0, .ref q1, .int 0])), (q0, gz cI 96), (q1, gz cI 3)]
  | _ => []
def o_i_W (r0 : Nat) : ClassId → Nat → List Nat → va_W := fun cI h0 qs => match qs with
  | [q0, q1] => [(h0, .inr (4, [.ref r0, .ref q0, .ref q1, .int 0])), (q0, gz cI 448), (q1, gz cI 448)]
  | _ => []
def o_i_O (r0 : Nat) : ClassId → Nat → List Nat → va_W := fun cI h0 qs => match qs with
  | [q0, q1] => [(h0, .inr (5, [.ref r0, .ref q0, .ref q1])), (q0, gz cI 49), (q1, gz cI 1792)]
  | _ => []
def o_i_D : ClassId → Nat → List Nat → va_W := fun cI h0 qs => match qs with
  | [q0, q1, q2, q3, q4, q5, q6, q7, q8, q9, q10, q11, q12, q13, q14, q15, q16, q17, q18] => [(h0, .inr (6, [.int 0, .int 0, .int 0, .int 0, .int 0, .ref q0, .ref q1, .ref q2, .ref q3, .ref q4, .ref q5, .ref q6, .ref q7, .ref q8, .int 0, .int 0, .int 0, .int 0, .ref q9, .int (-1), .ref q10, .ref q11, .int 0, .int 0, .ref q12, .int 0, .int 0, .int 0, .int 0, .ref q13, .ref q14, .ref q15, .ref q16, .ref q17, .ref q18])), (q0, gz cI 7), (q1, gz cI 7), (q2, gz cI 7), (q3, gz cI 7), (q4, gz cI 6), (q5, gz cI 16), (q6, gz cI 96), (q7, gz cI 7), (q8, gz cI 7), (q9, .inl (cI, 7, .inl (upd (upd (upd (upd (upd (upd (upd (fun _ => 0) (Int32.toNatClampNeg 0) 0) (Int32.toNatClampNeg 1) 1) (Int32.toNatClampNeg 2) 2) (Int32.toNatClampNeg 3) 3) (Int32.toNatClampNeg 4) 4) (Int32.toNatClampNeg 5) 5) (Int32.toNatClampNeg 6) 6))), (q10, gz cI 448), (q11, gz cI 448), (q12, gz cI 6), (q13, gz cI 7), (q14, gz cI 7), (q15, gz cI 7), (q16, gz cI 7), (q17, gz cI 6), (q18, gz cI 16)]
  | _ => []
set_option maxRecDepth 20000 in
set_option maxHeartbeats 4000000 in
theorem c_i_R : gn_CT mi_i_R 1 [.int 0, .int 0, .int 0, .null, .null, .null, .null, .null, .null] [] 6 (o_i_R) := by
  refine gn_met (by decide +kernel) rfl (by intro v hv; cases hv) (Nat.le_of_ble_eq_true rfl) (fun X h0 hX hF => ?_)
  refine gn_aload hX (q := h0) (gx_dt dt_i_R 0 rfl) (by first | exact List.mem_cons_self .. | exact List.mem_cons_of_mem _ (List.mem_cons_self ..)) ?_
  refine gn_obj hX (gx_dt dt_i_R 1 rfl) wl_i_R wi_oi wi_oc (Nat.le_of_ble_eq_true rfl) (Nat.le_of_ble_eq_true rfl) ?_
  refine gn_aload hX (q := h0) (gx_dt dt_i_R 2 rfl) (by first | exact List.mem_cons_self .. | exact List.mem_cons_of_mem _ (List.mem_cons_self ..)) ?_
  refine gn_iconst hX (v := 0) (gx_dt dt_i_R 3 rfl) (by decide) ?_
  refine gn_put hX (q0 := 0) fi_i_R_0 rfl rfl rfl (Nat.le_of_ble_eq_true rfl) (gx_dt dt_i_R 4 rfl) ?_
  refine gn_aload hX (q := h0) (gx_dt dt_i_R 5 rfl) (by first | exact List.mem_cons_self .. | exact List.mem_cons_of_mem _ (List.mem_cons_self ..)) ?_
  refine gn_iconst hX (v := 0) (gx_dt dt_i_R 6 rfl) (by decide) ?_
  refine gn_put hX (q0 := 0) fi_i_R_1 rfl rfl rfl (Nat.le_of_ble_eq_true rfl) (gx_dt dt_i_R 7 rfl) ?_
  refine gn_aload hX (q := h0) (gx_dt dt_i_R 8 rfl) (by first | exact List.mem_cons_self .. | exact List.mem_cons_of_mem _ (List.mem_cons_self ..)) ?_
  refine gn_iconst hX (v := 0) (gx_dt dt_i_R 9 rfl) (by decide) ?_
  refine gn_put hX (q0 := 0) fi_i_R_2 rfl rfl rfl (Nat.le_of_ble_eq_true rfl) (gx_dt dt_i_R 10 rfl) ?_
  refine gn_aload hX (q := h0) (gx_dt dt_i_R 11 rfl) (by first | exact List.mem_cons_self .. | exact List.mem_cons_of_mem _ (List.mem_cons_self ..)) ?_
  refine gn_bipush hX (v := 7) (gx_dt dt_i_R 12 rfl) (by decide) ?_
  refine gn_newa hX wi_ac (N := 7) (by decide) (by decide) (by decide) (Nat.le_of_ble_eq_true rfl) (Nat.le_of_ble_eq_true rfl) (gx_dt dt_i_R 13 rfl) (fun q0 => ?_)
  refine gn_put hX (q0 := 0) fi_i_R_3 rfl rfl rfl (Nat.le_of_ble_eq_true rfl) (gx_dt dt_i_R 14 rfl) ?_
  refine gn_aload hX (q := h0) (gx_dt dt_i_R 15 rfl) (by first | exact List.mem_cons_self .. | exact List.mem_cons_of_mem _ (List.mem_cons_self ..)) ?_
  refine gn_bipush hX (v := 7) (gx_dt dt_i_R 16 rfl) (by decide) ?_
  refine gn_newa hX wi_ac (N := 7) (by decide) (by decide) (by decide) (Nat.le_of_ble_eq_true rfl) (Nat.le_of_ble_eq_true rfl) (gx_dt dt_i_R 17 rfl) (fun q1 => ?_)
  refine gn_put hX (q0 := 0) fi_i_R_4 rfl rfl rfl (Nat.le_of_ble_eq_true rfl) (gx_dt dt_i_R 18 rfl) ?_
  refine gn_aload hX (q := h0) (gx_dt dt_i_R 19 rfl) (by first | exact List.mem_cons_self .. | exact List.mem_cons_of_mem _ (List.mem_cons_self ..)) ?_
  refine gn_bipush hX (v := 7) (gx_dt dt_i_R 20 rfl) (by decide) ?_
  refine gn_newa hX wi_ac (N := 7) (by decide) (by decide) (by decide) (Nat.le_of_ble_eq_true rfl) (Nat.le_of_ble_eq_true rfl) (gx_dt dt_i_R 21 rfl) (fun q2 => ?_)
  refine gn_put hX (q0 := 0) fi_i_R_5 rfl rfl rfl (Nat.le_of_ble_eq_true rfl) (gx_dt dt_i_R 22 rfl) ?_
  refine gn_aload hX (q := h0) (gx_dt dt_i_R 23 rfl) (by first | exact List.mem_cons_self .. | exact List.mem_cons_of_mem _ (List.mem_cons_self ..)) ?_
  refine gn_bipush hX (v := 7) (gx_dt dt_i_R 24 rfl) (by decide) ?_
  refine gn_newa hX wi_ac (N := 7) (by decide) (by decide) (by decide) (Nat.le_of_ble_eq_true rfl) (Nat.le_of_ble_eq_true rfl) (gx_dt dt_i_R 25 rfl) (fun q3 => ?_)
  refine gn_put hX (q0 := 0) fi_i_R_6 rfl rfl rfl (Nat.le_of_ble_eq_true rfl) (gx_dt dt_i_R 26 rfl) ?_
  refine gn_aload hX (q := h0) (gx_dt dt_i_R 27 rfl) (by first | exact List.mem_cons_self .. | exact List.mem_cons_of_mem _ (List.mem_cons_self ..)) ?_
  refine gn_bipush hX (v := 6) (gx_dt dt_i_R 28 rfl) (by decide) ?_
  refine gn_newa hX wi_ac (N := 6) (by decide) (by decide) (by decide) (Nat.le_of_ble_eq_true rfl) (Nat.le_of_ble_eq_true rfl) (gx_dt dt_i_R 29 rfl) (fun q4 => ?_)
  refine gn_put hX (q0 := 0) fi_i_R_7 rfl rfl rfl (Nat.le_of_ble_eq_true rfl) (gx_dt dt_i_R 30 rfl) ?_
  refine gn_aload hX (q := h0) (gx_dt dt_i_R 31 rfl) (by first | exact List.mem_cons_self .. | exact List.mem_cons_of_mem _ (List.mem_cons_self ..)) ?_
  refine gn_bipush hX (v := 16) (gx_dt dt_i_R 32 rfl) (by decide) ?_
  refine gn_newa hX wi_ac (N := 16) (by decide) (by decide) (by decide) (Nat.le_of_ble_eq_true rfl) (Nat.le_of_ble_eq_true rfl) (gx_dt dt_i_R 33 rfl) (fun q5 => ?_)
  refine gn_put hX (q0 := 0) fi_i_R_8 rfl rfl rfl (Nat.le_of_ble_eq_true rfl) (gx_dt dt_i_R 34 rfl) ?_
  exact gn_ret hX hF [q0, q1, q2, q3, q4, q5] rfl rfl rfl rfl (gx_dt dt_i_R 35 rfl)
set_option maxRecDepth 20000 in
set_option maxHeartbeats 4000000 in
theorem c_i_M {r0 : Nat} : gn_CT mi_i_M 2 [.null, .int 0, .int 0, .int 0, .null, .null, .null, .null, .null, .null] [.ref r0] 6 (o_i_M r0) := by
  refine gn_met (by decide +kernel) rfl (by intro v hv; rw [List.mem_singleton] at hv; subst hv; rfl) (Nat.le_of_ble_eq_true rfl) (fun X h0 hX hF => ?_)
  refine gn_aload hX (q := h0) (gx_dt dt_i_M 0 rfl) (by first | exact List.mem_cons_self .. | exact List.mem_cons_of_mem _ (List.mem_cons_self ..)) ?_
  refine gn_obj hX (gx_dt dt_i_M 1 rfl) wl_i_M wi_oi wi_oc (Nat.le_of_ble_eq_true rfl) (Nat.le_of_ble_eq_true rfl) ?_
  refine gn_aload hX (q := h0) (gx_dt dt_i_M 2 rfl) (by first | exact List.mem_cons_self .. | exact List.mem_cons_of_mem _ (List.mem_cons_self ..)) ?_
  refine gn_aload hX (q := r0) (gx_dt dt_i_M 3 rfl) (by first | exact List.mem_cons_self .. | exact List.mem_cons_of_mem _ (List.mem_cons_self ..)) ?_
  refine gn_put hX (q0 := 0) fi_i_M_0 rfl rfl rfl (Nat.le_of_ble_eq_true rfl) (gx_dt dt_i_M 4 rfl) ?_
  refine gn_aload hX (q := h0) (gx_dt dt_i_M 5 rfl) (by first | exact List.mem_cons_self .. | exact List.mem_cons_of_mem _ (List.mem_cons_self ..)) ?_
  refine gn_iconst hX (v := 0) (gx_dt dt_i_M 6 rfl) (by decide) ?_
  refine gn_put hX (q0 := 0) fi_i_M_1 rfl rfl rfl (Nat.le_of_ble_eq_true rfl) (gx_dt dt_i_M 7 rfl) ?_
  refine gn_aload hX (q := h0) (gx_dt dt_i_M 8 rfl) (by first | exact List.mem_cons_self .. | exact List.mem_cons_of_mem _ (List.mem_cons_self ..)) ?_
  refine gn_iconst hX (v := 0) (gx_dt dt_i_M 9 rfl) (by decide) ?_
  refine gn_put hX (q0 := 0) fi_i_M_2 rfl rfl rfl (Nat.le_of_ble_eq_true rfl) (gx_dt dt_i_M 10 rfl) ?_
  refine gn_aload hX (q := h0) (gx_dt dt_i_M 11 rfl) (by first | exact List.mem_cons_self .. | exact List.mem_cons_of_mem _ (List.mem_cons_self ..)) ?_
  refine gn_iconst hX (v := 0) (gx_dt dt_i_M 12 rfl) (by decide) ?_
  refine gn_put hX (q0 := 0) fi_i_M_3 rfl rfl rfl (Nat.le_of_ble_eq_true rfl) (gx_dt dt_i_M 13 rfl) ?_
  refine gn_aload hX (q := h0) (gx_dt dt_i_M 14 rfl) (by first | exact List.mem_cons_self .. | exact List.mem_cons_of_mem _ (List.mem_cons_self ..)) ?_
  refine gn_bipush hX (v := 7) (gx_dt dt_i_M 15 rfl) (by decide) ?_
  refine gn_newa hX wi_ac (N := 7) (by decide) (by decide) (by decide) (Nat.le_of_ble_eq_true rfl) (Nat.le_of_ble_eq_true rfl) (gx_dt dt_i_M 16 rfl) (fun q0 => ?_)
  refine gn_put hX (q0 := 0) fi_i_M_4 rfl rfl rfl (Nat.le_of_ble_eq_true rfl) (gx_dt dt_i_M 17 rfl) ?_
  refine gn_aload hX (q := h0) (gx_dt dt_i_M 18 rfl) (by first | exact List.mem_cons_self .. | exact List.mem_cons_of_mem _ (List.mem_cons_self ..)) ?_
  refine gn_bipush hX (v := 7) (gx_dt dt_i_M 19 rfl) (by decide) ?_
  refine gn_newa hX wi_ac (N := 7) (by decide) (by decide) (by decide) (Nat.le_of_ble_eq_true rfl) (Nat.le_of_ble_eq_true rfl) (gx_dt dt_i_M 20 rfl) (fun q1 => ?_)
  refine gn_put hX (q0 := 0) fi_i_M_5 rfl rfl rfl (Nat.le_of_ble_eq_true rfl) (gx_dt dt_i_M 21 rfl) ?_
  refine gn_aload hX (q := h0) (gx_dt dt_i_M 22 rfl) (by first | exact List.mem_cons_self .. | exact List.mem_cons_of_mem _ (List.mem_cons_self ..)) ?_
  refine gn_bipush hX (v := 6) (gx_dt dt_i_M 23 rfl) (by decide) ?_
  refine gn_newa hX wi_ac (N := 6) (by decide) (by decide) (by decide) (Nat.le_of_ble_eq_true rfl) (Nat.le_of_ble_eq_true rfl) (gx_dt dt_i_M 24 rfl) (fun q2 => ?_)
  refine gn_put hX (q0 := 0) fi_i_M_6 rfl rfl rfl (Nat.le_of_ble_eq_true rfl) (gx_dt dt_i_M 25 rfl) ?_
  refine gn_aload hX (q := h0) (gx_dt dt_i_M 26 rfl) (by first | exact List.mem_cons_self .. | exact List.mem_cons_of_mem _ (List.mem_cons_self ..)) ?_
  refine gn_bipush hX (v := 7) (gx_dt dt_i_M 27 rfl) (by decide) ?_
  refine gn_newa hX wi_ac (N := 7) (by decide) (by decide) (by decide) (Nat.le_of_ble_eq_true rfl) (Nat.le_of_ble_eq_true rfl) (gx_dt dt_i_M 28 rfl) (fun q3 => ?_)
  refine gn_put hX (q0 := 0) fi_i_M_7 rfl rfl rfl (Nat.le_of_ble_eq_true rfl) (gx_dt dt_i_M 29 rfl) ?_
  refine gn_aload hX (q := h0) (gx_dt dt_i_M 30 rfl) (by first | exact List.mem_cons_self .. | exact List.mem_cons_of_mem _ (List.mem_cons_self ..)) ?_
  refine gn_bipush hX (v := 7) (gx_dt dt_i_M 31 rfl) (by decide) ?_
  refine gn_newa hX wi_ac (N := 7) (by decide) (by decide) (by decide) (Nat.le_of_ble_eq_true rfl) (Nat.le_of_ble_eq_true rfl) (gx_dt dt_i_M 32 rfl) (fun q4 => ?_)
  refine gn_put hX (q0 := 0) fi_i_M_8 rfl rfl rfl (Nat.le_of_ble_eq_true rfl) (gx_dt dt_i_M 33 rfl) ?_
  refine gn_aload hX (q := h0) (gx_dt dt_i_M 34 rfl) (by first | exact List.mem_cons_self .. | exact List.mem_cons_of_mem _ (List.mem_cons_self ..)) ?_
  refine gn_bipush hX (v := 7) (gx_dt dt_i_M 35 rfl) (by decide) ?_
  refine gn_newa hX wi_ac (N := 7) (by decide) (by decide) (by decide) (Nat.le_of_ble_eq_true rfl) (Nat.le_of_ble_eq_true rfl) (gx_dt dt_i_M 36 rfl) (fun q5 => ?_)
  refine gn_put hX (q0 := 0) fi_i_M_9 rfl rfl rfl (Nat.le_of_ble_eq_true rfl) (gx_dt dt_i_M 37 rfl) ?_
  exact gn_ret hX hF [q0, q1, q2, q3, q4, q5] rfl rfl rfl rfl (gx_dt dt_i_M 38 rfl)
set_option maxRecDepth 20000 in
set_option maxHeartbeats 4000000 in
theorem c_i_T : gn_CT mi_i_T 3 [.null, .int 0, .int 0, .int 0, .null, .int 0] [] 2 (o_i_T) := by
  refine gn_met (by decide +kernel) rfl (by intro v hv; cases hv) (Nat.le_of_ble_eq_true rfl) (fun X h0 hX hF => ?_)
  refine gn_aload hX (q := h0) (gx_dt dt_i_T 0 rfl) (by first | exact List.mem_cons_self .. | exact List.mem_cons_of_mem _ (List.mem_cons_self ..)) ?_
  refine gn_obj hX (gx_dt dt_i_T 1 rfl) wl_i_T wi_oi wi_oc (Nat.le_of_ble_eq_true rfl) (Nat.le_of_ble_eq_true rfl) ?_
  refine gn_aload hX (q := h0) (gx_dt dt_i_T 2 rfl) (by first | exact List.mem_cons_self .. | exact List.mem_cons_of_mem _ (List.mem_cons_self ..)) ?_
  refine gn_bipush hX (v := 96) (gx_dt dt_i_T 3 rfl) (by decide) ?_
  refine gn_newa hX wi_ac (N := 96) (by decide) (by decide) (by decide) (Nat.le_of_ble_eq_true rfl) (Nat.le_of_ble_eq_true rfl) (gx_dt dt_i_T 4 rfl) (fun q0 => ?_)
  refine gn_put hX (q0 := 0) fi_i_T_0 rfl rfl rfl (Nat.le_of_ble_eq_true rfl) (gx_dt dt_i_T 5 rfl) ?_
  refine gn_aload hX (q := h0) (gx_dt dt_i_T 6 rfl) (by first | exact List.mem_cons_self .. | exact List.mem_cons_of_mem _ (List.mem_cons_self ..)) ?_
  refine gn_iconst hX (v := 0) (gx_dt dt_i_T 7 rfl) (by decide) ?_
  refine gn_put hX (q0 := 0) fi_i_T_1 rfl rfl rfl (Nat.le_of_ble_eq_true rfl) (gx_dt dt_i_T 8 rfl) ?_
  refine gn_aload hX (q := h0) (gx_dt dt_i_T 9 rfl) (by first | exact List.mem_cons_self .. | exact List.mem_cons_of_mem _ (List.mem_cons_self ..)) ?_
  refine gn_iconst hX (v := 0) (gx_dt dt_i_T 10 rfl) (by decide) ?_
  refine gn_put hX (q0 := 0) fi_i_T_2 rfl rfl rfl (Nat.le_of_ble_eq_true rfl) (gx_dt dt_i_T 11 rfl) ?_
  refine gn_aload hX (q := h0) (gx_dt dt_i_T 12 rfl) (by first | exact List.mem_cons_self .. | exact List.mem_cons_of_mem _ (List.mem_cons_self ..)) ?_
  refine gn_iconst hX (v := 0) (gx_dt dt_i_T 13 rfl) (by decide) ?_
  refine gn_put hX (q0 := 0) fi_i_T_3 rfl rfl rfl (Nat.le_of_ble_eq_true rfl) (gx_dt dt_i_T 14 rfl) ?_
  refine gn_aload hX (q := h0) (gx_dt dt_i_T 15 rfl) (by first | exact List.mem_cons_self .. | exact List.mem_cons_of_mem _ (List.mem_cons_self ..)) ?_
  refine gn_iconst hX (v := 3) (gx_dt dt_i_T 16 rfl) (by decide) ?_
  refine gn_newa hX wi_ac (N := 3) (by decide) (by decide) (by decide) (Nat.le_of_ble_eq_true rfl) (Nat.le_of_ble_eq_true rfl) (gx_dt dt_i_T 17 rfl) (fun q1 => ?_)
  refine gn_put hX (q0 := 0) fi_i_T_4 rfl rfl rfl (Nat.le_of_ble_eq_true rfl) (gx_dt dt_i_T 18 rfl) ?_
  refine gn_aload hX (q := h0) (gx_dt dt_i_T 19 rfl) (by first | exact List.mem_cons_self .. | exact List.mem_cons_of_mem _ (List.mem_cons_self ..)) ?_
  refine gn_iconst hX (v := 0) (gx_dt dt_i_T 20 rfl) (by decide) ?_
  refine gn_put hX (q0 := 0) fi_i_T_5 rfl rfl rfl (Nat.le_of_ble_eq_true rfl) (gx_dt dt_i_T 21 rfl) ?_
  exact gn_ret hX hF [q0, q1] rfl rfl rfl rfl (gx_dt dt_i_T 22 rfl)
set_option maxRecDepth 20000 in
set_option maxHeartbeats 4000000 in
theorem c_i_W {r0 : Nat} : gn_CT mi_i_W 4 [.null, .null, .null, .int 0] [.ref r0] 2 (o_i_W r0) := by
  refine gn_met (by decide +kernel) rfl (by intro v hv; rw [List.mem_singleton] at hv; subst hv; rfl) (Nat.le_of_ble_eq_true rfl) (fun X h0 hX hF => ?_)
  refine gn_aload hX (q := h0) (gx_dt dt_i_W 0 rfl) (by first | exact List.mem_cons_self .. | exact List.mem_cons_of_mem _ (List.mem_cons_self ..)) ?_
  refine gn_obj hX (gx_dt dt_i_W 1 rfl) wl_i_W wi_oi wi_oc (Nat.le_of_ble_eq_true rfl) (Nat.le_of_ble_eq_true rfl) ?_
  refine gn_aload hX (q := h0) (gx_dt dt_i_W 2 rfl) (by first | exact List.mem_cons_self .. | exact List.mem_cons_of_mem _ (List.mem_cons_self ..)) ?_
  refine gn_aload hX (q := r0) (gx_dt dt_i_W 3 rfl) (by first | exact List.mem_cons_self .. | exact List.mem_cons_of_mem _ (List.mem_cons_self ..)) ?_
  refine gn_put hX (q0 := 0) fi_i_W_0 rfl rfl rfl (Nat.le_of_ble_eq_true rfl) (gx_dt dt_i_W 4 rfl) ?_
  refine gn_aload hX (q := h0) (gx_dt dt_i_W 5 rfl) (by first | exact List.mem_cons_self .. | exact List.mem_cons_of_mem _ (List.mem_cons_self ..)) ?_
  refine gn_sipush hX (v := 448) (gx_dt dt_i_W 6 rfl) (by decide) ?_
  refine gn_newa hX wi_ac (N := 448) (by decide) (by decide) (by decide) (Nat.le_of_ble_eq_true rfl) (Nat.le_of_ble_eq_true rfl) (gx_dt dt_i_W 7 rfl) (fun q0 => ?_)
  refine gn_put hX (q0 := 0) fi_i_W_1 rfl rfl rfl (Nat.le_of_ble_eq_true rfl) (gx_dt dt_i_W 8 rfl) ?_
  refine gn_aload hX (q := h0) (gx_dt dt_i_W 9 rfl) (by first | exact List.mem_cons_self .. | exact List.mem_cons_of_mem _ (List.mem_cons_self ..)) ?_
  refine gn_sipush hX (v := 448) (gx_dt dt_i_W 10 rfl) (by decide) ?_
  refine gn_newa hX wi_ac (N := 448) (by decide) (by decide) (by decide) (Nat.le_of_ble_eq_true rfl) (Nat.le_of_ble_eq_true rfl) (gx_dt dt_i_W 11 rfl) (fun q1 => ?_)
  refine gn_put hX (q0 := 0) fi_i_W_2 rfl rfl rfl (Nat.le_of_ble_eq_true rfl) (gx_dt dt_i_W 12 rfl) ?_
  refine gn_aload hX (q := h0) (gx_dt dt_i_W 13 rfl) (by first | exact List.mem_cons_self .. | exact List.mem_cons_of_mem _ (List.mem_cons_self ..)) ?_
  refine gn_iconst hX (v := 0) (gx_dt dt_i_W 14 rfl) (by decide) ?_
  refine gn_put hX (q0 := 0) fi_i_W_3 rfl rfl rfl (Nat.le_of_ble_eq_true rfl) (gx_dt dt_i_W 15 rfl) ?_
  exact gn_ret hX hF [q0, q1] rfl rfl rfl rfl (gx_dt dt_i_W 16 rfl)
set_option maxRecDepth 20000 in
set_option maxHeartbeats 4000000 in
theorem c_i_O {r0 : Nat} : gn_CT mi_i_O 5 [.null, .null, .null] [.ref r0] 2 (o_i_O r0) := by
  refine gn_met (by decide +kernel) rfl (by intro v hv; rw [List.mem_singleton] at hv; subst hv; rfl) (Nat.le_of_ble_eq_true rfl) (fun X h0 hX hF => ?_)
  refine gn_aload hX (q := h0) (gx_dt dt_i_O 0 rfl) (by first | exact List.mem_cons_self .. | exact List.mem_cons_of_mem _ (List.mem_cons_self ..)) ?_
  refine gn_obj hX (gx_dt dt_i_O 1 rfl) wl_i_O wi_oi wi_oc (Nat.le_of_ble_eq_true rfl) (Nat.le_of_ble_eq_true rfl) ?_
  refine gn_aload hX (q := h0) (gx_dt dt_i_O 2 rfl) (by first | exact List.mem_cons_self .. | exact List.mem_cons_of_mem _ (List.mem_cons_self ..)) ?_
  refine gn_aload hX (q := r0) (gx_dt dt_i_O 3 rfl) (by first | exact List.mem_cons_self .. | exact List.mem_cons_of_mem _ (List.mem_cons_self ..)) ?_
  refine gn_put hX (q0 := 0) fi_i_O_0 rfl rfl rfl (Nat.le_of_ble_eq_true rfl) (gx_dt dt_i_O 4 rfl) ?_
  refine gn_aload hX (q := h0) (gx_dt dt_i_O 5 rfl) (by first | exact List.mem_cons_self .. | exact List.mem_cons_of_mem _ (List.mem_cons_self ..)) ?_
  refine gn_bipush hX (v := 49) (gx_dt dt_i_O 6 rfl) (by decide) ?_
  refine gn_newa hX wi_ac (N := 49) (by decide) (by decide) (by decide) (Nat.le_of_ble_eq_true rfl) (Nat.le_of_ble_eq_true rfl) (gx_dt dt_i_O 7 rfl) (fun q0 => ?_)
  refine gn_put hX (q0 := 0) fi_i_O_1 rfl rfl rfl (Nat.le_of_ble_eq_true rfl) (gx_dt dt_i_O 8 rfl) ?_
  refine gn_aload hX (q := h0) (gx_dt dt_i_O 9 rfl) (by first | exact List.mem_cons_self .. | exact List.mem_cons_of_mem _ (List.mem_cons_self ..)) ?_
  refine gn_sipush hX (v := 1792) (gx_dt dt_i_O 10 rfl) (by decide) ?_
  refine gn_newa hX wi_ac (N := 1792) (by decide) (by decide) (by decide) (Nat.le_of_ble_eq_true rfl) (Nat.le_of_ble_eq_true rfl) (gx_dt dt_i_O 11 rfl) (fun q1 => ?_)
  refine gn_put hX (q0 := 0) fi_i_O_2 rfl rfl rfl (Nat.le_of_ble_eq_true rfl) (gx_dt dt_i_O 12 rfl) ?_
  exact gn_ret hX hF [q0, q1] rfl rfl rfl rfl (gx_dt dt_i_O 13 rfl)
set_option maxRecDepth 20000 in
set_option maxHeartbeats 4000000 in
theorem c_i_D : gn_CT mi_i_D 6 [.int 0, .int 0, .int 0, .int 0, .int 0, .null, .null, .null, .null, .null, .null, .null, .null, .null, .int 0, .int 0, .int 0, .int 0, .null, .int 0, .null, .null, .int 0, .int 0, .null, .int 0, .int 0, .int 0, .int 0, .null, .null, .null, .null, .null, .null] [] 19 (o_i_D) := by
  refine gn_met (by decide +kernel) rfl (by intro v hv; cases hv) (Nat.le_of_ble_eq_true rfl) (fun X h0 hX hF => ?_)
  refine gn_aload hX (q := h0) (gx_dt dt_i_D 0 rfl) (by first | exact List.mem_cons_self .. | exact List.mem_cons_of_mem _ (List.mem_cons_self ..)) ?_
  refine gn_obj hX (gx_dt dt_i_D 1 rfl) wl_i_D wi_oi wi_oc (Nat.le_of_ble_eq_true rfl) (Nat.le_of_ble_eq_true rfl) ?_
  refine gn_aload hX (q := h0) (gx_dt dt_i_D 2 rfl) (by first | exact List.mem_cons_self .. | exact List.mem_cons_of_mem _ (List.mem_cons_self ..)) ?_
  refine gn_iconst hX (v := 0) (gx_dt dt_i_D 3 rfl) (by decide) ?_
  refine gn_put hX (q0 := 0) fi_i_D_0 rfl rfl rfl (Nat.le_of_ble_eq_true rfl) (gx_dt dt_i_D 4 rfl) ?_
  refine gn_aload hX (q := h0) (gx_dt dt_i_D 5 rfl) (by first | exact List.mem_cons_self .. | exact List.mem_cons_of_mem _ (List.mem_cons_self ..)) ?_
  refine gn_iconst hX (v := 0) (gx_dt dt_i_D 6 rfl) (by decide) ?_
  refine gn_put hX (q0 := 0) fi_i_D_1 rfl rfl rfl (Nat.le_of_ble_eq_true rfl) (gx_dt dt_i_D 7 rfl) ?_
  refine gn_aload hX (q := h0) (gx_dt dt_i_D 8 rfl) (by first | exact List.mem_cons_self .. | exact List.mem_cons_of_mem _ (List.mem_cons_self ..)) ?_
  refine gn_iconst hX (v := 0) (gx_dt dt_i_D 9 rfl) (by decide) ?_
  refine gn_put hX (q0 := 0) fi_i_D_2 rfl rfl rfl (Nat.le_of_ble_eq_true rfl) (gx_dt dt_i_D 10 rfl) ?_
  refine gn_aload hX (q := h0) (gx_dt dt_i_D 11 rfl) (by first | exact List.mem_cons_self .. | exact List.mem_cons_of_mem _ (List.mem_cons_self ..)) ?_
  refine gn_iconst hX (v := 0) (gx_dt dt_i_D 12 rfl) (by decide) ?_
  refine gn_put hX (q0 := 0) fi_i_D_3 rfl rfl rfl (Nat.le_of_ble_eq_true rfl) (gx_dt dt_i_D 13 rfl) ?_
  refine gn_aload hX (q := h0) (gx_dt dt_i_D 14 rfl) (by first | exact List.mem_cons_self .. | exact List.mem_cons_of_mem _ (List.mem_cons_self ..)) ?_
  refine gn_iconst hX (v := 0) (gx_dt dt_i_D 15 rfl) (by decide) ?_
  refine gn_put hX (q0 := 0) fi_i_D_4 rfl rfl rfl (Nat.le_of_ble_eq_true rfl) (gx_dt dt_i_D 16 rfl) ?_
  refine gn_aload hX (q := h0) (gx_dt dt_i_D 17 rfl) (by first | exact List.mem_cons_self .. | exact List.mem_cons_of_mem _ (List.mem_cons_self ..)) ?_
  refine gn_bipush hX (v := 7) (gx_dt dt_i_D 18 rfl) (by decide) ?_
  refine gn_newa hX wi_ac (N := 7) (by decide) (by decide) (by decide) (Nat.le_of_ble_eq_true rfl) (Nat.le_of_ble_eq_true rfl) (gx_dt dt_i_D 19 rfl) (fun q0 => ?_)
  refine gn_put hX (q0 := 0) fi_i_D_5 rfl rfl rfl (Nat.le_of_ble_eq_true rfl) (gx_dt dt_i_D 20 rfl) ?_
  refine gn_aload hX (q := h0) (gx_dt dt_i_D 21 rfl) (by first | exact List.mem_cons_self .. | exact List.mem_cons_of_mem _ (List.mem_cons_self ..)) ?_
  refine gn_bipush hX (v := 7) (gx_dt dt_i_D 22 rfl) (by decide) ?_
  refine gn_newa hX wi_ac (N := 7) (by decide) (by decide) (by decide) (Nat.le_of_ble_eq_true rfl) (Nat.le_of_ble_eq_true rfl) (gx_dt dt_i_D 23 rfl) (fun q1 => ?_)
  refine gn_put hX (q0 := 0) fi_i_D_6 rfl rfl rfl (Nat.le_of_ble_eq_true rfl) (gx_dt dt_i_D 24 rfl) ?_
  refine gn_aload hX (q := h0) (gx_dt dt_i_D 25 rfl) (by first | exact List.mem_cons_self .. | exact List.mem_cons_of_mem _ (List.mem_cons_self ..)) ?_
  refine gn_bipush hX (v := 7) (gx_dt dt_i_D 26 rfl) (by decide) ?_
  refine gn_newa hX wi_ac (N := 7) (by decide) (by decide) (by decide) (Nat.le_of_ble_eq_true rfl) (Nat.le_of_ble_eq_true rfl) (gx_dt dt_i_D 27 rfl) (fun q2 => ?_)
  refine gn_put hX (q0 := 0) fi_i_D_7 rfl rfl rfl (Nat.le_of_ble_eq_true rfl) (gx_dt dt_i_D 28 rfl) ?_
  refine gn_aload hX (q := h0) (gx_dt dt_i_D 29 rfl) (by first | exact List.mem_cons_self .. | exact List.mem_cons_of_mem _ (List.mem_cons_self ..)) ?_
  refine gn_bipush hX (v := 7) (gx_dt dt_i_D 30 rfl) (by decide) ?_
  refine gn_newa hX wi_ac (N := 7) (by decide) (by decide) (by decide) (Nat.le_of_ble_eq_true rfl) (Nat.le_of_ble_eq_true rfl) (gx_dt dt_i_D 31 rfl) (fun q3 => ?_)
  refine gn_put hX (q0 := 0) fi_i_D_8 rfl rfl rfl (Nat.le_of_ble_eq_true rfl) (gx_dt dt_i_D 32 rfl) ?_
  refine gn_aload hX (q := h0) (gx_dt dt_i_D 33 rfl) (by first | exact List.mem_cons_self .. | exact List.mem_cons_of_mem _ (List.mem_cons_self ..)) ?_
  refine gn_bipush hX (v := 6) (gx_dt dt_i_D 34 rfl) (by decide) ?_
  refine gn_newa hX wi_ac (N := 6) (by decide) (by decide) (by decide) (Nat.le_of_ble_eq_true rfl) (Nat.le_of_ble_eq_true rfl) (gx_dt dt_i_D 35 rfl) (fun q4 => ?_)
  refine gn_put hX (q0 := 0) fi_i_D_9 rfl rfl rfl (Nat.le_of_ble_eq_true rfl) (gx_dt dt_i_D 36 rfl) ?_
  refine gn_aload hX (q := h0) (gx_dt dt_i_D 37 rfl) (by first | exact List.mem_cons_self .. | exact List.mem_cons_of_mem _ (List.mem_cons_self ..)) ?_
  refine gn_bipush hX (v := 16) (gx_dt dt_i_D 38 rfl) (by decide) ?_
  refine gn_newa hX wi_ac (N := 16) (by decide) (by decide) (by decide) (Nat.le_of_ble_eq_true rfl) (Nat.le_of_ble_eq_true rfl) (gx_dt dt_i_D 39 rfl) (fun q5 => ?_)
  refine gn_put hX (q0 := 0) fi_i_D_10 rfl rfl rfl (Nat.le_of_ble_eq_true rfl) (gx_dt dt_i_D 40 rfl) ?_
  refine gn_aload hX (q := h0) (gx_dt dt_i_D 41 rfl) (by first | exact List.mem_cons_self .. | exact List.mem_cons_of_mem _ (List.mem_cons_self ..)) ?_
  refine gn_bipush hX (v := 96) (gx_dt dt_i_D 42 rfl) (by decide) ?_
  refine gn_newa hX wi_ac (N := 96) (by decide) (by decide) (by decide) (Nat.le_of_ble_eq_true rfl) (Nat.le_of_ble_eq_true rfl) (gx_dt dt_i_D 43 rfl) (fun q6 => ?_)
  refine gn_put hX (q0 := 0) fi_i_D_11 rfl rfl rfl (Nat.le_of_ble_eq_true rfl) (gx_dt dt_i_D 44 rfl) ?_
  refine gn_aload hX (q := h0) (gx_dt dt_i_D 45 rfl) (by first | exact List.mem_cons_self .. | exact List.mem_cons_of_mem _ (List.mem_cons_self ..)) ?_
  refine gn_bipush hX (v := 7) (gx_dt dt_i_D 46 rfl) (by decide) ?_
  refine gn_newa hX wi_ac (N := 7) (by decide) (by decide) (by decide) (Nat.le_of_ble_eq_true rfl) (Nat.le_of_ble_eq_true rfl) (gx_dt dt_i_D 47 rfl) (fun q7 => ?_)
  refine gn_put hX (q0 := 0) fi_i_D_12 rfl rfl rfl (Nat.le_of_ble_eq_true rfl) (gx_dt dt_i_D 48 rfl) ?_
  refine gn_aload hX (q := h0) (gx_dt dt_i_D 49 rfl) (by first | exact List.mem_cons_self .. | exact List.mem_cons_of_mem _ (List.mem_cons_self ..)) ?_
  refine gn_bipush hX (v := 7) (gx_dt dt_i_D 50 rfl) (by decide) ?_
  refine gn_newa hX wi_ac (N := 7) (by decide) (by decide) (by decide) (Nat.le_of_ble_eq_true rfl) (Nat.le_of_ble_eq_true rfl) (gx_dt dt_i_D 51 rfl) (fun q8 => ?_)
  refine gn_put hX (q0 := 0) fi_i_D_13 rfl rfl rfl (Nat.le_of_ble_eq_true rfl) (gx_dt dt_i_D 52 rfl) ?_
  refine gn_aload hX (q := h0) (gx_dt dt_i_D 53 rfl) (by first | exact List.mem_cons_self .. | exact List.mem_cons_of_mem _ (List.mem_cons_self ..)) ?_
  refine gn_iconst hX (v := 0) (gx_dt dt_i_D 54 rfl) (by decide) ?_
  refine gn_put hX (q0 := 0) fi_i_D_14 rfl rfl rfl (Nat.le_of_ble_eq_true rfl) (gx_dt dt_i_D 55 rfl) ?_
  refine gn_aload hX (q := h0) (gx_dt dt_i_D 56 rfl) (by first | exact List.mem_cons_self .. | exact List.mem_cons_of_mem _ (List.mem_cons_self ..)) ?_
  refine gn_iconst hX (v := 0) (gx_dt dt_i_D 57 rfl) (by decide) ?_
  refine gn_put hX (q0 := 0) fi_i_D_15 rfl rfl rfl (Nat.le_of_ble_eq_true rfl) (gx_dt dt_i_D 58 rfl) ?_
  refine gn_aload hX (q := h0) (gx_dt dt_i_D 59 rfl) (by first | exact List.mem_cons_self .. | exact List.mem_cons_of_mem _ (List.mem_cons_self ..)) ?_
  refine gn_iconst hX (v := 0) (gx_dt dt_i_D 60 rfl) (by decide) ?_
  refine gn_put hX (q0 := 0) fi_i_D_16 rfl rfl rfl (Nat.le_of_ble_eq_true rfl) (gx_dt dt_i_D 61 rfl) ?_
  refine gn_aload hX (q := h0) (gx_dt dt_i_D 62 rfl) (by first | exact List.mem_cons_self .. | exact List.mem_cons_of_mem _ (List.mem_cons_self ..)) ?_
  refine gn_iconst hX (v := 0) (gx_dt dt_i_D 63 rfl) (by decide) ?_
  refine gn_put hX (q0 := 0) fi_i_D_17 rfl rfl rfl (Nat.le_of_ble_eq_true rfl) (gx_dt dt_i_D 64 rfl) ?_
  refine gn_aload hX (q := h0) (gx_dt dt_i_D 65 rfl) (by first | exact List.mem_cons_self .. | exact List.mem_cons_of_mem _ (List.mem_cons_self ..)) ?_
  refine gn_bipush hX (v := 7) (gx_dt dt_i_D 66 rfl) (by decide) ?_
  refine gn_newa hX wi_ac (N := 7) (by decide) (by decide) (by decide) (Nat.le_of_ble_eq_true rfl) (Nat.le_of_ble_eq_true rfl) (gx_dt dt_i_D 67 rfl) (fun q9 => ?_)
  refine gn_dup hX (gx_dt dt_i_D 68 rfl) ?_
  refine gn_iconst hX (v := 0) (gx_dt dt_i_D 69 rfl) (by decide) ?_
  refine gn_iconst hX (v := 0) (gx_dt dt_i_D 70 rfl) (by decide) ?_
  refine gn_iast hX (q0 := 10) (n := 7) rfl (by decide) (gx_dt dt_i_D 71 rfl) ?_
  refine gn_dup hX (gx_dt dt_i_D 72 rfl) ?_
  refine gn_iconst hX (v := 1) (gx_dt dt_i_D 73 rfl) (by decide) ?_
  refine gn_iconst hX (v := 1) (gx_dt dt_i_D 74 rfl) (by decide) ?_
  refine gn_iast hX (q0 := 10) (n := 7) rfl (by decide) (gx_dt dt_i_D 75 rfl) ?_
  refine gn_dup hX (gx_dt dt_i_D 76 rfl) ?_
  refine gn_iconst hX (v := 2) (gx_dt dt_i_D 77 rfl) (by decide) ?_
  refine gn_iconst hX (v := 2) (gx_dt dt_i_D 78 rfl) (by decide) ?_
  refine gn_iast hX (q0 := 10) (n := 7) rfl (by decide) (gx_dt dt_i_D 79 rfl) ?_
  refine gn_dup hX (gx_dt dt_i_D 80 rfl) ?_
  refine gn_iconst hX (v := 3) (gx_dt dt_i_D 81 rfl) (by decide) ?_
  refine gn_iconst hX (v := 3) (gx_dt dt_i_D 82 rfl) (by decide) ?_
  refine gn_iast hX (q0 := 10) (n := 7) rfl (by decide) (gx_dt dt_i_D 83 rfl) ?_
  refine gn_dup hX (gx_dt dt_i_D 84 rfl) ?_
  refine gn_iconst hX (v := 4) (gx_dt dt_i_D 85 rfl) (by decide) ?_
  refine gn_iconst hX (v := 4) (gx_dt dt_i_D 86 rfl) (by decide) ?_
  refine gn_iast hX (q0 := 10) (n := 7) rfl (by decide) (gx_dt dt_i_D 87 rfl) ?_
  refine gn_dup hX (gx_dt dt_i_D 88 rfl) ?_
  refine gn_iconst hX (v := 5) (gx_dt dt_i_D 89 rfl) (by decide) ?_
  refine gn_iconst hX (v := 5) (gx_dt dt_i_D 90 rfl) (by decide) ?_
  refine gn_iast hX (q0 := 10) (n := 7) rfl (by decide) (gx_dt dt_i_D 91 rfl) ?_
  refine gn_dup hX (gx_dt dt_i_D 92 rfl) ?_
  refine gn_bipush hX (v := 6) (gx_dt dt_i_D 93 rfl) (by decide) ?_
  refine gn_bipush hX (v := 6) (gx_dt dt_i_D 94 rfl) (by decide) ?_
  refine gn_iast hX (q0 := 10) (n := 7) rfl (by decide) (gx_dt dt_i_D 95 rfl) ?_
  refine gn_put hX (q0 := 0) fi_i_D_18 rfl rfl rfl (Nat.le_of_ble_eq_true rfl) (gx_dt dt_i_D 96 rfl) ?_
  refine gn_aload hX (q := h0) (gx_dt dt_i_D 97 rfl) (by first | exact List.mem_cons_self .. | exact List.mem_cons_of_mem _ (List.mem_cons_self ..)) ?_
  refine gn_iconst hX (v := (-1)) (gx_dt dt_i_D 98 rfl) (by decide) ?_
  refine gn_put hX (q0 := 0) fi_i_D_19 rfl rfl rfl (Nat.le_of_ble_eq_true rfl) (gx_dt dt_i_D 99 rfl) ?_
  refine gn_aload hX (q := h0) (gx_dt dt_i_D 100 rfl) (by first | exact List.mem_cons_self .. | exact List.mem_cons_of_mem _ (List.mem_cons_self ..)) ?_
  refine gn_sipush hX (v := 448) (gx_dt dt_i_D 101 rfl) (by decide) ?_
  refine gn_newa hX wi_ac (N := 448) (by decide) (by decide) (by decide) (Nat.le_of_ble_eq_true rfl) (Nat.le_of_ble_eq_true rfl) (gx_dt dt_i_D 102 rfl) (fun q10 => ?_)
  refine gn_put hX (q0 := 0) fi_i_D_20 rfl rfl rfl (Nat.le_of_ble_eq_true rfl) (gx_dt dt_i_D 103 rfl) ?_
  refine gn_aload hX (q := h0) (gx_dt dt_i_D 104 rfl) (by first | exact List.mem_cons_self .. | exact List.mem_cons_of_mem _ (List.mem_cons_self ..)) ?_
  refine gn_sipush hX (v := 448) (gx_dt dt_i_D 105 rfl) (by decide) ?_
  refine gn_newa hX wi_ac (N := 448) (by decide) (by decide) (by decide) (Nat.le_of_ble_eq_true rfl) (Nat.le_of_ble_eq_true rfl) (gx_dt dt_i_D 106 rfl) (fun q11 => ?_)
  refine gn_put hX (q0 := 0) fi_i_D_21 rfl rfl rfl (Nat.le_of_ble_eq_true rfl) (gx_dt dt_i_D 107 rfl) ?_
  refine gn_aload hX (q := h0) (gx_dt dt_i_D 108 rfl) (by first | exact List.mem_cons_self .. | exact List.mem_cons_of_mem _ (List.mem_cons_self ..)) ?_
  refine gn_iconst hX (v := 0) (gx_dt dt_i_D 109 rfl) (by decide) ?_
  refine gn_put hX (q0 := 0) fi_i_D_22 rfl rfl rfl (Nat.le_of_ble_eq_true rfl) (gx_dt dt_i_D 110 rfl) ?_
  refine gn_aload hX (q := h0) (gx_dt dt_i_D 111 rfl) (by first | exact List.mem_cons_self .. | exact List.mem_cons_of_mem _ (List.mem_cons_self ..)) ?_
  refine gn_iconst hX (v := 0) (gx_dt dt_i_D 112 rfl) (by decide) ?_
  refine gn_put hX (q0 := 0) fi_i_D_23 rfl rfl rfl (Nat.le_of_ble_eq_true rfl) (gx_dt dt_i_D 113 rfl) ?_
  refine gn_aload hX (q := h0) (gx_dt dt_i_D 114 rfl) (by first | exact List.mem_cons_self .. | exact List.mem_cons_of_mem _ (List.mem_cons_self ..)) ?_
  refine gn_bipush hX (v := 6) (gx_dt dt_i_D 115 rfl) (by decide) ?_
  refine gn_newa hX wi_ac (N := 6) (by decide) (by decide) (by decide) (Nat.le_of_ble_eq_true rfl) (Nat.le_of_ble_eq_true rfl) (gx_dt dt_i_D 116 rfl) (fun q12 => ?_)
  refine gn_put hX (q0 := 0) fi_i_D_24 rfl rfl rfl (Nat.le_of_ble_eq_true rfl) (gx_dt dt_i_D 117 rfl) ?_
  refine gn_aload hX (q := h0) (gx_dt dt_i_D 118 rfl) (by first | exact List.mem_cons_self .. | exact List.mem_cons_of_mem _ (List.mem_cons_self ..)) ?_
  refine gn_iconst hX (v := 0) (gx_dt dt_i_D 119 rfl) (by decide) ?_
  refine gn_put hX (q0 := 0) fi_i_D_25 rfl rfl rfl (Nat.le_of_ble_eq_true rfl) (gx_dt dt_i_D 120 rfl) ?_
  refine gn_aload hX (q := h0) (gx_dt dt_i_D 121 rfl) (by first | exact List.mem_cons_self .. | exact List.mem_cons_of_mem _ (List.mem_cons_self ..)) ?_
  refine gn_iconst hX (v := 0) (gx_dt dt_i_D 122 rfl) (by decide) ?_
  refine gn_put hX (q0 := 0) fi_i_D_26 rfl rfl rfl (Nat.le_of_ble_eq_true rfl) (gx_dt dt_i_D 123 rfl) ?_
  refine gn_aload hX (q := h0) (gx_dt dt_i_D 124 rfl) (by first | exact List.mem_cons_self .. | exact List.mem_cons_of_mem _ (List.mem_cons_self ..)) ?_
  refine gn_iconst hX (v := 0) (gx_dt dt_i_D 125 rfl) (by decide) ?_
  refine gn_put hX (q0 := 0) fi_i_D_27 rfl rfl rfl (Nat.le_of_ble_eq_true rfl) (gx_dt dt_i_D 126 rfl) ?_
  refine gn_aload hX (q := h0) (gx_dt dt_i_D 127 rfl) (by first | exact List.mem_cons_self .. | exact List.mem_cons_of_mem _ (List.mem_cons_self ..)) ?_
  refine gn_iconst hX (v := 0) (gx_dt dt_i_D 128 rfl) (by decide) ?_
  refine gn_put hX (q0 := 0) fi_i_D_28 rfl rfl rfl (Nat.le_of_ble_eq_true rfl) (gx_dt dt_i_D 129 rfl) ?_
  refine gn_aload hX (q := h0) (gx_dt dt_i_D 130 rfl) (by first | exact List.mem_cons_self .. | exact List.mem_cons_of_mem _ (List.mem_cons_self ..)) ?_
  refine gn_bipush hX (v := 7) (gx_dt dt_i_D 131 rfl) (by decide) ?_
  refine gn_newa hX wi_ac (N := 7) (by decide) (by decide) (by decide) (Nat.le_of_ble_eq_true rfl) (Nat.le_of_ble_eq_true rfl) (gx_dt dt_i_D 132 rfl) (fun q13 => ?_)
  refine gn_put hX (q0 := 0) fi_i_D_29 rfl rfl rfl (Nat.le_of_ble_eq_true rfl) (gx_dt dt_i_D 133 rfl) ?_
  refine gn_aload hX (q := h0) (gx_dt dt_i_D 134 rfl) (by first | exact List.mem_cons_self .. | exact List.mem_cons_of_mem _ (List.mem_cons_self ..)) ?_
  refine gn_bipush hX (v := 7) (gx_dt dt_i_D 135 rfl) (by decide) ?_
  refine gn_newa hX wi_ac (N := 7) (by decide) (by decide) (by decide) (Nat.le_of_ble_eq_true rfl) (Nat.le_of_ble_eq_true rfl) (gx_dt dt_i_D 136 rfl) (fun q14 => ?_)
  refine gn_put hX (q0 := 0) fi_i_D_30 rfl rfl rfl (Nat.le_of_ble_eq_true rfl) (gx_dt dt_i_D 137 rfl) ?_
  refine gn_aload hX (q := h0) (gx_dt dt_i_D 138 rfl) (by first | exact List.mem_cons_self .. | exact List.mem_cons_of_mem _ (List.mem_cons_self ..)) ?_
  refine gn_bipush hX (v := 7) (gx_dt dt_i_D 139 rfl) (by decide) ?_
  refine gn_newa hX wi_ac (N := 7) (by decide) (by decide) (by decide) (Nat.le_of_ble_eq_true rfl) (Nat.le_of_ble_eq_true rfl) (gx_dt dt_i_D 140 rfl) (fun q15 => ?_)
  refine gn_put hX (q0 := 0) fi_i_D_31 rfl rfl rfl (Nat.le_of_ble_eq_true rfl) (gx_dt dt_i_D 141 rfl) ?_
  refine gn_aload hX (q := h0) (gx_dt dt_i_D 142 rfl) (by first | exact List.mem_cons_self .. | exact List.mem_cons_of_mem _ (List.mem_cons_self ..)) ?_
  refine gn_bipush hX (v := 7) (gx_dt dt_i_D 143 rfl) (by decide) ?_
  refine gn_newa hX wi_ac (N := 7) (by decide) (by decide) (by decide) (Nat.le_of_ble_eq_true rfl) (Nat.le_of_ble_eq_true rfl) (gx_dt dt_i_D 144 rfl) (fun q16 => ?_)
  refine gn_put hX (q0 := 0) fi_i_D_32 rfl rfl rfl (Nat.le_of_ble_eq_true rfl) (gx_dt dt_i_D 145 rfl) ?_
  refine gn_aload hX (q := h0) (gx_dt dt_i_D 146 rfl) (by first | exact List.mem_cons_self .. | exact List.mem_cons_of_mem _ (List.mem_cons_self ..)) ?_
  refine gn_bipush hX (v := 6) (gx_dt dt_i_D 147 rfl) (by decide) ?_
  refine gn_newa hX wi_ac (N := 6) (by decide) (by decide) (by decide) (Nat.le_of_ble_eq_true rfl) (Nat.le_of_ble_eq_true rfl) (gx_dt dt_i_D 148 rfl) (fun q17 => ?_)
  refine gn_put hX (q0 := 0) fi_i_D_33 rfl rfl rfl (Nat.le_of_ble_eq_true rfl) (gx_dt dt_i_D 149 rfl) ?_
  refine gn_aload hX (q := h0) (gx_dt dt_i_D 150 rfl) (by first | exact List.mem_cons_self .. | exact List.mem_cons_of_mem _ (List.mem_cons_self ..)) ?_
  refine gn_bipush hX (v := 16) (gx_dt dt_i_D 151 rfl) (by decide) ?_
  refine gn_newa hX wi_ac (N := 16) (by decide) (by decide) (by decide) (Nat.le_of_ble_eq_true rfl) (Nat.le_of_ble_eq_true rfl) (gx_dt dt_i_D 152 rfl) (fun q18 => ?_)
  refine gn_put hX (q0 := 0) fi_i_D_34 rfl rfl rfl (Nat.le_of_ble_eq_true rfl) (gx_dt dt_i_D 153 rfl) ?_
  exact gn_ret hX hF [q0, q1, q2, q3, q4, q5, q6, q7, q8, q9, q10, q11, q12, q13, q14, q15, q16, q17, q18] rfl rfl rfl rfl (gx_dt dt_i_D 154 rfl)
