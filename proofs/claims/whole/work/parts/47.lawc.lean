/-! ===== the law: its cases ===== -/
def gq_l_w1_0 : List (Nat × Cond) := [(225, Cond.methodLink "EachBearsPillarLaw" 13 ⟨"EachBearsPillar", "letter", "(I)I"⟩)]
theorem gq_l_w1_0_ok : gx_wl1 gq_l_w1_0 = true := by decide +kernel
def gq_l_w2_0 : List (Nat × Cond) := [(4, Cond.methodLink "EachBearsPillarLaw" 18 ⟨"EachBearsPillar", "roof", "()I"⟩), (160, Cond.methodLink "EachBearsPillarLaw" 23 ⟨"EachBearsPillar", "bearer", "(II)I"⟩), (133, Cond.methodLink "EachBearsPillarLaw" 28 ⟨"EachBearsPillar", "span", "(II)I"⟩), (140, Cond.methodLink "EachBearsPillarLaw" 32 ⟨"EachBearsPillar", "ground", "(II)I"⟩), (144, Cond.methodLink "EachBearsPillarLaw" 36 ⟨"EachBearsPillar", "level", "(I)I"⟩), (148, Cond.methodLink "EachBearsPillarLaw" 40 ⟨"EachBearsPillar", "block", "(II)I"⟩), (152, Cond.methodLink "EachBearsPillarLaw" 44 ⟨"EachBearsPillar", "at", "(I)I"⟩), (186, Cond.methodLink "EachBearsPillarLaw" 48 ⟨"EachBearsPillar", "load", "(I)I"⟩), (213, Cond.methodLink "EachBearsPillarLaw" 52 ⟨"EachBearsPillar", "holds", "()I"⟩), (233, Cond.methodLink "EachBearsPillarLaw" 56 ⟨"EachBearsPillar", "sag", "()I"⟩), (239, Cond.methodLink "EachBearsPillarLaw" 120 ⟨"EachBearsPillar", "count", "(I)I"⟩)]
theorem gq_l_w2_0_ok : gx_wl2 gq_l_w2_0 = true := by decide +kernel
def gq_l_w3_0 : List (Nat × Cond) := [(6, Cond.methodLink "EachBearsPillarLaw" 60 ⟨"EachBearsPillar", "levels", "()I"⟩), (10, Cond.methodLink "EachBearsPillarLaw" 64 ⟨"EachBearsPillar", "blocks", "()I"⟩), (22, Cond.methodLink "EachBearsPillarLaw" 68 ⟨"EachBearsPillar", "swap", "()I"⟩), (26, Cond.methodLink "EachBearsPillarLaw" 72 ⟨"EachBearsPillar", "orders", "(I)I"⟩), (76, Cond.methodLink "EachBearsPillarLaw" 76 ⟨"EachBearsPillar", "needed", "()I"⟩), (80, Cond.methodLink "EachBearsPillarLaw" 80 ⟨"EachBearsPillar", "more", "(I)I"⟩), (94, Cond.methodLink "EachBearsPillarLaw" 84 ⟨"EachBearsPillar", "row", "(I)I"⟩), (98, Cond.methodLink "EachBearsPillarLaw" 88 ⟨"EachBearsPillar", "slacked", "()I"⟩), (111, Cond.methodLink "EachBearsPillarLaw" 92 ⟨"EachBearsPillar", "way", "(I)I"⟩), (135, Cond.methodLink "EachBearsPillarLaw" 96 ⟨"EachBearsPillar", "reach", "(I)I"⟩), (144, Cond.methodLink "EachBearsPillarLaw" 100 ⟨"EachBearsPillar", "lowest", "(II)I"⟩), (106, Cond.methodLink "EachBearsPillarLaw" 104 ⟨"EachBearsPillar", "judge", "()I"⟩), (86, Cond.methodLink "EachBearsPillarLaw" 108 ⟨"EachBearsPillar", "seeds", "(II)I"⟩), (152, Cond.methodLink "EachBearsPillarLaw" 112 ⟨"EachBearsPillar", "image", "()I"⟩), (156, Cond.methodLink "EachBearsPillarLaw" 116 ⟨"EachBearsPillar", "on", "()I"⟩)]
theorem gq_l_w3_0_ok : gx_wl3 gq_l_w3_0 = true := by decide +kernel
def gq_l_w4_0 : List (Nat × Cond) := [(32, Cond.methodLink "EachBearsPillarLaw" 17 ⟨"EachBearsPillarModel", "letter", "(I)I"⟩), (40, Cond.methodLink "EachBearsPillarLaw" 22 ⟨"EachBearsPillarModel", "roof", "()I"⟩), (104, Cond.methodLink "EachBearsPillarLaw" 27 ⟨"EachBearsPillarModel", "bearer", "(II)I"⟩), (124, Cond.methodLink "EachBearsPillarLaw" 31 ⟨"EachBearsPillarModel", "span", "(II)I"⟩), (128, Cond.methodLink "EachBearsPillarLaw" 35 ⟨"EachBearsPillarModel", "ground", "(II)I"⟩), (132, Cond.methodLink "EachBearsPillarLaw" 39 ⟨"EachBearsPillarModel", "level", "(I)I"⟩), (136, Cond.methodLink "EachBearsPillarLaw" 43 ⟨"EachBearsPillarModel", "block", "(II)I"⟩), (140, Cond.methodLink "EachBearsPillarLaw" 47 ⟨"EachBearsPillarModel", "at", "(I)I"⟩), (148, Cond.methodLink "EachBearsPillarLaw" 51 ⟨"EachBearsPillarModel", "load", "(I)I"⟩), (164, Cond.methodLink "EachBearsPillarLaw" 55 ⟨"EachBearsPillarModel", "holds", "()I"⟩), (180, Cond.methodLink "EachBearsPillarLaw" 59 ⟨"EachBearsPillarModel", "sag", "()I"⟩), (184, Cond.methodLink "EachBearsPillarLaw" 63 ⟨"EachBearsPillarModel", "levels", "()I"⟩), (188, Cond.methodLink "EachBearsPillarLaw" 67 ⟨"EachBearsPillarModel", "blocks", "()I"⟩), (196, Cond.methodLink "EachBearsPillarLaw" 71 ⟨"EachBearsPillarModel", "swap", "()I"⟩), (204, Cond.methodLink "EachBearsPillarLaw" 75 ⟨"EachBearsPillarModel", "orders", "(I)I"⟩), (216, Cond.methodLink "EachBearsPillarLaw" 79 ⟨"EachBearsPillarModel", "needed", "()I"⟩), (220, Cond.methodLink "EachBearsPillarLaw" 83 ⟨"EachBearsPillarModel", "more", "(I)I"⟩), (224, Cond.methodLink "EachBearsPillarLaw" 87 ⟨"EachBearsPillarModel", "row", "(I)I"⟩), (228, Cond.methodLink "EachBearsPillarLaw" 91 ⟨"EachBearsPillarModel", "slacked", "()I"⟩), (236, Cond.methodLink "EachBearsPillarLaw" 107 ⟨"EachBearsPillarModel", "judge", "()I"⟩)]
theorem gq_l_w4_0_ok : gx_wl4 gq_l_w4_0 = true := by decide +kernel
def gq_l_w5_0 : List (Nat × Cond) := [(4, Cond.methodLink "EachBearsPillarLaw" 95 ⟨"EachBearsPillarModel", "way", "(I)I"⟩), (20, Cond.methodLink "EachBearsPillarLaw" 99 ⟨"EachBearsPillarModel", "reach", "(I)I"⟩), (24, Cond.methodLink "EachBearsPillarLaw" 103 ⟨"EachBearsPillarModel", "lowest", "(II)I"⟩), (28, Cond.methodLink "EachBearsPillarLaw" 111 ⟨"EachBearsPillarModel", "seeds", "(II)I"⟩), (39, Cond.methodLink "EachBearsPillarLaw" 115 ⟨"EachBearsPillarModel", "image", "()I"⟩), (43, Cond.methodLink "EachBearsPillarLaw" 119 ⟨"EachBearsPillarModel", "on", "()I"⟩), (47, Cond.methodLink "EachBearsPillarLaw" 123 ⟨"EachBearsPillarModel", "count", "(I)I"⟩)]
theorem gq_l_w5_0_ok : gx_wl5 gq_l_w5_0 = true := by decide +kernel
theorem dt_law_32 : decode code 32 = .ok (.tableswitch 695 0 26 #[124, 147, 160, 193, 226, 259, 282, 315, 338, 361, 374, 387, 400, 413, 426, 449, 462, 485, 508, 521, 544, 567, 600, 613, 646, 659, 672], 124) := by decide +kernel
def dl_law : List (Nat × Instr × Nat) := [(0, .new 7, 3), (3, .dup, 1), (4, .invokespecial 9, 3), (7, .astore_n 1, 1), (8, .new 10, 3), (11, .dup, 1), (12, .invokespecial 12, 3), (15, .astore_n 2, 1), (16, .iconst 0, 1), (17, .istore_n 3, 1), (18, .iload_n 3, 1), (19, .aload_n 0, 1), (20, .arraylength, 1), (21, .iconst 3, 1), (22, .isub, 1), (23, .if_icmp .gt 710, 3), (26, .aload_n 0, 1), (27, .iload_n 3, 1), (28, .iaload, 1), (29, .bipush 31, 2), (31, .iand, 1), (727, .iinc 3 3, 3), (730, .goto (-712), 3), (733, .iconst 1, 1), (734, .ireturn, 1)]
theorem dt_law : ∀ q ∈ dl_law, decode code q.1 = .ok (q.2.1, q.2.2) := by decide +kernel
def dl_c0 : List (Nat × Instr × Nat) := [(156, .aload_n 1, 1), (157, .aload_n 0, 1), (158, .iload_n 3, 1), (159, .iconst 1, 1), (160, .iadd, 1), (161, .iaload, 1), (162, .invokevirtual 13, 3), (165, .aload_n 2, 1), (166, .aload_n 0, 1), (167, .iload_n 3, 1), (168, .iconst 1, 1), (169, .iadd, 1), (170, .iaload, 1), (171, .invokevirtual 17, 3), (174, .if_icmp .eq 553, 3)]
theorem dt_c0 : ∀ q ∈ dl_c0, decode code q.1 = .ok (q.2.1, q.2.2) := by decide +kernel
theorem wl_c0_x : Cond.methodLink R_law 13 mi_x_E_letter.1 ∈ gx_big := (gx_wb1 gq_l_w1_0_ok 0 rfl)
theorem wl_c0_m : Cond.methodLink R_law 17 mi_m_letter.1 ∈ gx_big := (gx_wb4 gq_l_w4_0_ok 0 rfl)
def dl_c1 : List (Nat × Instr × Nat) := [(179, .aload_n 1, 1), (180, .invokevirtual 18, 3), (183, .aload_n 2, 1), (184, .invokevirtual 22, 3), (187, .if_icmp .eq 540, 3)]
theorem dt_c1 : ∀ q ∈ dl_c1, decode code q.1 = .ok (q.2.1, q.2.2) := by decide +kernel
theorem wl_c1_x : Cond.methodLink R_law 18 mi_x_E_roof.1 ∈ gx_big := (gx_wb2 gq_l_w2_0_ok 0 rfl)
theorem wl_c1_m : Cond.methodLink R_law 22 mi_m_roof.1 ∈ gx_big := (gx_wb4 gq_l_w4_0_ok 1 rfl)
def dl_c2 : List (Nat × Instr × Nat) := [(192, .aload_n 1, 1), (193, .aload_n 0, 1), (194, .iload_n 3, 1), (195, .iconst 1, 1), (196, .iadd, 1), (197, .iaload, 1), (198, .aload_n 0, 1), (199, .iload_n 3, 1), (200, .iconst 2, 1), (201, .iadd, 1), (202, .iaload, 1), (203, .invokevirtual 23, 3), (206, .aload_n 2, 1), (207, .aload_n 0, 1), (208, .iload_n 3, 1), (209, .iconst 1, 1), (210, .iadd, 1), (211, .iaload, 1), (212, .aload_n 0, 1), (213, .iload_n 3, 1), (214, .iconst 2, 1), (215, .iadd, 1), (216, .iaload, 1), (217, .invokevirtual 27, 3), (220, .if_icmp .eq 507, 3)]
theorem dt_c2 : ∀ q ∈ dl_c2, decode code q.1 = .ok (q.2.1, q.2.2) := by decide +kernel
theorem wl_c2_x : Cond.methodLink R_law 23 mi_x_E_bearer.1 ∈ gx_big := (gx_wb2 gq_l_w2_0_ok 1 rfl)
theorem wl_c2_m : Cond.methodLink R_law 27 mi_m_bearer.1 ∈ gx_big := (gx_wb4 gq_l_w4_0_ok 2 rfl)
def dl_c3 : List (Nat × Instr × Nat) := [(225, .aload_n 1, 1), (226, .aload_n 0, 1), (227, .iload_n 3, 1), (228, .iconst 1, 1), (229, .iadd, 1), (230, .iaload, 1), (231, .aload_n 0, 1), (232, .iload_n 3, 1), (233, .iconst 2, 1), (234, .iadd, 1), (235, .iaload, 1), (236, .invokevirtual 28, 3), (239, .aload_n 2, 1), (240, .aload_n 0, 1), (241, .iload_n 3, 1), (242, .iconst 1, 1), (243, .iadd, 1), (244, .iaload, 1), (245, .aload_n 0, 1), (246, .iload_n 3, 1), (247, .iconst 2, 1), (248, .iadd, 1), (249, .iaload, 1), (250, .invokevirtual 31, 3), (253, .if_icmp .eq 474, 3)]
theorem dt_c3 : ∀ q ∈ dl_c3, decode code q.1 = .ok (q.2.1, q.2.2) := by decide +kernel
theorem wl_c3_x : Cond.methodLink R_law 28 mi_x_E_span.1 ∈ gx_big := (gx_wb2 gq_l_w2_0_ok 2 rfl)
theorem wl_c3_m : Cond.methodLink R_law 31 mi_m_span.1 ∈ gx_big := (gx_wb4 gq_l_w4_0_ok 3 rfl)
def dl_c4 : List (Nat × Instr × Nat) := [(258, .aload_n 1, 1), (259, .aload_n 0, 1), (260, .iload_n 3, 1), (261, .iconst 1, 1), (262, .iadd, 1), (263, .iaload, 1), (264, .aload_n 0, 1), (265, .iload_n 3, 1), (266, .iconst 2, 1), (267, .iadd, 1), (268, .iaload, 1), (269, .invokevirtual 32, 3), (272, .aload_n 2, 1), (273, .aload_n 0, 1), (274, .iload_n 3, 1), (275, .iconst 1, 1), (276, .iadd, 1), (277, .iaload, 1), (278, .aload_n 0, 1), (279, .iload_n 3, 1), (280, .iconst 2, 1), (281, .iadd, 1), (282, .iaload, 1), (283, .invokevirtual 35, 3), (286, .if_icmp .eq 441, 3)]
theorem dt_c4 : ∀ q ∈ dl_c4, decode code q.1 = .ok (q.2.1, q.2.2) := by decide +kernel
theorem wl_c4_x : Cond.methodLink R_law 32 mi_x_E_ground.1 ∈ gx_big := (gx_wb2 gq_l_w2_0_ok 3 rfl)
theorem wl_c4_m : Cond.methodLink R_law 35 mi_m_ground.1 ∈ gx_big := (gx_wb4 gq_l_w4_0_ok 4 rfl)
def dl_c5 : List (Nat × Instr × Nat) := [(291, .aload_n 1, 1), (292, .aload_n 0, 1), (293, .iload_n 3, 1), (294, .iconst 1, 1), (295, .iadd, 1), (296, .iaload, 1), (297, .invokevirtual 36, 3), (300, .aload_n 2, 1), (301, .aload_n 0, 1), (302, .iload_n 3, 1), (303, .iconst 1, 1), (304, .iadd, 1), (305, .iaload, 1), (306, .invokevirtual 39, 3), (309, .if_icmp .eq 418, 3)]
theorem dt_c5 : ∀ q ∈ dl_c5, decode code q.1 = .ok (q.2.1, q.2.2) := by decide +kernel
theorem wl_c5_x : Cond.methodLink R_law 36 mi_x_E_level.1 ∈ gx_big := (gx_wb2 gq_l_w2_0_ok 4 rfl)
theorem wl_c5_m : Cond.methodLink R_law 39 mi_m_level.1 ∈ gx_big := (gx_wb4 gq_l_w4_0_ok 5 rfl)
def dl_c6 : List (Nat × Instr × Nat) := [(314, .aload_n 1, 1), (315, .aload_n 0, 1), (316, .iload_n 3, 1), (317, .iconst 1, 1), (318, .iadd, 1), (319, .iaload, 1), (320, .aload_n 0, 1), (321, .iload_n 3, 1), (322, .iconst 2, 1), (323, .iadd, 1), (324, .iaload, 1), (325, .invokevirtual 40, 3), (328, .aload_n 2, 1), (329, .aload_n 0, 1), (330, .iload_n 3, 1), (331, .iconst 1, 1), (332, .iadd, 1), (333, .iaload, 1), (334, .aload_n 0, 1), (335, .iload_n 3, 1), (336, .iconst 2, 1), (337, .iadd, 1), (338, .iaload, 1), (339, .invokevirtual 43, 3), (342, .if_icmp .eq 385, 3)]
theorem dt_c6 : ∀ q ∈ dl_c6, decode code q.1 = .ok (q.2.1, q.2.2) := by decide +kernel
theorem wl_c6_x : Cond.methodLink R_law 40 mi_x_E_block.1 ∈ gx_big := (gx_wb2 gq_l_w2_0_ok 5 rfl)
theorem wl_c6_m : Cond.methodLink R_law 43 mi_m_block.1 ∈ gx_big := (gx_wb4 gq_l_w4_0_ok 6 rfl)
def dl_c7 : List (Nat × Instr × Nat) := [(347, .aload_n 1, 1), (348, .aload_n 0, 1), (349, .iload_n 3, 1), (350, .iconst 1, 1), (351, .iadd, 1), (352, .iaload, 1), (353, .invokevirtual 44, 3), (356, .aload_n 2, 1), (357, .aload_n 0, 1), (358, .iload_n 3, 1), (359, .iconst 1, 1), (360, .iadd, 1), (361, .iaload, 1), (362, .invokevirtual 47, 3), (365, .if_icmp .eq 362, 3)]
theorem dt_c7 : ∀ q ∈ dl_c7, decode code q.1 = .ok (q.2.1, q.2.2) := by decide +kernel
theorem wl_c7_x : Cond.methodLink R_law 44 mi_x_E_at.1 ∈ gx_big := (gx_wb2 gq_l_w2_0_ok 6 rfl)
theorem wl_c7_m : Cond.methodLink R_law 47 mi_m_at.1 ∈ gx_big := (gx_wb4 gq_l_w4_0_ok 7 rfl)
def dl_c8 : List (Nat × Instr × Nat) := [(370, .aload_n 1, 1), (371, .aload_n 0, 1), (372, .iload_n 3, 1), (373, .iconst 1, 1), (374, .iadd, 1), (375, .iaload, 1), (376, .invokevirtual 48, 3), (379, .aload_n 2, 1), (380, .aload_n 0, 1), (381, .iload_n 3, 1), (382, .iconst 1, 1), (383, .iadd, 1), (384, .iaload, 1), (385, .invokevirtual 51, 3), (388, .if_icmp .eq 339, 3)]
theorem dt_c8 : ∀ q ∈ dl_c8, decode code q.1 = .ok (q.2.1, q.2.2) := by decide +kernel
theorem wl_c8_x : Cond.methodLink R_law 48 mi_x_E_load.1 ∈ gx_big := (gx_wb2 gq_l_w2_0_ok 7 rfl)
theorem wl_c8_m : Cond.methodLink R_law 51 mi_m_load.1 ∈ gx_big := (gx_wb4 gq_l_w4_0_ok 8 rfl)
def dl_c9 : List (Nat × Instr × Nat) := [(393, .aload_n 1, 1), (394, .invokevirtual 52, 3), (397, .aload_n 2, 1), (398, .invokevirtual 55, 3), (401, .if_icmp .eq 326, 3)]
theorem dt_c9 : ∀ q ∈ dl_c9, decode code q.1 = .ok (q.2.1, q.2.2) := by decide +kernel
theorem wl_c9_x : Cond.methodLink R_law 52 mi_x_E_holds.1 ∈ gx_big := (gx_wb2 gq_l_w2_0_ok 8 rfl)
theorem wl_c9_m : Cond.methodLink R_law 55 mi_m_holds.1 ∈ gx_big := (gx_wb4 gq_l_w4_0_ok 9 rfl)
def dl_c10 : List (Nat × Instr × Nat) := [(406, .aload_n 1, 1), (407, .invokevirtual 56, 3), (410, .aload_n 2, 1), (411, .invokevirtual 59, 3), (414, .if_icmp .eq 313, 3)]
theorem dt_c10 : ∀ q ∈ dl_c10, decode code q.1 = .ok (q.2.1, q.2.2) := by decide +kernel
theorem wl_c10_x : Cond.methodLink R_law 56 mi_x_E_sag.1 ∈ gx_big := (gx_wb2 gq_l_w2_0_ok 9 rfl)
theorem wl_c10_m : Cond.methodLink R_law 59 mi_m_sag.1 ∈ gx_big := (gx_wb4 gq_l_w4_0_ok 10 rfl)
def dl_c11 : List (Nat × Instr × Nat) := [(419, .aload_n 1, 1), (420, .invokevirtual 60, 3), (423, .aload_n 2, 1), (424, .invokevirtual 63, 3), (427, .if_icmp .eq 300, 3)]
theorem dt_c11 : ∀ q ∈ dl_c11, decode code q.1 = .ok (q.2.1, q.2.2) := by decide +kernel
theorem wl_c11_x : Cond.methodLink R_law 60 mi_x_E_levels.1 ∈ gx_big := (gx_wb3 gq_l_w3_0_ok 0 rfl)
theorem wl_c11_m : Cond.methodLink R_law 63 mi_m_levels.1 ∈ gx_big := (gx_wb4 gq_l_w4_0_ok 11 rfl)
def dl_c12 : List (Nat × Instr × Nat) := [(432, .aload_n 1, 1), (433, .invokevirtual 64, 3), (436, .aload_n 2, 1), (437, .invokevirtual 67, 3), (440, .if_icmp .eq 287, 3)]
theorem dt_c12 : ∀ q ∈ dl_c12, decode code q.1 = .ok (q.2.1, q.2.2) := by decide +kernel
theorem wl_c12_x : Cond.methodLink R_law 64 mi_x_E_blocks.1 ∈ gx_big := (gx_wb3 gq_l_w3_0_ok 1 rfl)
theorem wl_c12_m : Cond.methodLink R_law 67 mi_m_blocks.1 ∈ gx_big := (gx_wb4 gq_l_w4_0_ok 12 rfl)
def dl_c13 : List (Nat × Instr × Nat) := [(445, .aload_n 1, 1), (446, .invokevirtual 68, 3), (449, .aload_n 2, 1), (450, .invokevirtual 71, 3), (453, .if_icmp .eq 274, 3)]
theorem dt_c13 : ∀ q ∈ dl_c13, decode code q.1 = .ok (q.2.1, q.2.2) := by decide +kernel
theorem wl_c13_x : Cond.methodLink R_law 68 mi_x_E_swap.1 ∈ gx_big := (gx_wb3 gq_l_w3_0_ok 2 rfl)
theorem wl_c13_m : Cond.methodLink R_law 71 mi_m_swap.1 ∈ gx_big := (gx_wb4 gq_l_w4_0_ok 13 rfl)
def dl_c14 : List (Nat × Instr × Nat) := [(458, .aload_n 1, 1), (459, .aload_n 0, 1), (460, .iload_n 3, 1), (461, .iconst 1, 1), (462, .iadd, 1), (463, .iaload, 1), (464, .invokevirtual 72, 3), (467, .aload_n 2, 1), (468, .aload_n 0, 1), (469, .iload_n 3, 1), (470, .iconst 1, 1), (471, .iadd, 1), (472, .iaload, 1), (473, .invokevirtual 75, 3), (476, .if_icmp .eq 251, 3)]
theorem dt_c14 : ∀ q ∈ dl_c14, decode code q.1 = .ok (q.2.1, q.2.2) := by decide +kernel
theorem wl_c14_x : Cond.methodLink R_law 72 mi_x_E_orders.1 ∈ gx_big := (gx_wb3 gq_l_w3_0_ok 3 rfl)
theorem wl_c14_m : Cond.methodLink R_law 75 mi_m_orders.1 ∈ gx_big := (gx_wb4 gq_l_w4_0_ok 14 rfl)
def dl_c15 : List (Nat × Instr × Nat) := [(481, .aload_n 1, 1), (482, .invokevirtual 76, 3), (485, .aload_n 2, 1), (486, .invokevirtual 79, 3), (489, .if_icmp .eq 238, 3)]
theorem dt_c15 : ∀ q ∈ dl_c15, decode code q.1 = .ok (q.2.1, q.2.2) := by decide +kernel
theorem wl_c15_x : Cond.methodLink R_law 76 mi_x_E_needed.1 ∈ gx_big := (gx_wb3 gq_l_w3_0_ok 4 rfl)
theorem wl_c15_m : Cond.methodLink R_law 79 mi_m_needed.1 ∈ gx_big := (gx_wb4 gq_l_w4_0_ok 15 rfl)
def dl_c16 : List (Nat × Instr × Nat) := [(494, .aload_n 1, 1), (495, .aload_n 0, 1), (496, .iload_n 3, 1), (497, .iconst 1, 1), (498, .iadd, 1), (499, .iaload, 1), (500, .invokevirtual 80, 3), (503, .aload_n 2, 1), (504, .aload_n 0, 1), (505, .iload_n 3, 1), (506, .iconst 1, 1), (507, .iadd, 1), (508, .iaload, 1), (509, .invokevirtual 83, 3), (512, .if_icmp .eq 215, 3)]
theorem dt_c16 : ∀ q ∈ dl_c16, decode code q.1 = .ok (q.2.1, q.2.2) := by decide +kernel
theorem wl_c16_x : Cond.methodLink R_law 80 mi_x_E_more.1 ∈ gx_big := (gx_wb3 gq_l_w3_0_ok 5 rfl)
theorem wl_c16_m : Cond.methodLink R_law 83 mi_m_more.1 ∈ gx_big := (gx_wb4 gq_l_w4_0_ok 16 rfl)
def dl_c17 : List (Nat × Instr × Nat) := [(517, .aload_n 1, 1), (518, .aload_n 0, 1), (519, .iload_n 3, 1), (520, .iconst 1, 1), (521, .iadd, 1), (522, .iaload, 1), (523, .invokevirtual 84, 3), (526, .aload_n 2, 1), (527, .aload_n 0, 1), (528, .iload_n 3, 1), (529, .iconst 1, 1), (530, .iadd, 1), (531, .iaload, 1), (532, .invokevirtual 87, 3), (535, .if_icmp .eq 192, 3)]
theorem dt_c17 : ∀ q ∈ dl_c17, decode code q.1 = .ok (q.2.1, q.2.2) := by decide +kernel
theorem wl_c17_x : Cond.methodLink R_law 84 mi_x_E_row.1 ∈ gx_big := (gx_wb3 gq_l_w3_0_ok 6 rfl)
theorem wl_c17_m : Cond.methodLink R_law 87 mi_m_row.1 ∈ gx_big := (gx_wb4 gq_l_w4_0_ok 17 rfl)
def dl_c18 : List (Nat × Instr × Nat) := [(540, .aload_n 1, 1), (541, .invokevirtual 88, 3), (544, .aload_n 2, 1), (545, .invokevirtual 91, 3), (548, .if_icmp .eq 179, 3)]
theorem dt_c18 : ∀ q ∈ dl_c18, decode code q.1 = .ok (q.2.1, q.2.2) := by decide +kernel
theorem wl_c18_x : Cond.methodLink R_law 88 mi_x_E_slacked.1 ∈ gx_big := (gx_wb3 gq_l_w3_0_ok 7 rfl)
theorem wl_c18_m : Cond.methodLink R_law 91 mi_m_slacked.1 ∈ gx_big := (gx_wb4 gq_l_w4_0_ok 18 rfl)
def dl_c19 : List (Nat × Instr × Nat) := [(553, .aload_n 1, 1), (554, .aload_n 0, 1), (555, .iload_n 3, 1), (556, .iconst 1, 1), (557, .iadd, 1), (558, .iaload, 1), (559, .invokevirtual 92, 3), (562, .aload_n 2, 1), (563, .aload_n 0, 1), (564, .iload_n 3, 1), (565, .iconst 1, 1), (566, .iadd, 1), (567, .iaload, 1), (568, .invokevirtual 95, 3), (571, .if_icmp .eq 156, 3)]
theorem dt_c19 : ∀ q ∈ dl_c19, decode code q.1 = .ok (q.2.1, q.2.2) := by decide +kernel
theorem wl_c19_x : Cond.methodLink R_law 92 mi_x_E_way.1 ∈ gx_big := (gx_wb3 gq_l_w3_0_ok 8 rfl)
theorem wl_c19_m : Cond.methodLink R_law 95 mi_m_way.1 ∈ gx_big := (gx_wb5 gq_l_w5_0_ok 0 rfl)
def dl_c20 : List (Nat × Instr × Nat) := [(576, .aload_n 1, 1), (577, .aload_n 0, 1), (578, .iload_n 3, 1), (579, .iconst 1, 1), (580, .iadd, 1), (581, .iaload, 1), (582, .invokevirtual 96, 3), (585, .aload_n 2, 1), (586, .aload_n 0, 1), (587, .iload_n 3, 1), (588, .iconst 1, 1), (589, .iadd, 1), (590, .iaload, 1), (591, .invokevirtual 99, 3), (594, .if_icmp .eq 133, 3)]
theorem dt_c20 : ∀ q ∈ dl_c20, decode code q.1 = .ok (q.2.1, q.2.2) := by decide +kernel
theorem wl_c20_x : Cond.methodLink R_law 96 mi_x_E_reach.1 ∈ gx_big := (gx_wb3 gq_l_w3_0_ok 9 rfl)
theorem wl_c20_m : Cond.methodLink R_law 99 mi_m_reach.1 ∈ gx_big := (gx_wb5 gq_l_w5_0_ok 1 rfl)
def dl_c21 : List (Nat × Instr × Nat) := [(599, .aload_n 1, 1), (600, .aload_n 0, 1), (601, .iload_n 3, 1), (602, .iconst 1, 1), (603, .iadd, 1), (604, .iaload, 1), (605, .aload_n 0, 1), (606, .iload_n 3, 1), (607, .iconst 2, 1), (608, .iadd, 1), (609, .iaload, 1), (610, .invokevirtual 100, 3), (613, .aload_n 2, 1), (614, .aload_n 0, 1), (615, .iload_n 3, 1), (616, .iconst 1, 1), (617, .iadd, 1), (618, .iaload, 1), (619, .aload_n 0, 1), (620, .iload_n 3, 1), (621, .iconst 2, 1), (622, .iadd, 1), (623, .iaload, 1), (624, .invokevirtual 103, 3), (627, .if_icmp .eq 100, 3)]
theorem dt_c21 : ∀ q ∈ dl_c21, decode code q.1 = .ok (q.2.1, q.2.2) := by decide +kernel
theorem wl_c21_x : Cond.methodLink R_law 100 mi_x_E_lowest.1 ∈ gx_big := (gx_wb3 gq_l_w3_0_ok 10 rfl)
theorem wl_c21_m : Cond.methodLink R_law 103 mi_m_lowest.1 ∈ gx_big := (gx_wb5 gq_l_w5_0_ok 2 rfl)
def dl_c22 : List (Nat × Instr × Nat) := [(632, .aload_n 1, 1), (633, .invokevirtual 104, 3), (636, .aload_n 2, 1), (637, .invokevirtual 107, 3), (640, .if_icmp .eq 87, 3)]
theorem dt_c22 : ∀ q ∈ dl_c22, decode code q.1 = .ok (q.2.1, q.2.2) := by decide +kernel
theorem wl_c22_x : Cond.methodLink R_law 104 mi_x_E_judge.1 ∈ gx_big := (gx_wb3 gq_l_w3_0_ok 11 rfl)
theorem wl_c22_m : Cond.methodLink R_law 107 mi_m_judge.1 ∈ gx_big := (gx_wb4 gq_l_w4_0_ok 19 rfl)
def dl_c23 : List (Nat × Instr × Nat) := [(645, .aload_n 1, 1), (646, .aload_n 0, 1), (647, .iload_n 3, 1), (648, .iconst 1, 1), (649, .iadd, 1), (650, .iaload, 1), (651, .aload_n 0, 1), (652, .iload_n 3, 1), (653, .iconst 2, 1), (654, .iadd, 1), (655, .iaload, 1), (656, .invokevirtual 108, 3), (659, .aload_n 2, 1), (660, .aload_n 0, 1), (661, .iload_n 3, 1), (662, .iconst 1, 1), (663, .iadd, 1), (664, .iaload, 1), (665, .aload_n 0, 1), (666, .iload_n 3, 1), (667, .iconst 2, 1), (668, .iadd, 1), (669, .iaload, 1), (670, .invokevirtual 111, 3), (673, .if_icmp .eq 54, 3)]
theorem dt_c23 : ∀ q ∈ dl_c23, decode code q.1 = .ok (q.2.1, q.2.2) := by decide +kernel
theorem wl_c23_x : Cond.methodLink R_law 108 mi_x_E_seeds.1 ∈ gx_big := (gx_wb3 gq_l_w3_0_ok 12 rfl)
theorem wl_c23_m : Cond.methodLink R_law 111 mi_m_seeds.1 ∈ gx_big := (gx_wb5 gq_l_w5_0_ok 3 rfl)
def dl_c24 : List (Nat × Instr × Nat) := [(678, .aload_n 1, 1), (679, .invokevirtual 112, 3), (682, .aload_n 2, 1), (683, .invokevirtual 115, 3), (686, .if_icmp .eq 41, 3)]
theorem dt_c24 : ∀ q ∈ dl_c24, decode code q.1 = .ok (q.2.1, q.2.2) := by decide +kernel
theorem wl_c24_x : Cond.methodLink R_law 112 mi_x_E_image.1 ∈ gx_big := (gx_wb3 gq_l_w3_0_ok 13 rfl)
theorem wl_c24_m : Cond.methodLink R_law 115 mi_m_image.1 ∈ gx_big := (gx_wb5 gq_l_w5_0_ok 4 rfl)
def dl_c25 : List (Nat × Instr × Nat) := [(691, .aload_n 1, 1), (692, .invokevirtual 116, 3), (695, .aload_n 2, 1), (696, .invokevirtual 119, 3), (699, .if_icmp .eq 28, 3)]
theorem dt_c25 : ∀ q ∈ dl_c25, decode code q.1 = .ok (q.2.1, q.2.2) := by decide +kernel
theorem wl_c25_x : Cond.methodLink R_law 116 mi_x_E_on.1 ∈ gx_big := (gx_wb3 gq_l_w3_0_ok 14 rfl)
theorem wl_c25_m : Cond.methodLink R_law 119 mi_m_on.1 ∈ gx_big := (gx_wb5 gq_l_w5_0_ok 5 rfl)
def dl_c26 : List (Nat × Instr × Nat) := [(704, .aload_n 1, 1), (705, .aload_n 0, 1), (706, .iload_n 3, 1), (707, .iconst 1, 1), (708, .iadd, 1), (709, .iaload, 1), (710, .invokevirtual 120, 3), (713, .aload_n 2, 1), (714, .aload_n 0, 1), (715, .iload_n 3, 1), (716, .iconst 1, 1), (717, .iadd, 1), (718, .iaload, 1), (719, .invokevirtual 123, 3), (722, .if_icmp .eq 5, 3)]
theorem dt_c26 : ∀ q ∈ dl_c26, decode code q.1 = .ok (q.2.1, q.2.2) := by decide +kernel
theorem wl_c26_x : Cond.methodLink R_law 120 mi_x_E_count.1 ∈ gx_big := (gx_wb2 gq_l_w2_0_ok 10 rfl)
theorem wl_c26_m : Cond.methodLink R_law 123 mi_m_count.1 ∈ gx_big := (gx_wb5 gq_l_w5_0_ok 6 rfl)
theorem lc_0 {X : lx_X} {k : Nat} {wx wm : gx_Wd} (hX : lx_Ok X) (hk : k + 2 < lx_L X) (h : Inv wx wm) (next : ∀ wx' wm', Inv wx' wm' → lx_G X 727 k [] wx' wm') : lx_G X 156 k [] wx wm := by
  obtain ⟨v, wx', wm', hx, hm, hI⟩ := P_letter (lx_xs X (nI k + nI 1).toNatClampNeg) h
  refine lx_a1 hX (gx_dt dt_c0 0 rfl) ?_
  refine lx_a0 hX (gx_dt dt_c0 1 rfl) ?_
  refine lx_i3 hX (gx_dt dt_c0 2 rfl) ?_
  refine lx_ic hX (v := nI 1) (gx_dt dt_c0 3 rfl) (by decide) ?_
  refine lx_add hX (gx_dt dt_c0 4 rfl) ?_
  refine lx_ld hX (lx_in hX (j := 1) (by omega)) (gx_dt dt_c0 5 rfl) ?_
  refine lx_cx hX (As := [lx_xs X (nI k + nI 1).toNatClampNeg]) (rest := []) (gx_dt dt_c0 6 rfl) wl_c0_x mo_x_E_letter mv_x_E_letter rfl rfl rfl (k_x_E_letter hx) rfl rfl (Nat.le_of_ble_eq_true rfl) ?_
  refine lx_a2 hX (gx_dt dt_c0 7 rfl) ?_
  refine lx_a0 hX (gx_dt dt_c0 8 rfl) ?_
  refine lx_i3 hX (gx_dt dt_c0 9 rfl) ?_
  refine lx_ic hX (v := nI 1) (gx_dt dt_c0 10 rfl) (by decide) ?_
  refine lx_add hX (gx_dt dt_c0 11 rfl) ?_
  refine lx_ld hX (lx_in hX (j := 1) (by omega)) (gx_dt dt_c0 12 rfl) ?_
  refine lx_cm hX (As := [lx_xs X (nI k + nI 1).toNatClampNeg]) (rest := [.int v]) (gx_dt dt_c0 13 rfl) wl_c0_m mo_m_letter mv_m_letter rfl rfl rfl (k_m_letter hm) rfl rfl (Nat.le_of_ble_eq_true rfl) ?_
  exact lx_eq hX (tgt := 727) (gx_dt dt_c0 14 rfl) (by decide) (next wx' wm' hI)
theorem lc_1 {X : lx_X} {k : Nat} {wx wm : gx_Wd} (hX : lx_Ok X) (hk : k + 2 < lx_L X) (h : Inv wx wm) (next : ∀ wx' wm', Inv wx' wm' → lx_G X 727 k [] wx' wm') : lx_G X 179 k [] wx wm := by
  obtain ⟨v, wx', wm', hx, hm, hI⟩ := P_roof h
  refine lx_a1 hX (gx_dt dt_c1 0 rfl) ?_
  refine lx_cx hX (As := []) (rest := []) (gx_dt dt_c1 1 rfl) wl_c1_x mo_x_E_roof mv_x_E_roof rfl rfl rfl (k_x_E_roof hx) rfl rfl (Nat.le_of_ble_eq_true rfl) ?_
  refine lx_a2 hX (gx_dt dt_c1 2 rfl) ?_
  refine lx_cm hX (As := []) (rest := [.int v]) (gx_dt dt_c1 3 rfl) wl_c1_m mo_m_roof mv_m_roof rfl rfl rfl (k_m_roof hm) rfl rfl (Nat.le_of_ble_eq_true rfl) ?_
  exact lx_eq hX (tgt := 727) (gx_dt dt_c1 4 rfl) (by decide) (next wx' wm' hI)
theorem lc_2 {X : lx_X} {k : Nat} {wx wm : gx_Wd} (hX : lx_Ok X) (hk : k + 2 < lx_L X) (h : Inv wx wm) (next : ∀ wx' wm', Inv wx' wm' → lx_G X 727 k [] wx' wm') : lx_G X 192 k [] wx wm := by
  obtain ⟨v, wx', wm', hx, hm, hI⟩ := P_bearer (lx_xs X (nI k + nI 1).toNatClampNeg) (lx_xs X (nI k + nI 2).toNatClampNeg) h
  refine lx_a1 hX (gx_dt dt_c2 0 rfl) ?_
  refine lx_a0 hX (gx_dt dt_c2 1 rfl) ?_
  refine lx_i3 hX (gx_dt dt_c2 2 rfl) ?_
  refine lx_ic hX (v := nI 1) (gx_dt dt_c2 3 rfl) (by decide) ?_
  refine lx_add hX (gx_dt dt_c2 4 rfl) ?_
  refine lx_ld hX (lx_in hX (j := 1) (by omega)) (gx_dt dt_c2 5 rfl) ?_
  refine lx_a0 hX (gx_dt dt_c2 6 rfl) ?_
  refine lx_i3 hX (gx_dt dt_c2 7 rfl) ?_
  refine lx_ic hX (v := nI 2) (gx_dt dt_c2 8 rfl) (by decide) ?_
  refine lx_add hX (gx_dt dt_c2 9 rfl) ?_
  refine lx_ld hX (lx_in hX (j := 2) (by omega)) (gx_dt dt_c2 10 rfl) ?_
  refine lx_cx hX (As := [lx_xs X (nI k + nI 1).toNatClampNeg, lx_xs X (nI k + nI 2).toNatClampNeg]) (rest := []) (gx_dt dt_c2 11 rfl) wl_c2_x mo_x_E_bearer mv_x_E_bearer rfl rfl rfl (k_x_E_bearer hx) rfl rfl (Nat.le_of_ble_eq_true rfl) ?_
  refine lx_a2 hX (gx_dt dt_c2 12 rfl) ?_
  refine lx_a0 hX (gx_dt dt_c2 13 rfl) ?_
  refine lx_i3 hX (gx_dt dt_c2 14 rfl) ?_
  refine lx_ic hX (v := nI 1) (gx_dt dt_c2 15 rfl) (by decide) ?_
  refine lx_add hX (gx_dt dt_c2 16 rfl) ?_
  refine lx_ld hX (lx_in hX (j := 1) (by omega)) (gx_dt dt_c2 17 rfl) ?_
  refine lx_a0 hX (gx_dt dt_c2 18 rfl) ?_
  refine lx_i3 hX (gx_dt dt_c2 19 rfl) ?_
  refine lx_ic hX (v := nI 2) (gx_dt dt_c2 20 rfl) (by decide) ?_
  refine lx_add hX (gx_dt dt_c2 21 rfl) ?_
  refine lx_ld hX (lx_in hX (j := 2) (by omega)) (gx_dt dt_c2 22 rfl) ?_
  refine lx_cm hX (As := [lx_xs X (nI k + nI 1).toNatClampNeg, lx_xs X (nI k + nI 2).toNatClampNeg]) (rest := [.int v]) (gx_dt dt_c2 23 rfl) wl_c2_m mo_m_bearer mv_m_bearer rfl rfl rfl (k_m_bearer hm) rfl rfl (Nat.le_of_ble_eq_true rfl) ?_
  exact lx_eq hX (tgt := 727) (gx_dt dt_c2 24 rfl) (by decide) (next wx' wm' hI)
theorem lc_3 {X : lx_X} {k : Nat} {wx wm : gx_Wd} (hX : lx_Ok X) (hk : k + 2 < lx_L X) (h : Inv wx wm) (next : ∀ wx' wm', Inv wx' wm' → lx_G X 727 k [] wx' wm') : lx_G X 225 k [] wx wm := by
  obtain ⟨v, wx', wm', hx, hm, hI⟩ := P_span (lx_xs X (nI k + nI 1).toNatClampNeg) (lx_xs X (nI k + nI 2).toNatClampNeg) h
  refine lx_a1 hX (gx_dt dt_c3 0 rfl) ?_
  refine lx_a0 hX (gx_dt dt_c3 1 rfl) ?_
  refine lx_i3 hX (gx_dt dt_c3 2 rfl) ?_
  refine lx_ic hX (v := nI 1) (gx_dt dt_c3 3 rfl) (by decide) ?_
  refine lx_add hX (gx_dt dt_c3 4 rfl) ?_
  refine lx_ld hX (lx_in hX (j := 1) (by omega)) (gx_dt dt_c3 5 rfl) ?_
  refine lx_a0 hX (gx_dt dt_c3 6 rfl) ?_
  refine lx_i3 hX (gx_dt dt_c3 7 rfl) ?_
  refine lx_ic hX (v := nI 2) (gx_dt dt_c3 8 rfl) (by decide) ?_
  refine lx_add hX (gx_dt dt_c3 9 rfl) ?_
  refine lx_ld hX (lx_in hX (j := 2) (by omega)) (gx_dt dt_c3 10 rfl) ?_
  refine lx_cx hX (As := [lx_xs X (nI k + nI 1).toNatClampNeg, lx_xs X (nI k + nI 2).toNatClampNeg]) (rest := []) (gx_dt dt_c3 11 rfl) wl_c3_x mo_x_E_span mv_x_E_span rfl rfl rfl (k_x_E_span hx) rfl rfl (Nat.le_of_ble_eq_true rfl) ?_
  refine lx_a2 hX (gx_dt dt_c3 12 rfl) ?_
  refine lx_a0 hX (gx_dt dt_c3 13 rfl) ?_
  refine lx_i3 hX (gx_dt dt_c3 14 rfl) ?_
  refine lx_ic hX (v := nI 1) (gx_dt dt_c3 15 rfl) (by decide) ?_
  refine lx_add hX (gx_dt dt_c3 16 rfl) ?_
  refine lx_ld hX (lx_in hX (j := 1) (by omega)) (gx_dt dt_c3 17 rfl) ?_
  refine lx_a0 hX (gx_dt dt_c3 18 rfl) ?_
  refine lx_i3 hX (gx_dt dt_c3 19 rfl) ?_
  refine lx_ic hX (v := nI 2) (gx_dt dt_c3 20 rfl) (by decide) ?_
  refine lx_add hX (gx_dt dt_c3 21 rfl) ?_
  refine lx_ld hX (lx_in hX (j := 2) (by omega)) (gx_dt dt_c3 22 rfl) ?_
  refine lx_cm hX (As := [lx_xs X (nI k + nI 1).toNatClampNeg, lx_xs X (nI k + nI 2).toNatClampNeg]) (rest := [.int v]) (gx_dt dt_c3 23 rfl) wl_c3_m mo_m_span mv_m_span rfl rfl rfl (k_m_span hm) rfl rfl (Nat.le_of_ble_eq_true rfl) ?_
  exact lx_eq hX (tgt := 727) (gx_dt dt_c3 24 rfl) (by decide) (next wx' wm' hI)
theorem lc_4 {X : lx_X} {k : Nat} {wx wm : gx_Wd} (hX : lx_Ok X) (hk : k + 2 < lx_L X) (h : Inv wx wm) (next : ∀ wx' wm', Inv wx' wm' → lx_G X 727 k [] wx' wm') : lx_G X 258 k [] wx wm := by
  obtain ⟨v, wx', wm', hx, hm, hI⟩ := P_ground (lx_xs X (nI k + nI 1).toNatClampNeg) (lx_xs X (nI k + nI 2).toNatClampNeg) h
  refine lx_a1 hX (gx_dt dt_c4 0 rfl) ?_
  refine lx_a0 hX (gx_dt dt_c4 1 rfl) ?_
  refine lx_i3 hX (gx_dt dt_c4 2 rfl) ?_
  refine lx_ic hX (v := nI 1) (gx_dt dt_c4 3 rfl) (by decide) ?_
  refine lx_add hX (gx_dt dt_c4 4 rfl) ?_
  refine lx_ld hX (lx_in hX (j := 1) (by omega)) (gx_dt dt_c4 5 rfl) ?_
  refine lx_a0 hX (gx_dt dt_c4 6 rfl) ?_
  refine lx_i3 hX (gx_dt dt_c4 7 rfl) ?_
  refine lx_ic hX (v := nI 2) (gx_dt dt_c4 8 rfl) (by decide) ?_
  refine lx_add hX (gx_dt dt_c4 9 rfl) ?_
  refine lx_ld hX (lx_in hX (j := 2) (by omega)) (gx_dt dt_c4 10 rfl) ?_
  refine lx_cx hX (As := [lx_xs X (nI k + nI 1).toNatClampNeg, lx_xs X (nI k + nI 2).toNatClampNeg]) (rest := []) (gx_dt dt_c4 11 rfl) wl_c4_x mo_x_E_ground mv_x_E_ground rfl rfl rfl (k_x_E_ground hx) rfl rfl (Nat.le_of_ble_eq_true rfl) ?_
  refine lx_a2 hX (gx_dt dt_c4 12 rfl) ?_
  refine lx_a0 hX (gx_dt dt_c4 13 rfl) ?_
  refine lx_i3 hX (gx_dt dt_c4 14 rfl) ?_
  refine lx_ic hX (v := nI 1) (gx_dt dt_c4 15 rfl) (by decide) ?_
  refine lx_add hX (gx_dt dt_c4 16 rfl) ?_
  refine lx_ld hX (lx_in hX (j := 1) (by omega)) (gx_dt dt_c4 17 rfl) ?_
  refine lx_a0 hX (gx_dt dt_c4 18 rfl) ?_
  refine lx_i3 hX (gx_dt dt_c4 19 rfl) ?_
  refine lx_ic hX (v := nI 2) (gx_dt dt_c4 20 rfl) (by decide) ?_
  refine lx_add hX (gx_dt dt_c4 21 rfl) ?_
  refine lx_ld hX (lx_in hX (j := 2) (by omega)) (gx_dt dt_c4 22 rfl) ?_
  refine lx_cm hX (As := [lx_xs X (nI k + nI 1).toNatClampNeg, lx_xs X (nI k + nI 2).toNatClampNeg]) (rest := [.int v]) (gx_dt dt_c4 23 rfl) wl_c4_m mo_m_ground mv_m_ground rfl rfl rfl (k_m_ground hm) rfl rfl (Nat.le_of_ble_eq_true rfl) ?_
  exact lx_eq hX (tgt := 727) (gx_dt dt_c4 24 rfl) (by decide) (next wx' wm' hI)
theorem lc_5 {X : lx_X} {k : Nat} {wx wm : gx_Wd} (hX : lx_Ok X) (hk : k + 2 < lx_L X) (h : Inv wx wm) (next : ∀ wx' wm', Inv wx' wm' → lx_G X 727 k [] wx' wm') : lx_G X 291 k [] wx wm := by
  obtain ⟨v, wx', wm', hx, hm, hI⟩ := P_level (lx_xs X (nI k + nI 1).toNatClampNeg) h
  refine lx_a1 hX (gx_dt dt_c5 0 rfl) ?_
  refine lx_a0 hX (gx_dt dt_c5 1 rfl) ?_
  refine lx_i3 hX (gx_dt dt_c5 2 rfl) ?_
  refine lx_ic hX (v := nI 1) (gx_dt dt_c5 3 rfl) (by decide) ?_
  refine lx_add hX (gx_dt dt_c5 4 rfl) ?_
  refine lx_ld hX (lx_in hX (j := 1) (by omega)) (gx_dt dt_c5 5 rfl) ?_
  refine lx_cx hX (As := [lx_xs X (nI k + nI 1).toNatClampNeg]) (rest := []) (gx_dt dt_c5 6 rfl) wl_c5_x mo_x_E_level mv_x_E_level rfl rfl rfl (k_x_E_level hx) rfl rfl (Nat.le_of_ble_eq_true rfl) ?_
  refine lx_a2 hX (gx_dt dt_c5 7 rfl) ?_
  refine lx_a0 hX (gx_dt dt_c5 8 rfl) ?_
  refine lx_i3 hX (gx_dt dt_c5 9 rfl) ?_
  refine lx_ic hX (v := nI 1) (gx_dt dt_c5 10 rfl) (by decide) ?_
  refine lx_add hX (gx_dt dt_c5 11 rfl) ?_
  refine lx_ld hX (lx_in hX (j := 1) (by omega)) (gx_dt dt_c5 12 rfl) ?_
  refine lx_cm hX (As := [lx_xs X (nI k + nI 1).toNatClampNeg]) (rest := [.int v]) (gx_dt dt_c5 13 rfl) wl_c5_m mo_m_level mv_m_level rfl rfl rfl (k_m_level hm) rfl rfl (Nat.le_of_ble_eq_true rfl) ?_
  exact lx_eq hX (tgt := 727) (gx_dt dt_c5 14 rfl) (by decide) (next wx' wm' hI)
theorem lc_6 {X : lx_X} {k : Nat} {wx wm : gx_Wd} (hX : lx_Ok X) (hk : k + 2 < lx_L X) (h : Inv wx wm) (next : ∀ wx' wm', Inv wx' wm' → lx_G X 727 k [] wx' wm') : lx_G X 314 k [] wx wm := by
  obtain ⟨v, wx', wm', hx, hm, hI⟩ := P_block (lx_xs X (nI k + nI 1).toNatClampNeg) (lx_xs X (nI k + nI 2).toNatClampNeg) h
  refine lx_a1 hX (gx_dt dt_c6 0 rfl) ?_
  refine lx_a0 hX (gx_dt dt_c6 1 rfl) ?_
  refine lx_i3 hX (gx_dt dt_c6 2 rfl) ?_
  refine lx_ic hX (v := nI 1) (gx_dt dt_c6 3 rfl) (by decide) ?_
  refine lx_add hX (gx_dt dt_c6 4 rfl) ?_
  refine lx_ld hX (lx_in hX (j := 1) (by omega)) (gx_dt dt_c6 5 rfl) ?_
  refine lx_a0 hX (gx_dt dt_c6 6 rfl) ?_
  refine lx_i3 hX (gx_dt dt_c6 7 rfl) ?_
  refine lx_ic hX (v := nI 2) (gx_dt dt_c6 8 rfl) (by decide) ?_
  refine lx_add hX (gx_dt dt_c6 9 rfl) ?_
  refine lx_ld hX (lx_in hX (j := 2) (by omega)) (gx_dt dt_c6 10 rfl) ?_
  refine lx_cx hX (As := [lx_xs X (nI k + nI 1).toNatClampNeg, lx_xs X (nI k + nI 2).toNatClampNeg]) (rest := []) (gx_dt dt_c6 11 rfl) wl_c6_x mo_x_E_block mv_x_E_block rfl rfl rfl (k_x_E_block hx) rfl rfl (Nat.le_of_ble_eq_true rfl) ?_
  refine lx_a2 hX (gx_dt dt_c6 12 rfl) ?_
  refine lx_a0 hX (gx_dt dt_c6 13 rfl) ?_
  refine lx_i3 hX (gx_dt dt_c6 14 rfl) ?_
  refine lx_ic hX (v := nI 1) (gx_dt dt_c6 15 rfl) (by decide) ?_
  refine lx_add hX (gx_dt dt_c6 16 rfl) ?_
  refine lx_ld hX (lx_in hX (j := 1) (by omega)) (gx_dt dt_c6 17 rfl) ?_
  refine lx_a0 hX (gx_dt dt_c6 18 rfl) ?_
  refine lx_i3 hX (gx_dt dt_c6 19 rfl) ?_
  refine lx_ic hX (v := nI 2) (gx_dt dt_c6 20 rfl) (by decide) ?_
  refine lx_add hX (gx_dt dt_c6 21 rfl) ?_
  refine lx_ld hX (lx_in hX (j := 2) (by omega)) (gx_dt dt_c6 22 rfl) ?_
  refine lx_cm hX (As := [lx_xs X (nI k + nI 1).toNatClampNeg, lx_xs X (nI k + nI 2).toNatClampNeg]) (rest := [.int v]) (gx_dt dt_c6 23 rfl) wl_c6_m mo_m_block mv_m_block rfl rfl rfl (k_m_block hm) rfl rfl (Nat.le_of_ble_eq_true rfl) ?_
  exact lx_eq hX (tgt := 727) (gx_dt dt_c6 24 rfl) (by decide) (next wx' wm' hI)
theorem lc_7 {X : lx_X} {k : Nat} {wx wm : gx_Wd} (hX : lx_Ok X) (hk : k + 2 < lx_L X) (h : Inv wx wm) (next : ∀ wx' wm', Inv wx' wm' → lx_G X 727 k [] wx' wm') : lx_G X 347 k [] wx wm := by
  obtain ⟨v, wx', wm', hx, hm, hI⟩ := P_at (lx_xs X (nI k + nI 1).toNatClampNeg) h
  refine lx_a1 hX (gx_dt dt_c7 0 rfl) ?_
  refine lx_a0 hX (gx_dt dt_c7 1 rfl) ?_
  refine lx_i3 hX (gx_dt dt_c7 2 rfl) ?_
  refine lx_ic hX (v := nI 1) (gx_dt dt_c7 3 rfl) (by decide) ?_
  refine lx_add hX (gx_dt dt_c7 4 rfl) ?_
  refine lx_ld hX (lx_in hX (j := 1) (by omega)) (gx_dt dt_c7 5 rfl) ?_
  refine lx_cx hX (As := [lx_xs X (nI k + nI 1).toNatClampNeg]) (rest := []) (gx_dt dt_c7 6 rfl) wl_c7_x mo_x_E_at mv_x_E_at rfl rfl rfl (k_x_E_at hx) rfl rfl (Nat.le_of_ble_eq_true rfl) ?_
  refine lx_a2 hX (gx_dt dt_c7 7 rfl) ?_
  refine lx_a0 hX (gx_dt dt_c7 8 rfl) ?_
  refine lx_i3 hX (gx_dt dt_c7 9 rfl) ?_
  refine lx_ic hX (v := nI 1) (gx_dt dt_c7 10 rfl) (by decide) ?_
  refine lx_add hX (gx_dt dt_c7 11 rfl) ?_
  refine lx_ld hX (lx_in hX (j := 1) (by omega)) (gx_dt dt_c7 12 rfl) ?_
  refine lx_cm hX (As := [lx_xs X (nI k + nI 1).toNatClampNeg]) (rest := [.int v]) (gx_dt dt_c7 13 rfl) wl_c7_m mo_m_at mv_m_at rfl rfl rfl (k_m_at hm) rfl rfl (Nat.le_of_ble_eq_true rfl) ?_
  exact lx_eq hX (tgt := 727) (gx_dt dt_c7 14 rfl) (by decide) (next wx' wm' hI)
theorem lc_8 {X : lx_X} {k : Nat} {wx wm : gx_Wd} (hX : lx_Ok X) (hk : k + 2 < lx_L X) (h : Inv wx wm) (next : ∀ wx' wm', Inv wx' wm' → lx_G X 727 k [] wx' wm') : lx_G X 370 k [] wx wm := by
  obtain ⟨v, wx', wm', hx, hm, hI⟩ := P_load (lx_xs X (nI k + nI 1).toNatClampNeg) h
  refine lx_a1 hX (gx_dt dt_c8 0 rfl) ?_
  refine lx_a0 hX (gx_dt dt_c8 1 rfl) ?_
  refine lx_i3 hX (gx_dt dt_c8 2 rfl) ?_
  refine lx_ic hX (v := nI 1) (gx_dt dt_c8 3 rfl) (by decide) ?_
  refine lx_add hX (gx_dt dt_c8 4 rfl) ?_
  refine lx_ld hX (lx_in hX (j := 1) (by omega)) (gx_dt dt_c8 5 rfl) ?_
  refine lx_cx hX (As := [lx_xs X (nI k + nI 1).toNatClampNeg]) (rest := []) (gx_dt dt_c8 6 rfl) wl_c8_x mo_x_E_load mv_x_E_load rfl rfl rfl (k_x_E_load hx) rfl rfl (Nat.le_of_ble_eq_true rfl) ?_
  refine lx_a2 hX (gx_dt dt_c8 7 rfl) ?_
  refine lx_a0 hX (gx_dt dt_c8 8 rfl) ?_
  refine lx_i3 hX (gx_dt dt_c8 9 rfl) ?_
  refine lx_ic hX (v := nI 1) (gx_dt dt_c8 10 rfl) (by decide) ?_
  refine lx_add hX (gx_dt dt_c8 11 rfl) ?_
  refine lx_ld hX (lx_in hX (j := 1) (by omega)) (gx_dt dt_c8 12 rfl) ?_
  refine lx_cm hX (As := [lx_xs X (nI k + nI 1).toNatClampNeg]) (rest := [.int v]) (gx_dt dt_c8 13 rfl) wl_c8_m mo_m_load mv_m_load rfl rfl rfl (k_m_load hm) rfl rfl (Nat.le_of_ble_eq_true rfl) ?_
  exact lx_eq hX (tgt := 727) (gx_dt dt_c8 14 rfl) (by decide) (next wx' wm' hI)
theorem lc_9 {X : lx_X} {k : Nat} {wx wm : gx_Wd} (hX : lx_Ok X) (hk : k + 2 < lx_L X) (h : Inv wx wm) (next : ∀ wx' wm', Inv wx' wm' → lx_G X 727 k [] wx' wm') : lx_G X 393 k [] wx wm := by
  obtain ⟨v, wx', wm', hx, hm, hI⟩ := P_holds h
  refine lx_a1 hX (gx_dt dt_c9 0 rfl) ?_
  refine lx_cx hX (As := []) (rest := []) (gx_dt dt_c9 1 rfl) wl_c9_x mo_x_E_holds mv_x_E_holds rfl rfl rfl (k_x_E_holds hx) rfl rfl (Nat.le_of_ble_eq_true rfl) ?_
  refine lx_a2 hX (gx_dt dt_c9 2 rfl) ?_
  refine lx_cm hX (As := []) (rest := [.int v]) (gx_dt dt_c9 3 rfl) wl_c9_m mo_m_holds mv_m_holds rfl rfl rfl (k_m_holds hm) rfl rfl (Nat.le_of_ble_eq_true rfl) ?_
  exact lx_eq hX (tgt := 727) (gx_dt dt_c9 4 rfl) (by decide) (next wx' wm' hI)
theorem lc_10 {X : lx_X} {k : Nat} {wx wm : gx_Wd} (hX : lx_Ok X) (hk : k + 2 < lx_L X) (h : Inv wx wm) (next : ∀ wx' wm', Inv wx' wm' → lx_G X 727 k [] wx' wm') : lx_G X 406 k [] wx wm := by
  obtain ⟨v, wx', wm', hx, hm, hI⟩ := P_sag h
  refine lx_a1 hX (gx_dt dt_c10 0 rfl) ?_
  refine lx_cx hX (As := []) (rest := []) (gx_dt dt_c10 1 rfl) wl_c10_x mo_x_E_sag mv_x_E_sag rfl rfl rfl (k_x_E_sag hx) rfl rfl (Nat.le_of_ble_eq_true rfl) ?_
  refine lx_a2 hX (gx_dt dt_c10 2 rfl) ?_
  refine lx_cm hX (As := []) (rest := [.int v]) (gx_dt dt_c10 3 rfl) wl_c10_m mo_m_sag mv_m_sag rfl rfl rfl (k_m_sag hm) rfl rfl (Nat.le_of_ble_eq_true rfl) ?_
  exact lx_eq hX (tgt := 727) (gx_dt dt_c10 4 rfl) (by decide) (next wx' wm' hI)
theorem lc_11 {X : lx_X} {k : Nat} {wx wm : gx_Wd} (hX : lx_Ok X) (hk : k + 2 < lx_L X) (h : Inv wx wm) (next : ∀ wx' wm', Inv wx' wm' → lx_G X 727 k [] wx' wm') : lx_G X 419 k [] wx wm := by
  obtain ⟨v, wx', wm', hx, hm, hI⟩ := P_levels h
  refine lx_a1 hX (gx_dt dt_c11 0 rfl) ?_
  refine lx_cx hX (As := []) (rest := []) (gx_dt dt_c11 1 rfl) wl_c11_x mo_x_E_levels mv_x_E_levels rfl rfl rfl (k_x_E_levels hx) rfl rfl (Nat.le_of_ble_eq_true rfl) ?_
  refine lx_a2 hX (gx_dt dt_c11 2 rfl) ?_
  refine lx_cm hX (As := []) (rest := [.int v]) (gx_dt dt_c11 3 rfl) wl_c11_m mo_m_levels mv_m_levels rfl rfl rfl (k_m_levels hm) rfl rfl (Nat.le_of_ble_eq_true rfl) ?_
  exact lx_eq hX (tgt := 727) (gx_dt dt_c11 4 rfl) (by decide) (next wx' wm' hI)
theorem lc_12 {X : lx_X} {k : Nat} {wx wm : gx_Wd} (hX : lx_Ok X) (hk : k + 2 < lx_L X) (h : Inv wx wm) (next : ∀ wx' wm', Inv wx' wm' → lx_G X 727 k [] wx' wm') : lx_G X 432 k [] wx wm := by
  obtain ⟨v, wx', wm', hx, hm, hI⟩ := P_blocks h
  refine lx_a1 hX (gx_dt dt_c12 0 rfl) ?_
  refine lx_cx hX (As := []) (rest := []) (gx_dt dt_c12 1 rfl) wl_c12_x mo_x_E_blocks mv_x_E_blocks rfl rfl rfl (k_x_E_blocks hx) rfl rfl (Nat.le_of_ble_eq_true rfl) ?_
  refine lx_a2 hX (gx_dt dt_c12 2 rfl) ?_
  refine lx_cm hX (As := []) (rest := [.int v]) (gx_dt dt_c12 3 rfl) wl_c12_m mo_m_blocks mv_m_blocks rfl rfl rfl (k_m_blocks hm) rfl rfl (Nat.le_of_ble_eq_true rfl) ?_
  exact lx_eq hX (tgt := 727) (gx_dt dt_c12 4 rfl) (by decide) (next wx' wm' hI)
theorem lc_13 {X : lx_X} {k : Nat} {wx wm : gx_Wd} (hX : lx_Ok X) (hk : k + 2 < lx_L X) (h : Inv wx wm) (next : ∀ wx' wm', Inv wx' wm' → lx_G X 727 k [] wx' wm') : lx_G X 445 k [] wx wm := by
  obtain ⟨v, wx', wm', hx, hm, hI⟩ := P_swap h
  refine lx_a1 hX (gx_dt dt_c13 0 rfl) ?_
  refine lx_cx hX (As := []) (rest := []) (gx_dt dt_c13 1 rfl) wl_c13_x mo_x_E_swap mv_x_E_swap rfl rfl rfl (k_x_E_swap hx) rfl rfl (Nat.le_of_ble_eq_true rfl) ?_
  refine lx_a2 hX (gx_dt dt_c13 2 rfl) ?_
  refine lx_cm hX (As := []) (rest := [.int v]) (gx_dt dt_c13 3 rfl) wl_c13_m mo_m_swap mv_m_swap rfl rfl rfl (k_m_swap hm) rfl rfl (Nat.le_of_ble_eq_true rfl) ?_
  exact lx_eq hX (tgt := 727) (gx_dt dt_c13 4 rfl) (by decide) (next wx' wm' hI)
theorem lc_14 {X : lx_X} {k : Nat} {wx wm : gx_Wd} (hX : lx_Ok X) (hk : k + 2 < lx_L X) (h : Inv wx wm) (next : ∀ wx' wm', Inv wx' wm' → lx_G X 727 k [] wx' wm') : lx_G X 458 k [] wx wm := by
  obtain ⟨v, wx', wm', hx, hm, hI⟩ := P_orders (lx_xs X (nI k + nI 1).toNatClampNeg) h
  refine lx_a1 hX (gx_dt dt_c14 0 rfl) ?_
  refine lx_a0 hX (gx_dt dt_c14 1 rfl) ?_
  refine lx_i3 hX (gx_dt dt_c14 2 rfl) ?_
  refine lx_ic hX (v := nI 1) (gx_dt dt_c14 3 rfl) (by decide) ?_
  refine lx_add hX (gx_dt dt_c14 4 rfl) ?_
  refine lx_ld hX (lx_in hX (j := 1) (by omega)) (gx_dt dt_c14 5 rfl) ?_
  refine lx_cx hX (As := [lx_xs X (nI k + nI 1).toNatClampNeg]) (rest := []) (gx_dt dt_c14 6 rfl) wl_c14_x mo_x_E_orders mv_x_E_orders rfl rfl rfl (k_x_E_orders hx) rfl rfl (Nat.le_of_ble_eq_true rfl) ?_
  refine lx_a2 hX (gx_dt dt_c14 7 rfl) ?_
  refine lx_a0 hX (gx_dt dt_c14 8 rfl) ?_
  refine lx_i3 hX (gx_dt dt_c14 9 rfl) ?_
  refine lx_ic hX (v := nI 1) (gx_dt dt_c14 10 rfl) (by decide) ?_
  refine lx_add hX (gx_dt dt_c14 11 rfl) ?_
  refine lx_ld hX (lx_in hX (j := 1) (by omega)) (gx_dt dt_c14 12 rfl) ?_
  refine lx_cm hX (As := [lx_xs X (nI k + nI 1).toNatClampNeg]) (rest := [.int v]) (gx_dt dt_c14 13 rfl) wl_c14_m mo_m_orders mv_m_orders rfl rfl rfl (k_m_orders hm) rfl rfl (Nat.le_of_ble_eq_true rfl) ?_
  exact lx_eq hX (tgt := 727) (gx_dt dt_c14 14 rfl) (by decide) (next wx' wm' hI)
theorem lc_15 {X : lx_X} {k : Nat} {wx wm : gx_Wd} (hX : lx_Ok X) (hk : k + 2 < lx_L X) (h : Inv wx wm) (next : ∀ wx' wm', Inv wx' wm' → lx_G X 727 k [] wx' wm') : lx_G X 481 k [] wx wm := by
  obtain ⟨v, wx', wm', hx, hm, hI⟩ := P_needed h
  refine lx_a1 hX (gx_dt dt_c15 0 rfl) ?_
  refine lx_cx hX (As := []) (rest := []) (gx_dt dt_c15 1 rfl) wl_c15_x mo_x_E_needed mv_x_E_needed rfl rfl rfl (k_x_E_needed hx) rfl rfl (Nat.le_of_ble_eq_true rfl) ?_
  refine lx_a2 hX (gx_dt dt_c15 2 rfl) ?_
  refine lx_cm hX (As := []) (rest := [.int v]) (gx_dt dt_c15 3 rfl) wl_c15_m mo_m_needed mv_m_needed rfl rfl rfl (k_m_needed hm) rfl rfl (Nat.le_of_ble_eq_true rfl) ?_
  exact lx_eq hX (tgt := 727) (gx_dt dt_c15 4 rfl) (by decide) (next wx' wm' hI)
theorem lc_16 {X : lx_X} {k : Nat} {wx wm : gx_Wd} (hX : lx_Ok X) (hk : k + 2 < lx_L X) (h : Inv wx wm) (next : ∀ wx' wm', Inv wx' wm' → lx_G X 727 k [] wx' wm') : lx_G X 494 k [] wx wm := by
  obtain ⟨v, wx', wm', hx, hm, hI⟩ := P_more (lx_xs X (nI k + nI 1).toNatClampNeg) h
  refine lx_a1 hX (gx_dt dt_c16 0 rfl) ?_
  refine lx_a0 hX (gx_dt dt_c16 1 rfl) ?_
  refine lx_i3 hX (gx_dt dt_c16 2 rfl) ?_
  refine lx_ic hX (v := nI 1) (gx_dt dt_c16 3 rfl) (by decide) ?_
  refine lx_add hX (gx_dt dt_c16 4 rfl) ?_
  refine lx_ld hX (lx_in hX (j := 1) (by omega)) (gx_dt dt_c16 5 rfl) ?_
  refine lx_cx hX (As := [lx_xs X (nI k + nI 1).toNatClampNeg]) (rest := []) (gx_dt dt_c16 6 rfl) wl_c16_x mo_x_E_more mv_x_E_more rfl rfl rfl (k_x_E_more hx) rfl rfl (Nat.le_of_ble_eq_true rfl) ?_
  refine lx_a2 hX (gx_dt dt_c16 7 rfl) ?_
  refine lx_a0 hX (gx_dt dt_c16 8 rfl) ?_
  refine lx_i3 hX (gx_dt dt_c16 9 rfl) ?_
  refine lx_ic hX (v := nI 1) (gx_dt dt_c16 10 rfl) (by decide) ?_
  refine lx_add hX (gx_dt dt_c16 11 rfl) ?_
  refine lx_ld hX (lx_in hX (j := 1) (by omega)) (gx_dt dt_c16 12 rfl) ?_
  refine lx_cm hX (As := [lx_xs X (nI k + nI 1).toNatClampNeg]) (rest := [.int v]) (gx_dt dt_c16 13 rfl) wl_c16_m mo_m_more mv_m_more rfl rfl rfl (k_m_more hm) rfl rfl (Nat.le_of_ble_eq_true rfl) ?_
  exact lx_eq hX (tgt := 727) (gx_dt dt_c16 14 rfl) (by decide) (next wx' wm' hI)
theorem lc_17 {X : lx_X} {k : Nat} {wx wm : gx_Wd} (hX : lx_Ok X) (hk : k + 2 < lx_L X) (h : Inv wx wm) (next : ∀ wx' wm', Inv wx' wm' → lx_G X 727 k [] wx' wm') : lx_G X 517 k [] wx wm := by
  obtain ⟨v, wx', wm', hx, hm, hI⟩ := P_row (lx_xs X (nI k + nI 1).toNatClampNeg) h
  refine lx_a1 hX (gx_dt dt_c17 0 rfl) ?_
  refine lx_a0 hX (gx_dt dt_c17 1 rfl) ?_
  refine lx_i3 hX (gx_dt dt_c17 2 rfl) ?_
  refine lx_ic hX (v := nI 1) (gx_dt dt_c17 3 rfl) (by decide) ?_
  refine lx_add hX (gx_dt dt_c17 4 rfl) ?_
  refine lx_ld hX (lx_in hX (j := 1) (by omega)) (gx_dt dt_c17 5 rfl) ?_
  refine lx_cx hX (As := [lx_xs X (nI k + nI 1).toNatClampNeg]) (rest := []) (gx_dt dt_c17 6 rfl) wl_c17_x mo_x_E_row mv_x_E_row rfl rfl rfl (k_x_E_row hx) rfl rfl (Nat.le_of_ble_eq_true rfl) ?_
  refine lx_a2 hX (gx_dt dt_c17 7 rfl) ?_
  refine lx_a0 hX (gx_dt dt_c17 8 rfl) ?_
  refine lx_i3 hX (gx_dt dt_c17 9 rfl) ?_
  refine lx_ic hX (v := nI 1) (gx_dt dt_c17 10 rfl) (by decide) ?_
  refine lx_add hX (gx_dt dt_c17 11 rfl) ?_
  refine lx_ld hX (lx_in hX (j := 1) (by omega)) (gx_dt dt_c17 12 rfl) ?_
  refine lx_cm hX (As := [lx_xs X (nI k + nI 1).toNatClampNeg]) (rest := [.int v]) (gx_dt dt_c17 13 rfl) wl_c17_m mo_m_row mv_m_row rfl rfl rfl (k_m_row hm) rfl rfl (Nat.le_of_ble_eq_true rfl) ?_
  exact lx_eq hX (tgt := 727) (gx_dt dt_c17 14 rfl) (by decide) (next wx' wm' hI)
theorem lc_18 {X : lx_X} {k : Nat} {wx wm : gx_Wd} (hX : lx_Ok X) (hk : k + 2 < lx_L X) (h : Inv wx wm) (next : ∀ wx' wm', Inv wx' wm' → lx_G X 727 k [] wx' wm') : lx_G X 540 k [] wx wm := by
  obtain ⟨v, wx', wm', hx, hm, hI⟩ := P_slacked h
  refine lx_a1 hX (gx_dt dt_c18 0 rfl) ?_
  refine lx_cx hX (As := []) (rest := []) (gx_dt dt_c18 1 rfl) wl_c18_x mo_x_E_slacked mv_x_E_slacked rfl rfl rfl (k_x_E_slacked hx) rfl rfl (Nat.le_of_ble_eq_true rfl) ?_
  refine lx_a2 hX (gx_dt dt_c18 2 rfl) ?_
  refine lx_cm hX (As := []) (rest := [.int v]) (gx_dt dt_c18 3 rfl) wl_c18_m mo_m_slacked mv_m_slacked rfl rfl rfl (k_m_slacked hm) rfl rfl (Nat.le_of_ble_eq_true rfl) ?_
  exact lx_eq hX (tgt := 727) (gx_dt dt_c18 4 rfl) (by decide) (next wx' wm' hI)
theorem lc_19 {X : lx_X} {k : Nat} {wx wm : gx_Wd} (hX : lx_Ok X) (hk : k + 2 < lx_L X) (h : Inv wx wm) (next : ∀ wx' wm', Inv wx' wm' → lx_G X 727 k [] wx' wm') : lx_G X 553 k [] wx wm := by
  obtain ⟨v, wx', wm', hx, hm, hI⟩ := P_way (lx_xs X (nI k + nI 1).toNatClampNeg) h
  refine lx_a1 hX (gx_dt dt_c19 0 rfl) ?_
  refine lx_a0 hX (gx_dt dt_c19 1 rfl) ?_
  refine lx_i3 hX (gx_dt dt_c19 2 rfl) ?_
  refine lx_ic hX (v := nI 1) (gx_dt dt_c19 3 rfl) (by decide) ?_
  refine lx_add hX (gx_dt dt_c19 4 rfl) ?_
  refine lx_ld hX (lx_in hX (j := 1) (by omega)) (gx_dt dt_c19 5 rfl) ?_
  refine lx_cx hX (As := [lx_xs X (nI k + nI 1).toNatClampNeg]) (rest := []) (gx_dt dt_c19 6 rfl) wl_c19_x mo_x_E_way mv_x_E_way rfl rfl rfl (k_x_E_way hx) rfl rfl (Nat.le_of_ble_eq_true rfl) ?_
  refine lx_a2 hX (gx_dt dt_c19 7 rfl) ?_
  refine lx_a0 hX (gx_dt dt_c19 8 rfl) ?_
  refine lx_i3 hX (gx_dt dt_c19 9 rfl) ?_
  refine lx_ic hX (v := nI 1) (gx_dt dt_c19 10 rfl) (by decide) ?_
  refine lx_add hX (gx_dt dt_c19 11 rfl) ?_
  refine lx_ld hX (lx_in hX (j := 1) (by omega)) (gx_dt dt_c19 12 rfl) ?_
  refine lx_cm hX (As := [lx_xs X (nI k + nI 1).toNatClampNeg]) (rest := [.int v]) (gx_dt dt_c19 13 rfl) wl_c19_m mo_m_way mv_m_way rfl rfl rfl (k_m_way hm) rfl rfl (Nat.le_of_ble_eq_true rfl) ?_
  exact lx_eq hX (tgt := 727) (gx_dt dt_c19 14 rfl) (by decide) (next wx' wm' hI)
theorem lc_20 {X : lx_X} {k : Nat} {wx wm : gx_Wd} (hX : lx_Ok X) (hk : k + 2 < lx_L X) (h : Inv wx wm) (next : ∀ wx' wm', Inv wx' wm' → lx_G X 727 k [] wx' wm') : lx_G X 576 k [] wx wm := by
  obtain ⟨v, wx', wm', hx, hm, hI⟩ := P_reach (lx_xs X (nI k + nI 1).toNatClampNeg) h
  refine lx_a1 hX (gx_dt dt_c20 0 rfl) ?_
  refine lx_a0 hX (gx_dt dt_c20 1 rfl) ?_
  refine lx_i3 hX (gx_dt dt_c20 2 rfl) ?_
  refine lx_ic hX (v := nI 1) (gx_dt dt_c20 3 rfl) (by decide) ?_
  refine lx_add hX (gx_dt dt_c20 4 rfl) ?_
  refine lx_ld hX (lx_in hX (j := 1) (by omega)) (gx_dt dt_c20 5 rfl) ?_
  refine lx_cx hX (As := [lx_xs X (nI k + nI 1).toNatClampNeg]) (rest := []) (gx_dt dt_c20 6 rfl) wl_c20_x mo_x_E_reach mv_x_E_reach rfl rfl rfl (k_x_E_reach hx) rfl rfl (Nat.le_of_ble_eq_true rfl) ?_
  refine lx_a2 hX (gx_dt dt_c20 7 rfl) ?_
  refine lx_a0 hX (gx_dt dt_c20 8 rfl) ?_
  refine lx_i3 hX (gx_dt dt_c20 9 rfl) ?_
  refine lx_ic hX (v := nI 1) (gx_dt dt_c20 10 rfl) (by decide) ?_
  refine lx_add hX (gx_dt dt_c20 11 rfl) ?_
  refine lx_ld hX (lx_in hX (j := 1) (by omega)) (gx_dt dt_c20 12 rfl) ?_
  refine lx_cm hX (As := [lx_xs X (nI k + nI 1).toNatClampNeg]) (rest := [.int v]) (gx_dt dt_c20 13 rfl) wl_c20_m mo_m_reach mv_m_reach rfl rfl rfl (k_m_reach hm) rfl rfl (Nat.le_of_ble_eq_true rfl) ?_
  exact lx_eq hX (tgt := 727) (gx_dt dt_c20 14 rfl) (by decide) (next wx' wm' hI)
theorem lc_21 {X : lx_X} {k : Nat} {wx wm : gx_Wd} (hX : lx_Ok X) (hk : k + 2 < lx_L X) (h : Inv wx wm) (next : ∀ wx' wm', Inv wx' wm' → lx_G X 727 k [] wx' wm') : lx_G X 599 k [] wx wm := by
  obtain ⟨v, wx', wm', hx, hm, hI⟩ := P_lowest (lx_xs X (nI k + nI 1).toNatClampNeg) (lx_xs X (nI k + nI 2).toNatClampNeg) h
  refine lx_a1 hX (gx_dt dt_c21 0 rfl) ?_
  refine lx_a0 hX (gx_dt dt_c21 1 rfl) ?_
  refine lx_i3 hX (gx_dt dt_c21 2 rfl) ?_
  refine lx_ic hX (v := nI 1) (gx_dt dt_c21 3 rfl) (by decide) ?_
  refine lx_add hX (gx_dt dt_c21 4 rfl) ?_
  refine lx_ld hX (lx_in hX (j := 1) (by omega)) (gx_dt dt_c21 5 rfl) ?_
  refine lx_a0 hX (gx_dt dt_c21 6 rfl) ?_
  refine lx_i3 hX (gx_dt dt_c21 7 rfl) ?_
  refine lx_ic hX (v := nI 2) (gx_dt dt_c21 8 rfl) (by decide) ?_
  refine lx_add hX (gx_dt dt_c21 9 rfl) ?_
  refine lx_ld hX (lx_in hX (j := 2) (by omega)) (gx_dt dt_c21 10 rfl) ?_
  refine lx_cx hX (As := [lx_xs X (nI k + nI 1).toNatClampNeg, lx_xs X (nI k + nI 2).toNatClampNeg]) (rest := []) (gx_dt dt_c21 11 rfl) wl_c21_x mo_x_E_lowest mv_x_E_lowest rfl rfl rfl (k_x_E_lowest hx) rfl rfl (Nat.le_of_ble_eq_true rfl) ?_
  refine lx_a2 hX (gx_dt dt_c21 12 rfl) ?_
  refine lx_a0 hX (gx_dt dt_c21 13 rfl) ?_
  refine lx_i3 hX (gx_dt dt_c21 14 rfl) ?_
  refine lx_ic hX (v := nI 1) (gx_dt dt_c21 15 rfl) (by decide) ?_
  refine lx_add hX (gx_dt dt_c21 16 rfl) ?_
  refine lx_ld hX (lx_in hX (j := 1) (by omega)) (gx_dt dt_c21 17 rfl) ?_
  refine lx_a0 hX (gx_dt dt_c21 18 rfl) ?_
  refine lx_i3 hX (gx_dt dt_c21 19 rfl) ?_
  refine lx_ic hX (v := nI 2) (gx_dt dt_c21 20 rfl) (by decide) ?_
  refine lx_add hX (gx_dt dt_c21 21 rfl) ?_
  refine lx_ld hX (lx_in hX (j := 2) (by omega)) (gx_dt dt_c21 22 rfl) ?_
  refine lx_cm hX (As := [lx_xs X (nI k + nI 1).toNatClampNeg, lx_xs X (nI k + nI 2).toNatClampNeg]) (rest := [.int v]) (gx_dt dt_c21 23 rfl) wl_c21_m mo_m_lowest mv_m_lowest rfl rfl rfl (k_m_lowest hm) rfl rfl (Nat.le_of_ble_eq_true rfl) ?_
  exact lx_eq hX (tgt := 727) (gx_dt dt_c21 24 rfl) (by decide) (next wx' wm' hI)
theorem lc_22 {X : lx_X} {k : Nat} {wx wm : gx_Wd} (hX : lx_Ok X) (hk : k + 2 < lx_L X) (h : Inv wx wm) (next : ∀ wx' wm', Inv wx' wm' → lx_G X 727 k [] wx' wm') : lx_G X 632 k [] wx wm := by
  obtain ⟨v, wx', wm', hx, hm, hI⟩ := P_judge h
  refine lx_a1 hX (gx_dt dt_c22 0 rfl) ?_
  refine lx_cx hX (As := []) (rest := []) (gx_dt dt_c22 1 rfl) wl_c22_x mo_x_E_judge mv_x_E_judge rfl rfl rfl (k_x_E_judge hx) rfl rfl (Nat.le_of_ble_eq_true rfl) ?_
  refine lx_a2 hX (gx_dt dt_c22 2 rfl) ?_
  refine lx_cm hX (As := []) (rest := [.int v]) (gx_dt dt_c22 3 rfl) wl_c22_m mo_m_judge mv_m_judge rfl rfl rfl (k_m_judge hm) rfl rfl (Nat.le_of_ble_eq_true rfl) ?_
  exact lx_eq hX (tgt := 727) (gx_dt dt_c22 4 rfl) (by decide) (next wx' wm' hI)
theorem lc_23 {X : lx_X} {k : Nat} {wx wm : gx_Wd} (hX : lx_Ok X) (hk : k + 2 < lx_L X) (h : Inv wx wm) (next : ∀ wx' wm', Inv wx' wm' → lx_G X 727 k [] wx' wm') : lx_G X 645 k [] wx wm := by
  obtain ⟨v, wx', wm', hx, hm, hI⟩ := P_seeds (lx_xs X (nI k + nI 1).toNatClampNeg) (lx_xs X (nI k + nI 2).toNatClampNeg) h
  refine lx_a1 hX (gx_dt dt_c23 0 rfl) ?_
  refine lx_a0 hX (gx_dt dt_c23 1 rfl) ?_
  refine lx_i3 hX (gx_dt dt_c23 2 rfl) ?_
  refine lx_ic hX (v := nI 1) (gx_dt dt_c23 3 rfl) (by decide) ?_
  refine lx_add hX (gx_dt dt_c23 4 rfl) ?_
  refine lx_ld hX (lx_in hX (j := 1) (by omega)) (gx_dt dt_c23 5 rfl) ?_
  refine lx_a0 hX (gx_dt dt_c23 6 rfl) ?_
  refine lx_i3 hX (gx_dt dt_c23 7 rfl) ?_
  refine lx_ic hX (v := nI 2) (gx_dt dt_c23 8 rfl) (by decide) ?_
  refine lx_add hX (gx_dt dt_c23 9 rfl) ?_
  refine lx_ld hX (lx_in hX (j := 2) (by omega)) (gx_dt dt_c23 10 rfl) ?_
  refine lx_cx hX (As := [lx_xs X (nI k + nI 1).toNatClampNeg, lx_xs X (nI k + nI 2).toNatClampNeg]) (rest := []) (gx_dt dt_c23 11 rfl) wl_c23_x mo_x_E_seeds mv_x_E_seeds rfl rfl rfl (k_x_E_seeds hx) rfl rfl (Nat.le_of_ble_eq_true rfl) ?_
  refine lx_a2 hX (gx_dt dt_c23 12 rfl) ?_
  refine lx_a0 hX (gx_dt dt_c23 13 rfl) ?_
  refine lx_i3 hX (gx_dt dt_c23 14 rfl) ?_
  refine lx_ic hX (v := nI 1) (gx_dt dt_c23 15 rfl) (by decide) ?_
  refine lx_add hX (gx_dt dt_c23 16 rfl) ?_
  refine lx_ld hX (lx_in hX (j := 1) (by omega)) (gx_dt dt_c23 17 rfl) ?_
  refine lx_a0 hX (gx_dt dt_c23 18 rfl) ?_
  refine lx_i3 hX (gx_dt dt_c23 19 rfl) ?_
  refine lx_ic hX (v := nI 2) (gx_dt dt_c23 20 rfl) (by decide) ?_
  refine lx_add hX (gx_dt dt_c23 21 rfl) ?_
  refine lx_ld hX (lx_in hX (j := 2) (by omega)) (gx_dt dt_c23 22 rfl) ?_
  refine lx_cm hX (As := [lx_xs X (nI k + nI 1).toNatClampNeg, lx_xs X (nI k + nI 2).toNatClampNeg]) (rest := [.int v]) (gx_dt dt_c23 23 rfl) wl_c23_m mo_m_seeds mv_m_seeds rfl rfl rfl (k_m_seeds hm) rfl rfl (Nat.le_of_ble_eq_true rfl) ?_
  exact lx_eq hX (tgt := 727) (gx_dt dt_c23 24 rfl) (by decide) (next wx' wm' hI)
theorem lc_24 {X : lx_X} {k : Nat} {wx wm : gx_Wd} (hX : lx_Ok X) (hk : k + 2 < lx_L X) (h : Inv wx wm) (next : ∀ wx' wm', Inv wx' wm' → lx_G X 727 k [] wx' wm') : lx_G X 678 k [] wx wm := by
  obtain ⟨v, wx', wm', hx, hm, hI⟩ := P_image h
  refine lx_a1 hX (gx_dt dt_c24 0 rfl) ?_
  refine lx_cx hX (As := []) (rest := []) (gx_dt dt_c24 1 rfl) wl_c24_x mo_x_E_image mv_x_E_image rfl rfl rfl (k_x_E_image hx) rfl rfl (Nat.le_of_ble_eq_true rfl) ?_
  refine lx_a2 hX (gx_dt dt_c24 2 rfl) ?_
  refine lx_cm hX (As := []) (rest := [.int v]) (gx_dt dt_c24 3 rfl) wl_c24_m mo_m_image mv_m_image rfl rfl rfl (k_m_image hm) rfl rfl (Nat.le_of_ble_eq_true rfl) ?_
  exact lx_eq hX (tgt := 727) (gx_dt dt_c24 4 rfl) (by decide) (next wx' wm' hI)
theorem lc_25 {X : lx_X} {k : Nat} {wx wm : gx_Wd} (hX : lx_Ok X) (hk : k + 2 < lx_L X) (h : Inv wx wm) (next : ∀ wx' wm', Inv wx' wm' → lx_G X 727 k [] wx' wm') : lx_G X 691 k [] wx wm := by
  obtain ⟨v, wx', wm', hx, hm, hI⟩ := P_on h
  refine lx_a1 hX (gx_dt dt_c25 0 rfl) ?_
  refine lx_cx hX (As := []) (rest := []) (gx_dt dt_c25 1 rfl) wl_c25_x mo_x_E_on mv_x_E_on rfl rfl rfl (k_x_E_on hx) rfl rfl (Nat.le_of_ble_eq_true rfl) ?_
  refine lx_a2 hX (gx_dt dt_c25 2 rfl) ?_
  refine lx_cm hX (As := []) (rest := [.int v]) (gx_dt dt_c25 3 rfl) wl_c25_m mo_m_on mv_m_on rfl rfl rfl (k_m_on hm) rfl rfl (Nat.le_of_ble_eq_true rfl) ?_
  exact lx_eq hX (tgt := 727) (gx_dt dt_c25 4 rfl) (by decide) (next wx' wm' hI)
theorem lc_26 {X : lx_X} {k : Nat} {wx wm : gx_Wd} (hX : lx_Ok X) (hk : k + 2 < lx_L X) (h : Inv wx wm) (next : ∀ wx' wm', Inv wx' wm' → lx_G X 727 k [] wx' wm') : lx_G X 704 k [] wx wm := by
  obtain ⟨v, wx', wm', hx, hm, hI⟩ := P_count (lx_xs X (nI k + nI 1).toNatClampNeg) h
  refine lx_a1 hX (gx_dt dt_c26 0 rfl) ?_
  refine lx_a0 hX (gx_dt dt_c26 1 rfl) ?_
  refine lx_i3 hX (gx_dt dt_c26 2 rfl) ?_
  refine lx_ic hX (v := nI 1) (gx_dt dt_c26 3 rfl) (by decide) ?_
  refine lx_add hX (gx_dt dt_c26 4 rfl) ?_
  refine lx_ld hX (lx_in hX (j := 1) (by omega)) (gx_dt dt_c26 5 rfl) ?_
  refine lx_cx hX (As := [lx_xs X (nI k + nI 1).toNatClampNeg]) (rest := []) (gx_dt dt_c26 6 rfl) wl_c26_x mo_x_E_count mv_x_E_count rfl rfl rfl (k_x_E_count hx) rfl rfl (Nat.le_of_ble_eq_true rfl) ?_
  refine lx_a2 hX (gx_dt dt_c26 7 rfl) ?_
  refine lx_a0 hX (gx_dt dt_c26 8 rfl) ?_
  refine lx_i3 hX (gx_dt dt_c26 9 rfl) ?_
  refine lx_ic hX (v := nI 1) (gx_dt dt_c26 10 rfl) (by decide) ?_
  refine lx_add hX (gx_dt dt_c26 11 rfl) ?_
  refine lx_ld hX (lx_in hX (j := 1) (by omega)) (gx_dt dt_c26 12 rfl) ?_
  refine lx_cm hX (As := [lx_xs X (nI k + nI 1).toNatClampNeg]) (rest := [.int v]) (gx_dt dt_c26 13 rfl) wl_c26_m mo_m_count mv_m_count rfl rfl rfl (k_m_count hm) rfl rfl (Nat.le_of_ble_eq_true rfl) ?_
  exact lx_eq hX (tgt := 727) (gx_dt dt_c26 14 rfl) (by decide) (next wx' wm' hI)
