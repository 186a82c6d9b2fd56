/-! ===== the texts: length, sign, emptiness, as the library answers them for the class's own texts ===== -/
def x_S_isEmpty (o : Nat) (w : gx_Wd) : Option (Int32 × gx_Wd) := if 1000 ≤ o ∧ o < 1007 then some (if gx_txl.getD (o - 1000) 0 = 0 then 1 else 0, w) else none
def x_S_length (o : Nat) (w : gx_Wd) : Option (Int32 × gx_Wd) := if 1000 ≤ o ∧ o < 1007 then some (Int32.ofNat (gx_txl.getD (o - 1000) 0), w) else none
def x_S_charAt (o : Nat) (i : Int32) (w : gx_Wd) : Option (Int32 × gx_Wd) := if 1000 ≤ o ∧ o < 1007 ∧ ¬ i < 0 ∧ i.toNatClampNeg < gx_txl.getD (o - 1000) 0 then some ((gx_txb.getD (o - 1000) []).getD i.toNatClampNeg 0, w) else none
theorem gx_so_isEmpty {o : Nat} {w : gx_Wd} {r : Int32 × gx_Wd} (h : x_S_isEmpty o w = some r) : ∃ i, i < 7 ∧ o = 1000 + i := by
  unfold x_S_isEmpty at h
  split at h
  · rename_i c; exact ⟨o - 1000, by omega, by omega⟩
  · cases h
theorem gx_so_length {o : Nat} {w : gx_Wd} {r : Int32 × gx_Wd} (h : x_S_length o w = some r) : ∃ i, i < 7 ∧ o = 1000 + i := by
  unfold x_S_length at h
  split at h
  · rename_i c; exact ⟨o - 1000, by omega, by omega⟩
  · cases h
theorem gx_so_charAt {o : Nat} {i : Int32} {w : gx_Wd} {r : Int32 × gx_Wd} (h : x_S_charAt o i w = some r) : ∃ i, i < 7 ∧ o = 1000 + i := by
  unfold x_S_charAt at h
  split at h
  · rename_i c; exact ⟨o - 1000, by omega, by omega⟩
  · cases h
def mi_x_S_coder : gx_Mi := (⟨"java/lang/String", "coder", "()B"⟩, prog_11_method_152_code, 1, (some .byte), { frames := 0, cells := 0, slots := 0, locals := 0 }, sh_x)
def mi_x_S_isLatin1 : gx_Mi := (⟨"java/lang/String", "isLatin1", "()Z"⟩, prog_11_method_154_code, 1, (some .boolean), { frames := 0, cells := 0, slots := 0, locals := 0 }, sh_x)
def mi_x_L_charAt : gx_Mi := (⟨"java/lang/StringLatin1", "charAt", "([BI)C"⟩, prog_12_method_2_code, 2, (some .char), { frames := 2, cells := 0, slots := 0, locals := 50 }, sh_x)
def mi_x_S_checkIndex : gx_Mi := (⟨"java/lang/String", "checkIndex", "(II)V"⟩, prog_11_method_155_code, 2, none, { frames := 1, cells := 0, slots := 0, locals := 25 }, sh_x)
def mi_x_P_checkIndex : gx_Mi := (⟨"jdk/internal/util/Preconditions", "checkIndex", "(IILjava/util/function/BiFunction;)I"⟩, prog_14_method_11_code, 3, (some .int), { frames := 0, cells := 0, slots := 0, locals := 0 }, sh_x)
def gq_s_w1_0 : List (Nat × Cond) := [(8, Cond.initialized "java/lang/String"), (9, Cond.initialized "java/lang/StringLatin1"), (10, Cond.initialized "jdk/internal/util/Preconditions")]
theorem gq_s_w1_0_ok : gx_wl1 gq_s_w1_0 = true := by decide +kernel
def gq_s_w2_0 : List (Nat × Cond) := [(43, Cond.instanceMethod ⟨"java/lang/String", "coder", "()B"⟩), (44, Cond.selects "java/lang/String" ⟨"java/lang/String", "coder", "()B"⟩ ⟨"java/lang/String", "coder", "()B"⟩), (53, Cond.instanceMethod ⟨"java/lang/String", "isLatin1", "()Z"⟩), (54, Cond.selects "java/lang/String" ⟨"java/lang/String", "isLatin1", "()Z"⟩ ⟨"java/lang/String", "isLatin1", "()Z"⟩), (57, Cond.static ⟨"java/lang/StringLatin1", "charAt", "([BI)C"⟩), (60, Cond.static ⟨"java/lang/String", "checkIndex", "(II)V"⟩), (65, Cond.static ⟨"jdk/internal/util/Preconditions", "checkIndex", "(IILjava/util/function/BiFunction;)I"⟩), (42, Cond.methodLink "java/lang/String" 335 ⟨"java/lang/String", "coder", "()B"⟩), (52, Cond.methodLink "java/lang/String" 492 ⟨"java/lang/String", "isLatin1", "()Z"⟩), (56, Cond.methodLink "java/lang/String" 495 ⟨"java/lang/StringLatin1", "charAt", "([BI)C"⟩), (59, Cond.methodLink "java/lang/StringLatin1" 9 ⟨"java/lang/String", "checkIndex", "(II)V"⟩), (64, Cond.methodLink "java/lang/String" 1059 ⟨"jdk/internal/util/Preconditions", "checkIndex", "(IILjava/util/function/BiFunction;)I"⟩), (46, Cond.fieldLink "java/lang/String" 38 "java/lang/String" "COMPACT_STRINGS" "Z"), (62, Cond.fieldLink "java/lang/String" 1053 "jdk/internal/util/Preconditions" "SIOOBE_FORMATTER" "Ljava/util/function/BiFunction;")]
theorem gq_s_w2_0_ok : gx_wl2 gq_s_w2_0 = true := by decide +kernel
def gq_s_w5_0 : List (Nat × Cond) := [(63, Cond.fieldLink "java/lang/String" 9 "java/lang/String" "value" "[B"), (64, Cond.fieldLink "java/lang/String" 15 "java/lang/String" "coder" "B")]
theorem gq_s_w5_0_ok : gx_wl5 gq_s_w5_0 = true := by decide +kernel
theorem mo_x_S_coder : gx_mo mi_x_S_coder 0 := ⟨(gx_ic2 (i := 45) rfl rfl), (gx_wb1 gq_s_w1_0_ok 0 rfl), ⟨by decide, by decide⟩, by decide +kernel, rfl, rfl⟩
theorem mv_x_S_coder : gx_mv mi_x_S_coder := ⟨(gx_wb2 gq_s_w2_0_ok 0 rfl), (gx_wb2 gq_s_w2_0_ok 1 rfl)⟩
theorem mo_x_S_isLatin1 : gx_mo mi_x_S_isLatin1 0 := ⟨(gx_ic2 (i := 55) rfl rfl), (gx_wb1 gq_s_w1_0_ok 0 rfl), ⟨by decide, by decide⟩, by decide +kernel, rfl, rfl⟩
theorem mv_x_S_isLatin1 : gx_mv mi_x_S_isLatin1 := ⟨(gx_wb2 gq_s_w2_0_ok 2 rfl), (gx_wb2 gq_s_w2_0_ok 3 rfl)⟩
theorem mo_x_L_charAt : gx_mo mi_x_L_charAt 2 := ⟨(gx_ic2 (i := 58) rfl rfl), (gx_wb1 gq_s_w1_0_ok 1 rfl), ⟨by decide, by decide⟩, by decide +kernel, rfl, rfl⟩
theorem ms_x_L_charAt : gx_ms mi_x_L_charAt := (gx_wb2 gq_s_w2_0_ok 4 rfl)
theorem mo_x_S_checkIndex : gx_mo mi_x_S_checkIndex 2 := ⟨(gx_ic2 (i := 61) rfl rfl), (gx_wb1 gq_s_w1_0_ok 0 rfl), ⟨by decide, by decide⟩, by decide +kernel, rfl, rfl⟩
theorem ms_x_S_checkIndex : gx_ms mi_x_S_checkIndex := (gx_wb2 gq_s_w2_0_ok 5 rfl)
theorem mo_x_P_checkIndex : gx_mo mi_x_P_checkIndex 3 := ⟨(gx_ic2 (i := 66) rfl rfl), (gx_wb1 gq_s_w1_0_ok 2 rfl), ⟨by decide, by decide⟩, by decide +kernel, rfl, rfl⟩
theorem ms_x_P_checkIndex : gx_ms mi_x_P_checkIndex := (gx_wb2 gq_s_w2_0_ok 6 rfl)
theorem lk_x_S_coder : gx_ln "java/lang/String" 335 mi_x_S_coder := Or.inl (gx_wb2 gq_s_w2_0_ok 7 rfl)
theorem lk_x_S_isLatin1 : gx_ln "java/lang/String" 492 mi_x_S_isLatin1 := Or.inl (gx_wb2 gq_s_w2_0_ok 8 rfl)
theorem lk_x_L_charAt : gx_ln "java/lang/String" 495 mi_x_L_charAt := Or.inl (gx_wb2 gq_s_w2_0_ok 9 rfl)
theorem lk_x_S_checkIndex : gx_ln "java/lang/StringLatin1" 9 mi_x_S_checkIndex := Or.inl (gx_wb2 gq_s_w2_0_ok 10 rfl)
theorem lk_x_P_checkIndex : gx_ln "java/lang/String" 1059 mi_x_P_checkIndex := Or.inl (gx_wb2 gq_s_w2_0_ok 11 rfl)
theorem fk_val : Cond.fieldLink "java/lang/String" 9 "java/lang/String" "value" "[B" ∈ gx_big := (gx_wb5 gq_s_w5_0_ok 0 rfl)
theorem fk_cod : Cond.fieldLink "java/lang/String" 15 "java/lang/String" "coder" "B" ∈ gx_big := (gx_wb5 gq_s_w5_0_ok 1 rfl)
theorem fk_com : Cond.fieldLink "java/lang/String" 38 "java/lang/String" "COMPACT_STRINGS" "Z" ∈ gx_big := (gx_wb2 gq_s_w2_0_ok 12 rfl)
theorem fk_sio : Cond.fieldLink "java/lang/String" 1053 "jdk/internal/util/Preconditions" "SIOOBE_FORMATTER" "Ljava/util/function/BiFunction;" ∈ gx_big := (gx_wb2 gq_s_w2_0_ok 13 rfl)
theorem wl_x_P_checkIndex : Cond.methodLink "java/lang/String" 1059 ⟨"jdk/internal/util/Preconditions", "checkIndex", "(IILjava/util/function/BiFunction;)I"⟩ ∈ gx_big := (gx_wb2 gq_s_w2_0_ok 11 rfl)
def dl_mi_x_S_isEmpty : List (Nat × Instr × Nat) := [(0, .aload_n 0, 1), (1, .getfield 9, 3), (4, .arraylength, 1), (5, .ifCond .ne 7, 3), (8, .iconst 1, 1), (9, .goto 4, 3), (12, .iconst 0, 1), (13, .ireturn, 1)]
theorem dt_mi_x_S_isEmpty : ∀ q ∈ dl_mi_x_S_isEmpty, decode prog_11_method_55_code q.1 = .ok (q.2.1, q.2.2) := by decide +kernel
def dl_mi_x_S_length : List (Nat × Instr × Nat) := [(0, .aload_n 0, 1), (1, .getfield 9, 3), (4, .arraylength, 1), (5, .aload_n 0, 1), (6, .invokevirtual 335, 3), (9, .ishr, 1), (10, .ireturn, 1)]
theorem dt_mi_x_S_length : ∀ q ∈ dl_mi_x_S_length, decode prog_11_method_54_code q.1 = .ok (q.2.1, q.2.2) := by decide +kernel
def dl_mi_x_S_charAt : List (Nat × Instr × Nat) := [(0, .aload_n 0, 1), (1, .invokevirtual 492, 3), (4, .ifCond .eq 12, 3), (7, .aload_n 0, 1), (8, .getfield 9, 3), (11, .iload_n 1, 1), (12, .invokestatic 495, 3), (15, .ireturn, 1)]
theorem dt_mi_x_S_charAt : ∀ q ∈ dl_mi_x_S_charAt, decode prog_11_method_56_code q.1 = .ok (q.2.1, q.2.2) := by decide +kernel
def dl_mi_x_S_coder : List (Nat × Instr × Nat) := [(0, .getstatic 38, 3), (3, .ifCond .eq 10, 3), (6, .aload_n 0, 1), (7, .getfield 15, 3), (10, .goto 4, 3), (14, .ireturn, 1)]
theorem dt_mi_x_S_coder : ∀ q ∈ dl_mi_x_S_coder, decode prog_11_method_152_code q.1 = .ok (q.2.1, q.2.2) := by decide +kernel
def dl_mi_x_S_isLatin1 : List (Nat × Instr × Nat) := [(0, .getstatic 38, 3), (3, .ifCond .eq 14, 3), (6, .aload_n 0, 1), (7, .getfield 15, 3), (10, .ifCond .ne 7, 3), (13, .iconst 1, 1), (14, .goto 4, 3), (18, .ireturn, 1)]
theorem dt_mi_x_S_isLatin1 : ∀ q ∈ dl_mi_x_S_isLatin1, decode prog_11_method_154_code q.1 = .ok (q.2.1, q.2.2) := by decide +kernel
def dl_mi_x_L_charAt : List (Nat × Instr × Nat) := [(0, .iload_n 1, 1), (1, .aload_n 0, 1), (2, .arraylength, 1), (3, .invokestatic 9, 3), (6, .aload_n 0, 1), (7, .iload_n 1, 1), (8, .baload, 1), (9, .sipush 255, 3), (12, .iand, 1), (13, .i2c, 1), (14, .ireturn, 1)]
theorem dt_mi_x_L_charAt : ∀ q ∈ dl_mi_x_L_charAt, decode prog_12_method_2_code q.1 = .ok (q.2.1, q.2.2) := by decide +kernel
def dl_mi_x_S_checkIndex : List (Nat × Instr × Nat) := [(0, .iload_n 0, 1), (1, .iload_n 1, 1), (2, .getstatic 1053, 3), (5, .invokestatic 1059, 3), (8, .pop, 1), (9, .return_, 1)]
theorem dt_mi_x_S_checkIndex : ∀ q ∈ dl_mi_x_S_checkIndex, decode prog_11_method_155_code q.1 = .ok (q.2.1, q.2.2) := by decide +kernel
def dl_mi_x_P_checkIndex : List (Nat × Instr × Nat) := [(0, .iload_n 0, 1), (1, .ifCond .lt 8, 3), (4, .iload_n 0, 1), (5, .iload_n 1, 1), (6, .if_icmp .lt 10, 3), (16, .iload_n 0, 1), (17, .ireturn, 1)]
theorem dt_mi_x_P_checkIndex : ∀ q ∈ dl_mi_x_P_checkIndex, decode prog_14_method_11_code q.1 = .ok (q.2.1, q.2.2) := by decide +kernel
section
variable {X : gx_X} {M : gx_Mi} {pc : Nat} {ls ls' : List (Option gx_V)} {st : List gx_V} {w : gx_Wd}
theorem gx_callTi (hX : gx_Ok X M) {M' : gx_Mi} {ix b n : Nat} {As rest : List gx_V} {v : Int32} {w' : gx_Wd} (hd : decode M.2.1 pc = .ok (.invokevirtual ix, 3)) (hl : gx_ln M.1.cls ix M') (ho : gx_mo M' n) (hv : gx_mv M') (hr : gx_rm M' M) (hc : M'.1.cls = "java/lang/String") (he : M'.2.2.2.2.2 = M.2.2.2.2.2) (hso : ∃ i, i < 7 ∧ b = 1000 + i) (hM : gx_MT M' (.inr b :: As) w (some (.inl v)) w') (hn : As.length = n) (hst : st = As.reverse ++ .inr b :: rest) (hrl : rest.length ≤ 8) (kk : gx_G X M (pc + 3) ls (.inl v :: rest) w') : gx_G X M pc ls st w := by
  obtain ⟨p, l, e, s, m, args, below, meth, c, S, res, w1⟩ := X
  obtain ⟨hx, hb, hml, hts, hown, hrt, hlk, hK, hDD, hNW, hSX, hsh⟩ := hX
  intro H locs LS hP hS hlv
  obtain ⟨i, hi, hbi⟩ := hso
  obtain ⟨o1, o2, o3, o4, o5, o6⟩ := ho
  have hp : PreV s H M'.1.cls (S.2.2.1 b) (va_Pc ((Sum.inr b :: As : List gx_V).map (gx_cv S.2.2.1)) (gx_PX S w)) (As.map (gx_cv S.2.2.1)) := by
    refine ⟨gx_fb, ?_, fun U hU hW => ⟨rfl, ?_⟩⟩
    · rw [hc, hbi]
      exact vk_recv (adK := fun i => S.2.2.1 (1000 + i)) hSX.1 hi hS
    · exact ⟨by rw [hU]; exact hP, va_K.moved hW.alike hK, hDD, hNW.warm hW, by rw [hU]; exact hSX.to hW hS.2.1⟩
  have hws : ∀ w ∈ (Cond.code M'.1 M'.2.1 M'.2.2.1 M'.2.2.2.1 :: gx_big), ∀ (a' : Array Value) (U : State), s.WarmedH U.vm → w.before a' U = true := pay_in hts (gx_good o1)
  have hlen : ∀ sig, parseMethodDescriptor M'.1.desc = some sig → n = sig.parameters.length := fun sig h => by
    have h2 := o4
    rw [h] at h2
    exact (Option.some.inj h2).symm
  have hst2 : (st.map (gx_cv S.2.2.1)) = (As.map (gx_cv S.2.2.1)).reverse ++ .ref (S.2.2.1 b) :: rest.map (gx_cv S.2.2.1) := by rw [hst]; simp [gx_cv]
  have hrest : 2 * (F0 m pc LS (st.map (gx_cv S.2.2.1))).monitorRoom + ((rest.map (gx_cv S.2.2.1)).map fun v => v.category).sum ≤ 8 := by
    rw [gx_cat1]
    show 2 * 0 + _ ≤ 8
    omega
  rcases hl with hl | hl
  · exact gx_after (va_runV (own := M.1.cls) (As := As.map (gx_cv S.2.2.1)) (rest := rest.map (gx_cv S.2.2.1)) (g := F0 m pc LS (st.map (gx_cv S.2.2.1))) ⟨hx, hb, hml, hown, hts⟩ (hM l S (by rw [he]; exact hsh)) ⟨⟨o5, o6, hr.1, hr.2, hws, List.mem_cons_self, hts _ (List.mem_cons_of_mem _ o1), hts _ (List.mem_cons_of_mem _ o2), o3, hlen, hts _ (List.mem_cons_of_mem _ hl)⟩, hts _ (List.mem_cons_of_mem _ hv.1), hts _ (List.mem_cons_of_mem _ hv.2)⟩ hp rfl (by rw [List.length_map]; exact hn) hlv.1 hst2 hrest hd ⟨Nat.zero_le _, Nat.zero_le _⟩) hS (fun H1 locs1 hP1 hS1 => kk H1 locs1 LS hP1 hS1 hlv)
  · exact gx_after (va_runVN (own := M.1.cls) (host := "EachBearsPillar") (As := As.map (gx_cv S.2.2.1)) (rest := rest.map (gx_cv S.2.2.1)) (g := F0 m pc LS (st.map (gx_cv S.2.2.1))) ⟨hx, hb, hml, hown, hts⟩ (hM l S (by rw [he]; exact hsh)) ⟨⟨⟨o5, o6, hr.1, hr.2, hws, List.mem_cons_self⟩, hts _ (List.mem_cons_of_mem _ o1), hts _ (List.mem_cons_of_mem _ o2), o3, hlen, va_Nw.use rfl (hNW _ hl)⟩, hts _ (List.mem_cons_of_mem _ hv.1), hts _ (List.mem_cons_of_mem _ hv.2)⟩ hp rfl (by rw [List.length_map]; exact hn) hlv.1 hst2 hrest hd ⟨Nat.zero_le _, Nat.zero_le _⟩) hS (fun H1 locs1 hP1 hS1 => kk H1 locs1 LS hP1 hS1 hlv)
end
section
variable {X : gx_X} {M : gx_Mi} {pc : Nat} {ls ls' : List (Option gx_V)} {st : List gx_V} {w : gx_Wd}
/-- the static that says that texts are kept by bytes -/
theorem gs_com (hX : gx_Ok X M) (hC : M.1.cls = "java/lang/String") (hd : decode M.2.1 pc = .ok (.getstatic 38, 3)) (k : gx_G X M (pc + 3) ls (.inl 1 :: st) w) : gx_G X M pc ls st w := by
  obtain ⟨p, l, e, s, m, args, below, meth, c, S, res, w1⟩ := X
  obtain ⟨hx, hb, hml, hts, hown, hrt, hlk, hK, hDD, hNW, hSX, hsh⟩ := hX
  intro H locs LS hP hS hl
  rw [hC] at hown
  exact va_gets hx hb hSX.2.2.1 hS hown (hts _ (List.mem_cons_of_mem _ fk_com)) (fun _ h => h) hd (k H locs LS hP hS hl)
theorem gs_cod (hX : gx_Ok X M) (hC : M.1.cls = "java/lang/String") {i : Nat} (hi : i < 7) (hd : decode M.2.1 pc = .ok (.getfield 15, 3)) (k : gx_G X M (pc + 3) ls (.inl 0 :: st) w) : gx_G X M pc ls (.inr (1000 + i) :: st) w := by
  obtain ⟨p, l, e, s, m, args, below, meth, c, S, res, w1⟩ := X
  obtain ⟨hx, hb, hml, hts, hown, hrt, hlk, hK, hDD, hNW, hSX, hsh⟩ := hX
  intro H locs LS hP hS hl
  rw [hC] at hown
  exact vk_getf hx hb (hSX.1.1 i hi).2.1 hS hown (hts _ (List.mem_cons_of_mem _ fk_cod)) (fun _ h => h) hd (k H locs LS hP hS hl)
theorem gs_val (hX : gx_Ok X M) (hC : M.1.cls = "java/lang/String") {i : Nat} (hi : i < 7) (hd : decode M.2.1 pc = .ok (.getfield 9, 3)) (k : gx_G X M (pc + 3) ls (.inr (2000 + i) :: st) w) : gx_G X M pc ls (.inr (1000 + i) :: st) w := by
  obtain ⟨p, l, e, s, m, args, below, meth, c, S, res, w1⟩ := X
  obtain ⟨hx, hb, hml, hts, hown, hrt, hlk, hK, hDD, hNW, hSX, hsh⟩ := hX
  intro H locs LS hP hS hl
  rw [hC] at hown
  exact vk_getf hx hb (hSX.1.1 i hi).2.2.1 hS hown (hts _ (List.mem_cons_of_mem _ fk_val)) (fun _ h => h) hd (k H locs LS hP hS hl)
theorem gs_len (hX : gx_Ok X M) {i : Nat} (hi : i < 7) (hd : decode M.2.1 pc = .ok (.arraylength, 1)) (k : gx_G X M (pc + 1) ls (.inl (Int32.ofNat (gx_txl.getD i 0)) :: st) w) : gx_G X M pc ls (.inr (2000 + i) :: st) w := by
  obtain ⟨p, l, e, s, m, args, below, meth, c, S, res, w1⟩ := X
  obtain ⟨hx, hb, hml, hts, hown, hrt, hlk, hK, hDD, hNW, hSX, hsh⟩ := hX
  intro H locs LS hP hS hl
  exact va_tlen hx hb (hSX.1.1 i hi).2.2.2 hS rfl hd (k H locs LS hP hS hl)
theorem gs_bald (hX : gx_Ok X M) {i : Nat} (hi : i < 7) {k0 : Int32} (hin : vp_in k0 (gx_txl.getD i 0)) (hd : decode M.2.1 pc = .ok (.baload, 1)) (k : gx_G X M (pc + 1) ls (.inl ((gx_txb.getD i []).getD k0.toNatClampNeg 0) :: st) w) : gx_G X M pc ls (.inl k0 :: .inr (2000 + i) :: st) w := by
  obtain ⟨p, l, e, s, m, args, below, meth, c, S, res, w1⟩ := X
  obtain ⟨hx, hb, hml, hts, hown, hrt, hlk, hK, hDD, hNW, hSX, hsh⟩ := hX
  intro H locs LS hP hS hl
  exact va_tb hx hb (hSX.1.1 i hi).2.2.2 hS hin rfl hd (k H locs LS hP hS hl)
theorem gs_i2c (hX : gx_Ok X M) {x v : Int32} (hd : decode M.2.1 pc = .ok (.i2c, 1)) (hv : (x.toUInt32 % 65536).toInt32 = v) (k : gx_G X M (pc + 1) ls (.inl v :: st) w) : gx_G X M pc ls (.inl x :: st) w := by
  obtain ⟨p, l, e, s, m, args, below, meth, c, S, res, w1⟩ := X
  obtain ⟨hx, hb, hml, hts, hown, hrt, hlk, hK, hDD, hNW, hSX, hsh⟩ := hX
  intro H locs LS hP hS hl
  exact lv_i2c hx hb hd hv (k H locs LS hP hS hl)
end
theorem k_x_S_coder {i : Nat} (hi : i < 7) {w : gx_Wd} : gx_MT mi_x_S_coder [.inr (1000 + i)] w (some (.inl 0)) w := by
  refine gx_met (by decide +kernel) (Nat.le_of_ble_eq_true rfl) (fun X hX hres hwr => ?_)
  show gx_G X mi_x_S_coder 0 [some (.inr (1000 + i))] [] w
  refine gs_com hX rfl (gx_dt dt_mi_x_S_coder 0 rfl) ?_
  refine gx_if_eq hX (tgt := 13) (gx_dt dt_mi_x_S_coder 1 rfl) (by decide) (fun z => absurd z (by decide)) (fun _ => ?_)
  refine gx_aload_n hX (gx_dt dt_mi_x_S_coder 2 rfl) rfl ?_
  refine gs_cod hX rfl hi (gx_dt dt_mi_x_S_coder 3 rfl) ?_
  refine gx_goto hX (tgt := 14) (gx_dt dt_mi_x_S_coder 4 rfl) (by decide) ?_
  exact gx_zret hX (gx_dt dt_mi_x_S_coder 5 rfl) rfl (by decide) hres hwr
theorem k_x_S_isLatin1 {i : Nat} (hi : i < 7) {w : gx_Wd} : gx_MT mi_x_S_isLatin1 [.inr (1000 + i)] w (some (.inl 1)) w := by
  refine gx_met (by decide +kernel) (Nat.le_of_ble_eq_true rfl) (fun X hX hres hwr => ?_)
  show gx_G X mi_x_S_isLatin1 0 [some (.inr (1000 + i))] [] w
  refine gs_com hX rfl (gx_dt dt_mi_x_S_isLatin1 0 rfl) ?_
  refine gx_if_eq hX (tgt := 17) (gx_dt dt_mi_x_S_isLatin1 1 rfl) (by decide) (fun z => absurd z (by decide)) (fun _ => ?_)
  refine gx_aload_n hX (gx_dt dt_mi_x_S_isLatin1 2 rfl) rfl ?_
  refine gs_cod hX rfl hi (gx_dt dt_mi_x_S_isLatin1 3 rfl) ?_
  refine gx_if_ne hX (tgt := 17) (gx_dt dt_mi_x_S_isLatin1 4 rfl) (by decide) (fun z => absurd rfl z) (fun _ => ?_)
  refine gx_iconst hX (v := 1) (gx_dt dt_mi_x_S_isLatin1 5 rfl) (by decide) ?_
  refine gx_goto hX (tgt := 18) (gx_dt dt_mi_x_S_isLatin1 6 rfl) (by decide) ?_
  exact gx_zret hX (gx_dt dt_mi_x_S_isLatin1 7 rfl) rfl (by decide) hres hwr
theorem k_x_S_isEmpty {o : Nat} {w : gx_Wd} {R : Int32 × gx_Wd} (h : x_S_isEmpty o w = some R) : gx_MT mi_x_S_isEmpty [.inr o] w (some (.inl R.1)) R.2 := by
  obtain ⟨i, hi, rfl⟩ := gx_so_isEmpty h
  unfold x_S_isEmpty at h
  rw [if_pos (by omega), show 1000 + i - 1000 = i by omega] at h
  have h2 := Option.some.inj h
  subst h2
  refine gx_met (by decide +kernel) (Nat.le_of_ble_eq_true rfl) (fun X hX hres hwr => ?_)
  show gx_G X mi_x_S_isEmpty 0 [some (.inr (1000 + i))] [] w
  refine gx_aload_n hX (gx_dt dt_mi_x_S_isEmpty 0 rfl) rfl ?_
  refine gs_val hX rfl hi (gx_dt dt_mi_x_S_isEmpty 1 rfl) ?_
  refine gs_len hX hi (gx_dt dt_mi_x_S_isEmpty 2 rfl) ?_
  have hz : ∀ i, i < 7 → (Int32.ofNat (gx_txl.getD i 0) = 0 ↔ gx_txl.getD i 0 = 0) := by decide
  refine gx_if_ne hX (tgt := 12) (gx_dt dt_mi_x_S_isEmpty 3 rfl) (by decide) (fun z => ?_) (fun z => ?_)
  · refine gx_iconst hX (v := 0) (gx_dt dt_mi_x_S_isEmpty 6 rfl) (by decide) ?_
    refine gx_zret hX (gx_dt dt_mi_x_S_isEmpty 7 rfl) rfl (by decide) ?_ hwr
    rw [hres]
    simp only
    rw [if_neg (fun y => z ((hz i hi).mpr y))]
  · refine gx_iconst hX (v := 1) (gx_dt dt_mi_x_S_isEmpty 4 rfl) (by decide) ?_
    refine gx_goto hX (tgt := 13) (gx_dt dt_mi_x_S_isEmpty 5 rfl) (by decide) ?_
    refine gx_zret hX (gx_dt dt_mi_x_S_isEmpty 7 rfl) rfl (by decide) ?_ hwr
    rw [hres]
    simp only
    rw [if_pos ((hz i hi).mp z)]
theorem k_x_S_length {o : Nat} {w : gx_Wd} {R : Int32 × gx_Wd} (h : x_S_length o w = some R) : gx_MT mi_x_S_length [.inr o] w (some (.inl R.1)) R.2 := by
  obtain ⟨i, hi, rfl⟩ := gx_so_length h
  unfold x_S_length at h
  rw [if_pos (by omega), show 1000 + i - 1000 = i by omega] at h
  have h2 := Option.some.inj h
  subst h2
  refine gx_met (by decide +kernel) (Nat.le_of_ble_eq_true rfl) (fun X hX hres hwr => ?_)
  show gx_G X mi_x_S_length 0 [some (.inr (1000 + i))] [] w
  refine gx_aload_n hX (gx_dt dt_mi_x_S_length 0 rfl) rfl ?_
  refine gs_val hX rfl hi (gx_dt dt_mi_x_S_length 1 rfl) ?_
  refine gs_len hX hi (gx_dt dt_mi_x_S_length 2 rfl) ?_
  refine gx_aload_n hX (gx_dt dt_mi_x_S_length 3 rfl) rfl ?_
  refine gx_callTi hX (gx_dt dt_mi_x_S_length 4 rfl) lk_x_S_coder mo_x_S_coder mv_x_S_coder (gx_rmb rfl) rfl rfl ⟨i, hi, rfl⟩ (k_x_S_coder hi) rfl rfl (Nat.le_of_ble_eq_true rfl) ?_
  refine gx_ishr hX (gx_dt dt_mi_x_S_length 5 rfl) ?_
  have hz : ∀ i, i < 7 → Int32.ofNat (gx_txl.getD i 0) >>> ((0 : Int32) &&& 31) = Int32.ofNat (gx_txl.getD i 0) := by decide
  rw [hz i hi]
  exact gx_iret hX (gx_dt dt_mi_x_S_length 6 rfl) rfl hres hwr
/-- the index tested: it is one -/
theorem k_x_P_check {i n : Int32} {v : Value} (hv : v.category = 1) (h0 : ¬ i < 0) (h1 : i < n) {w : gx_Wd} (l : Launch) (S : gx_Sd) (hsh : S.1 = sh_x) : Met l mi_x_P_checkIndex.1 (.code mi_x_P_checkIndex.1 mi_x_P_checkIndex.2.1 mi_x_P_checkIndex.2.2.1 mi_x_P_checkIndex.2.2.2.1 :: gx_big) mi_x_P_checkIndex.2.2.2.2.1 (va_Pc [.int i, .int n, v] (gx_PX S w)) (gx_Q S (some (.inl i)) w) 0 0 (gx_A S) := by
  have core : ∀ X, gx_Ok X mi_x_P_checkIndex → gx_res X = some (.inl i) → gx_wr X = w → gx_G X mi_x_P_checkIndex 0 [some (.inl i), some (.inl n)] [] w := by
    intro X hX hres hwr
    refine gx_iload_n hX (gx_dt dt_mi_x_P_checkIndex 0 rfl) rfl ?_
    refine gx_if_lt hX (tgt := 9) (gx_dt dt_mi_x_P_checkIndex 1 rfl) (by decide) (fun z => absurd z h0) (fun _ => ?_)
    refine gx_iload_n hX (gx_dt dt_mi_x_P_checkIndex 2 rfl) rfl ?_
    refine gx_iload_n hX (gx_dt dt_mi_x_P_checkIndex 3 rfl) rfl ?_
    refine gx_ic_lt hX (tgt := 16) (gx_dt dt_mi_x_P_checkIndex 4 rfl) (by decide) (fun _ => ?_) (fun z => absurd h1 z)
    refine gx_iload_n hX (gx_dt dt_mi_x_P_checkIndex 5 rfl) rfl ?_
    exact gx_iret hX (gx_dt dt_mi_x_P_checkIndex 6 rfl) rfl hres hwr
  refine Met.ofW (cc := mi_x_P_checkIndex.2.1) (maxL := mi_x_P_checkIndex.2.2.1) (ret := mi_x_P_checkIndex.2.2.2.1) (by decide +kernel) rfl ?_
  intro p e s m args0 below meth c s₁ B hml hv0
  obtain ⟨rfl, hP, hK, hDD, hNW, hSX⟩ := hv0
  have hown : s.vm.findClass mi_x_P_checkIndex.1.cls = some m.cls := findClass_of_methodNamed B.named
  have k := core (p, l, e, s, m, ([.int i, .int n, v] : List Value).toArray, below, meth, c, S, some (.inl i), w) ⟨B.exec, B.bytes, hml, atoms_spec (ws := Cond.code mi_x_P_checkIndex.1 mi_x_P_checkIndex.2.1 mi_x_P_checkIndex.2.2.1 mi_x_P_checkIndex.2.2.2.1 :: gx_big) B.pre, hown, B.returns, B.notSynchronized, hK, hDD, hNW, hSX, hsh⟩ rfl rfl
  have hsl : lg_sl [.int i, .int n, v] = [Slot.val (.int i), Slot.val (.int n), Slot.val v] := by
    show ([Slot.val (.int i)] ++ ([Slot.val (.int n)] ++ ((if v.category = 2 then [Slot.val v, Slot.second] else [Slot.val v]) ++ []))) = _
    rw [hv]
    rfl
  have hl := lv_entry [.int i, .int n, v] (n := mi_x_P_checkIndex.2.2.1) (by rw [hsl]; exact Nat.le_refl _)
  rw [lg_entry_eq]
  refine k s.heap [] _ hP va_S.rf (gx_lmono hl fun j u hj => ?_)
  cases j with
  | zero => simp [gx_n] at hj; subst hj; simp [lv_args, gx_cv]
  | succ j =>
    cases j with
    | zero =>
      simp [gx_n] at hj
      subst hj
      have : (Value.int i).category = 1 := rfl
      simp [lv_args, this, gx_cv]
    | succ j => simp [gx_n] at hj
section
variable {X : gx_X} {M : gx_Mi} {pc : Nat} {ls ls' : List (Option gx_V)} {st : List gx_V} {w : gx_Wd}
theorem gs_chk (hX : gx_Ok X M) (hC : M.1.cls = "java/lang/String") (hsx : M.2.2.2.2.2 = sh_x) {i n : Int32} (h0 : ¬ i < 0) (h1 : i < n) (hd1 : decode M.2.1 pc = .ok (.getstatic 1053, 3)) (hd2 : decode M.2.1 (pc + 3) = .ok (.invokestatic 1059, 3)) (hr : gx_rm mi_x_P_checkIndex M) (hrl : st.length ≤ 8) (kk : gx_G X M (pc + 3 + 3) ls (.inl i :: st) w) : gx_G X M pc ls (.inl n :: .inl i :: st) w := by
  obtain ⟨p, l, e, s, m, args, below, meth, c, S, res, w1⟩ := X
  obtain ⟨hx, hb, hml, hts, hown, hrt, hlk, hK, hDD, hNW, hSX, hsh⟩ := hX
  intro H locs LS hP hS hlv
  obtain ⟨v, hv, hZ⟩ := hSX.2.2.2
  have hcat : v.category = 1 := by
    rcases hv with rfl | ⟨a, rfl⟩ <;> rfl
  rw [hC] at hown
  refine va_gets hx hb hZ hS hown (hts _ (List.mem_cons_of_mem _ fk_sio)) (fun _ h => h) hd1 ?_
  obtain ⟨o1, o2, o3, o4, o5, o6⟩ := mo_x_P_checkIndex
  have hp : PreS s H (va_Pc [.int i, .int n, v] (gx_PX S w)) [.int i, .int n, v] := by
    refine ⟨gx_fb, fun U hU hW => ⟨rfl, ?_⟩⟩
    exact ⟨by rw [hU]; exact hP, va_K.moved hW.alike hK, hDD, hNW.warm hW, by rw [hU]; exact hSX.to hW hS.2.1⟩
  have hws : ∀ w ∈ (Cond.code mi_x_P_checkIndex.1 mi_x_P_checkIndex.2.1 mi_x_P_checkIndex.2.2.1 mi_x_P_checkIndex.2.2.2.1 :: gx_big), ∀ (a' : Array Value) (U : State), s.WarmedH U.vm → w.before a' U = true := pay_in hts (gx_good o1)
  have hlen : ∀ sig, parseMethodDescriptor mi_x_P_checkIndex.1.desc = some sig → 3 = sig.parameters.length := fun sig h => by
    have h2 := o4
    rw [h] at h2
    exact (Option.some.inj h2).symm
  have hrest : 2 * (F0 m (pc + 3) LS (v :: .int n :: .int i :: st.map (gx_cv S.2.2.1))).monitorRoom + ((st.map (gx_cv S.2.2.1)).map fun v => v.category).sum ≤ 8 := by
    rw [gx_cat1]
    show 2 * 0 + _ ≤ 8
    omega
  have hl : Cond.methodLink "java/lang/String" 1059 mi_x_P_checkIndex.1 ∈ gx_big := wl_x_P_checkIndex
  exact gx_after (va_runS (own := "java/lang/String") (As := [.int i, .int n, v]) (rest := st.map (gx_cv S.2.2.1)) (g := F0 m (pc + 3) LS (v :: .int n :: .int i :: st.map (gx_cv S.2.2.1))) ⟨hx, hb, hml, hown, hts⟩ (k_x_P_check hcat h0 h1 l S (by rw [hsh]; exact hsx)) ⟨⟨o5, o6, hr.1, hr.2, hws, List.mem_cons_self, hts _ (List.mem_cons_of_mem _ o1), hts _ (List.mem_cons_of_mem _ o2), o3, hlen, hts _ (List.mem_cons_of_mem _ hl)⟩, hts _ (List.mem_cons_of_mem _ ms_x_P_checkIndex)⟩ hp rfl rfl hlv.1 rfl hrest hd2 ⟨Nat.zero_le _, Nat.zero_le _⟩) hS (fun H1 locs1 hP1 hS1 => kk H1 locs1 LS hP1 hS1 hlv)
end
theorem k_x_S_check {i n : Int32} (h0 : ¬ i < 0) (h1 : i < n) {w : gx_Wd} : gx_MT mi_x_S_checkIndex [.inl i, .inl n] w none w := by
  refine gx_met (by decide +kernel) (Nat.le_of_ble_eq_true rfl) (fun X hX hres hwr => ?_)
  show gx_G X mi_x_S_checkIndex 0 [some (.inl i), some (.inl n)] [] w
  refine gx_iload_n hX (gx_dt dt_mi_x_S_checkIndex 0 rfl) rfl ?_
  refine gx_iload_n hX (gx_dt dt_mi_x_S_checkIndex 1 rfl) rfl ?_
  refine gs_chk hX rfl rfl h0 h1 (gx_dt dt_mi_x_S_checkIndex 2 rfl) (gx_dt dt_mi_x_S_checkIndex 3 rfl) (gx_rmb rfl) (Nat.le_of_ble_eq_true rfl) ?_
  refine gx_pop hX (gx_dt dt_mi_x_S_checkIndex 4 rfl) ?_
  exact gx_vret hX (gx_dt dt_mi_x_S_checkIndex 5 rfl) rfl hres hwr
theorem k_x_L_charAt {i : Nat} (hi : i < 7) {k : Int32} (h0 : ¬ k < 0) (hk : k.toNatClampNeg < gx_txl.getD i 0) {w : gx_Wd} : gx_MT mi_x_L_charAt [.inr (2000 + i), .inl k] w (some (.inl ((gx_txb.getD i []).getD k.toNatClampNeg 0))) w := by
  refine gx_met (by decide +kernel) (Nat.le_of_ble_eq_true rfl) (fun X hX hres hwr => ?_)
  show gx_G X mi_x_L_charAt 0 [some (.inr (2000 + i)), some (.inl k)] [] w
  have hL : ∀ i, i < 7 → gx_txl.getD i 0 < 100 := by decide
  have hb : ∀ i, i < 7 → ∀ j, j < gx_txl.getD i 0 → ((((gx_txb.getD i []).getD j 0) &&& 255).toUInt32 % 65536).toInt32 = (gx_txb.getD i []).getD j 0 ∧ narrow .char (.int ((gx_txb.getD i []).getD j 0)) = .int ((gx_txb.getD i []).getD j 0) := by decide
  have h1 : k < Int32.ofNat (gx_txl.getD i 0) := by
    obtain ⟨q, hq, rfl⟩ := nI_of h0
    rw [nI_clamp hq] at hk
    exact nI_lt hk (by have := hL i hi; omega)
  refine gx_iload_n hX (gx_dt dt_mi_x_L_charAt 0 rfl) rfl ?_
  refine gx_aload_n hX (gx_dt dt_mi_x_L_charAt 1 rfl) rfl ?_
  refine gs_len hX hi (gx_dt dt_mi_x_L_charAt 2 rfl) ?_
  refine gx_callSv hX (gx_dt dt_mi_x_L_charAt 3 rfl) lk_x_S_checkIndex mo_x_S_checkIndex ms_x_S_checkIndex (gx_rmb rfl) rfl (k_x_S_check h0 h1) rfl rfl (Nat.le_of_ble_eq_true rfl) ?_
  refine gx_aload_n hX (gx_dt dt_mi_x_L_charAt 4 rfl) rfl ?_
  refine gx_iload_n hX (gx_dt dt_mi_x_L_charAt 5 rfl) rfl ?_
  refine gs_bald hX hi (fun z => by rcases z with z | z; exact h0 z; omega) (gx_dt dt_mi_x_L_charAt 6 rfl) ?_
  refine gx_sipush hX (v := 255) (gx_dt dt_mi_x_L_charAt 7 rfl) (by decide) ?_
  refine gx_iand hX (gx_dt dt_mi_x_L_charAt 8 rfl) ?_
  refine gs_i2c hX (gx_dt dt_mi_x_L_charAt 9 rfl) (hb i hi _ hk).1 ?_
  exact gx_zret hX (gx_dt dt_mi_x_L_charAt 10 rfl) rfl (hb i hi _ hk).2 hres hwr
theorem k_x_S_charAt {o : Nat} {i : Int32} {w : gx_Wd} {R : Int32 × gx_Wd} (h : x_S_charAt o i w = some R) : gx_MT mi_x_S_charAt [.inr o, .inl i] w (some (.inl R.1)) R.2 := by
  obtain ⟨j, hj, rfl⟩ := gx_so_charAt h
  unfold x_S_charAt at h
  rw [show 1000 + j - 1000 = j by omega] at h
  split at h
  · rename_i c
    obtain ⟨-, -, h0, hk⟩ := c
    have h2 := Option.some.inj h
    subst h2
    have hb : ∀ i, i < 7 → ∀ j, j < gx_txl.getD i 0 → narrow .char (.int ((gx_txb.getD i []).getD j 0)) = .int ((gx_txb.getD i []).getD j 0) := by decide
    refine gx_met (by decide +kernel) (Nat.le_of_ble_eq_true rfl) (fun X hX hres hwr => ?_)
    show gx_G X mi_x_S_charAt 0 [some (.inr (1000 + j)), some (.inl i)] [] w
    refine gx_aload_n hX (gx_dt dt_mi_x_S_charAt 0 rfl) rfl ?_
    refine gx_callTi hX (gx_dt dt_mi_x_S_charAt 1 rfl) lk_x_S_isLatin1 mo_x_S_isLatin1 mv_x_S_isLatin1 (gx_rmb rfl) rfl rfl ⟨j, hj, rfl⟩ (k_x_S_isLatin1 hj) rfl rfl (Nat.le_of_ble_eq_true rfl) ?_
    refine gx_if_eq hX (tgt := 16) (gx_dt dt_mi_x_S_charAt 2 rfl) (by decide) (fun z => absurd z (by decide)) (fun _ => ?_)
    refine gx_aload_n hX (gx_dt dt_mi_x_S_charAt 3 rfl) rfl ?_
    refine gs_val hX rfl hj (gx_dt dt_mi_x_S_charAt 4 rfl) ?_
    refine gx_iload_n hX (gx_dt dt_mi_x_S_charAt 5 rfl) rfl ?_
    refine gx_callSi hX (gx_dt dt_mi_x_S_charAt 6 rfl) lk_x_L_charAt mo_x_L_charAt ms_x_L_charAt (gx_rmb rfl) rfl (k_x_L_charAt hj h0 hk) rfl rfl (Nat.le_of_ble_eq_true rfl) ?_
    exact gx_zret hX (gx_dt dt_mi_x_S_charAt 7 rfl) rfl (hb j hj _ hk) hres hwr
  · cases h
