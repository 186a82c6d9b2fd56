/-! ===== membership among the good words, by places in the tables ===== -/
theorem gx_ib {i : Nat} {w : Cond} (h : tables_1[i]? = some w) (hg : goodWord w = true) : w ∈ gx_big := List.mem_filter.mpr ⟨List.mem_append_right _ (List.mem_of_getElem? h), hg⟩
theorem gx_uws {C : String} {T : u_T} {N : Nat} {ps : List Nat} (h : ((List.range N).all fun k => decide (tables_1[ps.getD k 0]? = some (u_lay C T k)) && goodWord (u_lay C T k)) = true) : ∀ w ∈ u_ws C T N, w ∈ gx_big := by
  intro w hw
  obtain ⟨k, hk, rfl⟩ := List.mem_map.mp hw
  have h1 := List.all_eq_true.mp h k hk
  simp only [Bool.and_eq_true, decide_eq_true_eq] at h1
  exact gx_ib h1.1 h1.2
theorem gx_mp1 {w : Cond} (h : w ∈ tables_1_1) : w ∈ tables_1 := List.mem_append_left _ h
theorem gx_ic1 {i : Nat} {w : Cond} (h : tables_1_1[i]? = some w) (hg : goodWord w = true) : w ∈ gx_big := List.mem_filter.mpr ⟨List.mem_append_right _ (gx_mp1 (List.mem_of_getElem? h)), hg⟩
def gx_wl1 (L : List (Nat × Cond)) : Bool := L.all fun q => decide (tables_1_1[q.1]? = some q.2) && goodWord q.2
theorem gx_wb1 {L : List (Nat × Cond)} (h : gx_wl1 L = true) (i : Nat) {n : Nat} {w : Cond} (hi : L[i]? = some (n, w)) : w ∈ gx_big := by
  have h1 := List.all_eq_true.mp h _ (List.mem_of_getElem? hi)
  simp only [Bool.and_eq_true, decide_eq_true_eq] at h1
  exact gx_ic1 h1.1 h1.2
def gx_nl1 (L : List (Nat × Cond)) : Bool := L.all fun q => decide (tables_1_1[q.1]? = some q.2) && gx_isNest q.2
theorem gx_nb1 {L : List (Nat × Cond)} (h : gx_nl1 L = true) (i : Nat) {n : Nat} {w : Cond} (hi : L[i]? = some (n, w)) : w ∈ gx_nest := by
  have h1 := List.all_eq_true.mp h _ (List.mem_of_getElem? hi)
  simp only [Bool.and_eq_true, decide_eq_true_eq] at h1
  exact List.mem_filter.mpr ⟨List.mem_append_right _ (gx_mp1 (List.mem_of_getElem? h1.1)), h1.2⟩
theorem gx_mp2 {w : Cond} (h : w ∈ tables_1_2) : w ∈ tables_1 := List.mem_append_right _ (List.mem_append_left _ h)
theorem gx_ic2 {i : Nat} {w : Cond} (h : tables_1_2[i]? = some w) (hg : goodWord w = true) : w ∈ gx_big := List.mem_filter.mpr ⟨List.mem_append_right _ (gx_mp2 (List.mem_of_getElem? h)), hg⟩
def gx_wl2 (L : List (Nat × Cond)) : Bool := L.all fun q => decide (tables_1_2[q.1]? = some q.2) && goodWord q.2
theorem gx_wb2 {L : List (Nat × Cond)} (h : gx_wl2 L = true) (i : Nat) {n : Nat} {w : Cond} (hi : L[i]? = some (n, w)) : w ∈ gx_big := by
  have h1 := List.all_eq_true.mp h _ (List.mem_of_getElem? hi)
  simp only [Bool.and_eq_true, decide_eq_true_eq] at h1
  exact gx_ic2 h1.1 h1.2
def gx_nl2 (L : List (Nat × Cond)) : Bool := L.all fun q => decide (tables_1_2[q.1]? = some q.2) && gx_isNest q.2
theorem gx_nb2 {L : List (Nat × Cond)} (h : gx_nl2 L = true) (i : Nat) {n : Nat} {w : Cond} (hi : L[i]? = some (n, w)) : w ∈ gx_nest := by
  have h1 := List.all_eq_true.mp h _ (List.mem_of_getElem? hi)
  simp only [Bool.and_eq_true, decide_eq_true_eq] at h1
  exact List.mem_filter.mpr ⟨List.mem_append_right _ (gx_mp2 (List.mem_of_getElem? h1.1)), h1.2⟩
theorem gx_mp3 {w : Cond} (h : w ∈ tables_1_3) : w ∈ tables_1 := List.mem_append_right _ (List.mem_append_right _ (List.mem_append_left _ h))
theorem gx_ic3 {i : Nat} {w : Cond} (h : tables_1_3[i]? = some w) (hg : goodWord w = true) : w ∈ gx_big := List.mem_filter.mpr ⟨List.mem_append_right _ (gx_mp3 (List.mem_of_getElem? h)), hg⟩
def gx_wl3 (L : List (Nat × Cond)) : Bool := L.all fun q => decide (tables_1_3[q.1]? = some q.2) && goodWord q.2
theorem gx_wb3 {L : List (Nat × Cond)} (h : gx_wl3 L = true) (i : Nat) {n : Nat} {w : Cond} (hi : L[i]? = some (n, w)) : w ∈ gx_big := by
  have h1 := List.all_eq_true.mp h _ (List.mem_of_getElem? hi)
  simp only [Bool.and_eq_true, decide_eq_true_eq] at h1
  exact gx_ic3 h1.1 h1.2
def gx_nl3 (L : List (Nat × Cond)) : Bool := L.all fun q => decide (tables_1_3[q.1]? = some q.2) && gx_isNest q.2
theorem gx_nb3 {L : List (Nat × Cond)} (h : gx_nl3 L = true) (i : Nat) {n : Nat} {w : Cond} (hi : L[i]? = some (n, w)) : w ∈ gx_nest := by
  have h1 := List.all_eq_true.mp h _ (List.mem_of_getElem? hi)
  simp only [Bool.and_eq_true, decide_eq_true_eq] at h1
  exact List.mem_filter.mpr ⟨List.mem_append_right _ (gx_mp3 (List.mem_of_getElem? h1.1)), h1.2⟩
theorem gx_mp4 {w : Cond} (h : w ∈ tables_1_4) : w ∈ tables_1 := List.mem_append_right _ (List.mem_append_right _ (List.mem_append_right _ (List.mem_append_left _ h)))
theorem gx_ic4 {i : Nat} {w : Cond} (h : tables_1_4[i]? = some w) (hg : goodWord w = true) : w ∈ gx_big := List.mem_filter.mpr ⟨List.mem_append_right _ (gx_mp4 (List.mem_of_getElem? h)), hg⟩
def gx_wl4 (L : List (Nat × Cond)) : Bool := L.all fun q => decide (tables_1_4[q.1]? = some q.2) && goodWord q.2
theorem gx_wb4 {L : List (Nat × Cond)} (h : gx_wl4 L = true) (i : Nat) {n : Nat} {w : Cond} (hi : L[i]? = some (n, w)) : w ∈ gx_big := by
  have h1 := List.all_eq_true.mp h _ (List.mem_of_getElem? hi)
  simp only [Bool.and_eq_true, decide_eq_true_eq] at h1
  exact gx_ic4 h1.1 h1.2
def gx_nl4 (L : List (Nat × Cond)) : Bool := L.all fun q => decide (tables_1_4[q.1]? = some q.2) && gx_isNest q.2
theorem gx_nb4 {L : List (Nat × Cond)} (h : gx_nl4 L = true) (i : Nat) {n : Nat} {w : Cond} (hi : L[i]? = some (n, w)) : w ∈ gx_nest := by
  have h1 := List.all_eq_true.mp h _ (List.mem_of_getElem? hi)
  simp only [Bool.and_eq_true, decide_eq_true_eq] at h1
  exact List.mem_filter.mpr ⟨List.mem_append_right _ (gx_mp4 (List.mem_of_getElem? h1.1)), h1.2⟩
theorem gx_mp5 {w : Cond} (h : w ∈ tables_1_5) : w ∈ tables_1 := List.mem_append_right _ (List.mem_append_right _ (List.mem_append_right _ (List.mem_append_right _ (h))))
theorem gx_ic5 {i : Nat} {w : Cond} (h : tables_1_5[i]? = some w) (hg : goodWord w = true) : w ∈ gx_big := List.mem_filter.mpr ⟨List.mem_append_right _ (gx_mp5 (List.mem_of_getElem? h)), hg⟩
def gx_wl5 (L : List (Nat × Cond)) : Bool := L.all fun q => decide (tables_1_5[q.1]? = some q.2) && goodWord q.2
theorem gx_wb5 {L : List (Nat × Cond)} (h : gx_wl5 L = true) (i : Nat) {n : Nat} {w : Cond} (hi : L[i]? = some (n, w)) : w ∈ gx_big := by
  have h1 := List.all_eq_true.mp h _ (List.mem_of_getElem? hi)
  simp only [Bool.and_eq_true, decide_eq_true_eq] at h1
  exact gx_ic5 h1.1 h1.2
def gx_nl5 (L : List (Nat × Cond)) : Bool := L.all fun q => decide (tables_1_5[q.1]? = some q.2) && gx_isNest q.2
theorem gx_nb5 {L : List (Nat × Cond)} (h : gx_nl5 L = true) (i : Nat) {n : Nat} {w : Cond} (hi : L[i]? = some (n, w)) : w ∈ gx_nest := by
  have h1 := List.all_eq_true.mp h _ (List.mem_of_getElem? hi)
  simp only [Bool.and_eq_true, decide_eq_true_eq] at h1
  exact List.mem_filter.mpr ⟨List.mem_append_right _ (gx_mp5 (List.mem_of_getElem? h1.1)), h1.2⟩
theorem gx_sb {y : MethodName} {n i : Nat} (h : lw_privs[i]? = some (y, n)) : Cond.selects y.cls y y ∈ gx_big := by
  refine List.mem_filter.mpr ⟨List.mem_append_left _ ?_, rfl⟩
  exact List.mem_map.mpr ⟨(y, n), List.mem_of_getElem? h, rfl⟩
/-! ===== the classes of both sides, their fields in the order of the slots ===== -/
def gx_FE : u_T := fun k => match k with
  | 0 => ("EachBearsPillar", "now", "LEachBearsPillar$Roof;", true)
  | 1 => ("EachBearsPillar", "draft", "LEachBearsPillar$Roof;", true)
  | 2 => ("EachBearsPillar", "kept", "LEachBearsPillar$Roof;", true)
  | 3 => ("EachBearsPillar", "hasImage", "Z", false)
  | 4 => ("EachBearsPillar", "mind", "LEachBearsPillar$Mind;", true)
  | 5 => ("EachBearsPillar", "text", "LEachBearsPillar$Text;", true)
  | 6 => ("EachBearsPillar", "walk", "LEachBearsPillar$Walk;", true)
  | 7 => ("EachBearsPillar", "standing", "LEachBearsPillar$Orders;", true)
  | 8 => ("EachBearsPillar", "told", "[I", true)
  | 9 => ("EachBearsPillar", "toldLength", "I", false)
  | _ => ("EachBearsPillar", "refused", "[I", true)
def gx_yE : Nat → FieldType := fun k => match k with
  | 0 => .object "EachBearsPillar$Roof"
  | 1 => .object "EachBearsPillar$Roof"
  | 2 => .object "EachBearsPillar$Roof"
  | 3 => .boolean
  | 4 => .object "EachBearsPillar$Mind"
  | 5 => .object "EachBearsPillar$Text"
  | 6 => .object "EachBearsPillar$Walk"
  | 7 => .object "EachBearsPillar$Orders"
  | 8 => .array .int
  | 9 => .int
  | _ => .array .int
def gx_FR : u_T := fun k => match k with
  | 0 => ("EachBearsPillar$Roof", "bearers", "I", false)
  | 1 => ("EachBearsPillar$Roof", "at", "I", false)
  | 2 => ("EachBearsPillar$Roof", "level", "I", false)
  | 3 => ("EachBearsPillar$Roof", "kind", "[I", true)
  | 4 => ("EachBearsPillar$Roof", "strength", "[I", true)
  | 5 => ("EachBearsPillar$Roof", "height", "[I", true)
  | 6 => ("EachBearsPillar$Roof", "block", "[I", true)
  | 7 => ("EachBearsPillar$Roof", "weight", "[I", true)
  | _ => ("EachBearsPillar$Roof", "ground", "[I", true)
def gx_yR : Nat → FieldType := fun k => match k with
  | 0 => .int
  | 1 => .int
  | 2 => .int
  | 3 => .array .int
  | 4 => .array .int
  | 5 => .array .int
  | 6 => .array .int
  | 7 => .array .int
  | _ => .array .int
def gx_FM : u_T := fun k => match k with
  | 0 => ("EachBearsPillar$Mind", "roof", "LEachBearsPillar$Roof;", true)
  | 1 => ("EachBearsPillar$Mind", "at", "I", false)
  | 2 => ("EachBearsPillar$Mind", "level", "I", false)
  | 3 => ("EachBearsPillar$Mind", "idle", "I", false)
  | 4 => ("EachBearsPillar$Mind", "who", "[I", true)
  | 5 => ("EachBearsPillar$Mind", "raised", "[I", true)
  | 6 => ("EachBearsPillar$Mind", "weight", "[I", true)
  | 7 => ("EachBearsPillar$Mind", "bearing", "[I", true)
  | 8 => ("EachBearsPillar$Mind", "might", "[I", true)
  | _ => ("EachBearsPillar$Mind", "load", "[I", true)
def gx_yM : Nat → FieldType := fun k => match k with
  | 0 => .object "EachBearsPillar$Roof"
  | 1 => .int
  | 2 => .int
  | 3 => .int
  | 4 => .array .int
  | 5 => .array .int
  | 6 => .array .int
  | 7 => .array .int
  | 8 => .array .int
  | _ => .array .int
def gx_FT : u_T := fun k => match k with
  | 0 => ("EachBearsPillar$Text", "letters", "[I", true)
  | 1 => ("EachBearsPillar$Text", "length", "I", false)
  | 2 => ("EachBearsPillar$Text", "place", "I", false)
  | 3 => ("EachBearsPillar$Text", "opener", "I", false)
  | 4 => ("EachBearsPillar$Text", "numbers", "[I", true)
  | _ => ("EachBearsPillar$Text", "numbersRead", "I", false)
def gx_yT : Nat → FieldType := fun k => match k with
  | 0 => .array .int
  | 1 => .int
  | 2 => .int
  | 3 => .int
  | 4 => .array .int
  | _ => .int
def gx_FW : u_T := fun k => match k with
  | 0 => ("EachBearsPillar$Walk", "mind", "LEachBearsPillar$Mind;", true)
  | 1 => ("EachBearsPillar$Walk", "minutes", "[I", true)
  | 2 => ("EachBearsPillar$Walk", "queue", "[I", true)
  | _ => ("EachBearsPillar$Walk", "queued", "I", false)
def gx_yW : Nat → FieldType := fun k => match k with
  | 0 => .object "EachBearsPillar$Mind"
  | 1 => .array .int
  | 2 => .array .int
  | _ => .int
def gx_FO : u_T := fun k => match k with
  | 0 => ("EachBearsPillar$Orders", "mind", "LEachBearsPillar$Mind;", true)
  | 1 => ("EachBearsPillar$Orders", "most", "[I", true)
  | _ => ("EachBearsPillar$Orders", "ways", "[I", true)
def gx_yO : Nat → FieldType := fun k => match k with
  | 0 => .object "EachBearsPillar$Mind"
  | 1 => .array .int
  | _ => .array .int
def gx_FD : u_T := fun k => match k with
  | 0 => ("EachBearsPillarModel", "bearers", "I", false)
  | 1 => ("EachBearsPillarModel", "at", "I", false)
  | 2 => ("EachBearsPillarModel", "level", "I", false)
  | 3 => ("EachBearsPillarModel", "fed", "I", false)
  | 4 => ("EachBearsPillarModel", "rows", "I", false)
  | 5 => ("EachBearsPillarModel", "kind", "[I", true)
  | 6 => ("EachBearsPillarModel", "strength", "[I", true)
  | 7 => ("EachBearsPillarModel", "tall", "[I", true)
  | 8 => ("EachBearsPillarModel", "block", "[I", true)
  | 9 => ("EachBearsPillarModel", "span", "[I", true)
  | 10 => ("EachBearsPillarModel", "ground", "[I", true)
  | 11 => ("EachBearsPillarModel", "text", "[I", true)
  | 12 => ("EachBearsPillarModel", "row", "[I", true)
  | 13 => ("EachBearsPillarModel", "refused", "[I", true)
  | 14 => ("EachBearsPillarModel", "place", "I", false)
  | 15 => ("EachBearsPillarModel", "one", "I", false)
  | 16 => ("EachBearsPillarModel", "two", "I", false)
  | 17 => ("EachBearsPillarModel", "sort", "I", false)
  | 18 => ("EachBearsPillarModel", "stands", "[I", true)
  | 19 => ("EachBearsPillarModel", "slack", "I", false)
  | 20 => ("EachBearsPillarModel", "minutes", "[I", true)
  | 21 => ("EachBearsPillarModel", "waits", "[I", true)
  | 22 => ("EachBearsPillarModel", "waiting", "I", false)
  | 23 => ("EachBearsPillarModel", "seed", "I", false)
  | 24 => ("EachBearsPillarModel", "keptSpan", "[I", true)
  | 25 => ("EachBearsPillarModel", "hasImage", "Z", false)
  | 26 => ("EachBearsPillarModel", "imageBearers", "I", false)
  | 27 => ("EachBearsPillarModel", "imageAt", "I", false)
  | 28 => ("EachBearsPillarModel", "imageLevel", "I", false)
  | 29 => ("EachBearsPillarModel", "imageKind", "[I", true)
  | 30 => ("EachBearsPillarModel", "imageStrength", "[I", true)
  | 31 => ("EachBearsPillarModel", "imageTall", "[I", true)
  | 32 => ("EachBearsPillarModel", "imageBlock", "[I", true)
  | 33 => ("EachBearsPillarModel", "imageSpan", "[I", true)
  | _ => ("EachBearsPillarModel", "imageGround", "[I", true)
def gx_yD : Nat → FieldType := fun k => match k with
  | 0 => .int
  | 1 => .int
  | 2 => .int
  | 3 => .int
  | 4 => .int
  | 5 => .array .int
  | 6 => .array .int
  | 7 => .array .int
  | 8 => .array .int
  | 9 => .array .int
  | 10 => .array .int
  | 11 => .array .int
  | 12 => .array .int
  | 13 => .array .int
  | 14 => .int
  | 15 => .int
  | 16 => .int
  | 17 => .int
  | 18 => .array .int
  | 19 => .int
  | 20 => .array .int
  | 21 => .array .int
  | 22 => .int
  | 23 => .int
  | 24 => .array .int
  | 25 => .boolean
  | 26 => .int
  | 27 => .int
  | 28 => .int
  | 29 => .array .int
  | 30 => .array .int
  | 31 => .array .int
  | 32 => .array .int
  | 33 => .array .int
  | _ => .array .int
abbrev gx_cl : List vw_C := [("EachBearsPillar", gx_FE, 11), ("EachBearsPillar$Roof", gx_FR, 9), ("EachBearsPillar$Mind", gx_FM, 10), ("EachBearsPillar$Text", gx_FT, 6), ("EachBearsPillar$Walk", gx_FW, 4), ("EachBearsPillar$Orders", gx_FO, 3), ("EachBearsPillarModel", gx_FD, 35)]
theorem gx_uE_0 : ((List.range 11).all fun k => decide (tables_1[([202, 204, 206, 208, 210, 212, 214, 216, 218, 220, 222] : List Nat).getD k 0]? = some (u_lay "EachBearsPillar" gx_FE k)) && goodWord (u_lay "EachBearsPillar" gx_FE k)) = true := by decide +kernel
theorem gx_uE : ∀ w ∈ u_ws "EachBearsPillar" gx_FE 11, w ∈ gx_big := gx_uws gx_uE_0
theorem gx_nE : ∀ a, a < 11 → ∀ b, b < 11 → a ≠ b → (gx_FE a).2.1 ≠ (gx_FE b).2.1 := by decide +kernel
theorem gx_tE : ∀ k, k < 11 → parseFieldDescriptor (gx_FE k).2.2.1 = some (gx_yE k) := by decide +kernel
theorem gx_uR_0 : ((List.range 9).all fun k => decide (tables_1[([58, 60, 62, 64, 66, 68, 70, 72, 74] : List Nat).getD k 0]? = some (u_lay "EachBearsPillar$Roof" gx_FR k)) && goodWord (u_lay "EachBearsPillar$Roof" gx_FR k)) = true := by decide +kernel
theorem gx_uR : ∀ w ∈ u_ws "EachBearsPillar$Roof" gx_FR 9, w ∈ gx_big := gx_uws gx_uR_0
theorem gx_nR : ∀ a, a < 9 → ∀ b, b < 9 → a ≠ b → (gx_FR a).2.1 ≠ (gx_FR b).2.1 := by decide +kernel
theorem gx_tR : ∀ k, k < 9 → parseFieldDescriptor (gx_FR k).2.2.1 = some (gx_yR k) := by decide +kernel
theorem gx_uM_0 : ((List.range 10).all fun k => decide (tables_1[([106, 108, 110, 112, 114, 116, 118, 120, 122, 124] : List Nat).getD k 0]? = some (u_lay "EachBearsPillar$Mind" gx_FM k)) && goodWord (u_lay "EachBearsPillar$Mind" gx_FM k)) = true := by decide +kernel
theorem gx_uM : ∀ w ∈ u_ws "EachBearsPillar$Mind" gx_FM 10, w ∈ gx_big := gx_uws gx_uM_0
theorem gx_nM : ∀ a, a < 10 → ∀ b, b < 10 → a ≠ b → (gx_FM a).2.1 ≠ (gx_FM b).2.1 := by decide +kernel
theorem gx_tM : ∀ k, k < 10 → parseFieldDescriptor (gx_FM k).2.2.1 = some (gx_yM k) := by decide +kernel
theorem gx_uT_0 : ((List.range 6).all fun k => decide (tables_1[([143, 145, 147, 149, 151, 153] : List Nat).getD k 0]? = some (u_lay "EachBearsPillar$Text" gx_FT k)) && goodWord (u_lay "EachBearsPillar$Text" gx_FT k)) = true := by decide +kernel
theorem gx_uT : ∀ w ∈ u_ws "EachBearsPillar$Text" gx_FT 6, w ∈ gx_big := gx_uws gx_uT_0
theorem gx_nT : ∀ a, a < 6 → ∀ b, b < 6 → a ≠ b → (gx_FT a).2.1 ≠ (gx_FT b).2.1 := by decide +kernel
theorem gx_tT : ∀ k, k < 6 → parseFieldDescriptor (gx_FT k).2.2.1 = some (gx_yT k) := by decide +kernel
theorem gx_uW_0 : ((List.range 4).all fun k => decide (tables_1[([166, 168, 170, 172] : List Nat).getD k 0]? = some (u_lay "EachBearsPillar$Walk" gx_FW k)) && goodWord (u_lay "EachBearsPillar$Walk" gx_FW k)) = true := by decide +kernel
theorem gx_uW : ∀ w ∈ u_ws "EachBearsPillar$Walk" gx_FW 4, w ∈ gx_big := gx_uws gx_uW_0
theorem gx_nW : ∀ a, a < 4 → ∀ b, b < 4 → a ≠ b → (gx_FW a).2.1 ≠ (gx_FW b).2.1 := by decide +kernel
theorem gx_tW : ∀ k, k < 4 → parseFieldDescriptor (gx_FW k).2.2.1 = some (gx_yW k) := by decide +kernel
theorem gx_uO_0 : ((List.range 3).all fun k => decide (tables_1[([184, 186, 188] : List Nat).getD k 0]? = some (u_lay "EachBearsPillar$Orders" gx_FO k)) && goodWord (u_lay "EachBearsPillar$Orders" gx_FO k)) = true := by decide +kernel
theorem gx_uO : ∀ w ∈ u_ws "EachBearsPillar$Orders" gx_FO 3, w ∈ gx_big := gx_uws gx_uO_0
theorem gx_nO : ∀ a, a < 3 → ∀ b, b < 3 → a ≠ b → (gx_FO a).2.1 ≠ (gx_FO b).2.1 := by decide +kernel
theorem gx_tO : ∀ k, k < 3 → parseFieldDescriptor (gx_FO k).2.2.1 = some (gx_yO k) := by decide +kernel
theorem gx_uD_0 : ((List.range 35).all fun k => decide (tables_1[([681, 683, 685, 687, 689, 691, 693, 695, 697, 699, 701, 703, 705, 707, 709, 711, 713, 715, 717, 719, 721, 723, 725, 727, 729, 731, 733, 735, 737, 739, 741, 743, 745, 747, 749] : List Nat).getD k 0]? = some (u_lay "EachBearsPillarModel" gx_FD k)) && goodWord (u_lay "EachBearsPillarModel" gx_FD k)) = true := by decide +kernel
theorem gx_uD : ∀ w ∈ u_ws "EachBearsPillarModel" gx_FD 35, w ∈ gx_big := gx_uws gx_uD_0
theorem gx_nD : ∀ a, a < 35 → ∀ b, b < 35 → a ≠ b → (gx_FD a).2.1 ≠ (gx_FD b).2.1 := by decide +kernel
theorem gx_tD : ∀ k, k < 35 → parseFieldDescriptor (gx_FD k).2.2.1 = some (gx_yD k) := by decide +kernel
theorem gx_clok : ∀ (ci : Nat) (C : String) (T : u_T) (N : Nat), gx_cl[ci]? = some (C, T, N) → (∀ w ∈ u_ws C T N, w ∈ gx_big) ∧ (∃ ty : Nat → FieldType, ∀ k, k < N → parseFieldDescriptor (T k).2.2.1 = some (ty k)) ∧ (∀ a, a < N → ∀ b, b < N → a ≠ b → (T a).2.1 ≠ (T b).2.1) := by
  intro ci C T N h
  match ci, h with
  | 0, h => cases h; exact ⟨gx_uE, ⟨gx_yE, gx_tE⟩, gx_nE⟩
  | 1, h => cases h; exact ⟨gx_uR, ⟨gx_yR, gx_tR⟩, gx_nR⟩
  | 2, h => cases h; exact ⟨gx_uM, ⟨gx_yM, gx_tM⟩, gx_nM⟩
  | 3, h => cases h; exact ⟨gx_uT, ⟨gx_yT, gx_tT⟩, gx_nT⟩
  | 4, h => cases h; exact ⟨gx_uW, ⟨gx_yW, gx_tW⟩, gx_nW⟩
  | 5, h => cases h; exact ⟨gx_uO, ⟨gx_yO, gx_tO⟩, gx_nO⟩
  | 6, h => cases h; exact ⟨gx_uD, ⟨gx_yD, gx_tD⟩, gx_nD⟩
  | _ + 7, h => simp [gx_cl] at h
