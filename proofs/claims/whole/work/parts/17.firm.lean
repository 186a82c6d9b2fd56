/-! ===== the class's mind: loads, what falls, firmness ===== -/
/-- who bears, and what the spans weigh, stands in the rows -/
def XW (w : gx_Wd) (n : Nat) (B : Nat → Bool) (wt : Nat → Nat) : Prop := n ≤ 7 ∧ w 1 0 = nI n ∧ (∀ p, p < n → w 26 p = bI (B p)) ∧ ∀ s, s < 6 → w 25 s = nI (wt s) ∧ wt s ≤ 198
theorem XW.to {w w' : gx_Wd} {n : Nat} {B : Nat → Bool} {wt : Nat → Nat} (h : XW w n B wt) (h1 : w' 1 = w 1) (h2 : w' 25 = w 25) (h3 : w' 26 = w 26) : XW w' n B wt := by
  unfold XW at h ⊢
  rw [h1, h2, h3]
  exact h
section
variable {w : gx_Wd} {n : Nat} {B : Nat → Bool} {wt : Nat → Nat}
theorem bI_ite1 {α : Type} {b : Bool} {x y : α} : (if bI b = 1 then x else y) = if b = true then x else y := by cases b <;> simp [bI]
theorem x_hasb (h : w 1 0 = nI n) (hn : n ≤ 7) {e : Nat} (he : e < 2 ^ 31) : x_R_hasBearer_1 (nI e) w = some (bI (decide (e < n)), w) := by
  simp (disch := first | omega | decide) only [x_R_hasBearer_1, h, gx_bs, ql_eq, ql_le, ql_ge, ql_lt, ql_gt, qn_eq, qn_le, qn_lt, ql_add, qn_add, ql_mul, ql_mulL, qn_mul, ql_div, ql_sub, qn_sub, gx_put]
  rw [if_neg (by omega)]
  by_cases c : e < n
  · simp [c, bI, Nat.not_le.mpr c]
  · simp [c, bI, Nat.not_lt.mp c]
theorem x_shareR (h : XW w n B wt) {p : Nat} (hp : p < n) : x_M_shareOf (nI p) (nI (p + 1)) w = some (nI (if p + 1 < n ∧ B p = true then (if B (p + 1) = true then wt p else 2 * wt p) else 0), w) := by
  obtain ⟨hn, h1, h2, h3⟩ := h
  have hb := x_hasb h1 hn (e := p + 1) (by omega)
  have a1 : x_E_cell 26 (nI p) w = some (bI (B p), w) := by rw [px_cell (N := 7) rfl (by omega) (by decide), h2 p hp]
  simp (disch := first | omega | decide) only [x_M_shareOf, hb, a1, gx_bs, ql_eq, ql_le, ql_ge, ql_lt, ql_gt, qn_eq, qn_le, qn_lt, ql_add, qn_add, ql_mul, ql_mulL, qn_mul, ql_div, ql_sub, qn_sub, gx_put, bI_ite, bI_ite1, decide_eq_true_eq]
  by_cases c : p + 1 < n
  · have a2 : x_E_cell 26 (nI (p + 1)) w = some (bI (B (p + 1)), w) := by rw [px_cell (N := 7) rfl (by omega) (by decide), h2 (p + 1) c]
    have a3 : x_E_cell 25 (nI p) w = some (nI (wt p), w) := by rw [px_cell (N := 6) rfl (by omega) (by decide), (h3 p (by omega)).1]
    rw [if_neg (show ¬ p + 1 < p by omega)]
    simp (disch := first | omega | decide) only [c, a2, a3, gx_bs, ql_eq, ql_le, ql_ge, ql_lt, ql_gt, qn_eq, qn_le, qn_lt, ql_add, qn_add, ql_mul, ql_mulL, qn_mul, ql_div, ql_sub, qn_sub, gx_put, bI_ite1]
    by_cases c1 : B p = true
    · by_cases c2 : B (p + 1) = true <;> simp [c1, c2]
    · simp [c1]; rfl
  · rw [if_neg c, if_neg (fun z => c z.1)]
    rfl
theorem x_shareL (h : XW w n B wt) {p : Nat} (hp : p + 1 < n) : x_M_shareOf (nI (p + 1)) (nI p) w = some (nI (if B (p + 1) = true then (if B p = true then wt p else 2 * wt p) else 0), w) := by
  obtain ⟨hn, h1, h2, h3⟩ := h
  have hb := x_hasb h1 hn (e := p) (by omega)
  have a1 : x_E_cell 26 (nI p) w = some (bI (B p), w) := by rw [px_cell (N := 7) rfl (by omega) (by decide), h2 p (by omega)]
  have a2 : x_E_cell 26 (nI (p + 1)) w = some (bI (B (p + 1)), w) := by rw [px_cell (N := 7) rfl (by omega) (by decide), h2 (p + 1) hp]
  have a3 : x_E_cell 25 (nI p) w = some (nI (wt p), w) := by rw [px_cell (N := 6) rfl (by omega) (by decide), (h3 p (by omega)).1]
  simp (disch := first | omega | decide) only [x_M_shareOf, hb, a1, a2, gx_bs, ql_eq, ql_le, ql_ge, ql_lt, ql_gt, qn_eq, qn_le, qn_lt, ql_add, qn_add, ql_mul, ql_mulL, qn_mul, ql_div, ql_sub, qn_sub, gx_put, bI_ite, bI_ite1, decide_eq_true_eq]
  rw [if_pos (show p < n by omega), if_pos (show p < p + 1 by omega)]
  simp (disch := first | omega | decide) only [a1, a3, gx_bs, ql_eq, ql_le, ql_ge, ql_lt, ql_gt, qn_eq, qn_le, qn_lt, ql_add, qn_add, ql_mul, ql_mulL, qn_mul, ql_div, ql_sub, qn_sub, gx_put, bI_ite1]
  by_cases c1 : B (p + 1) = true
  · by_cases c2 : B p = true <;> simp [c1, c2]
  · simp [c1]; rfl
theorem x_load1 (h : XW w n B wt) {p : Nat} (hp : p < n) : ∃ L R : Int32, x_M_shareOf (nI p) (nI p - 1) w = some (L, w) ∧ x_M_shareOf (nI p) (nI p + 1) w = some (R, w) ∧ L + R = nI (cL n B wt p) := by
  have hR := x_shareR h hp
  by_cases c : p = 0
  · subst c
    refine ⟨0, _, ?_, (congrArg (fun z => x_M_shareOf (nI 0) z w) (nI_1 0)).trans hR, ?_⟩
    · unfold x_M_shareOf x_R_hasBearer_1
      rw [if_pos (show nI 0 - 1 < 0 by decide)]
      simp
    · rw [show (0 : Int32) = nI 0 from rfl, nI_add]
      unfold cL
      simp
  · obtain ⟨p, rfl⟩ : ∃ j, p = j + 1 := ⟨p - 1, by omega⟩
    refine ⟨_, _, (congrArg (fun z => x_M_shareOf (nI (p + 1)) z w) (nI_pred p)).trans (x_shareL h hp), (congrArg (fun z => x_M_shareOf (nI (p + 1)) z w) (nI_1 (p + 1))).trans hR, ?_⟩
    · rw [nI_add]
      unfold cL
      simp
theorem x_weighL : ∀ (j f i : Nat) (w : gx_Wd), XW w n B wt → i + j = n → j < f → ∃ w', x_M_weigh_2 f (nI i) w = some w' ∧ (∀ o, o ≠ 28 → w' o = w o) ∧ (∀ k, k < i → w' 28 k = w 28 k) ∧ ∀ k, i ≤ k → k < n → w' 28 k = nI (cL n B wt k) := by
  intro j
  induction j with
  | zero =>
    intro f i w h hi hf
    obtain ⟨f, rfl⟩ : ∃ g, f = g + 1 := ⟨f - 1, by omega⟩
    have hn := h.1
    refine ⟨w, ?_, fun _ _ => rfl, fun _ _ => rfl, fun k h1 h2 => by omega⟩
    simp (disch := first | omega | decide) only [x_M_weigh_2, h.2.1, gx_bs, ql_eq, ql_le, ql_ge, ql_lt, ql_gt, qn_eq, qn_le, qn_lt, ql_add, qn_add, ql_mul, ql_mulL, qn_mul, ql_div, ql_sub, qn_sub, gx_put]
    rw [if_pos (by omega)]
  | succ j ih =>
    intro f i w h hi hf
    obtain ⟨f, rfl⟩ : ∃ g, f = g + 1 := ⟨f - 1, by omega⟩
    have hn := h.1
    obtain ⟨L, R, hL, hR, hs⟩ := x_load1 h (p := i) (by omega)
    have hX : XW (gx_w w 28 i (nI (cL n B wt i))) n B wt := h.to (px_wo (by decide)) (px_wo (by decide)) (px_wo (by decide))
    obtain ⟨w', g1, g2, g3, g4⟩ := ih f (i + 1) _ hX (by omega) (by omega)
    refine ⟨w', ?_, fun o h1 => by rw [g2 o h1, px_wo h1], fun k hk => by rw [g3 k (by omega), px_wn (by omega)], fun k h1 h2 => ?_⟩
    · simp only [x_M_weigh_2, hL, hR, gx_bs, hs, px_set (N := 7) (o := 28) rfl (show i < 7 by omega) (by decide), h.2.1]
      rw [if_neg (nI_ge (by omega) (by omega)), show nI i + 1 = nI (i + 1) from nI_1 i]
      exact g1
    · by_cases hk : k = i
      · subst hk
        rw [g3 k (by omega), px_ws]
      · exact g4 k (by omega) h2
theorem x_weigh (h : XW w n B wt) : ∃ w', x_M_weigh w = some w' ∧ (∀ o, o ≠ 28 → w' o = w o) ∧ ∀ k, k < n → w' 28 k = nI (cL n B wt k) := by
  obtain ⟨w', h1, h2, -, h4⟩ := x_weighL n 6000 0 w h (by omega) (by have := h.1; omega)
  exact ⟨w', h1, h2, fun k hk => h4 k (Nat.zero_le k) hk⟩
theorem cL_le (hw : ∀ s, s < 6 → wt s ≤ 198) (hn : n ≤ 7) {p : Nat} (hp : p < n) : cL n B wt p ≤ 792 := by
  have h1 : 1 ≤ p → wt (p - 1) ≤ 198 := fun c => hw (p - 1) (by omega)
  have h2 : p + 1 < n → wt p ≤ 198 := fun c => hw p (by omega)
  unfold cL
  repeat' split
  all_goals omega
theorem x_overL {G : Nat → Nat} (h : XW w n B wt) (hL : ∀ p, p < n → w 28 p = nI (cL n B wt p)) (hG : ∀ p, p < n → w 27 p = nI (G p) ∧ G p ≤ 198) : ∀ (j f i : Nat), i + j = n → j < f → x_M_firstOverloaded_2 f (nI i) w = some (match gfind (cO n B G wt) j i with | some p => nI p | none => -1, w) := by
  have hn := h.1
  intro j
  induction j with
  | zero =>
    intro f i hi hf
    obtain ⟨f, rfl⟩ : ∃ g, f = g + 1 := ⟨f - 1, by omega⟩
    simp (disch := first | omega | decide) only [x_M_firstOverloaded_2, h.2.1, gfind, gx_bs, ql_eq, ql_le, ql_ge, ql_lt, ql_gt, qn_eq, qn_le, qn_lt, ql_add, qn_add, ql_mul, ql_mulL, qn_mul, ql_div, ql_sub, qn_sub, gx_put]
    rw [if_pos (by omega)]
  | succ j ih =>
    intro f i hi hf
    obtain ⟨f, rfl⟩ : ∃ g, f = g + 1 := ⟨f - 1, by omega⟩
    have a1 : x_E_cell 28 (nI i) w = some (nI (cL n B wt i), w) := by rw [px_cell (N := 7) rfl (by omega) (by decide), hL i (by omega)]
    have a2 : x_E_cell 27 (nI i) w = some (nI (G i), w) := by rw [px_cell (N := 7) rfl (by omega) (by decide), (hG i (by omega)).1]
    have b1 := (hG i (by omega)).2
    have b2 := cL_le (B := B) (fun s hs => (h.2.2.2 s hs).2) hn (p := i) (by omega)
    simp (disch := first | omega | decide) only [x_M_firstOverloaded_2, h.2.1, gfind, gx_bs, ql_eq, ql_le, ql_ge, ql_lt, ql_gt, qn_eq, qn_le, qn_lt, ql_add, qn_add, ql_mul, ql_mulL, qn_mul, ql_div, ql_sub, qn_sub, gx_put, a1, a2, ih f (i + 1) (by omega) (by omega)]
    rw [if_neg (by omega)]
    unfold cO
    by_cases c : 2 * G i < cL n B wt i
    · simp [c, Nat.not_le.mpr c]
    · simp [c, Nat.not_lt.mp c]
theorem x_fallL (h : XW w n B wt) : ∀ (j f i : Nat), i + j = 6 → j < f → x_M_firstFalling_2 f (nI i) w = some (match gfind (cF n B wt) j i with | some p => nI p | none => -1, w) := by
  have hn := h.1
  intro j
  induction j with
  | zero =>
    intro f i hi hf
    obtain ⟨f, rfl⟩ : ∃ g, f = g + 1 := ⟨f - 1, by omega⟩
    simp (disch := first | omega | decide) only [x_M_firstFalling_2, h.2.1, gfind, gx_bs, ql_eq, ql_le, ql_ge, ql_lt, ql_gt, qn_eq, qn_le, qn_lt, ql_add, qn_add, ql_mul, ql_mulL, qn_mul, ql_div, ql_sub, qn_sub, gx_put]
    rw [if_pos (by omega)]
  | succ j ih =>
    intro f i hi hf
    obtain ⟨f, rfl⟩ : ∃ g, f = g + 1 := ⟨f - 1, by omega⟩
    have h3 := h.2.2.2 i (by omega)
    have a1 : x_E_cell 25 (nI i) w = some (nI (wt i), w) := by rw [px_cell (N := 6) rfl (by omega) (by decide), h3.1]
    by_cases c : i + 1 < n
    · have a2 : x_E_cell 26 (nI i) w = some (bI (B i), w) := by rw [px_cell (N := 7) rfl (by omega) (by decide), h.2.2.1 i (by omega)]
      have a3 : x_E_cell 26 (nI (i + 1)) w = some (bI (B (i + 1)), w) := by rw [px_cell (N := 7) rfl (by omega) (by decide), h.2.2.1 (i + 1) (by omega)]
      simp (disch := first | omega | decide) only [x_M_firstFalling_2, x_M_firstFalling_52, h.2.1, gfind, gx_bs, ql_eq, ql_le, ql_ge, ql_lt, ql_gt, qn_eq, qn_le, qn_lt, ql_add, qn_add, ql_mul, ql_mulL, qn_mul, ql_div, ql_sub, qn_sub, gx_put, a1, a2, a3, bI_ite, ih f (i + 1) (by omega) (by omega)]
      rw [if_neg (by omega)]
      unfold cF
      by_cases c5 : wt i ≤ 0
      · have c6 : ¬ 0 < wt i := by omega
        simp [c5, c6]
      · have c6 : 0 < wt i := by omega
        by_cases c1 : B i = true
        · simp [c1, c5]
        · by_cases c2 : B (i + 1) = true
          · simp [c1, c2, c5]
          · simp [c1, c2, c5, c6, c]
    · have e : gfind (cF n B wt) (j + 1) i = none := by
        rw [gfind_none]
        intro k h1 h2
        unfold cF
        rw [decide_eq_false (by omega)]
        simp
      rw [e]
      simp (disch := first | omega | decide) only [x_M_firstFalling_2, h.2.1, gx_bs, ql_eq, ql_le, ql_ge, ql_lt, ql_gt, qn_eq, qn_le, qn_lt, ql_add, qn_add, ql_mul, ql_mulL, qn_mul, ql_div, ql_sub, qn_sub, gx_put]
      rw [if_pos (by omega)]
theorem x_borne {G : Nat → Nat} (h : XW w n B wt) (hL : ∀ p, p < n → w 28 p = nI (cL n B wt p)) (hG : ∀ p, p < n → w 27 p = nI (G p) ∧ G p ≤ 198) : x_M_isBorne w = some (bI (cFirm n B G wt), w) := by
  have hn := h.1
  have e1 : x_M_firstOverloaded_2 6000 0 w = _ := x_overL h hL hG n 6000 0 (by omega) (by omega)
  have e2 : x_M_firstFalling_2 6000 0 w = _ := x_fallL h 6 6000 0 (by omega) (by omega)
  simp only [x_M_isBorne, x_M_firstOverloaded, x_M_firstFalling, e1, e2, gx_bs]
  unfold cFirm
  cases c1 : gfind (cO n B G wt) n 0 with
  | some p =>
    have := gfind_some _ _ _ c1
    simp only [Option.isNone_some, Bool.false_and]
    rw [if_pos (show (0 : Int32) ≤ nI p from nI_pos' (by omega))]
    rfl
  | none =>
    rw [if_neg (show ¬ (0 : Int32) ≤ -1 by decide)]
    cases c2 : gfind (cF n B wt) 6 0 with
    | some s =>
      have := gfind_some _ _ _ c2
      simp only [Option.isNone_some, Bool.and_false]
      rw [if_pos (show (0 : Int32) ≤ nI s from nI_pos' (by omega))]
      rfl
    | none =>
      rw [if_neg (show ¬ (0 : Int32) ≤ -1 by decide)]
      rfl
end
section
variable {w : gx_Wd} {r : Rf} {a l : Nat} {q ra : Nat → Nat} {I : Nat → Bool} {wt : Nat → Nat}
theorem xG_le (h : XC w r a l q ra I wt) {p : Nat} (hp : p < r 0 0) : xG r a l q ra p ≤ 198 := by
  have hn := h.rok
  have hq := (h.2.2.2.2.2.2.2.1 p (by omega)).2
  have := (h.2.1.2.2.2.2.1 (q p) hq).2.1
  unfold xG cG rS
  repeat' split
  all_goals omega
/-- stand and weigh: who bears, the might, the loads -/
theorem x_sw (h : XC w r a l q ra I wt) : ∃ w1 w', x_M_stand w = some w1 ∧ x_M_weigh w1 = some w' ∧ (∀ o, o ≠ 26 → o ≠ 27 → o ≠ 28 → w' o = w o) ∧ XW w' (r 0 0) (xB r a l q ra I) wt ∧ (∀ p, p < r 0 0 → w' 28 p = nI (cL (r 0 0) (xB r a l q ra I) wt p)) ∧ ∀ p, p < r 0 0 → w' 27 p = nI (xG r a l q ra p) ∧ xG r a l q ra p ≤ 198 := by
  have hn := h.rok
  obtain ⟨w1, h1, h2, h3⟩ := x_stand h
  have hX1 : XC w1 r a l q ra I wt := h.to (fun o p1 p2 => h2 o (by omega) (by omega))
  have hW1 : XW w1 (r 0 0) (xB r a l q ra I) wt := ⟨hn, hX1.n, fun p hp => (h3 p hp).1, hX1.2.2.2.2.2.2.2.2.2⟩
  obtain ⟨w', g1, g2, g3⟩ := x_weigh hW1
  refine ⟨w1, w', h1, g1, fun o p1 p2 p3 => by rw [g2 o p3, h2 o p1 p2], hW1.to (g2 _ (by decide)) (g2 _ (by decide)) (g2 _ (by decide)), g3, fun p hp => ⟨?_, xG_le h hp⟩⟩
  rw [g2 27 (by decide)]
  exact (h3 p hp).2
theorem x_firm (h : XC w r a l q ra I wt) : ∃ w', x_M_isFirm w = some (bI (cFirm (r 0 0) (xB r a l q ra I) (xG r a l q ra) wt), w') ∧ ∀ o, o ≠ 26 → o ≠ 27 → o ≠ 28 → w' o = w o := by
  obtain ⟨w1, w', h1, h2, h3, h4, h5, h6⟩ := x_sw h
  refine ⟨w', ?_, h3⟩
  simp only [x_M_isFirm, h1, h2, x_borne h4 h5 h6, gx_bs]
  rw [if_pos (bI_01 _)]
theorem XC.firm (h : XC w r a l q ra I wt) : ∃ w', x_M_isFirm w = some (bI (cFirm (r 0 0) (xB r a l q ra I) (xG r a l q ra) wt), w') ∧ (∀ o, o ≠ 26 → o ≠ 27 → o ≠ 28 → w' o = w o) ∧ XC w' r a l q ra I wt := by
  obtain ⟨w', h1, h2⟩ := x_firm h
  exact ⟨w', h1, h2, h.to (fun o p1 p2 => h2 o (by omega) (by omega) (by omega))⟩
end
