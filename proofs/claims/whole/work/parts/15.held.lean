/-! ===== the model: loads, falls, what sags ===== -/
section
variable {w : gx_Wd} {r : Rf} {q : Nat → Nat} {I : Nat → Bool}
theorem bI_ite {α : Type} {b : Bool} {x y : α} : (if bI b = 0 then x else y) = if b = true then y else x := by cases b <;> simp [bI]
theorem m_ends (h : MC w r q I) {s : Nat} (hs : s < 7) : m_hasEnds (nI s) w = some (bI (decide (s + 1 < r 0 0)), w) := by
  obtain ⟨hR, hK, hq, hI⟩ := h
  obtain ⟨k1, k2, k3, k4, k5, k6, k7⟩ := hK
  simp (disch := first | omega | decide) only [m_hasEnds, hR.n, gx_bs, ql_eq, ql_le, ql_ge, ql_lt, ql_gt, qn_eq, qn_le, qn_lt, ql_add, qn_add, ql_mul, ql_mulL, qn_mul, ql_div, ql_sub, qn_sub, gx_put]
  by_cases c : s + 1 < r 0 0
  · simp [c, bI, Nat.not_le.mpr c]
  · simp [c, bI, Nat.not_lt.mp c]
theorem m_lby (h : MC w r q I) {p s e : Nat} (hp : p < r 0 0) (hs : s < 7) (he : s + 1 < r 0 0 → e < r 0 0) : m_loadBy (nI p) (nI s) (nI e) w = some (nI (if s + 1 < r 0 0 ∧ mB r q I p = true then (if mB r q I e = true then r 5 s else 2 * r 5 s) else 0), w) := by
  have hb := m_bear h hp
  have hh := m_ends h hs
  have h0 := h
  obtain ⟨hR, hK, hq, hI⟩ := h
  obtain ⟨k1, k2, k3, k4, k5, k6, k7⟩ := hK
  simp only [m_loadBy, hh, gx_bs, bI_ite, decide_eq_true_eq]
  by_cases c : s + 1 < r 0 0
  · have hbe := m_bear h0 (he c)
    have e5 := hR.2.2.1 s (by omega)
    simp only [Nat.zero_add] at e5
    have a5 : gx_ald sh_m w 5 (nI s) = some (nI (r 5 s)) := by rw [px_ald (N := 6) rfl (by omega) (by decide), e5]
    simp (disch := first | omega | decide) only [c, if_true, hb, hbe, bI_ite, a5, gx_bs, ql_eq, ql_le, ql_ge, ql_lt, ql_gt, qn_eq, qn_le, qn_lt, ql_add, qn_add, ql_mul, ql_mulL, qn_mul, ql_div, ql_sub, qn_sub, gx_put]
    by_cases c1 : mB r q I p = true
    · by_cases c2 : mB r q I e = true
      · simp [c1, c2]
      · simp [c1, c2]
    · simp only [if_neg c1]
      rw [if_neg (fun z => c1 z.2)]
      rfl
  · simp only [if_neg c]
    rw [if_neg (fun z => c z.1)]
    rfl
theorem m_load1 (h : MC w r q I) {p : Nat} (hp : p < r 0 0) : m_loadOf (nI p) w = some (nI (cL (r 0 0) (mB r q I) (r 5) p), w) := by
  have hn := h.2.1.1
  have h2 := m_lby h (p := p) (s := p) (e := p + 1) hp (by omega) (fun c => c)
  by_cases c : p = 0
  · subst c
    have h1 : m_loadBy (nI 0) (nI 0 - 1) (nI 0 - 1) w = some (0, w) := by
      simp only [m_loadBy, m_hasEnds]
      rw [if_pos (by decide)]
      simp
    simp (disch := first | omega | decide) only [m_loadOf, h1, h2, gx_bs, ql_eq, ql_le, ql_ge, ql_lt, ql_gt, qn_eq, qn_le, qn_lt, ql_add, qn_add, ql_mul, ql_mulL, qn_mul, ql_div, ql_sub, qn_sub, gx_put]
    unfold cL
    rw [show (0 : Int32) = nI 0 from rfl, nI_add]
    simp
  · obtain ⟨p, rfl⟩ : ∃ j, p = j + 1 := ⟨p - 1, by omega⟩
    have h1 := m_lby h (p := p + 1) (s := p) (e := p) hp (by omega) (fun c => by omega)
    simp (disch := first | omega | decide) only [m_loadOf, nI_pred, h1, h2, gx_bs, ql_eq, ql_le, ql_ge, ql_lt, ql_gt, qn_eq, qn_le, qn_lt, ql_add, qn_add, ql_mul, ql_mulL, qn_mul, ql_div, ql_sub, qn_sub, gx_put]
    unfold cL
    simp [hp]
theorem m_fall (h : MC w r q I) {s : Nat} (hs : s < 6) : m_falls (nI s) w = some (bI (cF (r 0 0) (mB r q I) (r 5) s), w) := by
  have hh := m_ends h (s := s) (by omega)
  have h0 := h
  obtain ⟨hR, hK, hq, hI⟩ := h
  obtain ⟨k1, k2, k3, k4, k5, k6, k7⟩ := hK
  have e5 := hR.2.2.1 s hs
  simp only [Nat.zero_add] at e5
  have b5 := k6 s hs
  have a5 : gx_ald sh_m w 5 (nI s) = some (nI (r 5 s)) := by rw [px_ald (N := 6) rfl hs (by decide), e5]
  unfold cF
  by_cases c : s + 1 < r 0 0
  · have hb := m_bear h0 (p := s) (by omega)
    have hb2 := m_bear h0 c
    simp (disch := first | omega | decide) only [m_falls, hh, a5, hb, hb2, gx_bs, ql_eq, ql_le, ql_ge, ql_lt, ql_gt, qn_eq, qn_le, qn_lt, ql_add, qn_add, ql_mul, ql_mulL, qn_mul, ql_div, ql_sub, qn_sub, gx_put, bI_ite, decide_eq_true_eq, if_pos c]
    by_cases c5 : r 5 s ≤ 0
    · simp [c5, bI]; omega
    · have c6 : 0 < r 5 s := by omega
      by_cases c1 : mB r q I s = true
      · simp [c1, c, bI]
      · by_cases c2 : mB r q I (s + 1) = true
        · simp [c1, c2, c, bI]
        · simp [c1, c2, c, c6, bI]; omega
  · simp [m_falls, hh, bI_ite, c, bI]
theorem m_sagL2 (h : MC w r q I) : ∀ (j f i : Nat), i + j = 6 → j < f → m_sagNow_35 f (nI i) w = some (match gfind (cF (r 0 0) (mB r q I) (r 5)) j i with | some s => nI (10 + s) | none => -9, w) := by
  intro j
  induction j with
  | zero =>
    intro f i hi hf
    obtain ⟨f, rfl⟩ : ∃ g, f = g + 1 := ⟨f - 1, by omega⟩
    simp (disch := first | omega | decide) only [m_sagNow_35, gfind, gx_bs, ql_eq, ql_le, ql_ge, ql_lt, ql_gt, qn_eq, qn_le, qn_lt, ql_add, qn_add, ql_mul, ql_mulL, qn_mul, ql_div, ql_sub, qn_sub, gx_put]
    rw [if_pos (by omega)]
  | succ j ih =>
    intro f i hi hf
    obtain ⟨f, rfl⟩ : ∃ g, f = g + 1 := ⟨f - 1, by omega⟩
    have hl := m_fall h (s := i) (by omega)
    simp (disch := first | omega | decide) only [m_sagNow_35, gfind, gx_bs, ql_eq, ql_le, ql_ge, ql_lt, ql_gt, qn_eq, qn_le, qn_lt, ql_add, qn_add, ql_mul, ql_mulL, qn_mul, ql_div, ql_sub, qn_sub, gx_put, hl, bI_ite, ih f (i + 1) (by omega) (by omega)]
    rw [if_neg (by omega)]
    by_cases c : cF (r 0 0) (mB r q I) (r 5) i = true
    · simp only [if_pos c]
      rw [show (10 : Int32) + nI i = nI (10 + i) from nI_add 10 i]
    · simp only [if_neg c]
theorem rG_le (hR : Rok 198 r) (hq : ∀ p, p < 7 → q p < 7) {p : Nat} (hp : p < r 0 0) : mG r q p ≤ 198 := by
  obtain ⟨k1, k2, k3, k4, k5, k6, k7⟩ := hR
  have := (k5 (q p) (hq p (by omega))).2.1
  unfold mG cG rS
  repeat' split
  all_goals omega
theorem rL_le (hR : Rok 198 r) {p : Nat} (hp : p < r 0 0) : cL (r 0 0) (mB r q I) (r 5) p ≤ 792 := by
  obtain ⟨k1, k2, k3, k4, k5, k6, k7⟩ := hR
  have h1 : 1 ≤ p → r 5 (p - 1) ≤ 198 := fun c => k6 (p - 1) (by omega)
  have h2 : p + 1 < r 0 0 → r 5 p ≤ 198 := fun c => k6 p (by omega)
  unfold cL
  repeat' split
  all_goals omega
theorem m_sagL (h : MC w r q I) : ∀ (j f i : Nat), i + j = r 0 0 → j < f → m_sagNow_2 f (nI i) w = some (match gfind (cO (r 0 0) (mB r q I) (mG r q) (r 5)) j i with | some p => nI p | none => (match gfind (cF (r 0 0) (mB r q I) (r 5)) 6 0 with | some s => nI (10 + s) | none => -9), w) := by
  have hn := h.2.1.1
  intro j
  induction j with
  | zero =>
    intro f i hi hf
    obtain ⟨f, rfl⟩ : ∃ g, f = g + 1 := ⟨f - 1, by omega⟩
    have h2 : m_sagNow_35 6000 0 w = _ := m_sagL2 h 6 6000 0 (by omega) (by omega)
    simp (disch := first | omega | decide) only [m_sagNow_2, m_sagNow_33, gfind, gx_bs, ql_eq, ql_le, ql_ge, ql_lt, ql_gt, qn_eq, qn_le, qn_lt, ql_add, qn_add, ql_mul, ql_mulL, qn_mul, ql_div, ql_sub, qn_sub, gx_put, h.1.n, h2]
    rw [if_pos (by omega)]
  | succ j ih =>
    intro f i hi hf
    obtain ⟨f, rfl⟩ : ∃ g, f = g + 1 := ⟨f - 1, by omega⟩
    have hl := m_load1 h (p := i) (by omega)
    have hm := m_might h (p := i) (by omega)
    have b1 := rG_le h.2.1 (fun p hp => (h.2.2.1 p hp).2) (p := i) (by omega)
    have b2 := rL_le (q := q) (I := I) h.2.1 (p := i) (by omega)
    simp (disch := first | omega | decide) only [m_sagNow_2, gfind, gx_bs, ql_eq, ql_le, ql_ge, ql_lt, ql_gt, qn_eq, qn_le, qn_lt, ql_add, qn_add, ql_mul, ql_mulL, qn_mul, ql_div, ql_sub, qn_sub, gx_put, h.1.n, hl, hm, ih f (i + 1) (by omega) (by omega)]
    rw [if_neg (by omega)]
    unfold cO
    by_cases c : 2 * mG r q i < cL (r 0 0) (mB r q I) (r 5) i
    · simp [c, Nat.not_le.mpr c]
    · simp [c, Nat.not_lt.mp c]
theorem m_sag_ok (h : MC w r q I) : m_sagNow w = some (cSag (r 0 0) (mB r q I) (mG r q) (r 5), w) := m_sagL h (r 0 0) 6000 0 (by omega) (by have := h.2.1.1; omega)
theorem m_held (h : MC w r q I) : m_isHeld w = some (bI (cFirm (r 0 0) (mB r q I) (mG r q) (r 5)), w) := by
  have hn := h.2.1.1
  simp only [m_isHeld, m_sag_ok h, gx_bs, cSag_firm hn]
  by_cases c : cFirm (r 0 0) (mB r q I) (mG r q) (r 5) = true <;> simp [c, bI]
end
