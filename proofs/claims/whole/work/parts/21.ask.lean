/-! ===== levels, who is needed, who slacked, judged, counts ===== -/
theorem rput_rput {r : Rf} {j i v v' : Nat} : rput (rput r j i v) j i v' = rput r j i v' := by
  funext j' i'
  unfold rput
  by_cases c : j' = j
  · by_cases c2 : i' = i <;> simp [c, c2]
  · simp [c]
theorem rput_self {r : Rf} {j i : Nat} : rput r j i (r j i) = r := by
  funext j' i'
  unfold rput
  by_cases c : j' = j
  · by_cases c2 : i' = i <;> simp [c, c2]
  · simp [c]
theorem xF_lev {r : Rf} {l' : Nat} {q : Nat → Nat} {I : Nat → Bool} : xF (rput r 0 2 l') ((rput r 0 2 l') 0 1) ((rput r 0 2 l') 0 2) q r0 I ((rput r 0 2 l') 5) = xF r (r 0 1) l' q r0 I (r 5) := rfl
theorem shl_or0 {b : Int32} : b ||| 0 = b := Int32.or_zero
section
variable {r : Rf} {a l : Nat} {q ra : Nat → Nat} {I : Nat → Bool} {wt : Nat → Nat}
theorem x_levL : ∀ (j f i : Nat) (bits : Int32) (w : gx_Wd), (∃ l, XC w r a l q ra I wt) → i + j = 28 → j < f → ∃ w', x_E_levels_11 f bits (nI i) w = some (bitF (fun l' => xF r a l' q ra I wt) j i bits, w') ∧ ∀ o, o ≠ 22 → o ≠ 26 → o ≠ 27 → o ≠ 28 → w' o = w o := by
  intro j
  induction j with
  | zero =>
    intro f i bits w h hi hf
    obtain ⟨f, rfl⟩ : ∃ g, f = g + 1 := ⟨f - 1, by omega⟩
    refine ⟨w, ?_, fun _ _ _ _ _ => rfl⟩
    simp (disch := first | omega | decide) only [x_E_levels_11, gx_bs, ql_eq, ql_le, ql_ge, ql_lt, ql_gt, qn_eq, qn_le, qn_lt, ql_add, qn_add, ql_mul, ql_mulL, qn_mul, ql_div, ql_sub, qn_sub, gx_put, bitF]
    rw [if_pos (by omega)]
  | succ j ih =>
    intro f i bits w h hi hf
    obtain ⟨f, rfl⟩ : ∃ g, f = g + 1 := ⟨f - 1, by omega⟩
    obtain ⟨l0, h⟩ := h
    obtain ⟨w1, e1, e2, e3⟩ := (h.lev (l' := i) (by omega)).f
    obtain ⟨w', g1, g2⟩ := ih f (i + 1) (if xF r a i q ra I wt = true then bits ||| ((1 : Int32) <<< (nI i &&& 31)) else bits) w1 ⟨_, e3⟩ (by omega) (by omega)
    refine ⟨w', ?_, fun o o1 o2 o3 o4 => by rw [g2 o o1 o2 o3 o4, e2 o o2 o3 o4, px_wo o1]⟩
    simp (disch := first | omega | decide) only [x_E_levels_11, x_E_levels_41, gx_bs, ql_eq, ql_le, ql_ge, ql_lt, ql_gt, qn_eq, qn_le, qn_lt, ql_add, qn_add, ql_mul, ql_mulL, qn_mul, ql_div, ql_sub, qn_sub, gx_put, e1, bI_ite, bitF]
    rw [if_neg (by omega)]
    by_cases c : xF r a i q ra I wt = true
    · rw [if_pos c] at g1
      rw [if_pos c, g1, if_pos c]
    · rw [if_neg c] at g1
      rw [if_neg c, g1, if_neg c]
theorem m_levL (b1 : Int32) : ∀ (j f i : Nat) (bits : Int32) (w : gx_Wd), (∃ l, MC w (rput r 0 2 l) q I) → i + j = 28 → j < f → ∃ w', m_levels_9 f b1 bits (nI i) w = some (bitF (fun l' => xF r (r 0 1) l' q r0 I (r 5)) j i bits, w') ∧ w' 0 2 = b1 ∧ ∀ o k, ¬ (o = 0 ∧ k = 2) → w' o k = w o k := by
  intro j
  induction j with
  | zero =>
    intro f i bits w h hi hf
    obtain ⟨f, rfl⟩ : ∃ g, f = g + 1 := ⟨f - 1, by omega⟩
    refine ⟨gx_w w 0 2 b1, ?_, px_ws, fun o k h => px_wk h⟩
    simp (disch := first | omega | decide) only [m_levels_9, m_levels_43, gx_bs, ql_eq, ql_le, ql_ge, ql_lt, ql_gt, qn_eq, qn_le, qn_lt, ql_add, qn_add, ql_mul, ql_mulL, qn_mul, ql_div, ql_sub, qn_sub, gx_put, bitF]
    rw [if_pos (by omega)]
  | succ j ih =>
    intro f i bits w h hi hf
    obtain ⟨f, rfl⟩ : ∃ g, f = g + 1 := ⟨f - 1, by omega⟩
    obtain ⟨l0, h⟩ := h
    have h2 := h.lev (l' := i) (by omega)
    rw [rput_rput] at h2
    have e1 := h2.f
    rw [xF_lev] at e1
    obtain ⟨w', g1, g2, g3⟩ := ih f (i + 1) (if xF r (r 0 1) i q r0 I (r 5) = true then bits ||| ((1 : Int32) <<< (nI i &&& 31)) else bits) _ ⟨_, h2⟩ (by omega) (by omega)
    refine ⟨w', ?_, g2, fun o k hk => by rw [g3 o k hk, px_wk hk]⟩
    simp (disch := first | omega | decide) only [m_levels_9, m_levels_35, gx_bs, ql_eq, ql_le, ql_ge, ql_lt, ql_gt, qn_eq, qn_le, qn_lt, ql_add, qn_add, ql_mul, ql_mulL, qn_mul, ql_div, ql_sub, qn_sub, gx_put, e1, bI_ite, bitF, shl_or0]
    rw [if_neg (by omega)]
    by_cases c : xF r (r 0 1) i q r0 I (r 5) = true
    · rw [if_pos c] at g1
      rw [if_pos c, g1, if_pos c]
    · rw [if_neg c] at g1
      rw [if_neg c, g1, if_neg c]
theorem x_needL (hq : ∀ p, p < 7 → q p = p) : ∀ (j f i : Nat) (bits : Int32) (w : gx_Wd), (∃ I, XC w r a l q ra I wt) → i + j = r 0 0 → j < f → ∃ w', x_E_needed_23 f bits (nI i) w = some (bitF (fun b => !(xF r a l q ra (fun p => decide (p = b)) wt)) j i bits, w') ∧ ∀ o, o ≠ 22 → o ≠ 26 → o ≠ 27 → o ≠ 28 → w' o = w o := by
  intro j
  induction j with
  | zero =>
    intro f i bits w h hi hf
    obtain ⟨f, rfl⟩ : ∃ g, f = g + 1 := ⟨f - 1, by omega⟩
    obtain ⟨I0, h⟩ := h
    have hn := h.rok
    refine ⟨w, ?_, fun _ _ _ _ _ => rfl⟩
    simp (disch := first | omega | decide) only [x_E_needed_23, h.n, gx_bs, ql_eq, ql_le, ql_ge, ql_lt, ql_gt, qn_eq, qn_le, qn_lt, ql_add, qn_add, ql_mul, ql_mulL, qn_mul, ql_div, ql_sub, qn_sub, gx_put, bitF]
    rw [if_pos (by omega)]
  | succ j ih =>
    intro f i bits w h hi hf
    obtain ⟨f, rfl⟩ : ∃ g, f = g + 1 := ⟨f - 1, by omega⟩
    obtain ⟨I0, h⟩ := h
    have hn := h.rok
    obtain ⟨w1, e1, e2, e3⟩ := (h.idl (b := i) (by omega)).f
    obtain ⟨w', g1, g2⟩ := ih f (i + 1) (if (!(xF r a l q ra (fun p => decide (p = i)) wt)) = true then bits ||| ((1 : Int32) <<< (nI i &&& 31)) else bits) w1 ⟨_, e3⟩ (by omega) (by omega)
    refine ⟨w', ?_, fun o o1 o2 o3 o4 => by rw [g2 o o1 o2 o3 o4, e2 o o2 o3 o4, px_wo o1]⟩
    simp (disch := first | omega | decide) only [x_E_needed_23, x_E_needed_60, h.n, gx_bs, ql_eq, ql_le, ql_ge, ql_lt, ql_gt, qn_eq, qn_le, qn_lt, ql_add, qn_add, ql_mul, ql_mulL, qn_mul, ql_div, ql_sub, qn_sub, gx_put, e1, bI_ite, bitF]
    rw [if_neg (by omega)]
    by_cases c : xF r a l q ra (fun p => decide (p = i)) wt = true
    · rw [if_neg (by simp [c])] at g1
      rw [if_pos c, g1, if_neg (by simp [c])]
    · rw [if_pos (by simp [c])] at g1
      rw [if_neg c, g1, if_pos (by simp [c])]
theorem m_needL : ∀ (j f i : Nat) (bits : Int32) (w : gx_Wd), (∃ I, MC w r iD I) → i + j = r 0 0 → j < f → ∃ w', m_needed_13 f bits (nI i) w = some (bitF (fun b => !(xF r (r 0 1) (r 0 2) iD r0 (fun p => decide (p = b)) (r 5))) j i bits, w') ∧ w' 0 19 = -1 ∧ ∀ o k, ¬ (o = 0 ∧ k = 19) → w' o k = w o k := by
  intro j
  induction j with
  | zero =>
    intro f i bits w h hi hf
    obtain ⟨f, rfl⟩ : ∃ g, f = g + 1 := ⟨f - 1, by omega⟩
    obtain ⟨I0, h⟩ := h
    have hn := h.2.1.1
    refine ⟨gx_w w 0 19 (-1), ?_, px_ws, fun o k h => px_wk h⟩
    simp (disch := first | omega | decide) only [m_needed_13, m_needed_49, h.1.n, gx_bs, ql_eq, ql_le, ql_ge, ql_lt, ql_gt, qn_eq, qn_le, qn_lt, ql_add, qn_add, ql_mul, ql_mulL, qn_mul, ql_div, ql_sub, qn_sub, gx_put, bitF]
    rw [if_pos (by omega)]
  | succ j ih =>
    intro f i bits w h hi hf
    obtain ⟨f, rfl⟩ : ∃ g, f = g + 1 := ⟨f - 1, by omega⟩
    obtain ⟨I0, h⟩ := h
    have hn := h.2.1.1
    have h2 := h.sla (b := i) (by omega)
    have e1 := h2.f
    obtain ⟨w', g1, g2, g3⟩ := ih f (i + 1) (if (!(xF r (r 0 1) (r 0 2) iD r0 (fun p => decide (p = i)) (r 5))) = true then bits ||| ((1 : Int32) <<< (nI i &&& 31)) else bits) _ ⟨_, h2⟩ (by omega) (by omega)
    refine ⟨w', ?_, g2, fun o k hk => by rw [g3 o k hk, px_wk hk]⟩
    simp (disch := first | omega | decide) only [m_needed_13, m_needed_41, h.1.n, gx_bs, ql_eq, ql_le, ql_ge, ql_lt, ql_gt, qn_eq, qn_le, qn_lt, ql_add, qn_add, ql_mul, ql_mulL, qn_mul, ql_div, ql_sub, qn_sub, gx_put, e1, bI_ite, bitF, shl_or0]
    rw [if_neg (by omega)]
    by_cases c : xF r (r 0 1) (r 0 2) iD r0 (fun p => decide (p = i)) (r 5) = true
    · rw [if_neg (by simp [c])] at g1
      rw [if_pos c, g1, if_neg (by simp [c])]
    · rw [if_pos (by simp [c])] at g1
      rw [if_neg c, g1, if_pos (by simp [c])]
end
theorem P_levels {wx wm : gx_Wd} (h : Inv wx wm) : Eq2 (x_E_levels wx) (m_levels wm) := by
  have h0 := h
  obtain ⟨r, ri, k, f, hI⟩ := h
  obtain ⟨w1, e1, e2, hX⟩ := x_told hI.1.1 hI.1.2.2
  obtain ⟨w2, e3, e4⟩ := x_levL (r := r) 28 6000 0 0 w1 ⟨_, hX⟩ (by omega) (by omega)
  have hM : ∃ l, MC wm (rput r 0 2 l) iD nO := ⟨r 0 2, by rw [rput_self]; exact hI.mc⟩
  obtain ⟨w3, g1, g2, g3⟩ := m_levL (r := r) (wm 0 2) 28 6000 0 0 wm hM (by omega) (by omega)
  refine ⟨_, w2, w3, ?_, g1, h0.to (fun o k hk => ?_) (fun o k hk => ?_)⟩
  · simp only [x_E_levels, e1, gx_bs]
    exact e3
  · rw [e4 o (by unfold xKeep at hk; omega) (by unfold xKeep at hk; omega) (by unfold xKeep at hk; omega) (by unfold xKeep at hk; omega), e2 o (by unfold xKeep at hk; omega)]
  · by_cases c : o = 0 ∧ k = 2
    · rw [c.1, c.2, g2]
    · exact g3 o k c
theorem P_needed {wx wm : gx_Wd} (h : Inv wx wm) : Eq2 (x_E_needed wx) (m_needed wm) := by
  have h0 := h
  obtain ⟨r, ri, k, f, hI⟩ := h
  have hn := hI.1.2.2.1
  obtain ⟨w1, e1, e2, hX⟩ := x_told hI.1.1 hI.1.2.2
  obtain ⟨w2, e3, e4, hX2⟩ := hX.f
  have hm := hI.mc.f
  have hk2 : ∀ o k, xKeep o k → w2 o k = wx o k := fun o k hk => by rw [e4 o (by unfold xKeep at hk; omega) (by unfold xKeep at hk; omega) (by unfold xKeep at hk; omega), e2 o (by unfold xKeep at hk; omega)]
  by_cases c : xF r (r 0 1) (r 0 2) iD r0 nO (r 5) = true
  · obtain ⟨w3, d1, d2⟩ := x_needL (q := iD) (r := r) (fun _ _ => rfl) (r 0 0) 6000 0 0 w2 ⟨_, hX2⟩ (by omega) (by omega)
    obtain ⟨w4, g1, g2, g3⟩ := m_needL (r := r) (r 0 0) 6000 0 0 wm ⟨_, hI.mc⟩ (by omega) (by omega)
    refine ⟨bitF (fun b => !(xF r (r 0 1) (r 0 2) iD r0 (fun p => decide (p = b)) (r 5))) (r 0 0) 0 0, w3, w4, ?_, ?_, h0.to (fun o k hk => ?_) (fun o k hk => ?_)⟩
    · simp only [x_E_needed, e1, e3, gx_bs, bI_ite]
      rw [if_pos c]
      exact d1
    · simp only [m_needed, hm, gx_bs, bI_ite]
      rw [if_pos c]
      exact g1
    · rw [d2 o (by unfold xKeep at hk; omega) (by unfold xKeep at hk; omega) (by unfold xKeep at hk; omega) (by unfold xKeep at hk; omega)]
      exact hk2 o k hk
    · by_cases c : o = 0 ∧ k = 19
      · rw [c.1, c.2, g2]; exact hI.2.2.2.2.2.2.symm
      · exact g3 o k c
  · refine ⟨0, w2, wm, ?_, ?_, h0.to hk2 (fun _ _ _ => rfl)⟩
    · simp only [x_E_needed, e1, e3, gx_bs, bI_ite]
      rw [if_neg c]
    · simp only [m_needed, hm, gx_bs, bI_ite]
      rw [if_neg c]
/-- two rows of loads: the first that is not so -/
def dif (t : Nat → Int32) (L : Nat → Nat) (i : Nat) : Bool := !(decide (t i = nI (L i)))
section
variable {r : Rf} {a l : Nat} {q ra : Nat → Nat} {I : Nat → Bool} {wt : Nat → Nat}
theorem x_untL {w : gx_Wd} {n k : Nat} {L : Nat → Nat} (hn : n ≤ 7) (hk : k ≤ 7) (h1 : w 1 0 = nI n) (h9 : w 0 9 = nI k) (hL : ∀ p, p < n → w 28 p = nI (L p)) : ∀ (j f i : Nat), i + j = min k n → j < f → x_E_firstUntrue_9 f (nI i) w = some (match gfind (dif (w 38) L) j i with | some s => nI s | none => -1, w) := by
  intro j
  induction j with
  | zero =>
    intro f i hi hf
    obtain ⟨f, rfl⟩ : ∃ g, f = g + 1 := ⟨f - 1, by omega⟩
    simp (disch := first | omega | decide) only [x_E_firstUntrue_9, h1, h9, gx_bs, ql_eq, ql_le, ql_ge, ql_lt, ql_gt, qn_eq, qn_le, qn_lt, ql_add, qn_add, ql_mul, ql_mulL, qn_mul, ql_div, ql_sub, qn_sub, gx_put, gfind]
    by_cases c : k ≤ i
    · rw [if_pos c]
    · rw [if_neg c, if_pos (by omega)]
  | succ j ih =>
    intro f i hi hf
    obtain ⟨f, rfl⟩ : ∃ g, f = g + 1 := ⟨f - 1, by omega⟩
    simp (disch := first | omega | decide) only [x_E_firstUntrue_9, h1, h9, gx_bs, ql_eq, ql_le, ql_ge, ql_lt, ql_gt, qn_eq, qn_le, qn_lt, ql_add, qn_add, ql_mul, ql_mulL, qn_mul, ql_div, ql_sub, qn_sub, gx_put, gfind, px_cell (N := 7) (o := 38) rfl (show i < 7 by omega) (by decide), px_cell (N := 7) (o := 28) rfl (show i < 7 by omega) (by decide), hL i (by omega), ih f (i + 1) (by omega) (by omega)]
    rw [if_neg (by omega), if_neg (by omega)]
    unfold dif
    by_cases c : w 38 i = nI (L i)
    · simp [c]
    · simp [c]
theorem x_unt {w : gx_Wd} {k : Nat} (h : XC w r a l q ra I wt) (hk : k ≤ 7) (h9 : w 0 9 = nI k) : ∃ w', x_E_firstUntrue w = some (match gfind (dif (w 38) (cL (r 0 0) (xB r a l q ra I) wt)) (min k (r 0 0)) 0 with | some s => nI s | none => -1, w') ∧ (∀ o, o ≠ 26 → o ≠ 27 → o ≠ 28 → w' o = w o) ∧ XC w' r a l q ra I wt := by
  have hn := h.rok
  obtain ⟨w1, w2, g1, g2, g3, g4, g5, g6⟩ := x_sw h
  refine ⟨w2, ?_, g3, h.to (fun o p1 p2 => g3 o (by omega) (by omega) (by omega))⟩
  have e : x_E_firstUntrue_9 6000 0 w2 = _ := x_untL (w := w2) hn hk g4.2.1 (by rw [g3 0 (by decide) (by decide) (by decide)]; exact h9) g5 (min k (r 0 0)) 6000 0 (by omega) (by omega)
  simp only [x_E_firstUntrue, x_M_standAndWeigh, g1, g2, gx_bs, e]
  rw [g3 38 (by decide) (by decide) (by decide)]
theorem m_rowL {w : gx_Wd} (h : MC w r q I) : ∀ (j f i : Nat), i + j = r 0 0 → j < f → m_isRow_2 f (nI i) w = some (bI (gfind (dif (w 8) (cL (r 0 0) (mB r q I) (r 5))) j i).isNone, w) := by
  have hn := h.2.1.1
  intro j
  induction j with
  | zero =>
    intro f i hi hf
    obtain ⟨f, rfl⟩ : ∃ g, f = g + 1 := ⟨f - 1, by omega⟩
    simp (disch := first | omega | decide) only [m_isRow_2, h.1.n, gx_bs, ql_eq, ql_le, ql_ge, ql_lt, ql_gt, qn_eq, qn_le, qn_lt, ql_add, qn_add, ql_mul, ql_mulL, qn_mul, ql_div, ql_sub, qn_sub, gx_put, gfind]
    rw [if_pos (by omega)]
    rfl
  | succ j ih =>
    intro f i hi hf
    obtain ⟨f, rfl⟩ : ∃ g, f = g + 1 := ⟨f - 1, by omega⟩
    simp (disch := first | omega | decide) only [m_isRow_2, h.1.n, gx_bs, ql_eq, ql_le, ql_ge, ql_lt, ql_gt, qn_eq, qn_le, qn_lt, ql_add, qn_add, ql_mul, ql_mulL, qn_mul, ql_div, ql_sub, qn_sub, gx_put, gfind, m_load1 h (show i < r 0 0 by omega), px_ald (sh := sh_m) (N := 7) (o := 8) rfl (show i < 7 by omega) (by decide), ih f (i + 1) (by omega) (by omega)]
    rw [if_neg (by omega)]
    unfold dif
    by_cases c : w 8 i = nI (cL (r 0 0) (mB r q I) (r 5) i)
    · rw [if_pos c.symm]; simp [c]
    · rw [if_neg (fun z => c z.symm)]; simp [c, bI]
theorem m_row1 {w : gx_Wd} (h : MC w r q I) : m_isRow w = some (bI (gfind (dif (w 8) (cL (r 0 0) (mB r q I) (r 5))) (r 0 0) 0).isNone, w) := m_rowL h (r 0 0) 6000 0 (by omega) (by have := h.2.1.1; omega)
/-- whether the loads are just those, did b not bear -/
def sla (t : Nat → Int32) (r : Rf) (b : Nat) : Bool := (gfind (dif t (cL (r 0 0) (xB r (r 0 1) (r 0 2) iD r0 (fun p => decide (p = b))) (r 5))) (r 0 0) 0).isNone
theorem x_slaL {t : Nat → Int32} : ∀ (j f i : Nat) (bits : Int32) (w : gx_Wd), (∃ I, XC w r (r 0 1) (r 0 2) iD r0 I (r 5)) → w 0 9 = nI (r 0 0) → w 38 = t → i + j = r 0 0 → j < f → ∃ w', x_E_slacked_45 f bits (nI i) w = some (bitF (sla t r) j i bits, w') ∧ ∀ o, o ≠ 22 → o ≠ 26 → o ≠ 27 → o ≠ 28 → w' o = w o := by
  intro j
  induction j with
  | zero =>
    intro f i bits w h h9 ht hi hf
    obtain ⟨f, rfl⟩ : ∃ g, f = g + 1 := ⟨f - 1, by omega⟩
    obtain ⟨I0, h⟩ := h
    have hn := h.rok
    refine ⟨w, ?_, fun _ _ _ _ _ => rfl⟩
    simp (disch := first | omega | decide) only [x_E_slacked_45, h.n, gx_bs, ql_eq, ql_le, ql_ge, ql_lt, ql_gt, qn_eq, qn_le, qn_lt, ql_add, qn_add, ql_mul, ql_mulL, qn_mul, ql_div, ql_sub, qn_sub, gx_put, bitF]
    rw [if_pos (by omega)]
  | succ j ih =>
    intro f i bits w h h9 ht hi hf
    obtain ⟨f, rfl⟩ : ∃ g, f = g + 1 := ⟨f - 1, by omega⟩
    obtain ⟨I0, h⟩ := h
    have hn := h.rok
    obtain ⟨w1, e1, e2, e3⟩ := x_unt (h.idl (b := i) (by omega)) hn (by rw [px_wo (by decide)]; exact h9)
    rw [px_wo (show 38 ≠ 22 by decide), ht, Nat.min_self] at e1
    obtain ⟨w', g1, g2⟩ := ih f (i + 1) (if sla t r i = true then bits ||| ((1 : Int32) <<< (nI i &&& 31)) else bits) w1 ⟨_, e3⟩ (by rw [e2 0 (by decide) (by decide) (by decide), px_wo (by decide)]; exact h9) (by rw [e2 38 (by decide) (by decide) (by decide), px_wo (by decide)]; exact ht) (by omega) (by omega)
    refine ⟨w', ?_, fun o o1 o2 o3 o4 => by rw [g2 o o1 o2 o3 o4, e2 o o2 o3 o4, px_wo o1]⟩
    simp (disch := first | omega | decide) only [x_E_slacked_45, x_E_slacked_79, h.n, gx_bs, ql_eq, ql_le, ql_ge, ql_lt, ql_gt, qn_eq, qn_le, qn_lt, ql_add, qn_add, ql_mul, ql_mulL, qn_mul, ql_div, ql_sub, qn_sub, gx_put, e1, bitF]
    rw [if_neg (by omega)]
    unfold sla at g1 ⊢
    cases c : gfind (dif t (cL (r 0 0) (xB r (r 0 1) (r 0 2) iD r0 (fun p => decide (p = i))) (r 5))) (r 0 0) 0 with
    | some s =>
      have := gfind_some _ _ _ c
      rw [c] at g1
      simp only [Option.isNone_some, Bool.false_eq_true, if_false] at g1 ⊢
      rw [if_pos (show (0 : Int32) ≤ nI s from nI_pos' (by omega))]
      exact g1
    | none =>
      rw [c] at g1
      simp only [Option.isNone_none, if_true] at g1 ⊢
      rw [if_neg (by decide)]
      exact g1
theorem m_slaL {t : Nat → Int32} : ∀ (j f i : Nat) (bits : Int32) (w : gx_Wd), (∃ I, MC w r iD I) → (∀ i, i < 7 → w 8 i = t i) → i + j = r 0 0 → j < f → ∃ w', m_slacked_35 f bits (nI i) w = some (bitF (sla t r) j i bits, w') ∧ w' 0 19 = -1 ∧ ∀ o k, ¬ (o = 0 ∧ k = 19) → w' o k = w o k := by
  intro j
  induction j with
  | zero =>
    intro f i bits w h ht hi hf
    obtain ⟨f, rfl⟩ : ∃ g, f = g + 1 := ⟨f - 1, by omega⟩
    obtain ⟨I0, h⟩ := h
    have hn := h.2.1.1
    refine ⟨gx_w w 0 19 (-1), ?_, px_ws, fun o k h => px_wk h⟩
    simp (disch := first | omega | decide) only [m_slacked_35, m_slacked_71, h.1.n, gx_bs, ql_eq, ql_le, ql_ge, ql_lt, ql_gt, qn_eq, qn_le, qn_lt, ql_add, qn_add, ql_mul, ql_mulL, qn_mul, ql_div, ql_sub, qn_sub, gx_put, bitF]
    rw [if_pos (by omega)]
  | succ j ih =>
    intro f i bits w h ht hi hf
    obtain ⟨f, rfl⟩ : ∃ g, f = g + 1 := ⟨f - 1, by omega⟩
    obtain ⟨I0, h⟩ := h
    have hn := h.2.1.1
    have h2 := h.sla (b := i) (by omega)
    have e1 := m_row1 h2
    have e2 : (gfind (dif ((gx_w w 0 19 (nI i)) 8) (cL (r 0 0) (mB r iD (fun p => decide (p = i))) (r 5))) (r 0 0) 0).isNone = sla t r i := by
      unfold sla
      rw [gfind_congr (Q := dif t (cL (r 0 0) (mB r iD (fun p => decide (p = i))) (r 5))) (r 0 0) 0 (fun k k1 k2 => by unfold dif; rw [px_wo (by decide), ht k (by omega)])]
      rfl
    rw [e2] at e1
    obtain ⟨w', g1, g2, g3⟩ := ih f (i + 1) (if sla t r i = true then bits ||| ((1 : Int32) <<< (nI i &&& 31)) else bits) _ ⟨_, h2⟩ (fun k hk => by rw [px_wo (by decide)]; exact ht k hk) (by omega) (by omega)
    refine ⟨w', ?_, g2, fun o k hk => by rw [g3 o k hk, px_wk hk]⟩
    simp (disch := first | omega | decide) only [m_slacked_35, m_slacked_63, h.1.n, gx_bs, ql_eq, ql_le, ql_ge, ql_lt, ql_gt, qn_eq, qn_le, qn_lt, ql_add, qn_add, ql_mul, ql_mulL, qn_mul, ql_div, ql_sub, qn_sub, gx_put, e1, bI_ite, bitF, shl_or0]
    rw [if_neg (by omega)]
    by_cases c : sla t r i = true
    · rw [if_pos c] at g1
      rw [if_pos c, g1, if_pos c]
    · rw [if_neg c] at g1
      rw [if_neg c, g1, if_neg c]
end
theorem P_slacked {wx wm : gx_Wd} (h : Inv wx wm) : Eq2 (x_E_slacked wx) (m_slacked wm) := by
  have h0 := h
  obtain ⟨r, ri, k, f, hI⟩ := h
  have hn := hI.1.2.2.1
  obtain ⟨hk, k1, k2, k3⟩ := hI.2.2.1
  unfold x_E_slacked m_slacked
  rw [k1, k2, hI.1.1.n, hI.1.2.1.n]
  by_cases c : nI k = nI (r 0 0)
  · rw [if_pos c, if_pos c]
    have hkn := (nI_eq (by omega) (by omega)).mp c
    subst hkn
    obtain ⟨w1, e1, e2, hX⟩ := x_told hI.1.1 hI.1.2.2
    obtain ⟨w2, e3, e4, hX2⟩ := x_unt hX hn (by rw [e2 0 (by decide)]; exact k1)
    rw [e2 38 (by decide), Nat.min_self] at e3
    have o2 : ∀ o, o < 22 ∨ 29 ≤ o → w2 o = wx o := fun o ho => by rw [e4 o (by omega) (by omega) (by omega), e2 o (by omega)]
    have er := m_row1 hI.mc
    have ec : (gfind (dif (wm 8) (cL (r 0 0) (mB r iD nO) (r 5))) (r 0 0) 0).isNone = (gfind (dif (wx 38) (cL (r 0 0) (xB r (r 0 1) (r 0 2) iD r0 nO) (r 5))) (r 0 0) 0).isNone := by
      rw [gfind_congr (Q := dif (wx 38) (cL (r 0 0) (mB r iD nO) (r 5))) (r 0 0) 0 (fun k k1 k2 => by unfold dif; rw [k3 k (by omega)])]
      rfl
    rw [ec] at er
    have fin : ∀ b0 : Int32, Eq2 (x_E_slacked_42 b0 w2) (m_slacked_32 b0 wm) := by
      intro b0
      obtain ⟨w3, d1, d2⟩ := x_slaL (r := r) (t := wx 38) (r 0 0) 6000 0 b0 w2 ⟨_, hX2⟩ (by rw [o2 0 (by decide)]; exact k1) (o2 38 (by decide)) (by omega) (by omega)
      obtain ⟨w4, g1, g2, g3⟩ := m_slaL (r := r) (t := wx 38) (r 0 0) 6000 0 b0 wm ⟨_, hI.mc⟩ (fun i hi => (k3 i hi).symm) (by omega) (by omega)
      refine ⟨_, w3, w4, d1, g1, h0.to (fun o k hk => ?_) (fun o k hk => ?_)⟩
      · rw [d2 o (by unfold xKeep at hk; omega) (by unfold xKeep at hk; omega) (by unfold xKeep at hk; omega) (by unfold xKeep at hk; omega), o2 o (by unfold xKeep at hk; omega)]
      · by_cases c : o = 0 ∧ k = 19
        · rw [c.1, c.2, g2]; exact hI.2.2.2.2.2.2.symm
        · exact g3 o k c
    simp only [e1, e3, er, gx_bs, bI_ite]
    cases c2 : gfind (dif (wx 38) (cL (r 0 0) (xB r (r 0 1) (r 0 2) iD r0 nO) (r 5))) (r 0 0) 0 with
    | some s =>
      have := gfind_some _ _ _ c2
      simp only [Option.isNone_some, Bool.false_eq_true, if_false]
      rw [if_pos (show (0 : Int32) ≤ nI s from nI_pos' (by omega))]
      exact fin 0
    | none =>
      simp only [Option.isNone_none, if_true]
      rw [if_neg (by decide)]
      exact fin 128
  · rw [if_neg c, if_neg c]
    exact refE 3 (by decide) h0 rfl rfl
