/-! ===== judge, image, on, count ===== -/
theorem Iv.toK {r ri : Rf} {k k' f : Nat} {wx wm wx' wm' : gx_Wd} (h : Iv r ri k f wx wm) (hx : ∀ o k, xKeep o k → ¬ (o = 0 ∧ k = 9) → wx' o k = wx o k) (hm : ∀ o k, mKeep o k → ¬ (o = 0 ∧ k = 4) → wm' o k = wm o k) (h1 : k' ≤ 7) (h2 : wx' 0 9 = nI k') (h3 : wm' 0 4 = nI k') : Iv r ri k' f wx' wm' := by
  obtain ⟨⟨a1, a2, a3⟩, ⟨b1, b2, b3, b4⟩, ⟨c1, c2, c3, c4⟩, d, ⟨e1, e2, e3, e4⟩, g1, g2⟩ := h
  refine ⟨⟨a1.to (fun o k h1 h2 h3 => hx o k (by unfold xKeep; omega) (by omega)), a2.to (fun o k h1 h2 h3 => hm o k (by unfold mKeep; omega) (by omega)), a3⟩, ⟨b1.to (fun o k h1 h2 h3 => hx o k (by unfold xKeep; omega) (by omega)), b2.to2 (fun o k hk => hm o k (by unfold mKeep; omega) (by omega)), b3, ?_⟩, ⟨h1, h2, h3, fun i hi => ?_⟩, fun i hi => ?_, ⟨e1, ?_, ?_, fun i hi => ?_⟩, fun i hi => ?_, ?_⟩
  · rw [hx 0 3 (by unfold xKeep; omega) (by omega), hm 0 25 (by unfold mKeep; omega) (by omega)]; exact b4
  · rw [hx 38 i (by unfold xKeep; omega) (by omega), hm 8 i (by unfold mKeep; omega) (by omega)]; exact c4 i hi
  · rw [hx 39 i (by unfold xKeep; omega) (by omega), hm 9 i (by unfold mKeep; omega) (by omega)]; exact d i hi
  · rw [hx 29 1 (by unfold xKeep; omega) (by omega)]; exact e2
  · rw [hm 0 3 (by unfold mKeep; omega) (by omega)]; exact e3
  · rw [hx 30 i (by unfold xKeep; omega) (by omega), hm 7 i (by unfold mKeep; omega) (by omega)]; exact e4 i hi
  · rw [hm 10 i (by unfold mKeep; omega) (by omega)]; exact g1 i hi
  · rw [hm 0 19 (by unfold mKeep; omega) (by omega)]; exact g2
theorem Iv.toI {r ri ri' : Rf} {k f : Nat} {wx wm wx' wm' : gx_Wd} (h : Iv r ri k f wx wm) (hx : ∀ o k, xKeep o k → ¬ (15 ≤ o ∧ o ≤ 21) → ¬ (o = 0 ∧ k = 3) → wx' o k = wx o k) (hm : ∀ o k, mKeep o k → ¬ (14 ≤ o ∧ o ≤ 19) → ¬ (o = 0 ∧ 25 ≤ k) → wm' o k = wm o k) (h1 : RF wx' 15 ri') (h2 : RI wm' ri') (h3 : Rok 99 ri') (h4 : wx' 0 3 = wm' 0 25) : Iv r ri' k f wx' wm' := by
  obtain ⟨⟨a1, a2, a3⟩, ⟨b1, b2, b3, b4⟩, ⟨c1, c2, c3, c4⟩, d, ⟨e1, e2, e3, e4⟩, g1, g2⟩ := h
  refine ⟨⟨a1.to (fun o k h1 h2 h3 => hx o k (by unfold xKeep; omega) (by omega) (by omega)), a2.to (fun o k h1 h2 h3 => hm o k (by unfold mKeep; omega) (by omega) (by omega)), a3⟩, ⟨h1, h2, h3, h4⟩, ⟨c1, ?_, ?_, fun i hi => ?_⟩, fun i hi => ?_, ⟨e1, ?_, ?_, fun i hi => ?_⟩, fun i hi => ?_, ?_⟩
  · rw [hx 0 9 (by unfold xKeep; omega) (by omega) (by omega)]; exact c2
  · rw [hm 0 4 (by unfold mKeep; omega) (by omega) (by omega)]; exact c3
  · rw [hx 38 i (by unfold xKeep; omega) (by omega) (by omega), hm 8 i (by unfold mKeep; omega) (by omega) (by omega)]; exact c4 i hi
  · rw [hx 39 i (by unfold xKeep; omega) (by omega) (by omega), hm 9 i (by unfold mKeep; omega) (by omega) (by omega)]; exact d i hi
  · rw [hx 29 1 (by unfold xKeep; omega) (by omega) (by omega)]; exact e2
  · rw [hm 0 3 (by unfold mKeep; omega) (by omega) (by omega)]; exact e3
  · rw [hx 30 i (by unfold xKeep; omega) (by omega) (by omega), hm 7 i (by unfold mKeep; omega) (by omega) (by omega)]; exact e4 i hi
  · rw [hm 10 i (by unfold mKeep; omega) (by omega) (by omega)]; exact g1 i hi
  · rw [hm 0 19 (by unfold mKeep; omega) (by omega) (by omega)]; exact g2
theorem Iv.toR {r r' ri : Rf} {k f f' : Nat} {wx wm wx' wm' : gx_Wd} (h : Iv r ri k f wx wm) (hx : ∀ o k, xKeep o k → ¬ (1 ≤ o ∧ o ≤ 7) → o ≠ 29 → wx' o k = wx o k) (hm : ∀ o k, mKeep o k → ¬ (1 ≤ o ∧ o ≤ 6) → ¬ (o = 0 ∧ k ≤ 3) → wm' o k = wm o k) (h1 : RF wx' 1 r') (h2 : RF wm' 0 r') (h3 : Rok 99 r') (hf : f' ≤ 96) (h4 : wx' 29 1 = nI f') (h5 : wm' 0 3 = nI f') : Iv r' ri k f' wx' wm' := by
  obtain ⟨⟨a1, a2, a3⟩, ⟨b1, b2, b3, b4⟩, ⟨c1, c2, c3, c4⟩, d, ⟨e1, e2, e3, e4⟩, g1, g2⟩ := h
  refine ⟨⟨h1, h2, h3⟩, ⟨b1.to (fun o k h1 h2 h3 => hx o k (by unfold xKeep; omega) (by omega) (by omega)), b2.to2 (fun o k hk => hm o k (by unfold mKeep; omega) (by omega) (by omega)), b3, ?_⟩, ⟨c1, ?_, ?_, fun i hi => ?_⟩, fun i hi => ?_, ⟨hf, h4, h5, fun i hi => ?_⟩, fun i hi => ?_, ?_⟩
  · rw [hx 0 3 (by unfold xKeep; omega) (by omega) (by omega), hm 0 25 (by unfold mKeep; omega) (by omega) (by omega)]; exact b4
  · rw [hx 0 9 (by unfold xKeep; omega) (by omega) (by omega)]; exact c2
  · rw [hm 0 4 (by unfold mKeep; omega) (by omega) (by omega)]; exact c3
  · rw [hx 38 i (by unfold xKeep; omega) (by omega) (by omega), hm 8 i (by unfold mKeep; omega) (by omega) (by omega)]; exact c4 i hi
  · rw [hx 39 i (by unfold xKeep; omega) (by omega) (by omega), hm 9 i (by unfold mKeep; omega) (by omega) (by omega)]; exact d i hi
  · rw [hx 30 i (by unfold xKeep; omega) (by omega) (by omega), hm 7 i (by unfold mKeep; omega) (by omega) (by omega)]; exact e4 i hi
  · rw [hm 10 i (by unfold mKeep; omega) (by omega) (by omega)]; exact g1 i hi
  · rw [hm 0 19 (by unfold mKeep; omega) (by omega) (by omega)]; exact g2
theorem m_judL {w : gx_Wd} {r : Rf} {q : Nat → Nat} {I : Nat → Bool} {k : Nat} (h : MC w r q I) (hk : k ≤ 7) (h4 : w 0 4 = nI k) : ∀ (j f i : Nat), i + j = min k (r 0 0) → j < f → m_judged_2 f (nI i) w = some (match gfind (dif (w 8) (cL (r 0 0) (mB r q I) (r 5))) j i with | some s => nI s | none => if k = r 0 0 then -9 else nI (min k (r 0 0)), w) := by
  have hn := h.2.1.1
  intro j
  induction j with
  | zero =>
    intro f i hi hf
    obtain ⟨f, rfl⟩ : ∃ g, f = g + 1 := ⟨f - 1, by omega⟩
    simp (disch := first | omega | decide) only [m_judged_2, m_judged_40, h.1.n, h4, gx_bs, ql_eq, ql_le, ql_ge, ql_lt, ql_gt, qn_eq, qn_le, qn_lt, ql_add, qn_add, ql_mul, ql_mulL, qn_mul, ql_div, ql_sub, qn_sub, gx_put, gfind]
    have e : (if r 0 0 ≤ k then if k ≤ r 0 0 then some ((-9 : Int32), w) else some (nI (r 0 0), w) else some (nI k, w)) = some (if k = r 0 0 then -9 else nI (min k (r 0 0)), w) := by
      by_cases c1 : r 0 0 ≤ k
      · by_cases c2 : k ≤ r 0 0
        · rw [if_pos c1, if_pos c2, if_pos (by omega)]
        · rw [if_pos c1, if_neg c2, if_neg (by omega), Nat.min_eq_right c1]
      · rw [if_neg c1, if_neg (by omega), Nat.min_eq_left (by omega)]
    by_cases c : k ≤ i
    · rw [if_pos c]; exact e
    · rw [if_neg c, if_pos (by omega)]; exact e
  | succ j ih =>
    intro f i hi hf
    obtain ⟨f, rfl⟩ : ∃ g, f = g + 1 := ⟨f - 1, by omega⟩
    simp (disch := first | omega | decide) only [m_judged_2, h.1.n, h4, gx_bs, ql_eq, ql_le, ql_ge, ql_lt, ql_gt, qn_eq, qn_le, qn_lt, ql_add, qn_add, ql_mul, ql_mulL, qn_mul, ql_div, ql_sub, qn_sub, gx_put, gfind, m_load1 h (show i < r 0 0 by omega), px_ald (sh := sh_m) (N := 7) (o := 8) rfl (show i < 7 by omega) (by decide), ih f (i + 1) (by omega) (by omega)]
    rw [if_neg (by omega), if_neg (by omega)]
    unfold dif
    by_cases c : w 8 i = nI (cL (r 0 0) (mB r q I) (r 5) i)
    · rw [if_pos c.symm]; simp [c]
    · rw [if_neg (fun z => c z.symm)]; simp [c]
theorem P_judge {wx wm : gx_Wd} (h : Inv wx wm) : Eq2 (x_E_judge wx) (m_judge wm) := by
  obtain ⟨r, ri, k, f, hI⟩ := h
  have hn := hI.1.2.2.1
  obtain ⟨hk, k1, k2, k3⟩ := hI.2.2.1
  obtain ⟨w1, e1, e2, hX⟩ := x_told hI.1.1 hI.1.2.2
  obtain ⟨w2, e3, e4, hX2⟩ := x_unt hX hk (by rw [e2 0 (by decide)]; exact k1)
  rw [e2 38 (by decide)] at e3
  have o2 : ∀ o, o < 22 ∨ 29 ≤ o → w2 o = wx o := fun o ho => by rw [e4 o (by omega) (by omega) (by omega), e2 o (by omega)]
  have em : m_judged_2 6000 0 wm = _ := m_judL hI.mc hk k2 (min k (r 0 0)) 6000 0 (by omega) (by omega)
  have ec : gfind (dif (wm 8) (cL (r 0 0) (mB r iD nO) (r 5))) (min k (r 0 0)) 0 = gfind (dif (wx 38) (cL (r 0 0) (xB r (r 0 1) (r 0 2) iD r0 nO) (r 5))) (min k (r 0 0)) 0 := by
    rw [gfind_congr (Q := dif (wx 38) (cL (r 0 0) (mB r iD nO) (r 5))) (min k (r 0 0)) 0 (fun i k1 k2 => by unfold dif; rw [k3 i (by omega)])]
    rfl
  rw [ec] at em
  have fin : Inv (gx_w w2 0 9 0) (gx_w wm 0 4 0) := ⟨r, ri, 0, f, hI.toK (fun o k hk hk2 => by rw [px_wk hk2, o2 o (by unfold xKeep at hk; omega)]) (fun o k hk hk2 => px_wk hk2) (by omega) px_ws px_ws⟩
  have g9 : w2 0 9 = nI k := by rw [o2 0 (by decide)]; exact k1
  have g0 : w2 1 0 = nI (r 0 0) := hX2.n
  simp only [x_E_judge, m_judge, m_judged, e1, e3, em, gx_bs, x_E_judge_53, gx_put, g9, g0]
  cases c2 : gfind (dif (wx 38) (cL (r 0 0) (xB r (r 0 1) (r 0 2) iD r0 nO) (r 5))) (min k (r 0 0)) 0 with
  | some s =>
    have := gfind_some _ _ _ c2
    simp only
    rw [if_neg (nI_pos (by omega))]
    exact ⟨_, _, _, rfl, rfl, fin⟩
  | none =>
    simp only
    rw [if_pos (by decide)]
    by_cases c : k = r 0 0
    · rw [if_pos (by rw [c]), if_pos c]
      exact ⟨_, _, _, rfl, rfl, fin⟩
    · rw [if_neg (fun z => c ((nI_eq (by omega) (by omega)).mp z)), if_neg c]
      by_cases c3 : r 0 0 < k
      · rw [if_pos (nI_lt c3 (by omega)), Nat.min_eq_right (by omega)]
        exact ⟨_, _, _, rfl, rfl, fin⟩
      · rw [if_neg (nI_nlt (by omega) (by omega)), Nat.min_eq_left (by omega)]
        exact ⟨_, _, _, rfl, rfl, fin⟩
theorem bec_8_1 {w : gx_Wd} {r : Rf} (h : RF w 1 r) : ∃ w', x_R_become_8_1 w = some w' ∧ RF w' 8 r ∧ ∀ o, (o < 8 ∨ 14 < o) → w' o = w o := by
  obtain ⟨h1, h2, h3, h4⟩ := h
  let w0 := gx_w (gx_w (gx_w w 8 0 (w 1 0)) 8 1 (w 1 1)) 8 2 (w 1 2)
  obtain ⟨w1, a1, b1, c1⟩ := px_copy (p := 2) (q := 9) (N := 7) w0 rfl rfl (by decide) (by decide)
  obtain ⟨w2, a2, b2, c2⟩ := px_copy (p := 3) (q := 10) (N := 7) w1 rfl rfl (by decide) (by decide)
  obtain ⟨w3, a3, b3, c3⟩ := px_copy (p := 4) (q := 11) (N := 7) w2 rfl rfl (by decide) (by decide)
  obtain ⟨w4, a4, b4, c4⟩ := px_copy (p := 5) (q := 12) (N := 7) w3 rfl rfl (by decide) (by decide)
  obtain ⟨w5, a5, b5, c5⟩ := px_copy (p := 6) (q := 13) (N := 6) w4 rfl rfl (by decide) (by decide)
  obtain ⟨w6, a6, b6, c6⟩ := px_copy (p := 7) (q := 14) (N := 16) w5 rfl rfl (by decide) (by decide)
  have ho : ∀ o, (o < 8 ∨ 14 < o) → w6 o = w o := fun o ho => by
    rw [b6 o (by omega), b5 o (by omega), b4 o (by omega), b3 o (by omega), b2 o (by omega), b1 o (by omega)]
    show gx_w (gx_w (gx_w w 8 0 (w 1 0)) 8 1 (w 1 1)) 8 2 (w 1 2) o = w o
    rw [px_wo (by omega), px_wo (by omega), px_wo (by omega)]
  have hd : ∀ k, k < 3 → w6 8 k = w 1 k := fun k hk => by
    rw [b6 8 (by decide), b5 8 (by decide), b4 8 (by decide), b3 8 (by decide), b2 8 (by decide), b1 8 (by decide)]
    show gx_w (gx_w (gx_w w 8 0 (w 1 0)) 8 1 (w 1 1)) 8 2 (w 1 2) 8 k = w 1 k
    match k, hk with
    | 0, _ => rw [px_wk (by decide), px_wk (by decide), px_ws]
    | 1, _ => rw [px_wk (by decide), px_ws]
    | 2, _ => rw [px_ws]
  have e1 : ∀ k, k < 7 → w6 9 k = w 2 k := fun k hk => by
    rw [b6 9 (by decide), b5 9 (by decide), b4 9 (by decide), b3 9 (by decide), b2 9 (by decide), c1 k hk]
    show gx_w (gx_w (gx_w w 8 0 (w 1 0)) 8 1 (w 1 1)) 8 2 (w 1 2) 2 k = w 2 k
    rw [px_wo (by decide), px_wo (by decide), px_wo (by decide)]
  have e2 : ∀ k, k < 7 → w6 10 k = w 3 k := fun k hk => by
    rw [b6 10 (by decide), b5 10 (by decide), b4 10 (by decide), b3 10 (by decide), c2 k hk, b1 3 (by decide)]
    show gx_w (gx_w (gx_w w 8 0 (w 1 0)) 8 1 (w 1 1)) 8 2 (w 1 2) 3 k = w 3 k
    rw [px_wo (by decide), px_wo (by decide), px_wo (by decide)]
  have e3 : ∀ k, k < 7 → w6 11 k = w 4 k := fun k hk => by
    rw [b6 11 (by decide), b5 11 (by decide), b4 11 (by decide), c3 k hk, b2 4 (by decide), b1 4 (by decide)]
    show gx_w (gx_w (gx_w w 8 0 (w 1 0)) 8 1 (w 1 1)) 8 2 (w 1 2) 4 k = w 4 k
    rw [px_wo (by decide), px_wo (by decide), px_wo (by decide)]
  have e4 : ∀ k, k < 7 → w6 12 k = w 5 k := fun k hk => by
    rw [b6 12 (by decide), b5 12 (by decide), c4 k hk, b3 5 (by decide), b2 5 (by decide), b1 5 (by decide)]
    show gx_w (gx_w (gx_w w 8 0 (w 1 0)) 8 1 (w 1 1)) 8 2 (w 1 2) 5 k = w 5 k
    rw [px_wo (by decide), px_wo (by decide), px_wo (by decide)]
  have e5 : ∀ k, k < 6 → w6 13 k = w 6 k := fun k hk => by
    rw [b6 13 (by decide), c5 k hk, b4 6 (by decide), b3 6 (by decide), b2 6 (by decide), b1 6 (by decide)]
    show gx_w (gx_w (gx_w w 8 0 (w 1 0)) 8 1 (w 1 1)) 8 2 (w 1 2) 6 k = w 6 k
    rw [px_wo (by decide), px_wo (by decide), px_wo (by decide)]
  have e6 : ∀ k, k < 16 → w6 14 k = w 7 k := fun k hk => by
    rw [c6 k hk, b5 7 (by decide), b4 7 (by decide), b3 7 (by decide), b2 7 (by decide), b1 7 (by decide)]
    show gx_w (gx_w (gx_w w 8 0 (w 1 0)) 8 1 (w 1 1)) 8 2 (w 1 2) 7 k = w 7 k
    rw [px_wo (by decide), px_wo (by decide), px_wo (by decide)]
  refine ⟨w6, ?_, ⟨fun k hk => by rw [hd k hk]; exact h1 k hk, fun j j1 j2 i hi => ?_, fun i hi => by rw [e5 i hi]; exact h3 i hi, fun i hi => by rw [e6 i hi]; exact h4 i hi⟩, ho⟩
  · simp only [x_R_become_8_1, gx_put, gx_bs]
    rw [px_wo (show 1 ≠ 8 by decide), px_wo (show 1 ≠ 8 by decide), px_wo (show 1 ≠ 8 by decide)]
    simp only [w0] at a1
    simp only [a1, a2, a3, a4, a5, a6, gx_bs]
  · match j, j1, j2 with
    | 1, _, _ => rw [show w6 (8 + 1) i = w6 9 i from rfl, e1 i hi]; exact h2 1 (by decide) (by decide) i hi
    | 2, _, _ => rw [show w6 (8 + 2) i = w6 10 i from rfl, e2 i hi]; exact h2 2 (by decide) (by decide) i hi
    | 3, _, _ => rw [show w6 (8 + 3) i = w6 11 i from rfl, e3 i hi]; exact h2 3 (by decide) (by decide) i hi
    | 4, _, _ => rw [show w6 (8 + 4) i = w6 12 i from rfl, e4 i hi]; exact h2 4 (by decide) (by decide) i hi
theorem bec_1_8 {w : gx_Wd} {r : Rf} (h : RF w 8 r) : ∃ w', x_R_become_1_8 w = some w' ∧ RF w' 1 r ∧ ∀ o, (o < 1 ∨ 7 < o) → w' o = w o := by
  obtain ⟨h1, h2, h3, h4⟩ := h
  let w0 := gx_w (gx_w (gx_w w 1 0 (w 8 0)) 1 1 (w 8 1)) 1 2 (w 8 2)
  obtain ⟨w1, a1, b1, c1⟩ := px_copy (p := 9) (q := 2) (N := 7) w0 rfl rfl (by decide) (by decide)
  obtain ⟨w2, a2, b2, c2⟩ := px_copy (p := 10) (q := 3) (N := 7) w1 rfl rfl (by decide) (by decide)
  obtain ⟨w3, a3, b3, c3⟩ := px_copy (p := 11) (q := 4) (N := 7) w2 rfl rfl (by decide) (by decide)
  obtain ⟨w4, a4, b4, c4⟩ := px_copy (p := 12) (q := 5) (N := 7) w3 rfl rfl (by decide) (by decide)
  obtain ⟨w5, a5, b5, c5⟩ := px_copy (p := 13) (q := 6) (N := 6) w4 rfl rfl (by decide) (by decide)
  obtain ⟨w6, a6, b6, c6⟩ := px_copy (p := 14) (q := 7) (N := 16) w5 rfl rfl (by decide) (by decide)
  have ho : ∀ o, (o < 1 ∨ 7 < o) → w6 o = w o := fun o ho => by
    rw [b6 o (by omega), b5 o (by omega), b4 o (by omega), b3 o (by omega), b2 o (by omega), b1 o (by omega)]
    show gx_w (gx_w (gx_w w 1 0 (w 8 0)) 1 1 (w 8 1)) 1 2 (w 8 2) o = w o
    rw [px_wo (by omega), px_wo (by omega), px_wo (by omega)]
  have hd : ∀ k, k < 3 → w6 1 k = w 8 k := fun k hk => by
    rw [b6 1 (by decide), b5 1 (by decide), b4 1 (by decide), b3 1 (by decide), b2 1 (by decide), b1 1 (by decide)]
    show gx_w (gx_w (gx_w w 1 0 (w 8 0)) 1 1 (w 8 1)) 1 2 (w 8 2) 1 k = w 8 k
    match k, hk with
    | 0, _ => rw [px_wk (by decide), px_wk (by decide), px_ws]
    | 1, _ => rw [px_wk (by decide), px_ws]
    | 2, _ => rw [px_ws]
  have e1 : ∀ k, k < 7 → w6 2 k = w 9 k := fun k hk => by
    rw [b6 2 (by decide), b5 2 (by decide), b4 2 (by decide), b3 2 (by decide), b2 2 (by decide), c1 k hk]
    show gx_w (gx_w (gx_w w 1 0 (w 8 0)) 1 1 (w 8 1)) 1 2 (w 8 2) 9 k = w 9 k
    rw [px_wo (by decide), px_wo (by decide), px_wo (by decide)]
  have e2 : ∀ k, k < 7 → w6 3 k = w 10 k := fun k hk => by
    rw [b6 3 (by decide), b5 3 (by decide), b4 3 (by decide), b3 3 (by decide), c2 k hk, b1 10 (by decide)]
    show gx_w (gx_w (gx_w w 1 0 (w 8 0)) 1 1 (w 8 1)) 1 2 (w 8 2) 10 k = w 10 k
    rw [px_wo (by decide), px_wo (by decide), px_wo (by decide)]
  have e3 : ∀ k, k < 7 → w6 4 k = w 11 k := fun k hk => by
    rw [b6 4 (by decide), b5 4 (by decide), b4 4 (by decide), c3 k hk, b2 11 (by decide), b1 11 (by decide)]
    show gx_w (gx_w (gx_w w 1 0 (w 8 0)) 1 1 (w 8 1)) 1 2 (w 8 2) 11 k = w 11 k
    rw [px_wo (by decide), px_wo (by decide), px_wo (by decide)]
  have e4 : ∀ k, k < 7 → w6 5 k = w 12 k := fun k hk => by
    rw [b6 5 (by decide), b5 5 (by decide), c4 k hk, b3 12 (by decide), b2 12 (by decide), b1 12 (by decide)]
    show gx_w (gx_w (gx_w w 1 0 (w 8 0)) 1 1 (w 8 1)) 1 2 (w 8 2) 12 k = w 12 k
    rw [px_wo (by decide), px_wo (by decide), px_wo (by decide)]
  have e5 : ∀ k, k < 6 → w6 6 k = w 13 k := fun k hk => by
    rw [b6 6 (by decide), c5 k hk, b4 13 (by decide), b3 13 (by decide), b2 13 (by decide), b1 13 (by decide)]
    show gx_w (gx_w (gx_w w 1 0 (w 8 0)) 1 1 (w 8 1)) 1 2 (w 8 2) 13 k = w 13 k
    rw [px_wo (by decide), px_wo (by decide), px_wo (by decide)]
  have e6 : ∀ k, k < 16 → w6 7 k = w 14 k := fun k hk => by
    rw [c6 k hk, b5 14 (by decide), b4 14 (by decide), b3 14 (by decide), b2 14 (by decide), b1 14 (by decide)]
    show gx_w (gx_w (gx_w w 1 0 (w 8 0)) 1 1 (w 8 1)) 1 2 (w 8 2) 14 k = w 14 k
    rw [px_wo (by decide), px_wo (by decide), px_wo (by decide)]
  refine ⟨w6, ?_, ⟨fun k hk => by rw [hd k hk]; exact h1 k hk, fun j j1 j2 i hi => ?_, fun i hi => by rw [e5 i hi]; exact h3 i hi, fun i hi => by rw [e6 i hi]; exact h4 i hi⟩, ho⟩
  · simp only [x_R_become_1_8, gx_put, gx_bs]
    rw [px_wo (show 8 ≠ 1 by decide), px_wo (show 8 ≠ 1 by decide), px_wo (show 8 ≠ 1 by decide)]
    simp only [w0] at a1
    simp only [a1, a2, a3, a4, a5, a6, gx_bs]
  · match j, j1, j2 with
    | 1, _, _ => rw [show w6 (1 + 1) i = w6 2 i from rfl, e1 i hi]; exact h2 1 (by decide) (by decide) i hi
    | 2, _, _ => rw [show w6 (1 + 2) i = w6 3 i from rfl, e2 i hi]; exact h2 2 (by decide) (by decide) i hi
    | 3, _, _ => rw [show w6 (1 + 3) i = w6 4 i from rfl, e3 i hi]; exact h2 3 (by decide) (by decide) i hi
    | 4, _, _ => rw [show w6 (1 + 4) i = w6 5 i from rfl, e4 i hi]; exact h2 4 (by decide) (by decide) i hi
theorem bec_15_1 {w : gx_Wd} {r : Rf} (h : RF w 1 r) : ∃ w', x_R_become_15_1 w = some w' ∧ RF w' 15 r ∧ ∀ o, (o < 15 ∨ 21 < o) → w' o = w o := by
  obtain ⟨h1, h2, h3, h4⟩ := h
  let w0 := gx_w (gx_w (gx_w w 15 0 (w 1 0)) 15 1 (w 1 1)) 15 2 (w 1 2)
  obtain ⟨w1, a1, b1, c1⟩ := px_copy (p := 2) (q := 16) (N := 7) w0 rfl rfl (by decide) (by decide)
  obtain ⟨w2, a2, b2, c2⟩ := px_copy (p := 3) (q := 17) (N := 7) w1 rfl rfl (by decide) (by decide)
  obtain ⟨w3, a3, b3, c3⟩ := px_copy (p := 4) (q := 18) (N := 7) w2 rfl rfl (by decide) (by decide)
  obtain ⟨w4, a4, b4, c4⟩ := px_copy (p := 5) (q := 19) (N := 7) w3 rfl rfl (by decide) (by decide)
  obtain ⟨w5, a5, b5, c5⟩ := px_copy (p := 6) (q := 20) (N := 6) w4 rfl rfl (by decide) (by decide)
  obtain ⟨w6, a6, b6, c6⟩ := px_copy (p := 7) (q := 21) (N := 16) w5 rfl rfl (by decide) (by decide)
  have ho : ∀ o, (o < 15 ∨ 21 < o) → w6 o = w o := fun o ho => by
    rw [b6 o (by omega), b5 o (by omega), b4 o (by omega), b3 o (by omega), b2 o (by omega), b1 o (by omega)]
    show gx_w (gx_w (gx_w w 15 0 (w 1 0)) 15 1 (w 1 1)) 15 2 (w 1 2) o = w o
    rw [px_wo (by omega), px_wo (by omega), px_wo (by omega)]
  have hd : ∀ k, k < 3 → w6 15 k = w 1 k := fun k hk => by
    rw [b6 15 (by decide), b5 15 (by decide), b4 15 (by decide), b3 15 (by decide), b2 15 (by decide), b1 15 (by decide)]
    show gx_w (gx_w (gx_w w 15 0 (w 1 0)) 15 1 (w 1 1)) 15 2 (w 1 2) 15 k = w 1 k
    match k, hk with
    | 0, _ => rw [px_wk (by decide), px_wk (by decide), px_ws]
    | 1, _ => rw [px_wk (by decide), px_ws]
    | 2, _ => rw [px_ws]
  have e1 : ∀ k, k < 7 → w6 16 k = w 2 k := fun k hk => by
    rw [b6 16 (by decide), b5 16 (by decide), b4 16 (by decide), b3 16 (by decide), b2 16 (by decide), c1 k hk]
    show gx_w (gx_w (gx_w w 15 0 (w 1 0)) 15 1 (w 1 1)) 15 2 (w 1 2) 2 k = w 2 k
    rw [px_wo (by decide), px_wo (by decide), px_wo (by decide)]
  have e2 : ∀ k, k < 7 → w6 17 k = w 3 k := fun k hk => by
    rw [b6 17 (by decide), b5 17 (by decide), b4 17 (by decide), b3 17 (by decide), c2 k hk, b1 3 (by decide)]
    show gx_w (gx_w (gx_w w 15 0 (w 1 0)) 15 1 (w 1 1)) 15 2 (w 1 2) 3 k = w 3 k
    rw [px_wo (by decide), px_wo (by decide), px_wo (by decide)]
  have e3 : ∀ k, k < 7 → w6 18 k = w 4 k := fun k hk => by
    rw [b6 18 (by decide), b5 18 (by decide), b4 18 (by decide), c3 k hk, b2 4 (by decide), b1 4 (by decide)]
    show gx_w (gx_w (gx_w w 15 0 (w 1 0)) 15 1 (w 1 1)) 15 2 (w 1 2) 4 k = w 4 k
    rw [px_wo (by decide), px_wo (by decide), px_wo (by decide)]
  have e4 : ∀ k, k < 7 → w6 19 k = w 5 k := fun k hk => by
    rw [b6 19 (by decide), b5 19 (by decide), c4 k hk, b3 5 (by decide), b2 5 (by decide), b1 5 (by decide)]
    show gx_w (gx_w (gx_w w 15 0 (w 1 0)) 15 1 (w 1 1)) 15 2 (w 1 2) 5 k = w 5 k
    rw [px_wo (by decide), px_wo (by decide), px_wo (by decide)]
  have e5 : ∀ k, k < 6 → w6 20 k = w 6 k := fun k hk => by
    rw [b6 20 (by decide), c5 k hk, b4 6 (by decide), b3 6 (by decide), b2 6 (by decide), b1 6 (by decide)]
    show gx_w (gx_w (gx_w w 15 0 (w 1 0)) 15 1 (w 1 1)) 15 2 (w 1 2) 6 k = w 6 k
    rw [px_wo (by decide), px_wo (by decide), px_wo (by decide)]
  have e6 : ∀ k, k < 16 → w6 21 k = w 7 k := fun k hk => by
    rw [c6 k hk, b5 7 (by decide), b4 7 (by decide), b3 7 (by decide), b2 7 (by decide), b1 7 (by decide)]
    show gx_w (gx_w (gx_w w 15 0 (w 1 0)) 15 1 (w 1 1)) 15 2 (w 1 2) 7 k = w 7 k
    rw [px_wo (by decide), px_wo (by decide), px_wo (by decide)]
  refine ⟨w6, ?_, ⟨fun k hk => by rw [hd k hk]; exact h1 k hk, fun j j1 j2 i hi => ?_, fun i hi => by rw [e5 i hi]; exact h3 i hi, fun i hi => by rw [e6 i hi]; exact h4 i hi⟩, ho⟩
  · simp only [x_R_become_15_1, gx_put, gx_bs]
    rw [px_wo (show 1 ≠ 15 by decide), px_wo (show 1 ≠ 15 by decide), px_wo (show 1 ≠ 15 by decide)]
    simp only [w0] at a1
    simp only [a1, a2, a3, a4, a5, a6, gx_bs]
  · match j, j1, j2 with
    | 1, _, _ => rw [show w6 (15 + 1) i = w6 16 i from rfl, e1 i hi]; exact h2 1 (by decide) (by decide) i hi
    | 2, _, _ => rw [show w6 (15 + 2) i = w6 17 i from rfl, e2 i hi]; exact h2 2 (by decide) (by decide) i hi
    | 3, _, _ => rw [show w6 (15 + 3) i = w6 18 i from rfl, e3 i hi]; exact h2 3 (by decide) (by decide) i hi
    | 4, _, _ => rw [show w6 (15 + 4) i = w6 19 i from rfl, e4 i hi]; exact h2 4 (by decide) (by decide) i hi
theorem bec_1_15 {w : gx_Wd} {r : Rf} (h : RF w 15 r) : ∃ w', x_R_become_1_15 w = some w' ∧ RF w' 1 r ∧ ∀ o, (o < 1 ∨ 7 < o) → w' o = w o := by
  obtain ⟨h1, h2, h3, h4⟩ := h
  let w0 := gx_w (gx_w (gx_w w 1 0 (w 15 0)) 1 1 (w 15 1)) 1 2 (w 15 2)
  obtain ⟨w1, a1, b1, c1⟩ := px_copy (p := 16) (q := 2) (N := 7) w0 rfl rfl (by decide) (by decide)
  obtain ⟨w2, a2, b2, c2⟩ := px_copy (p := 17) (q := 3) (N := 7) w1 rfl rfl (by decide) (by decide)
  obtain ⟨w3, a3, b3, c3⟩ := px_copy (p := 18) (q := 4) (N := 7) w2 rfl rfl (by decide) (by decide)
  obtain ⟨w4, a4, b4, c4⟩ := px_copy (p := 19) (q := 5) (N := 7) w3 rfl rfl (by decide) (by decide)
  obtain ⟨w5, a5, b5, c5⟩ := px_copy (p := 20) (q := 6) (N := 6) w4 rfl rfl (by decide) (by decide)
  obtain ⟨w6, a6, b6, c6⟩ := px_copy (p := 21) (q := 7) (N := 16) w5 rfl rfl (by decide) (by decide)
  have ho : ∀ o, (o < 1 ∨ 7 < o) → w6 o = w o := fun o ho => by
    rw [b6 o (by omega), b5 o (by omega), b4 o (by omega), b3 o (by omega), b2 o (by omega), b1 o (by omega)]
    show gx_w (gx_w (gx_w w 1 0 (w 15 0)) 1 1 (w 15 1)) 1 2 (w 15 2) o = w o
    rw [px_wo (by omega), px_wo (by omega), px_wo (by omega)]
  have hd : ∀ k, k < 3 → w6 1 k = w 15 k := fun k hk => by
    rw [b6 1 (by decide), b5 1 (by decide), b4 1 (by decide), b3 1 (by decide), b2 1 (by decide), b1 1 (by decide)]
    show gx_w (gx_w (gx_w w 1 0 (w 15 0)) 1 1 (w 15 1)) 1 2 (w 15 2) 1 k = w 15 k
    match k, hk with
    | 0, _ => rw [px_wk (by decide), px_wk (by decide), px_ws]
    | 1, _ => rw [px_wk (by decide), px_ws]
    | 2, _ => rw [px_ws]
  have e1 : ∀ k, k < 7 → w6 2 k = w 16 k := fun k hk => by
    rw [b6 2 (by decide), b5 2 (by decide), b4 2 (by decide), b3 2 (by decide), b2 2 (by decide), c1 k hk]
    show gx_w (gx_w (gx_w w 1 0 (w 15 0)) 1 1 (w 15 1)) 1 2 (w 15 2) 16 k = w 16 k
    rw [px_wo (by decide), px_wo (by decide), px_wo (by decide)]
  have e2 : ∀ k, k < 7 → w6 3 k = w 17 k := fun k hk => by
    rw [b6 3 (by decide), b5 3 (by decide), b4 3 (by decide), b3 3 (by decide), c2 k hk, b1 17 (by decide)]
    show gx_w (gx_w (gx_w w 1 0 (w 15 0)) 1 1 (w 15 1)) 1 2 (w 15 2) 17 k = w 17 k
    rw [px_wo (by decide), px_wo (by decide), px_wo (by decide)]
  have e3 : ∀ k, k < 7 → w6 4 k = w 18 k := fun k hk => by
    rw [b6 4 (by decide), b5 4 (by decide), b4 4 (by decide), c3 k hk, b2 18 (by decide), b1 18 (by decide)]
    show gx_w (gx_w (gx_w w 1 0 (w 15 0)) 1 1 (w 15 1)) 1 2 (w 15 2) 18 k = w 18 k
    rw [px_wo (by decide), px_wo (by decide), px_wo (by decide)]
  have e4 : ∀ k, k < 7 → w6 5 k = w 19 k := fun k hk => by
    rw [b6 5 (by decide), b5 5 (by decide), c4 k hk, b3 19 (by decide), b2 19 (by decide), b1 19 (by decide)]
    show gx_w (gx_w (gx_w w 1 0 (w 15 0)) 1 1 (w 15 1)) 1 2 (w 15 2) 19 k = w 19 k
    rw [px_wo (by decide), px_wo (by decide), px_wo (by decide)]
  have e5 : ∀ k, k < 6 → w6 6 k = w 20 k := fun k hk => by
    rw [b6 6 (by decide), c5 k hk, b4 20 (by decide), b3 20 (by decide), b2 20 (by decide), b1 20 (by decide)]
    show gx_w (gx_w (gx_w w 1 0 (w 15 0)) 1 1 (w 15 1)) 1 2 (w 15 2) 20 k = w 20 k
    rw [px_wo (by decide), px_wo (by decide), px_wo (by decide)]
  have e6 : ∀ k, k < 16 → w6 7 k = w 21 k := fun k hk => by
    rw [c6 k hk, b5 21 (by decide), b4 21 (by decide), b3 21 (by decide), b2 21 (by decide), b1 21 (by decide)]
    show gx_w (gx_w (gx_w w 1 0 (w 15 0)) 1 1 (w 15 1)) 1 2 (w 15 2) 21 k = w 21 k
    rw [px_wo (by decide), px_wo (by decide), px_wo (by decide)]
  refine ⟨w6, ?_, ⟨fun k hk => by rw [hd k hk]; exact h1 k hk, fun j j1 j2 i hi => ?_, fun i hi => by rw [e5 i hi]; exact h3 i hi, fun i hi => by rw [e6 i hi]; exact h4 i hi⟩, ho⟩
  · simp only [x_R_become_1_15, gx_put, gx_bs]
    rw [px_wo (show 15 ≠ 1 by decide), px_wo (show 15 ≠ 1 by decide), px_wo (show 15 ≠ 1 by decide)]
    simp only [w0] at a1
    simp only [a1, a2, a3, a4, a5, a6, gx_bs]
  · match j, j1, j2 with
    | 1, _, _ => rw [show w6 (1 + 1) i = w6 2 i from rfl, e1 i hi]; exact h2 1 (by decide) (by decide) i hi
    | 2, _, _ => rw [show w6 (1 + 2) i = w6 3 i from rfl, e2 i hi]; exact h2 2 (by decide) (by decide) i hi
    | 3, _, _ => rw [show w6 (1 + 3) i = w6 4 i from rfl, e3 i hi]; exact h2 3 (by decide) (by decide) i hi
    | 4, _, _ => rw [show w6 (1 + 4) i = w6 5 i from rfl, e4 i hi]; exact h2 4 (by decide) (by decide) i hi
theorem m_image_31_c : ∀ (j f i : Nat) (w : gx_Wd), i + j = 7 → j < f → ∃ w', m_image_31 f (nI i) w = m_image_91 w' ∧ (∀ o, o ≠ 14 → o ≠ 15 → o ≠ 16 → o ≠ 17 → w' o = w o) ∧ (∀ k, k < i → w' 14 k = w 14 k ∧ w' 15 k = w 15 k ∧ w' 16 k = w 16 k ∧ w' 17 k = w 17 k) ∧ ∀ k, i ≤ k → k < 7 → w' 14 k = w 1 k ∧ w' 15 k = w 2 k ∧ w' 16 k = w 3 k ∧ w' 17 k = w 4 k := by
  intro j
  induction j with
  | zero =>
    intro f i w hi hf
    obtain ⟨f, rfl⟩ : ∃ g, f = g + 1 := ⟨f - 1, by omega⟩
    refine ⟨w, ?_, fun _ _ _ _ _ => rfl, fun _ _ => ⟨rfl, rfl, rfl, rfl⟩, fun k h1 h2 => by omega⟩
    rw [m_image_31, if_pos (show (7 : Int32) ≤ nI i from nI_le (a := 7) (by omega) (by omega))]
  | succ j ih =>
    intro f i w hi hf
    obtain ⟨f, rfl⟩ : ∃ g, f = g + 1 := ⟨f - 1, by omega⟩
    obtain ⟨w', g1, g2, g3, g4⟩ := ih f (i + 1) (gx_w (gx_w (gx_w (gx_w w 14 i (w 1 i)) 15 i ((gx_w w 14 i (w 1 i)) 2 i)) 16 i ((gx_w (gx_w w 14 i (w 1 i)) 15 i ((gx_w w 14 i (w 1 i)) 2 i)) 3 i)) 17 i ((gx_w (gx_w (gx_w w 14 i (w 1 i)) 15 i ((gx_w w 14 i (w 1 i)) 2 i)) 16 i ((gx_w (gx_w w 14 i (w 1 i)) 15 i ((gx_w w 14 i (w 1 i)) 2 i)) 3 i)) 4 i)) (by omega) (by omega)
    refine ⟨w', ?_, fun o n0 n1 n2 n3 => ?_, fun k hk => ?_, fun k h1 h2 => ?_⟩
    · rw [m_image_31, if_neg (show ¬ (7 : Int32) ≤ nI i from nI_ge (b := 7) (by omega) (by omega))]
      simp only [px_ald (sh := sh_m) (N := 7) (o := 1) rfl (show i < 7 by omega) (by decide), px_ast (sh := sh_m) (N := 7) (o := 14) rfl (show i < 7 by omega) (by decide), px_ald (sh := sh_m) (N := 7) (o := 2) rfl (show i < 7 by omega) (by decide), px_ast (sh := sh_m) (N := 7) (o := 15) rfl (show i < 7 by omega) (by decide), px_ald (sh := sh_m) (N := 7) (o := 3) rfl (show i < 7 by omega) (by decide), px_ast (sh := sh_m) (N := 7) (o := 16) rfl (show i < 7 by omega) (by decide), px_ald (sh := sh_m) (N := 7) (o := 4) rfl (show i < 7 by omega) (by decide), px_ast (sh := sh_m) (N := 7) (o := 17) rfl (show i < 7 by omega) (by decide), gx_bs]
      rw [show nI i + 1 = nI (i + 1) from nI_1 i]
      exact g1
    · rw [g2 o n0 n1 n2 n3, px_wo n3, px_wo n2, px_wo n1, px_wo n0]
    · have h3 := g3 k (by omega)
      simp only [px_w] at h3
      simpa [show ¬ k = i by omega] using h3
    · by_cases c : k = i
      · subst c
        have h3 := g3 k (by omega)
        simp only [px_w] at h3
        simpa using h3
      · have h3 := g4 k (by omega) h2
        simp only [px_w] at h3
        simpa [c] using h3
theorem m_image_93_c : ∀ (j f i : Nat) (w : gx_Wd), i + j = 6 → j < f → ∃ w', m_image_93 f (nI i) w = m_image_117 w' ∧ (∀ o, o ≠ 18 → w' o = w o) ∧ (∀ k, k < i → w' 18 k = w 18 k) ∧ ∀ k, i ≤ k → k < 6 → w' 18 k = w 5 k := by
  intro j
  induction j with
  | zero =>
    intro f i w hi hf
    obtain ⟨f, rfl⟩ : ∃ g, f = g + 1 := ⟨f - 1, by omega⟩
    refine ⟨w, ?_, fun _ _ => rfl, fun _ _ => rfl, fun k h1 h2 => by omega⟩
    rw [m_image_93, if_pos (show (6 : Int32) ≤ nI i from nI_le (a := 6) (by omega) (by omega))]
  | succ j ih =>
    intro f i w hi hf
    obtain ⟨f, rfl⟩ : ∃ g, f = g + 1 := ⟨f - 1, by omega⟩
    obtain ⟨w', g1, g2, g3, g4⟩ := ih f (i + 1) (gx_w w 18 i (w 5 i)) (by omega) (by omega)
    refine ⟨w', ?_, fun o n0 => ?_, fun k hk => ?_, fun k h1 h2 => ?_⟩
    · rw [m_image_93, if_neg (show ¬ (6 : Int32) ≤ nI i from nI_ge (b := 6) (by omega) (by omega))]
      simp only [px_ald (sh := sh_m) (N := 6) (o := 5) rfl (show i < 6 by omega) (by decide), px_ast (sh := sh_m) (N := 6) (o := 18) rfl (show i < 6 by omega) (by decide), gx_bs]
      rw [show nI i + 1 = nI (i + 1) from nI_1 i]
      exact g1
    · rw [g2 o n0, px_wo n0]
    · have h3 := g3 k (by omega)
      simp only [px_w] at h3
      simpa [show ¬ k = i by omega] using h3
    · by_cases c : k = i
      · subst c
        have h3 := g3 k (by omega)
        simp only [px_w] at h3
        simpa using h3
      · have h3 := g4 k (by omega) h2
        simp only [px_w] at h3
        simpa [c] using h3
theorem m_on_40_c : ∀ (j f i : Nat) (w : gx_Wd), i + j = 7 → j < f → ∃ w', m_on_40 f (nI i) w = m_on_100 w' ∧ (∀ o, o ≠ 1 → o ≠ 2 → o ≠ 3 → o ≠ 4 → w' o = w o) ∧ (∀ k, k < i → w' 1 k = w 1 k ∧ w' 2 k = w 2 k ∧ w' 3 k = w 3 k ∧ w' 4 k = w 4 k) ∧ ∀ k, i ≤ k → k < 7 → w' 1 k = w 14 k ∧ w' 2 k = w 15 k ∧ w' 3 k = w 16 k ∧ w' 4 k = w 17 k := by
  intro j
  induction j with
  | zero =>
    intro f i w hi hf
    obtain ⟨f, rfl⟩ : ∃ g, f = g + 1 := ⟨f - 1, by omega⟩
    refine ⟨w, ?_, fun _ _ _ _ _ => rfl, fun _ _ => ⟨rfl, rfl, rfl, rfl⟩, fun k h1 h2 => by omega⟩
    rw [m_on_40, if_pos (show (7 : Int32) ≤ nI i from nI_le (a := 7) (by omega) (by omega))]
  | succ j ih =>
    intro f i w hi hf
    obtain ⟨f, rfl⟩ : ∃ g, f = g + 1 := ⟨f - 1, by omega⟩
    obtain ⟨w', g1, g2, g3, g4⟩ := ih f (i + 1) (gx_w (gx_w (gx_w (gx_w w 1 i (w 14 i)) 2 i ((gx_w w 1 i (w 14 i)) 15 i)) 3 i ((gx_w (gx_w w 1 i (w 14 i)) 2 i ((gx_w w 1 i (w 14 i)) 15 i)) 16 i)) 4 i ((gx_w (gx_w (gx_w w 1 i (w 14 i)) 2 i ((gx_w w 1 i (w 14 i)) 15 i)) 3 i ((gx_w (gx_w w 1 i (w 14 i)) 2 i ((gx_w w 1 i (w 14 i)) 15 i)) 16 i)) 17 i)) (by omega) (by omega)
    refine ⟨w', ?_, fun o n0 n1 n2 n3 => ?_, fun k hk => ?_, fun k h1 h2 => ?_⟩
    · rw [m_on_40, if_neg (show ¬ (7 : Int32) ≤ nI i from nI_ge (b := 7) (by omega) (by omega))]
      simp only [px_ald (sh := sh_m) (N := 7) (o := 14) rfl (show i < 7 by omega) (by decide), px_ast (sh := sh_m) (N := 7) (o := 1) rfl (show i < 7 by omega) (by decide), px_ald (sh := sh_m) (N := 7) (o := 15) rfl (show i < 7 by omega) (by decide), px_ast (sh := sh_m) (N := 7) (o := 2) rfl (show i < 7 by omega) (by decide), px_ald (sh := sh_m) (N := 7) (o := 16) rfl (show i < 7 by omega) (by decide), px_ast (sh := sh_m) (N := 7) (o := 3) rfl (show i < 7 by omega) (by decide), px_ald (sh := sh_m) (N := 7) (o := 17) rfl (show i < 7 by omega) (by decide), px_ast (sh := sh_m) (N := 7) (o := 4) rfl (show i < 7 by omega) (by decide), gx_bs]
      rw [show nI i + 1 = nI (i + 1) from nI_1 i]
      exact g1
    · rw [g2 o n0 n1 n2 n3, px_wo n3, px_wo n2, px_wo n1, px_wo n0]
    · have h3 := g3 k (by omega)
      simp only [px_w] at h3
      simpa [show ¬ k = i by omega] using h3
    · by_cases c : k = i
      · subst c
        have h3 := g3 k (by omega)
        simp only [px_w] at h3
        simpa using h3
      · have h3 := g4 k (by omega) h2
        simp only [px_w] at h3
        simpa [c] using h3
theorem m_on_102_c : ∀ (j f i : Nat) (w : gx_Wd), i + j = 6 → j < f → ∃ w', m_on_102 f (nI i) w = m_on_126 w' ∧ (∀ o, o ≠ 5 → w' o = w o) ∧ (∀ k, k < i → w' 5 k = w 5 k) ∧ ∀ k, i ≤ k → k < 6 → w' 5 k = w 18 k := by
  intro j
  induction j with
  | zero =>
    intro f i w hi hf
    obtain ⟨f, rfl⟩ : ∃ g, f = g + 1 := ⟨f - 1, by omega⟩
    refine ⟨w, ?_, fun _ _ => rfl, fun _ _ => rfl, fun k h1 h2 => by omega⟩
    rw [m_on_102, if_pos (show (6 : Int32) ≤ nI i from nI_le (a := 6) (by omega) (by omega))]
  | succ j ih =>
    intro f i w hi hf
    obtain ⟨f, rfl⟩ : ∃ g, f = g + 1 := ⟨f - 1, by omega⟩
    obtain ⟨w', g1, g2, g3, g4⟩ := ih f (i + 1) (gx_w w 5 i (w 18 i)) (by omega) (by omega)
    refine ⟨w', ?_, fun o n0 => ?_, fun k hk => ?_, fun k h1 h2 => ?_⟩
    · rw [m_on_102, if_neg (show ¬ (6 : Int32) ≤ nI i from nI_ge (b := 6) (by omega) (by omega))]
      simp only [px_ald (sh := sh_m) (N := 6) (o := 18) rfl (show i < 6 by omega) (by decide), px_ast (sh := sh_m) (N := 6) (o := 5) rfl (show i < 6 by omega) (by decide), gx_bs]
      rw [show nI i + 1 = nI (i + 1) from nI_1 i]
      exact g1
    · rw [g2 o n0, px_wo n0]
    · have h3 := g3 k (by omega)
      simp only [px_w] at h3
      simpa [show ¬ k = i by omega] using h3
    · by_cases c : k = i
      · subst c
        have h3 := g3 k (by omega)
        simp only [px_w] at h3
        simpa using h3
      · have h3 := g4 k (by omega) h2
        simp only [px_w] at h3
        simpa [c] using h3
theorem m_image_119_c : ∀ (j f i : Nat) (w : gx_Wd), i + j = 16 → j < f → ∃ w', m_image_119 f (nI i) w = some (w 0 0, w') ∧ (∀ o, o ≠ 19 → w' o = w o) ∧ (∀ k, k < i → w' 19 k = w 19 k) ∧ ∀ k, i ≤ k → k < 16 → w' 19 k = w 6 k := by
  intro j
  induction j with
  | zero =>
    intro f i w hi hf
    obtain ⟨f, rfl⟩ : ∃ g, f = g + 1 := ⟨f - 1, by omega⟩
    refine ⟨w, ?_, fun _ _ => rfl, fun _ _ => rfl, fun k h1 h2 => by omega⟩
    rw [m_image_119, if_pos (show (16 : Int32) ≤ nI i from nI_le (a := 16) (by omega) (by omega))]
  | succ j ih =>
    intro f i w hi hf
    obtain ⟨f, rfl⟩ : ∃ g, f = g + 1 := ⟨f - 1, by omega⟩
    obtain ⟨w', g1, g2, g3, g4⟩ := ih f (i + 1) (gx_w w 19 i (w 6 i)) (by omega) (by omega)
    refine ⟨w', ?_, fun o n0 => ?_, fun k hk => ?_, fun k h1 h2 => ?_⟩
    · rw [m_image_119, if_neg (show ¬ (16 : Int32) ≤ nI i from nI_ge (b := 16) (by omega) (by omega))]
      simp only [px_ald (sh := sh_m) (N := 16) (o := 6) rfl (show i < 16 by omega) (by decide), px_ast (sh := sh_m) (N := 16) (o := 19) rfl (show i < 16 by omega) (by decide), gx_bs]
      rw [show nI i + 1 = nI (i + 1) from nI_1 i]
      rw [g1, px_wo (by decide)]
    · rw [g2 o n0, px_wo n0]
    · have h3 := g3 k (by omega)
      simp only [px_w] at h3
      simpa [show ¬ k = i by omega] using h3
    · by_cases c : k = i
      · subst c
        have h3 := g3 k (by omega)
        simp only [px_w] at h3
        simpa using h3
      · have h3 := g4 k (by omega) h2
        simp only [px_w] at h3
        simpa [c] using h3
theorem m_on_128_c : ∀ (j f i : Nat) (w : gx_Wd), i + j = 16 → j < f → ∃ w', m_on_128 f (nI i) w = some (w 0 0, w') ∧ (∀ o, o ≠ 6 → w' o = w o) ∧ (∀ k, k < i → w' 6 k = w 6 k) ∧ ∀ k, i ≤ k → k < 16 → w' 6 k = w 19 k := by
  intro j
  induction j with
  | zero =>
    intro f i w hi hf
    obtain ⟨f, rfl⟩ : ∃ g, f = g + 1 := ⟨f - 1, by omega⟩
    refine ⟨w, ?_, fun _ _ => rfl, fun _ _ => rfl, fun k h1 h2 => by omega⟩
    rw [m_on_128, if_pos (show (16 : Int32) ≤ nI i from nI_le (a := 16) (by omega) (by omega))]
  | succ j ih =>
    intro f i w hi hf
    obtain ⟨f, rfl⟩ : ∃ g, f = g + 1 := ⟨f - 1, by omega⟩
    obtain ⟨w', g1, g2, g3, g4⟩ := ih f (i + 1) (gx_w w 6 i (w 19 i)) (by omega) (by omega)
    refine ⟨w', ?_, fun o n0 => ?_, fun k hk => ?_, fun k h1 h2 => ?_⟩
    · rw [m_on_128, if_neg (show ¬ (16 : Int32) ≤ nI i from nI_ge (b := 16) (by omega) (by omega))]
      simp only [px_ald (sh := sh_m) (N := 16) (o := 19) rfl (show i < 16 by omega) (by decide), px_ast (sh := sh_m) (N := 16) (o := 6) rfl (show i < 16 by omega) (by decide), gx_bs]
      rw [show nI i + 1 = nI (i + 1) from nI_1 i]
      rw [g1, px_wo (by decide)]
    · rw [g2 o n0, px_wo n0]
    · have h3 := g3 k (by omega)
      simp only [px_w] at h3
      simpa [show ¬ k = i by omega] using h3
    · by_cases c : k = i
      · subst c
        have h3 := g3 k (by omega)
        simp only [px_w] at h3
        simpa using h3
      · have h3 := g4 k (by omega) h2
        simp only [px_w] at h3
        simpa [c] using h3
theorem P_image {wx wm : gx_Wd} (h : Inv wx wm) : Eq2 (x_E_image wx) (m_image wm) := by
  obtain ⟨r, ri, k, f, hI⟩ := h
  obtain ⟨w1, a1, a2, a3⟩ := bec_15_1 hI.1.1
  have hn : w1 1 0 = nI (r 0 0) := by rw [a3 1 (by decide)]; exact hI.1.1.n
  obtain ⟨v1, b1, b2, -, b3⟩ := m_image_31_c 7 6000 0 (gx_w (gx_w (gx_w (gx_w wm 0 25 1) 0 26 (wm 0 0)) 0 27 (wm 0 1)) 0 28 (wm 0 2)) (by omega) (by omega)
  obtain ⟨v2, c1, c2, -, c3⟩ := m_image_93_c 6 6000 0 v1 (by omega) (by omega)
  obtain ⟨v3, d1, d2, -, d3⟩ := m_image_119_c 16 6000 0 v2 (by omega) (by omega)
  have o1 : ∀ o, o ≠ 0 → ¬ (14 ≤ o ∧ o ≤ 19) → v3 o = wm o := fun o h0 h1 => by
    rw [d2 o (by omega), c2 o (by omega), b2 o (by omega) (by omega) (by omega) (by omega), px_wo h0, px_wo h0, px_wo h0, px_wo h0]
  have o0 : ∀ k, v3 0 k = if k = 28 then wm 0 2 else if k = 27 then wm 0 1 else if k = 26 then wm 0 0 else if k = 25 then 1 else wm 0 k := fun k => by
    rw [d2 0 (by decide), c2 0 (by decide), b2 0 (by decide) (by decide) (by decide) (by decide)]
    simp only [px_w, if_true]
  have em : m_image wm = some (nI (r 0 0), v3) := by
    simp only [m_image, gx_put, gx_bs]
    rw [px_wk (show ¬ (0 = 0 ∧ 0 = 25) by decide), px_wk (show ¬ (0 = 0 ∧ 1 = 26) by decide), px_wk (show ¬ (0 = 0 ∧ 1 = 25) by decide), px_wk (show ¬ (0 = 0 ∧ 2 = 27) by decide), px_wk (show ¬ (0 = 0 ∧ 2 = 26) by decide), px_wk (show ¬ (0 = 0 ∧ 2 = 25) by decide)]
    refine (show m_image_31 6000 0 _ = _ from b1).trans ?_
    unfold m_image_91
    refine (show m_image_93 6000 0 _ = _ from c1).trans ?_
    unfold m_image_117
    refine (show m_image_119 6000 0 _ = _ from d1).trans ?_
    rw [c2 0 (by decide), b2 0 (by decide) (by decide) (by decide) (by decide), px_wk (by decide), px_wk (by decide), px_wk (by decide), px_wk (by decide), hI.1.2.1.n]
  refine ⟨nI (r 0 0), gx_w w1 0 3 1, v3, ?_, em, r, r, k, f, hI.toI (fun o k hk h1 h2 => by rw [px_wk h2, a3 o (by omega)]) (fun o k hk h1 h2 => ?_) (a2.to (fun o k p1 p2 p3 => px_wk (by omega))) ⟨fun k hk => ?_, fun j j1 j2 i hi => ?_, fun i hi => ?_, fun i hi => ?_⟩ hI.1.2.2 ?_⟩
  · simp only [x_E_image, a1, gx_put, gx_bs]
    rw [px_wo (show 1 ≠ 0 by decide), hn]
  · by_cases c : o = 0
    · subst c
      rw [o0 k, if_neg (by omega), if_neg (by omega), if_neg (by omega), if_neg (by omega)]
    · rw [o1 o c h1]
  · rw [o0]
    match k, hk with
    | 0, _ => exact hI.1.2.1.n
    | 1, _ => exact hI.1.2.1.a
    | 2, _ => exact hI.1.2.1.l
  · obtain ⟨q1, q2, q3, q4⟩ := b3 i (by omega) hi
    have hr := hI.1.2.1.2.1 j j1 j2 i hi
    rw [d2 (13 + j) (by omega), c2 (13 + j) (by omega)]
    match j, j1, j2 with
    | 1, _, _ => rw [show v1 (13 + 1) i = v1 14 i from rfl, q1, px_wo (by decide), px_wo (by decide), px_wo (by decide), px_wo (by decide)]; exact hr
    | 2, _, _ => rw [show v1 (13 + 2) i = v1 15 i from rfl, q2, px_wo (by decide), px_wo (by decide), px_wo (by decide), px_wo (by decide)]; exact hr
    | 3, _, _ => rw [show v1 (13 + 3) i = v1 16 i from rfl, q3, px_wo (by decide), px_wo (by decide), px_wo (by decide), px_wo (by decide)]; exact hr
    | 4, _, _ => rw [show v1 (13 + 4) i = v1 17 i from rfl, q4, px_wo (by decide), px_wo (by decide), px_wo (by decide), px_wo (by decide)]; exact hr
  · rw [d2 18 (by decide), c3 i (by omega) hi, b2 5 (by decide) (by decide) (by decide) (by decide), px_wo (by decide), px_wo (by decide), px_wo (by decide), px_wo (by decide)]
    exact hI.1.2.1.2.2.1 i hi
  · rw [d3 i (by omega) hi, c2 6 (by decide), b2 6 (by decide) (by decide) (by decide) (by decide), px_wo (by decide), px_wo (by decide), px_wo (by decide), px_wo (by decide)]
    exact hI.1.2.1.2.2.2 i hi
  · rw [px_ws, o0]; rfl
theorem P_on {wx wm : gx_Wd} (h : Inv wx wm) : Eq2 (x_E_on wx) (m_on wm) := by
  have h0 := h
  obtain ⟨r, ri, k, f, hI⟩ := h
  obtain ⟨i1, i2, i3, i4⟩ := hI.2.1
  unfold x_E_on m_on
  rw [← i4]
  by_cases c : wx 0 3 = 0
  · rw [if_pos c, if_pos c]
    exact refE 3 (by decide) h0 rfl rfl
  · rw [if_neg c, if_neg c]
    obtain ⟨w1, a1, a2, a3⟩ := bec_1_15 i1
    obtain ⟨v1, b1, b2, -, b3⟩ := m_on_40_c 7 6000 0 (gx_w (gx_w (gx_w wm 0 0 (wm 0 26)) 0 1 (wm 0 27)) 0 2 (wm 0 28)) (by omega) (by omega)
    obtain ⟨v2, c1, c2, -, c3⟩ := m_on_102_c 6 6000 0 v1 (by omega) (by omega)
    obtain ⟨v3, d1, d2, -, d3⟩ := m_on_128_c 16 6000 0 v2 (by omega) (by omega)
    have o1 : ∀ o, o ≠ 0 → ¬ (1 ≤ o ∧ o ≤ 6) → v3 o = wm o := fun o h0 h1 => by
      rw [d2 o (by omega), c2 o (by omega), b2 o (by omega) (by omega) (by omega) (by omega), px_wo h0, px_wo h0, px_wo h0]
    have o0 : ∀ k, v3 0 k = if k = 2 then wm 0 28 else if k = 1 then wm 0 27 else if k = 0 then wm 0 26 else wm 0 k := fun k => by
      rw [d2 0 (by decide), c2 0 (by decide), b2 0 (by decide) (by decide) (by decide) (by decide)]
      simp only [px_w, if_true]
    have em : m_on_40 6000 0 (gx_w (gx_w (gx_w wm 0 0 (wm 0 26)) 0 1 (wm 0 27)) 0 2 (wm 0 28)) = some (nI (ri 0 0), v3) := by
      refine (show m_on_40 6000 0 _ = _ from b1).trans ?_
      unfold m_on_100
      refine (show m_on_102 6000 0 _ = _ from c1).trans ?_
      unfold m_on_126
      refine (show m_on_128 6000 0 _ = _ from d1).trans ?_
      rw [c2 0 (by decide), b2 0 (by decide) (by decide) (by decide) (by decide), px_wk (by decide), px_wk (by decide), px_ws]
      have := i2.1 0 (by decide)
      rw [show wm 0 26 = nI (ri 0 0) from this]
    refine ⟨nI (ri 0 0), w1, v3, ?_, ?_, ri, ri, k, f, hI.toR (fun o k hk h1 h2 => by rw [a3 o (by omega)]) (fun o k hk h1 h2 => ?_) a2 ⟨fun k hk => ?_, fun j j1 j2 i hi => ?_, fun i hi => ?_, fun i hi => ?_⟩ i3 hI.2.2.2.2.1.1 ?_ ?_⟩
    · simp only [a1, gx_bs]
      rw [a2.n]
    · simp only [gx_put, gx_bs]
      rw [px_wk (show ¬ (0 = 0 ∧ 27 = 0) by decide), px_wk (show ¬ (0 = 0 ∧ 28 = 1) by decide), px_wk (show ¬ (0 = 0 ∧ 28 = 0) by decide)]
      exact em
    · by_cases c : o = 0
      · subst c
        rw [o0 k, if_neg (by omega), if_neg (by omega), if_neg (by omega)]
      · rw [o1 o c h1]
    · rw [o0]
      match k, hk with
      | 0, _ => exact i2.1 0 (by decide)
      | 1, _ => exact i2.1 1 (by decide)
      | 2, _ => exact i2.1 2 (by decide)
    · obtain ⟨q1, q2, q3, q4⟩ := b3 i (by omega) hi
      have hr := i2.2.1 j j1 j2 i hi
      rw [d2 (0 + j) (by omega), c2 (0 + j) (by omega)]
      match j, j1, j2 with
      | 1, _, _ => rw [show v1 (0 + 1) i = v1 1 i from rfl, q1, px_wo (by decide), px_wo (by decide), px_wo (by decide)]; exact hr
      | 2, _, _ => rw [show v1 (0 + 2) i = v1 2 i from rfl, q2, px_wo (by decide), px_wo (by decide), px_wo (by decide)]; exact hr
      | 3, _, _ => rw [show v1 (0 + 3) i = v1 3 i from rfl, q3, px_wo (by decide), px_wo (by decide), px_wo (by decide)]; exact hr
      | 4, _, _ => rw [show v1 (0 + 4) i = v1 4 i from rfl, q4, px_wo (by decide), px_wo (by decide), px_wo (by decide)]; exact hr
    · rw [show v3 (0 + 5) i = v3 5 i from rfl, d2 5 (by decide), c3 i (by omega) hi, b2 18 (by decide) (by decide) (by decide) (by decide), px_wo (by decide), px_wo (by decide), px_wo (by decide)]
      exact i2.2.2.1 i hi
    · rw [show v3 (0 + 6) i = v3 6 i from rfl, d3 i (by omega) hi, c2 19 (by decide), b2 19 (by decide) (by decide) (by decide) (by decide), px_wo (by decide), px_wo (by decide), px_wo (by decide)]
      exact i2.2.2.2 i hi
    · rw [a3 29 (by decide)]; exact hI.2.2.2.2.1.2.1
    · rw [o0]; exact hI.2.2.2.2.1.2.2.1
