/-! ===== what binds the two sides; refusals; what is told ===== -/
def xKeep (o k : Nat) : Prop := (o = 0 ∧ (k = 3 ∨ k = 9)) ∨ (1 ≤ o ∧ o ≤ 7) ∨ (15 ≤ o ∧ o ≤ 21) ∨ (o = 29 ∧ k = 1) ∨ o = 30 ∨ o = 38 ∨ o = 39
def mKeep (o k : Nat) : Prop := (o = 0 ∧ (k ≤ 4 ∨ k = 19 ∨ 25 ≤ k)) ∨ (1 ≤ o ∧ o ≤ 10) ∨ (14 ≤ o ∧ o ≤ 19)
def RI (w : gx_Wd) (r : Rf) : Prop := (∀ k, k < 3 → w 0 (26 + k) = nI (r 0 k)) ∧ (∀ j, 1 ≤ j → j ≤ 4 → ∀ i, i < 7 → w (13 + j) i = nI (r j i)) ∧ (∀ i, i < 6 → w 18 i = nI (r 5 i)) ∧ ∀ i, i < 16 → w 19 i = nI (r 6 i)
def Iv (r ri : Rf) (k f : Nat) (wx wm : gx_Wd) : Prop := (RF wx 1 r ∧ RF wm 0 r ∧ Rok 99 r) ∧ (RF wx 15 ri ∧ RI wm ri ∧ Rok 99 ri ∧ wx 0 3 = wm 0 25) ∧ (k ≤ 7 ∧ wx 0 9 = nI k ∧ wm 0 4 = nI k ∧ (∀ i, i < 7 → wx 38 i = wm 8 i)) ∧ (∀ i, i < 7 → wx 39 i = wm 9 i) ∧ (f ≤ 96 ∧ wx 29 1 = nI f ∧ wm 0 3 = nI f ∧ ∀ i, i < 96 → wx 30 i = wm 7 i) ∧ (∀ i, i < 7 → wm 10 i = nI i) ∧ wm 0 19 = -1
def Inv (wx wm : gx_Wd) : Prop := ∃ (r ri : Rf) (k f : Nat), Iv r ri k f wx wm
theorem RF.to {w w' : gx_Wd} {b : Nat} {r : Rf} (h : RF w b r) (he : ∀ o k, b ≤ o → o ≤ b + 6 → (o = b → k < 3) → w' o k = w o k) : RF w' b r := by
  obtain ⟨h1, h2, h3, h4⟩ := h
  exact ⟨fun k hk => by rw [he b k (by omega) (by omega) (fun _ => hk)]; exact h1 k hk, fun j j1 j2 i hi => by rw [he (b + j) i (by omega) (by omega) (by omega)]; exact h2 j j1 j2 i hi, fun i hi => by rw [he (b + 5) i (by omega) (by omega) (by omega)]; exact h3 i hi, fun i hi => by rw [he (b + 6) i (by omega) (by omega) (by omega)]; exact h4 i hi⟩
theorem RI.to {w w' : gx_Wd} {r : Rf} (h : RI w r) (he : ∀ o k, mKeep o k → w' o k = w o k) : RI w' r := by
  obtain ⟨h1, h2, h3, h4⟩ := h
  exact ⟨fun k hk => by rw [he 0 (26 + k) (by unfold mKeep; omega)]; exact h1 k hk, fun j j1 j2 i hi => by rw [he (13 + j) i (by unfold mKeep; omega)]; exact h2 j j1 j2 i hi, fun i hi => by rw [he 18 i (by unfold mKeep; omega)]; exact h3 i hi, fun i hi => by rw [he 19 i (by unfold mKeep; omega)]; exact h4 i hi⟩
theorem Iv.to {r ri : Rf} {k f : Nat} {wx wm wx' wm' : gx_Wd} (h : Iv r ri k f wx wm) (hx : ∀ o k, xKeep o k → wx' o k = wx o k) (hm : ∀ o k, mKeep o k → wm' o k = wm o k) : Iv r ri k f wx' wm' := by
  obtain ⟨⟨a1, a2, a3⟩, ⟨b1, b2, b3, b4⟩, ⟨c1, c2, c3, c4⟩, d, ⟨e1, e2, e3, e4⟩, g1, g2⟩ := h
  refine ⟨⟨a1.to (fun o k h1 h2 h3 => hx o k (by unfold xKeep; omega)), a2.to (fun o k h1 h2 h3 => hm o k (by unfold mKeep; omega)), a3⟩, ⟨b1.to (fun o k h1 h2 h3 => hx o k (by unfold xKeep; omega)), b2.to hm, b3, ?_⟩, ⟨c1, ?_, ?_, fun i hi => ?_⟩, fun i hi => ?_, ⟨e1, ?_, ?_, fun i hi => ?_⟩, fun i hi => ?_, ?_⟩
  · rw [hx 0 3 (by unfold xKeep; omega), hm 0 25 (by unfold mKeep; omega)]; exact b4
  · rw [hx 0 9 (by unfold xKeep; omega)]; exact c2
  · rw [hm 0 4 (by unfold mKeep; omega)]; exact c3
  · rw [hx 38 i (by unfold xKeep; omega), hm 8 i (by unfold mKeep; omega)]; exact c4 i hi
  · rw [hx 39 i (by unfold xKeep; omega), hm 9 i (by unfold mKeep; omega)]; exact d i hi
  · rw [hx 29 1 (by unfold xKeep; omega)]; exact e2
  · rw [hm 0 3 (by unfold mKeep; omega)]; exact e3
  · rw [hx 30 i (by unfold xKeep; omega), hm 7 i (by unfold mKeep; omega)]; exact e4 i hi
  · rw [hm 10 i (by unfold mKeep; omega)]; exact g1 i hi
  · rw [hm 0 19 (by unfold mKeep; omega)]; exact g2
theorem Inv.to {wx wm wx' wm' : gx_Wd} (h : Inv wx wm) (hx : ∀ o k, xKeep o k → wx' o k = wx o k) (hm : ∀ o k, mKeep o k → wm' o k = wm o k) : Inv wx' wm' := by
  obtain ⟨r, ri, k, f, h⟩ := h
  exact ⟨r, ri, k, f, h.to hx hm⟩
/-- the answers are the same, and what binds the sides holds behind them -/
def Eq2 (fx fm : Option (Int32 × gx_Wd)) : Prop := ∃ v wx' wm', fx = some (v, wx') ∧ fm = some (v, wm') ∧ Inv wx' wm'
theorem ref_ok {wx wm : gx_Wd} {c : Nat} (hc : c < 7) (h : Inv wx wm) : ∃ wx' wm', x_E_refuse (-nI c) wx = some (-nI c, wx') ∧ m_no (-nI c) wm = some (-nI c, wm') ∧ Inv wx' wm' := by
  refine ⟨gx_w wx 39 c (wx 39 c + 1), gx_w wm 9 c (wm 9 c + 1), ?_, ?_, ?_⟩
  · simp only [x_E_refuse, Int32.neg_neg, px_cell (N := 7) (o := 39) rfl hc (by decide), px_set (N := 7) (o := 39) rfl hc (by decide), gx_bs]
  · simp only [m_no, Int32.neg_neg, px_ald (sh := sh_m) (N := 7) (o := 9) rfl hc (by decide), px_ast (sh := sh_m) (N := 7) (o := 9) rfl hc (by decide), gx_bs]
  · obtain ⟨r, ri, k, f, ⟨a1, a2, a3⟩, ⟨b1, b2, b3, b4⟩, ⟨c1, c2, c3, c4⟩, d, ⟨e1, e2, e3, e4⟩, g1, g2⟩ := h
    refine ⟨r, ri, k, f, ⟨a1.to (fun o k h1 h2 h3 => by rw [px_wo (by omega)]), a2.to (fun o k h1 h2 h3 => by rw [px_wo (by omega)]), a3⟩, ⟨b1.to (fun o k h1 h2 h3 => by rw [px_wo (by omega)]), ?_, b3, ?_⟩, ⟨c1, ?_, ?_, fun i hi => ?_⟩, fun i hi => ?_, ⟨e1, ?_, ?_, fun i hi => ?_⟩, fun i hi => ?_, ?_⟩
    · obtain ⟨h1, h2, h3, h4⟩ := b2
      exact ⟨fun k hk => by rw [px_wo (by decide)]; exact h1 k hk, fun j j1 j2 i hi => by rw [px_wo (by omega)]; exact h2 j j1 j2 i hi, fun i hi => by rw [px_wo (by decide)]; exact h3 i hi, fun i hi => by rw [px_wo (by decide)]; exact h4 i hi⟩
    all_goals try (first | (rw [px_wo (by decide), px_wo (by decide)]; first | assumption | exact c4 i hi | exact e4 i hi) | (rw [px_wo (by decide)]; first | assumption | exact g1 i hi))
    rw [px_w, px_w]
    by_cases hi2 : i = c
    · subst hi2; simp [d i hi]
    · simp [hi2, d i hi]
theorem refE {wx wm : gx_Wd} {fx fm : Option (Int32 × gx_Wd)} (c : Nat) (hc : c < 7) (h : Inv wx wm) (hx : fx = (x_E_refuse (-nI c) wx).bind fun r => some (r.1, r.2)) (hm : fm = (m_no (-nI c) wm).bind fun r => some (r.1, r.2)) : Eq2 fx fm := by
  obtain ⟨wx', wm', e1, e2, h'⟩ := ref_ok hc h
  exact ⟨-nI c, wx', wm', by rw [hx, e1]; rfl, by rw [hm, e2]; rfl, h'⟩
/-- a row's place gets a number -/
def rput (r : Rf) (j i v : Nat) : Rf := fun j' i' => if j' = j then (if i' = i then v else r j' i') else r j' i'
theorem RF.put {w : gx_Wd} {b : Nat} {r : Rf} (h : RF w b r) {j i v : Nat} : RF (gx_w w (b + j) i (nI v)) b (rput r j i v) := by
  obtain ⟨h1, h2, h3, h4⟩ := h
  refine ⟨fun k hk => ?_, fun j' j1 j2 i' hi => ?_, fun i' hi => ?_, fun i' hi => ?_⟩
  · rw [px_w]; unfold rput
    by_cases c : j = 0
    · subst c; simp only [Nat.add_zero, if_true]
      by_cases c2 : k = i
      · simp [c2]
      · simp only [if_neg c2]; exact h1 k hk
    · rw [if_neg (by omega), if_neg (by omega)]; exact h1 k hk
  · rw [px_w]; unfold rput
    by_cases c : j' = j
    · subst c; simp only [if_true]
      by_cases c2 : i' = i
      · simp [c2]
      · simp only [if_neg c2]; exact h2 j' j1 j2 i' hi
    · rw [if_neg (by omega), if_neg (by omega)]; exact h2 j' j1 j2 i' hi
  · rw [px_w]; unfold rput
    by_cases c : 5 = j
    · subst c; simp only [if_true]
      by_cases c2 : i' = i
      · simp [c2]
      · simp only [if_neg c2]; exact h3 i' hi
    · rw [if_neg (by omega), if_neg (by omega)]; exact h3 i' hi
  · rw [px_w]; unfold rput
    by_cases c : 6 = j
    · subst c; simp only [if_true]
      by_cases c2 : i' = i
      · simp [c2]
      · simp only [if_neg c2]; exact h4 i' hi
    · rw [if_neg (by omega), if_neg (by omega)]; exact h4 i' hi
/-- both sides get the same number at the same place of the roof -/
theorem Iv.put {r ri : Rf} {k f : Nat} {wx wm : gx_Wd} (h : Iv r ri k f wx wm) {j i v : Nat} (hj : j ≤ 6) (hi : j = 0 → i < 3) (hR : Rok 99 (rput r j i v)) : Iv (rput r j i v) ri k f (gx_w wx (1 + j) i (nI v)) (gx_w wm j i (nI v)) := by
  obtain ⟨⟨a1, a2, a3⟩, ⟨b1, b2, b3, b4⟩, ⟨c1, c2, c3, c4⟩, d, ⟨e1, e2, e3, e4⟩, g1, g2⟩ := h
  have a2' := a2.put (j := j) (i := i) (v := v)
  rw [Nat.zero_add] at a2'
  refine ⟨⟨a1.put, a2', hR⟩, ⟨b1.to (fun o k h1 h2 h3 => by rw [px_wo (by omega)]), ?_, b3, ?_⟩, ⟨c1, ?_, ?_, fun i' hi' => ?_⟩, fun i' hi' => ?_, ⟨e1, ?_, ?_, fun i' hi' => ?_⟩, fun i' hi' => ?_, ?_⟩
  · obtain ⟨h1, h2, h3, h4⟩ := b2
    refine ⟨fun k hk => ?_, fun j j1 j2 i hi => by rw [px_wo (by omega)]; exact h2 j j1 j2 i hi, fun i hi => by rw [px_wo (by omega)]; exact h3 i hi, fun i hi => by rw [px_wo (by omega)]; exact h4 i hi⟩
    rw [px_w]
    by_cases c : 0 = j
    · subst c; rw [if_pos rfl, if_neg (by omega)]; exact h1 k hk
    · rw [if_neg c]; exact h1 k hk
  · rw [px_wo (by omega), px_w]
    by_cases c : 0 = j
    · subst c; rw [if_pos rfl, if_neg (by omega)]; exact b4
    · rw [if_neg c]; exact b4
  · rw [px_wo (by omega)]; exact c2
  · rw [px_w]
    by_cases c : 0 = j
    · subst c; rw [if_pos rfl, if_neg (by omega)]; exact c3
    · rw [if_neg c]; exact c3
  · rw [px_wo (by omega), px_wo (by omega)]; exact c4 i' hi'
  · rw [px_wo (by omega), px_wo (by omega)]; exact d i' hi'
  · rw [px_wo (by omega)]; exact e2
  · rw [px_w]
    by_cases c : 0 = j
    · subst c; rw [if_pos rfl, if_neg (by omega)]; exact e3
    · rw [if_neg c]; exact e3
  · rw [px_wo (by omega), px_wo (by omega)]; exact e4 i' hi'
  · rw [px_wo (by omega)]; exact g1 i' hi'
  · rw [px_w]
    by_cases c : 0 = j
    · subst c; rw [if_pos rfl, if_neg (by omega)]; exact g2
    · rw [if_neg c]; exact g2
theorem nI_neg_ne {n : Nat} (hn : n < 2 ^ 31) : ¬ nI n = -1 := by
  intro h
  have h2 := congrArg Int32.toInt h
  rw [nI_toInt hn, show ((-1 : Int32)).toInt = -1 by decide] at h2
  omega
abbrev iD : Nat → Nat := fun p => p
abbrev nO : Nat → Bool := fun _ => false
theorem Rok.mono {V V' : Nat} {r : Rf} (hv : V ≤ V') (h : Rok V r) : Rok V' r := ⟨h.1, h.2.1, h.2.2.1, h.2.2.2.1, h.2.2.2.2.1, fun i hi => Nat.le_trans (h.2.2.2.2.2.1 i hi) hv, h.2.2.2.2.2.2⟩
theorem Iv.mc {r ri : Rf} {k f : Nat} {wx wm : gx_Wd} (h : Iv r ri k f wx wm) : MC wm r iD nO :=
  ⟨h.1.2.1, h.1.2.2.mono (by decide), fun p hp => ⟨h.2.2.2.2.2.1 p hp, hp⟩, fun p hp => by rw [h.2.2.2.2.2.2]; simp [nI_neg_ne (show p < 2 ^ 31 by omega), nO]⟩
theorem x_toldL {w : gx_Wd} : ∀ (j f i : Nat) (w : gx_Wd), i + j = 7 → j < f → ∃ w', x_M_asTold_29 f (nI i) w = some w' ∧ (∀ o, o < 23 ∨ 26 ≤ o → w' o = w o) ∧ (∀ p, p < i → w' 23 p = w 23 p ∧ w' 24 p = w 24 p) ∧ (∀ p, i ≤ p → p < 7 → w' 23 p = nI p ∧ w' 24 p = 0) ∧ ∀ s, s < 6 → w' 25 s = w 6 s := by
  intro j
  induction j with
  | zero =>
    intro f i w hi hf
    obtain ⟨f, rfl⟩ : ∃ g, f = g + 1 := ⟨f - 1, by omega⟩
    obtain ⟨w', h1, h2, h3⟩ := px_copy (p := 6) (q := 25) (N := 6) w rfl rfl (by decide) (by decide)
    refine ⟨w', ?_, fun o ho => h2 o (by omega), fun p hp => by rw [h2 23 (by decide), h2 24 (by decide)]; exact ⟨rfl, rfl⟩, fun p h1 h2 => by omega, h3⟩
    simp (disch := first | omega | decide) only [x_M_asTold_29, x_M_asTold_61, gx_bs, ql_eq, ql_le, ql_ge, ql_lt, ql_gt, qn_eq, qn_le, qn_lt, ql_add, qn_add, ql_mul, ql_mulL, qn_mul, ql_div, ql_sub, qn_sub, gx_put, h1]
    rw [if_pos (by omega)]
  | succ j ih =>
    intro f i w hi hf
    obtain ⟨f, rfl⟩ : ∃ g, f = g + 1 := ⟨f - 1, by omega⟩
    obtain ⟨w', h1, h2, h3, h4, h5⟩ := ih f (i + 1) (gx_w (gx_w w 23 i (nI i)) 24 i 0) (by omega) (by omega)
    refine ⟨w', ?_, fun o ho => by rw [h2 o ho, px_wo (by omega), px_wo (by omega)], fun p hp => ?_, fun p p1 p2 => ?_, fun s hs => by rw [h5 s hs, px_wo (by decide), px_wo (by decide)]⟩
    · simp (disch := first | omega | decide) only [x_M_asTold_29, gx_bs, ql_eq, ql_le, ql_ge, ql_lt, ql_gt, qn_eq, qn_le, qn_lt, ql_add, qn_add, ql_mul, ql_mulL, qn_mul, ql_div, ql_sub, qn_sub, gx_put, px_set (N := 7) (o := 23) rfl (show i < 7 by omega) (by decide), px_set (N := 7) (o := 24) rfl (show i < 7 by omega) (by decide), h1]
      rw [if_neg (by omega)]
    · obtain ⟨q1, q2⟩ := h3 p (by omega)
      rw [q1, q2, px_wo (by decide), px_wn (by omega), px_wn (by omega), px_wo (by decide)]
      exact ⟨rfl, rfl⟩
    · by_cases c : p = i
      · subst c
        obtain ⟨q1, q2⟩ := h3 p (by omega)
        rw [q1, q2, px_wo (by decide), px_ws, px_ws]
        exact ⟨rfl, rfl⟩
      · exact h4 p (by omega) p2
theorem bit0 : ∀ p, p < 7 → ((0 : Int32) >>> (nI p &&& 31)) &&& 1 = 0 := by decide
theorem x_told0 (W : gx_Wd) : ∃ w', x_M_asTold_29 6000 0 W = some w' ∧ (∀ o, o < 23 ∨ 26 ≤ o → w' o = W o) ∧ (∀ p, p < 7 → w' 23 p = nI p ∧ w' 24 p = 0) ∧ ∀ s, s < 6 → w' 25 s = W 6 s := by
  obtain ⟨w', h1, h2, -, h4, h5⟩ := x_toldL (w := W) 7 6000 0 W (by omega) (by omega)
  exact ⟨w', h1, h2, fun p hp => h4 p (Nat.zero_le p) hp, h5⟩
theorem x_told {w : gx_Wd} {r : Rf} (h : RF w 1 r) (hR : Rok 99 r) : ∃ w', x_M_asTold w = some w' ∧ (∀ o, o < 22 ∨ 26 ≤ o → w' o = w o) ∧ XC w' r (r 0 1) (r 0 2) iD r0 nO (r 5) := by
  obtain ⟨w', h1, h2, h4, h5⟩ := x_told0 (gx_w (gx_w (gx_w w 22 1 (w 1 1)) 22 2 (w 1 2)) 22 3 0)
  have ho : ∀ o, o < 22 ∨ 26 ≤ o → w' o = w o := fun o ho => by rw [h2 o (by omega), px_wo (by omega), px_wo (by omega), px_wo (by omega)]
  refine ⟨w', ?_, ho, ⟨?_, hR, ?_, ?_, ?_, ?_, ?_, ?_, ?_, ?_⟩⟩
  · simp only [x_M_asTold, gx_put, gx_bs]
    rw [px_wo (show 1 ≠ 22 by decide)]
    exact h1
  · exact h.to (fun o k o1 o2 o3 => by rw [ho o (by omega)])
  · exact hR.2.2.1
  · exact hR.2.2.2.1
  · rw [h2 22 (by decide), px_wn (by decide), px_wn (by decide), px_ws]; exact h.a
  · rw [h2 22 (by decide), px_wn (by decide), px_ws]; exact h.l
  · intro p hp
    rw [h2 22 (by decide), px_ws, bit0 p hp]
    simp [nO]
  · intro p hp; exact ⟨(h4 p hp).1, hp⟩
  · intro p hp; exact ⟨(h4 p hp).2, by simp [r0]⟩
  · intro s hs
    rw [h5 s hs, px_wo (by decide), px_wo (by decide), px_wo (by decide)]
    have := hR.2.2.2.2.2.1 s hs
    exact ⟨h.2.2.1 s hs, by omega⟩
