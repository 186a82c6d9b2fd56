/-! ===== the orders: the class's tables filled, and asked ===== -/
section
variable {n : Nat} {M : Nat → Nat → Option Nat} {wt : Nat → Nat}
theorem x_f107 (K : Int32 → Int32 → gx_Wd → Option gx_Wd) {U p : Nat} (hU : U < 2 ^ n) (hp : pc U = p + 1) (hpn : p < n) : ∀ (j f i : Nat) (w : gx_Wd), OX w n M wt → VW w n M wt (U + 1) → i + j = n → j < f → ∃ w', x_O_fill_107 K f (nI n) (nI U) (nI i) w = x_O_fill_169 K (nI n) (nI U) w' ∧ (∀ o, o ≠ 37 → w' o = w o) ∧ (∀ k, (k < (U * 7 + i) * 2 ∨ (U * 7 + 7) * 2 ≤ k) → w' 37 k = w 37 k) ∧ ∀ c, i ≤ c → c < n → hb U c = true → ∀ pb, w' 37 ((U * 7 + c) * 2 + (if pb = true then 1 else 0)) = nI (Wn n M wt (n - pc U) U (pc U - 1) c pb) := by
  intro j
  induction j with
  | zero =>
    intro f i w h hV hi hf
    obtain ⟨f, rfl⟩ : ∃ g, f = g + 1 := ⟨f - 1, by omega⟩
    have hn := h.1
    refine ⟨w, ?_, fun _ _ => rfl, fun _ _ => rfl, fun c h1 h2 => by omega⟩
    rw [x_O_fill_107, if_pos (nI_le (by omega) (by omega))]
  | succ j ih =>
    intro f i w h hV hi hf
    obtain ⟨f, rfl⟩ : ∃ g, f = g + 1 := ⟨f - 1, by omega⟩
    have hn := h.1
    have hU2 := ob_p2 (by omega) hU
    rw [x_O_fill_107, if_neg (nI_ge (by omega) (by omega))]
    by_cases cu : hb U i = true
    · rw [if_pos ((ob_has U hU2 i (by omega)).mpr cu)]
      have v0 : x_O_waysOn (nI U) (nI i) 0 w = _ := x_won h hV (Nat.le_refl _) hU hp hpn (show i < n by omega) (pb := false)
      have s0 : x_O_spotOf (nI U) (nI i) 0 w = _ := x_spot (f := 0)
      have k0 : (U * 7 + i) * 2 + 0 < 1792 := by omega
      have k1 : (U * 7 + i) * 2 + 1 < 1792 := by omega
      have h1 : OX (gx_w w 37 ((U * 7 + i) * 2 + 0) (nI (Wn n M wt (n - pc U) U (pc U - 1) i false))) n M wt := h.to (fun o ho => px_wo ho)
      have hV1 : VW (gx_w w 37 ((U * 7 + i) * 2 + 0) (nI (Wn n M wt (n - pc U) U (pc U - 1) i false))) n M wt (U + 1) := fun U' l1 l2 c c1 c2 pb => by
        rw [px_wn (by split <;> omega)]
        exact hV U' l1 l2 c c1 c2 pb
      have v1 : x_O_waysOn (nI U) (nI i) 1 _ = _ := x_won h1 hV1 (Nat.le_refl _) hU hp hpn (show i < n by omega) (pb := true)
      have s1 : x_O_spotOf (nI U) (nI i) 1 (gx_w w 37 ((U * 7 + i) * 2 + 0) (nI (Wn n M wt (n - pc U) U (pc U - 1) i false))) = _ := x_spot (f := 1)
      simp only [s0, gx_bs, v0, px_set (N := 1792) (o := 37) rfl k0 (by decide), s1, v1, px_set (N := 1792) (o := 37) rfl k1 (by decide), x_O_fill_163]
      have hV2 : VW (gx_w (gx_w w 37 ((U * 7 + i) * 2 + 0) (nI (Wn n M wt (n - pc U) U (pc U - 1) i false))) 37 ((U * 7 + i) * 2 + 1) (nI (Wn n M wt (n - pc U) U (pc U - 1) i true))) n M wt (U + 1) := fun U' l1 l2 c c1 c2 pb => by
        rw [px_wn (by split <;> omega)]
        exact hV1 U' l1 l2 c c1 c2 pb
      obtain ⟨w', g1, g2, g3, g4⟩ := ih f (i + 1) _ (h1.to (fun o ho => px_wo ho)) hV2 (by omega) (by omega)
      refine ⟨w', ?_, fun o ho => by rw [g2 o ho, px_wo ho, px_wo ho], fun k hk => by rw [g3 k (by omega), px_wn (by omega), px_wn (by omega)], fun c c1 c2 c3 pb => ?_⟩
      · rw [nI_1]
        exact g1
      · by_cases c4 : c = i
        · subst c4
          rw [g3 _ (by split <;> omega)]
          by_cases c5 : pb = true
          · subst c5
            rw [if_pos rfl, px_ws]
          · have c6 : pb = false := by simpa using c5
            subst c6
            rw [if_neg (by decide), px_wn (by omega), px_ws]
        · exact g4 c (by omega) c2 c3 pb
    · rw [if_neg (fun z => cu ((ob_has U hU2 i (by omega)).mp z))]
      obtain ⟨w', g1, g2, g3, g4⟩ := ih f (i + 1) w h hV (by omega) (by omega)
      refine ⟨w', ?_, g2, fun k hk => g3 k (by omega), fun c c1 c2 c3 pb => ?_⟩
      · simp only [x_O_fill_163, gx_bs]
        rw [nI_1]
        exact g1
      · by_cases c4 : c = i
        · rw [c4] at c3; exact absurd c3 cu
        · exact g4 c (by omega) c2 c3 pb
theorem ob_pos : ∀ n, n < 8 → ∀ U, U < 2 ^ n → 0 < U → 0 < pc U ∧ pc U ≤ n := by decide +kernel
theorem ob_emp : ∀ n, n < 8 → ∀ b, b < n → hb 0 b = false ∧ pc (2 ^ b) = 1 ∧ 2 ^ b < 2 ^ n ∧ hb (2 ^ b) b = true := by decide +kernel
theorem x_f101 : ∀ (U f : Nat) (w : gx_Wd), OX w n M wt → VW w n M wt (U + 1) → U < 2 ^ n → U < f → ∃ w', x_O_fill_101 f (nI n) (nI U) w = some w' ∧ (∀ o, o ≠ 37 → w' o = w o) ∧ VW w' n M wt 1 := by
  intro U
  induction U with
  | zero =>
    intro f w h hV hU hf
    obtain ⟨f, rfl⟩ : ∃ g, f = g + 1 := ⟨f - 1, by omega⟩
    refine ⟨w, ?_, fun _ _ => rfl, hV⟩
    rw [x_O_fill_101, if_pos (by decide)]
  | succ U ih =>
    intro f w h hV hU hf
    obtain ⟨f, rfl⟩ : ∃ g, f = g + 1 := ⟨f - 1, by omega⟩
    have hn := h.1
    have hU2 := ob_p2 (by omega) hU
    obtain ⟨q1, q2⟩ := ob_pos n (by omega) (U + 1) hU (by omega)
    obtain ⟨w', g1, g2, g3, g4⟩ := x_f107 (x_O_fill_101 f) hU (p := pc (U + 1) - 1) (by omega) (by omega) n 6000 0 w h hV (by omega) (by omega)
    obtain ⟨w2, d1, d2, d3⟩ := ih f w' (h.to g2) (fun U' l1 l2 c c1 c2 pb => by
      by_cases e : U' = U + 1
      · subst e; exact g4 c (Nat.zero_le _) c1 c2 pb
      · rw [g3 _ (by split <;> omega)]
        exact hV U' (by omega) l2 c c1 c2 pb) (by omega) (by omega)
    refine ⟨w2, ?_, fun o ho => by rw [d2 o ho, g2 o ho], d3⟩
    rw [x_O_fill_101, if_neg (show ¬ nI (U + 1) ≤ 0 from nI_ge (a := 0) (by omega) (by omega))]
    refine Eq.trans (show x_O_fill_107 (x_O_fill_101 f) 6000 (nI n) (nI (U + 1)) 0 w = _ from g1) ?_
    simp only [x_O_fill_169, gx_bs]
    rw [show nI (U + 1) + (-1) = nI U from by rw [← Int32.sub_eq_add_neg]; exact nI_pred U]
    exact d1
end
section
variable {r : Rf} {a l : Nat} {wt : Nat → Nat}
theorem Mx_le {b p m : Nat} (hR : Rok 99 r) (hb1 : b < 7) (h : Mx r a l b p = some m) : m ≤ 400 := by
  unfold Mx at h
  split at h
  · cases h
  · cases h
    have := (hR.2.2.2.2.1 b hb1).2.1
    unfold gM
    repeat' split
    all_goals omega
theorem x_f20 (K : Int32 → Int32 → gx_Wd → Option gx_Wd) {b : Nat} (hb1 : b < r 0 0) : ∀ (j f i : Nat) (w : gx_Wd), XC w r a l iD r0 nO wt → i + j = r 0 0 → j < f → ∃ w', x_O_fill_20 K f (nI (r 0 0)) (nI b) (nI i) w = x_O_fill_89 K (nI (r 0 0)) (nI b) w' ∧ (∀ o, o ≠ 36 → w' o = w o) ∧ (∀ k, (k < b * 7 + i ∨ b * 7 + 7 ≤ k) → w' 36 k = w 36 k) ∧ ∀ p, i ≤ p → p < r 0 0 → w' 36 (b * 7 + p) = mI (Mx r a l b p) := by
  intro j
  induction j with
  | zero =>
    intro f i w h hi hf
    obtain ⟨f, rfl⟩ : ∃ g, f = g + 1 := ⟨f - 1, by omega⟩
    have hn := h.rok
    refine ⟨w, ?_, fun _ _ => rfl, fun _ _ => rfl, fun c h1 h2 => by omega⟩
    rw [x_O_fill_20, if_pos (nI_le (by omega) (by omega))]
  | succ j ih =>
    intro f i w h hi hf
    obtain ⟨f, rfl⟩ : ∃ g, f = g + 1 := ⟨f - 1, by omega⟩
    have hn := h.rok
    have hap := h.2.2.1
    have ht := x_top h (b := b) (p := i) (by omega) (by omega)
    have htl := xT_le h (b := b) (p := i) (by omega) (by omega)
    have hc := x_can h (b := b) (t := xT r a r0 b i) (by omega) (by omega)
    have hm := x_might h (b := b) (t := xT r a r0 b i) (by omega) (by omega)
    have e36 : nI b * 7 + nI i = nI (b * 7 + i) := by rw [show (7 : Int32) = nI 7 from rfl, pk_mul, nI_add]
    have key : ∀ v : Int32, v = mI (Mx r a l b i) → ∃ w', x_O_fill_65 K (x_O_fill_20 K f) (nI (r 0 0)) (nI b) (nI i) v w = x_O_fill_89 K (nI (r 0 0)) (nI b) w' ∧ (∀ o, o ≠ 36 → w' o = w o) ∧ (∀ k, (k < b * 7 + i ∨ b * 7 + 7 ≤ k) → w' 36 k = w 36 k) ∧ ∀ p, i ≤ p → p < r 0 0 → w' 36 (b * 7 + p) = mI (Mx r a l b p) := by
      intro v hv
      have hX1 : XC (gx_w w 36 (b * 7 + i) v) r a l iD r0 nO wt := h.to (fun o o1 o2 => px_wo (by omega))
      obtain ⟨w', g1, g2, g3, g4⟩ := ih f (i + 1) _ hX1 (by omega) (by omega)
      refine ⟨w', ?_, fun o ho => by rw [g2 o ho, px_wo ho], fun k hk => by rw [g3 k (by omega), px_wn (by omega)], fun p p1 p2 => ?_⟩
      · simp only [x_O_fill_65, e36, px_set (N := 49) (o := 36) rfl (show b * 7 + i < 49 by omega) (by decide), gx_bs]
        rw [nI_1]
        exact g1
      · by_cases c : p = i
        · rw [c, g3 _ (by omega), px_ws, hv]
        · exact g4 p (by omega) p2
    rw [x_O_fill_20, if_neg (nI_ge (by omega) (by omega))]
    simp only [ht, hc, hm, gx_bs, bI_ite]
    by_cases c : (!(decide (r 1 b = 3)) && decide (l ≤ xT r a r0 b i)) = true
    · rw [if_pos c]
      refine key _ ?_
      unfold Mx
      rw [Bool.and_eq_true, decide_eq_true_eq] at c
      rw [if_neg (by
        rintro (h1 | h1)
        · have := c.1; simp [h1] at this
        · omega)]
      exact pk_mul 2 _
    · rw [if_neg c]
      refine key _ ?_
      unfold Mx
      rw [if_pos (by
        by_cases h1 : r 1 b = 3
        · exact Or.inl h1
        · refine Or.inr (Nat.lt_of_not_le (fun h2 => c ?_))
          simp [h1, h2])]
      rfl
theorem x_f13 : ∀ (j f i : Nat) (w : gx_Wd), XC w r a l iD r0 nO wt → i + j = r 0 0 → j < f → ∃ w', x_O_fill_13 f (nI (r 0 0)) (nI i) w = x_O_fill_95 (nI (r 0 0)) w' ∧ (∀ o, o ≠ 36 → w' o = w o) ∧ (∀ k, k < i * 7 → w' 36 k = w 36 k) ∧ ∀ b, i ≤ b → b < r 0 0 → ∀ p, p < r 0 0 → w' 36 (b * 7 + p) = mI (Mx r a l b p) := by
  intro j
  induction j with
  | zero =>
    intro f i w h hi hf
    obtain ⟨f, rfl⟩ : ∃ g, f = g + 1 := ⟨f - 1, by omega⟩
    have hn := h.rok
    refine ⟨w, ?_, fun _ _ => rfl, fun _ _ => rfl, fun c h1 h2 => by omega⟩
    rw [x_O_fill_13, if_pos (nI_le (by omega) (by omega))]
  | succ j ih =>
    intro f i w h hi hf
    obtain ⟨f, rfl⟩ : ∃ g, f = g + 1 := ⟨f - 1, by omega⟩
    have hn := h.rok
    obtain ⟨w1, d1, d2, d3, d4⟩ := x_f20 (x_O_fill_13 f) (b := i) (by omega) (r 0 0) 6000 0 w h (by omega) (by omega)
    obtain ⟨w', g1, g2, g3, g4⟩ := ih f (i + 1) w1 (h.to (fun o o1 o2 => d2 o (by omega))) (by omega) (by omega)
    refine ⟨w', ?_, fun o ho => by rw [g2 o ho, d2 o ho], fun k hk => by rw [g3 k (by omega), d3 k (by omega)], fun b b1 b2 p hp => ?_⟩
    · rw [x_O_fill_13, if_neg (nI_ge (by omega) (by omega))]
      refine Eq.trans (show x_O_fill_20 (x_O_fill_13 f) 6000 (nI (r 0 0)) (nI i) 0 w = _ from d1) ?_
      simp only [x_O_fill_89, gx_bs]
      rw [nI_1]
      exact g1
    · by_cases c : b = i
      · rw [c, g3 _ (by omega), d4 p (Nat.zero_le _) hp]
      · exact g4 b (by omega) b2 p hp
theorem x_fill {w : gx_Wd} (h : XC w r a l iD r0 nO wt) : ∃ w', x_O_fill w = some w' ∧ (∀ o, o ≠ 36 → o ≠ 37 → w' o = w o) ∧ OX w' (r 0 0) (Mx r a l) wt ∧ VW w' (r 0 0) (Mx r a l) wt 1 := by
  have hn := h.rok
  obtain ⟨w1, d1, d2, -, d4⟩ := x_f13 (r 0 0) 6000 0 w h (by omega) (by omega)
  have hX := h.to (w' := w1) (fun o o1 o2 => d2 o (by omega))
  have hO : OX w1 (r 0 0) (Mx r a l) wt := ⟨hn, hX.n, hX.2.2.2.2.2.2.2.2.2, fun b b1 p p1 => d4 b (Nat.zero_le _) b1 p p1, fun b b1 p p1 m hm => Mx_le h.2.1 (by omega) hm⟩
  have hp : 0 < 2 ^ (r 0 0) := Nat.one_le_two_pow
  have hp2 : 2 ^ (r 0 0) ≤ 2 ^ 7 := Nat.pow_le_pow_right (by decide) hn
  obtain ⟨w', g1, g2, g3⟩ := x_f101 (2 ^ (r 0 0) - 1) 6000 w1 hO (fun U l1 l2 => by omega) (by omega) (by omega)
  refine ⟨w', ?_, fun o o1 o2 => by rw [g2 o o2, d2 o o1], hO.to g2, g3⟩
  unfold x_O_fill
  rw [h.n]
  refine Eq.trans (show x_O_fill_13 6000 (nI (r 0 0)) 0 w = _ from d1) ?_
  simp only [x_O_fill_95, gx_bs]
  rw [ob_shm (r 0 0) (by omega)]
  exact g1
end
section
variable {w : gx_Wd} {n : Nat} {M : Nat → Nat → Option Nat} {wt : Nat → Nat}
theorem x_first37 (h : OX w n M wt) (hV : VW w n M wt 1) {b : Nat} (hb1 : b < n) : x_O_spotOf ((1 : Int32) <<< (nI b &&& 31)) (nI b) 0 w = some (nI ((2 ^ b * 7 + b) * 2 + 0), w) ∧ x_E_cell 37 (nI ((2 ^ b * 7 + b) * 2 + 0)) w = some (nI (Wn n M wt (n - 1) (2 ^ b) 0 b false), w) := by
  have hn := h.1
  obtain ⟨q1, q2, q3, q4⟩ := ob_emp n (by omega) b hb1
  refine ⟨?_, ?_⟩
  · rw [ob_shl b (by omega)]
    exact x_spot (f := 0)
  · rw [x_cell37 (ob_p2 (by omega) q3) (by omega) (by decide)]
    have := hV (2 ^ b) Nat.one_le_two_pow q3 b hb1 q4 false
    rw [q2] at this
    exact congrArg (fun z => some (z, w)) this
theorem x_totL (h : OX w n M wt) (hV : VW w n M wt 1) : ∀ (j f i s : Nat), i + j = n → j < f → x_O_total_19 f (nI s) (nI i) w = some (nI (s + ((fl 0 j i).map (fun b => Wn n M wt (n - 1) (2 ^ b) 0 b false)).sum), w) := by
  have hn := h.1
  intro j
  induction j with
  | zero =>
    intro f i s hi hf
    obtain ⟨f, rfl⟩ : ∃ g, f = g + 1 := ⟨f - 1, by omega⟩
    rw [x_O_total_19, h.2.1, if_pos (nI_le (by omega) (by omega))]
    simp [fl]
  | succ j ih =>
    intro f i s hi hf
    obtain ⟨f, rfl⟩ : ∃ g, f = g + 1 := ⟨f - 1, by omega⟩
    obtain ⟨e1, e2⟩ := x_first37 h hV (b := i) (by omega)
    have e3 := (ob_emp n (by omega) i (by omega)).1
    rw [x_O_total_19, h.2.1, if_neg (nI_ge (by omega) (by omega))]
    simp only [e1, e2, gx_bs]
    rw [nI_1, nI_add, ih f (i + 1) _ (by omega) (by omega), fl, e3, if_neg (show ¬ false = true by decide), List.map_cons, List.sum_cons, Nat.add_assoc]
def nr : Option Nat → Int32
  | none => -1
  | some b => nI b
theorem x_lst0 (h : OX w n M wt) (hV : VW w n M wt 1) {c pb : Int32} : ∀ (j f i : Nat), i + j = n → j < f → x_O_leastNext_3 f 0 c pb (nI i) w = some (nr ((fl 0 j i).find? (fun b => decide (0 < Wn n M wt (n - 1) (2 ^ b) 0 b false))), w) := by
  have hn := h.1
  intro j
  induction j with
  | zero =>
    intro f i hi hf
    obtain ⟨f, rfl⟩ : ∃ g, f = g + 1 := ⟨f - 1, by omega⟩
    rw [x_O_leastNext_3, h.2.1, if_pos (nI_le (by omega) (by omega))]
    rfl
  | succ j ih =>
    intro f i hi hf
    obtain ⟨f, rfl⟩ : ∃ g, f = g + 1 := ⟨f - 1, by omega⟩
    obtain ⟨e1, e2⟩ := x_first37 h hV (b := i) (by omega)
    obtain ⟨e3, e4, e5, e6⟩ := ob_emp n (by omega) i (by omega)
    have hle := Wn_le (M := M) (wt := wt) (show n < 8 by omega) (j := n - 1) (p := 0) (c := i) (pb := false) e5 (by omega)
    rw [x_O_leastNext_3, h.2.1, if_neg (nI_ge (by omega) (by omega)), if_pos rfl]
    simp only [e1, e2, gx_bs, x_O_leastNext_51]
    rw [nI_1, ih f (i + 1) (by omega) (by omega), fl, e3, if_neg (show ¬ false = true by decide), List.find?_cons]
    by_cases c1 : Wn n M wt (n - 1) (2 ^ i) 0 i false = 0
    · rw [if_pos (show nI (Wn n M wt (n - 1) (2 ^ i) 0 i false) ≤ 0 by rw [c1]; decide)]
      simp [c1]
    · rw [if_neg (show ¬ nI (Wn n M wt (n - 1) (2 ^ i) 0 i false) ≤ 0 from nI_ge (a := 0) (by omega) (by omega))]
      rw [decide_eq_true (show 0 < Wn n M wt (n - 1) (2 ^ i) 0 i false by omega)]
      rfl
theorem x_lstN (h : OX w n M wt) {U p c j : Nat} {pb : Bool} (hV : VW w n M wt 1) (hU : U < 2 ^ n) (hp : pc U = p + 1) (hj : p + j + 2 = n) (hc : c < n) : ∀ (k f i : Nat), i + k = n → k < f → x_O_leastNext_3 f (nI U) (nI c) (bI pb) (nI i) w = some (nr ((fl U k i).find? (nx n M wt j U p c pb)), w) := by
  have hn := h.1
  have hU2 := ob_p2 (by omega) hU
  have hU0 : U ≠ 0 := by
    intro z
    rw [z, show pc 0 = 0 by decide] at hp
    omega
  intro k
  induction k with
  | zero =>
    intro f i hi hf
    obtain ⟨f, rfl⟩ : ∃ g, f = g + 1 := ⟨f - 1, by omega⟩
    rw [x_O_leastNext_3, h.2.1, if_pos (nI_le (by omega) (by omega))]
    rfl
  | succ k ih =>
    intro f i hi hf
    obtain ⟨f, rfl⟩ : ∃ g, f = g + 1 := ⟨f - 1, by omega⟩
    rw [x_O_leastNext_3, h.2.1, if_neg (nI_ge (by omega) (by omega)), if_neg (show ¬ nI U = 0 from fun z => hU0 ((nI_eq (b := 0) (by omega) (by omega)).mp z))]
    simp only [x_wwith h hV (Nat.le_add_left 1 U) hU hp hj hc (show i < n by omega), gx_bs, x_O_leastNext_51]
    rw [nI_1, ih f (i + 1) (by omega) (by omega), fl]
    by_cases c1 : hb U i = true
    · rw [if_pos c1, if_pos c1, if_pos (show nI 0 ≤ 0 by decide)]
    · rw [if_neg c1, if_neg c1, List.find?_cons]
      have c2 : hb U i = false := by simpa using c1
      have hle := Wn_le (M := M) (wt := wt) (show n < 8 by omega) (j := j) (p := p + 1) (c := i) (pb := (M c p).isSome) (ob_lt n (by omega) U hU i (by omega) c2) (by rw [ob_pc U hU2 i (by omega) c2]; omega)
      unfold nx
      by_cases c3 : sc M wt p c pb i = true
      · rw [if_pos c3, c3]
        by_cases c4 : Wn n M wt j (U + 2 ^ i) (p + 1) i (M c p).isSome = 0
        · rw [if_pos (by rw [c4]; decide), c4]
          rfl
        · rw [if_neg (show ¬ nI (Wn n M wt j (U + 2 ^ i) (p + 1) i (M c p).isSome) ≤ 0 from nI_ge (a := 0) (by omega) (by omega)), decide_eq_true (show 0 < Wn n M wt j (U + 2 ^ i) (p + 1) i (M c p).isSome by omega)]
          rfl
      · rw [if_neg c3, if_pos (show nI 0 ≤ 0 by decide)]
        have c4 : sc M wt p c pb i = false := by simpa using c3
        rw [c4]
        rfl
theorem x_undL (h : OX w n M wt) (hV : VW w n M wt 1) {t : Nat} (ht : t < n) : ∀ (j f p U : Nat) (q q' : Nat → Nat) (pb : Bool), p + j + 1 = n → U < 2 ^ n → pc U = p + 1 → p ≤ t → q p < n → (Ls n j (p + 1) U q).find? (fun z => Tl M wt j p z pb) = some q' → j + 1 < f → x_O_firstUnder_10 f (nI t) (nI U) (nI (q p)) (bI pb) (nI (p + 1)) w = some (nI (q' t), w) := by
  have hn := h.1
  intro j
  induction j with
  | zero =>
    intro f p U q q' pb hj hU hp hpt hq hf hfu
    obtain ⟨f, rfl⟩ : ∃ g, f = g + 1 := ⟨f - 1, by omega⟩
    have hm := Ls_pre _ _ _ _ _ (List.mem_of_find?_eq_some hf) p (by omega)
    rw [x_O_firstUnder_10, if_pos (nI_lt (by omega) (by omega)), ← hm, show t = p by omega]
  | succ j ih =>
    intro f p U q q' pb hj hU hp hpt hq hf hfu
    obtain ⟨f, rfl⟩ : ∃ g, f = g + 1 := ⟨f - 1, by omega⟩
    have hU2 := ob_p2 (by omega) hU
    by_cases c : t = p
    · have hm := Ls_pre _ _ _ _ _ (List.mem_of_find?_eq_some hf) p (by omega)
      rw [x_O_firstUnder_10, if_pos (nI_lt (by omega) (by omega)), ← hm, c]
    · rw [Ls_find] at hf
      have hl := x_lstN h (pb := pb) hV hU hp (j := j) (by omega) hq n 6000 0 (by omega) (by omega)
      rw [Option.bind_eq_some_iff] at hf
      obtain ⟨b, hf1, hf2⟩ := hf
      obtain ⟨b1, b2, b3⟩ := fl_mem _ _ _ (List.mem_of_find?_eq_some hf1)
      have hi := ih f (p + 1) (U + 2 ^ b) (uq q (p + 1) b) q' (M (q p) p).isSome (by omega) (ob_lt n (by omega) U hU b (by omega) b3) (by rw [ob_pc U hU2 b (by omega) b3]; omega) (by omega) (by rw [show uq q (p + 1) b (p + 1) = b from if_pos rfl]; omega) hf2 (by omega)
      rw [show uq q (p + 1) b (p + 1) = b from if_pos rfl] at hi
      have el : x_O_leastNext (nI U) (nI (q p)) (bI pb) w = some (nI b, w) := by
        unfold x_O_leastNext
        refine Eq.trans (show x_O_leastNext_3 6000 (nI U) (nI (q p)) (bI pb) 0 w = _ from hl) ?_
        rw [hf1]
        rfl
      rw [x_O_firstUnder_10, h.2.1, if_neg (nI_nlt (by omega) (by omega)), if_neg (nI_ge (by omega) (by omega))]
      simp only [el, gx_bs]
      rw [if_pos (show (0 : Int32) ≤ nI b from nI_pos' (by omega)), if_neg (show ¬ nI (p + 1) ≤ 0 from nI_ge (a := 0) (by omega) (by omega)), show nI (p + 1) - 1 = nI p from nI_pred p]
      simp only [x_most h hq (show p < n by omega), gx_bs, x_O_firstUnder_71, ob_or U hU2 b (by omega) b3]
      rw [nI_1, mI_neg (h.2.2.2.2 (q p) hq p (by omega))]
      by_cases c1 : (M (q p) p).isSome = true
      · rw [if_pos c1]; rw [c1] at hi; exact hi
      · rw [if_neg c1]; rw [show (M (q p) p).isSome = false by simpa using c1] at hi; exact hi
end
