/-! ===== the class's mind: who stands, what they bear, whether it is firm ===== -/
/-- the mind: at a place, a level, who stands where, what is raised, who is idle, what the spans weigh -/
def XC (w : gx_Wd) (r : Rf) (a l : Nat) (q ra : Nat → Nat) (I : Nat → Bool) (wt : Nat → Nat) : Prop := RF w 1 r ∧ Rok 99 r ∧ a + r 0 0 ≤ 16 ∧ l ≤ 27 ∧ w 22 1 = nI a ∧ w 22 2 = nI l ∧ (∀ p, p < 7 → ((w 22 3 >>> (nI p &&& 31)) &&& 1 = 0 ↔ I p = false)) ∧ (∀ p, p < 7 → w 23 p = nI (q p) ∧ q p < 7) ∧ (∀ b, b < 7 → w 24 b = nI (ra b) ∧ ra b ≤ 36) ∧ ∀ s, s < 6 → w 25 s = nI (wt s) ∧ wt s ≤ 198
theorem XC.to {w w' : gx_Wd} {r : Rf} {a l : Nat} {q ra : Nat → Nat} {I : Nat → Bool} {wt : Nat → Nat} (h : XC w r a l q ra I wt) (he : ∀ o, o ≤ 25 → (o ≤ 7 ∨ 22 ≤ o) → w' o = w o) : XC w' r a l q ra I wt := by
  obtain ⟨⟨f1, f2, f3, f4⟩, h2, h3, h4, h5, h6, h7, h8, h9, h10⟩ := h
  have e1 := he 1 (by omega) (by omega)
  have e22 := he 22 (by omega) (by omega)
  have e23 := he 23 (by omega) (by omega)
  have e24 := he 24 (by omega) (by omega)
  have e25 := he 25 (by omega) (by omega)
  refine ⟨⟨fun k hk => by rw [e1]; exact f1 k hk, fun j j1 j2 i hi => by rw [he (1 + j) (by omega) (by omega)]; exact f2 j j1 j2 i hi, fun i hi => by rw [he (1 + 5) (by omega) (by omega)]; exact f3 i hi, fun i hi => by rw [he (1 + 6) (by omega) (by omega)]; exact f4 i hi⟩, h2, h3, h4, by rw [e22]; exact h5, by rw [e22]; exact h6, by rw [e22]; exact h7, by rw [e23]; exact h8, by rw [e24]; exact h9, by rw [e25]; exact h10⟩
def gM (k s t l : Nat) : Nat := if k = 1 then (if l < t then s / 2 else s) / 2 else if k = 2 then 2 * (if l < t then s / 2 else s) else if k = 4 then (if l < t then s / 2 else s) - 3 else if k = 5 then 2 * s else (if l < t then s / 2 else s)
def xT (r : Rf) (a : Nat) (ra : Nat → Nat) (b p : Nat) : Nat := r 6 (a + p) + r 3 b + r 4 b + ra b
def xB (r : Rf) (a l : Nat) (q ra : Nat → Nat) (I : Nat → Bool) : Nat → Bool := cB l (rK r q) (rT r a q ra) I
def xG (r : Rf) (a l : Nat) (q ra : Nat → Nat) : Nat → Nat := cG l (rK r q) (rS r q) (rT r a q ra)
section
variable {w : gx_Wd} {r : Rf} {a l : Nat} {q ra : Nat → Nat} {I : Nat → Bool} {wt : Nat → Nat}
theorem XC.rok (h : XC w r a l q ra I wt) : r 0 0 ≤ 7 := h.2.1.1
theorem XC.n (h : XC w r a l q ra I wt) : w 1 0 = nI (r 0 0) := h.1.n
theorem XC.arr (h : XC w r a l q ra I wt) {j : Nat} (h1 : 1 ≤ j) (h2 : j ≤ 4) {i : Nat} (hi : i < 7) : w (1 + j) i = nI (r j i) := h.1.2.1 j h1 h2 i hi
theorem xT_le (h : XC w r a l q ra I wt) {b p : Nat} (hb : b < 7) (hp : a + p < 16) : xT r a ra b p ≤ 63 := by
  obtain ⟨-, ⟨k1, k2, k3, k4, k5, k6, k7⟩, h3, h4, h5, h6, h7, h8, h9, h10⟩ := h
  have := k7 (a + p) hp
  have := k5 b hb
  have := (h9 b hb).2
  unfold xT
  omega
theorem x_top (h : XC w r a l q ra I wt) {b p : Nat} (hb : b < 7) (hp : a + p < 16) : x_M_topOf (nI b) (nI p) w = some (nI (xT r a ra b p), w) := by
  have e3 : w 4 b = nI (r 3 b) := h.arr (j := 3) (by omega) (by omega) hb
  have e4 : w 5 b = nI (r 4 b) := h.arr (j := 4) (by omega) (by omega) hb
  have e6 : w 7 (a + p) = nI (r 6 (a + p)) := h.1.2.2.2 (a + p) hp
  obtain ⟨-, -, h3, h4, h5, h6, h7, h8, h9, h10⟩ := h
  have a1 : x_E_cell 7 (nI (a + p)) w = some (nI (r 6 (a + p)), w) := by rw [px_cell (N := 16) rfl hp (by decide), e6]
  have a2 : x_E_cell 4 (nI b) w = some (nI (r 3 b), w) := by rw [px_cell (N := 7) rfl hb (by decide), e3]
  have a3 : x_E_cell 5 (nI b) w = some (nI (r 4 b), w) := by rw [px_cell (N := 7) rfl hb (by decide), e4]
  have a4 : x_E_cell 24 (nI b) w = some (nI (ra b), w) := by rw [px_cell (N := 7) rfl hb (by decide), (h9 b hb).1]
  simp (disch := first | omega | decide) only [x_M_topOf, h5, gx_bs, ql_eq, ql_le, ql_ge, ql_lt, ql_gt, qn_eq, qn_le, qn_lt, ql_add, qn_add, ql_mul, ql_mulL, qn_mul, ql_div, ql_sub, qn_sub, gx_put, a1, a2, a3, a4]
  rfl
theorem x_can (h : XC w r a l q ra I wt) {b t : Nat} (hb : b < 7) (ht : t < 2 ^ 31) : x_M_canBear (nI b) (nI t) w = some (bI (!(decide (r 1 b = 3)) && decide (l ≤ t)), w) := by
  have e1 : w 2 b = nI (r 1 b) := h.arr (j := 1) (by omega) (by omega) hb
  have b1 := (h.2.1.2.2.2.2.1 b hb).1
  obtain ⟨-, -, h3, h4, h5, h6, h7, h8, h9, h10⟩ := h
  have a1 : x_E_cell 2 (nI b) w = some (nI (r 1 b), w) := by rw [px_cell (N := 7) rfl hb (by decide), e1]
  simp (disch := first | omega | decide) only [x_M_canBear, a1, h6, gx_bs, ql_eq, ql_le, ql_ge, ql_lt, ql_gt, qn_eq, qn_le, qn_lt, ql_add, qn_add, ql_mul, ql_mulL, qn_mul, ql_div, ql_sub, qn_sub, gx_put]
  by_cases c1 : r 1 b = 3
  · simp [c1, bI]
  · by_cases c2 : l ≤ t
    · simp [c1, c2, bI, Nat.not_lt.mpr c2]
    · simp [c1, c2, bI, Nat.not_le.mp c2]
theorem x_might (h : XC w r a l q ra I wt) {b t : Nat} (hb : b < 7) (ht : t < 2 ^ 31) : x_M_mightOf (nI b) (nI t) w = some (nI (gM (r 1 b) (r 2 b) t l), w) := by
  have e1 : w 2 b = nI (r 1 b) := h.arr (j := 1) (by omega) (by omega) hb
  have e2 : w 3 b = nI (r 2 b) := h.arr (j := 2) (by omega) (by omega) hb
  obtain ⟨b1, b2, -⟩ := h.2.1.2.2.2.2.1 b hb
  obtain ⟨-, -, h3, h4, h5, h6, h7, h8, h9, h10⟩ := h
  have a1 : x_E_cell 2 (nI b) w = some (nI (r 1 b), w) := by rw [px_cell (N := 7) rfl hb (by decide), e1]
  have a2 : x_E_cell 3 (nI b) w = some (nI (r 2 b), w) := by rw [px_cell (N := 7) rfl hb (by decide), e2]
  have key : ∀ f g : Nat, f ≤ 99 → g ≤ 99 → x_M_mightOf_27 (nI b) (nI g) (nI f) w = some (nI (if r 1 b = 1 then f / 2 else if r 1 b = 2 then 2 * f else if r 1 b = 4 then f - 3 else if r 1 b = 5 then 2 * g else f), w) := by
    intro f g hf hg
    simp (disch := first | omega | decide) only [x_M_mightOf_27, a1, gx_bs, ql_eq, ql_le, ql_ge, ql_lt, ql_gt, qn_eq, qn_le, qn_lt, ql_add, qn_add, ql_mul, ql_mulL, qn_mul, ql_div, ql_sub, qn_sub, gx_put]
    by_cases c1 : r 1 b = 1
    · simp only [if_pos c1]
    · simp only [if_neg c1]
      by_cases c2 : r 1 b = 2
      · simp only [if_pos c2]
      · simp only [if_neg c2]
        by_cases c4 : r 1 b = 4
        · simp only [if_pos c4]
          by_cases c3 : 3 < f
          · rw [show nI f - 3 = nI (f - 3) from pk_sub (a := f) (b := 3) (by omega)]
            rw [if_pos (show (0 : Int32) < nI (f - 3) from nI_lt (a := 0) (by omega) (by omega))]
          · by_cases c6 : f = 3
            · subst c6
              rfl
            · rw [if_neg]
              · rw [show f - 3 = 0 by omega]
                rfl
              · intro z
                have z2 : nI f - nI 3 < 0 := pk_sneg (by omega) (by omega)
                exact absurd (Int32.lt_trans z z2) (by decide)
        · simp only [if_neg c4]
          by_cases c5 : r 1 b = 5
          · simp only [if_pos c5]
          · simp only [if_neg c5]
  simp (disch := first | omega | decide) only [x_M_mightOf, a2, h6, gx_bs, ql_eq, ql_le, ql_ge, ql_lt, ql_gt, qn_eq, qn_le, qn_lt, ql_add, qn_add, ql_mul, ql_mulL, qn_mul, ql_div, ql_sub, qn_sub, gx_put]
  unfold gM
  by_cases c3 : l < t
  · simp only [if_pos c3, if_neg (Nat.not_le.mpr c3), key _ _ (show r 2 b / 2 ≤ 99 by omega) b2]
  · simp only [if_neg c3, if_pos (Nat.not_lt.mp c3), key _ _ b2 b2]
theorem x_standL : ∀ (j f i : Nat) (w : gx_Wd), XC w r a l q ra I wt → i + j = r 0 0 → j < f → ∃ w', x_M_stand_2 f (nI i) w = some w' ∧ (∀ o, o ≠ 26 → o ≠ 27 → w' o = w o) ∧ (∀ k, k < i → w' 26 k = w 26 k ∧ w' 27 k = w 27 k) ∧ ∀ k, i ≤ k → k < r 0 0 → w' 26 k = bI (xB r a l q ra I k) ∧ w' 27 k = nI (xG r a l q ra k) := by
  intro j
  induction j with
  | zero =>
    intro f i w h hi hf
    obtain ⟨f, rfl⟩ : ∃ g, f = g + 1 := ⟨f - 1, by omega⟩
    have hn := h.rok
    refine ⟨w, ?_, fun _ _ _ => rfl, fun _ _ => ⟨rfl, rfl⟩, fun k h1 h2 => by omega⟩
    simp (disch := first | omega | decide) only [x_M_stand_2, h.n, gx_bs, ql_eq, ql_le, ql_ge, ql_lt, ql_gt, qn_eq, qn_le, qn_lt, ql_add, qn_add, ql_mul, ql_mulL, qn_mul, ql_div, ql_sub, qn_sub, gx_put]
    rw [if_pos (by omega)]
  | succ j ih =>
    intro f i w h hi hf
    obtain ⟨f, rfl⟩ : ∃ g, f = g + 1 := ⟨f - 1, by omega⟩
    have hn := h.rok
    have hq := h.2.2.2.2.2.2.2.1 i (by omega)
    have hidle := h.2.2.2.2.2.2.1 i (by omega)
    have hap := h.2.2.1
    have a1 : x_E_cell 23 (nI i) w = some (nI (q i), w) := by rw [px_cell (N := 7) rfl (by omega) (by decide), hq.1]
    have ht := x_top h (b := q i) (p := i) hq.2 (by omega)
    have htl := xT_le h (b := q i) (p := i) hq.2 (by omega)
    have hc := x_can h (b := q i) (t := xT r a ra (q i) i) hq.2 (by omega)
    have key : ∀ b : Bool, ∃ w', x_M_stand_54 (x_M_stand_2 f) (nI i) (nI (q i)) (nI (xT r a ra (q i) i)) (bI b) w = some w' ∧ (∀ o, o ≠ 26 → o ≠ 27 → w' o = w o) ∧ (∀ k, k < i → w' 26 k = w 26 k ∧ w' 27 k = w 27 k) ∧ (w' 26 i = bI b ∧ w' 27 i = nI (xG r a l q ra i)) ∧ ∀ k, i + 1 ≤ k → k < r 0 0 → w' 26 k = bI (xB r a l q ra I k) ∧ w' 27 k = nI (xG r a l q ra k) := by
      intro b
      have hX1 : XC (gx_w w 26 i (bI b)) r a l q ra I wt := h.to (fun o h1 h2 => px_wo (by omega))
      have hm := x_might hX1 (b := q i) (t := xT r a ra (q i) i) hq.2 (by omega)
      have hX2 : XC (gx_w (gx_w w 26 i (bI b)) 27 i (nI (gM (r 1 (q i)) (r 2 (q i)) (xT r a ra (q i) i) l))) r a l q ra I wt := hX1.to (fun o h1 h2 => px_wo (by omega))
      obtain ⟨w', g1, g2, g3, g4⟩ := ih f (i + 1) _ hX2 (by omega) (by omega)
      refine ⟨w', ?_, fun o h1 h2 => by rw [g2 o h1 h2, px_wo h2, px_wo h1], fun k hk => ?_, ?_, g4⟩
      · have e71 : x_M_stand_71 (x_M_stand_2 f) (nI i) (nI (q i)) (nI (xT r a ra (q i) i)) (bI b) (nI i) w = some w' := by
          simp only [x_M_stand_71, px_set (N := 7) (o := 26) rfl (show i < 7 by omega) (by decide), px_set (N := 7) (o := 27) rfl (show i < 7 by omega) (by decide), hm, gx_bs]
          rw [show nI i + 1 = nI (i + 1) from nI_1 i]
          exact g1
        unfold x_M_stand_54
        cases b with
        | true => exact e71
        | false => exact e71
      · obtain ⟨p1, p2⟩ := g3 k (by omega)
        rw [p1, p2, px_wo (by decide), px_wn (by omega), px_wn (by omega), px_wo (by decide)]
        exact ⟨rfl, rfl⟩
      · obtain ⟨p1, p2⟩ := g3 i (by omega)
        rw [p1, p2, px_wo (by decide), px_ws, px_ws]
        exact ⟨rfl, rfl⟩
    have fin : ∀ b : Bool, b = xB r a l q ra I i → x_M_stand_2 (f + 1) (nI i) w = x_M_stand_54 (x_M_stand_2 f) (nI i) (nI (q i)) (nI (xT r a ra (q i) i)) (bI b) w := by
      intro b hb
      simp (disch := first | omega | decide) only [x_M_stand_2, h.n, gx_bs, ql_eq, ql_le, ql_ge, ql_lt, ql_gt, qn_eq, qn_le, qn_lt, ql_add, qn_add, ql_mul, ql_mulL, qn_mul, ql_div, ql_sub, qn_sub, gx_put, a1, ht, hc, bI_ite]
      rw [if_neg (by omega)]
      unfold xB cB rK at hb
      rw [show rT r a q ra i = xT r a ra (q i) i from rfl] at hb
      by_cases c1 : (!(decide (r 1 (q i) = 3)) && decide (l ≤ xT r a ra (q i) i)) = true
      · rw [if_pos c1]
        rw [Bool.and_eq_true] at c1
        by_cases c2 : I i = false
        · rw [if_pos (hidle.mpr c2)]
          have : b = true := by
            rw [hb, c2, c1.1]
            simpa using c1.2
          rw [this]
          rfl
        · rw [if_neg (fun z => c2 (hidle.mp z))]
          have : b = false := by
            rw [hb]
            have c3 : I i = true := by simpa using c2
            simp [c3]
          rw [this]
          rfl
      · rw [if_neg c1]
        have : b = false := by
          rw [hb]
          by_cases c3 : r 1 (q i) = 3
          · simp [c3]
          · have c4 : ¬ l ≤ xT r a ra (q i) i := fun z => c1 (by simp [c3, z])
            simp [c4]
        rw [this]
        rfl
    obtain ⟨w', g1, g2, g3, g4, g5⟩ := key (xB r a l q ra I i)
    refine ⟨w', by rw [fin _ rfl]; exact g1, g2, g3, fun k h1 h2 => ?_⟩
    by_cases hk : k = i
    · subst hk; exact g4
    · exact g5 k (by omega) h2
theorem x_stand (h : XC w r a l q ra I wt) : ∃ w', x_M_stand w = some w' ∧ (∀ o, o ≠ 26 → o ≠ 27 → w' o = w o) ∧ ∀ k, k < r 0 0 → w' 26 k = bI (xB r a l q ra I k) ∧ w' 27 k = nI (xG r a l q ra k) := by
  obtain ⟨w', h1, h2, -, h4⟩ := x_standL (r 0 0) 6000 0 w h (by omega) (by have := h.rok; omega)
  exact ⟨w', h1, h2, fun k hk => h4 k (Nat.zero_le k) hk⟩
end
