/-! ===== count, swap ===== -/
theorem m_allWL {w : gx_Wd} : ∀ (j f i : Nat), i + j = 6 → j < f → m_allWeight_4 f (sm (w 5) i) (nI i) w = some (sm (w 5) 6, w) := by
  intro j
  induction j with
  | zero =>
    intro f i hi hf
    obtain ⟨f, rfl⟩ : ∃ g, f = g + 1 := ⟨f - 1, by omega⟩
    rw [m_allWeight_4, if_pos (show (6 : Int32) ≤ nI i from nI_le (a := 6) (by omega) (by omega)), show i = 6 by omega]
  | succ j ih =>
    intro f i hi hf
    obtain ⟨f, rfl⟩ : ∃ g, f = g + 1 := ⟨f - 1, by omega⟩
    rw [m_allWeight_4, if_neg (show ¬ (6 : Int32) ≤ nI i from nI_ge (b := 6) (by omega) (by omega))]
    simp only [px_ald (sh := sh_m) (N := 6) (o := 5) rfl (show i < 6 by omega) (by decide), gx_bs]
    rw [show nI i + 1 = nI (i + 1) from nI_1 i]
    exact ih f (i + 1) (by omega) (by omega)
section
variable {w : gx_Wd} {r : Rf} {q : Nat → Nat} {I : Nat → Bool}
theorem m_allLL (h : MC w r q I) : ∀ (j f i : Nat), i + j = r 0 0 → j < f → m_allLoads_4 f (sm (fun p => nI (cL (r 0 0) (mB r q I) (r 5) p)) i) (nI i) w = some (sm (fun p => nI (cL (r 0 0) (mB r q I) (r 5) p)) (r 0 0), w) := by
  have hn := h.2.1.1
  intro j
  induction j with
  | zero =>
    intro f i hi hf
    obtain ⟨f, rfl⟩ : ∃ g, f = g + 1 := ⟨f - 1, by omega⟩
    rw [m_allLoads_4, h.1.n, if_pos (nI_le (by omega) (by omega)), show i = r 0 0 by omega]
  | succ j ih =>
    intro f i hi hf
    obtain ⟨f, rfl⟩ : ∃ g, f = g + 1 := ⟨f - 1, by omega⟩
    rw [m_allLoads_4, h.1.n, if_neg (nI_ge (by omega) (by omega))]
    simp only [m_load1 h (show i < r 0 0 by omega), gx_bs]
    rw [show nI i + 1 = nI (i + 1) from nI_1 i]
    exact ih f (i + 1) (by omega) (by omega)
theorem m_manyL (h : MC w r q I) : ∀ (j f i : Nat), i + j = r 0 0 → j < f → m_manyBear_4 f (sm (fun p => bI (mB r q I p)) i) (nI i) w = some (sm (fun p => bI (mB r q I p)) (r 0 0), w) := by
  have hn := h.2.1.1
  intro j
  induction j with
  | zero =>
    intro f i hi hf
    obtain ⟨f, rfl⟩ : ∃ g, f = g + 1 := ⟨f - 1, by omega⟩
    rw [m_manyBear_4, h.1.n, if_pos (nI_le (by omega) (by omega)), show i = r 0 0 by omega]
  | succ j ih =>
    intro f i hi hf
    obtain ⟨f, rfl⟩ : ∃ g, f = g + 1 := ⟨f - 1, by omega⟩
    rw [m_manyBear_4, h.1.n, if_neg (nI_ge (by omega) (by omega))]
    have e := ih f (i + 1) (by omega) (by omega)
    simp only [m_bear h (show i < r 0 0 by omega), gx_bs, bI_ite, m_manyBear_26]
    rw [show nI i + 1 = nI (i + 1) from nI_1 i]
    rw [sm] at e
    by_cases c : mB r q I i = true
    · rw [if_pos c]
      rw [show bI (mB r q I i) = 1 by rw [c]; rfl] at e
      exact e
    · rw [if_neg c]
      rw [show bI (mB r q I i) = 0 by simp [c, bI]] at e
      exact e
end
theorem P_count {wx wm : gx_Wd} (v : Int32) (h : Inv wx wm) : Eq2 (x_E_count v wx) (m_count v wm) := by
  have h0 := h
  obtain ⟨r, ri, k, f, hI⟩ := h
  have hn := hI.1.2.2.1
  obtain ⟨hk, k1, k2, k3⟩ := hI.2.2.1
  obtain ⟨w1, d1, d2, hX⟩ := x_told hI.1.1 hI.1.2.2
  obtain ⟨w2, w3, g1, g2, g3, g4, g5, g6⟩ := x_sw hX
  have hk3 : Inv w3 wm := h0.to (fun o k hk => by rw [g3 o (by unfold xKeep at hk; omega) (by unfold xKeep at hk; omega) (by unfold xKeep at hk; omega), d2 o (by unfold xKeep at hk; omega)]) (fun _ _ _ => rfl)
  have n3 : w3 1 0 = nI (r 0 0) := g4.2.1
  have s3 : sm (wx 6) 6 = sm (wm 5) 6 := sm_congr 6 (fun i hi => by
    have e1 : wx 6 i = nI (r 5 i) := hI.1.1.2.2.1 i hi
    have e2 : wm 5 i = nI (r 5 i) := by have := hI.1.2.1.2.2.1 i hi; simpa using this
    rw [e1, e2])
  have s4 : sm (w3 28) (r 0 0) = sm (fun p => nI (cL (r 0 0) (mB r iD nO) (r 5) p)) (r 0 0) := sm_congr _ (fun i hi => g5 i hi)
  have s5 : sm (w3 26) (r 0 0) = sm (fun p => bI (mB r iD nO p)) (r 0 0) := sm_congr _ (fun i hi => g4.2.2.1 i hi)
  have e3 : m_allWeight wm = some (sm (wm 5) 6, wm) := m_allWL 6 6000 0 (by omega) (by omega)
  have e4 : m_allLoads wm = some (sm (fun p => nI (cL (r 0 0) (mB r iD nO) (r 5) p)) (r 0 0), wm) := m_allLL hI.mc (r 0 0) 6000 0 (by omega) (by omega)
  have e5 : m_manyBear wm = some (sm (fun p => bI (mB r iD nO p)) (r 0 0), wm) := m_manyL hI.mc (r 0 0) 6000 0 (by omega) (by omega)
  unfold x_E_count m_count m_in
  have small : ∀ n : Nat, n < 11 → v = nI n → v < 11 := fun n hn hv => by rw [hv]; exact nI_lt (b := 11) hn (by omega)
  by_cases c0 : v = 0
  · subst c0
    rw [if_pos rfl, if_pos (show (0 : Int32) < 11 by decide)]
    simp only [gx_bs, if_true, hI.1.1.n, hI.1.2.1.n]
    exact ⟨_, _, _, rfl, rfl, h0⟩
  · by_cases c1 : v = 1
    · subst c1
      rw [if_neg c0, if_pos rfl, if_pos (show (1 : Int32) < 11 by decide)]
      simp only [gx_bs, if_true, if_neg c0, hI.1.1.a, hI.1.2.1.a]
      exact ⟨_, _, _, rfl, rfl, h0⟩
    · by_cases c2 : v = 2
      · subst c2
        rw [if_neg c0, if_neg c1, if_pos rfl, if_pos (show (2 : Int32) < 11 by decide)]
        simp only [gx_bs, if_true, if_neg c0, if_neg c1, hI.1.1.l, hI.1.2.1.l]
        exact ⟨_, _, _, rfl, rfl, h0⟩
      · by_cases c3 : v = 3
        · subst c3
          rw [if_neg c0, if_neg c1, if_neg c2, if_pos rfl, if_pos (show (3 : Int32) < 11 by decide)]
          have ex : x_E_sumOf 6 6 wx = some (sm (wx 6) 6, wx) := px_sum (N := 6) (n := 6) rfl (by decide) (by decide) wx
          simp only [gx_bs, if_true, if_neg c0, if_neg c1, if_neg c2, ex, e3, s3]
          exact ⟨_, _, _, rfl, rfl, h0⟩
        · by_cases c4 : v = 4
          · subst c4
            rw [if_neg c0, if_neg c1, if_neg c2, if_neg c3, if_pos rfl, if_pos (show (4 : Int32) < 11 by decide)]
            have ex : x_E_sumOf 28 (nI (r 0 0)) w3 = some (sm (w3 28) (r 0 0), w3) := px_sum (N := 7) rfl hn (by decide) w3
            simp only [gx_bs, if_true, if_neg c0, if_neg c1, if_neg c2, if_neg c3, d1, x_M_standAndWeigh, g1, g2, n3, ex, e4, s4]
            exact ⟨_, _, _, rfl, rfl, hk3⟩
          · by_cases c5 : v = 5
            · subst c5
              rw [if_neg c0, if_neg c1, if_neg c2, if_neg c3, if_neg c4, if_pos rfl, if_pos (show (5 : Int32) < 11 by decide)]
              have ex : x_E_sumOf 26 (nI (r 0 0)) w3 = some (sm (w3 26) (r 0 0), w3) := px_sum (N := 7) rfl hn (by decide) w3
              simp only [gx_bs, if_true, if_neg c0, if_neg c1, if_neg c2, if_neg c3, if_neg c4, d1, x_M_standAndWeigh, g1, g2, n3, ex, e5, s5]
              exact ⟨_, _, _, rfl, rfl, hk3⟩
            · by_cases c6 : v = 6
              · subst c6
                rw [if_neg c0, if_neg c1, if_neg c2, if_neg c3, if_neg c4, if_neg c5, if_pos rfl, if_pos (show (6 : Int32) < 11 by decide)]
                simp only [gx_bs, if_true, if_neg c0, if_neg c1, if_neg c2, if_neg c3, if_neg c4, if_neg c5, k1, k2]
                exact ⟨_, _, _, rfl, rfl, h0⟩
              · by_cases c7 : v = 7
                · subst c7
                  rw [if_neg c0, if_neg c1, if_neg c2, if_neg c3, if_neg c4, if_neg c5, if_neg c6, if_pos rfl, if_pos (show (7 : Int32) < 11 by decide)]
                  simp only [gx_bs, if_true, if_neg c0, if_neg c1, if_neg c2, if_neg c3, if_neg c4, if_neg c5, if_neg c6, hI.2.2.2.2.1.2.1, hI.2.2.2.2.1.2.2.1]
                  exact ⟨_, _, _, rfl, rfl, h0⟩
                · rw [if_neg c0, if_neg c1, if_neg c2, if_neg c3, if_neg c4, if_neg c5, if_neg c6, if_neg c7]
                  by_cases c8 : v < 11
                  · rw [if_pos c8, if_pos c8]
                    simp only [gx_bs, if_true, if_neg c0, if_neg c1, if_neg c2, if_neg c3, if_neg c4, if_neg c5, if_neg c6, if_neg c7]
                    exact ⟨_, _, _, rfl, rfl, h0⟩
                  · by_cases c9 : 16 < v
                    · rw [if_neg c8, if_pos c9, if_neg c8, if_pos c9]
                      simp only [gx_bs, if_true, if_neg c0, if_neg c1, if_neg c2, if_neg c3, if_neg c4, if_neg c5, if_neg c6, if_neg c7]
                      exact ⟨_, _, _, rfl, rfl, h0⟩
                    · rw [if_neg c8, if_neg c9, if_neg c8, if_neg c9]
                      have hv0 : ¬ v < 0 := fun z => c8 (Int32.lt_trans z (by decide))
                      obtain ⟨j, hj, rfl⟩ := nI_of hv0
                      have j1 : ¬ j < 11 := fun z => c8 (nI_lt (b := 11) z (by omega))
                      have j2 : ¬ 16 < j := fun z => c9 (nI_lt (a := 16) z (by omega))
                      have ej : nI j - 10 = nI (j - 10) := pk_sub (b := 10) (by omega)
                      rw [ej]
                      simp only [gx_bs, px_cell (N := 7) (o := 39) rfl (show j - 10 < 7 by omega) (by decide), px_ald (sh := sh_m) (N := 7) (o := 9) rfl (show j - 10 < 7 by omega) (by decide), if_neg (show ¬ (1 : Int32) = 0 by decide), hI.2.2.2.1 (j - 10) (by omega)]
                      exact ⟨_, _, _, rfl, rfl, h0⟩
/-- who stands where, when two have changed -/
def sW (a b : Nat) : Nat → Nat := fun p => if p = b then a else if p = a then b else p
def swF (r : Rf) (a b : Nat) : Bool := xF r (r 0 1) (r 0 2) (sW a b) r0 nO (r 5)
/-- the first pair, from (a, b) on: so many of a's partners are left, so many a's behind a -/
def swI (P : Nat → Nat → Bool) (a : Nat) : Nat → Nat → Option Nat
  | 0, _ => none
  | j + 1, b => if P a b = true then some b else swI P a j (b + 1)
def swO (P : Nat → Nat → Bool) (n : Nat) : Nat → Nat → Option (Nat × Nat)
  | 0, _ => none
  | j + 1, a => match swI P a (n - (a + 1)) (a + 1) with
    | some b => some (a, b)
    | none => swO P n j (a + 1)
section
variable {r : Rf}
theorem XC.sw {w : gx_Wd} (h : XC w r (r 0 1) (r 0 2) iD r0 nO (r 5)) {a b : Nat} (ha : a < 7) (hb : b < 7) : XC (gx_w (gx_w w 23 a (nI b)) 23 b (nI a)) r (r 0 1) (r 0 2) (sW a b) r0 nO (r 5) := (h.who hb).who ha
theorem x_swI (a : Nat) (ha : a < r 0 0) (K : Int32 → gx_Wd → Option (Int32 × gx_Wd)) : ∀ (j f b : Nat) (w : gx_Wd), RF w 1 r → Rok 99 r → a < b → b + j = r 0 0 → j < f → ∃ w', (match swI (swF r) a j b with | some b' => x_E_swap_17 K f (nI a) (nI b) w = some (nI (10 * a + b'), w') | none => x_E_swap_17 K f (nI a) (nI b) w = K (nI (a + 1)) w') ∧ ∀ o, (o < 22 ∨ 29 ≤ o) → w' o = w o := by
  intro j
  induction j with
  | zero =>
    intro f b w h hR hab hb hf
    have hn := hR.1
    obtain ⟨f, rfl⟩ : ∃ g, f = g + 1 := ⟨f - 1, by omega⟩
    refine ⟨w, ?_, fun _ _ => rfl⟩
    simp only [swI]
    rw [x_E_swap_17, h.n, if_pos (nI_le (by omega) (by omega))]
    simp only [x_E_swap_84, gx_bs]
    rw [nI_1]
  | succ j ih =>
    intro f b w h hR hab hb hf
    have hn := hR.1
    obtain ⟨f, rfl⟩ : ∃ g, f = g + 1 := ⟨f - 1, by omega⟩
    obtain ⟨w1, e1, e2, hX⟩ := x_told h hR
    obtain ⟨w2, e3, e4, hX2⟩ := (hX.sw (a := a) (b := b) (by omega) (by omega)).f
    have o2 : ∀ o, (o < 22 ∨ 29 ≤ o) → w2 o = w o := fun o ho => by rw [e4 o (by omega) (by omega) (by omega), px_wo (by omega), px_wo (by omega), e2 o (by omega)]
    have step : x_E_swap_17 K (f + 1) (nI a) (nI b) w = if swF r a b = true then some (nI (10 * a + b), w2) else x_E_swap_17 K f (nI a) (nI (b + 1)) w2 := by
      rw [x_E_swap_17, h.n, if_neg (nI_ge (by omega) (by omega))]
      simp only [e1, px_set (N := 7) (o := 23) rfl (show a < 7 by omega) (by decide), px_set (N := 7) (o := 23) rfl (show b < 7 by omega) (by decide), e3, gx_bs, bI_ite, x_E_swap_71]
      rw [nI_1, show (10 : Int32) * nI a = nI (10 * a) from pk_mul 10 a, nI_add]
      rfl
    rw [step]
    by_cases c : swF r a b = true
    · refine ⟨w2, ?_, o2⟩
      simp only [swI, if_pos c]
    · obtain ⟨w', g1, g2⟩ := ih f (b + 1) w2 (h.to (fun o k h1 h2 h3 => by rw [o2 o (by omega)])) hR (by omega) (by omega) (by omega)
      refine ⟨w', ?_, fun o ho => by rw [g2 o ho, o2 o ho]⟩
      simp only [swI, if_neg c]
      exact g1
theorem x_swO : ∀ (j f a : Nat) (w : gx_Wd), RF w 1 r → Rok 99 r → a + j = r 0 0 → j < f → ∃ w', x_E_swap_2 f (nI a) w = some (match swO (swF r) (r 0 0) j a with | some p => nI (10 * p.1 + p.2) | none => -9, w') ∧ ∀ o, (o < 22 ∨ 29 ≤ o) → w' o = w o := by
  intro j
  induction j with
  | zero =>
    intro f a w h hR ha hf
    have hn := hR.1
    obtain ⟨f, rfl⟩ : ∃ g, f = g + 1 := ⟨f - 1, by omega⟩
    refine ⟨w, ?_, fun _ _ => rfl⟩
    rw [x_E_swap_2, h.n, if_pos (nI_le (by omega) (by omega))]
    rfl
  | succ j ih =>
    intro f a w h hR ha hf
    have hn := hR.1
    obtain ⟨f, rfl⟩ : ∃ g, f = g + 1 := ⟨f - 1, by omega⟩
    obtain ⟨w1, g1, g2⟩ := x_swI (r := r) a (by omega) (x_E_swap_2 f) (r 0 0 - (a + 1)) 6000 (a + 1) w h hR (by omega) (by omega) (by omega)
    rw [x_E_swap_2, h.n, if_neg (nI_ge (by omega) (by omega)), gx_bs, nI_1]
    simp only [swO]
    cases c : swI (swF r) a (r 0 0 - (a + 1)) (a + 1) with
    | some b =>
      rw [c] at g1
      exact ⟨w1, g1, g2⟩
    | none =>
      rw [c] at g1
      simp only at g1 ⊢
      obtain ⟨w2, d1, d2⟩ := ih f (a + 1) w1 (h.to (fun o k h1 h2 h3 => by rw [g2 o (by omega)])) hR (by omega) (by omega)
      exact ⟨w2, by rw [g1]; exact d1, fun o ho => by rw [d2 o ho, g2 o ho]⟩
theorem m_chg {w : gx_Wd} {q : Nat → Nat} (hq : ∀ p, p < 7 → w 10 p = nI (q p)) {a b : Nat} (ha : a < 7) (hb : b < 7) : m_changes (nI a) (nI b) w = some (gx_w (gx_w w 10 a (nI (q b))) 10 b (nI (q a))) := by
  simp only [m_changes, px_ald (sh := sh_m) (N := 7) (o := 10) rfl ha (by decide), px_ald (sh := sh_m) (N := 7) (o := 10) rfl hb (by decide), px_ast (sh := sh_m) (N := 7) (o := 10) rfl ha (by decide), px_ast (sh := sh_m) (N := 7) (o := 10) rfl hb (by decide), gx_bs, hq a ha, hq b hb]
theorem MC.sw {w : gx_Wd} (h : MC w r iD nO) (h19 : w 0 19 = -1) {a b : Nat} (ha : a < 7) (hb : b < 7) : MC (gx_w (gx_w w 10 a (nI b)) 10 b (nI a)) r (sW a b) nO := by
  obtain ⟨h1, h2, h3, h4⟩ := h
  refine ⟨h1.to (fun o k o1 o2 o3 => by rw [px_wo (by omega), px_wo (by omega)]), h2, fun p hp => ?_, fun p hp => ?_⟩
  · simp only [px_w, if_true]
    unfold sW
    by_cases c1 : p = b
    · simp [c1, ha]
    · by_cases c2 : p = a
      · rw [if_neg c1, if_neg c1, if_pos c2, if_pos c2]; exact ⟨rfl, hb⟩
      · simp only [if_neg c1, if_neg c2]; exact h3 p hp
  · rw [px_wo (by decide), px_wo (by decide), h19]
    have : sW a b p < 7 := by unfold sW; split <;> (try split) <;> omega
    simp [nI_neg_ne (show sW a b p < 2 ^ 31 by omega), nO]
/-- the model's inner loop over pairs; what was found stays found -/
theorem m_swI (a : Nat) (ha : a < r 0 0) (K : Int32 → Int32 → gx_Wd → Option (Int32 × gx_Wd)) : ∀ (j f b : Nat) (w : gx_Wd), MC w r iD nO → w 0 19 = -1 → a < b → b + j = r 0 0 → j < f → ∃ w', m_swap_17 K f (-9) (nI a) (nI b) w = K (match swI (swF r) a j b with | some b' => nI (10 * a + b') | none => -9) (nI (a + 1)) w' ∧ ∀ o k, (o = 10 → k < 7) → w' o k = w o k := by
  intro j
  induction j with
  | zero =>
    intro f b w h h19 hab hb hf
    have hn := h.2.1.1
    obtain ⟨f, rfl⟩ : ∃ g, f = g + 1 := ⟨f - 1, by omega⟩
    refine ⟨w, ?_, fun _ _ _ => rfl⟩
    rw [m_swap_17, h.1.n, if_pos (nI_le (by omega) (by omega))]
    simp only [m_swap_66, gx_bs, swI]
    rw [nI_1]
  | succ j ih =>
    intro f b w h h19 hab hb hf
    have hn := h.2.1.1
    obtain ⟨f, rfl⟩ : ∃ g, f = g + 1 := ⟨f - 1, by omega⟩
    have hq : ∀ p, p < 7 → w 10 p = nI (iD p) := fun p hp => (h.2.2.1 p hp).1
    have hM := h.sw h19 (a := a) (b := b) (by omega) (by omega)
    have hq2 : ∀ p, p < 7 → (gx_w (gx_w w 10 a (nI b)) 10 b (nI a)) 10 p = nI (sW a b p) := fun p hp => (hM.2.2.1 p hp).1
    have e1 := m_chg hq (a := a) (b := b) (by omega) (by omega)
    have e2 := m_chg hq2 (a := a) (b := b) (by omega) (by omega)
    have sa : sW a b a = b := by unfold sW; rw [if_neg (by omega), if_pos rfl]
    have sb : sW a b b = a := by unfold sW; rw [if_pos rfl]
    rw [sa, sb] at e2
    have e3 := hM.f
    have same : ∀ o k, (o = 10 → k < 7) → (gx_w (gx_w (gx_w (gx_w w 10 a (nI b)) 10 b (nI a)) 10 a (nI a)) 10 b (nI b)) o k = w o k := fun o k hk => by
      simp only [px_w]
      by_cases c : o = 10
      · subst c
        simp only [if_true]
        by_cases c1 : k = b
        · rw [if_pos c1, c1]; exact (hq b (by omega)).symm
        · by_cases c2 : k = a
          · rw [if_neg c1, if_pos c2, c2]; exact (hq a (by omega)).symm
          · simp [c1, c2]
      · simp [c]
    have step : m_swap_17 K (f + 1) (-9) (nI a) (nI b) w = m_swap_17 K f (if swF r a b = true then nI (10 * a + b) else -9) (nI a) (nI (b + 1)) (gx_w (gx_w (gx_w (gx_w w 10 a (nI b)) 10 b (nI a)) 10 a (nI a)) 10 b (nI b)) := by
      rw [m_swap_17, h.1.n, if_neg (nI_ge (by omega) (by omega)), if_neg (by decide)]
      simp only [e1, e3, gx_bs, bI_ite, m_swap_53, e2, iD]
      rw [nI_1, show (10 : Int32) * nI a = nI (10 * a) from pk_mul 10 a, nI_add]
      show (if swF r a b = true then _ else _) = _
      by_cases c : swF r a b = true
      · rw [if_pos c, if_pos c]
      · rw [if_neg c, if_neg c]
    rw [step]
    by_cases c : swF r a b = true
    · refine ⟨_, ?_, same⟩
      rw [if_pos c]
      simp only [swI, if_pos c]
      obtain ⟨f, rfl⟩ : ∃ g, f = g + 1 := ⟨f - 1, by omega⟩
      rw [m_swap_17]
      have hk : ∀ x : Int32, (if x ≤ nI (b + 1) then m_swap_66 K (nI (10 * a + b)) (nI a) (gx_w (gx_w (gx_w (gx_w w 10 a (nI b)) 10 b (nI a)) 10 a (nI a)) 10 b (nI b)) else m_swap_66 K (nI (10 * a + b)) (nI a) (gx_w (gx_w (gx_w (gx_w w 10 a (nI b)) 10 b (nI a)) 10 a (nI a)) 10 b (nI b))) = m_swap_66 K (nI (10 * a + b)) (nI a) (gx_w (gx_w (gx_w (gx_w w 10 a (nI b)) 10 b (nI a)) 10 a (nI a)) 10 b (nI b)) := fun x => by split <;> rfl
      rw [if_pos (show (0 : Int32) ≤ nI (10 * a + b) from nI_pos' (by omega)), hk]
      simp only [m_swap_66, gx_bs]
      rw [nI_1]
    · rw [if_neg c]
      have hM2 : MC (gx_w (gx_w (gx_w (gx_w w 10 a (nI b)) 10 b (nI a)) 10 a (nI a)) 10 b (nI b)) r iD nO := ⟨h.1.to (fun o k o1 o2 o3 => same o k (by omega)), h.2.1, fun p hp => by rw [same 10 p (fun _ => hp)]; exact h.2.2.1 p hp, fun p hp => by rw [same 0 19 (by omega)]; exact h.2.2.2 p hp⟩
      obtain ⟨w', g1, g2⟩ := ih f (b + 1) _ hM2 (by rw [same 0 19 (by omega)]; exact h19) (by omega) (by omega) (by omega)
      refine ⟨w', ?_, fun o k hk => by rw [g2 o k hk, same o k hk]⟩
      simp only [swI, if_neg c]
      exact g1
/-- when a pair is found, the loops only run out -/
theorem m_swD {x : Nat} (hx : x < 1000) : ∀ (j f a : Nat) (w : gx_Wd), w 0 0 = nI (r 0 0) → r 0 0 ≤ 7 → a + j = r 0 0 → j < f → m_swap_5 f (nI x) (nI a) w = some (nI x, w) := by
  intro j
  induction j with
  | zero =>
    intro f a w h hn ha hf
    obtain ⟨f, rfl⟩ : ∃ g, f = g + 1 := ⟨f - 1, by omega⟩
    rw [m_swap_5, h, if_pos (nI_le (by omega) (by omega))]
  | succ j ih =>
    intro f a w h hn ha hf
    obtain ⟨f, rfl⟩ : ∃ g, f = g + 1 := ⟨f - 1, by omega⟩
    rw [m_swap_5, h, if_neg (nI_ge (by omega) (by omega)), gx_bs]
    have e : ∀ y : Int32, m_swap_17 (m_swap_5 f) (5999 + 1) (nI x) (nI a) y w = m_swap_66 (m_swap_5 f) (nI x) (nI a) w := fun y => by
      rw [m_swap_17, if_pos (show (0 : Int32) ≤ nI x from nI_pos' (by omega))]
      split <;> rfl
    rw [show (6000 : Nat) = 5999 + 1 from rfl, e]
    simp only [m_swap_66, gx_bs]
    rw [nI_1]
    exact ih f (a + 1) w h hn (by omega) (by omega)
theorem m_swO : ∀ (j f a : Nat) (w : gx_Wd), MC w r iD nO → w 0 19 = -1 → a + j = r 0 0 → j < f → ∃ w', m_swap_5 f (-9) (nI a) w = some (match swO (swF r) (r 0 0) j a with | some p => nI (10 * p.1 + p.2) | none => -9, w') ∧ ∀ o k, (o = 10 → k < 7) → w' o k = w o k := by
  intro j
  induction j with
  | zero =>
    intro f a w h h19 ha hf
    have hn := h.2.1.1
    obtain ⟨f, rfl⟩ : ∃ g, f = g + 1 := ⟨f - 1, by omega⟩
    refine ⟨w, ?_, fun _ _ _ => rfl⟩
    rw [m_swap_5, h.1.n, if_pos (nI_le (by omega) (by omega))]
    rfl
  | succ j ih =>
    intro f a w h h19 ha hf
    have hn := h.2.1.1
    obtain ⟨f, rfl⟩ : ∃ g, f = g + 1 := ⟨f - 1, by omega⟩
    obtain ⟨w1, g1, g2⟩ := m_swI (r := r) a (by omega) (m_swap_5 f) (r 0 0 - (a + 1)) 6000 (a + 1) w h h19 (by omega) (by omega) (by omega)
    rw [m_swap_5, h.1.n, if_neg (nI_ge (by omega) (by omega)), gx_bs, nI_1, g1]
    have hM1 : MC w1 r iD nO := ⟨h.1.to (fun o k o1 o2 o3 => g2 o k (by omega)), h.2.1, fun p hp => by rw [g2 10 p (fun _ => hp)]; exact h.2.2.1 p hp, fun p hp => by rw [g2 0 19 (by omega)]; exact h.2.2.2 p hp⟩
    simp only [swO]
    cases c : swI (swF r) a (r 0 0 - (a + 1)) (a + 1) with
    | some b =>
      simp only
      have hb : b < 1000 - 100 := by
        have : ∀ (j b0 b : Nat), swI (swF r) a j b0 = some b → b < b0 + j := by
          intro j
          induction j with
          | zero => intro b0 b h; cases h
          | succ j ih =>
            intro b0 b h
            rw [swI] at h
            by_cases c : swF r a b0 = true
            · rw [if_pos c] at h; cases h; omega
            · rw [if_neg c] at h; have := ih _ _ h; omega
        have := this _ _ _ c
        omega
      exact ⟨w1, m_swD (r := r) (by omega) j f (a + 1) w1 hM1.1.n hn (by omega) (by omega), g2⟩
    | none =>
      simp only
      obtain ⟨w2, d1, d2⟩ := ih f (a + 1) w1 hM1 (by rw [g2 0 19 (by omega)]; exact h19) (by omega) (by omega)
      exact ⟨w2, d1, fun o k hk => by rw [d2 o k hk, g2 o k hk]⟩
end
theorem P_swap {wx wm : gx_Wd} (h : Inv wx wm) : Eq2 (x_E_swap wx) (m_swap wm) := by
  have h0 := h
  obtain ⟨r, ri, k, f, hI⟩ := h
  have hn := hI.1.2.2.1
  obtain ⟨w1, e1, e2⟩ := x_swO (r := r) (r 0 0) 6000 0 wx hI.1.1 hI.1.2.2 (by omega) (by omega)
  obtain ⟨w2, e3, e4⟩ := m_swO (r := r) (r 0 0) 6000 0 wm hI.mc hI.2.2.2.2.2.2 (by omega) (by omega)
  refine ⟨_, w1, w2, e1, e3, ?_⟩
  obtain ⟨⟨a1, a2, a3⟩, ⟨b1, b2, b3, b4⟩, ⟨c1, c2, c3, c4⟩, d, ⟨f1, f2, f3, f4⟩, g1, g2⟩ := hI
  refine ⟨r, ri, k, f, ⟨a1.to (fun o k h1 h2 h3 => by rw [e2 o (by omega)]), a2.to (fun o k h1 h2 h3 => e4 o k (by omega)), a3⟩, ⟨b1.to (fun o k h1 h2 h3 => by rw [e2 o (by omega)]), b2.to2 (fun o k hk => e4 o k (by omega)), b3, ?_⟩, ⟨c1, ?_, ?_, fun i hi => ?_⟩, fun i hi => ?_, ⟨f1, ?_, ?_, fun i hi => ?_⟩, fun i hi => ?_, ?_⟩
  · rw [e2 0 (by decide), e4 0 25 (by omega)]; exact b4
  · rw [e2 0 (by decide)]; exact c2
  · rw [e4 0 4 (by omega)]; exact c3
  · rw [e2 38 (by decide), e4 8 i (by omega)]; exact c4 i hi
  · rw [e2 39 (by decide), e4 9 i (by omega)]; exact d i hi
  · rw [e2 29 (by decide)]; exact f2
  · rw [e4 0 3 (by omega)]; exact f3
  · rw [e2 30 (by decide), e4 7 i (by omega)]; exact f4 i hi
  · rw [e4 10 i (fun _ => hi)]; exact g1 i hi
  · rw [e4 0 19 (by omega)]; exact g2
