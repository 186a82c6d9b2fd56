/-! ===== blocks: the model's side ===== -/
def rb4 (r : Rf) (a va b vb : Nat) : Rf := fun j i => if j = 4 then (if i = b then vb else if i = a then va else r 4 i) else r j i
def W4 (w0 : gx_Wd) (a b : Nat) (w : gx_Wd) : Prop := ∀ o k, ¬ (o = 4 ∧ (k = a ∨ k = b)) → w o k = w0 o k
theorem MC.blk {w0 w : gx_Wd} {r : Rf} {a b va vb : Nat} (h : MC w0 r iD nO) (hw : W4 w0 a b w) (h1 : a ≠ b → w 4 a = nI va) (h2 : w 4 b = nI vb) (ha : va ≤ 9) (hb : vb ≤ 9) : MC w (rb4 r a va b vb) iD nO := by
  obtain ⟨⟨f1, f2, f3, f4⟩, ⟨k1, k2, k3, k4, k5, k6, k7⟩, h3, h4⟩ := h
  refine ⟨⟨fun k hk => by rw [hw 0 k (by omega)]; exact f1 k hk, fun j j1 j2 i hi => ?_, fun i hi => by rw [hw (0 + 5) i (by omega)]; exact f3 i hi, fun i hi => by rw [hw (0 + 6) i (by omega)]; exact f4 i hi⟩, ⟨k1, k2, k3, k4, fun i hi => ?_, k6, k7⟩, fun p hp => by rw [hw 10 p (by omega)]; exact h3 p hp, fun p hp => by rw [hw 0 19 (by omega)]; exact h4 p hp⟩
  · unfold rb4
    by_cases c : j = 4
    · subst c
      rw [if_pos rfl]
      by_cases c1 : i = b
      · rw [if_pos c1, c1]; exact h2
      · rw [if_neg c1]
        by_cases c2 : i = a
        · rw [if_pos c2, c2]; exact h1 (fun z => c1 (c2.trans z))
        · rw [if_neg c2, hw (0 + 4) i (by omega)]; exact f2 4 j1 j2 i hi
    · rw [if_neg c, hw (0 + j) i (by omega)]; exact f2 j j1 j2 i hi
  · obtain ⟨q1, q2, q3, q4⟩ := k5 i hi
    refine ⟨q1, q2, q3, ?_⟩
    unfold rb4
    rw [if_pos rfl]
    split
    · exact hb
    · split
      · exact ha
      · exact q4
theorem HF_rb4 {r : Rf} {a x b y va vb : Nat} (h1 : a ≠ b → va = r 4 a + x ∧ vb = r 4 b + y) (h2 : a = b → vb = r 4 a + x) : xF (rb4 r a va b vb) ((rb4 r a va b vb) 0 1) ((rb4 r a va b vb) 0 2) iD r0 nO ((rb4 r a va b vb) 5) = HF r (raP a x b y) := by
  have ht : ∀ p, tP (rb4 r a va b vb) p + r0 p = tP r p + raP a x b y p := by
    intro p
    have e : tP (rb4 r a va b vb) p = r 6 (r 0 1 + p) + r 3 p + (if p = b then vb else if p = a then va else r 4 p) := rfl
    rw [e]
    unfold tP raP
    simp only [r0]
    by_cases c : a = b
    · subst c
      have := h2 rfl
      by_cases d : p = a
      · simp [d]; omega
      · simp [d]
    · obtain ⟨q1, q2⟩ := h1 c
      by_cases d : p = b
      · simp [d, c]; omega
      · by_cases d2 : p = a
        · simp [d2, c]; omega
        · simp [d, d2]
  unfold HF xF
  refine cFirm_congr (fun p hp => ?_) (fun p hp => ?_) (fun _ _ => rfl)
  · rw [xB_ra, xB_ra, ht]
    rfl
  · rw [xG_ra, xG_ra, ht]
    rfl
section
variable {r : Rf}
theorem m_bI {w0 : gx_Wd} (h0 : MC w0 r iD nO) {K : Int32 → Int32 → Int32 → Int32 → Int32 → Int32 → gx_Wd → Option (Int32 × gx_Wd)} {a b x : Nat} (hab : a ≤ b) (hb : b < r 0 0) (hx : r 4 a + x < 10) : ∀ (j f y least : Nat) (w : gx_Wd), r 4 b + y + j = 10 → j < f → least ≤ 99 → W4 w0 a b w → ∃ least' w', m_blocksFor_35 K f (nI a) (nI b) (nI (r 4 a)) (nI (r 4 b)) (nI least) (nI x) (nI y) w = K (nI a) (nI b) (nI (r 4 a)) (nI (r 4 b)) (nI least') (nI (x + 1)) w' ∧ W4 w0 a b w' ∧ least' ≤ least ∧ (least' = least ∨ Val r a b least') ∧ ∀ y', y ≤ y' → r 4 b + y' < 10 → (a = b → y' = 0) → HF r (raP a x b y') = true → least' ≤ x + y' := by
  have hn := h0.2.1.1
  have ha7 : a < 7 := by omega
  have hb7 : b < 7 := by omega
  intro j
  induction j with
  | zero =>
    intro f y least w hy hf hl hw
    obtain ⟨f, rfl⟩ : ∃ g, f = g + 1 := ⟨f - 1, by omega⟩
    refine ⟨least, w, ?_, hw, Nat.le_refl _, Or.inl rfl, fun y' h1 h2 => by omega⟩
    rw [m_blocksFor_35, nI_add, if_pos (show (10 : Int32) ≤ nI (r 4 b + y) from nI_le (a := 10) (by omega) (by omega))]
    simp only [m_blocksFor_120, gx_bs]
    rw [nI_1]
  | succ j ih =>
    intro f y least w hy hf hl hw
    obtain ⟨f, rfl⟩ : ∃ g, f = g + 1 := ⟨f - 1, by omega⟩
    rw [m_blocksFor_35, nI_add, if_neg (show ¬ (10 : Int32) ≤ nI (r 4 b + y) from nI_ge (b := 10) (by omega) (by omega)), nI_add]
    by_cases c1 : least ≤ x + y
    · rw [if_pos (nI_le c1 (by omega))]
      refine ⟨least, w, ?_, hw, Nat.le_refl _, Or.inl rfl, fun y' h1 h2 _ _ => by omega⟩
      simp only [m_blocksFor_120, gx_bs]
      rw [nI_1]
    · rw [if_neg (nI_ge (by omega) (by omega))]
      by_cases c2 : a = b ∧ 0 < y
      · obtain ⟨c2, c3⟩ := c2
        rw [if_pos (by rw [c2]), if_neg (show ¬ nI y ≤ 0 from nI_nle c3 (by omega))]
        obtain ⟨least', w', g1, g2, g3, g4, g5⟩ := ih f (y + 1) least w (by omega) (by omega) hl hw
        refine ⟨least', w', ?_, g2, g3, g4, fun y' h1 h2 h3 h4 => ?_⟩
        · simp only [m_blocksFor_114, gx_bs]
          rw [nI_1]
          exact g1
        · have := h3 c2; omega
      · have hbody : m_blocksFor_68 K (m_blocksFor_35 K f) (nI a) (nI b) (nI (r 4 a)) (nI (r 4 b)) (nI least) (nI x) (nI y) w = (if nI a = nI b then (if nI y ≤ 0 then m_blocksFor_68 K (m_blocksFor_35 K f) (nI a) (nI b) (nI (r 4 a)) (nI (r 4 b)) (nI least) (nI x) (nI y) w else m_blocksFor_114 K (m_blocksFor_35 K f) (nI a) (nI b) (nI (r 4 a)) (nI (r 4 b)) (nI least) (nI x) (nI y) w) else m_blocksFor_68 K (m_blocksFor_35 K f) (nI a) (nI b) (nI (r 4 a)) (nI (r 4 b)) (nI least) (nI x) (nI y) w) := by
          by_cases d : nI a = nI b
          · have d2 : a = b := (nI_eq (by omega) (by omega)).mp d
            rw [if_pos d, if_pos (show nI y ≤ 0 from nI_le (b := 0) (by omega) (by omega))]
          · rw [if_neg d]
        rw [← hbody]
        -- the state that is tried
        obtain ⟨w2, hw2, hb2, hH⟩ : ∃ w2, W4 w0 a b w2 ∧ m_blocksFor_68 K (m_blocksFor_35 K f) (nI a) (nI b) (nI (r 4 a)) (nI (r 4 b)) (nI least) (nI x) (nI y) w = m_blocksFor_95 K (m_blocksFor_35 K f) (nI a) (nI b) (nI (r 4 a)) (nI (r 4 b)) (nI least) (nI x) (nI y) w2 ∧ m_isHeld w2 = some (bI (HF r (raP a x b y)), w2) := by
          by_cases d : a = b
          · subst d
            refine ⟨gx_w w 4 a (nI (r 4 a + x)), fun o k hk => by rw [px_wk (by omega)]; exact hw o k hk, ?_, ?_⟩
            · unfold m_blocksFor_68
              simp only [nI_add, px_ast (sh := sh_m) (N := 7) (o := 4) rfl ha7 (by decide), gx_bs]
              rw [if_pos trivial]
            · have hM : MC (gx_w w 4 a (nI (r 4 a + x))) (rb4 r a (r 4 a + x) a (r 4 a + x)) iD nO := h0.blk (b := a) (fun o k hk => by rw [px_wk (by omega)]; exact hw o k hk) (fun _ => px_ws) px_ws (by omega) (by omega)
              have e := hM.f
              rw [HF_rb4 (x := x) (y := y) (fun z => absurd rfl z) (fun _ => rfl)] at e
              exact e
          · refine ⟨gx_w (gx_w w 4 a (nI (r 4 a + x))) 4 b (nI (r 4 b + y)), fun o k hk => by rw [px_wk (by omega), px_wk (by omega)]; exact hw o k hk, ?_, ?_⟩
            · unfold m_blocksFor_68
              simp only [nI_add, px_ast (sh := sh_m) (N := 7) (o := 4) rfl ha7 (by decide), px_ast (sh := sh_m) (N := 7) (o := 4) rfl hb7 (by decide), gx_bs]
              rw [if_neg (fun z => d ((nI_eq (by omega) (by omega)).mp z))]
            · have hM : MC (gx_w (gx_w w 4 a (nI (r 4 a + x))) 4 b (nI (r 4 b + y))) (rb4 r a (r 4 a + x) b (r 4 b + y)) iD nO := h0.blk (fun o k hk => by rw [px_wk (by omega), px_wk (by omega)]; exact hw o k hk) (fun _ => by rw [px_wn d, px_ws]) px_ws (by omega) (by omega)
              have e := hM.f
              rw [HF_rb4 (x := x) (y := y) (fun _ => ⟨rfl, rfl⟩) (fun z => absurd z d)] at e
              exact e
        rw [hb2]
        have step : m_blocksFor_95 K (m_blocksFor_35 K f) (nI a) (nI b) (nI (r 4 a)) (nI (r 4 b)) (nI least) (nI x) (nI y) w2 = m_blocksFor_35 K f (nI a) (nI b) (nI (r 4 a)) (nI (r 4 b)) (nI (if HF r (raP a x b y) = true then x + y else least)) (nI x) (nI (y + 1)) w2 := by
          simp only [m_blocksFor_95, hH, gx_bs, bI_ite, m_blocksFor_112, m_blocksFor_114, nI_add, nI_1]
          by_cases d : HF r (raP a x b y) = true
          · simp only [if_pos d]
          · simp only [if_neg d]
        rw [step]
        by_cases d : HF r (raP a x b y) = true
        · rw [if_pos d]
          obtain ⟨least', w', g1, g2, g3, g4, g5⟩ := ih f (y + 1) (x + y) w2 (by omega) (by omega) (by omega) hw2
          refine ⟨least', w', g1, g2, by omega, ?_, fun y' h1 h2 h3 h4 => ?_⟩
          · rcases g4 with g4 | g4
            · right
              rw [g4]
              exact ⟨x, y, hx, by omega, fun z => by omega, d, rfl⟩
            · exact Or.inr g4
          · by_cases e : y' = y
            · omega
            · exact g5 y' (by omega) h2 h3 h4
        · rw [if_neg d]
          obtain ⟨least', w', g1, g2, g3, g4, g5⟩ := ih f (y + 1) least w2 (by omega) (by omega) hl hw2
          refine ⟨least', w', g1, g2, g3, g4, fun y' h1 h2 h3 h4 => ?_⟩
          by_cases e : y' = y
          · subst e; exact absurd h4 d
          · exact g5 y' (by omega) h2 h3 h4
theorem m_bO {w0 : gx_Wd} (h0 : MC w0 r iD nO) {a b : Nat} (hab : a ≤ b) (hb : b < r 0 0) : ∀ (j f x least : Nat) (w : gx_Wd), r 4 a + x + j = 10 → j < f → least ≤ 99 → W4 w0 a b w → ∃ least' w', m_blocksFor_22 f (nI a) (nI b) (nI (r 4 a)) (nI (r 4 b)) (nI least) (nI x) w = some (nI least', w') ∧ (∀ o k, w' o k = w0 o k) ∧ least' ≤ least ∧ (least' = least ∨ Val r a b least') ∧ ∀ x' y', x ≤ x' → r 4 a + x' < 10 → r 4 b + y' < 10 → (a = b → y' = 0) → HF r (raP a x' b y') = true → least' ≤ x' + y' := by
  have hn := h0.2.1.1
  have ha7 : a < 7 := by omega
  have hb7 : b < 7 := by omega
  have qa := (h0.2.1.2.2.2.2.1 a ha7).2.2.2
  have qb := (h0.2.1.2.2.2.2.1 b hb7).2.2.2
  have wa : w0 4 a = nI (r 4 a) := by have := h0.1.2.1 4 (by decide) (by decide) a ha7; simpa using this
  have wb : w0 4 b = nI (r 4 b) := by have := h0.1.2.1 4 (by decide) (by decide) b hb7; simpa using this
  intro j
  induction j with
  | zero =>
    intro f x least w hx hf hl hw
    obtain ⟨f, rfl⟩ : ∃ g, f = g + 1 := ⟨f - 1, by omega⟩
    refine ⟨least, gx_w (gx_w w 4 b (nI (r 4 b))) 4 a (nI (r 4 a)), ?_, fun o k => ?_, Nat.le_refl _, Or.inl rfl, fun x' y' h1 h2 => by omega⟩
    · rw [m_blocksFor_22, nI_add, if_pos (show (10 : Int32) ≤ nI (r 4 a + x) from nI_le (a := 10) (by omega) (by omega))]
      simp only [m_blocksFor_126, px_ast (sh := sh_m) (N := 7) (o := 4) rfl ha7 (by decide), px_ast (sh := sh_m) (N := 7) (o := 4) rfl hb7 (by decide), gx_bs]
    · by_cases c1 : o = 4 ∧ k = a
      · rw [c1.1, c1.2, px_ws, wa]
      · rw [px_wk c1]
        by_cases c2 : o = 4 ∧ k = b
        · rw [c2.1, c2.2, px_ws, wb]
        · rw [px_wk c2]
          exact hw o k (by omega)
  | succ j ih =>
    intro f x least w hx hf hl hw
    obtain ⟨f, rfl⟩ : ∃ g, f = g + 1 := ⟨f - 1, by omega⟩
    rw [m_blocksFor_22, nI_add, if_neg (show ¬ (10 : Int32) ≤ nI (r 4 a + x) from nI_ge (b := 10) (by omega) (by omega))]
    obtain ⟨l1, w1, g1, g2, g3, g4, g5⟩ := m_bI (r := r) h0 (K := m_blocksFor_22 f) (x := x) hab hb (by omega) (10 - r 4 b) 6000 0 least w (by omega) (by omega) hl hw
    obtain ⟨l2, w2, d1, d2, d3, d4, d5⟩ := ih f (x + 1) l1 w1 (by omega) (by omega) (by omega) g2
    refine ⟨l2, w2, (show m_blocksFor_35 (m_blocksFor_22 f) 6000 (nI a) (nI b) (nI (r 4 a)) (nI (r 4 b)) (nI least) (nI x) 0 w = _ from g1).trans d1, d2, by omega, ?_, fun x' y' h1 h2 h3 h4 h5 => ?_⟩
    · rcases d4 with d4 | d4
      · rcases g4 with g4 | g4
        · left; omega
        · right; rw [d4]; exact g4
      · exact Or.inr d4
    · by_cases e : x' = x
      · subst e
        have := g5 y' (Nat.zero_le _) h3 h4 h5
        omega
      · exact d5 x' y' (by omega) h2 h3 h4 h5
theorem m_bF {w0 : gx_Wd} (h0 : MC w0 r iD nO) {a b least : Nat} (hab : a ≤ b) (hb : b < r 0 0) (hl : least ≤ 99) : ∃ least' w', m_blocksFor (nI a) (nI b) (nI least) w0 = some (nI least', w') ∧ (∀ o k, w' o k = w0 o k) ∧ least' ≤ least ∧ (least' = least ∨ Val r a b least') ∧ ∀ v, Val r a b v → least' ≤ v := by
  have hn := h0.2.1.1
  have ha7 : a < 7 := by omega
  have hb7 : b < 7 := by omega
  have qa := (h0.2.1.2.2.2.2.1 a ha7).2.2.2
  have wa : w0 4 a = nI (r 4 a) := by have := h0.1.2.1 4 (by decide) (by decide) a ha7; simpa using this
  have wb : w0 4 b = nI (r 4 b) := by have := h0.1.2.1 4 (by decide) (by decide) b hb7; simpa using this
  obtain ⟨l1, w1, g1, g2, g3, g4, g5⟩ := m_bO (r := r) h0 hab hb (10 - r 4 a) 6000 0 least w0 (by omega) (by omega) hl (fun _ _ _ => rfl)
  refine ⟨l1, w1, ?_, g2, g3, g4, ?_⟩
  · simp only [m_blocksFor, px_ald (sh := sh_m) (N := 7) (o := 4) rfl ha7 (by decide), px_ald (sh := sh_m) (N := 7) (o := 4) rfl hb7 (by decide), gx_bs, wa, wb]
    exact g1
  · rintro v ⟨x, y, h1, h2, h3, h4, rfl⟩
    exact g5 x y (Nat.zero_le _) h1 h2 h3 h4
theorem MC.same {w w' : gx_Wd} {q : Nat → Nat} {I : Nat → Bool} (h : MC w r q I) (hw : ∀ o k, w' o k = w o k) : MC w' r q I := by
  have : w' = w := by funext o k; exact hw o k
  rw [this]; exact h
theorem m_cI {a : Nat} {K : Int32 → Int32 → gx_Wd → Option (Int32 × gx_Wd)} : ∀ (j f b least : Nat) (w : gx_Wd), MC w r iD nO → least ≤ 99 → a ≤ b → b + j = r 0 0 → j < f → ∃ least', m_blocks_24 K f (nI least) (nI a) (nI b) w = K (nI least') (nI (a + 1)) w ∧ least' ≤ least ∧ (least' = least ∨ ∃ b', a ≤ b' ∧ b' < r 0 0 ∧ Val r a b' least') ∧ ∀ b' v, b ≤ b' → b' < r 0 0 → Val r a b' v → least' ≤ v := by
  intro j
  induction j with
  | zero =>
    intro f b least w h hl hab hb hf
    have hn := h.2.1.1
    obtain ⟨f, rfl⟩ : ∃ g, f = g + 1 := ⟨f - 1, by omega⟩
    refine ⟨least, ?_, Nat.le_refl _, Or.inl rfl, fun b' v h1 h2 => by omega⟩
    rw [m_blocks_24, h.1.n, if_pos (nI_le (by omega) (by omega))]
    simp only [m_blocks_46, gx_bs]
    rw [nI_1]
  | succ j ih =>
    intro f b least w h hl hab hb hf
    have hn := h.2.1.1
    obtain ⟨f, rfl⟩ : ∃ g, f = g + 1 := ⟨f - 1, by omega⟩
    obtain ⟨l1, w1, g1, g2, g3, g4, g5⟩ := m_bF (r := r) h hab (show b < r 0 0 by omega) hl
    have hw1 : w1 = w := by funext o k; exact g2 o k
    subst hw1
    obtain ⟨l2, d1, d2, d3, d4⟩ := ih f (b + 1) l1 w1 h (by omega) (by omega) (by omega) (by omega)
    refine ⟨l2, ?_, by omega, ?_, fun b' v h1 h2 h3 => ?_⟩
    · rw [m_blocks_24, h.1.n, if_neg (nI_ge (by omega) (by omega)), g1]
      simp only [gx_bs]
      rw [nI_1]
      exact d1
    · rcases d3 with d3 | d3
      · rcases g4 with g4 | g4
        · left; omega
        · right; exact ⟨b, hab, by omega, by rw [d3]; exact g4⟩
      · exact Or.inr d3
    · by_cases e : b' = b
      · subst e; have := g5 v h3; omega
      · exact d4 b' v (by omega) h2 h3
theorem m_cO : ∀ (j f a least : Nat) (w : gx_Wd), MC w r iD nO → least ≤ 99 → a + j = r 0 0 → j < f → ∃ least', m_blocks_14 f (nI least) (nI a) w = some (if least' = 99 then -9 else nI least', w) ∧ least' ≤ least ∧ (least' = least ∨ ∃ a' b', a' ≤ b' ∧ b' < r 0 0 ∧ Val r a' b' least') ∧ ∀ a' b' v, a ≤ a' → a' ≤ b' → b' < r 0 0 → Val r a' b' v → least' ≤ v := by
  intro j
  induction j with
  | zero =>
    intro f a least w h hl ha hf
    have hn := h.2.1.1
    obtain ⟨f, rfl⟩ : ∃ g, f = g + 1 := ⟨f - 1, by omega⟩
    refine ⟨least, ?_, Nat.le_refl _, Or.inl rfl, fun a' b' v h1 h2 h3 => by omega⟩
    rw [m_blocks_14, h.1.n, if_pos (nI_le (by omega) (by omega))]
    unfold m_blocks_52
    by_cases c : least = 99
    · rw [if_pos (show nI least = 99 by rw [c]; rfl), if_pos c]
    · rw [if_neg (show ¬ nI least = 99 from fun z => c ((nI_eq (b := 99) (by omega) (by omega)).mp z)), if_neg c]
  | succ j ih =>
    intro f a least w h hl ha hf
    have hn := h.2.1.1
    obtain ⟨f, rfl⟩ : ∃ g, f = g + 1 := ⟨f - 1, by omega⟩
    obtain ⟨l1, g1, g2, g3, g4⟩ := m_cI (r := r) (a := a) (K := m_blocks_14 f) (r 0 0 - a) 6000 a least w h hl (Nat.le_refl a) (by omega) (by omega)
    obtain ⟨l2, d1, d2, d3, d4⟩ := ih f (a + 1) l1 w h (by omega) (by omega) (by omega)
    refine ⟨l2, ?_, by omega, ?_, fun a' b' v h1 h2 h3 h5 => ?_⟩
    · rw [m_blocks_14, h.1.n, if_neg (nI_ge (by omega) (by omega)), g1, d1]
    · rcases d3 with d3 | d3
      · rcases g3 with g3 | ⟨b', q1, q2, q3⟩
        · left; omega
        · right; exact ⟨a, b', q1, q2, by rw [d3]; exact q3⟩
      · exact Or.inr d3
    · by_cases e : a' = a
      · subst e; have := g4 b' v h2 h3 h5; omega
      · exact d4 a' b' v (by omega) h2 h3 h5
end
theorem P_blocks {wx wm : gx_Wd} (h : Inv wx wm) : Eq2 (x_E_blocks wx) (m_blocks wm) := by
  have h0 := h
  obtain ⟨r, ri, k, f, hI⟩ := h
  have hn := hI.1.2.2.1
  obtain ⟨w1, e1, e2, hX⟩ := x_told hI.1.1 hI.1.2.2
  obtain ⟨w2, e3, e4, hX2⟩ := hX.f
  have hm := hI.mc.f
  have o2 : ∀ o, (o < 22 ∨ 29 ≤ o) → w2 o = wx o := fun o ho => by rw [e4 o (by omega) (by omega) (by omega), e2 o (by omega)]
  by_cases c : xF r (r 0 1) (r 0 2) iD r0 nO (r 5) = true
  · refine ⟨0, w2, wm, ?_, ?_, h0.to (fun o k hk => by rw [o2 o (by unfold xKeep at hk; omega)]) (fun _ _ _ => rfl)⟩
    · simp only [x_E_blocks, e1, e3, gx_bs, bI_ite]
      rw [if_pos c]
    · simp only [m_blocks, hm, gx_bs, bI_ite]
      rw [if_pos c]
  · have hF : HF r r0 = false := by
      have : HF r r0 = xF r (r 0 1) (r 0 2) iD r0 nO (r 5) := rfl
      rw [this]
      simpa using c
    obtain ⟨w3, d1, d2⟩ := x_blO (r := r) hI.1.2.2 (r 0 0) 6000 0 none w2 (hI.1.1.to (fun o k q1 q2 q3 => by rw [o2 o (by omega)])) (fun v hv => by cases hv) (by omega) (by omega)
    obtain ⟨lm, g1, g2, g3, g4⟩ := m_cO (r := r) (r 0 0) 6000 0 99 wm hI.mc (by omega) (by omega) (by omega)
    obtain ⟨s1, s2, -⟩ := bxO_spec (r := r) (r 0 0) 0 none (by omega)
    have fin : oI (bxO r (r 0 0) 0 none) = if lm = 99 then -9 else nI lm := by
      cases hb : bxO r (r 0 0) 0 none with
      | none =>
        have no : ∀ a' b', a' ≤ b' → b' < r 0 0 → ¬ 0 < cand r a' b' := fun a' b' h1 h2 h3 => by
          obtain ⟨v, v1, v2⟩ := s2 a' b' (Nat.zero_le _) h1 h2 h3
          rw [hb] at v2; cases v2
        rcases g3 with g3 | ⟨a', b', q1, q2, q3⟩
        · rw [if_pos g3]; rfl
        · obtain ⟨a2, b2, p1, p2, p3, p4⟩ := val_cand hn hF q1 q2 q3
          exact absurd p3 (no a2 b2 p1 p2)
      | some v =>
        rcases s1 v hb with h | ⟨a', b', q1, q2, q3, q4⟩
        · cases h
        · have hv := g4 a' b' v (Nat.zero_le _) q1 q2 (by rw [q3]; exact cand_val (by omega))
          have hlt : v < 99 := by
            have lkl : ∀ p, lk r p ≤ 9 := fun p => by
              unfold lk
              split
              · omega
              · omega
            have := lkl a'
            have := lkl b'
            rw [q3]
            unfold cand
            repeat' split
            all_goals omega
          rw [if_neg (by omega)]
          rcases g3 with g3 | ⟨a3, b3, p1, p2, p3⟩
          · omega
          · obtain ⟨a2, b2, t1, t2, t3, t4⟩ := val_cand hn hF p1 p2 p3
            obtain ⟨u, u1, u2⟩ := s2 a2 b2 (Nat.zero_le _) t1 t2 t3
            rw [hb] at u2
            cases u2
            have : v = lm := by omega
            rw [this]
            rfl
    refine ⟨oI (bxO r (r 0 0) 0 none), w3, wm, ?_, ?_, h0.to (fun o k hk => by rw [d2 o (by unfold xKeep at hk; omega), o2 o (by unfold xKeep at hk; omega)]) (fun _ _ _ => rfl)⟩
    · simp only [x_E_blocks, e1, e3, gx_bs, bI_ite]
      rw [if_neg c]
      exact d1
    · simp only [m_blocks, hm, gx_bs, bI_ite]
      rw [if_neg c, fin]
      exact g1
