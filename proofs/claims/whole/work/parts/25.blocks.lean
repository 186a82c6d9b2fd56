/-! ===== blocks: the least sum that lets it hold ===== -/
theorem cFirm_might {n : Nat} {B : Nat → Bool} {G G' wt : Nat → Nat} (hn : n ≤ 7) (hG : ∀ p, p < n → G p ≤ G' p) (h : cFirm n B G wt = true) : cFirm n B G' wt = true := by
  rw [cFirm_iff hn] at h ⊢
  exact ⟨fun p hp => Nat.le_trans (h.1 p hp) (Nat.mul_le_mul_left 2 (hG p hp)), h.2⟩
theorem gM_anti {k s t t' l : Nat} (h : t ≤ t') : gM k s t' l ≤ gM k s t l := by
  have e : (if l < t' then s / 2 else s) ≤ (if l < t then s / 2 else s) := by
    split <;> split <;> omega
  unfold gM
  by_cases c1 : k = 1
  · rw [if_pos c1, if_pos c1]; exact Nat.div_le_div_right e
  · rw [if_neg c1, if_neg c1]
    by_cases c2 : k = 2
    · rw [if_pos c2, if_pos c2]; exact Nat.mul_le_mul_left 2 e
    · rw [if_neg c2, if_neg c2]
      by_cases c4 : k = 4
      · rw [if_pos c4, if_pos c4]; exact Nat.sub_le_sub_right e 3
      · rw [if_neg c4, if_neg c4]
        by_cases c5 : k = 5
        · rw [if_pos c5, if_pos c5]; exact Nat.le_refl _
        · rw [if_neg c5, if_neg c5]; exact e
/-- whether it holds with what is put under -/
def HF (r : Rf) (ra : Nat → Nat) : Bool := xF r (r 0 1) (r 0 2) iD ra nO (r 5)
def raP (a x b y : Nat) : Nat → Nat := fun p => if p = b ∧ a ≠ b then y else if p = a then x else 0
def tP (r : Rf) (p : Nat) : Nat := r 6 (r 0 1 + p) + r 3 p + r 4 p
/-- as much as brings him just to the level, or nothing -/
def nrm (r : Rf) (p x : Nat) : Nat := if tP r p < r 0 2 ∧ r 0 2 ≤ tP r p + x then r 0 2 - tP r p else 0
theorem nrm_le {r : Rf} {p x : Nat} : nrm r p x ≤ x := by unfold nrm; split <;> omega
theorem xB_ra {r : Rf} {ra : Nat → Nat} {p : Nat} : xB r (r 0 1) (r 0 2) iD ra nO p = (!(decide (r 1 p = 3)) && decide (r 0 2 ≤ tP r p + ra p)) := by
  unfold xB cB rK rT tP
  simp [nO]
theorem xG_ra {r : Rf} {ra : Nat → Nat} {p : Nat} : xG r (r 0 1) (r 0 2) iD ra p = gM (r 1 p) (r 2 p) (tP r p + ra p) (r 0 2) := rfl
theorem HF_nrm {r : Rf} (hn : r 0 0 ≤ 7) {ra : Nat → Nat} (h : HF r ra = true) : HF r (fun p => nrm r p (ra p)) = true := by
  unfold HF xF at h ⊢
  refine cFirm_might hn (G := xG r (r 0 1) (r 0 2) iD ra) (fun p hp => ?_) ?_
  · rw [xG_ra, xG_ra]
    exact gM_anti (Nat.add_le_add_left nrm_le _)
  · rw [← h]
    refine cFirm_congr (fun p hp => ?_) (fun _ _ => rfl) (fun _ _ => rfl)
    rw [xB_ra, xB_ra]
    congr 1
    have : (r 0 2 ≤ tP r p + nrm r p (ra p)) ↔ (r 0 2 ≤ tP r p + ra p) := by
      unfold nrm
      split <;> omega
    exact decide_eq_decide.mpr this
theorem HF_congr {r : Rf} {ra ra' : Nat → Nat} (h : ∀ p, p < r 0 0 → ra p = ra' p) : HF r ra = HF r ra' := by
  unfold HF xF
  refine cFirm_congr (fun p hp => ?_) (fun p hp => ?_) (fun _ _ => rfl)
  · rw [xB_ra, xB_ra, h p hp]
  · rw [xG_ra, xG_ra, h p hp]
/-- what the model tries: raises of two, or of one -/
def Val (r : Rf) (a b v : Nat) : Prop := ∃ x y, r 4 a + x < 10 ∧ r 4 b + y < 10 ∧ (a = b → y = 0) ∧ HF r (raP a x b y) = true ∧ v = x + y
/-- what the class tries -/
def lk (r : Rf) (p : Nat) : Nat := if tP r p < r 0 2 ∧ r 4 p + (r 0 2 - tP r p) ≤ 9 then r 0 2 - tP r p else 0
def cand (r : Rf) (a b : Nat) : Nat := if a = b then (if 0 < lk r a ∧ HF r (raP a (lk r a) a 0) = true then lk r a else 0) else (if 0 < lk r a ∧ 0 < lk r b ∧ HF r (raP a (lk r a) b (lk r b)) = true then lk r a + lk r b else 0)
theorem lk_ok {r : Rf} {p : Nat} (h : 0 < lk r p) : r 4 p + lk r p < 10 := by
  unfold lk at h ⊢
  split at h
  · rename_i c; rw [if_pos c]; omega
  · omega
theorem cand_val {r : Rf} {a b : Nat} (h : 0 < cand r a b) : Val r a b (cand r a b) := by
  unfold cand at h ⊢
  by_cases c : a = b
  · subst c
    rw [if_pos rfl] at h ⊢
    by_cases c1 : 0 < lk r a ∧ HF r (raP a (lk r a) a 0) = true
    · rw [if_pos c1]
      have := lk_ok c1.1
      exact ⟨lk r a, 0, this, by omega, fun _ => rfl, c1.2, rfl⟩
    · rw [if_neg c1] at h; omega
  · rw [if_neg c] at h ⊢
    by_cases c1 : 0 < lk r a ∧ 0 < lk r b ∧ HF r (raP a (lk r a) b (lk r b)) = true
    · rw [if_pos c1]
      exact ⟨lk r a, lk r b, lk_ok c1.1, lk_ok c1.2.1, fun z => absurd z c, c1.2.2, rfl⟩
    · rw [if_neg c1] at h; omega
theorem nrm_lk {r : Rf} {p x : Nat} (hx : r 4 p + x < 10) (h : 0 < nrm r p x) : nrm r p x = lk r p := by
  unfold nrm at h ⊢
  unfold lk
  split at h
  · rename_i c; rw [if_pos c, if_pos (by omega)]
  · omega
theorem val_cand {r : Rf} (hn : r 0 0 ≤ 7) (hF : HF r r0 = false) {a b v : Nat} (ha : a ≤ b) (hb : b < r 0 0) (h : Val r a b v) : ∃ a' b', a' ≤ b' ∧ b' < r 0 0 ∧ 0 < cand r a' b' ∧ cand r a' b' ≤ v := by
  obtain ⟨x, y, h1, h2, h3, h4, rfl⟩ := h
  have h5 := HF_nrm hn h4
  have e : ∀ p, nrm r p (raP a x b y p) = raP a (nrm r a x) b (nrm r b y) p := by
    intro p
    unfold raP
    by_cases c1 : p = b ∧ a ≠ b
    · rw [if_pos c1, if_pos c1, c1.1]
    · rw [if_neg c1, if_neg c1]
      by_cases c2 : p = a
      · rw [if_pos c2, if_pos c2, c2]
      · rw [if_neg c2, if_neg c2]; have := @nrm_le r p 0; omega
  rw [HF_congr (fun p _ => e p)] at h5
  have l1 := @nrm_le r a x
  have l2 := @nrm_le r b y
  by_cases c : a = b
  · subst c
    by_cases c1 : 0 < nrm r a x
    · refine ⟨a, a, Nat.le_refl a, hb, ?_⟩
      have e1 := nrm_lk h1 c1
      have e2 : raP a (nrm r a x) a (nrm r a y) = raP a (lk r a) a 0 := by
        funext p; unfold raP; simp [e1]
      rw [e2] at h5
      unfold cand
      rw [if_pos rfl, if_pos ⟨by omega, h5⟩]
      omega
    · exfalso
      have e2 : ∀ p, raP a (nrm r a x) a (nrm r a y) p = r0 p := by
        intro p; unfold raP; simp [r0]; omega
      rw [HF_congr (fun p _ => e2 p), hF] at h5
      cases h5
  · by_cases c1 : 0 < nrm r a x
    · have e1 := nrm_lk h1 c1
      by_cases c2 : 0 < nrm r b y
      · have e3 := nrm_lk h2 c2
        refine ⟨a, b, ha, hb, ?_⟩
        rw [e1, e3] at h5
        unfold cand
        rw [if_neg c, if_pos ⟨by omega, by omega, h5⟩]
        omega
      · refine ⟨a, a, Nat.le_refl a, by omega, ?_⟩
        have e2 : raP a (nrm r a x) b (nrm r b y) = raP a (lk r a) a 0 := by
          funext p; unfold raP
          by_cases d : p = b
          · have : ¬ p = a := by omega
            have d2 : nrm r b y = 0 := by omega
            simp [d, c, d2]; omega
          · simp [d, e1]
        rw [e2] at h5
        unfold cand
        rw [if_pos rfl, if_pos ⟨by omega, h5⟩]
        omega
    · by_cases c2 : 0 < nrm r b y
      · have e3 := nrm_lk h2 c2
        refine ⟨b, b, Nat.le_refl b, hb, ?_⟩
        have e2 : raP a (nrm r a x) b (nrm r b y) = raP b (lk r b) b 0 := by
          funext p; unfold raP
          have d2 : nrm r a x = 0 := by omega
          by_cases d : p = b
          · simp [d, c, e3]
          · simp [d, d2]
        rw [e2] at h5
        unfold cand
        rw [if_pos rfl, if_pos ⟨by omega, h5⟩]
        omega
      · exfalso
        have e2 : ∀ p, raP a (nrm r a x) b (nrm r b y) p = r0 p := by
          intro p; unfold raP; simp only [r0]
          repeat' split
          all_goals omega
        rw [HF_congr (fun p _ => e2 p), hF] at h5
        cases h5
/-! the class's side -/
section
variable {r : Rf}
theorem x_raise {w : gx_Wd} {ra : Nat → Nat} {b : Nat} (h : XC w r (r 0 1) (r 0 2) iD ra nO (r 5)) (hb : b < r 0 0) (hra : ra b = 0) : ∃ w', x_E_raise (nI b) w = some (nI (lk r b), w') ∧ (∀ o, o ≠ 24 → w' o = w o) ∧ XC w' r (r 0 1) (r 0 2) iD (if 0 < lk r b then (fun p => if p = b then lk r b else ra p) else ra) nO (r 5) := by
  have hn := h.rok
  have hb7 : b < 7 := by omega
  have hap : r 0 1 + b < 16 := by have := h.2.2.1; omega
  have ht := x_top h hb7 hap
  have et : xT r (r 0 1) ra b b = tP r b := by unfold xT tP; omega
  rw [et] at ht
  have h5 : w 5 b = nI (r 4 b) := h.arr (j := 4) (by decide) (by decide) hb7
  have b4 := (h.2.1.2.2.2.2.1 b hb7)
  have tl := xT_le h hb7 hap
  rw [et] at tl
  have hl := h.2.2.2.1
  by_cases c1 : tP r b < r 0 2
  · have el : nI (r 0 2) - nI (tP r b) = nI (r 0 2 - tP r b) := pk_sub (by omega)
    by_cases c2 : r 4 b + (r 0 2 - tP r b) ≤ 9
    · have ek : lk r b = r 0 2 - tP r b := by unfold lk; rw [if_pos ⟨c1, c2⟩]
      rw [ek, if_pos (by omega)]
      refine ⟨gx_w w 24 b (nI (r 0 2 - tP r b)), ?_, fun o ho => px_wo ho, h.ras (by omega)⟩
      simp only [x_E_raise, ht, h.2.2.2.2.2.1, gx_bs, el, px_cell (N := 7) (o := 5) rfl hb7 (by decide), h5, nI_add, px_set (N := 7) (o := 24) rfl hb7 (by decide)]
      rw [if_neg (show ¬ nI (r 0 2 - tP r b) ≤ 0 from nI_nle (by omega) (by omega)), if_pos (show nI (r 4 b + (r 0 2 - tP r b)) ≤ 9 from nI_le (b := 9) c2 (by omega))]
    · have ek : lk r b = 0 := by unfold lk; rw [if_neg (fun z => c2 z.2)]
      rw [ek, if_neg (by omega)]
      refine ⟨w, ?_, fun _ _ => rfl, h⟩
      simp only [x_E_raise, ht, h.2.2.2.2.2.1, gx_bs, el, px_cell (N := 7) (o := 5) rfl hb7 (by decide), h5, nI_add]
      rw [if_neg (show ¬ nI (r 0 2 - tP r b) ≤ 0 from nI_nle (by omega) (by omega)), if_neg (show ¬ nI (r 4 b + (r 0 2 - tP r b)) ≤ 9 from nI_ge (a := 9) (by omega) (by omega))]
      rfl
  · have ek : lk r b = 0 := by unfold lk; rw [if_neg (fun z => c1 z.1)]
    rw [ek, if_neg (by omega)]
    refine ⟨w, ?_, fun _ _ => rfl, h⟩
    simp only [x_E_raise, ht, h.2.2.2.2.2.1, gx_bs]
    rw [if_pos]
    · rfl
    · rw [Int32.le_iff_toInt_le, pk_sub_toInt (by omega) (by omega)]
      simp
      omega
theorem x_rb {w : gx_Wd} (h : RF w 1 r) (hR : Rok 99 r) {a b : Nat} (hab : a ≤ b) (hb : b < r 0 0) : ∃ w', x_E_raiseBoth (nI a) (nI b) w = some (nI (cand r a b), w') ∧ ∀ o, (o < 22 ∨ 29 ≤ o) → w' o = w o := by
  have hn := hR.1
  obtain ⟨w1, e1, e2, hX⟩ := x_told h hR
  obtain ⟨w2, d1, d2, hX2⟩ := x_raise hX (b := a) (by omega) rfl
  have fin : ∀ (v : Nat) (ra : Nat → Nat) (w3 : gx_Wd), v < 1000 → XC w3 r (r 0 1) (r 0 2) iD ra nO (r 5) → (∀ o, (o < 22 ∨ 29 ≤ o) → w3 o = w o) → ∃ w', x_E_raiseBoth_43 (nI v) w3 = some (nI (if 0 < v ∧ HF r ra = true then v else 0), w') ∧ ∀ o, (o < 22 ∨ 29 ≤ o) → w' o = w o := by
    intro v ra w3 hv h3 ho
    unfold x_E_raiseBoth_43
    by_cases c : 0 < v
    · rw [if_neg (show ¬ nI v ≤ 0 from nI_nle c (by omega))]
      obtain ⟨w4, g1, g2, -⟩ := h3.f
      refine ⟨w4, ?_, fun o h => by rw [g2 o (by omega) (by omega) (by omega), ho o h]⟩
      simp only [g1, gx_bs, bI_ite]
      show (if HF r ra = true then _ else _) = _
      by_cases c2 : HF r ra = true
      · rw [if_pos c2, if_pos ⟨c, c2⟩]
      · rw [if_neg c2, if_neg (fun z => c2 z.2)]; rfl
    · rw [if_pos (show nI v ≤ 0 from nI_le (b := 0) (by omega) (by omega)), if_neg (fun z => c z.1)]
      exact ⟨w3, rfl, ho⟩
  have lkl : ∀ p, lk r p ≤ 27 := fun p => by unfold lk; have := hR.2.2.2.1; split <;> omega
  have o2 : ∀ o, (o < 22 ∨ 29 ≤ o) → w2 o = w o := fun o ho => by rw [d2 o (by omega), e2 o (by omega)]
  unfold x_E_raiseBoth
  simp only [e1, d1, gx_bs]
  by_cases c : a = b
  · subst c
    rw [if_pos rfl]
    obtain ⟨w', g1, g2⟩ := fin (lk r a) _ w2 (by have := lkl a; omega) hX2 o2
    refine ⟨w', ?_, g2⟩
    rw [g1]
    unfold cand
    rw [if_pos rfl]
    by_cases c1 : 0 < lk r a
    · rw [if_pos c1]
      have : HF r (fun p => if p = a then lk r a else r0 p) = HF r (raP a (lk r a) a 0) := HF_congr (fun p _ => by unfold raP; simp [r0])
      rw [this]
    · rw [if_neg (fun z => c1 z.1), if_neg (fun z => c1 z.1)]
  · rw [if_neg (fun z => c ((nI_eq (by omega) (by omega)).mp z.symm))]
    have hra : (if 0 < lk r a then (fun p => if p = a then lk r a else r0 p) else r0) b = 0 := by
      by_cases c1 : 0 < lk r a
      · rw [if_pos c1]; simp [r0]; omega
      · rw [if_neg c1]
    obtain ⟨w3, g1, g2, hX3⟩ := x_raise hX2 (b := b) hb hra
    have o3 : ∀ o, (o < 22 ∨ 29 ≤ o) → w3 o = w o := fun o ho => by rw [g2 o (by omega), o2 o ho]
    simp only [g1, gx_bs, x_E_raiseBoth_42]
    unfold cand
    rw [if_neg c]
    by_cases c1 : 0 < lk r a
    · rw [if_neg (show ¬ nI (lk r a) ≤ 0 from nI_nle c1 (by have := lkl a; omega))]
      by_cases c2 : 0 < lk r b
      · rw [if_neg (show ¬ nI (lk r b) ≤ 0 from nI_nle c2 (by have := lkl b; omega)), nI_add]
        obtain ⟨w', p1, p2⟩ := fin (lk r a + lk r b) _ w3 (by have := lkl a; have := lkl b; omega) hX3 o3
        refine ⟨w', ?_, p2⟩
        rw [p1, if_pos c2]
        have : HF r (fun p => if p = b then lk r b else (if 0 < lk r a then (fun p => if p = a then lk r a else r0 p) else r0) p) = HF r (raP a (lk r a) b (lk r b)) := HF_congr (fun p _ => by
          unfold raP
          rw [if_pos c1]
          by_cases d : p = b
          · simp [d, c]
          · simp [d, r0])
        rw [this]
        by_cases c3 : HF r (raP a (lk r a) b (lk r b)) = true
        · rw [if_pos ⟨by omega, c3⟩, if_pos ⟨c1, c2, c3⟩]
        · rw [if_neg (fun z => c3 z.2), if_neg (fun z => c3 z.2.2)]
      · rw [if_pos (show nI (lk r b) ≤ 0 from nI_le (b := 0) (by omega) (by omega)), if_neg (fun z => c2 z.2.1)]
        exact ⟨w3, by unfold x_E_raiseBoth_43; rw [if_pos (by decide)]; rfl, o3⟩
    · rw [if_pos (show nI (lk r a) ≤ 0 from nI_le (b := 0) (by omega) (by omega)), if_neg (fun z => c1 z.1)]
      exact ⟨w3, by unfold x_E_raiseBoth_43; rw [if_pos (by decide)]; rfl, o3⟩
def oI (o : Option Nat) : Int32 := match o with
  | some v => nI v
  | none => -9
def bx (o : Option Nat) (c : Nat) : Option Nat := if c = 0 then o else match o with
  | none => some c
  | some l => if l ≤ c then some l else some c
def bxI (r : Rf) (a : Nat) : Nat → Nat → Option Nat → Option Nat
  | 0, _, o => o
  | j + 1, b, o => bxI r a j (b + 1) (bx o (cand r a b))
def bxO (r : Rf) : Nat → Nat → Option Nat → Option Nat
  | 0, _, o => o
  | j + 1, a, o => bxO r j (a + 1) (bxI r a (r 0 0 - a) a o)
def oOk (o : Option Nat) : Prop := ∀ v, o = some v → 0 < v ∧ v < 1000
theorem bx_ok {o : Option Nat} {c : Nat} (ho : oOk o) (hc : c < 1000) : oOk (bx o c) := by
  intro v hv
  unfold bx at hv
  by_cases h : c = 0
  · rw [if_pos h] at hv; exact ho v hv
  · rw [if_neg h] at hv
    cases o with
    | none => cases hv; omega
    | some l =>
      simp only at hv
      split at hv
      · exact ho v hv
      · cases hv; omega
theorem cand_lt (hR : Rok 99 r) {a b : Nat} : cand r a b < 1000 := by
  have lkl : ∀ p, lk r p ≤ 27 := fun p => by unfold lk; have := hR.2.2.2.1; split <;> omega
  have := lkl a
  have := lkl b
  unfold cand
  repeat' split
  all_goals omega
theorem x_blI {a : Nat} {K : Int32 → Int32 → gx_Wd → Option (Int32 × gx_Wd)} (hR : Rok 99 r) : ∀ (j f b : Nat) (o : Option Nat) (w : gx_Wd), RF w 1 r → oOk o → a ≤ b → b + j = r 0 0 → j < f → ∃ w', x_E_blocks_37 K f (oI o) (nI a) (nI b) w = K (oI (bxI r a j b o)) (nI (a + 1)) w' ∧ oOk (bxI r a j b o) ∧ ∀ o, (o < 22 ∨ 29 ≤ o) → w' o = w o := by
  have hn := hR.1
  intro j
  induction j with
  | zero =>
    intro f b o w h ho hab hb hf
    obtain ⟨f, rfl⟩ : ∃ g, f = g + 1 := ⟨f - 1, by omega⟩
    refine ⟨w, ?_, ho, fun _ _ => rfl⟩
    rw [x_E_blocks_37, h.n, if_pos (nI_le (by omega) (by omega))]
    simp only [x_E_blocks_80, gx_bs, bxI]
    rw [nI_1]
  | succ j ih =>
    intro f b o w h ho hab hb hf
    obtain ⟨f, rfl⟩ : ∃ g, f = g + 1 := ⟨f - 1, by omega⟩
    obtain ⟨w1, e1, e2⟩ := x_rb h hR hab (show b < r 0 0 by omega)
    have hc := cand_lt (r := r) hR (a := a) (b := b)
    obtain ⟨w', g1, g2, g3⟩ := ih f (b + 1) (bx o (cand r a b)) w1 (h.to (fun o k h1 h2 h3 => by rw [e2 o (by omega)])) (bx_ok ho hc) (by omega) (by omega) (by omega)
    refine ⟨w', ?_, g2, fun o h => by rw [g3 o h, e2 o h]⟩
    rw [x_E_blocks_37, h.n, if_neg (nI_ge (by omega) (by omega))]
    simp only [e1, gx_bs, x_E_blocks_74, x_E_blocks_71]
    rw [nI_1, bxI]
    by_cases c : cand r a b = 0
    · rw [if_pos (show nI (cand r a b) ≤ 0 from nI_le (b := 0) (by omega) (by omega))]
      have : bx o (cand r a b) = o := by unfold bx; rw [if_pos c]
      rw [this] at g1 ⊢
      exact g1
    · rw [if_neg (show ¬ nI (cand r a b) ≤ 0 from nI_nle (by omega) (by omega))]
      cases o with
      | none =>
        rw [if_pos (show oI none < 0 by decide)]
        have : bx none (cand r a b) = some (cand r a b) := by unfold bx; rw [if_neg c]
        rw [this] at g1 ⊢
        exact g1
      | some l =>
        have hl := ho l rfl
        rw [if_neg (show ¬ oI (some l) < 0 from nI_pos (by omega))]
        by_cases c2 : l ≤ cand r a b
        · rw [if_pos (show oI (some l) ≤ nI (cand r a b) from nI_le c2 (by omega))]
          have : bx (some l) (cand r a b) = some l := by unfold bx; rw [if_neg c]; simp [c2]
          rw [this] at g1 ⊢
          exact g1
        · rw [if_neg (show ¬ oI (some l) ≤ nI (cand r a b) from nI_ge (by omega) (by omega))]
          have : bx (some l) (cand r a b) = some (cand r a b) := by unfold bx; rw [if_neg c]; simp [c2]
          rw [this] at g1 ⊢
          exact g1
theorem x_blO (hR : Rok 99 r) : ∀ (j f a : Nat) (o : Option Nat) (w : gx_Wd), RF w 1 r → oOk o → a + j = r 0 0 → j < f → ∃ w', x_E_blocks_24 f (oI o) (nI a) w = some (oI (bxO r j a o), w') ∧ ∀ o, (o < 22 ∨ 29 ≤ o) → w' o = w o := by
  have hn := hR.1
  intro j
  induction j with
  | zero =>
    intro f a o w h ho ha hf
    obtain ⟨f, rfl⟩ : ∃ g, f = g + 1 := ⟨f - 1, by omega⟩
    refine ⟨w, ?_, fun _ _ => rfl⟩
    rw [x_E_blocks_24, h.n, if_pos (nI_le (by omega) (by omega))]
    rfl
  | succ j ih =>
    intro f a o w h ho ha hf
    obtain ⟨f, rfl⟩ : ∃ g, f = g + 1 := ⟨f - 1, by omega⟩
    obtain ⟨w1, g1, g2, g3⟩ := x_blI (r := r) (a := a) (K := x_E_blocks_24 f) hR (r 0 0 - a) 6000 a o w h ho (Nat.le_refl a) (by omega) (by omega)
    obtain ⟨w2, d1, d2⟩ := ih f (a + 1) (bxI r a (r 0 0 - a) a o) w1 (h.to (fun o k h1 h2 h3 => by rw [g3 o (by omega)])) g2 (by omega) (by omega)
    refine ⟨w2, ?_, fun o h => by rw [d2 o h, g3 o h]⟩
    rw [x_E_blocks_24, h.n, if_neg (nI_ge (by omega) (by omega)), g1, d1]
    rfl
end
/-! what the folds find -/
theorem bx_spec {o : Option Nat} {c : Nat} : (∀ v, bx o c = some v → (o = some v ∨ (v = c ∧ 0 < c))) ∧ (0 < c → ∃ v, v ≤ c ∧ bx o c = some v) ∧ ∀ l, o = some l → ∃ v, v ≤ l ∧ bx o c = some v := by
  unfold bx
  by_cases h : c = 0
  · simp only [if_pos h]
    exact ⟨fun v hv => Or.inl hv, fun h2 => by omega, fun l hl => ⟨l, Nat.le_refl l, hl⟩⟩
  · simp only [if_neg h]
    cases o with
    | none => exact ⟨fun v hv => by cases hv; exact Or.inr ⟨rfl, by omega⟩, fun _ => ⟨c, Nat.le_refl c, rfl⟩, fun l hl => by cases hl⟩
    | some l =>
      simp only
      by_cases h2 : l ≤ c
      · simp only [if_pos h2]
        exact ⟨fun v hv => Or.inl hv, fun _ => ⟨l, h2, rfl⟩, fun l' hl => ⟨l, by cases hl; exact Nat.le_refl _, rfl⟩⟩
      · simp only [if_neg h2]
        exact ⟨fun v hv => by cases hv; exact Or.inr ⟨rfl, by omega⟩, fun _ => ⟨c, Nat.le_refl c, rfl⟩, fun l' hl => ⟨c, by cases hl; omega, rfl⟩⟩
theorem bxI_spec {r : Rf} {a : Nat} : ∀ j b o, (∀ v, bxI r a j b o = some v → (o = some v ∨ ∃ b', b ≤ b' ∧ b' < b + j ∧ v = cand r a b' ∧ 0 < v)) ∧ (∀ b', b ≤ b' → b' < b + j → 0 < cand r a b' → ∃ v, v ≤ cand r a b' ∧ bxI r a j b o = some v) ∧ ∀ l, o = some l → ∃ v, v ≤ l ∧ bxI r a j b o = some v := by
  intro j
  induction j with
  | zero => intro b o; exact ⟨fun v h => Or.inl h, fun b' h1 h2 => by omega, fun l hl => ⟨l, Nat.le_refl l, hl⟩⟩
  | succ j ih =>
    intro b o
    obtain ⟨i1, i2, i3⟩ := ih (b + 1) (bx o (cand r a b))
    obtain ⟨s1, s2, s3⟩ := @bx_spec o (cand r a b)
    rw [bxI]
    refine ⟨fun v hv => ?_, fun b' h1 h2 h3 => ?_, fun l hl => ?_⟩
    · rcases i1 v hv with h | ⟨b', h1, h2, h3⟩
      · rcases s1 v h with h | ⟨h, h4⟩
        · exact Or.inl h
        · exact Or.inr ⟨b, Nat.le_refl b, by omega, h, by omega⟩
      · exact Or.inr ⟨b', by omega, by omega, h3⟩
    · by_cases c : b' = b
      · subst c
        obtain ⟨v, v1, v2⟩ := s2 h3
        obtain ⟨u, u1, u2⟩ := i3 v v2
        exact ⟨u, by omega, u2⟩
      · exact i2 b' (by omega) (by omega) h3
    · obtain ⟨v, v1, v2⟩ := s3 l hl
      obtain ⟨u, u1, u2⟩ := i3 v v2
      exact ⟨u, by omega, u2⟩
theorem bxO_spec {r : Rf} : ∀ j a o, a + j = r 0 0 → (∀ v, bxO r j a o = some v → (o = some v ∨ ∃ a' b', a' ≤ b' ∧ b' < r 0 0 ∧ v = cand r a' b' ∧ 0 < v)) ∧ (∀ a' b', a ≤ a' → a' ≤ b' → b' < r 0 0 → 0 < cand r a' b' → ∃ v, v ≤ cand r a' b' ∧ bxO r j a o = some v) ∧ ∀ l, o = some l → ∃ v, v ≤ l ∧ bxO r j a o = some v := by
  intro j
  induction j with
  | zero => intro a o ha; exact ⟨fun v h => Or.inl h, fun a' b' h1 h2 h3 => by omega, fun l hl => ⟨l, Nat.le_refl l, hl⟩⟩
  | succ j ih =>
    intro a o ha
    obtain ⟨i1, i2, i3⟩ := ih (a + 1) (bxI r a (r 0 0 - a) a o) (by omega)
    obtain ⟨s1, s2, s3⟩ := @bxI_spec r a (r 0 0 - a) a o
    rw [bxO]
    refine ⟨fun v hv => ?_, fun a' b' h1 h2 h3 h4 => ?_, fun l hl => ?_⟩
    · rcases i1 v hv with h | h
      · rcases s1 v h with h | ⟨b', h1, h2, h3⟩
        · exact Or.inl h
        · exact Or.inr ⟨a, b', h1, by omega, h3⟩
      · exact Or.inr h
    · by_cases c : a' = a
      · subst c
        obtain ⟨v, v1, v2⟩ := s2 b' h2 (by omega) h4
        obtain ⟨u, u1, u2⟩ := i3 v v2
        exact ⟨u, by omega, u2⟩
      · exact i2 a' b' (by omega) h2 h3 h4
    · obtain ⟨v, v1, v2⟩ := s3 l hl
      obtain ⟨u, u1, u2⟩ := i3 v v2
      exact ⟨u, by omega, u2⟩
