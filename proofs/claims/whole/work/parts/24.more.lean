/-! ===== more, seeds ===== -/
theorem cL_mono {n : Nat} {B : Nat → Bool} {wt wt' : Nat → Nat} (hw : ∀ s, s + 1 < n → wt s ≤ wt' s) {p : Nat} (hp : p < n) : cL n B wt p ≤ cL n B wt' p := by
  have h1 : 1 ≤ p → wt (p - 1) ≤ wt' (p - 1) := fun c => hw (p - 1) (by omega)
  have h2 : p + 1 < n → wt p ≤ wt' p := fun c => hw p c
  unfold cL
  repeat' split
  all_goals omega
theorem cFirm_anti {n : Nat} {B : Nat → Bool} {G wt wt' : Nat → Nat} (hn : n ≤ 7) (hw : ∀ s, s + 1 < n → wt s ≤ wt' s) (h : cFirm n B G wt' = true) : cFirm n B G wt = true := by
  rw [cFirm_iff hn] at h ⊢
  exact ⟨fun p hp => Nat.le_trans (cL_mono hw hp) (h.1 p hp), fun s hs h0 => h.2 s hs (Nat.lt_of_lt_of_le h0 (hw s hs))⟩
def wtE (r : Rf) (s e : Nat) : Nat → Nat := fun i => if i = s then r 5 s + e else r 5 i
def moF (r : Rf) (s e : Nat) : Bool := xF r (r 0 1) (r 0 2) iD r0 nO (wtE r s e)
theorem moF_anti {r : Rf} {s e e' : Nat} (hn : r 0 0 ≤ 7) (he : e ≤ e') (h : moF r s e' = true) : moF r s e = true := by
  unfold moF xF at h ⊢
  refine cFirm_anti hn (fun i _ => ?_) h
  unfold wtE
  split <;> omega
def moX (F : Nat → Bool) : Nat → Nat → Nat → Nat
  | 0, _, most => most
  | j + 1, e, most => if F e = true then moX F j (e + 1) e else most
def moM (F : Nat → Bool) : Nat → Nat → Int32 → Int32
  | 0, _, found => found
  | j + 1, e, found => moM F j (e + 1) (if F e = true then nI e else found)
theorem moM_no {F : Nat → Bool} : ∀ j e found, (∀ k, e ≤ k → F k = false) → moM F j e found = found := by
  intro j
  induction j with
  | zero => intro e found _; rfl
  | succ j ih =>
    intro e found h
    rw [moM, if_neg (by rw [h e (Nat.le_refl e)]; decide)]
    exact ih _ _ (fun k hk => h k (by omega))
theorem moM_X {F : Nat → Bool} (hF : ∀ e e', e ≤ e' → F e' = true → F e = true) : ∀ j e most, moM F j e (nI most) = nI (moX F j e most) := by
  intro j
  induction j with
  | zero => intro e most; rfl
  | succ j ih =>
    intro e most
    rw [moM, moX]
    by_cases c : F e = true
    · rw [if_pos c, if_pos c, ih]
    · rw [if_neg c, if_neg c, moM_no]
      intro k hk
      cases h : F k with
      | false => rfl
      | true => exact absurd (hF e k (by omega) h) c
section
variable {r : Rf}
theorem x_moL {s : Nat} (hs : s < 6) (hR : Rok 99 r) : ∀ (j f e most : Nat) (w : gx_Wd), RF w 1 r → (∃ wt, XW w (r 0 0) (xB r (r 0 1) (r 0 2) iD r0 nO) wt ∧ ∀ i, i ≠ s → wt i = r 5 i) → (∀ p, p < r 0 0 → w 27 p = nI (xG r (r 0 1) (r 0 2) iD r0 p) ∧ xG r (r 0 1) (r 0 2) iD r0 p ≤ 198) → 1 ≤ e → e + j = 100 → j < f → ∃ w', x_E_more_37 f (nI s) (nI most) (nI e) w = some (nI (moX (moF r s) j e most), w') ∧ ∀ o, o ≠ 25 → o ≠ 28 → w' o = w o := by
  intro j
  induction j with
  | zero =>
    intro f e most w h hW hG h1 he hf
    obtain ⟨f, rfl⟩ : ∃ g, f = g + 1 := ⟨f - 1, by omega⟩
    refine ⟨w, ?_, fun _ _ _ => rfl⟩
    rw [x_E_more_37, if_pos (show (99 : Int32) < nI e from nI_lt (a := 99) (by omega) (by omega))]
    rfl
  | succ j ih =>
    intro f e most w h hW hG h1 he hf
    obtain ⟨f, rfl⟩ : ∃ g, f = g + 1 := ⟨f - 1, by omega⟩
    obtain ⟨wt, hW, hwt⟩ := hW
    have h5 := hR.2.2.2.2.2.1 s hs
    have hW1 : XW (gx_w w 25 s (nI (r 5 s + e))) (r 0 0) (xB r (r 0 1) (r 0 2) iD r0 nO) (wtE r s e) := by
      obtain ⟨q1, q2, q3, q4⟩ := hW
      refine ⟨q1, by rw [px_wo (by decide)]; exact q2, fun p hp => by rw [px_wo (by decide)]; exact q3 p hp, fun i hi => ?_⟩
      rw [px_w]
      unfold wtE
      by_cases c : i = s
      · simp [c]; omega
      · simp only [if_true, if_neg c]
        rw [← hwt i c]
        exact q4 i hi
    obtain ⟨w1, d1, d2, d3⟩ := x_weigh hW1
    have hW2 := hW1.to (d2 1 (by decide)) (d2 25 (by decide)) (d2 26 (by decide))
    have hG2 : ∀ p, p < r 0 0 → w1 27 p = nI (xG r (r 0 1) (r 0 2) iD r0 p) ∧ xG r (r 0 1) (r 0 2) iD r0 p ≤ 198 := fun p hp => by rw [d2 27 (by decide), px_wo (by decide)]; exact hG p hp
    have e2 := x_borne hW2 d3 hG2
    have c6 : w 6 s = nI (r 5 s) := h.2.2.1 s hs
    have step : x_E_more_37 (f + 1) (nI s) (nI most) (nI e) w = if moF r s e = true then x_E_more_37 f (nI s) (nI e) (nI (e + 1)) w1 else some (nI most, w1) := by
      rw [x_E_more_37, if_neg (show ¬ (99 : Int32) < nI e from nI_nlt (b := e) (a := 99) (by omega) (by omega))]
      simp only [px_cell (N := 6) (o := 6) rfl hs (by decide), c6, gx_bs, nI_add, px_set (N := 6) (o := 25) rfl hs (by decide), d1, e2, bI_ite]
      rw [nI_1]
      rfl
    rw [step]
    by_cases c : moF r s e = true
    · rw [if_pos c]
      obtain ⟨w', g1, g2⟩ := ih f (e + 1) e w1 (h.to (fun o k o1 o2 o3 => by rw [d2 o (by omega), px_wo (by omega)])) ⟨_, hW2, fun i hi => by unfold wtE; rw [if_neg hi]⟩ hG2 (by omega) (by omega) (by omega)
      refine ⟨w', ?_, fun o o1 o2 => by rw [g2 o o1 o2, d2 o o2, px_wo o1]⟩
      rw [g1, moX, if_pos c]
    · rw [if_neg c]
      refine ⟨w1, ?_, fun o o1 o2 => by rw [d2 o o2, px_wo o1]⟩
      rw [moX, if_neg c]
theorem MC.one {w : gx_Wd} {q : Nat → Nat} {I : Nat → Bool} (h : MC w r q I) {s v : Nat} (hv : v ≤ 198) : MC (gx_w w 5 s (nI v)) (rput r 5 s v) q I := by
  obtain ⟨h1, ⟨k1, k2, k3, k4, k5, k6, k7⟩, h3, h4⟩ := h
  have h1' := h1.put (j := 5) (i := s) (v := v)
  refine ⟨h1', ⟨k1, k2, k3, k4, k5, fun i hi => ?_, k7⟩, fun p hp => by rw [px_wo (by decide)]; exact h3 p hp, fun p hp => by rw [px_wo (by decide)]; exact h4 p hp⟩
  unfold rput
  by_cases c : i = s
  · simp [c]; exact hv
  · simpa [c] using k6 i hi
theorem m_moL {s : Nat} (hs : s < 6) (hR : Rok 99 r) : ∀ (j f e : Nat) (found : Int32) (w : gx_Wd), (∃ v, MC w (rput r 5 s v) iD nO) → e + j = 100 → j < f → ∃ w', m_more_36 f (nI s) (nI (r 5 s)) found (nI e) w = some (moM (moF r s) j e found, w') ∧ w' 5 s = nI (r 5 s) ∧ ∀ o k, ¬ (o = 5 ∧ k = s) → w' o k = w o k := by
  intro j
  induction j with
  | zero =>
    intro f e found w h he hf
    obtain ⟨f, rfl⟩ : ∃ g, f = g + 1 := ⟨f - 1, by omega⟩
    refine ⟨gx_w w 5 s (nI (r 5 s)), ?_, px_ws, fun o k h => px_wk h⟩
    rw [m_more_36, if_pos (show (100 : Int32) ≤ nI e from nI_le (a := 100) (by omega) (by omega))]
    simp only [m_more_73, px_ast (sh := sh_m) (N := 6) (o := 5) rfl hs (by decide), gx_bs, moM]
  | succ j ih =>
    intro f e found w h he hf
    obtain ⟨f, rfl⟩ : ∃ g, f = g + 1 := ⟨f - 1, by omega⟩
    obtain ⟨v, h⟩ := h
    have h5 := hR.2.2.2.2.2.1 s hs
    have h2 := h.one (s := s) (v := r 5 s + e) (by omega)
    rw [rput_rput] at h2
    have e1 := h2.f
    have e2 : xF (rput r 5 s (r 5 s + e)) ((rput r 5 s (r 5 s + e)) 0 1) ((rput r 5 s (r 5 s + e)) 0 2) iD r0 nO ((rput r 5 s (r 5 s + e)) 5) = moF r s e := rfl
    rw [e2] at e1
    obtain ⟨w', g1, g2, g3⟩ := ih f (e + 1) (if moF r s e = true then nI e else found) _ ⟨_, h2⟩ (by omega) (by omega)
    refine ⟨w', ?_, g2, fun o k hk => by rw [g3 o k hk, px_wk hk]⟩
    rw [m_more_36, if_neg (show ¬ (100 : Int32) ≤ nI e from nI_ge (b := 100) (by omega) (by omega))]
    simp only [nI_add, px_ast (sh := sh_m) (N := 6) (o := 5) rfl hs (by decide), gx_bs, e1, bI_ite, m_more_66]
    rw [nI_1, moM]
    by_cases c : moF r s e = true
    · rw [if_pos c] at g1 ⊢
      rw [if_pos c]
      exact g1
    · rw [if_neg c] at g1 ⊢
      rw [if_neg c]
      exact g1
end
theorem wtE_0 {r : Rf} {s : Nat} : moF r s 0 = xF r (r 0 1) (r 0 2) iD r0 nO (r 5) := by
  unfold moF
  congr 1
  funext i
  unfold wtE
  by_cases c : i = s <;> simp [c]
theorem P_more {wx wm : gx_Wd} (a : Int32) (h : Inv wx wm) : Eq2 (x_E_more a wx) (m_more a wm) := by
  have h0 := h
  obtain ⟨r, ri, k, f, hI⟩ := h
  have hn := hI.1.2.2.1
  unfold x_E_more m_more
  rcases issp (wx := wx) (wm := wm) a with ⟨s, hs, rfl, e1, e2⟩ | ⟨e1, e2⟩
  · simp only [e1, e2, gx_bs]
    rw [if_neg (show ¬ (1 : Int32) = 0 by decide), if_neg (show ¬ (1 : Int32) = 0 by decide)]
    have m5 : wm 5 s = nI (r 5 s) := by have := hI.1.2.1.2.2.1 s hs; simpa using this
    obtain ⟨w1, d1, d2, hX⟩ := x_told hI.1.1 hI.1.2.2
    obtain ⟨w1', w2, g1, g2, g3, g4, g5, g6⟩ := x_sw hX
    have ef : x_M_isFirm w1 = some (bI (xF r (r 0 1) (r 0 2) iD r0 nO (r 5)), w2) := by
      simp only [x_M_isFirm, g1, g2, x_borne g4 g5 g6, gx_bs]
      rw [if_pos (bI_01 _)]
      rfl
    have o2 : ∀ o, (o < 22 ∨ 29 ≤ o) → w2 o = wx o := fun o ho => by rw [g3 o (by omega) (by omega) (by omega), d2 o (by omega)]
    have hm := hI.mc.f
    simp only [d1, ef, hm, gx_bs, bI_ite, px_ald (sh := sh_m) (N := 6) (o := 5) rfl hs (by decide), m5]
    by_cases c : xF r (r 0 1) (r 0 2) iD r0 nO (r 5) = true
    · rw [if_pos c, if_pos c]
      obtain ⟨w3, p1, p2⟩ := x_moL (r := r) hs hI.1.2.2 99 6000 1 0 w2 (hI.1.1.to (fun o k q1 q2 q3 => by rw [o2 o (by omega)])) ⟨r 5, g4, fun _ _ => rfl⟩ g6 (by omega) (by omega) (by omega)
      obtain ⟨w4, q1, q2, q3⟩ := m_moL (r := r) hs hI.1.2.2 100 6000 0 (-9) wm ⟨r 5 s, by rw [rput_self]; exact hI.mc⟩ (by omega) (by omega)
      refine ⟨nI (moX (moF r s) 99 1 0), w3, w4, p1, ?_, h0.to (fun o k hk => ?_) (fun o k hk => ?_)⟩
      · refine (show m_more_36 6000 (nI s) (nI (r 5 s)) (-9) 0 wm = _ from q1).trans ?_
        rw [moM, if_pos (by rw [wtE_0]; exact c), moM_X (fun e e' he h => moF_anti hn he h)]
      · rw [p2 o (by unfold xKeep at hk; omega) (by unfold xKeep at hk; omega), o2 o (by unfold xKeep at hk; omega)]
      · by_cases c : o = 5 ∧ k = s
        · rw [c.1, c.2, q2, m5]
        · exact q3 o k c
    · rw [if_neg c, if_neg c]
      refine ⟨-9, w2, gx_w wm 5 s (nI (r 5 s)), rfl, ?_, h0.to (fun o k hk => by rw [o2 o (by unfold xKeep at hk; omega)]) (fun o k hk => ?_)⟩
      · simp only [m_more_73, px_ast (sh := sh_m) (N := 6) (o := 5) rfl hs (by decide), gx_bs]
      · by_cases c : o = 5 ∧ k = s
        · rw [c.1, c.2, px_ws, m5]
        · exact px_wk c
  · simp only [e1, e2, gx_bs]
    rw [if_pos trivial, if_pos trivial]
    exact refE 1 (by decide) h0 rfl rfl
/-- the seeds -/
def sd1 (z : Int32) : Int32 := z * 1664525 + 1013904223
def sdg (g : Int32 → Int32) : Nat → Int32 → Int32
  | 0, z => z
  | k + 1, z => sdg g k (g z)
theorem sdg_add (g : Int32 → Int32) : ∀ a b z, sdg g (a + b) z = sdg g b (sdg g a z) := by
  intro a
  induction a with
  | zero => intro b z; rw [Nat.zero_add]; rfl
  | succ a ih => intro b z; rw [show a + 1 + b = (a + b) + 1 by omega, sdg, sdg, ih]
theorem sdg_1 (g : Int32 → Int32) (i : Nat) (z : Int32) : g (sdg g i z) = sdg g (i + 1) z := by rw [sdg_add g i 1]; rfl
abbrev sdn : Nat → Int32 → Int32 := sdg sd1
def dvN (z : Int32) : Nat := (z.toBitVec.toNat % 2 ^ 31) / 256 % 100
theorem dv_ok (z : Int32) : (z &&& 2147483647) / 256 - (z &&& 2147483647) / 256 / 100 * 100 = nI (dvN z) := by
  have e : z &&& 2147483647 = nI (z.toBitVec.toNat % 2 ^ 31) := pk_and z 31 (by decide)
  have hlt : z.toBitVec.toNat % 2 ^ 31 < 2 ^ 31 := Nat.mod_lt _ (by decide)
  rw [e, show nI (z.toBitVec.toNat % 2 ^ 31) / 256 = nI (z.toBitVec.toNat % 2 ^ 31 / 256) from pk_div hlt (by decide) (by decide)]
  exact pk_rem (a := z.toBitVec.toNat % 2 ^ 31 / 256) (d := 100) (by omega) (by decide) (by decide)
theorem dv_lt (z : Int32) : dvN z < 100 := Nat.mod_lt _ (by decide)
def hail (z : Int32) : Nat → Nat := fun s => dvN (sdn (s + 1) z)
theorem x_haL {K : Int32 → Int32 → Int32 → Int32 → gx_Wd → Option (Int32 × gx_Wd)} {b1 b3 b5 z0 : Int32} : ∀ (j f i : Nat) (w : gx_Wd), i + j = 6 → j < f → (∀ s, s < i → w 25 s = nI (hail z0 s)) → ∃ w', x_E_seeds_56 K f b1 b3 (sdn i z0) b5 (nI i) w = x_E_seeds_104 K b1 b3 (sdn 6 z0) b5 w' ∧ (∀ o, o ≠ 25 → w' o = w o) ∧ ∀ s, s < 6 → w' 25 s = nI (hail z0 s) := by
  intro j
  induction j with
  | zero =>
    intro f i w hi hf hw
    obtain ⟨f, rfl⟩ : ∃ g, f = g + 1 := ⟨f - 1, by omega⟩
    refine ⟨w, ?_, fun _ _ => rfl, fun s hs => hw s (by omega)⟩
    rw [x_E_seeds_56, if_pos (show (6 : Int32) ≤ nI i from nI_le (a := 6) (by omega) (by omega)), show i = 6 by omega]
  | succ j ih =>
    intro f i w hi hf hw
    obtain ⟨f, rfl⟩ : ∃ g, f = g + 1 := ⟨f - 1, by omega⟩
    have es : sdn i z0 * 1664525 + 1013904223 = sdn (i + 1) z0 := sdg_1 sd1 i z0
    obtain ⟨w', g1, g2, g3⟩ := ih f (i + 1) (gx_w w 25 i (nI (hail z0 i))) (by omega) (by omega) (fun s hs => by
      rw [px_w]
      by_cases c : s = i
      · simp [c]
      · simp only [if_true, if_neg c]; exact hw s (by omega))
    refine ⟨w', ?_, fun o ho => by rw [g2 o ho, px_wo ho], g3⟩
    rw [x_E_seeds_56, if_neg (show ¬ (6 : Int32) ≤ nI i from nI_ge (b := 6) (by omega) (by omega))]
    simp only [gx_bs, es, dv_ok, px_set (N := 6) (o := 25) rfl (show i < 6 by omega) (by decide)]
    rw [nI_1]
    exact g1
def seF (F : Int32 → Bool) : Nat → Int32 → Int32 → Int32
  | 0, _, c => c
  | j + 1, z, c => seF F j (sdn 6 z) (if F z = true then c + 1 else c)
def seB (r : Rf) (z : Int32) : Bool := xF r (r 0 1) (r 0 2) iD r0 nO (hail z)
section
variable {r : Rf}
theorem x_seL {nn : Nat} (hn : nn ≤ 30) : ∀ (j f i : Nat) (z c : Int32) (w : gx_Wd), (∃ wt, XW w (r 0 0) (xB r (r 0 1) (r 0 2) iD r0 nO) wt) → (∀ p, p < r 0 0 → w 27 p = nI (xG r (r 0 1) (r 0 2) iD r0 p) ∧ xG r (r 0 1) (r 0 2) iD r0 p ≤ 198) → i + j = nn → j < f → ∃ w', x_E_seeds_47 f (nI nn) c z (nI i) w = some (seF (seB r) j z c, w') ∧ ∀ o, o ≠ 25 → o ≠ 28 → w' o = w o := by
  intro j
  induction j with
  | zero =>
    intro f i z c w hW hG hi hf
    obtain ⟨f, rfl⟩ : ∃ g, f = g + 1 := ⟨f - 1, by omega⟩
    refine ⟨w, ?_, fun _ _ _ => rfl⟩
    rw [x_E_seeds_47, if_pos (nI_le (by omega) (by omega))]
    rfl
  | succ j ih =>
    intro f i z c w hW hG hi hf
    obtain ⟨f, rfl⟩ : ∃ g, f = g + 1 := ⟨f - 1, by omega⟩
    obtain ⟨wt, q1, q2, q3, q4⟩ := hW
    obtain ⟨w1, a1, a2, a3⟩ := x_haL (K := x_E_seeds_47 f) (b1 := nI nn) (b3 := c) (b5 := nI i) (z0 := z) 6 6000 0 w (by omega) (by omega) (fun s hs => by omega)
    have hW1 : XW w1 (r 0 0) (xB r (r 0 1) (r 0 2) iD r0 nO) (hail z) := ⟨q1, by rw [a2 1 (by decide)]; exact q2, fun p hp => by rw [a2 26 (by decide)]; exact q3 p hp, fun s hs => ⟨a3 s hs, by have := dv_lt (sdn (s + 1) z); unfold hail; omega⟩⟩
    obtain ⟨w2, d1, d2, d3⟩ := x_weigh hW1
    have hW2 := hW1.to (d2 1 (by decide)) (d2 25 (by decide)) (d2 26 (by decide))
    have hG2 : ∀ p, p < r 0 0 → w2 27 p = nI (xG r (r 0 1) (r 0 2) iD r0 p) ∧ xG r (r 0 1) (r 0 2) iD r0 p ≤ 198 := fun p hp => by rw [d2 27 (by decide), a2 27 (by decide)]; exact hG p hp
    have e2 := x_borne hW2 d3 hG2
    obtain ⟨w', g1, g2⟩ := ih f (i + 1) (sdn 6 z) (if seB r z = true then c + 1 else c) w2 ⟨_, hW2⟩ hG2 (by omega) (by omega)
    refine ⟨w', ?_, fun o o1 o2 => by rw [g2 o o1 o2, d2 o o2, a2 o o1]⟩
    rw [x_E_seeds_47, if_neg (nI_ge (by omega) (by omega))]
    refine (show x_E_seeds_56 (x_E_seeds_47 f) 6000 (nI nn) c z (nI i) 0 w = _ from a1).trans ?_
    simp only [x_E_seeds_104, d1, e2, gx_bs, bI_ite, x_E_seeds_124]
    rw [nI_1, seF]
    show (if seB r z = true then _ else _) = _
    by_cases cc : seB r z = true
    · rw [if_pos cc] at g1 ⊢
      rw [if_pos cc]; exact g1
    · rw [if_neg cc] at g1 ⊢
      rw [if_neg cc]; exact g1
theorem m_haL {K : Int32 → Int32 → Int32 → gx_Wd → Option (Int32 × gx_Wd)} {b1 b3 b4 z0 : Int32} : ∀ (j f i : Nat) (w : gx_Wd), i + j = 6 → j < f → w 0 23 = sdn i z0 → (∀ s, s < i → w 5 s = nI (hail z0 s)) → ∃ w', m_seeds_70 K f b1 b3 b4 (nI i) w = m_seeds_96 K b1 b3 b4 w' ∧ w' 0 23 = sdn 6 z0 ∧ (∀ o k, o ≠ 5 → ¬ (o = 0 ∧ k = 23) → w' o k = w o k) ∧ (∀ s, s < 6 → w' 5 s = nI (hail z0 s)) ∧ ∀ s, 6 ≤ s → w' 5 s = w 5 s := by
  intro j
  induction j with
  | zero =>
    intro f i w hi hf hz hw
    obtain ⟨f, rfl⟩ : ∃ g, f = g + 1 := ⟨f - 1, by omega⟩
    have hi6 : i = 6 := by omega
    subst hi6
    refine ⟨w, ?_, hz, fun _ _ _ _ => rfl, fun s hs => hw s (by omega), fun _ _ => rfl⟩
    rw [m_seeds_70, if_pos (by decide)]
  | succ j ih =>
    intro f i w hi hf hz hw
    obtain ⟨f, rfl⟩ : ∃ g, f = g + 1 := ⟨f - 1, by omega⟩
    have es : sdn i z0 * 1664525 + 1013904223 = sdn (i + 1) z0 := sdg_1 sd1 i z0
    have ed : m_draw 100 w = some (nI (hail z0 i), gx_w w 0 23 (sdn (i + 1) z0)) := by
      simp only [m_draw, gx_put, gx_bs, hz, es, px_ws, dv_ok]
      rw [if_neg (by decide)]
      rfl
    obtain ⟨w', g1, g2, g3, g4, g5⟩ := ih f (i + 1) (gx_w (gx_w w 0 23 (sdn (i + 1) z0)) 5 i (nI (hail z0 i))) (by omega) (by omega) (by rw [px_wo (by decide), px_ws]) (fun s hs => by
      rw [px_w]
      by_cases c : s = i
      · simp [c]
      · simp only [if_true, if_neg c]; rw [px_wo (by decide)]; exact hw s (by omega))
    refine ⟨w', ?_, g2, fun o k ho hk => by rw [g3 o k ho hk, px_wo ho, px_wk hk], g4, fun s hs => by rw [g5 s hs, px_wn (by omega), px_wo (by decide)]⟩
    rw [m_seeds_70, if_neg (show ¬ (6 : Int32) ≤ nI i from nI_ge (b := 6) (by omega) (by omega))]
    simp only [ed, gx_bs, px_ast (sh := sh_m) (N := 6) (o := 5) rfl (show i < 6 by omega) (by decide)]
    rw [nI_1]
    exact g1
theorem m_seR {t : Int32} : ∀ (j f i : Nat) (w : gx_Wd), i + j = 6 → j < f → ∃ w', m_seeds_120 f t (nI i) w = some (t, w') ∧ (∀ o, o ≠ 5 → w' o = w o) ∧ (∀ s, (s < i ∨ 6 ≤ s) → w' 5 s = w 5 s) ∧ ∀ s, i ≤ s → s < 6 → w' 5 s = w 13 s := by
  intro j
  induction j with
  | zero =>
    intro f i w hi hf
    obtain ⟨f, rfl⟩ : ∃ g, f = g + 1 := ⟨f - 1, by omega⟩
    refine ⟨w, ?_, fun _ _ => rfl, fun _ _ => rfl, fun s h1 h2 => by omega⟩
    rw [m_seeds_120, if_pos (show (6 : Int32) ≤ nI i from nI_le (a := 6) (by omega) (by omega))]
  | succ j ih =>
    intro f i w hi hf
    obtain ⟨f, rfl⟩ : ∃ g, f = g + 1 := ⟨f - 1, by omega⟩
    obtain ⟨w', g1, g2, g3, g4⟩ := ih f (i + 1) (gx_w w 5 i (w 13 i)) (by omega) (by omega)
    refine ⟨w', ?_, fun o ho => by rw [g2 o ho, px_wo ho], fun s hs => by rw [g3 s (by omega), px_wn (by omega)], fun s h1 h2 => ?_⟩
    · rw [m_seeds_120, if_neg (show ¬ (6 : Int32) ≤ nI i from nI_ge (b := 6) (by omega) (by omega))]
      simp only [px_ald (sh := sh_m) (N := 6) (o := 13) rfl (show i < 6 by omega) (by decide), px_ast (sh := sh_m) (N := 6) (o := 5) rfl (show i < 6 by omega) (by decide), gx_bs]
      rw [nI_1]
      exact g1
    · by_cases c : s = i
      · subst c
        rw [g3 s (by omega), px_ws]
      · rw [g4 s (by omega) h2, px_wo (by decide)]
theorem m_seK {b1 b2 : Int32} : ∀ (j f i : Nat) (w : gx_Wd), i + j = 6 → j < f → ∃ w', m_seeds_27 f b1 b2 (nI i) w = m_seeds_51 b1 b2 w' ∧ (∀ o, o ≠ 13 → w' o = w o) ∧ (∀ s, s < i → w' 13 s = w 13 s) ∧ ∀ s, i ≤ s → s < 6 → w' 13 s = w 5 s := by
  intro j
  induction j with
  | zero =>
    intro f i w hi hf
    obtain ⟨f, rfl⟩ : ∃ g, f = g + 1 := ⟨f - 1, by omega⟩
    refine ⟨w, ?_, fun _ _ => rfl, fun _ _ => rfl, fun s h1 h2 => by omega⟩
    rw [m_seeds_27, if_pos (show (6 : Int32) ≤ nI i from nI_le (a := 6) (by omega) (by omega))]
  | succ j ih =>
    intro f i w hi hf
    obtain ⟨f, rfl⟩ : ∃ g, f = g + 1 := ⟨f - 1, by omega⟩
    obtain ⟨w', g1, g2, g3, g4⟩ := ih f (i + 1) (gx_w w 13 i (w 5 i)) (by omega) (by omega)
    refine ⟨w', ?_, fun o ho => by rw [g2 o ho, px_wo ho], fun s hs => by rw [g3 s (by omega), px_wn (by omega)], fun s h1 h2 => ?_⟩
    · rw [m_seeds_27, if_neg (show ¬ (6 : Int32) ≤ nI i from nI_ge (b := 6) (by omega) (by omega))]
      simp only [px_ald (sh := sh_m) (N := 6) (o := 5) rfl (show i < 6 by omega) (by decide), px_ast (sh := sh_m) (N := 6) (o := 13) rfl (show i < 6 by omega) (by decide), gx_bs]
      rw [nI_1]
      exact g1
    · by_cases c : s = i
      · subst c
        rw [g3 s (by omega), px_ws]
      · rw [g4 s (by omega) h2, px_wo (by decide)]
theorem m_seL {nn : Nat} (hn : nn ≤ 30) : ∀ (j f i : Nat) (z c : Int32) (w : gx_Wd), (∃ wt, MC w (rw5 r wt) iD nO) → w 0 23 = z → (∀ s, s < 6 → w 13 s = nI (r 5 s)) → i + j = nn → j < f → ∃ w', m_seeds_61 f (nI nn) c (nI i) w = some (seF (seB r) j z c, w') ∧ (∀ o k, o ≠ 5 → ¬ (o = 0 ∧ k = 23) → w' o k = w o k) ∧ (∀ s, s < 6 → w' 5 s = nI (r 5 s)) ∧ ∀ s, 6 ≤ s → w' 5 s = w 5 s := by
  intro j
  induction j with
  | zero =>
    intro f i z c w h hz h13 hi hf
    obtain ⟨f, rfl⟩ : ∃ g, f = g + 1 := ⟨f - 1, by omega⟩
    obtain ⟨w', g1, g2, g3, g4⟩ := m_seR (t := c) 6 6000 0 w (by omega) (by omega)
    refine ⟨w', ?_, fun o k ho _ => by rw [g2 o ho], fun s hs => by rw [g4 s (by omega) hs]; exact h13 s hs, fun s hs => g3 s (Or.inr hs)⟩
    rw [m_seeds_61, if_pos (nI_le (by omega) (by omega))]
    unfold m_seeds_117
    exact g1
  | succ j ih =>
    intro f i z c w h hz h13 hi hf
    obtain ⟨f, rfl⟩ : ∃ g, f = g + 1 := ⟨f - 1, by omega⟩
    obtain ⟨wt, h⟩ := h
    obtain ⟨w1, a1, a2, a3, a4, a5⟩ := m_haL (K := m_seeds_61 f) (b1 := nI nn) (b3 := c) (b4 := nI i) (z0 := z) 6 6000 0 w (by omega) (by omega) hz (fun s hs => by omega)
    have hM1 : MC w1 (rw5 (rw5 r wt) (hail z)) iD nO := h.spn (fun o k h1 h2 h3 => a3 o k h3 (by omega)) (fun s hs => ⟨a4 s hs, by have := dv_lt (sdn (s + 1) z); unfold hail; omega⟩)
    have e5 : rw5 (rw5 r wt) (hail z) = rw5 r (hail z) := by
      funext j i
      unfold rw5
      by_cases c : j = 5 <;> simp [c]
    rw [e5] at hM1
    have e1 := hM1.f
    have e2 : xF (rw5 r (hail z)) ((rw5 r (hail z)) 0 1) ((rw5 r (hail z)) 0 2) iD r0 nO ((rw5 r (hail z)) 5) = seB r z := rfl
    rw [e2] at e1
    obtain ⟨w', g1, g2, g3, g4⟩ := ih f (i + 1) (sdn 6 z) (if seB r z = true then c + 1 else c) w1 ⟨_, hM1⟩ a2 (fun s hs => by rw [a3 13 s (by decide) (by omega)]; exact h13 s hs) (by omega) (by omega)
    refine ⟨w', ?_, fun o k ho hk => by rw [g2 o k ho hk, a3 o k ho hk], g3, fun s hs => by rw [g4 s hs, a5 s hs]⟩
    rw [m_seeds_61, if_neg (nI_ge (by omega) (by omega))]
    refine (show m_seeds_70 (m_seeds_61 f) 6000 (nI nn) c (nI i) 0 w = _ from a1).trans ?_
    simp only [m_seeds_96, e1, gx_bs, bI_ite, m_seeds_109]
    rw [nI_1, seF, show c + 0 = c from Int32.add_zero c]
    by_cases cc : seB r z = true
    · rw [if_pos cc] at g1 ⊢
      rw [if_pos cc]; exact g1
    · rw [if_neg cc] at g1 ⊢
      rw [if_neg cc]; exact g1
end
theorem rw5_self {r : Rf} : rw5 r (r 5) = r := by
  funext j i
  unfold rw5
  by_cases c : j = 5 <;> simp [c]
theorem P_seeds {wx wm : gx_Wd} (a z : Int32) (h : Inv wx wm) : Eq2 (x_E_seeds a z wx) (m_seeds a z wm) := by
  have h0 := h
  obtain ⟨r, ri, k, f, hI⟩ := h
  have hn := hI.1.2.2.1
  unfold x_E_seeds m_seeds
  by_cases c0 : 1 ≤ a
  · simp only [if_pos c0]
    by_cases c1 : a ≤ 30
    · simp only [if_pos c1]
      obtain ⟨nn, hnn, rfl⟩ := le_nat (n := 30) (by decide) (Int32.le_trans (show (0 : Int32) ≤ 1 by decide) c0) c1
      obtain ⟨w1, d1, d2, hX⟩ := x_told hI.1.1 hI.1.2.2
      obtain ⟨w2, g1, g2, g3⟩ := x_stand hX
      have o2 : ∀ o, (o < 22 ∨ 29 ≤ o) → w2 o = wx o := fun o ho => by rw [g2 o (by omega) (by omega), d2 o (by omega)]
      have hX2 : XC w2 r (r 0 1) (r 0 2) iD r0 nO (r 5) := hX.to (fun o p1 p2 => g2 o (by omega) (by omega))
      obtain ⟨w3, p1, p2⟩ := x_seL (r := r) hnn nn 6000 0 z 0 w2 ⟨r 5, hn, hX2.n, fun p hp => (g3 p hp).1, hX2.2.2.2.2.2.2.2.2.2⟩ (fun p hp => ⟨(g3 p hp).2, xG_le hX2 hp⟩) (by omega) (by omega)
      obtain ⟨v1, a1, a2, -, a4⟩ := m_seK (b1 := nI nn) (b2 := z) 6 6000 0 wm (by omega) (by omega)
      have w5 : ∀ s, s < 6 → wm 5 s = nI (r 5 s) := fun s hs => by have := hI.1.2.1.2.2.1 s hs; simpa using this
      have hM : MC (gx_w v1 0 23 z) (rw5 r (r 5)) iD nO := hI.mc.spn (fun o k h1 h2 h3 => by rw [px_wk (by omega), a2 o (by omega)]) (fun s hs => by rw [px_wo (by decide), a2 5 (by decide)]; exact ⟨w5 s hs, by have := hI.1.2.2.2.2.2.2.2.1 s hs; omega⟩)
      obtain ⟨v2, b1, b2, b3, b4⟩ := m_seL (r := r) hnn nn 6000 0 z 0 (gx_w v1 0 23 z) ⟨_, hM⟩ px_ws (fun s hs => by rw [px_wo (by decide), a4 s (by omega) hs]; exact w5 s hs) (by omega) (by omega)
      refine ⟨seF (seB r) nn z 0, w3, v2, ?_, ?_, h0.to (fun o k hk => ?_) (fun o k hk => ?_)⟩
      · simp only [d1, g1, gx_bs]
        exact p1
      · refine (show m_seeds_27 6000 (nI nn) z 0 wm = _ from a1).trans ?_
        simp only [m_seeds_51, gx_put, gx_bs]
        exact b1
      · rw [p2 o (by unfold xKeep at hk; omega) (by unfold xKeep at hk; omega), o2 o (by unfold xKeep at hk; omega)]
      · by_cases c5 : o = 5
        · subst c5
          by_cases c6 : k < 6
          · rw [b3 k c6, w5 k c6]
          · rw [b4 k (by omega), px_wo (by decide), a2 5 (by decide)]
        · rw [b2 o k c5 (by unfold mKeep at hk; omega), px_wk (by unfold mKeep at hk; omega), a2 o (by unfold mKeep at hk; omega)]
    · simp only [if_neg c1]
      exact refE 6 (by decide) h0 rfl rfl
  · simp only [if_neg c0]
    exact refE 4 (by decide) h0 rfl rfl
