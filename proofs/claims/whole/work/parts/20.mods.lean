/-! ===== changes in mind, on both sides; the same firmness ===== -/
theorem cL_congr {n : Nat} {B B' : Nat → Bool} {wt wt' : Nat → Nat} (hB : ∀ p, p < n → B p = B' p) (hw : ∀ s, s + 1 < n → wt s = wt' s) {p : Nat} (hp : p < n) : cL n B wt p = cL n B' wt' p := by
  unfold cL
  rw [hB p hp]
  congr 1
  · by_cases c : 1 ≤ p ∧ B' p = true
    · rw [if_pos c, if_pos c, hB (p - 1) (by omega), hw (p - 1) (by omega)]
    · rw [if_neg c, if_neg c]
  · by_cases c : p + 1 < n ∧ B' p = true
    · rw [if_pos c, if_pos c, hB (p + 1) c.1, hw p c.1]
    · rw [if_neg c, if_neg c]
theorem cFirm_congr {n : Nat} {B B' : Nat → Bool} {G G' wt wt' : Nat → Nat} (hB : ∀ p, p < n → B p = B' p) (hG : ∀ p, p < n → G p = G' p) (hw : ∀ s, s + 1 < n → wt s = wt' s) : cFirm n B G wt = cFirm n B' G' wt' := by
  unfold cFirm
  rw [gfind_congr (Q := cO n B' G' wt') n 0 (fun p h1 h2 => by unfold cO; rw [cL_congr hB hw (by omega), hG p (by omega)]), gfind_congr (P := cF n B wt) (Q := cF n B' wt') 6 0 (fun s h1 h2 => by
    unfold cF
    by_cases c : s + 1 < n
    · rw [hB s (by omega), hB (s + 1) c, hw s c]
    · simp [c])]
theorem cFirm_iff {n : Nat} {B : Nat → Bool} {G wt : Nat → Nat} (hn : n ≤ 7) : cFirm n B G wt = true ↔ (∀ p, p < n → cL n B wt p ≤ 2 * G p) ∧ ∀ s, s + 1 < n → 0 < wt s → (B s = true ∨ B (s + 1) = true) := by
  unfold cFirm
  rw [Bool.and_eq_true, Option.isNone_iff_eq_none, Option.isNone_iff_eq_none, gfind_none, gfind_none]
  constructor
  · rintro ⟨h1, h2⟩
    refine ⟨fun p hp => ?_, fun s hs hw => ?_⟩
    · have := h1 p (by omega) (by omega)
      unfold cO at this
      simpa using this
    · have := h2 s (by omega) (by omega)
      unfold cF at this
      cases h3 : B s with
      | true => exact Or.inl rfl
      | false =>
        cases h4 : B (s + 1) with
        | true => exact Or.inr rfl
        | false => simp [hs, hw, h3, h4] at this
  · rintro ⟨h1, h2⟩
    refine ⟨fun p _ hp => ?_, fun s _ hs => ?_⟩
    · have := h1 p (by omega)
      unfold cO
      simpa using this
    · unfold cF
      by_cases c : s + 1 < n ∧ 0 < wt s
      · rcases h2 s c.1 c.2 with h3 | h3 <;> simp [h3]
      · by_cases c1 : s + 1 < n
        · have : ¬ 0 < wt s := fun z => c ⟨c1, z⟩
          simp [this]
        · simp [c1]
section
variable {w : gx_Wd} {r : Rf} {a l : Nat} {q ra : Nat → Nat} {I : Nat → Bool} {wt : Nat → Nat}
/-- the firmness of the class's mind -/
def xF (r : Rf) (a l : Nat) (q ra : Nat → Nat) (I : Nat → Bool) (wt : Nat → Nat) : Bool := cFirm (r 0 0) (xB r a l q ra I) (xG r a l q ra) wt
theorem XC.lev (h : XC w r a l q ra I wt) {l' : Nat} (hl : l' ≤ 27) : XC (gx_w w 22 2 (nI l')) r a l' q ra I wt := by
  obtain ⟨h1, h2, h3, h4, h5, h6, h7, h8, h9, h10⟩ := h
  exact ⟨h1.to (fun o k o1 o2 o3 => by rw [px_wk (by omega)]), h2, h3, hl, by rw [px_wk (by omega)]; exact h5, px_ws, fun p hp => by rw [px_wk (by omega)]; exact h7 p hp, fun p hp => by rw [px_wk (by omega)]; exact h8 p hp, fun p hp => by rw [px_wk (by omega)]; exact h9 p hp, fun p hp => by rw [px_wk (by omega)]; exact h10 p hp⟩
theorem XC.plc (h : XC w r a l q ra I wt) {a' : Nat} (hl : a' + r 0 0 ≤ 16) : XC (gx_w w 22 1 (nI a')) r a' l q ra I wt := by
  obtain ⟨h1, h2, h3, h4, h5, h6, h7, h8, h9, h10⟩ := h
  exact ⟨h1.to (fun o k o1 o2 o3 => by rw [px_wk (by omega)]), h2, hl, h4, px_ws, by rw [px_wk (by omega)]; exact h6, fun p hp => by rw [px_wk (by omega)]; exact h7 p hp, fun p hp => by rw [px_wk (by omega)]; exact h8 p hp, fun p hp => by rw [px_wk (by omega)]; exact h9 p hp, fun p hp => by rw [px_wk (by omega)]; exact h10 p hp⟩
theorem bit1 : ∀ b, b < 7 → ∀ p, p < 7 → (((1 : Int32) <<< (nI b &&& 31)) >>> (nI p &&& 31)) &&& 1 = if p = b then 1 else 0 := by decide
theorem XC.idl (h : XC w r a l q ra I wt) {b : Nat} (hb : b < 7) : XC (gx_w w 22 3 (1 <<< (nI b &&& 31))) r a l q ra (fun p => decide (p = b)) wt := by
  obtain ⟨h1, h2, h3, h4, h5, h6, h7, h8, h9, h10⟩ := h
  refine ⟨h1.to (fun o k o1 o2 o3 => by rw [px_wk (by omega)]), h2, h3, h4, by rw [px_wk (by omega)]; exact h5, by rw [px_wk (by omega)]; exact h6, fun p hp => ?_, fun p hp => by rw [px_wk (by omega)]; exact h8 p hp, fun p hp => by rw [px_wk (by omega)]; exact h9 p hp, fun p hp => by rw [px_wk (by omega)]; exact h10 p hp⟩
  rw [px_ws, bit1 b hb p hp]
  by_cases c : p = b <;> simp [c]
theorem XC.who (h : XC w r a l q ra I wt) {i v : Nat} (hv : v < 7) : XC (gx_w w 23 i (nI v)) r a l (fun p => if p = i then v else q p) ra I wt := by
  obtain ⟨h1, h2, h3, h4, h5, h6, h7, h8, h9, h10⟩ := h
  refine ⟨h1.to (fun o k o1 o2 o3 => by rw [px_wk (by omega)]), h2, h3, h4, by rw [px_wk (by omega)]; exact h5, by rw [px_wk (by omega)]; exact h6, fun p hp => by rw [px_wk (by omega)]; exact h7 p hp, fun p hp => ?_, fun p hp => by rw [px_wk (by omega)]; exact h9 p hp, fun p hp => by rw [px_wk (by omega)]; exact h10 p hp⟩
  rw [px_w]
  by_cases c : p = i
  · simp [c, hv]
  · simp [c, h8 p hp]
theorem XC.ras (h : XC w r a l q ra I wt) {i v : Nat} (hv : v ≤ 36) : XC (gx_w w 24 i (nI v)) r a l q (fun p => if p = i then v else ra p) I wt := by
  obtain ⟨h1, h2, h3, h4, h5, h6, h7, h8, h9, h10⟩ := h
  refine ⟨h1.to (fun o k o1 o2 o3 => by rw [px_wk (by omega)]), h2, h3, h4, by rw [px_wk (by omega)]; exact h5, by rw [px_wk (by omega)]; exact h6, fun p hp => by rw [px_wk (by omega)]; exact h7 p hp, fun p hp => by rw [px_wk (by omega)]; exact h8 p hp, fun p hp => ?_, fun p hp => by rw [px_wk (by omega)]; exact h10 p hp⟩
  rw [px_w]
  by_cases c : p = i
  · simp [c, hv]
  · simp [c, h9 p hp]
theorem XC.f (h : XC w r a l q ra I wt) : ∃ w', x_M_isFirm w = some (bI (xF r a l q ra I wt), w') ∧ (∀ o, o ≠ 26 → o ≠ 27 → o ≠ 28 → w' o = w o) ∧ XC w' r a l q ra I wt := h.firm
/-- the model: what is changed in mind -/
theorem MC.lev (h : MC w r q I) {l' : Nat} (hl : l' ≤ 27) : MC (gx_w w 0 2 (nI l')) (rput r 0 2 l') q I := by
  obtain ⟨h1, h2, h3, h4⟩ := h
  have h1' := h1.put (j := 0) (i := 2) (v := l')
  exact ⟨h1', h2.putL hl, fun p hp => by rw [px_wo (by decide)]; exact h3 p hp, fun p hp => by rw [px_wk (by omega)]; exact h4 p hp⟩
theorem MC.sla (h : MC w r q I) {b : Nat} (hb : b < 7) : MC (gx_w w 0 19 (nI b)) r q (fun p => decide (q p = b)) := by
  obtain ⟨h1, h2, h3, h4⟩ := h
  refine ⟨h1.to (fun o k o1 o2 o3 => by rw [px_wk (by omega)]), h2, fun p hp => by rw [px_wo (by decide)]; exact h3 p hp, fun p hp => ?_⟩
  rw [px_ws, nI_eq (by have := (h3 p hp).2; omega) (by omega)]
  simp
theorem MC.slaN (h : MC w r q I) : MC (gx_w w 0 19 (-1)) r q nO := by
  obtain ⟨h1, h2, h3, h4⟩ := h
  refine ⟨h1.to (fun o k o1 o2 o3 => by rw [px_wk (by omega)]), h2, fun p hp => by rw [px_wo (by decide)]; exact h3 p hp, fun p hp => ?_⟩
  rw [px_ws]
  simp [nI_neg_ne (show q p < 2 ^ 31 by have := (h3 p hp).2; omega), nO]
def rw5 (r : Rf) (wt : Nat → Nat) : Rf := fun j i => if j = 5 then wt i else r j i
theorem MC.spn (h : MC w r q I) {w' : gx_Wd} {wt : Nat → Nat} (ho : ∀ o k, (o = 0 → k ≤ 2 ∨ k = 19) → o ≤ 10 → o ≠ 5 → w' o k = w o k) (h5 : ∀ s, s < 6 → w' 5 s = nI (wt s) ∧ wt s ≤ 198) : MC w' (rw5 r wt) q I := by
  obtain ⟨⟨f1, f2, f3, f4⟩, ⟨k1, k2, k3, k4, k5, k6, k7⟩, h3, h4⟩ := h
  refine ⟨⟨fun k hk => by rw [ho 0 k (by omega) (by omega) (by omega)]; exact f1 k hk, fun j j1 j2 i hi => ?_, fun i hi => by have := (h5 i hi).1; simpa [rw5] using this, fun i hi => by rw [ho (0 + 6) i (by omega) (by omega) (by omega)]; exact f4 i hi⟩, ⟨k1, k2, k3, k4, k5, fun i hi => (h5 i hi).2, k7⟩, fun p hp => by rw [ho 10 p (by omega) (by omega) (by omega)]; exact h3 p hp, fun p hp => by rw [ho 0 19 (by omega) (by omega) (by omega)]; exact h4 p hp⟩
  rw [ho (0 + j) i (by omega) (by omega) (by omega), f2 j j1 j2 i hi]
  unfold rw5
  rw [if_neg (by omega)]
theorem MC.f (h : MC w r q I) : m_isHeld w = some (bI (xF r (r 0 1) (r 0 2) q r0 I (r 5)), w) := m_held h
/-- fold of bits -/
def bitF (P : Nat → Bool) : Nat → Nat → Int32 → Int32
  | 0, _, b => b
  | j + 1, i, b => bitF P j (i + 1) (if P i = true then b ||| ((1 : Int32) <<< (nI i &&& 31)) else b)
theorem bitF_congr {P Q : Nat → Bool} : ∀ j i b, (∀ k, i ≤ k → k < i + j → P k = Q k) → bitF P j i b = bitF Q j i b := by
  intro j
  induction j with
  | zero => intro i b _; rfl
  | succ j ih => intro i b h; rw [bitF, bitF, h i (Nat.le_refl i) (by omega)]; exact ih _ _ (fun k h1 h2 => h k (by omega) (by omega))
end
