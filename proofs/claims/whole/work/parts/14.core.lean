/-! ===== THE CORE: who bears, what each can, the loads, whether it holds ===== -/
def cB (l : Nat) (K T : Nat → Nat) (I : Nat → Bool) (p : Nat) : Bool := !(decide (K p = 3)) && !(I p) && decide (l ≤ T p)
def cG (l : Nat) (K S T : Nat → Nat) (p : Nat) : Nat :=
  if K p = 1 then (if l < T p then S p / 2 else S p) / 2 else if K p = 2 then 2 * (if l < T p then S p / 2 else S p) else if K p = 4 then (if l < T p then S p / 2 else S p) - 3 else if K p = 5 then 2 * S p else (if l < T p then S p / 2 else S p)
def cL (n : Nat) (B : Nat → Bool) (wt : Nat → Nat) (p : Nat) : Nat :=
  (if 1 ≤ p ∧ B p = true then (if B (p - 1) = true then wt (p - 1) else 2 * wt (p - 1)) else 0) + (if p + 1 < n ∧ B p = true then (if B (p + 1) = true then wt p else 2 * wt p) else 0)
def cO (n : Nat) (B : Nat → Bool) (G wt : Nat → Nat) (p : Nat) : Bool := decide (2 * G p < cL n B wt p)
def cF (n : Nat) (B : Nat → Bool) (wt : Nat → Nat) (s : Nat) : Bool := decide (s + 1 < n) && decide (0 < wt s) && !(B s) && !(B (s + 1))
def cSag (n : Nat) (B : Nat → Bool) (G wt : Nat → Nat) : Int32 := match gfind (cO n B G wt) n 0 with
  | some p => nI p
  | none => match gfind (cF n B wt) 6 0 with
    | some s => nI (10 + s)
    | none => -9
def cFirm (n : Nat) (B : Nat → Bool) (G wt : Nat → Nat) : Bool := (gfind (cO n B G wt) n 0).isNone && (gfind (cF n B wt) 6 0).isNone
theorem cSag_firm {n : Nat} {B : Nat → Bool} {G wt : Nat → Nat} (hn : n ≤ 7) : cSag n B G wt = -9 ↔ cFirm n B G wt = true := by
  unfold cSag cFirm
  cases h1 : gfind (cO n B G wt) n 0 with
  | some p =>
    have := gfind_some _ _ _ h1
    simp only [Option.isNone_some, Bool.false_and, Bool.false_eq_true, iff_false]
    intro h
    have h2 := congrArg Int32.toInt h
    rw [nI_toInt (by omega)] at h2
    have : ((-9 : Int32)).toInt = -9 := by decide
    omega
  | none =>
    cases h3 : gfind (cF n B wt) 6 0 with
    | some s =>
      have := gfind_some _ _ _ h3
      simp only [Option.isNone_some, Option.isNone_none, Bool.and_false, Bool.false_eq_true, iff_false]
      intro h
      have h2 := congrArg Int32.toInt h
      rw [nI_toInt (by omega)] at h2
      have : ((-9 : Int32)).toInt = -9 := by decide
      omega
    | none => simp
/-- a roof: row 0 how many, at, level; rows 1 to 6 kinds, strengths, heights, blocks, weights, ground -/
abbrev Rf : Type := Nat → Nat → Nat
def RF (w : gx_Wd) (b : Nat) (r : Rf) : Prop := (∀ k, k < 3 → w b k = nI (r 0 k)) ∧ (∀ j, 1 ≤ j → j ≤ 4 → ∀ i, i < 7 → w (b + j) i = nI (r j i)) ∧ (∀ i, i < 6 → w (b + 5) i = nI (r 5 i)) ∧ ∀ i, i < 16 → w (b + 6) i = nI (r 6 i)
def Rok (V : Nat) (r : Rf) : Prop := r 0 0 ≤ 7 ∧ r 0 1 ≤ 15 ∧ r 0 1 + r 0 0 ≤ 16 ∧ r 0 2 ≤ 27 ∧ (∀ i, i < 7 → r 1 i ≤ 5 ∧ r 2 i ≤ 99 ∧ r 3 i ≤ 9 ∧ r 4 i ≤ 9) ∧ (∀ i, i < 6 → r 5 i ≤ V) ∧ ∀ i, i < 16 → r 6 i ≤ 9
/-- the model's mind: the roof as it stands now, who stands where, who slacks -/
def MC (w : gx_Wd) (r : Rf) (q : Nat → Nat) (I : Nat → Bool) : Prop := RF w 0 r ∧ Rok 198 r ∧ (∀ p, p < 7 → w 10 p = nI (q p) ∧ q p < 7) ∧ ∀ p, p < 7 → (nI (q p) = w 0 19 ↔ I p = true)
def rK (r : Rf) (q : Nat → Nat) (p : Nat) : Nat := r 1 (q p)
def rS (r : Rf) (q : Nat → Nat) (p : Nat) : Nat := r 2 (q p)
def rT (r : Rf) (a : Nat) (q ra : Nat → Nat) (p : Nat) : Nat := r 6 (a + p) + r 3 (q p) + r 4 (q p) + ra (q p)
abbrev r0 : Nat → Nat := fun _ => 0
def mB (r : Rf) (q : Nat → Nat) (I : Nat → Bool) : Nat → Bool := cB (r 0 2) (rK r q) (rT r (r 0 1) q r0) I
def mG (r : Rf) (q : Nat → Nat) : Nat → Nat := cG (r 0 2) (rK r q) (rS r q) (rT r (r 0 1) q r0)
section
variable {w : gx_Wd} {r : Rf} {q : Nat → Nat} {I : Nat → Bool}
theorem RF.n {b : Nat} (h : RF w b r) : w b 0 = nI (r 0 0) := h.1 0 (by omega)
theorem RF.a {b : Nat} (h : RF w b r) : w b 1 = nI (r 0 1) := h.1 1 (by omega)
theorem RF.l {b : Nat} (h : RF w b r) : w b 2 = nI (r 0 2) := h.1 2 (by omega)
theorem m_top (h : MC w r q I) {p : Nat} (hp : p < r 0 0) : m_topOf (nI p) w = some (nI (rT r (r 0 1) q r0 p), w) := by
  obtain ⟨hR, hK, hq, hI⟩ := h
  obtain ⟨k1, k2, k3, k4, k5, k6, k7⟩ := hK
  have e1 := hR.2.2.2 (r 0 1 + p) (by omega)
  have e2 := hR.2.1 3 (by omega) (by omega) (q p) (hq p (by omega)).2
  have e3 := hR.2.1 4 (by omega) (by omega) (q p) (hq p (by omega)).2
  simp only [Nat.zero_add] at e1 e2 e3
  have a1 : gx_ald sh_m w 6 (nI (r 0 1 + p)) = some (nI (r 6 (r 0 1 + p))) := by rw [px_ald (N := 16) rfl (by omega) (by decide), e1]
  have a2 : gx_ald sh_m w 10 (nI p) = some (nI (q p)) := by rw [px_ald (N := 7) rfl (by omega) (by decide), (hq p (by omega)).1]
  have a3 : gx_ald sh_m w 3 (nI (q p)) = some (nI (r 3 (q p))) := by rw [px_ald (N := 7) rfl (hq p (by omega)).2 (by decide), e2]
  have a4 : gx_ald sh_m w 4 (nI (q p)) = some (nI (r 4 (q p))) := by rw [px_ald (N := 7) rfl (hq p (by omega)).2 (by decide), e3]
  simp (disch := first | omega | decide) only [m_topOf, hR.a, gx_bs, ql_eq, ql_le, ql_ge, ql_lt, ql_gt, qn_eq, qn_le, qn_lt, ql_add, qn_add, ql_mul, ql_mulL, qn_mul, ql_div, ql_sub, qn_sub, gx_put, a1, a2, a3, a4]
  rfl
theorem rT_le (hR : Rok 198 r) (hq : ∀ p, p < 7 → q p < 7) {p : Nat} (hp : p < r 0 0) : rT r (r 0 1) q r0 p ≤ 27 := by
  obtain ⟨k1, k2, k3, k4, k5, k6, k7⟩ := hR
  unfold rT
  have := k7 (r 0 1 + p) (by omega)
  have := k5 (q p) (hq p (by omega))
  simp only [r0]
  omega
theorem m_bear (h : MC w r q I) {p : Nat} (hp : p < r 0 0) : m_bears (nI p) w = some (bI (mB r q I p), w) := by
  have ht := m_top h hp
  obtain ⟨hR, hK, hq, hI⟩ := h
  have hT := rT_le hK (fun p hp => (hq p hp).2) hp
  obtain ⟨k1, k2, k3, k4, k5, k6, k7⟩ := hK
  have hqp := hq p (by omega)
  have e1 := hR.2.1 1 (by omega) (by omega) (q p) hqp.2
  simp only [Nat.zero_add] at e1
  have b1 := (k5 (q p) hqp.2).1
  have a2 : gx_ald sh_m w 10 (nI p) = some (nI (q p)) := by rw [px_ald (N := 7) rfl (by omega) (by decide), hqp.1]
  have a1 : gx_ald sh_m w 1 (nI (q p)) = some (nI (r 1 (q p))) := by rw [px_ald (N := 7) rfl hqp.2 (by decide), e1]
  have hi := hI p (by omega)
  simp (disch := first | omega | decide) only [m_bears, a1, a2, ht, hi, hR.l, gx_bs, ql_eq, ql_le, ql_ge, ql_lt, ql_gt, qn_eq, qn_le, qn_lt, ql_add, qn_add, ql_mul, ql_mulL, qn_mul, ql_div, ql_sub, qn_sub, gx_put]
  unfold mB cB rK
  by_cases c1 : r 1 (q p) = 3
  · simp [c1, bI]
  · by_cases c2 : I p = true
    · simp [c1, c2, bI]
    · have c2' : I p = false := by simpa using c2
      by_cases c3 : r 0 2 ≤ rT r (r 0 1) q r0 p
      · simp [c1, c2', c3, bI]
      · simp [c1, c2', c3, bI]
theorem m_might (h : MC w r q I) {p : Nat} (hp : p < r 0 0) : m_mightOf (nI p) w = some (nI (mG r q p), w) := by
  have ht := m_top h hp
  obtain ⟨hR, hK, hq, hI⟩ := h
  have hT := rT_le hK (fun p hp => (hq p hp).2) hp
  obtain ⟨k1, k2, k3, k4, k5, k6, k7⟩ := hK
  have hqp := hq p (by omega)
  have e1 := hR.2.1 1 (by omega) (by omega) (q p) hqp.2
  have e2 := hR.2.1 2 (by omega) (by omega) (q p) hqp.2
  simp only [Nat.zero_add] at e1 e2
  obtain ⟨b1, b2, -⟩ := k5 (q p) hqp.2
  have a2 : gx_ald sh_m w 10 (nI p) = some (nI (q p)) := by rw [px_ald (N := 7) rfl (by omega) (by decide), hqp.1]
  have a1 : gx_ald sh_m w 1 (nI (q p)) = some (nI (r 1 (q p))) := by rw [px_ald (N := 7) rfl hqp.2 (by decide), e1]
  have a3 : gx_ald sh_m w 2 (nI (q p)) = some (nI (r 2 (q p))) := by rw [px_ald (N := 7) rfl hqp.2 (by decide), e2]
  have key : ∀ f g : Nat, f ≤ 99 → g ≤ 99 → m_mightOf_31 (nI p) (nI g) (nI f) w = some (nI (if r 1 (q p) = 1 then f / 2 else if r 1 (q p) = 2 then 2 * f else if r 1 (q p) = 4 then f - 3 else if r 1 (q p) = 5 then 2 * g else f), w) := by
    intro f g hf hg
    simp (disch := first | omega | decide) only [m_mightOf_31, a1, a2, gx_bs, ql_eq, ql_le, ql_ge, ql_lt, ql_gt, qn_eq, qn_le, qn_lt, ql_add, qn_add, ql_mul, ql_mulL, qn_mul, ql_div, ql_sub, qn_sub, gx_put]
    by_cases c1 : r 1 (q p) = 1
    · simp only [if_pos c1]
    · simp only [if_neg c1]
      by_cases c2 : r 1 (q p) = 2
      · simp only [if_pos c2, Nat.mul_comm]
      · simp only [if_neg c2]
        by_cases c4 : r 1 (q p) = 4
        · simp only [if_pos c4]
          by_cases c3 : 3 ≤ f
          · simp (disch := first | omega | decide) only [if_pos c3, gx_bs, ql_eq, ql_le, ql_ge, ql_lt, ql_gt, qn_eq, qn_le, qn_lt, ql_add, qn_add, ql_mul, ql_mulL, qn_mul, ql_div, ql_sub, qn_sub, gx_put]
          · simp only [if_neg c3]
            rw [show f - 3 = 0 by omega]
            rfl
        · simp only [if_neg c4]
          by_cases c5 : r 1 (q p) = 5
          · simp only [if_pos c5, Nat.mul_comm]
          · simp only [if_neg c5]
  simp (disch := first | omega | decide) only [m_mightOf, a2, a3, ht, hR.l, gx_bs, ql_eq, ql_le, ql_ge, ql_lt, ql_gt, qn_eq, qn_le, qn_lt, ql_add, qn_add, ql_mul, ql_mulL, qn_mul, ql_div, ql_sub, qn_sub, gx_put, key]
  unfold mG cG rK rS
  by_cases c3 : r 0 2 < rT r (r 0 1) q r0 p
  · simp only [if_pos c3, if_neg (Nat.not_le.mpr c3), key _ _ (show r 2 (q p) / 2 ≤ 99 by omega) b2]
  · simp only [if_neg c3, if_pos (Nat.not_lt.mp c3)]
end
