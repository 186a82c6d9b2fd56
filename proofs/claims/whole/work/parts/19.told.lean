/-! ===== the methods that tell and ask simply ===== -/
theorem px_wk {w : gx_Wd} {o k : Nat} {v : Int32} {o' k' : Nat} (h : ¬ (o' = o ∧ k' = k)) : gx_w w o k v o' k' = w o' k' := by
  rw [px_w]
  by_cases c : o' = o
  · rw [if_pos c, if_neg (fun z => h ⟨c, z⟩), c]
  · rw [if_neg c]
theorem RI.to2 {w w' : gx_Wd} {r : Rf} (h : RI w r) (he : ∀ o k, (o = 0 ∧ 26 ≤ k ∨ 14 ≤ o ∧ o ≤ 19) → w' o k = w o k) : RI w' r := by
  obtain ⟨h1, h2, h3, h4⟩ := h
  exact ⟨fun k hk => by rw [he 0 (26 + k) (by omega)]; exact h1 k hk, fun j j1 j2 i hi => by rw [he (13 + j) i (by omega)]; exact h2 j j1 j2 i hi, fun i hi => by rw [he 18 i (by omega)]; exact h3 i hi, fun i hi => by rw [he 19 i (by omega)]; exact h4 i hi⟩
theorem P_letter {wx wm : gx_Wd} (c : Int32) (h : Inv wx wm) : Eq2 (x_E_letter c wx) (m_letter c wm) := by
  unfold x_E_letter m_letter
  by_cases c0 : 0 ≤ c
  · simp only [if_pos c0]
    by_cases c1 : 255 < c
    · simp only [if_pos c1]
      exact refE 6 (by decide) h rfl rfl
    · simp only [if_neg c1]
      have h0 := h
      obtain ⟨r, ri, k, f, ⟨a1, a2, a3⟩, ⟨b1, b2, b3, b4⟩, ⟨c1, c2, c3, c4⟩, d, ⟨e1, e2, e3, e4⟩, g1, g2⟩ := h
      by_cases hf : f < 96
      · simp (disch := first | omega | decide) only [x_T_append, e2, e3, gx_bs, ql_eq, ql_le, ql_ge, ql_lt, ql_gt, qn_eq, qn_le, qn_lt, ql_add, qn_add, ql_mul, ql_mulL, qn_mul, ql_div, ql_sub, qn_sub, gx_put, px_set (N := 96) (o := 30) rfl hf (by decide), px_ast (sh := sh_m) (N := 96) (o := 7) rfl hf (by decide)]
        have q1 : gx_w wx 30 f c 29 1 = nI f := by rw [px_wk (by omega)]; exact e2
        have q2 : gx_w wm 7 f c 0 3 = nI f := by rw [px_wk (by omega)]; exact e3
        rw [if_pos (show f < 96 from hf), if_neg (show ¬ (1 : Int32) = 0 by decide), if_neg (show ¬ f = 96 by omega), q1, q2, nI_1, px_ws, px_ws]
        simp only [gx_bs]
        refine ⟨_, _, _, rfl, rfl, r, ri, k, f + 1, ⟨a1.to (fun o k h1 h2 h3 => by rw [px_wk (by omega), px_wk (by omega)]), a2.to (fun o k h1 h2 h3 => by rw [px_wk (by omega), px_wk (by omega)]), a3⟩, ⟨b1.to (fun o k h1 h2 h3 => by rw [px_wk (by omega), px_wk (by omega)]), b2.to2 (fun o k h1 => by rw [px_wk (by omega), px_wk (by omega)]), b3, ?_⟩, ⟨c1, ?_, ?_, fun i hi => ?_⟩, fun i hi => ?_, ⟨by omega, px_ws, px_ws, fun i hi => ?_⟩, fun i hi => ?_, ?_⟩
        · rw [px_wk (by omega), px_wk (by omega), px_wk (by omega), px_wk (by omega)]; exact b4
        · rw [px_wk (by omega), px_wk (by omega)]; exact c2
        · rw [px_wk (by omega), px_wk (by omega)]; exact c3
        · rw [px_wk (by omega), px_wk (by omega), px_wk (by omega), px_wk (by omega)]; exact c4 i hi
        · rw [px_wk (by omega), px_wk (by omega), px_wk (by omega), px_wk (by omega)]; exact d i hi
        · simp only [px_w]
          by_cases hi2 : i = f
          · simp [hi2]
          · simp [hi2, e4 i hi]
        · rw [px_wk (by omega), px_wk (by omega)]; exact g1 i hi
        · rw [px_wk (by omega), px_wk (by omega)]; exact g2
      · have hf2 : f = 96 := by omega
        subst hf2
        rw [if_neg (show ¬ wx 29 1 < 96 by rw [e2]; decide), if_pos (show wm 0 3 = 96 by rw [e3]; rfl)]
        exact refE 6 (by decide) h0 rfl rfl
  · simp only [if_neg c0]
    exact refE 4 (by decide) h rfl rfl
theorem P_row {wx wm : gx_Wd} (c : Int32) (h : Inv wx wm) : Eq2 (x_E_row c wx) (m_row c wm) := by
  unfold x_E_row m_row
  by_cases c0 : 0 ≤ c
  · simp only [if_pos c0]
    by_cases c1 : 400 < c
    · simp only [if_pos c1]
      exact refE 6 (by decide) h rfl rfl
    · simp only [if_neg c1]
      have h0 := h
      obtain ⟨r, ri, k, f, ⟨a1, a2, a3⟩, ⟨b1, b2, b3, b4⟩, ⟨c1, c2, c3, c4⟩, d, ⟨e1, e2, e3, e4⟩, g1, g2⟩ := h
      by_cases hf : k < 7
      · simp (disch := first | omega | decide) only [c2, c3, gx_bs, ql_eq, ql_le, ql_ge, ql_lt, ql_gt, qn_eq, qn_le, qn_lt, ql_add, qn_add, ql_mul, ql_mulL, qn_mul, ql_div, ql_sub, qn_sub, gx_put, px_set (N := 7) (o := 38) rfl hf (by decide), px_ast (sh := sh_m) (N := 7) (o := 8) rfl hf (by decide)]
        have q1 : gx_w wx 38 k c 0 9 = nI k := by rw [px_wk (by omega)]; exact c2
        have q2 : gx_w wm 8 k c 0 4 = nI k := by rw [px_wk (by omega)]; exact c3
        rw [if_pos (show k < 7 from hf), if_neg (show ¬ k = 7 by omega), q1, q2, nI_1, px_ws, px_ws]
        refine ⟨_, _, _, rfl, rfl, r, ri, k + 1, f, ⟨a1.to (fun o k h1 h2 h3 => by rw [px_wk (by omega), px_wk (by omega)]), a2.to (fun o k h1 h2 h3 => by rw [px_wk (by omega), px_wk (by omega)]), a3⟩, ⟨b1.to (fun o k h1 h2 h3 => by rw [px_wk (by omega), px_wk (by omega)]), b2.to2 (fun o k h1 => by rw [px_wk (by omega), px_wk (by omega)]), b3, ?_⟩, ⟨by omega, px_ws, px_ws, fun i hi => ?_⟩, fun i hi => ?_, ⟨e1, ?_, ?_, fun i hi => ?_⟩, fun i hi => ?_, ?_⟩
        · rw [px_wk (by omega), px_wk (by omega), px_wk (by omega), px_wk (by omega)]; exact b4
        · simp only [px_w]
          by_cases hi2 : i = k
          · simp [hi2]
          · simp [hi2, c4 i hi]
        · rw [px_wk (by omega), px_wk (by omega), px_wk (by omega), px_wk (by omega)]; exact d i hi
        · rw [px_wk (by omega), px_wk (by omega)]; exact e2
        · rw [px_wk (by omega), px_wk (by omega)]; exact e3
        · rw [px_wk (by omega), px_wk (by omega), px_wk (by omega), px_wk (by omega)]; exact e4 i hi
        · rw [px_wk (by omega), px_wk (by omega)]; exact g1 i hi
        · rw [px_wk (by omega), px_wk (by omega)]; exact g2
      · have hf2 : k = 7 := by omega
        subst hf2
        rw [if_neg (show ¬ wx 0 9 < 7 by rw [c2]; decide), if_pos (show wm 0 4 = 7 by rw [c3]; rfl)]
        exact refE 6 (by decide) h0 rfl rfl
  · simp only [if_neg c0]
    exact refE 4 (by decide) h rfl rfl
theorem lt_of_cast {x : Int32} {n : Nat} (hn : n < 2 ^ 31) : (nI n - 1 < x ↔ nI n ≤ x) := by
  by_cases h : n = 0
  · subst h
    rw [Int32.lt_iff_toInt_lt, Int32.le_iff_toInt_le, show (nI 0 - 1).toInt = -1 by decide, show (nI 0).toInt = 0 by decide]
    omega
  · obtain ⟨m, rfl⟩ : ∃ m, n = m + 1 := ⟨n - 1, by omega⟩
    rw [nI_pred, Int32.lt_iff_toInt_lt, Int32.le_iff_toInt_le, nI_toInt (by omega), nI_toInt hn]
    omega
/-- a bearer's number on both sides -/
theorem isb {wx wm : gx_Wd} {n : Nat} (hn : n ≤ 7) (hx : wx 1 0 = nI n) (hm : wm 0 0 = nI n) (a : Int32) : (∃ p, p < n ∧ a = nI p ∧ x_R_hasBearer_1 a wx = some (1, wx) ∧ m_isBearer a wm = some (1, wm)) ∨ (x_R_hasBearer_1 a wx = some (0, wx) ∧ m_isBearer a wm = some (0, wm)) := by
  unfold x_R_hasBearer_1 m_isBearer m_in
  rw [hx, hm]
  rcases pk_ix a (n := n) (by omega) with h | h | ⟨p, hp, rfl⟩
  · right; simp [h]
  · right
    have h2 : nI n - 1 < a := (lt_of_cast (by omega)).mpr h
    by_cases c : a < 0
    · simp [c]
    · simp [c, h, h2]
  · left
    refine ⟨p, hp, rfl, ?_, ?_⟩
    · rw [if_neg (nI_pos (by omega)), if_neg (nI_ge hp (by omega))]
    · rw [if_neg (nI_pos (by omega)), if_neg (fun z => nI_ge hp (by omega) ((lt_of_cast (by omega)).mp z))]
      simp
/-- a number between 0 and below n, on both sides -/
theorem isin {n : Nat} (hn : n < 2 ^ 31) (w : gx_Wd) (a : Int32) : (∃ p, p < n + 1 ∧ a = nI p ∧ m_in a 0 (nI n) w = some (1, w)) ∨ ((a < 0 ∨ nI (n + 1) ≤ a ∧ ¬ a < 0) ∧ m_in a 0 (nI n) w = some (0, w)) := by
  unfold m_in
  by_cases c : a < 0
  · right; simp [c]
  · by_cases c2 : nI n < a
    · right
      refine ⟨Or.inr ⟨?_, c⟩, by simp [c, c2]⟩
      rw [← lt_of_cast (n := n + 1) (by
        obtain ⟨j, hj, rfl⟩ := nI_of c
        have := (nI_ltI hn hj).mp c2
        omega), nI_pred]
      exact c2
    · left
      obtain ⟨j, hj, rfl⟩ := nI_of c
      have h3 : ¬ n < j := fun z => c2 (nI_lt z hj)
      exact ⟨j, by omega, rfl, by rw [if_neg c, if_neg c2]⟩
theorem issp {wx wm : gx_Wd} (a : Int32) : (∃ p, p < 6 ∧ a = nI p ∧ x_E_isSpan a wx = some (1, wx) ∧ m_in a 0 5 wm = some (1, wm)) ∨ (x_E_isSpan a wx = some (0, wx) ∧ m_in a 0 5 wm = some (0, wm)) := by
  rcases isin (n := 5) (by decide) wm a with ⟨p, hp, rfl, h⟩ | ⟨h, h2⟩
  · left
    refine ⟨p, by omega, rfl, ?_, h⟩
    unfold x_E_isSpan
    rw [if_neg (nI_pos (by omega)), if_neg (show ¬ (6 : Int32) ≤ nI p from nI_ge (a := p) (b := 6) (by omega) (by omega))]
  · right
    refine ⟨?_, h2⟩
    unfold x_E_isSpan
    rcases h with h | ⟨h, h3⟩
    · rw [if_pos h]
    · rw [if_neg h3, if_pos (show (6 : Int32) ≤ a from h)]
theorem le_nat {a : Int32} {n : Nat} (hn : n < 2 ^ 31) (h0 : 0 ≤ a) (h : a ≤ nI n) : ∃ j, j ≤ n ∧ a = nI j := by
  obtain ⟨j, hj, rfl⟩ := nI_of (x := a) (fun z => by
    rw [Int32.lt_iff_toInt_lt] at z; rw [Int32.le_iff_toInt_le] at h0; simp at z h0; omega)
  exact ⟨j, (nI_leI hj hn).mp h, rfl⟩
theorem Rok.put5 {r : Rf} (h : Rok 99 r) {i v : Nat} (hv : v ≤ 99) : Rok 99 (rput r 5 i v) := by
  obtain ⟨k1, k2, k3, k4, k5, k6, k7⟩ := h
  refine ⟨k1, k2, k3, k4, k5, fun s hs => ?_, k7⟩
  unfold rput
  by_cases c : s = i
  · simp [c]; omega
  · simpa [c] using k6 s hs
theorem Rok.put6 {r : Rf} (h : Rok 99 r) {i v : Nat} (hv : v ≤ 9) : Rok 99 (rput r 6 i v) := by
  obtain ⟨k1, k2, k3, k4, k5, k6, k7⟩ := h
  refine ⟨k1, k2, k3, k4, k5, k6, fun s hs => ?_⟩
  unfold rput
  by_cases c : s = i
  · simp [c]; omega
  · simpa [c] using k7 s hs
theorem Rok.put4 {V : Nat} {r : Rf} (h : Rok V r) {i v : Nat} (hv : v ≤ 9) : Rok V (rput r 4 i v) := by
  obtain ⟨k1, k2, k3, k4, k5, k6, k7⟩ := h
  refine ⟨k1, k2, k3, k4, fun s hs => ?_, k6, k7⟩
  obtain ⟨q1, q2, q3, q4⟩ := k5 s hs
  refine ⟨q1, q2, q3, ?_⟩
  unfold rput
  by_cases c : s = i
  · simp [c]; omega
  · simpa [c] using q4
theorem Rok.putL {V : Nat} {r : Rf} (h : Rok V r) {v : Nat} (hv : v ≤ 27) : Rok V (rput r 0 2 v) := by
  obtain ⟨k1, k2, k3, k4, k5, k6, k7⟩ := h
  exact ⟨k1, k2, k3, by simp [rput]; exact hv, k5, k6, k7⟩
theorem Rok.putA {V : Nat} {r : Rf} (h : Rok V r) {v : Nat} (hv : v ≤ 15) (hv2 : v + r 0 0 ≤ 16) : Rok V (rput r 0 1 v) := by
  obtain ⟨k1, k2, k3, k4, k5, k6, k7⟩ := h
  exact ⟨k1, by simp [rput]; exact hv, by simp [rput]; exact hv2, k4, k5, k6, k7⟩
theorem P_span {wx wm : gx_Wd} (a v : Int32) (h : Inv wx wm) : Eq2 (x_E_span a v wx) (m_span a v wm) := by
  unfold x_E_span m_span
  rcases issp (wx := wx) (wm := wm) a with ⟨p, hp, rfl, e1, e2⟩ | ⟨e1, e2⟩
  · simp only [e1, e2, gx_bs]
    rw [if_neg (show ¬ (1 : Int32) = 0 by decide), if_neg (show ¬ (1 : Int32) = 0 by decide)]
    by_cases c0 : 0 ≤ v
    · simp only [if_pos c0]
      by_cases c1 : v ≤ 99
      · simp only [if_pos c1]
        obtain ⟨j, hj, rfl⟩ := le_nat (n := 99) (by decide) c0 c1
        obtain ⟨r, ri, k, f, hI⟩ := h
        have x6 : wx 6 p = nI (r 5 p) := hI.1.1.2.2.1 p hp
        have m5 : wm 5 p = nI (r 5 p) := by have := hI.1.2.1.2.2.1 p hp; simpa using this
        simp only [px_exch (N := 6) (o := 6) rfl hp (by decide), px_ald (sh := sh_m) (N := 6) (o := 5) rfl hp (by decide), px_ast (sh := sh_m) (N := 6) (o := 5) rfl hp (by decide), gx_bs, x6, m5]
        exact ⟨_, _, _, rfl, rfl, _, _, _, _, hI.put (j := 5) (by decide) (by omega) (hI.1.2.2.put5 hj)⟩
      · simp only [if_neg c1]
        exact refE 6 (by decide) h rfl rfl
    · simp only [if_neg c0]
      exact refE 4 (by decide) h rfl rfl
  · simp only [e1, e2, gx_bs]
    rw [if_pos trivial, if_pos trivial]
    exact refE 1 (by decide) h rfl rfl
theorem P_ground {wx wm : gx_Wd} (a v : Int32) (h : Inv wx wm) : Eq2 (x_E_ground a v wx) (m_ground a v wm) := by
  unfold x_E_ground m_ground
  rcases isin (n := 15) (by decide) wm a with ⟨p, hp, rfl, e2⟩ | ⟨e1, e2⟩
  · have e2' : m_in (nI p) 0 15 wm = some (1, wm) := e2
    simp only [e2', gx_bs]
    rw [if_neg (nI_pos (by omega)), if_pos (show nI p < 16 from nI_lt (b := 16) (by omega) (by omega)), if_neg (show ¬ (1 : Int32) = 0 by decide)]
    by_cases c0 : 0 ≤ v
    · simp only [if_pos c0]
      by_cases c1 : v ≤ 9
      · simp only [if_pos c1]
        obtain ⟨j, hj, rfl⟩ := le_nat (n := 9) (by decide) c0 c1
        obtain ⟨r, ri, k, f, hI⟩ := h
        have x6 : wx 7 p = nI (r 6 p) := hI.1.1.2.2.2 p hp
        have m5 : wm 6 p = nI (r 6 p) := by have := hI.1.2.1.2.2.2 p hp; simpa using this
        simp only [px_exch (N := 16) (o := 7) rfl hp (by decide), px_ald (sh := sh_m) (N := 16) (o := 6) rfl hp (by decide), px_ast (sh := sh_m) (N := 16) (o := 6) rfl hp (by decide), gx_bs, x6, m5]
        exact ⟨_, _, _, rfl, rfl, _, _, _, _, hI.put (j := 6) (by decide) (by omega) (hI.1.2.2.put6 hj)⟩
      · simp only [if_neg c1]
        exact refE 6 (by decide) h rfl rfl
    · simp only [if_neg c0]
      exact refE 4 (by decide) h rfl rfl
  · have e2' : m_in a 0 15 wm = some (0, wm) := e2
    simp only [e2', gx_bs]
    rw [if_pos trivial]
    rcases e1 with e1 | ⟨e1, e3⟩
    · rw [if_pos e1]
      exact refE 1 (by decide) h rfl rfl
    · rw [if_neg e3, if_neg (show ¬ a < 16 from fun z => absurd (Int32.lt_of_le_of_lt (show (16 : Int32) ≤ a from e1) z) (by decide))]
      exact refE 1 (by decide) h rfl rfl
theorem P_level {wx wm : gx_Wd} (v : Int32) (h : Inv wx wm) : Eq2 (x_E_level v wx) (m_level v wm) := by
  unfold x_E_level m_level
  by_cases c0 : 0 ≤ v
  · simp only [if_pos c0]
    by_cases c1 : v ≤ 27
    · obtain ⟨j, hj, rfl⟩ := le_nat (n := 27) (by decide) c0 c1
      rw [if_pos c1, if_pos (show nI j < 28 from nI_lt (b := 28) (by omega) (by omega))]
      obtain ⟨r, ri, k, f, hI⟩ := h
      simp only [gx_put, gx_bs, hI.1.1.l, hI.1.2.1.l]
      exact ⟨_, _, _, rfl, rfl, _, _, _, _, hI.put (j := 0) (i := 2) (by decide) (by decide) (hI.1.2.2.putL hj)⟩
    · rw [if_neg c1, if_neg (show ¬ v < 28 from fun z => c1 (by
        rw [Int32.lt_iff_toInt_lt] at z
        rw [Int32.le_iff_toInt_le]
        have e1 : (28 : Int32).toInt = 28 := by decide
        have e2 : (27 : Int32).toInt = 27 := by decide
        omega))]
      exact refE 6 (by decide) h rfl rfl
  · simp only [if_neg c0]
    exact refE 4 (by decide) h rfl rfl
theorem P_block {wx wm : gx_Wd} (a v : Int32) (h : Inv wx wm) : Eq2 (x_E_block a v wx) (m_block a v wm) := by
  unfold x_E_block m_block
  have h0 := h
  obtain ⟨r, ri, k, f, hI⟩ := h
  have hn := hI.1.2.2.1
  rcases isb hn hI.1.1.n hI.1.2.1.n a with ⟨p, hp, rfl, e1, e2⟩ | ⟨e1, e2⟩
  · simp only [e1, e2, gx_bs]
    rw [if_neg (show ¬ (1 : Int32) = 0 by decide), if_neg (show ¬ (1 : Int32) = 0 by decide)]
    by_cases c0 : 0 ≤ v
    · simp only [if_pos c0]
      by_cases c1 : v ≤ 9
      · simp only [if_pos c1]
        obtain ⟨j, hj, rfl⟩ := le_nat (n := 9) (by decide) c0 c1
        have x6 : wx 5 p = nI (r 4 p) := hI.1.1.2.1 4 (by decide) (by decide) p (by omega)
        have m5 : wm 4 p = nI (r 4 p) := by have := hI.1.2.1.2.1 4 (by decide) (by decide) p (by omega); simpa using this
        simp only [px_exch (N := 7) (o := 5) rfl (show p < 7 by omega) (by decide), px_ald (sh := sh_m) (N := 7) (o := 4) rfl (show p < 7 by omega) (by decide), px_ast (sh := sh_m) (N := 7) (o := 4) rfl (show p < 7 by omega) (by decide), gx_bs, x6, m5]
        exact ⟨_, _, _, rfl, rfl, _, _, _, _, hI.put (j := 4) (by decide) (by omega) (hI.1.2.2.put4 hj)⟩
      · simp only [if_neg c1]
        exact refE 6 (by decide) h0 rfl rfl
    · simp only [if_neg c0]
      exact refE 4 (by decide) h0 rfl rfl
  · simp only [e1, e2, gx_bs]
    rw [if_pos trivial, if_pos trivial]
    exact refE 1 (by decide) h0 rfl rfl
def lA (n : Nat) : Nat := if n = 0 then 15 else 16 - n
theorem x_lastAt {w : gx_Wd} {n : Nat} (hn : n ≤ 7) (h : w 1 0 = nI n) : x_R_lastAt_1 w = some (nI (lA n), w) := by
  unfold x_R_lastAt_1 lA
  rw [h]
  by_cases c : n ≤ 1
  · rw [if_pos (show nI n ≤ 1 from nI_le (b := 1) c (by omega))]
    have : n = 0 ∨ n = 1 := by omega
    rcases this with rfl | rfl <;> rfl
  · rw [if_neg (show ¬ nI n ≤ 1 from nI_ge (a := 1) (by omega) (by omega)), if_neg (by omega)]
    rw [show (16 : Int32) - nI n = nI (16 - n) from pk_sub (a := 16) (by omega)]
theorem m_lastAt_ok {w : gx_Wd} {n : Nat} (hn : n ≤ 7) (h : w 0 0 = nI n) : m_lastAt w = some (nI (lA n), w) := by
  unfold m_lastAt lA
  rw [h]
  by_cases c : n = 0
  · subst c; rfl
  · rw [if_neg (nI_ne0 (by omega) (by omega)), if_neg c]
    rw [show (16 : Int32) - nI n = nI (16 - n) from pk_sub (a := 16) (by omega)]
theorem P_at {wx wm : gx_Wd} (v : Int32) (h : Inv wx wm) : Eq2 (x_E_at v wx) (m_at v wm) := by
  unfold x_E_at m_at
  have h0 := h
  obtain ⟨r, ri, k, f, hI⟩ := h
  have hn := hI.1.2.2.1
  by_cases c0 : 0 ≤ v
  · simp only [if_pos c0, x_lastAt hn hI.1.1.n, m_lastAt_ok hn hI.1.2.1.n, gx_bs]
    have hl : lA (r 0 0) ≤ 15 := by unfold lA; split <;> omega
    by_cases c1 : v ≤ nI (lA (r 0 0))
    · obtain ⟨j, hj, rfl⟩ := le_nat (by omega) c0 c1
      rw [if_pos c1, if_pos c1]
      simp only [gx_put, gx_bs, hI.1.1.a, hI.1.2.1.a]
      refine ⟨_, _, _, rfl, rfl, _, _, _, _, hI.put (j := 0) (i := 1) (by decide) (by decide) (hI.1.2.2.putA (by omega) ?_)⟩
      unfold lA at hj
      split at hj <;> omega
    · rw [if_neg c1, if_neg c1]
      exact refE 6 (by decide) h0 rfl rfl
  · simp only [if_neg c0]
    exact refE 4 (by decide) h0 rfl rfl
theorem P_holds {wx wm : gx_Wd} (h : Inv wx wm) : Eq2 (x_E_holds wx) (m_holds wm) := by
  have h0 := h
  obtain ⟨r, ri, k, f, hI⟩ := h
  obtain ⟨w1, e1, e2, hX⟩ := x_told hI.1.1 hI.1.2.2
  obtain ⟨w2, e3, e4⟩ := x_firm hX
  have hm := m_held hI.mc
  have hk : Inv w2 wm := h0.to (fun o k hk => by rw [e4 o (by unfold xKeep at hk; omega) (by unfold xKeep at hk; omega) (by unfold xKeep at hk; omega), e2 o (by unfold xKeep at hk; omega)]) (fun _ _ _ => rfl)
  simp only [x_E_holds, m_holds, e1, e3, hm, gx_bs, bI_ite]
  show Eq2 _ _
  by_cases c : cFirm (r 0 0) (mB r iD nO) (mG r iD) (r 5) = true
  · have c2 : cFirm (r 0 0) (xB r (r 0 1) (r 0 2) iD r0 nO) (xG r (r 0 1) (r 0 2) iD r0) (r 5) = true := c
    rw [if_pos c, if_pos c2]
    exact ⟨_, _, _, rfl, rfl, hk⟩
  · have c2 : ¬ cFirm (r 0 0) (xB r (r 0 1) (r 0 2) iD r0 nO) (xG r (r 0 1) (r 0 2) iD r0) (r 5) = true := c
    rw [if_neg c, if_neg c2]
    exact ⟨_, _, _, rfl, rfl, hk⟩
theorem P_load {wx wm : gx_Wd} (a : Int32) (h : Inv wx wm) : Eq2 (x_E_load a wx) (m_load a wm) := by
  have h0 := h
  obtain ⟨r, ri, k, f, hI⟩ := h
  have hn := hI.1.2.2.1
  unfold x_E_load m_load
  rcases isb hn hI.1.1.n hI.1.2.1.n a with ⟨p, hp, rfl, e1, e2⟩ | ⟨e1, e2⟩
  · simp only [e1, e2, gx_bs]
    rw [if_neg (show ¬ (1 : Int32) = 0 by decide), if_neg (show ¬ (1 : Int32) = 0 by decide)]
    obtain ⟨w1, d1, d2, hX⟩ := x_told hI.1.1 hI.1.2.2
    obtain ⟨w2, w3, g1, g2, g3, g4, g5, g6⟩ := x_sw hX
    have hk : Inv w3 wm := h0.to (fun o k hk => by rw [g3 o (by unfold xKeep at hk; omega) (by unfold xKeep at hk; omega) (by unfold xKeep at hk; omega), d2 o (by unfold xKeep at hk; omega)]) (fun _ _ _ => rfl)
    simp only [d1, x_M_standAndWeigh, g1, g2, gx_bs, px_cell (N := 7) (o := 28) rfl (show p < 7 by omega) (by decide), g5 p hp, m_load1 hI.mc hp]
    exact ⟨_, _, _, rfl, rfl, hk⟩
  · simp only [e1, e2, gx_bs]
    rw [if_pos trivial, if_pos trivial]
    exact refE 1 (by decide) h0 rfl rfl
theorem P_sag {wx wm : gx_Wd} (h : Inv wx wm) : Eq2 (x_E_sag wx) (m_sag wm) := by
  have h0 := h
  obtain ⟨r, ri, k, f, hI⟩ := h
  have hn := hI.1.2.2.1
  obtain ⟨w1, d1, d2, hX⟩ := x_told hI.1.1 hI.1.2.2
  obtain ⟨w2, w3, g1, g2, g3, g4, g5, g6⟩ := x_sw hX
  have hk : Inv w3 wm := h0.to (fun o k hk => by rw [g3 o (by unfold xKeep at hk; omega) (by unfold xKeep at hk; omega) (by unfold xKeep at hk; omega), d2 o (by unfold xKeep at hk; omega)]) (fun _ _ _ => rfl)
  have e1 : x_M_firstOverloaded_2 6000 0 w3 = _ := x_overL g4 g5 g6 (r 0 0) 6000 0 (by omega) (by omega)
  have e2 : x_M_firstFalling_2 6000 0 w3 = _ := x_fallL g4 6 6000 0 (by omega) (by omega)
  have hm : m_sag wm = some (cSag (r 0 0) (xB r (r 0 1) (r 0 2) iD r0 nO) (xG r (r 0 1) (r 0 2) iD r0) (r 5), wm) := by
    have e3 := m_sag_ok hI.mc
    simp only [m_sag, e3, gx_bs]
    rfl
  rw [hm]
  refine ⟨_, w3, wm, ?_, rfl, hk⟩
  simp only [x_E_sag, d1, x_M_standAndWeigh, g1, g2, x_M_firstOverloaded, x_M_firstFalling, e1, e2, gx_bs]
  unfold cSag
  cases c1 : gfind (cO (r 0 0) (xB r (r 0 1) (r 0 2) iD r0 nO) (xG r (r 0 1) (r 0 2) iD r0) (r 5)) (r 0 0) 0 with
  | some p =>
    have := gfind_some _ _ _ c1
    simp only
    rw [if_neg (nI_pos (by omega))]
  | none =>
    simp only
    rw [if_pos (by decide)]
    cases c2 : gfind (cF (r 0 0) (xB r (r 0 1) (r 0 2) iD r0 nO) (r 5)) 6 0 with
    | some s =>
      have := gfind_some _ _ _ c2
      simp only
      rw [if_neg (nI_pos (by omega)), show (10 : Int32) + nI s = nI (10 + s) from nI_add 10 s]
    | none =>
      simp only
      rw [if_pos (by decide)]
theorem P_bearer {wx wm : gx_Wd} (a v : Int32) (h : Inv wx wm) : Eq2 (x_E_bearer a v wx) (m_bearer a v wm) := by
  have h0 := h
  obtain ⟨r, ri, k, f, hI⟩ := h
  have hn := hI.1.2.2.1
  unfold x_E_bearer m_bearer
  rcases isb hn hI.1.1.n hI.1.2.1.n a with ⟨p, hp, rfl, e1, e2⟩ | ⟨e1, e2⟩
  · simp only [e1, e2, gx_bs]
    rw [if_neg (show ¬ (1 : Int32) = 0 by decide), if_neg (show ¬ (1 : Int32) = 0 by decide)]
    obtain ⟨w1, d1, d2, hX⟩ := x_told hI.1.1 hI.1.2.2
    have hk : Inv w1 wm := h0.to (fun o k hk => by rw [d2 o (by unfold xKeep at hk; omega)]) (fun _ _ _ => rfl)
    have hp7 : p < 7 := by omega
    have hap : r 0 1 + p < 16 := by have := hI.1.2.2.2.2.1; omega
    have ht := x_top hX hp7 hap
    have htl := xT_le hX hp7 hap
    have hc := x_can hX (b := p) (t := xT r (r 0 1) r0 p p) hp7 (by omega)
    have hg := x_might hX (b := p) (t := xT r (r 0 1) r0 p p) hp7 (by omega)
    have mt : m_topOf (nI p) wm = some (nI (xT r (r 0 1) r0 p p), wm) := m_top hI.mc hp
    have mb : m_bears (nI p) wm = some (bI (!(decide (r 1 p = 3)) && decide (r 0 2 ≤ xT r (r 0 1) r0 p p)), wm) := by
      rw [m_bear hI.mc hp]
      unfold mB cB rK
      simp only [nO, Bool.not_false, Bool.and_true]
      rfl
    have mg : m_mightOf (nI p) wm = some (nI (gM (r 1 p) (r 2 p) (xT r (r 0 1) r0 p p) (r 0 2)), wm) := m_might hI.mc hp
    have x1 : w1 2 p = nI (r 1 p) := hX.arr (j := 1) (by decide) (by decide) hp7
    have x2 : w1 3 p = nI (r 2 p) := hX.arr (j := 2) (by decide) (by decide) hp7
    have x3 : w1 4 p = nI (r 3 p) := hX.arr (j := 3) (by decide) (by decide) hp7
    have x4 : w1 5 p = nI (r 4 p) := hX.arr (j := 4) (by decide) (by decide) hp7
    have m1 : wm 1 p = nI (r 1 p) := by have := hI.1.2.1.2.1 1 (by decide) (by decide) p hp7; simpa using this
    have m2 : wm 2 p = nI (r 2 p) := by have := hI.1.2.1.2.1 2 (by decide) (by decide) p hp7; simpa using this
    have m3 : wm 3 p = nI (r 3 p) := by have := hI.1.2.1.2.1 3 (by decide) (by decide) p hp7; simpa using this
    have m4 : wm 4 p = nI (r 4 p) := by have := hI.1.2.1.2.1 4 (by decide) (by decide) p hp7; simpa using this
    have xl : w1 1 2 = nI (r 0 2) := hX.1.l
    have ml : wm 0 2 = nI (r 0 2) := hI.1.2.1.l
    simp only [d1, ht, hc, hg, mt, mb, mg, gx_bs, px_cell (N := 7) (o := 2) rfl hp7 (by decide), px_cell (N := 7) (o := 3) rfl hp7 (by decide), px_cell (N := 7) (o := 4) rfl hp7 (by decide), px_cell (N := 7) (o := 5) rfl hp7 (by decide), px_ald (sh := sh_m) (N := 7) (o := 1) rfl hp7 (by decide), px_ald (sh := sh_m) (N := 7) (o := 2) rfl hp7 (by decide), px_ald (sh := sh_m) (N := 7) (o := 3) rfl hp7 (by decide), px_ald (sh := sh_m) (N := 7) (o := 4) rfl hp7 (by decide), x1, x2, x3, x4, m1, m2, m3, m4, xl, ml]
    by_cases c0 : v = 0
    · simp only [if_pos c0]; exact ⟨_, _, _, rfl, rfl, hk⟩
    · by_cases c1 : v = 1
      · simp only [if_neg c0, if_pos c1]; exact ⟨_, _, _, rfl, rfl, hk⟩
      · by_cases c2 : v = 2
        · simp only [if_neg c0, if_neg c1, if_pos c2]; exact ⟨_, _, _, rfl, rfl, hk⟩
        · by_cases c3 : v = 3
          · simp only [if_neg c0, if_neg c1, if_neg c2, if_pos c3]; exact ⟨_, _, _, rfl, rfl, hk⟩
          · by_cases c4 : v = 4
            · simp only [if_neg c0, if_neg c1, if_neg c2, if_neg c3, if_pos c4]; exact ⟨_, _, _, rfl, rfl, hk⟩
            · by_cases c5 : v = 5
              · simp only [if_neg c0, if_neg c1, if_neg c2, if_neg c3, if_neg c4, if_pos c5, bI_ite]
                by_cases c : (!(decide (r 1 p = 3)) && decide (r 0 2 ≤ xT r (r 0 1) r0 p p)) = true
                · simp only [if_pos c]; exact ⟨_, _, _, rfl, rfl, hk⟩
                · simp only [if_neg c]; exact ⟨_, _, _, rfl, rfl, hk⟩
              · by_cases c6 : v = 6
                · simp only [if_neg c0, if_neg c1, if_neg c2, if_neg c3, if_neg c4, if_neg c5, if_pos c6, bI_ite]
                  by_cases c : (!(decide (r 1 p = 3)) && decide (r 0 2 ≤ xT r (r 0 1) r0 p p)) = true
                  · simp only [if_pos c]
                    by_cases c9 : nI (xT r (r 0 1) r0 p p) ≤ nI (r 0 2)
                    · simp only [if_pos c9]; exact ⟨_, _, _, rfl, rfl, hk⟩
                    · simp only [if_neg c9]; exact ⟨_, _, _, rfl, rfl, hk⟩
                  · simp only [if_neg c]; exact ⟨_, _, _, rfl, rfl, hk⟩
                · by_cases c7 : v = 7
                  · simp only [if_neg c0, if_neg c1, if_neg c2, if_neg c3, if_neg c4, if_neg c5, if_neg c6, if_pos c7]; exact ⟨_, _, _, rfl, rfl, hk⟩
                  · simp only [if_neg c0, if_neg c1, if_neg c2, if_neg c3, if_neg c4, if_neg c5, if_neg c6, if_neg c7]
                    exact refE 2 (by decide) hk rfl rfl
  · simp only [e1, e2, gx_bs]
    rw [if_pos trivial, if_pos trivial]
    exact refE 1 (by decide) h0 rfl rfl
