/-! ===== the text: a statement read, the model ===== -/
def MX (w : gx_Wd) (t : Lt) (f p : Nat) : Prop := w 0 3 = nI f ∧ w 0 14 = nI p ∧ (∀ i, i < 96 → w 7 i = t i) ∧ p ≤ f ∧ f ≤ 96
def U4 (w w' : gx_Wd) : Prop := ∀ o k, ¬ (o = 0 ∧ k = 14) → w' o k = w o k
def U7 (w w' : gx_Wd) : Prop := ∀ o k, ¬ (o = 0 ∧ (k = 14 ∨ k = 15 ∨ k = 16 ∨ k = 17)) → w' o k = w o k
theorem U4.tr {w w1 w2 : gx_Wd} (h1 : U4 w w1) (h2 : U4 w1 w2) : U4 w w2 := fun o k a => by rw [h2 o k a, h1 o k a]
theorem U7.tr {w w1 w2 : gx_Wd} (h1 : U7 w w1) (h2 : U7 w1 w2) : U7 w w2 := fun o k a => by rw [h2 o k a, h1 o k a]
theorem U4.u7 {w w1 : gx_Wd} (h1 : U4 w w1) : U7 w w1 := fun o k a => h1 o k (by omega)
section
variable {w : gx_Wd} {t : Lt} {f p : Nat}
theorem MX.mv {w' : gx_Wd} (h : MX w t f p) (hu : U7 w w') {p' : Nat} (h2 : w' 0 14 = nI p') (hp : p' ≤ f) : MX w' t f p' := ⟨by rw [hu 0 3 (by decide)]; exact h.1, h2, fun i hi => by rw [hu 7 i (by omega)]; exact h.2.2.1 i hi, hp, h.2.2.2.2⟩
theorem m_nxt (h : MX w t f p) : m_next w = some (ltr t f p, w) := by
  obtain ⟨h1, h2, h3, h4, h5⟩ := h
  unfold m_next ltr
  rw [h1, h2]
  by_cases c : p < f
  · rw [if_neg (nI_ge c (by omega)), if_pos c, px_ald (sh := sh_m) (N := 96) (o := 7) rfl (by omega) (by decide), h3 p (by omega)]
    rfl
  · rw [if_pos (nI_le (by omega) (by omega)), if_neg c]
theorem m_adv (h : MX w t f p) (hp : p < f) : gx_put w 0 14 (w 0 14 + 1) = some (gx_w w 0 14 (nI (p + 1))) ∧ MX (gx_w w 0 14 (nI (p + 1))) t f (p + 1) ∧ U4 w (gx_w w 0 14 (nI (p + 1))) := by
  have hu : U4 w (gx_w w 0 14 (nI (p + 1))) := fun o k a => px_wk a
  refine ⟨?_, h.mv hu.u7 px_ws hp, hu⟩
  unfold gx_put
  rw [h.2.1, nI_1]
theorem m_tak (h : MX w t f p) {c : Int32} (hc : c ≠ -1) : ∃ w', m_takes c w = some (bI (decide (ltr t f p = c)), w') ∧ U4 w w' ∧ MX w' t f (if ltr t f p = c then p + 1 else p) := by
  unfold m_takes
  simp only [m_nxt h, gx_bs]
  by_cases c4 : ltr t f p = c
  · have hp : p < f := ltr_lt (t := t) (by rw [c4]; exact hc)
    obtain ⟨e1, e2, e3⟩ := m_adv h hp
    simp only [if_pos c4, e1, gx_bs]
    exact ⟨_, by rw [decide_eq_true c4]; rfl, e3, e2⟩
  · simp only [if_neg c4]
    exact ⟨w, by rw [decide_eq_false c4]; rfl, fun _ _ _ => rfl, h⟩
theorem m_dig (h : MX w t f p) : m_isDigit w = some (bI (isD (ltr t f p)), w) := by
  unfold m_isDigit
  simp only [m_nxt h, gx_bs]
  unfold m_in isD
  by_cases c1 : ltr t f p < 48
  · rw [if_pos c1, gx_bs, decide_eq_false (Int32.not_le.mpr c1)]; rfl
  · rw [if_neg c1, decide_eq_true (Int32.not_lt.mp c1)]
    by_cases c2 : 57 < ltr t f p
    · rw [if_pos c2, gx_bs, decide_eq_false (Int32.not_le.mpr c2)]; rfl
    · rw [if_neg c2, gx_bs, decide_eq_true (Int32.not_lt.mp c2)]; rfl
theorem m_rnD (h : MX w t f p) {fu n v k : Nat} (hk : k < n) (hn : n ≤ 2) (hd : isD (ltr t f p) = true) : m_number_13 (fu + 1) (nI n) (nI v) (nI k) w = m_number_13 fu (nI n) (nI (10 * v + dv (ltr t f p))) (nI (k + 1)) (gx_w w 0 14 (nI (p + 1))) := by
  have hp := isD_lt hd
  obtain ⟨d, hd1, hd2, hd3⟩ := isD_nat hd
  obtain ⟨e1, e2, e3⟩ := m_adv h hp
  have e4 : gx_ald sh_m w 7 (w 0 14) = some (nI (48 + d)) := by
    rw [h.2.1, px_ald (sh := sh_m) (N := 96) (o := 7) rfl (by have := h.2.2.2.2; omega) (by decide), h.2.2.1 p (by have := h.2.2.2.2; omega), ← hd2]
    unfold ltr
    rw [if_pos hp]
  rw [m_number_13, if_neg (nI_ge hk (by omega)), hd3]
  simp only [m_dig h, gx_bs, hd, e4, e1]
  rw [if_neg (show ¬ bI true = 0 by decide), nI_1]
  rw [show (10 : Int32) * nI v + nI (48 + d) - 48 = nI (10 * v + d) from by rw [show (10 : Int32) = nI 10 from rfl, pk_mul, nI_add, show (48 : Int32) = nI 48 from rfl, pk_sub (by omega), show 10 * v + (48 + d) - 48 = 10 * v + d by omega]]
theorem m_rnN (h : MX w t f p) {fu n k : Nat} {v : Int32} (hk : n ≤ k ∧ k ≤ 2 ∨ k < n ∧ n ≤ 2 ∧ ¬ isD (ltr t f p) = true) : m_number_13 (fu + 1) (nI n) v (nI k) w = some (v, w) := by
  rw [m_number_13]
  rcases hk with ⟨h1, h2⟩ | ⟨h1, h2, h3⟩
  · rw [if_pos (nI_le h1 (by omega))]
  · rw [if_neg (nI_ge h1 (by omega))]
    simp only [m_dig h, gx_bs, show isD (ltr t f p) = false by simpa using h3]
    rw [if_pos (show bI false = 0 by decide)]
def nmB (l2 : Bool) (L : Lt) (p : Nat) : Option (Nat × Nat) := if l2 = true then nm2 L p else nm1 L p
def lmB (l2 : Bool) : Int32 := if l2 = true then 2 else 1
def chB (l2 : Bool) : Int32 := if l2 = true then 78 else 68
theorem one_B (l2 : Bool) {L : Lt} {p : Nat} : one L (chB l2) p = (nmB l2 L p).map (fun z => (z.1, [z.2])) := by
  cases l2 <;> rfl
theorem m_num (h : MX w t f p) (l2 : Bool) : ∃ w', m_number (lmB l2) w = some (mI ((nmB l2 (ltr t f) p).map (fun z => z.2)), w') ∧ U4 w w' ∧ MX w' t f (match nmB l2 (ltr t f) p with | some z => z.1 | none => p) := by
  unfold m_number
  simp only [m_dig h, gx_bs]
  by_cases c : isD (ltr t f p) = true
  · obtain ⟨e1, e2, e3⟩ := m_adv h (isD_lt c)
    rw [c, if_neg (show ¬ bI true = 0 by decide)]
    cases l2 with
    | false =>
      have hn : nmB false (ltr t f) p = some (p + 1, dv (ltr t f p)) := by unfold nmB nm1; rw [if_neg (by decide), if_pos c]
      rw [hn]
      refine ⟨_, ?_, e3, e2⟩
      refine Eq.trans (show m_number_13 (5998 + 1 + 1) (nI 1) (nI 0) (nI 0) w = _ from m_rnD h (by omega) (by omega) c) ?_
      refine Eq.trans (m_rnN e2 (Or.inl ⟨by omega, by omega⟩)) ?_
      rw [show 10 * 0 + dv (ltr t f p) = dv (ltr t f p) by omega]
      rfl
    | true =>
      by_cases c2 : isD (ltr t f (p + 1)) = true
      · obtain ⟨d1, d2, d3⟩ := m_adv e2 (isD_lt c2)
        have hn : nmB true (ltr t f) p = some (p + 2, 10 * dv (ltr t f p) + dv (ltr t f (p + 1))) := by unfold nmB nm2; rw [if_pos rfl, if_pos c, if_pos c2]
        rw [hn]
        refine ⟨_, ?_, e3.tr d3, d2⟩
        refine Eq.trans (show m_number_13 (5997 + 1 + 1 + 1) (nI 2) (nI 0) (nI 0) w = _ from m_rnD h (by omega) (by omega) c) ?_
        refine Eq.trans (m_rnD e2 (by omega) (by omega) c2) ?_
        refine Eq.trans (m_rnN d2 (Or.inl ⟨by omega, by omega⟩)) ?_
        rw [show 10 * (10 * 0 + dv (ltr t f p)) = 10 * dv (ltr t f p) by omega]
        rfl
      · have hn : nmB true (ltr t f) p = some (p + 1, dv (ltr t f p)) := by unfold nmB nm2; rw [if_pos rfl, if_pos c, if_neg c2]
        rw [hn]
        refine ⟨_, ?_, e3, e2⟩
        refine Eq.trans (show m_number_13 (5998 + 1 + 1) (nI 2) (nI 0) (nI 0) w = _ from m_rnD h (by omega) (by omega) c) ?_
        refine Eq.trans (m_rnN e2 (Or.inr ⟨by omega, by omega, c2⟩)) ?_
        rw [show 10 * 0 + dv (ltr t f p) = dv (ltr t f p) by omega]
        rfl
  · have hn : nmB l2 (ltr t f) p = none := by
      unfold nmB nm1 nm2
      rw [if_neg c, if_neg c]
      cases l2 <;> rfl
    rw [hn, show isD (ltr t f p) = false by simpa using c, if_pos (show bI false = 0 by decide)]
    exact ⟨w, rfl, fun _ _ _ => rfl, h⟩
theorem nmB_le {l2 : Bool} {L : Lt} {z : Nat × Nat} (h : nmB l2 L p = some z) : z.2 ≤ (if l2 = true then 99 else 9) := by
  have hD : ∀ c, isD c = true → dv c ≤ 9 := fun c hc => by obtain ⟨d, h1, h2, h3⟩ := isD_nat hc; omega
  unfold nmB nm1 nm2 at h
  cases l2 with
  | false =>
    rw [if_neg (by decide)] at h
    split at h
    · rename_i c; cases h; exact hD _ c
    · cases h
  | true =>
    rw [if_pos rfl] at h
    split at h
    · rename_i c
      split at h
      · rename_i c2
        cases h
        have := hD _ c
        have := hD _ c2
        simp only [if_true]
        omega
      · cases h
        have := hD _ c
        simp only [if_true]
        omega
    · cases h
theorem mI_neg2 {o : Option Nat} {α : Type} {x y : α} (h : ∀ m, o = some m → m ≤ 400) : (if mI o < 0 then x else y) = if o.isSome = true then y else x := mI_neg h
/-- a number, a comma, a number -/
theorem m_two (h : MX w t f p) (l1 l2 : Bool) : ∃ w', m_takesTwo (lmB l1) (lmB l2) w = some (bI (run (ltr t f) [chB l1, 44, chB l2] p []).1, w') ∧ (∀ o k, ¬ (o = 0 ∧ (k = 14 ∨ k = 15 ∨ k = 16)) → w' o k = w o k) ∧ MX w' t f (run (ltr t f) [chB l1, 44, chB l2] p []).2.1 ∧ ((run (ltr t f) [chB l1, 44, chB l2] p []).1 = true → w' 0 15 = nI ((run (ltr t f) [chB l1, 44, chB l2] p []).2.2.getD 0 0) ∧ w' 0 16 = nI ((run (ltr t f) [chB l1, 44, chB l2] p []).2.2.getD 1 0)) := by
  obtain ⟨w1, e1, e2, e3⟩ := m_num h l1
  unfold m_takesTwo
  rw [e1, gx_bs]
  rw [run, one_B]
  cases h1 : nmB l1 (ltr t f) p with
  | none =>
    rw [h1] at e3
    refine ⟨gx_w w1 0 15 (-1), ?_, fun o k hk => by rw [px_wk (by omega), e2 o k (by omega)], ?_, fun z => by cases z⟩
    · simp only [gx_put, gx_bs, Option.map_none, mI]
      rw [if_pos (by rw [px_ws]; decide)]
      rfl
    · exact e3.mv (fun o k hk => px_wk (by omega)) (by rw [px_wk (by decide)]; exact e3.2.1) e3.2.2.2.1
  | some z =>
    rw [h1] at e3
    have hz := nmB_le h1
    have hz2 : z.2 ≤ 99 := by split at hz <;> omega
    have hM2 : MX (gx_w w1 0 15 (nI z.2)) t f z.1 := e3.mv (fun o k hk => px_wk (by omega)) (by rw [px_wk (by decide)]; exact e3.2.1) e3.2.2.2.1
    obtain ⟨w2, d1, d2, d3⟩ := m_tak hM2 (c := 44) (by decide)
    simp only [Option.map_some, mI, gx_put, gx_bs]
    rw [if_neg (show ¬ gx_w w1 0 15 (nI z.2) 0 15 < 0 by rw [px_ws]; exact nI_pos (by omega)), d1, gx_bs, bI_ite]
    rw [run]
    have h44 : one (ltr t f) 44 z.1 = if ltr t f z.1 = 44 then some (z.1 + 1, []) else none := rfl
    rw [h44]
    by_cases c : ltr t f z.1 = 44
    · rw [if_pos (decide_eq_true c)]
      simp only [if_pos c] at d3 ⊢
      obtain ⟨w3, g1, g2, g3⟩ := m_num d3 l2
      rw [g1, gx_bs, run, one_B]
      cases h2 : nmB l2 (ltr t f) (z.1 + 1) with
      | none =>
        rw [h2] at g3
        refine ⟨gx_w w3 0 16 (-1), ?_, fun o k hk => by rw [px_wk (by omega), g2 o k (by omega), d2 o k (by omega), px_wk (by omega), e2 o k (by omega)], ?_, fun z => by cases z⟩
        · simp only [Option.map_none, mI, gx_bs]
          exact (if_pos (show gx_w w3 0 16 (-1) 0 16 < 0 by rw [px_ws]; decide)).trans rfl
        · exact g3.mv (fun o k hk => px_wk (by omega)) (by rw [px_wk (by decide)]; exact g3.2.1) g3.2.2.2.1
      | some y =>
        rw [h2] at g3
        have hy := nmB_le h2
        have hy2 : y.2 ≤ 99 := by split at hy <;> omega
        refine ⟨gx_w w3 0 16 (nI y.2), ?_, fun o k hk => by rw [px_wk (by omega), g2 o k (by omega), d2 o k (by omega), px_wk (by omega), e2 o k (by omega)], ?_, fun _ => ⟨?_, ?_⟩⟩
        · simp only [Option.map_some, mI, gx_bs]
          exact (if_neg (show ¬ gx_w w3 0 16 (nI y.2) 0 16 < 0 by rw [px_ws]; exact nI_pos (by omega))).trans rfl
        · exact g3.mv (fun o k hk => px_wk (by omega)) (by rw [px_wk (by decide)]; exact g3.2.1) g3.2.2.2.1
        · rw [px_wk (by decide), g2 0 15 (by decide), d2 0 15 (by decide), px_ws]
          rfl
        · rw [px_ws]
          rfl
    · rw [if_neg (by simp [c])]
      simp only [if_neg c] at d3 ⊢
      exact ⟨w2, rfl, fun o k hk => by rw [d2 o k (by omega), px_wk (by omega), e2 o k (by omega)], d3, fun z => by cases z⟩
theorem m_kin (c : Int32) : m_kindOf c w = some (mI (kd c), w) := by
  unfold m_kindOf kd
  by_cases c1 : c = 98
  · subst c1; rfl
  rw [if_neg c1]
  by_cases c2 : c = 99
  · subst c2; rfl
  rw [if_neg c2]
  by_cases c3 : c = 104
  · subst c3; rfl
  rw [if_neg c3]
  by_cases c4 : c = 108
  · subst c4; rfl
  rw [if_neg c4]
  by_cases c5 : c = 115
  · subst c5; rfl
  rw [if_neg c5]
  by_cases c6 : c = 116
  · subst c6; rfl
  rw [if_neg c6]
  simp only [kdL, if_neg (Ne.symm c1), if_neg (Ne.symm c2), if_neg (Ne.symm c3), if_neg (Ne.symm c4), if_neg (Ne.symm c5), if_neg (Ne.symm c6)]
  rfl
theorem kd_le {c : Int32} {k : Nat} (h : kd c = some k) : k ≤ 5 := by
  unfold kd at h
  simp only [kdL] at h
  repeat' split at h
  all_goals first | (cases h; omega) | cases h
theorem m_knd (h : MX w t f p) : ∃ w', m_takesKind w = some (bI (kd (ltr t f p)).isSome, w') ∧ (∀ o k, ¬ (o = 0 ∧ (k = 14 ∨ k = 17)) → w' o k = w o k) ∧ MX w' t f (match kd (ltr t f p) with | some _ => p + 1 | none => p) ∧ ∀ k, kd (ltr t f p) = some k → w' 0 17 = nI k := by
  unfold m_takesKind
  simp only [m_nxt h, m_kin, gx_bs, gx_put]
  have hM : MX (gx_w w 0 17 (mI (kd (ltr t f p)))) t f p := h.mv (fun o k hk => px_wk (by omega)) (by rw [px_wk (by decide)]; exact h.2.1) h.2.2.2.1
  rw [px_ws]
  cases hc : kd (ltr t f p) with
  | none =>
    rw [hc] at hM
    rw [if_neg (show ¬ (0 : Int32) ≤ mI none by decide)]
    exact ⟨_, rfl, fun o k hk => px_wk (by omega), hM, fun k hk => by cases hk⟩
  | some k =>
    rw [hc] at hM
    have hp : p < f := ltr_lt (t := t) (fun z => by rw [z, show kd (-1) = none by decide] at hc; cases hc)
    obtain ⟨e1, e2, e3⟩ := m_adv hM hp
    have hk := kd_le hc
    rw [if_pos (show (0 : Int32) ≤ mI (some k) from nI_pos' (by omega))]
    unfold gx_put at e1
    rw [Option.some.inj e1]
    refine ⟨_, rfl, fun o k hk => by rw [e3 o k (by omega), px_wk (by omega)], e2, fun k2 hk2 => ?_⟩
    cases hk2
    rw [px_wk (by decide), px_ws]
    rfl
/-- the numbers of a statement, as the model keeps them -/
def NM (c : Int32) (nums : List Nat) (w : gx_Wd) : Prop := if c = 98 then w 0 17 = nI (nums.getD 0 0) ∧ w 0 15 = nI (nums.getD 1 0) ∧ w 0 16 = nI (nums.getD 2 0) else w 0 15 = nI (nums.getD 0 0) ∧ (c ≠ 108 → w 0 16 = nI (nums.getD 1 0))
end
