/-! ===== the text: a statement whole, the model; what its numbers are ===== -/
section
variable {w : gx_Wd} {t : Lt} {f p : Nat}
theorem run_59 {L : Lt} {p : Nat} {acc : List Nat} : run L [59] p acc = if L p = 59 then (true, p + 1, acc) else (false, p, acc) := by
  rw [run, show one L 59 p = if L p = 59 then some (p + 1, []) else none from rfl]
  by_cases c : L p = 59
  · rw [if_pos c, if_pos c]
    simp only [run, List.append_nil]
  · rw [if_neg c, if_neg c]
theorem m_37 (h : MX w t f p) (hp : p < f) {c : Int32} {xs : List Int32} (hr : ∀ w1, MX w1 t f (p + 1) → ∃ w2, m_takesRest c w1 = some (bI (run (ltr t f) xs (p + 1) []).1, w2) ∧ U7 w1 w2 ∧ MX w2 t f (run (ltr t f) xs (p + 1) []).2.1 ∧ ((run (ltr t f) xs (p + 1) []).1 = true → NM c (run (ltr t f) xs (p + 1) []).2.2 w2)) : ∃ w', m_takesStatement_37 c w = some (bI (run (ltr t f) (xs ++ [59]) (p + 1) []).1, w') ∧ U7 w w' ∧ MX w' t f (run (ltr t f) (xs ++ [59]) (p + 1) []).2.1 ∧ ((run (ltr t f) (xs ++ [59]) (p + 1) []).1 = true → NM c (run (ltr t f) (xs ++ [59]) (p + 1) []).2.2 w') := by
  obtain ⟨e1, e2, e3⟩ := m_adv h hp
  obtain ⟨w2, d1, d2, d3, d4⟩ := hr _ e2
  unfold m_takesStatement_37
  rw [e1, gx_bs, d1, gx_bs, bI_ite, run_app]
  by_cases c1 : (run (ltr t f) xs (p + 1) []).1 = true
  · rw [if_pos c1, if_pos c1, run_59]
    obtain ⟨w3, g1, g2, g3⟩ := m_tak d3 (c := 59) (by decide)
    have hNM := d4 c1
    rw [g1, gx_bs, bI_ite]
    by_cases c2 : ltr t f (run (ltr t f) xs (p + 1) []).2.1 = 59
    · rw [if_pos (decide_eq_true c2)]
      simp only [if_pos c2] at g3 ⊢
      refine ⟨w3, rfl, (e3.u7.tr d2).tr g2.u7, g3, fun _ => ?_⟩
      unfold NM at hNM ⊢
      rw [g2 0 15 (by decide), g2 0 16 (by decide), g2 0 17 (by decide)]
      exact hNM
    · rw [if_neg (by simp [c2])]
      simp only [if_neg c2] at g3 ⊢
      exact ⟨w3, rfl, (e3.u7.tr d2).tr g2.u7, g3, fun z => by cases z⟩
  · rw [if_neg c1, if_neg c1]
    have c2 : (run (ltr t f) xs (p + 1) []).1 = false := by simpa using c1
    refine ⟨w2, by rw [c2]; rfl, e3.u7.tr d2, d3, fun z => absurd z c1⟩
theorem m_rTwo (h : MX w t f p) {c : Int32} (l1 l2 : Bool) (hc : c ≠ 98) (hr : m_takesRest c w = (m_takesTwo (lmB l1) (lmB l2) w).bind fun r7 => if r7.1 = 0 ∨ r7.1 = 1 then some (r7.1, r7.2) else none) : ∃ w2, m_takesRest c w = some (bI (run (ltr t f) [chB l1, 44, chB l2] p []).1, w2) ∧ U7 w w2 ∧ MX w2 t f (run (ltr t f) [chB l1, 44, chB l2] p []).2.1 ∧ ((run (ltr t f) [chB l1, 44, chB l2] p []).1 = true → NM c (run (ltr t f) [chB l1, 44, chB l2] p []).2.2 w2) := by
  obtain ⟨w2, e1, e2, e3, e4⟩ := m_two h l1 l2
  refine ⟨w2, ?_, fun o k hk => e2 o k (by omega), e3, fun z => ?_⟩
  · rw [hr, e1, gx_bs]
    exact bI_rt
  · unfold NM
    rw [if_neg hc]
    exact ⟨(e4 z).1, fun _ => (e4 z).2⟩
theorem m_r98 (h : MX w t f p) : ∃ w2, m_takesRest 98 w = some (bI (run (ltr t f) [75, 78, 44, 68] p []).1, w2) ∧ U7 w w2 ∧ MX w2 t f (run (ltr t f) [75, 78, 44, 68] p []).2.1 ∧ ((run (ltr t f) [75, 78, 44, 68] p []).1 = true → NM 98 (run (ltr t f) [75, 78, 44, 68] p []).2.2 w2) := by
  obtain ⟨w1, e1, e2, e3, e4⟩ := m_knd h
  unfold m_takesRest
  rw [if_pos rfl, e1, gx_bs, bI_ite, run, show one (ltr t f) 75 p = (kd (ltr t f p)).map (fun k => (p + 1, [k])) from rfl]
  cases hk : kd (ltr t f p) with
  | none =>
    rw [hk] at e3
    rw [if_neg (by decide)]
    exact ⟨w1, rfl, fun o k hk => e2 o k (by omega), e3, fun z => by cases z⟩
  | some k =>
    rw [hk] at e3
    obtain ⟨w2, d1, d2, d3, d4⟩ := m_two e3 true false
    have d1' : m_takesTwo 2 1 w1 = some (bI (run (ltr t f) [78, 44, 68] (p + 1) []).1, w2) := d1
    have d3' : MX w2 t f (run (ltr t f) [78, 44, 68] (p + 1) []).2.1 := d3
    have d4' : (run (ltr t f) [78, 44, 68] (p + 1) []).1 = true → w2 0 15 = nI ((run (ltr t f) [78, 44, 68] (p + 1) []).2.2.getD 0 0) ∧ w2 0 16 = nI ((run (ltr t f) [78, 44, 68] (p + 1) []).2.2.getD 1 0) := d4
    rw [if_pos (show (some k).isSome = true from rfl), d1', gx_bs, bI_ite]
    simp only [Option.map_some]
    rw [run_acc [78, 44, 68] (p + 1) ([] ++ [k])]
    refine ⟨w2, ?_, fun o k hk => by rw [d2 o k (by omega), e2 o k (by omega)], d3', fun z => ?_⟩
    · cases (run (ltr t f) [78, 44, 68] (p + 1) []).1 <;> rfl
    · unfold NM
      rw [if_pos rfl]
      refine ⟨?_, (d4' z).1, (d4' z).2⟩
      rw [d2 0 17 (by decide), e4 k hk]
      rfl
theorem m_r108 (h : MX w t f p) : ∃ w2, m_takesRest 108 w = some (bI (run (ltr t f) [78] p []).1, w2) ∧ U7 w w2 ∧ MX w2 t f (run (ltr t f) [78] p []).2.1 ∧ ((run (ltr t f) [78] p []).1 = true → NM 108 (run (ltr t f) [78] p []).2.2 w2) := by
  obtain ⟨w1, e1, e2, e3⟩ := m_num h true
  have e1' : m_number 2 w = some (mI ((nmB true (ltr t f) p).map (fun z => z.2)), w1) := e1
  unfold m_takesRest
  rw [if_neg (by decide), if_neg (by decide), if_neg (by decide), if_neg (by decide), e1', gx_bs, run, show one (ltr t f) 78 p = (nmB true (ltr t f) p).map (fun z => (z.1, [z.2])) from one_B true]
  cases h1 : nmB true (ltr t f) p with
  | none =>
    rw [h1] at e3
    refine ⟨gx_w w1 0 15 (-1), ?_, fun o k hk => by rw [px_wk (by omega), e2 o k (by omega)], ?_, fun z => by cases z⟩
    · simp only [gx_put, gx_bs, Option.map_none, mI]
      exact (if_pos (show gx_w w1 0 15 (-1) 0 15 < 0 by rw [px_ws]; decide)).trans rfl
    · exact e3.mv (fun o k hk => px_wk (by omega)) (by rw [px_wk (by decide)]; exact e3.2.1) e3.2.2.2.1
  | some z =>
    rw [h1] at e3
    have hz := nmB_le h1
    rw [if_pos rfl] at hz
    refine ⟨gx_w w1 0 15 (nI z.2), ?_, fun o k hk => by rw [px_wk (by omega), e2 o k (by omega)], ?_, fun _ => ?_⟩
    · simp only [gx_put, gx_bs, Option.map_some, mI]
      exact (if_neg (show ¬ gx_w w1 0 15 (nI z.2) 0 15 < 0 by rw [px_ws]; exact nI_pos (by omega))).trans rfl
    · exact e3.mv (fun o k hk => px_wk (by omega)) (by rw [px_wk (by decide)]; exact e3.2.1) e3.2.2.2.1
    · unfold NM
      rw [if_neg (by decide)]
      exact ⟨by rw [px_ws]; rfl, fun z => absurd rfl z⟩
theorem m_stmt (h : MX w t f p) : ∃ w', m_takesStatement w = some (bI (ps (ltr t f) p).1, w') ∧ U7 w w' ∧ MX w' t f (ps (ltr t f) p).2.1 ∧ ((ps (ltr t f) p).1 = true → NM (ltr t f p) (ps (ltr t f) p).2.2 w') := by
  have hlt : ltr t f p ≠ -1 → p < f := fun z => ltr_lt z
  unfold m_takesStatement
  simp only [m_nxt h, gx_bs]
  unfold ps form
  generalize hc : ltr t f p = c at *
  by_cases c1 : c = 98
  · subst c1
    have := m_37 h (hlt (by decide)) (c := 98) (xs := [75, 78, 44, 68]) (fun w1 hw => m_r98 hw)
    rw [if_pos rfl]
    simpa using this
  rw [if_neg c1]
  by_cases c2 : c = 115
  · subst c2
    have := m_37 h (hlt (by decide)) (c := 115) (xs := [68, 44, 78]) (fun w1 hw => m_rTwo hw false true (by decide) rfl)
    rw [if_pos rfl]
    simpa using this
  rw [if_neg c2]
  by_cases c3 : c = 103
  · subst c3
    have := m_37 h (hlt (by decide)) (c := 103) (xs := [78, 44, 68]) (fun w1 hw => m_rTwo hw true false (by decide) rfl)
    rw [if_pos rfl]
    simpa using this
  rw [if_neg c3]
  by_cases c4 : c = 108
  · subst c4
    have := m_37 h (hlt (by decide)) (c := 108) (xs := [78]) (fun w1 hw => m_r108 hw)
    rw [if_pos rfl]
    simpa using this
  rw [if_neg c4]
  by_cases c5 : c = 107
  · subst c5
    have := m_37 h (hlt (by decide)) (c := 107) (xs := [68, 44, 68]) (fun w1 hw => m_rTwo hw false false (by decide) rfl)
    rw [if_pos rfl]
    simpa using this
  rw [if_neg c5]
  simp only [if_neg c1, if_neg c2, if_neg c3, if_neg c4, if_neg c5]
  exact ⟨w, rfl, fun _ _ _ => rfl, h, fun z => by simp at z⟩
end
/-- the numbers of a statement that is one -/
def Sh (c : Int32) (nums : List Nat) : Prop := (c = 98 ∧ ∃ a b d, nums = [a, b, d] ∧ a ≤ 5 ∧ b ≤ 99 ∧ d ≤ 9) ∨ (c = 103 ∧ ∃ a b, nums = [a, b] ∧ a ≤ 99 ∧ b ≤ 9) ∨ (c = 107 ∧ ∃ a b, nums = [a, b] ∧ a ≤ 9 ∧ b ≤ 9) ∨ (c = 108 ∧ ∃ a, nums = [a] ∧ a ≤ 99) ∨ (c = 115 ∧ ∃ a b, nums = [a, b] ∧ a ≤ 9 ∧ b ≤ 99)
theorem run_num {L : Lt} {l : Bool} {xs : List Int32} {p : Nat} {acc : List Nat} (h : (run L (chB l :: xs) p acc).1 = true) : ∃ z : Nat × Nat, run L (chB l :: xs) p acc = run L xs z.1 (acc ++ [z.2]) ∧ z.2 ≤ (if l = true then 99 else 9) := by
  rw [run, one_B] at h ⊢
  cases hn : nmB l L p with
  | none => rw [hn] at h; simp at h
  | some z => exact ⟨z, rfl, nmB_le hn⟩
theorem run_lit {L : Lt} {c : Int32} {xs : List Int32} {p : Nat} {acc : List Nat} (hc : nk c = 0) (h : (run L (c :: xs) p acc).1 = true) : run L (c :: xs) p acc = run L xs (p + 1) acc := by
  have ho : one L c p = if L p = c then some (p + 1, []) else none := by
    unfold nk at hc
    unfold one
    split at hc
    · cases hc
    · rename_i hn
      rw [if_neg (fun z => hn (Or.inl z)), if_neg (fun z => hn (Or.inr (Or.inl z))), if_neg (fun z => hn (Or.inr (Or.inr z)))]
  rw [run, ho] at h ⊢
  by_cases c1 : L p = c
  · rw [if_pos c1]
    simp only [List.append_nil]
  · rw [if_neg c1] at h
    simp at h
theorem run_two {L : Lt} {l1 l2 : Bool} {p : Nat} {acc : List Nat} (h : (run L [chB l1, 44, chB l2, 59] p acc).1 = true) : ∃ a b, (run L [chB l1, 44, chB l2, 59] p acc).2.2 = acc ++ [a, b] ∧ a ≤ (if l1 = true then 99 else 9) ∧ b ≤ (if l2 = true then 99 else 9) := by
  obtain ⟨z, e1, e2⟩ := run_num h
  rw [e1] at h ⊢
  have e3 := run_lit (show nk 44 = 0 by decide) h
  rw [e3] at h ⊢
  obtain ⟨y, e4, e5⟩ := run_num h
  rw [e4] at h ⊢
  have e6 := run_lit (show nk 59 = 0 by decide) h
  rw [e6]
  exact ⟨z.2, y.2, by simp [run], e2, e5⟩
theorem ps_sh {L : Lt} {p : Nat} (h : (ps L p).1 = true) : Sh (L p) (ps L p).2.2 := by
  unfold ps form at h ⊢
  unfold Sh
  generalize L p = c at *
  by_cases c1 : c = 98
  · subst c1
    have hh : (run L [75, 78, 44, 68, 59] (p + 1) []).1 = true := by simpa using h
    have hk : ∃ k, run L [75, 78, 44, 68, 59] (p + 1) [] = run L [78, 44, 68, 59] (p + 2) [k] ∧ k ≤ 5 := by
      rw [run, show one L 75 (p + 1) = (kd (L (p + 1))).map (fun k => (p + 1 + 1, [k])) from rfl] at hh ⊢
      cases hkd : kd (L (p + 1)) with
      | none => rw [hkd] at hh; simp at hh
      | some k => exact ⟨k, rfl, kd_le hkd⟩
    obtain ⟨k, e1, e2⟩ := hk
    rw [e1] at hh
    obtain ⟨a, b, e3, e4, e5⟩ := run_two (l1 := true) (l2 := false) hh
    left
    refine ⟨rfl, k, a, b, ?_, e2, e4, e5⟩
    simp only [if_true]
    rw [if_neg (by decide), e1]
    exact e3
  by_cases c2 : c = 103
  · subst c2
    have hh : (run L [78, 44, 68, 59] (p + 1) []).1 = true := by simpa using h
    obtain ⟨a, b, e3, e4, e5⟩ := run_two (l1 := true) (l2 := false) hh
    right; left
    exact ⟨rfl, a, b, by simpa [chB] using e3, e4, e5⟩
  by_cases c3 : c = 107
  · subst c3
    have hh : (run L [68, 44, 68, 59] (p + 1) []).1 = true := by simpa using h
    obtain ⟨a, b, e3, e4, e5⟩ := run_two (l1 := false) (l2 := false) hh
    right; right; left
    exact ⟨rfl, a, b, by simpa [chB] using e3, e4, e5⟩
  by_cases c4 : c = 108
  · subst c4
    have hh : (run L [78, 59] (p + 1) []).1 = true := by simpa using h
    obtain ⟨z, e1, e2⟩ := run_num (l := true) hh
    have e1' : run L [78, 59] (p + 1) [] = run L [59] z.1 ([] ++ [z.2]) := e1
    rw [e1'] at hh
    have e6 := run_lit (show nk 59 = 0 by decide) hh
    right; right; right; left
    refine ⟨rfl, z.2, ?_, e2⟩
    have : (run L [78, 59] (p + 1) []).2.2 = [z.2] := by rw [e1', e6]; rfl
    simpa using this
  by_cases c5 : c = 115
  · subst c5
    have hh : (run L [68, 44, 78, 59] (p + 1) []).1 = true := by simpa using h
    obtain ⟨a, b, e3, e4, e5⟩ := run_two (l1 := false) (l2 := true) hh
    right; right; right; right
    exact ⟨rfl, a, b, by simpa [chB] using e3, e4, e5⟩
  simp only [if_neg c1, if_neg c2, if_neg c3, if_neg c4, if_neg c5] at h
  simp at h
