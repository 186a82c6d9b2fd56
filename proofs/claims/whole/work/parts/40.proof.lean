/-! ===== the roof: the two answer the same ===== -/
theorem f_1000 : ∀ e, e < 97 → ¬ ((-1000 : Int32) - nI e = 0) := by decide +kernel
theorem P_roof {wx wm : gx_Wd} (h : Inv wx wm) : Eq2 (x_E_roof wx) (m_roof wm) := by
  have h0 := h
  obtain ⟨r, ri, k, f, hI⟩ := h
  obtain ⟨hf, x1, m3, hlet⟩ := hI.2.2.2.2.1
  have hRx := hI.1.1
  have hRm := hI.1.2.1
  have hR := hI.1.2.2
  have hX0 : XT (gx_w wx 29 2 0) (wx 30) f 0 := ⟨by rw [px_wk (by decide)]; exact x1, px_ws, fun i hi => by rw [px_wo (by decide)], Nat.zero_le _, hf⟩
  have hM0 : MX (gx_w wm 0 14 0) (wx 30) f 0 := ⟨by rw [px_wk (by decide)]; exact m3, px_ws, fun i hi => by rw [px_wo (by decide)]; exact (hlet i hi).symm, Nat.zero_le _, hf⟩
  have hUx0 : ∀ o k, ¬ (o = 29 ∧ k = 2) → gx_w wx 29 2 0 o k = wx o k := fun o k hk => px_wk hk
  have hUm0 : ∀ o k, ¬ (o = 0 ∧ k = 14) → gx_w wm 0 14 0 o k = wm o k := fun o k hk => px_wk hk
  /- a fault: nothing comes -/
  have fin : ∀ (v : Int32) (wa wb : gx_Wd), (∀ o k, (o < 8 ∨ 14 < o) → o ≠ 31 → o ≠ 29 → wa o k = wx o k) → (∀ o k, ¬ (o = 0 ∧ (k = 14 ∨ k = 15 ∨ k = 16 ∨ k = 17)) → wb o k = wm o k) → Eq2 (x_E_roof_17 v wa) (m_roof_46 v wb) := by
    intro v wa wb ha hb
    refine ⟨v, gx_w wa 29 1 0, gx_w wb 0 3 0, rfl, rfl, r, ri, k, 0, hI.toR (r' := r) (f' := 0) (fun o k o1 o2 o3 => ?_) (fun o k o1 o2 o3 => ?_) ?_ ?_ hR (by omega) px_ws px_ws⟩
    · rw [px_wo o3]
      exact ha o k (by unfold xKeep at o1; omega) (by unfold xKeep at o1; omega) o3
    · rw [px_wk (by omega)]
      exact hb o k (by unfold mKeep at o1; omega)
    · exact hRx.to (fun o k o1 o2 o3 => by rw [px_wo (by omega)]; exact ha o k (by omega) (by omega) (by omega))
    · exact hRm.to (fun o k o1 o2 o3 => by rw [px_wk (by omega)]; exact hb o k (by omega))
  have ex0 : x_E_roof wx = (if wx 29 1 = 0 then some ((-1000 : Int32), gx_w wx 29 2 0) else x_T_faultOfForm_17 6000 0 (gx_w wx 29 2 0)).bind fun r1 => if r1.1 = 0 then (x_E_enterStatements r1.2).bind fun r3 => x_E_roof_17 r3.1 r3.2 else x_E_roof_17 r1.1 r1.2 := by
    unfold x_E_roof x_T_faultOfForm x_T_rewind
    simp only [gx_put, gx_bs]
    rw [px_wk (by decide)]
  have em0 : m_roof wm = ((m_takesStatement (gx_w wm 0 14 0)).bind fun r2 => m_isText_10 6000 r2.1 r2.2).bind fun r1 => if r1.1 = 0 then m_roof_19 ((-1000) - (r1.2 0 14)) r1.2 else m_roof_19 0 r1.2 := by
    unfold m_roof m_isText
    simp only [gx_put, gx_bs]
  by_cases c0 : f = 0
  · subst c0
    obtain ⟨w2, d1, d2, d3, d4⟩ := m_stmt hM0
    have hps : ps (ltr (wx 30) 0) 0 = (false, 0, []) := rfl
    rw [hps] at d1 d3
    have e1 : x_E_roof wx = x_E_roof_17 (-1000) (gx_w wx 29 2 0) := by
      rw [ex0, x1, if_pos (by decide), gx_bs]
      exact if_neg (show ¬ (-1000 : Int32) = 0 by decide)
    have e2 : m_roof wm = m_roof_46 (-1000) w2 := by
      rw [em0, d1, gx_bs]
      have e3 : m_isText_10 6000 (bI false) w2 = some (0, w2) := by
        rw [show (6000 : Nat) = 5999 + 1 from rfl, m_isText_10, if_pos (by decide)]
        exact bI_rt
      rw [e3, gx_bs, if_pos rfl]
      simp only [d3.2.1]
      unfold m_roof_19
      rw [if_neg (f_1000 0 (by decide))]
      rfl
    rw [e1, e2]
    exact fin _ _ _ (fun o k o1 o2 o3 => hUx0 o k (by omega)) (fun o k hk => by rw [d2 o k hk, hUm0 o k (by omega)])
  · have hx0 : ¬ wx 29 1 = 0 := by rw [x1]; exact fun z => c0 ((nI_eq (b := 0) (by omega) (by omega)).mp z)
    obtain ⟨wa, wb, u1, u2, hh⟩ := two_form (t := wx 30) (f := f) 96 0 0 6000 6001 _ _ (by omega) (by omega) (by omega) (Nat.le_refl _) hX0 hM0
    have em1 : (m_takesStatement (gx_w wm 0 14 0)).bind (fun r2 => m_isText_10 6000 r2.1 r2.2) = m_isText_10 6001 1 (gx_w wm 0 14 0) := by
      rw [show (6001 : Nat) = 6000 + 1 from rfl, m_isText_10, if_neg (by decide), hM0.1, hM0.2.1, if_neg (nI_ge (by omega) (by omega))]
    rw [em1] at em0
    rw [if_neg hx0] at ex0
    have hUa : ∀ o k, o ≠ 31 → o ≠ 29 → wa o k = wx o k := fun o k o1 o2 => by rw [u1 o k o1 (by omega), hUx0 o k (by omega)]
    have hUb : ∀ o k, ¬ (o = 0 ∧ (k = 14 ∨ k = 15 ∨ k = 16 ∨ k = 17)) → wb o k = wm o k := fun o k hk => by rw [u2 o k hk, hUm0 o k (by omega)]
    rcases hh with ⟨e, he, g1, g2, g3⟩ | ⟨g1, g2, ss, hC⟩
    · have e1 : x_E_roof wx = x_E_roof_17 (-1000 - nI e) wa := by
        rw [ex0, show x_T_faultOfForm_17 6000 0 (gx_w wx 29 2 0) = _ from g1, gx_bs, if_neg (f_1000 e (by omega))]
      have e2 : m_roof wm = m_roof_46 (-1000 - nI e) wb := by
        rw [em0, g2, gx_bs, if_pos rfl]
        simp only [g3]
        unfold m_roof_19
        rw [if_neg (f_1000 e (by omega))]
      rw [e1, e2]
      exact fin _ _ _ (fun o k _ o2 o3 => hUa o k o2 o3) hUb
    · have hRx1 : RF wa 1 r := hRx.to (fun o k o1 o2 o3 => hUa o k (by omega) (by omega))
      obtain ⟨w1, b1, b2, b3⟩ := bec_8_1 hRx1
      have hXa : XT (gx_w w1 29 2 0) (wx 30) f 0 := ⟨by rw [px_wk (by decide), b3 29 (by decide), u1 29 1 (by decide) (by decide), hUx0 29 1 (by decide)]; exact x1, px_ws, fun i hi => by rw [px_wo (by decide), b3 30 (by decide)]; exact congrFun (funext fun i => hUa 30 i (by decide) (by decide)) i, Nat.zero_le _, hf⟩
      have hlen := Ch_len rfl ss 0 (Nat.zero_le _) hC
      obtain ⟨w2, v1, v2, v3⟩ := x_entL ss 6000 0 0 0 r (gx_w w1 29 2 0) hC hXa (b2.to (fun o k o1 o2 o3 => by rw [px_wo (by omega)])) hR (Nat.le_refl _) (by omega)
      have hUd : ∀ o k, (o < 8 ∨ 14 < o) → o ≠ 31 → o ≠ 29 → w2 o k = wx o k := fun o k o1 o2 o3 => by rw [v1 o k o1 o2 (by omega), px_wo o3, b3 o o1, hUa o k o2 o3]
      have ee : x_E_enterStatements wa = x_E_enterStatements_22 6000 0 0 (gx_w w1 29 2 0) := by
        unfold x_E_enterStatements x_T_rewind
        simp only [b1, gx_bs, gx_put]
      have hMb : MX (gx_w wb 0 14 0) (wx 30) f 0 := ⟨by rw [px_wk (by decide), hUb 0 3 (by decide)]; exact m3, px_ws, fun i hi => by rw [px_wo (by decide), hUb 7 i (by omega)]; exact (hlet i hi).symm, Nat.zero_le _, hf⟩
      have hb0 : gx_w wb 0 14 0 0 0 = nI (r 0 0) := by rw [px_wk (by decide), hUb 0 0 (by decide)]; exact hRm.n
      obtain ⟨w3, y1, y2⟩ := m_wroL ss 6000 0 r (gx_w wb 0 14 0) hC hMb hR (by rw [px_wk (by decide), hUb 0 1 (by decide)]; exact hRm.a) (by omega)
      have hU3 : ∀ o k, ¬ (o = 0 ∧ (k = 14 ∨ k = 15 ∨ k = 16 ∨ k = 17)) → w3 o k = wm o k := fun o k hk => by rw [y1 o k hk, px_wk (by omega), hUb o k hk]
      have ew : m_wrongPlace wb = some (mI (bad r ss), w3) := by
        unfold m_wrongPlace
        simp only [gx_put, gx_bs]
        rw [hb0]
        exact y2
      have ex1 : x_E_roof wx = (x_E_enterStatements_22 6000 0 0 (gx_w w1 29 2 0)).bind fun r3 => x_E_roof_17 r3.1 r3.2 := by
        rw [ex0, show x_T_faultOfForm_17 6000 0 (gx_w wx 29 2 0) = _ from g1, gx_bs, if_pos rfl, ee]
      have em2 : m_roof wm = if 0 ≤ mI (bad r ss) then m_roof_45 ((-2000) - mI (bad r ss)) w3 else (m_comesAll w3).bind fun r4 => m_roof_45 r4.1 r4.2 := by
        rw [em0, g2, gx_bs, if_neg (show ¬ (1 : Int32) = 0 by decide)]
        unfold m_roof_19
        rw [if_pos rfl, ew, gx_bs]
      cases hbad : bad r ss with
      | some e =>
        have he := bad_lt rfl ss 0 r e (Nat.zero_le _) hC hbad
        rw [hbad] at v3 em2
        simp only at v3
        rw [if_pos (show (0 : Int32) ≤ mI (some e) from nI_pos' (by omega))] at em2
        have e1 : x_E_roof wx = x_E_roof_17 (-2000 - nI e) w2 := by
          rw [ex1, show x_E_enterStatements_22 6000 0 0 (gx_w w1 29 2 0) = _ from v3, gx_bs]
        rw [e1, em2]
        exact fin _ _ _ hUd hU3
      | none =>
        rw [hbad] at v3 em2
        simp only at v3
        obtain ⟨v4, v5, v6⟩ := v3
        rw [if_neg (show ¬ (0 : Int32) ≤ mI none by decide)] at em2
        obtain ⟨w4, z1, z2, z3⟩ := bec_1_8 v5
        have e1 : x_E_roof wx = x_E_roof_17 (nI (0 + ss.length)) w4 := by
          rw [ex1, show x_E_enterStatements_22 6000 0 0 (gx_w w1 29 2 0) = _ from v4]
          unfold x_E_enterStatements_85
          rw [z1, gx_bs, gx_bs]
        have hM3 : MX (gx_w w3 0 14 0) (wx 30) f 0 := ⟨by rw [px_wk (by decide), hU3 0 3 (by decide)]; exact m3, px_ws, fun i hi => by rw [px_wo (by decide), hU3 7 i (by omega)]; exact (hlet i hi).symm, Nat.zero_le _, hf⟩
        obtain ⟨w5, q1, q2, q3⟩ := m_comL ss 6000 0 0 r (gx_w w3 0 14 0) hC hbad hM3 (hRm.to (fun o k o1 o2 o3 => by rw [px_wk (by omega), hU3 o k (by omega)])) hR (by omega)
        have e2 : m_roof wm = m_roof_46 (nI (0 + ss.length)) w5 := by
          rw [em2]
          unfold m_comesAll
          simp only [gx_put, gx_bs]
          rw [show m_comesAll_7 6000 0 (gx_w w3 0 14 0) = _ from q2, gx_bs]
          rfl
        rw [e1, e2]
        refine ⟨_, gx_w w4 29 1 0, gx_w w5 0 3 0, rfl, rfl, goR r ss, ri, k, 0, hI.toR (r' := goR r ss) (f' := 0) (fun o k o1 o2 o3 => ?_) (fun o k o1 o2 o3 => ?_) ?_ ?_ v6 (by omega) px_ws px_ws⟩
        · rw [px_wo o3, z3 o (by unfold xKeep at o1; omega)]
          exact hUd o k (by unfold xKeep at o1; omega) (by unfold xKeep at o1; omega) o3
        · rw [px_wk (by omega), q1 o k o2 (by unfold mKeep at o1; omega), px_wk (by unfold mKeep at o1; omega), hU3 o k (by unfold mKeep at o1; omega)]
        · exact z2.to (fun o k o1 o2 o3 => px_wk (by omega))
        · exact q3.to (fun o k o1 o2 o3 => px_wk (by omega))
