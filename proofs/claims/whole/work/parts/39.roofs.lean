/-! ===== the roof: all of it comes, or a fault ===== -/
section
variable {w : gx_Wd} {t : Lt} {f p : Nat} {r : Rf} {s : Stm}
theorem m_goodE {nb at_ : Nat} (hnb : nb ≤ 7) (hat : at_ ≤ 15) (h1 : w 0 1 = nI at_) (hN : NM s.1 s.2.2 w) (hs : Sh s.1 s.2.2) : m_isGood s.1 (nI nb) w = some (bI (gd nb at_ s), w) := by
  obtain ⟨c, p, nums⟩ := s
  simp only at hs hN
  unfold m_isGood gd
  simp only
  unfold NM at hN
  rcases hs with ⟨rfl, a, b, d, rfl, h2, h3, hd⟩ | ⟨rfl, a, b, rfl, h2, h3⟩ | ⟨rfl, a, b, rfl, h2, h3⟩ | ⟨rfl, a, rfl, h2⟩ | ⟨rfl, a, b, rfl, h2, h3⟩
  · rw [if_pos rfl] at hN
    obtain ⟨e0, e1, e2⟩ := hN
    simp only [List.getD_cons_zero, List.getD_cons_succ] at e0 e1 e2
    simp only [if_true, e1, h1, List.getD_cons_zero, List.getD_cons_succ]
    by_cases g1 : 1 ≤ b
    · rw [if_neg (show ¬ nI b ≤ 0 from nI_ge (a := 0) g1 (by omega))]
      by_cases g2 : nb < 7
      · rw [if_neg (show ¬ (7 : Int32) ≤ nI nb from nI_ge (b := 7) g2 (by omega)), nI_add]
        by_cases g3 : at_ + nb < 16
        · rw [if_neg (show ¬ (16 : Int32) ≤ nI (at_ + nb) from nI_ge (b := 16) g3 (by omega)), decide_eq_true g1, decide_eq_true g2, decide_eq_true g3]
          rfl
        · rw [if_pos (show (16 : Int32) ≤ nI (at_ + nb) from nI_le (a := 16) (by omega) (by omega)), decide_eq_false g3, Bool.and_false]
          rfl
      · rw [if_pos (show (7 : Int32) ≤ nI nb from nI_le (a := 7) (by omega) (by omega)), decide_eq_false g2, Bool.and_false, Bool.false_and]
        rfl
    · rw [if_pos (show nI b ≤ 0 from by rw [show b = 0 by omega]; decide), decide_eq_false g1, Bool.false_and, Bool.false_and]
      rfl
  · rw [if_neg (by decide)] at hN
    have e0 := hN.1
    simp only [List.getD_cons_zero, List.getD_cons_succ] at e0
    simp only [e0, show ¬ (103 : Int32) = 98 by decide, show ¬ (107 : Int32) = 98 by decide, show ¬ (107 : Int32) = 103 by decide, show ¬ (108 : Int32) = 98 by decide, show ¬ (108 : Int32) = 103 by decide, show ¬ (108 : Int32) = 107 by decide, show ¬ (115 : Int32) = 98 by decide, show ¬ (115 : Int32) = 103 by decide, show ¬ (115 : Int32) = 107 by decide, show ¬ (115 : Int32) = 108 by decide, if_true, if_false, List.getD_cons_zero, List.getD_cons_succ]
    by_cases g : a < 16
    · rw [if_neg (show ¬ (16 : Int32) ≤ nI a from nI_ge (b := 16) g (by omega)), decide_eq_true g]; rfl
    · rw [if_pos (show (16 : Int32) ≤ nI a from nI_le (a := 16) (by omega) (by omega)), decide_eq_false g]; rfl
  · rw [if_neg (by decide)] at hN
    have e0 := hN.1
    simp only [List.getD_cons_zero, List.getD_cons_succ] at e0
    simp only [e0, show ¬ (103 : Int32) = 98 by decide, show ¬ (107 : Int32) = 98 by decide, show ¬ (107 : Int32) = 103 by decide, show ¬ (108 : Int32) = 98 by decide, show ¬ (108 : Int32) = 103 by decide, show ¬ (108 : Int32) = 107 by decide, show ¬ (115 : Int32) = 98 by decide, show ¬ (115 : Int32) = 103 by decide, show ¬ (115 : Int32) = 107 by decide, show ¬ (115 : Int32) = 108 by decide, if_true, if_false, List.getD_cons_zero, List.getD_cons_succ]
    by_cases g : a < nb
    · rw [if_neg (nI_ge g (by omega)), decide_eq_true g]; rfl
    · rw [if_pos (nI_le (by omega) (by omega)), decide_eq_false g]; rfl
  · rw [if_neg (by decide)] at hN
    have e0 := hN.1
    simp only [List.getD_cons_zero, List.getD_cons_succ] at e0
    simp only [e0, show ¬ (103 : Int32) = 98 by decide, show ¬ (107 : Int32) = 98 by decide, show ¬ (107 : Int32) = 103 by decide, show ¬ (108 : Int32) = 98 by decide, show ¬ (108 : Int32) = 103 by decide, show ¬ (108 : Int32) = 107 by decide, show ¬ (115 : Int32) = 98 by decide, show ¬ (115 : Int32) = 103 by decide, show ¬ (115 : Int32) = 107 by decide, show ¬ (115 : Int32) = 108 by decide, if_true, if_false, List.getD_cons_zero, List.getD_cons_succ]
    by_cases g : a < 28
    · rw [if_neg (show ¬ (28 : Int32) ≤ nI a from nI_ge (b := 28) g (by omega)), decide_eq_true g]; rfl
    · rw [if_pos (show (28 : Int32) ≤ nI a from nI_le (a := 28) (by omega) (by omega)), decide_eq_false g]; rfl
  · rw [if_neg (by decide)] at hN
    have e0 := hN.1
    simp only [List.getD_cons_zero, List.getD_cons_succ] at e0
    simp only [e0, show ¬ (103 : Int32) = 98 by decide, show ¬ (107 : Int32) = 98 by decide, show ¬ (107 : Int32) = 103 by decide, show ¬ (108 : Int32) = 98 by decide, show ¬ (108 : Int32) = 103 by decide, show ¬ (108 : Int32) = 107 by decide, show ¬ (115 : Int32) = 98 by decide, show ¬ (115 : Int32) = 103 by decide, show ¬ (115 : Int32) = 107 by decide, show ¬ (115 : Int32) = 108 by decide, if_true, if_false, List.getD_cons_zero, List.getD_cons_succ]
    by_cases g : a < 6
    · rw [if_neg (show ¬ (6 : Int32) ≤ nI a from nI_ge (b := 6) g (by omega)), decide_eq_true g]; rfl
    · rw [if_pos (show (6 : Int32) ≤ nI a from nI_le (a := 6) (by omega) (by omega)), decide_eq_false g]; rfl
theorem m_come (hR : Rok 99 r) (hF : RF w 0 r) (hN : NM s.1 s.2.2 w) (hs : Sh s.1 s.2.2) (hg : gd (r 0 0) (r 0 1) s = true) : ∃ w', m_comes s.1 w = some w' ∧ (∀ o k, ¬ (1 ≤ o ∧ o ≤ 6) → ¬ (o = 0 ∧ k ≤ 2) → w' o k = w o k) ∧ RF w' 0 (app r s) := by
  obtain ⟨c, p, nums⟩ := s
  obtain ⟨k1, k2, k3, k4, k5, k6, k7⟩ := hR
  simp only at hs hN hg
  unfold gd at hg
  unfold m_comes app
  simp only at hg ⊢
  unfold NM at hN
  have hF' : RF w 0 r := hF
  rcases hs with ⟨rfl, a, b, d, rfl, h2, h3, hd⟩ | ⟨rfl, a, b, rfl, h2, h3⟩ | ⟨rfl, a, b, rfl, h2, h3⟩ | ⟨rfl, a, rfl, h2⟩ | ⟨rfl, a, b, rfl, h2, h3⟩
  · rw [if_pos rfl] at hN hg
    obtain ⟨e0, e1, e2⟩ := hN
    simp only [List.getD_cons_zero, List.getD_cons_succ, Bool.and_eq_true, decide_eq_true_eq] at e0 e1 e2 hg
    obtain ⟨⟨g1, g2⟩, g3⟩ := hg
    simp only [if_true, List.getD_cons_zero, List.getD_cons_succ]
    have f1 := hF.put (j := 1) (i := r 0 0) (v := a)
    have f2 := f1.put (j := 2) (i := r 0 0) (v := b)
    have f3 := f2.put (j := 3) (i := r 0 0) (v := d)
    have f4 := f3.put (j := 4) (i := r 0 0) (v := 0)
    have f5 := f4.put (j := 0) (i := 0) (v := r 0 0 + 1)
    simp only [Nat.zero_add] at f1 f2 f3 f4 f5
    have q0 := hF.n
    have q1 : gx_w w 1 (r 0 0) (nI a) 0 0 = nI (r 0 0) := by rw [px_wo (by decide)]; exact hF.n
    have q1' : gx_w w 1 (r 0 0) (nI a) 0 15 = nI b := by rw [px_wo (by decide)]; exact e1
    have q2 : gx_w (gx_w w 1 (r 0 0) (nI a)) 2 (r 0 0) (nI b) 0 0 = nI (r 0 0) := by rw [px_wo (by decide)]; exact q1
    have q2' : gx_w (gx_w w 1 (r 0 0) (nI a)) 2 (r 0 0) (nI b) 0 16 = nI d := by rw [px_wo (by decide), px_wo (by decide)]; exact e2
    have q3 : gx_w (gx_w (gx_w w 1 (r 0 0) (nI a)) 2 (r 0 0) (nI b)) 3 (r 0 0) (nI d) 0 0 = nI (r 0 0) := by rw [px_wo (by decide)]; exact q2
    have q4 : gx_w (gx_w (gx_w (gx_w w 1 (r 0 0) (nI a)) 2 (r 0 0) (nI b)) 3 (r 0 0) (nI d)) 4 (r 0 0) 0 0 0 = nI (r 0 0) := by rw [px_wo (by decide)]; exact q3
    refine ⟨_, ?_, fun o k o1 o2 => ?_, f5⟩
    · simp only [q0, e0, px_ast (sh := sh_m) (N := 7) (o := 1) rfl g2 (by decide), q1, q1', px_ast (sh := sh_m) (N := 7) (o := 2) rfl g2 (by decide), q2, q2', px_ast (sh := sh_m) (N := 7) (o := 3) rfl g2 (by decide), q3, px_ast (sh := sh_m) (N := 7) (o := 4) rfl g2 (by decide), q4, gx_bs, gx_put]
      rw [nI_1]
      rfl
    · rw [px_wk (by omega), px_wo (by omega), px_wo (by omega), px_wo (by omega), px_wo (by omega)]
  · rw [if_neg (by decide)] at hN
    have e0 := hN.1
    have e1 := hN.2 (by decide)
    simp only [List.getD_cons_zero, List.getD_cons_succ] at e0 e1
    simp only [e0, e1, show ¬ (103 : Int32) = 98 by decide, show ¬ (107 : Int32) = 98 by decide, show ¬ (107 : Int32) = 103 by decide, show ¬ (108 : Int32) = 98 by decide, show ¬ (108 : Int32) = 103 by decide, show ¬ (108 : Int32) = 107 by decide, show ¬ (115 : Int32) = 98 by decide, show ¬ (115 : Int32) = 103 by decide, show ¬ (115 : Int32) = 107 by decide, show ¬ (115 : Int32) = 108 by decide, if_true, if_false, List.getD_cons_zero, List.getD_cons_succ, decide_eq_true_eq] at hg ⊢
    have f1 := hF.put (j := 6) (i := a) (v := b)
    simp only [Nat.zero_add] at f1
    simp only [px_ast (sh := sh_m) (N := 16) (o := 6) rfl hg (by decide), gx_bs]
    exact ⟨_, rfl, fun o k o1 o2 => by rw [px_wo (by omega)], f1⟩
  · rw [if_neg (by decide)] at hN
    have e0 := hN.1
    have e1 := hN.2 (by decide)
    simp only [List.getD_cons_zero, List.getD_cons_succ] at e0 e1
    simp only [e0, e1, show ¬ (103 : Int32) = 98 by decide, show ¬ (107 : Int32) = 98 by decide, show ¬ (107 : Int32) = 103 by decide, show ¬ (108 : Int32) = 98 by decide, show ¬ (108 : Int32) = 103 by decide, show ¬ (108 : Int32) = 107 by decide, show ¬ (115 : Int32) = 98 by decide, show ¬ (115 : Int32) = 103 by decide, show ¬ (115 : Int32) = 107 by decide, show ¬ (115 : Int32) = 108 by decide, if_true, if_false, List.getD_cons_zero, List.getD_cons_succ, decide_eq_true_eq] at hg ⊢
    have f1 := hF.put (j := 4) (i := a) (v := b)
    simp only [Nat.zero_add] at f1
    simp only [px_ast (sh := sh_m) (N := 7) (o := 4) rfl (show a < 7 by omega) (by decide), gx_bs]
    exact ⟨_, rfl, fun o k o1 o2 => by rw [px_wo (by omega)], f1⟩
  · rw [if_neg (by decide)] at hN
    have e0 := hN.1
    simp only [List.getD_cons_zero, List.getD_cons_succ] at e0
    simp only [e0, show ¬ (103 : Int32) = 98 by decide, show ¬ (107 : Int32) = 98 by decide, show ¬ (107 : Int32) = 103 by decide, show ¬ (108 : Int32) = 98 by decide, show ¬ (108 : Int32) = 103 by decide, show ¬ (108 : Int32) = 107 by decide, show ¬ (115 : Int32) = 98 by decide, show ¬ (115 : Int32) = 103 by decide, show ¬ (115 : Int32) = 107 by decide, show ¬ (115 : Int32) = 108 by decide, if_true, if_false, List.getD_cons_zero, List.getD_cons_succ, decide_eq_true_eq] at hg ⊢
    have f1 := hF.put (j := 0) (i := 2) (v := a)
    simp only [Nat.zero_add] at f1
    simp only [gx_put, gx_bs]
    exact ⟨_, rfl, fun o k o1 o2 => px_wk (by omega), f1⟩
  · rw [if_neg (by decide)] at hN
    have e0 := hN.1
    have e1 := hN.2 (by decide)
    simp only [List.getD_cons_zero, List.getD_cons_succ] at e0 e1
    simp only [e0, e1, show ¬ (103 : Int32) = 98 by decide, show ¬ (107 : Int32) = 98 by decide, show ¬ (107 : Int32) = 103 by decide, show ¬ (108 : Int32) = 98 by decide, show ¬ (108 : Int32) = 103 by decide, show ¬ (108 : Int32) = 107 by decide, show ¬ (115 : Int32) = 98 by decide, show ¬ (115 : Int32) = 103 by decide, show ¬ (115 : Int32) = 107 by decide, show ¬ (115 : Int32) = 108 by decide, if_true, if_false, List.getD_cons_zero, List.getD_cons_succ, decide_eq_true_eq] at hg ⊢
    have f1 := hF.put (j := 5) (i := a) (v := b)
    simp only [Nat.zero_add] at f1
    simp only [px_ast (sh := sh_m) (N := 6) (o := 5) rfl hg (by decide), gx_bs]
    exact ⟨_, rfl, fun o k o1 o2 => by rw [px_wo (by omega)], f1⟩
end
/-- what the class's drafting leaves alone -/
def Ud (w w' : gx_Wd) : Prop := ∀ o k, (o < 8 ∨ 14 < o) → o ≠ 31 → ¬ (o = 29 ∧ (k = 2 ∨ k = 3 ∨ k = 5)) → w' o k = w o k
theorem x_entL {t : Lt} {f : Nat} : ∀ (ss : List Stm) (fu p c b : Nat) (r : Rf) (w : gx_Wd), Ch (ltr t f) f p ss → XT w t f p → RF w 8 r → Rok 99 r → b ≤ p → ss.length < fu → ∃ w', Ud w w' ∧ XT w' t f (w' 29 2).toNatClampNeg ∧ match bad r ss with
    | some e => x_E_enterStatements_22 fu (nI c) (nI b) w = some (-2000 - nI e, w')
    | none => x_E_enterStatements_22 fu (nI c) (nI b) w = x_E_enterStatements_85 (nI (c + ss.length)) w' ∧ RF w' 8 (goR r ss) ∧ Rok 99 (goR r ss) := by
  have hxx : ∀ {w : gx_Wd} {f p : Nat}, XT w t f p → XT w t f (w 29 2).toNatClampNeg := fun {w f p} h => by
    rw [h.2.1, nI_clamp (by have := h.2.2.2; omega)]; exact h
  intro ss
  induction ss with
  | nil =>
    intro fu p c b r w hC hX hF hR hb hf
    obtain ⟨fu, rfl⟩ : ∃ g, fu = g + 1 := ⟨fu - 1, by omega⟩
    have hp : p = f := hC
    have hff := hX.2.2.2.2
    refine ⟨w, fun _ _ _ _ _ => rfl, hxx hX, ?_, hF, hR⟩
    rw [x_E_enterStatements_22, hX.1, hX.2.1]
    split
    · rfl
    · rw [if_pos (nI_le (by omega) (by omega))]
      rfl
  | cons s ss ih =>
    intro fu p c b r w hC hX hF hR hb hf
    obtain ⟨fu, rfl⟩ : ∃ g, fu = g + 1 := ⟨fu - 1, by omega⟩
    obtain ⟨hp, ho, hs, hC2⟩ := hC
    have hff := hX.2.2.2.2
    have hsh := ps_sh ho
    obtain ⟨w1, e1, e2, e3, e4⟩ := x_stmt hX
    obtain ⟨e5, e6⟩ := e4 ho
    obtain ⟨q1, q2, q3⟩ := ps_le (t := t) hX.2.2.2.1
    have hF1 : RF w1 8 r := hF.to (fun o k o1 o2 o3 => e2 o k (by omega) (by omega))
    have hs1 : s.1 = ltr t f p := by rw [hs]
    have hs2 : s.2.2 = (ps (ltr t f) p).2.2 := by rw [hs]
    have hs3 : s.2.1 = p := by rw [hs]
    rw [← hs1, ← hs2] at hsh
    rw [← hs2] at e5
    rw [← hs1] at e6
    obtain ⟨w2, d1, d2, d3⟩ := x_ent hR hF1 e5 e6 hsh
    have hX2 : XT w2 t f (ps (ltr t f) p).2.1 := ⟨by rw [d2 29 (by decide)]; exact e3.1, by rw [d2 29 (by decide)]; exact e3.2.1, fun i hi => by rw [d2 30 (by decide)]; exact e3.2.2.1 i hi, e3.2.2.2⟩
    have hU : Ud w w2 := fun o k o1 o2 o3 => by rw [d2 o o1, e2 o k o2 o3]
    have ex : x_E_enterStatements_22 (fu + 1) (nI c) (nI b) w = if bI (gd (r 0 0) (r 0 1) s) = 0 then some (-2000 - nI p, w2) else x_E_enterStatements_22 fu (nI (c + 1)) (nI (b + 1)) w2 := by
      rw [x_E_enterStatements_22, if_neg (show ¬ (96 : Int32) ≤ nI b from nI_ge (b := 96) (by omega) (by omega)), hX.1, hX.2.1, if_neg (nI_ge (by omega) (by omega)), e1, gx_bs, ho, if_neg (show ¬ bI true = 0 by decide), d1, gx_bs, gx_bs, gx_bs, nI_1, nI_1]
    rw [bad]
    by_cases g : gd (r 0 0) (r 0 1) s = true
    · rw [if_pos g]
      rw [g, if_neg (by decide)] at ex
      obtain ⟨m1, m2, m3⟩ := app_ok hR hsh g
      have hlt := q3 ho
      obtain ⟨w', g1, g2, g3⟩ := ih fu (ps (ltr t f) p).2.1 (c + 1) (b + 1) (app r s) w2 hC2 hX2 (d3 g) m1 (by omega) (by simp at hf; omega)
      refine ⟨w', fun o k o1 o2 o3 => by rw [g1 o k o1 o2 o3, hU o k o1 o2 o3], g2, ?_⟩
      rw [ex]
      cases hbad : bad (app r s) ss with
      | some e => rw [hbad] at g3; exact g3
      | none =>
        rw [hbad] at g3
        obtain ⟨g4, g5, g6⟩ := g3
        refine ⟨?_, g5, g6⟩
        rw [g4, show c + 1 + ss.length = c + (s :: ss).length by rw [List.length_cons]; omega]
    · rw [if_neg g]
      rw [if_pos (by rw [show gd (r 0 0) (r 0 1) s = false by simpa using g]; rfl)] at ex
      refine ⟨w2, hU, hxx hX2, ?_⟩
      simp only
      rw [ex, hs3]
theorem m_wroL {t : Lt} {f : Nat} : ∀ (ss : List Stm) (fu p : Nat) (r : Rf) (w : gx_Wd), Ch (ltr t f) f p ss → MX w t f p → Rok 99 r → w 0 1 = nI (r 0 1) → ss.length < fu → ∃ w', U7 w w' ∧ m_wrongPlace_10 fu (nI (r 0 0)) w = some (mI (bad r ss), w') := by
  intro ss
  induction ss with
  | nil =>
    intro fu p r w hC hX hR h1 hf
    obtain ⟨fu, rfl⟩ : ∃ g, fu = g + 1 := ⟨fu - 1, by omega⟩
    have hp : p = f := hC
    have hff := hX.2.2.2.2
    refine ⟨w, fun _ _ _ => rfl, ?_⟩
    rw [m_wrongPlace_10, hX.1, hX.2.1, if_pos (nI_le (by omega) (by omega))]
    rfl
  | cons s ss ih =>
    intro fu p r w hC hX hR h1 hf
    obtain ⟨fu, rfl⟩ : ∃ g, fu = g + 1 := ⟨fu - 1, by omega⟩
    obtain ⟨hp, ho, hs, hC2⟩ := hC
    have hff := hX.2.2.2.2
    have hsh := ps_sh ho
    obtain ⟨w1, e1, e2, e3, e4⟩ := m_stmt hX
    have e5 := e4 ho
    have hs1 : s.1 = ltr t f p := by rw [hs]
    have hs2 : s.2.2 = (ps (ltr t f) p).2.2 := by rw [hs]
    have hs3 : s.2.1 = p := by rw [hs]
    rw [← hs1, ← hs2] at hsh e5
    have hl : gx_ald sh_m w1 7 (nI p) = some s.1 := by
      rw [px_ald (sh := sh_m) (N := 96) (o := 7) rfl (show p < 96 by omega) (by decide), e3.2.2.1 p (by omega), hs1]
      unfold ltr
      rw [if_pos hp]
    have hg := m_goodE (nb := r 0 0) hR.1 hR.2.1 (by rw [e2 0 1 (by decide)]; exact h1) e5 hsh
    rw [bad]
    have ex : m_wrongPlace_10 (fu + 1) (nI (r 0 0)) w = if bI (gd (r 0 0) (r 0 1) s) = 0 then some (nI p, w1) else if s.1 = 98 then m_wrongPlace_10 fu (nI (r 0 0) + 1) w1 else m_wrongPlace_10 fu (nI (r 0 0) + 0) w1 := by
      rw [m_wrongPlace_10, hX.1, hX.2.1, if_neg (nI_ge (by omega) (by omega)), e1, gx_bs]
      simp only [hl, gx_bs, hg, m_wrongPlace_64]
    by_cases g : gd (r 0 0) (r 0 1) s = true
    · rw [if_pos g]
      rw [g, if_neg (by decide)] at ex
      obtain ⟨m1, m2, m3⟩ := app_ok hR hsh g
      obtain ⟨w', g1, g2⟩ := ih fu (ps (ltr t f) p).2.1 (app r s) w1 hC2 e3 m1 (by rw [e2 0 1 (by decide), h1, m2]) (by simp at hf; omega)
      refine ⟨w', e2.tr g1, ?_⟩
      rw [ex, ← g2, m3]
      by_cases c : s.1 = 98
      · rw [if_pos c, if_pos c, nI_1]
      · rw [if_neg c, if_neg c, Int32.add_zero]
        rfl
    · rw [if_neg g]
      rw [if_pos (by rw [show gd (r 0 0) (r 0 1) s = false by simpa using g]; rfl)] at ex
      refine ⟨w1, e2, ?_⟩
      rw [ex, hs3]
      rfl
theorem m_comL {t : Lt} {f : Nat} : ∀ (ss : List Stm) (fu p c : Nat) (r : Rf) (w : gx_Wd), Ch (ltr t f) f p ss → bad r ss = none → MX w t f p → RF w 0 r → Rok 99 r → ss.length < fu → ∃ w', (∀ o k, ¬ (1 ≤ o ∧ o ≤ 6) → ¬ (o = 0 ∧ (k ≤ 2 ∨ 14 ≤ k ∧ k ≤ 17)) → w' o k = w o k) ∧ m_comesAll_7 fu (nI c) w = some (nI (c + ss.length), w') ∧ RF w' 0 (goR r ss) := by
  intro ss
  induction ss with
  | nil =>
    intro fu p c r w hC hb hX hF hR hf
    obtain ⟨fu, rfl⟩ : ∃ g, fu = g + 1 := ⟨fu - 1, by omega⟩
    have hp : p = f := hC
    have hff := hX.2.2.2.2
    refine ⟨w, fun _ _ _ _ => rfl, ?_, hF⟩
    rw [m_comesAll_7, hX.1, hX.2.1, if_pos (nI_le (by omega) (by omega))]
    rfl
  | cons s ss ih =>
    intro fu p c r w hC hb hX hF hR hf
    obtain ⟨fu, rfl⟩ : ∃ g, fu = g + 1 := ⟨fu - 1, by omega⟩
    obtain ⟨hp, ho, hs, hC2⟩ := hC
    have hff := hX.2.2.2.2
    have hsh := ps_sh ho
    obtain ⟨w1, e1, e2, e3, e4⟩ := m_stmt hX
    have e5 := e4 ho
    have hs1 : s.1 = ltr t f p := by rw [hs]
    have hs2 : s.2.2 = (ps (ltr t f) p).2.2 := by rw [hs]
    rw [← hs1, ← hs2] at hsh e5
    rw [bad] at hb
    by_cases g : gd (r 0 0) (r 0 1) s = true
    · rw [if_pos g] at hb
      obtain ⟨m1, m2, m3⟩ := app_ok hR hsh g
      have hF1 : RF w1 0 r := hF.to (fun o k o1 o2 o3 => e2 o k (by omega))
      obtain ⟨w2, d1, d2, d3⟩ := m_come hR hF1 e5 hsh g
      have hX2 : MX w2 t f (ps (ltr t f) p).2.1 := ⟨by rw [d2 0 3 (by decide) (by decide)]; exact e3.1, by rw [d2 0 14 (by decide) (by decide)]; exact e3.2.1, fun i hi => by rw [d2 7 i (by omega) (by omega)]; exact e3.2.2.1 i hi, e3.2.2.2⟩
      obtain ⟨w', g1, g2, g3⟩ := ih fu (ps (ltr t f) p).2.1 (c + 1) (app r s) w2 hC2 hb hX2 d3 m1 (by simp at hf; omega)
      refine ⟨w', fun o k o1 o2 => by rw [g1 o k o1 o2, d2 o k o1 (by omega), e2 o k (by omega)], ?_, g3⟩
      rw [m_comesAll_7, hX.1, hX.2.1, if_neg (nI_ge (by omega) (by omega)), m_nxt hX, gx_bs, e1, gx_bs, ← hs1, d1, gx_bs, gx_bs, nI_1, g2, show c + 1 + ss.length = c + (s :: ss).length by rw [List.length_cons]; omega]
    · rw [if_neg g] at hb
      cases hb
theorem Ch_len {L : Lt} {t : Lt} {f : Nat} (hL : L = ltr t f) : ∀ (ss : List Stm) (p : Nat), p ≤ f → Ch L f p ss → ss.length + p ≤ f := by
  subst hL
  intro ss
  induction ss with
  | nil => intro p hp h; simpa using hp
  | cons s ss ih =>
    intro p hp h
    obtain ⟨h1, h2, h3, h4⟩ := h
    obtain ⟨q1, q2, q3⟩ := ps_le (t := t) hp
    have := ih _ q2 h4
    have := q3 h2
    rw [List.length_cons]
    omega
theorem bad_lt {L : Lt} {t : Lt} {f : Nat} (hL : L = ltr t f) : ∀ (ss : List Stm) (p : Nat) (r : Rf) (e : Nat), p ≤ f → Ch L f p ss → bad r ss = some e → e < f := by
  subst hL
  intro ss
  induction ss with
  | nil => intro p r e hp h hb; cases hb
  | cons s ss ih =>
    intro p r e hp h hb
    obtain ⟨h1, h2, h3, h4⟩ := h
    obtain ⟨q1, q2, q3⟩ := ps_le (t := t) hp
    rw [bad] at hb
    split at hb
    · exact ih _ _ _ q2 h4 hb
    · cases hb
      rw [h3]
      exact h1
