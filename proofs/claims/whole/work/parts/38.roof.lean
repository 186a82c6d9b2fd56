/-! ===== the roof: form, then what comes ===== -/
/-- a statement: its letter, its place, its numbers -/
abbrev Stm : Type := Int32 × Nat × List Nat
/-- from a place on, the statements -/
def Ch (L : Lt) (f : Nat) : Nat → List Stm → Prop
  | p, [] => p = f
  | p, s :: ss => p < f ∧ (ps L p).1 = true ∧ s = (L p, p, (ps L p).2.2) ∧ Ch L f (ps L p).2.1 ss
/-- form: either both find a fault at the same place, or all is well -/
theorem two_form {t : Lt} {f : Nat} : ∀ (d p b fx fm : Nat) (wx wm : gx_Wd), f - p ≤ d → d < fx → d < fm → b ≤ p → XT wx t f p → MX wm t f p → ∃ wx' wm', Us wx wx' ∧ U7 wm wm' ∧ ((∃ e, e ≤ f ∧ x_T_faultOfForm_17 fx (nI b) wx = some (-1000 - nI e, wx') ∧ m_isText_10 fm 1 wm = some (0, wm') ∧ wm' 0 14 = nI e) ∨ (x_T_faultOfForm_17 fx (nI b) wx = some (0, wx') ∧ m_isText_10 fm 1 wm = some (1, wm') ∧ ∃ ss, Ch (ltr t f) f p ss)) := by
  intro d
  induction d with
  | zero =>
    intro p b fx fm wx wm hd hfx hfm hb hx hm
    obtain ⟨fx, rfl⟩ : ∃ g, fx = g + 1 := ⟨fx - 1, by omega⟩
    obtain ⟨fm, rfl⟩ : ∃ g, fm = g + 1 := ⟨fm - 1, by omega⟩
    have hp : p = f := by have := hx.2.2.2.1; omega
    have hf := hx.2.2.2.2
    refine ⟨wx, wm, fun _ _ _ _ => rfl, fun _ _ _ => rfl, Or.inr ⟨?_, ?_, [], hp⟩⟩
    · rw [x_T_faultOfForm_17, hx.1, hx.2.1]
      split
      · rfl
      · rw [if_pos (nI_le (by omega) (by omega))]
    · rw [m_isText_10, hm.1, hm.2.1, if_neg (by decide), if_pos (nI_le (by omega) (by omega)), if_pos (Or.inr rfl)]
  | succ d ih =>
    intro p b fx fm wx wm hd hfx hfm hb hx hm
    obtain ⟨fx, rfl⟩ : ∃ g, fx = g + 1 := ⟨fx - 1, by omega⟩
    obtain ⟨fm, rfl⟩ : ∃ g, fm = g + 1 := ⟨fm - 1, by omega⟩
    have hpf := hx.2.2.2.1
    have hf := hx.2.2.2.2
    by_cases c : p = f
    · refine ⟨wx, wm, fun _ _ _ _ => rfl, fun _ _ _ => rfl, Or.inr ⟨?_, ?_, [], c⟩⟩
      · rw [x_T_faultOfForm_17, hx.1, hx.2.1]
        split
        · rfl
        · rw [if_pos (nI_le (by omega) (by omega))]
      · rw [m_isText_10, hm.1, hm.2.1, if_neg (by decide), if_pos (nI_le (by omega) (by omega)), if_pos (Or.inr rfl)]
    · obtain ⟨w1, e1, e2, e3, e4⟩ := x_stmt hx
      obtain ⟨w2, d1, d2, d3, d4⟩ := m_stmt hm
      obtain ⟨q1, q2, q3⟩ := ps_le (t := t) hpf
      have ex : x_T_faultOfForm_17 (fx + 1) (nI b) wx = if bI (ps (ltr t f) p).1 = 0 then some (-1000 - w1 29 2, w1) else x_T_faultOfForm_17 fx (nI (b + 1)) w1 := by
        rw [x_T_faultOfForm_17, if_neg (show ¬ (96 : Int32) ≤ nI b from nI_ge (b := 96) (by omega) (by omega)), hx.1, hx.2.1, if_neg (nI_ge (by omega) (by omega)), e1, gx_bs, gx_bs, nI_1]
      have em : m_isText_10 (fm + 1) 1 wm = m_isText_10 fm (bI (ps (ltr t f) p).1) w2 := by
        rw [m_isText_10, if_neg (by decide), hm.1, hm.2.1, if_neg (nI_ge (by omega) (by omega)), d1, gx_bs]
      cases ho : (ps (ltr t f) p).1 with
      | false =>
        rw [ho] at ex em
        obtain ⟨fm, rfl⟩ : ∃ g, fm = g + 1 := ⟨fm - 1, by omega⟩
        refine ⟨w1, w2, e2, d2, Or.inl ⟨(ps (ltr t f) p).2.1, q2, ?_, ?_, d3.2.1⟩⟩
        · rw [ex, if_pos (by decide), e3.2.1]
        · rw [em, m_isText_10, if_pos (by decide)]
          exact bI_rt
      | true =>
        rw [ho] at ex em
        rw [if_neg (by decide)] at ex
        have hlt := q3 ho
        obtain ⟨wx', wm', g1, g2, g3⟩ := ih (ps (ltr t f) p).2.1 (b + 1) fx fm w1 w2 (by omega) (by omega) (by omega) (by omega) e3 d3
        refine ⟨wx', wm', fun o k a b => by rw [g1 o k a b, e2 o k a b], d2.tr g2, ?_⟩
        rw [ex, show m_isText_10 (fm + 1) 1 wm = m_isText_10 fm 1 w2 from em]
        rcases g3 with g3 | ⟨g3, g4, ss, g5⟩
        · exact Or.inl g3
        · exact Or.inr ⟨g3, g4, (ltr t f p, p, (ps (ltr t f) p).2.2) :: ss, by omega, ho, rfl, g5⟩
/-- what a statement makes of a roof -/
def app (r : Rf) (s : Stm) : Rf :=
  if s.1 = 98 then rput (rput (rput (rput (rput r 1 (r 0 0) (s.2.2.getD 0 0)) 2 (r 0 0) (s.2.2.getD 1 0)) 3 (r 0 0) (s.2.2.getD 2 0)) 4 (r 0 0) 0) 0 0 (r 0 0 + 1)
  else if s.1 = 103 then rput r 6 (s.2.2.getD 0 0) (s.2.2.getD 1 0)
  else if s.1 = 107 then rput r 4 (s.2.2.getD 0 0) (s.2.2.getD 1 0)
  else if s.1 = 108 then rput r 0 2 (s.2.2.getD 0 0)
  else rput r 5 (s.2.2.getD 0 0) (s.2.2.getD 1 0)
/-- whether it is as it must be, behind so many bearers -/
def gd (nb at_ : Nat) (s : Stm) : Bool :=
  if s.1 = 98 then decide (1 ≤ s.2.2.getD 1 0) && decide (nb < 7) && decide (at_ + nb < 16)
  else if s.1 = 103 then decide (s.2.2.getD 0 0 < 16)
  else if s.1 = 107 then decide (s.2.2.getD 0 0 < nb)
  else if s.1 = 108 then decide (s.2.2.getD 0 0 < 28)
  else decide (s.2.2.getD 0 0 < 6)
def bad (r : Rf) : List Stm → Option Nat
  | [] => none
  | s :: ss => if gd (r 0 0) (r 0 1) s = true then bad (app r s) ss else some s.2.1
def goR (r : Rf) : List Stm → Rf
  | [] => r
  | s :: ss => goR (app r s) ss
theorem app_ok {r : Rf} {s : Stm} (hR : Rok 99 r) (hs : Sh s.1 s.2.2) (hg : gd (r 0 0) (r 0 1) s = true) : Rok 99 (app r s) ∧ app r s 0 1 = r 0 1 ∧ app r s 0 0 = r 0 0 + (if s.1 = 98 then 1 else 0) := by
  obtain ⟨c, p, nums⟩ := s
  simp only at hs hg
  unfold gd at hg
  unfold app
  simp only at hg ⊢
  rcases hs with ⟨rfl, a, b, d, rfl, h1, h2, h3⟩ | ⟨rfl, a, b, rfl, h1, h2⟩ | ⟨rfl, a, b, rfl, h1, h2⟩ | ⟨rfl, a, rfl, h1⟩ | ⟨rfl, a, b, rfl, h1, h2⟩
  · rw [if_pos rfl] at hg ⊢
    simp only [Bool.and_eq_true, decide_eq_true_eq] at hg
    obtain ⟨⟨g1, g2⟩, g3⟩ := hg
    obtain ⟨k1, k2, k3, k4, k5, k6, k7⟩ := hR
    refine ⟨⟨by simp [rput]; omega, by simpa [rput] using k2, by simp [rput]; omega, by simpa [rput] using k4, fun i hi => ?_, fun i hi => by simpa [rput] using k6 i hi, fun i hi => by simpa [rput] using k7 i hi⟩, by simp [rput], by simp [rput]⟩
    have := k5 i hi
    simp only [rput]
    by_cases ci : i = r 0 0
    · simp [ci]; omega
    · simp [ci]; omega
  · rw [if_neg (by decide), if_pos rfl] at hg ⊢
    rw [decide_eq_true_eq] at hg
    exact ⟨hR.put6 h2, by simp [rput], by simp [rput]⟩
  · rw [if_neg (by decide), if_neg (by decide), if_pos rfl] at hg ⊢
    exact ⟨hR.put4 h2, by simp [rput], by simp [rput]⟩
  · rw [if_neg (by decide), if_neg (by decide), if_neg (by decide), if_pos rfl] at hg ⊢
    rw [decide_eq_true_eq] at hg
    exact ⟨hR.putL (by simp at hg ⊢; omega), by simp [rput], by simp [rput]⟩
  · rw [if_neg (by decide), if_neg (by decide), if_neg (by decide), if_neg (by decide)] at hg ⊢
    exact ⟨hR.put5 h2, by simp [rput], by simp [rput]⟩
/-- the class enters a statement into its draft -/
theorem x_ent {w : gx_Wd} {r : Rf} {s : Stm} (hR : Rok 99 r) (hF : RF w 8 r) (hN : NT w s.2.2) (h3 : w 29 3 = s.1) (hs : Sh s.1 s.2.2) : ∃ w', x_E_enterStatement w = some (bI (gd (r 0 0) (r 0 1) s), w') ∧ (∀ o, (o < 8 ∨ 14 < o) → w' o = w o) ∧ (gd (r 0 0) (r 0 1) s = true → RF w' 8 (app r s)) := by
  obtain ⟨c, p, nums⟩ := s
  obtain ⟨k1, k2, k3, k4, k5, k6, k7⟩ := hR
  simp only at hs hN h3
  unfold x_E_enterStatement gd app
  have c0 : x_E_cell 31 0 w = some (w 31 0, w) := px_cell (N := 3) (o := 31) (k := 0) rfl (by decide) (by decide)
  have c1 : x_E_cell 31 1 w = some (w 31 1, w) := px_cell (N := 3) (o := 31) (k := 1) rfl (by decide) (by decide)
  have c2 : x_E_cell 31 2 w = some (w 31 2, w) := px_cell (N := 3) (o := 31) (k := 2) rfl (by decide) (by decide)
  simp only [c0, c1, c2, gx_bs, h3]
  rcases hs with ⟨rfl, a, b, d, rfl, h1, h2, hd⟩ | ⟨rfl, a, b, rfl, h1, h2⟩ | ⟨rfl, a, b, rfl, h1, h2⟩ | ⟨rfl, a, rfl, h1⟩ | ⟨rfl, a, b, rfl, h1, h2⟩
  · have e0 : w 31 0 = nI a := hN.2 0 a rfl
    have e1 : w 31 1 = nI b := hN.2 1 b rfl
    have e2 : w 31 2 = nI d := hN.2 2 d rfl
    rw [if_pos rfl, e0, e1, e2]
    simp only [if_true, List.getD_cons_zero, List.getD_cons_succ]
    unfold x_R_addBearer_8
    by_cases g1 : 1 ≤ b
    · rw [if_neg (show ¬ nI b < 1 from nI_nlt (b := 1) g1 (by omega)), hF.n]
      by_cases g2 : r 0 0 < 7
      · rw [if_neg (show ¬ (7 : Int32) ≤ nI (r 0 0) from nI_ge (b := 7) g2 (by omega)), hF.a, nI_add]
        by_cases g3 : r 0 1 + r 0 0 < 16
        · rw [if_pos (show nI (r 0 1 + r 0 0) < 16 from nI_lt (b := 16) g3 (by omega))]
          have f1 := hF.put (j := 1) (i := r 0 0) (v := a)
          have f2 := f1.put (j := 2) (i := r 0 0) (v := b)
          have f3 := f2.put (j := 3) (i := r 0 0) (v := d)
          have f4 := f3.put (j := 4) (i := r 0 0) (v := 0)
          have f5 := f4.put (j := 0) (i := 0) (v := r 0 0 + 1)
          have q1 : gx_w w 9 (r 0 0) (nI a) 8 0 = nI (r 0 0) := by rw [px_wo (by decide)]; exact hF.n
          have q2 : gx_w (gx_w w 9 (r 0 0) (nI a)) 10 (r 0 0) (nI b) 8 0 = nI (r 0 0) := by rw [px_wo (by decide)]; exact q1
          have q3 : gx_w (gx_w (gx_w w 9 (r 0 0) (nI a)) 10 (r 0 0) (nI b)) 11 (r 0 0) (nI d) 8 0 = nI (r 0 0) := by rw [px_wo (by decide)]; exact q2
          have q4 : gx_w (gx_w (gx_w (gx_w w 9 (r 0 0) (nI a)) 10 (r 0 0) (nI b)) 11 (r 0 0) (nI d)) 12 (r 0 0) 0 8 0 = nI (r 0 0) := by rw [px_wo (by decide)]; exact q3
          refine ⟨_, ?_, fun o ho => ?_, fun _ => f5⟩
          · simp only [px_set (N := 7) (o := 9) rfl g2 (by decide), q1, px_set (N := 7) (o := 10) rfl g2 (by decide), q2, px_set (N := 7) (o := 11) rfl g2 (by decide), q3, px_set (N := 7) (o := 12) rfl g2 (by decide), q4, gx_bs, gx_put]
            rw [decide_eq_true g1, decide_eq_true g2, decide_eq_true g3]
            rw [if_pos (Or.inr trivial), nI_1]
            rfl
          · rw [px_wo (by omega), px_wo (by omega), px_wo (by omega), px_wo (by omega), px_wo (by omega)]
        · rw [if_neg (show ¬ nI (r 0 1 + r 0 0) < 16 from nI_nlt (b := 16) (by omega) (by omega)), gx_bs]
          refine ⟨w, ?_, fun _ _ => rfl, fun z => by simp [g3] at z⟩
          rw [decide_eq_false g3, Bool.and_false]
          rfl
      · rw [if_pos (show (7 : Int32) ≤ nI (r 0 0) from nI_le (a := 7) (by omega) (by omega)), gx_bs]
        refine ⟨w, ?_, fun _ _ => rfl, fun z => by simp [g2] at z⟩
        rw [decide_eq_false g2, Bool.and_false, Bool.false_and]
        rfl
    · rw [if_pos (show nI b < 1 from nI_lt (b := 1) (by omega) (by omega)), gx_bs]
      refine ⟨w, ?_, fun _ _ => rfl, fun z => by simp [g1] at z⟩
      rw [decide_eq_false g1, Bool.false_and, Bool.false_and]
      rfl
  · have e0 : w 31 0 = nI a := hN.2 0 a rfl
    have e1 : w 31 1 = nI b := hN.2 1 b rfl
    simp only [e0, e1, show ¬ (103 : Int32) = 98 by decide, show ¬ (107 : Int32) = 98 by decide, show ¬ (107 : Int32) = 103 by decide, show ¬ (108 : Int32) = 98 by decide, show ¬ (108 : Int32) = 103 by decide, show ¬ (108 : Int32) = 107 by decide, show ¬ (115 : Int32) = 98 by decide, show ¬ (115 : Int32) = 103 by decide, show ¬ (115 : Int32) = 107 by decide, show ¬ (115 : Int32) = 108 by decide, if_true, if_false, List.getD_cons_zero, List.getD_cons_succ]
    by_cases g : a < 16
    · rw [if_neg (show ¬ (16 : Int32) ≤ nI a from nI_ge (b := 16) g (by omega)), px_set (N := 16) (o := 14) rfl g (by decide), gx_bs]
      refine ⟨gx_w w 14 a (nI b), ?_, fun o ho => px_wo (by omega), fun _ => hF.put (j := 6)⟩
      rw [decide_eq_true g]
      rfl
    · rw [if_pos (show (16 : Int32) ≤ nI a from nI_le (a := 16) (by omega) (by omega))]
      exact ⟨w, by rw [decide_eq_false g]; rfl, fun _ _ => rfl, fun z => by simp [g] at z⟩
  · have e0 : w 31 0 = nI a := hN.2 0 a rfl
    have e1 : w 31 1 = nI b := hN.2 1 b rfl
    simp only [e0, e1, show ¬ (103 : Int32) = 98 by decide, show ¬ (107 : Int32) = 98 by decide, show ¬ (107 : Int32) = 103 by decide, show ¬ (108 : Int32) = 98 by decide, show ¬ (108 : Int32) = 103 by decide, show ¬ (108 : Int32) = 107 by decide, show ¬ (115 : Int32) = 98 by decide, show ¬ (115 : Int32) = 103 by decide, show ¬ (115 : Int32) = 107 by decide, show ¬ (115 : Int32) = 108 by decide, if_true, if_false, List.getD_cons_zero, List.getD_cons_succ]
    unfold x_R_hasBearer_8
    rw [if_neg (show ¬ nI a < 0 from nI_pos (by omega)), hF.n]
    by_cases g : a < r 0 0
    · rw [if_neg (nI_ge g (by omega)), gx_bs, if_neg (show ¬ (1 : Int32) = 0 by decide), px_set (N := 7) (o := 12) rfl (show a < 7 by omega) (by decide), gx_bs]
      refine ⟨gx_w w 12 a (nI b), ?_, fun o ho => px_wo (by omega), fun _ => hF.put (j := 4)⟩
      rw [decide_eq_true g]
      rfl
    · rw [if_pos (nI_le (by omega) (by omega)), gx_bs]
      exact ⟨w, by rw [decide_eq_false g]; rfl, fun _ _ => rfl, fun z => by simp [g] at z⟩
  · have e0 : w 31 0 = nI a := hN.2 0 a rfl
    simp only [e0, x_E_enterStatement_177, gx_put, gx_bs, show ¬ (103 : Int32) = 98 by decide, show ¬ (107 : Int32) = 98 by decide, show ¬ (107 : Int32) = 103 by decide, show ¬ (108 : Int32) = 98 by decide, show ¬ (108 : Int32) = 103 by decide, show ¬ (108 : Int32) = 107 by decide, show ¬ (115 : Int32) = 98 by decide, show ¬ (115 : Int32) = 103 by decide, show ¬ (115 : Int32) = 107 by decide, show ¬ (115 : Int32) = 108 by decide, if_true, if_false, List.getD_cons_zero, List.getD_cons_succ]
    by_cases g : a < 28
    · have g2 : ¬ (28 : Int32) ≤ nI a := nI_ge (b := 28) g (by omega)
      rw [if_neg g2, if_neg g2]
      refine ⟨gx_w w 8 2 (nI a), ?_, fun o ho => px_wo (by omega), fun _ => hF.put (j := 0)⟩
      rw [decide_eq_true g]
      rfl
    · have g2 : (28 : Int32) ≤ nI a := nI_le (a := 28) (by omega) (by omega)
      rw [if_pos g2, if_pos g2]
      exact ⟨_, by rw [decide_eq_false g]; rfl, fun o ho => px_wo (by omega), fun z => by simp [g] at z⟩
  · have e0 : w 31 0 = nI a := hN.2 0 a rfl
    have e1 : w 31 1 = nI b := hN.2 1 b rfl
    simp only [e0, e1, show ¬ (103 : Int32) = 98 by decide, show ¬ (107 : Int32) = 98 by decide, show ¬ (107 : Int32) = 103 by decide, show ¬ (108 : Int32) = 98 by decide, show ¬ (108 : Int32) = 103 by decide, show ¬ (108 : Int32) = 107 by decide, show ¬ (115 : Int32) = 98 by decide, show ¬ (115 : Int32) = 103 by decide, show ¬ (115 : Int32) = 107 by decide, show ¬ (115 : Int32) = 108 by decide, if_true, if_false, List.getD_cons_zero, List.getD_cons_succ]
    unfold x_E_isSpan
    rw [if_neg (show ¬ nI a < 0 from nI_pos (by omega))]
    by_cases g : a < 6
    · rw [if_neg (show ¬ (6 : Int32) ≤ nI a from nI_ge (b := 6) g (by omega)), gx_bs, if_neg (show ¬ (1 : Int32) = 0 by decide), px_set (N := 6) (o := 13) rfl g (by decide), gx_bs]
      refine ⟨gx_w w 13 a (nI b), ?_, fun o ho => px_wo (by omega), fun _ => hF.put (j := 5)⟩
      rw [decide_eq_true g]
      rfl
    · rw [if_pos (show (6 : Int32) ≤ nI a from nI_le (a := 6) (by omega) (by omega)), gx_bs]
      exact ⟨w, by rw [decide_eq_false g]; rfl, fun _ _ => rfl, fun z => by simp [g] at z⟩
