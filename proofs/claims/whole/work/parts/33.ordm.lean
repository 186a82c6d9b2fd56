/-! ===== the orders: the model's numbering; both the same ===== -/
section
variable {n : Nat} {U : Nat}
theorem m_hasM {w : gx_Wd} (hn : n < 8) (hU : U < 2 ^ n) {b : Nat} (hb1 : b < n) : m_has (nI (2 ^ n - 1 - U)) (nI b) w = some (bI (!(hb U b)), w) := by
  unfold m_has
  have h := ob_msk n hn U hU b hb1
  by_cases c : hb U b = false
  · rw [if_pos (h.mpr c), c]; rfl
  · rw [if_neg (fun z => c (h.mp z)), show hb U b = true by simpa using c]; rfl
theorem m_pick {K : Int32 → Int32 → Int32 → Int32 → gx_Wd → Option (Int32 × gx_Wd)} (hn : n < 8) (hU : U < 2 ^ n) {v3 v7 v5 : Int32} {w : gx_Wd} {c : Nat} : ∀ (j f k b : Nat), b + j = n → (fl U j b)[k]? = some c → k < 6000 → j < f → m_layOrder_78 K f v3 (nI (2 ^ n - 1 - U)) v7 v5 (nI k) (nI b) w = m_layOrder_119 K v3 (nI (2 ^ n - 1 - U)) v7 v5 (nI c) w := by
  intro j
  induction j with
  | zero =>
    intro f k b hj h hk hf
    simp [fl] at h
  | succ j ih =>
    intro f k b hj h hk hf
    obtain ⟨f, rfl⟩ : ∃ g, f = g + 1 := ⟨f - 1, by omega⟩
    rw [fl] at h
    have hh := m_hasM (w := w) hn hU (show b < n by omega)
    simp only [m_layOrder_78, hh, gx_bs, m_layOrder_93, bI_ite, m_layOrder_110]
    rw [nI_1]
    by_cases cu : hb U b = true
    · rw [if_pos cu] at h
      rw [if_neg (by simp [cu]), if_neg (by simp [cu])]
      rw [show nI k - 0 = nI k from by rw [Int32.sub_zero]]
      exact ih f k (b + 1) (by omega) h hk (by omega)
    · rw [if_neg cu] at h
      have cu3 : (!(hb U b)) = true := by simp [cu]
      rw [if_pos cu3]
      cases k with
      | zero =>
        rw [if_pos (show nI 0 ≤ 0 by decide)]
        rw [List.getElem?_cons_zero] at h
        cases h
        rfl
      | succ k =>
        rw [if_neg (show ¬ nI (k + 1) ≤ 0 from nI_ge (a := 0) (by omega) (by omega)), if_pos cu3, show nI (k + 1) - 1 = nI k from nI_pred k]
        rw [List.getElem?_cons_succ] at h
        exact ih f k (b + 1) (by omega) h (by omega) (by omega)
theorem m_layL (hn : n < 8) : ∀ (j f p U num : Nat) (q q' : Nat → Nat) (w : gx_Wd), p + j = n → U < 2 ^ n → pc U = p → (Ls n j p U q)[num]? = some q' → num < fac j → w 0 0 = nI n → (∀ i, i < 7 → (i < p ∨ n ≤ i) → w 10 i = nI (q i)) → j < f → ∃ w', m_layOrder_44 f (nI (fac j)) (nI (2 ^ n - 1 - U)) (nI num) (nI p) w = some (1, w') ∧ (∀ o, o ≠ 10 → w' o = w o) ∧ (∀ i, i < 7 → w' 10 i = nI (q' i)) ∧ ∀ i, 7 ≤ i → w' 10 i = w 10 i := by
  intro j
  induction j with
  | zero =>
    intro f p U num q q' w hp hU hpc hq hnum h0 hw hf
    obtain ⟨f, rfl⟩ : ∃ g, f = g + 1 := ⟨f - 1, by omega⟩
    rw [Ls] at hq
    have hnum0 : num = 0 := by simp [fac] at hnum; omega
    rw [hnum0, List.getElem?_cons_zero] at hq
    cases hq
    refine ⟨w, ?_, fun _ _ => rfl, fun i hi => hw i hi (by omega), fun _ _ => rfl⟩
    rw [m_layOrder_44, h0, if_pos (nI_le (by omega) (by omega))]
  | succ j ih =>
    intro f p U num q q' w hp hU hpc hq hnum h0 hw hf
    obtain ⟨f, rfl⟩ : ∃ g, f = g + 1 := ⟨f - 1, by omega⟩
    have hU2 := ob_p2 hn hU
    obtain ⟨fj1, fj2⟩ := ob_fac j (by omega)
    obtain ⟨gj1, gj2⟩ := ob_fac (j + 1) (by omega)
    rw [Ls, flat_get (L := fac j) fj1 _ _ (fun b hb1 => by
      obtain ⟨q1, q2, q3⟩ := fl_mem _ _ _ hb1
      refine Ls_len hn _ _ _ _ (ob_lt n hn U hU b (by omega) q3) ?_
      rw [ob_pc U hU2 b (by omega) q3]
      omega), Option.bind_eq_some_iff] at hq
    obtain ⟨c, hc1, hc2⟩ := hq
    obtain ⟨q1, q2, q3⟩ := fl_mem _ _ _ (List.mem_of_getElem? hc1)
    have hdl : num / fac j ≤ num := Nat.div_le_self _ _
    have hpk := m_pick (K := m_layOrder_44 f) hn hU (v3 := nI (fac j)) (v7 := nI (num % fac j)) (v5 := nI p) (w := w) n 6000 (num / fac j) 0 (by omega) hc1 (by omega) (by omega)
    obtain ⟨w', g1, g2, g3, g4⟩ := ih f (p + 1) (U + 2 ^ c) (num % fac j) (uq q p c) q' (gx_w w 10 p (nI c)) (by omega) (ob_lt n hn U hU c (by omega) q3) (by rw [ob_pc U hU2 c (by omega) q3]; omega) hc2 (Nat.mod_lt _ fj1) (by rw [px_wo (by decide)]; exact h0) (fun i hi hi2 => by
      rw [px_w]
      unfold uq
      by_cases c2 : i = p
      · simp [c2]
      · simp only [if_true, if_neg c2]
        exact hw i hi (by omega)) (by omega)
    refine ⟨w', ?_, fun o ho => by rw [g2 o ho, px_wo ho], g3, fun i hi => by rw [g4 i hi, px_wn (by omega)]⟩
    have e1 : nI n - nI p = nI (j + 1) := by rw [pk_sub (by omega), show n - p = j + 1 by omega]
    have e2 : nI (fac (j + 1)) / nI (j + 1) = nI (fac j) := by
      rw [pk_div (by omega) (by omega) (by omega), show fac (j + 1) = (j + 1) * fac j from rfl, Nat.mul_div_cancel_left _ (by omega)]
    have e3 : nI num / nI (fac j) = nI (num / fac j) := pk_div (by omega) fj1 (by omega)
    have e4 : nI num - nI (num / fac j) * nI (fac j) = nI (num % fac j) := by
      have hdm := Nat.div_add_mod num (fac j)
      rw [pk_mul, pk_sub (by rw [Nat.mul_comm]; omega)]
      congr 1
      rw [Nat.mul_comm]
      omega
    rw [m_layOrder_44, h0, if_neg (nI_ge (by omega) (by omega)), e1, if_neg (show ¬ nI (j + 1) = 0 from fun z => by have := (nI_eq (b := 0) (by omega) (by omega)).mp z; omega)]
    simp only [e2, gx_bs]
    have hf0 : ¬ nI (fac j) = 0 := fun z => by have := (nI_eq (b := 0) (by omega) (by omega)).mp z; omega
    rw [if_neg hf0]
    simp only [e3, e4, gx_bs]
    rw [if_neg hf0]
    refine Eq.trans (show m_layOrder_78 (m_layOrder_44 f) 6000 (nI (fac j)) (nI (2 ^ n - 1 - U)) (nI (num % fac j)) (nI p) (nI (num / fac j)) 0 w = _ from hpk) ?_
    simp only [m_layOrder_119, px_ast (sh := sh_m) (N := 7) (o := 10) rfl (show p < 7 by omega) (by decide), gx_bs, ob_xor n hn U hU c (by omega) q3]
    rw [nI_1]
    exact g1
theorem m_facL (hn : n < 8) {v : Int32} {w : gx_Wd} (h0 : w 0 0 = nI n) : ∀ (j f i : Nat), i + j = n → 1 ≤ i → j < f → m_layOrder_4 f v (nI (fac i)) (nI (i + 1)) w = m_layOrder_22 v (nI (fac n)) w := by
  intro j
  induction j with
  | zero =>
    intro f i hi h1 hf
    obtain ⟨f, rfl⟩ : ∃ g, f = g + 1 := ⟨f - 1, by omega⟩
    rw [m_layOrder_4, h0, if_pos (nI_lt (by omega) (by omega)), show i = n by omega]
  | succ j ih =>
    intro f i hi h1 hf
    obtain ⟨f, rfl⟩ : ∃ g, f = g + 1 := ⟨f - 1, by omega⟩
    rw [m_layOrder_4, h0, if_neg (nI_nlt (by omega) (by omega))]
    simp only [gx_bs]
    rw [pk_mul, nI_1, show fac i * (i + 1) = fac (i + 1) from Nat.mul_comm _ _]
    exact ih f (i + 1) (by omega) (by omega) (by omega)
theorem m_fac1 (hn : n < 8) {v : Int32} {w : gx_Wd} (h0 : w 0 0 = nI n) : m_layOrder v w = m_layOrder_22 v (nI (fac n)) w := by
  unfold m_layOrder
  by_cases c : n = 0
  · subst c
    refine (show m_layOrder_4 (5999 + 1) v 1 2 w = _ from ?_)
    rw [m_layOrder_4, h0, if_pos (show nI 0 < 2 by decide)]
    rfl
  · exact m_facL hn h0 (n - 1) 6000 1 (by omega) (by omega) (by omega)
/-- what the model's mind must be while it lays -/
def LM (w0 w : gx_Wd) (n : Nat) : Prop := (∀ o, o ≠ 10 → w o = w0 o) ∧ (∀ i, n ≤ i → w 10 i = w0 10 i)
theorem m_lay {r : Rf} {w0 w : gx_Wd} (h0 : MC w0 r iD nO) (h : LM w0 w (r 0 0)) {num : Nat} : (∀ q', (Ls (r 0 0) (r 0 0) 0 0 iD)[num]? = some q' → ∃ w', m_layOrder (nI num) w = some (1, w') ∧ LM w0 w' (r 0 0) ∧ MC w' r q' nO) ∧ (fac (r 0 0) ≤ num → num < 6000 → m_layOrder (nI num) w = some (0, w)) := by
  have hn := h0.2.1.1
  have hn0 : w 0 0 = nI (r 0 0) := by rw [h.1 0 (by decide)]; exact h0.1.n
  obtain ⟨f1, f2⟩ := ob_fac (r 0 0) (by omega)
  have h2 : 0 < 2 ^ (r 0 0) := Nat.one_le_two_pow
  refine ⟨fun q' hq => ?_, fun hl hl2 => ?_⟩
  · have hlen := Ls_len (n := r 0 0) (by omega) (r 0 0) 0 0 iD h2 (by rw [show pc 0 = 0 by decide]; omega)
    have hnum : num < fac (r 0 0) := by
      rw [← hlen]
      exact (List.getElem?_eq_some_iff.mp hq).1
    obtain ⟨w', g1, g2, g3, g4⟩ := m_layL (n := r 0 0) (by omega) (r 0 0) 6000 0 0 num iD q' w (by omega) h2 (by decide) hq hnum hn0 (fun i hi hi2 => by rw [h.2 i (by omega)]; exact (h0.2.2.1 i hi).1) (by omega)
    have hmem := List.mem_of_getElem? hq
    have hpre : ∀ i, r 0 0 ≤ i → q' i = i := fun i hi => Ls_pre _ _ _ _ _ hmem i (by omega)
    have hq7 : ∀ i, i < 7 → q' i < 7 := fun i hi => by
      by_cases c : i < r 0 0
      · have := Ls_lt _ _ _ _ _ hmem i (by omega) (by omega)
        omega
      · rw [hpre i (by omega)]; exact hi
    refine ⟨w', ?_, ⟨fun o ho => by rw [g2 o ho, h.1 o ho], fun i hi => ?_⟩, ?_⟩
    · rw [m_fac1 (by omega) hn0]
      unfold m_layOrder_22
      rw [if_pos (nI_lt hnum (by omega)), hn0, ob_shm (r 0 0) (by omega), gx_bs]
      exact g1
    · by_cases c : i < 7
      · rw [g3 i c, hpre i hi]; exact (h0.2.2.1 i c).1.symm
      · rw [g4 i (by omega), h.2 i hi]
    · obtain ⟨p1, p2, p3, p4⟩ := h0
      refine ⟨p1.to (fun o k o1 o2 o3 => by rw [g2 o (by omega), h.1 o (by omega)]), p2, fun p hp => ⟨g3 p hp, hq7 p hp⟩, fun p hp => ?_⟩
      rw [g2 0 (by decide), h.1 0 (by decide)]
      have := p4 (q' p) (hq7 p hp)
      exact this
  · rw [m_fac1 (by omega) hn0]
    unfold m_layOrder_22
    rw [if_neg (nI_nlt hl (by omega))]
end
/-- what is said of the first that holds -/
def fv (v : Int32) (o : Option (Nat → Nat)) : Int32 := match o with
  | none => -9
  | some q => if v < 0 then -9 else nI (q v.toNatClampNeg)
theorem m_ordL {r : Rf} {w0 : gx_Wd} (h0 : MC w0 r iD nO) {v : Int32} (hv : v < 0 ∨ ∃ t, t < 7 ∧ v = nI t) (FQ : (Nat → Nat) → Bool) (hFQ : ∀ q, FQ q = xF r (r 0 1) (r 0 2) q r0 nO (r 5)) : ∀ (rest pre : List (Nat → Nat)) (f : Nat) (w : gx_Wd), Ls (r 0 0) (r 0 0) 0 0 iD = pre ++ rest → LM w0 w (r 0 0) → rest.length < f → ∃ w', m_orders_27 f v (nI (pre.countP FQ)) (fv v (pre.find? FQ)) (nI pre.length) w = m_orders_74 v (nI ((pre ++ rest).countP FQ)) (fv v ((pre ++ rest).find? FQ)) w' ∧ LM w0 w' (r 0 0) := by
  have hn := h0.2.1.1
  obtain ⟨f1, f2⟩ := ob_fac (r 0 0) (by omega)
  have h2 : 0 < 2 ^ (r 0 0) := Nat.one_le_two_pow
  have hlen := Ls_len (n := r 0 0) (by omega) (r 0 0) 0 0 iD h2 (by rw [show pc 0 = 0 by decide]; omega)
  intro rest
  induction rest with
  | nil =>
    intro pre f w hl h hf
    obtain ⟨f, rfl⟩ : ∃ g, f = g + 1 := ⟨f - 1, by omega⟩
    rw [List.append_nil] at hl
    rw [hl] at hlen
    refine ⟨w, ?_, h⟩
    rw [m_orders_27, (m_lay h0 h).2 (by omega) (by omega), gx_bs, if_pos rfl, List.append_nil]
  | cons q rest ih =>
    intro pre f w hl h hf
    obtain ⟨f, rfl⟩ : ∃ g, f = g + 1 := ⟨f - 1, by omega⟩
    rw [hl, List.length_append, List.length_cons] at hlen
    have hq : (Ls (r 0 0) (r 0 0) 0 0 iD)[pre.length]? = some q := by
      rw [hl, List.getElem?_append_right (Nat.le_refl _), Nat.sub_self]
      rfl
    obtain ⟨w1, e1, e2, e3⟩ := (m_lay h0 h).1 q hq
    have e4 := e3.f
    rw [← hFQ q] at e4
    have happ : pre ++ q :: rest = (pre ++ [q]) ++ rest := by simp
    obtain ⟨w', g1, g2⟩ := ih (pre ++ [q]) f w1 (by rw [hl, happ]) e2 (by simp at hf; omega)
    refine ⟨w', ?_, g2⟩
    rw [happ, ← g1, m_orders_27]
    have hcl : pre.countP FQ ≤ pre.length := List.countP_le_length
    simp only [e1, e4, gx_bs, bI_ite, m_orders_68, m_orders_64]
    rw [if_neg (show ¬ (1 : Int32) = 0 by decide)]
    rw [show nI pre.length + 1 = nI (pre ++ [q]).length from by rw [nI_1, List.length_append]; rfl]
    by_cases c : FQ q = true
    · rw [if_pos c]
      have hc1 : (pre ++ [q]).countP FQ = pre.countP FQ + 1 := by rw [List.countP_append]; simp [List.countP_cons, c]
      by_cases c2 : pre.countP FQ = 0
      · have hnone : pre.find? FQ = none := by
          rw [← Option.not_isSome_iff_eq_none, find_pos]; omega
        have hsome : (pre ++ [q]).find? FQ = some q := by rw [List.find?_append, hnone]; simp [List.find?_cons, c]
        rw [if_pos (show nI (pre.countP FQ) = 0 by rw [c2]; decide), hc1, ← nI_1, hsome, hnone]
        by_cases c3 : v < 0
        · rw [if_pos c3]
          simp only [fv, if_pos c3]
        · rw [if_neg c3]
          rcases hv with hv | ⟨t, ht, rfl⟩
          · exact absurd hv c3
          · have e5 : gx_ald sh_m w1 10 (nI t) = some (nI (q t)) := by rw [px_ald (N := 7) rfl ht (by decide), (e3.2.2.1 t ht).1]
            simp only [e5, gx_bs, fv, if_neg c3]
            rw [nI_clamp (by omega)]
      · have hs : (pre.find? FQ).isSome = true := by rw [find_pos]; omega
        obtain ⟨q0, hq0⟩ := Option.isSome_iff_exists.mp hs
        have hsome : (pre ++ [q]).find? FQ = some q0 := by rw [List.find?_append, hq0]; rfl
        rw [if_neg (show ¬ nI (pre.countP FQ) = 0 from fun z => c2 ((nI_eq (b := 0) (by omega) (by omega)).mp z)), hc1, ← nI_1, hsome, hq0]
    · rw [if_neg c]
      have hc1 : (pre ++ [q]).countP FQ = pre.countP FQ := by rw [List.countP_append]; simp [List.countP_cons, c]
      have hsome : (pre ++ [q]).find? FQ = pre.find? FQ := by
        rw [List.find?_append]
        have : [q].find? FQ = none := by simp [List.find?_cons, c]
        rw [this]
        cases pre.find? FQ <;> rfl
      rw [hc1, hsome]
theorem m_backL {v c u : Int32} : ∀ (j f i : Nat) (w : gx_Wd), i + j = 7 → j < f → ∃ w', m_orders_77 f v c u (nI i) w = m_orders_99 v c u w' ∧ (∀ o, o ≠ 10 → w' o = w o) ∧ (∀ k, (k < i ∨ 7 ≤ k) → w' 10 k = w 10 k) ∧ ∀ k, i ≤ k → k < 7 → w' 10 k = nI k := by
  intro j
  induction j with
  | zero =>
    intro f i w hi hf
    obtain ⟨f, rfl⟩ : ∃ g, f = g + 1 := ⟨f - 1, by omega⟩
    refine ⟨w, ?_, fun _ _ => rfl, fun _ _ => rfl, fun k h1 h2 => by omega⟩
    rw [m_orders_77, if_pos (show (7 : Int32) ≤ nI i from nI_le (a := 7) (by omega) (by omega))]
  | succ j ih =>
    intro f i w hi hf
    obtain ⟨f, rfl⟩ : ∃ g, f = g + 1 := ⟨f - 1, by omega⟩
    obtain ⟨w', g1, g2, g3, g4⟩ := ih f (i + 1) (gx_w w 10 i (nI i)) (by omega) (by omega)
    refine ⟨w', ?_, fun o ho => by rw [g2 o ho, px_wo ho], fun k hk => by rw [g3 k (by omega), px_wn (by omega)], fun k h1 h2 => ?_⟩
    · rw [m_orders_77, if_neg (show ¬ (7 : Int32) ≤ nI i from nI_ge (b := 7) (by omega) (by omega))]
      simp only [px_ast (sh := sh_m) (N := 7) (o := 10) rfl (show i < 7 by omega) (by decide), gx_bs]
      rw [nI_1]
      exact g1
    · by_cases c : k = i
      · rw [c, g3 i (by omega), px_ws]
      · exact g4 k (by omega) h2
/-- the model's answer -/
theorem m_ord {r : Rf} {w : gx_Wd} (h : MC w r iD nO) (hs : ∀ i, i < 7 → w 10 i = nI i) {v : Int32} (hv : v < 0 ∨ ∃ t, t < 7 ∧ v = nI t) : ∃ w', m_orders_19 v w = some (if 0 ≤ v then fv v ((Ls (r 0 0) (r 0 0) 0 0 iD).find? (fun q => xF r (r 0 1) (r 0 2) q r0 nO (r 5))) else nI ((Ls (r 0 0) (r 0 0) 0 0 iD).countP (fun q => xF r (r 0 1) (r 0 2) q r0 nO (r 5))), w') ∧ ∀ o k, w' o k = w o k := by
  have hn := h.2.1.1
  obtain ⟨f1, f2⟩ := ob_fac (r 0 0) (by omega)
  have h2 : 0 < 2 ^ (r 0 0) := Nat.one_le_two_pow
  have hlen := Ls_len (n := r 0 0) (by omega) (r 0 0) 0 0 iD h2 (by rw [show pc 0 = 0 by decide]; omega)
  obtain ⟨w1, g1, g2⟩ := m_ordL h hv (fun q => xF r (r 0 1) (r 0 2) q r0 nO (r 5)) (fun _ => rfl) (Ls (r 0 0) (r 0 0) 0 0 iD) [] 6000 w rfl ⟨fun _ _ => rfl, fun _ _ => rfl⟩ (by omega)
  rw [List.nil_append] at g1
  obtain ⟨w2, d1, d2, d3, d4⟩ := m_backL (v := v) (c := nI ((Ls (r 0 0) (r 0 0) 0 0 iD).countP (fun q => xF r (r 0 1) (r 0 2) q r0 nO (r 5)))) (u := fv v ((Ls (r 0 0) (r 0 0) 0 0 iD).find? (fun q => xF r (r 0 1) (r 0 2) q r0 nO (r 5)))) 7 6000 0 w1 (by omega) (by omega)
  refine ⟨w2, ?_, fun o k => ?_⟩
  · unfold m_orders_19
    refine Eq.trans (show m_orders_27 6000 v 0 (-9) 0 w = _ from g1) ?_
    unfold m_orders_74
    refine Eq.trans (show m_orders_77 6000 v _ _ 0 w1 = _ from d1) ?_
    unfold m_orders_99
    by_cases c : 0 ≤ v
    · rw [if_pos c, if_pos c]
    · rw [if_neg c, if_neg c]
  · by_cases c : o = 10
    · subst c
      by_cases c2 : k < 7
      · rw [d4 k (Nat.zero_le _) c2, hs k c2]
      · rw [d3 k (by omega), g2.2 k (by omega)]
    · rw [d2 o c, g2.1 o c]
theorem sum_cg {l : List Nat} {f g : Nat → Nat} (h : ∀ b ∈ l, f b = g b) : (l.map f).sum = (l.map g).sum := by rw [List.map_congr_left h]
/-- the class's answer -/
theorem x_ord {r : Rf} {w : gx_Wd} {M : Nat → Nat → Option Nat} {wt : Nat → Nat} (h : OX w (r 0 0) M wt) (hV : VW w (r 0 0) M wt 1) (FQ : (Nat → Nat) → Bool) (h0 : r 0 0 = 0 → ∀ q, FQ q = true) (hFQ : ∀ j q, r 0 0 = j + 1 → FQ q = Tl M wt j 0 q false) : x_O_total w = some (nI ((Ls (r 0 0) (r 0 0) 0 0 iD).countP FQ), w) ∧ ∀ t, t < r 0 0 → x_O_firstUnder (nI t) w = some (fv (nI t) ((Ls (r 0 0) (r 0 0) 0 0 iD).find? FQ), w) := by
  have hn := h.1
  generalize hm : r 0 0 = n at *
  cases n with
  | zero =>
    refine ⟨?_, fun t ht => by omega⟩
    unfold x_O_total
    rw [h.2.1, if_pos (by decide), Ls, List.countP_cons, h0 rfl iD]
    rfl
  | succ j =>
    have hF : ∀ q, FQ q = Tl M wt j 0 q false := fun q => hFQ j q rfl
    have hFe : FQ = fun q => Tl M wt j 0 q false := funext hF
    have hc : ∀ b, (Ls (j + 1) j 1 (0 + 2 ^ b) (uq iD 0 b)).countP FQ = Wn (j + 1) M wt j (2 ^ b) 0 b false := by
      intro b
      rw [hFe, Wn_cnt (n := j + 1) (M := M) (wt := wt) j 0 (0 + 2 ^ b) (uq iD 0 b) false, Nat.zero_add]
      rfl
    refine ⟨?_, fun t ht => ?_⟩
    · unfold x_O_total
      rw [h.2.1, if_neg (show ¬ nI (j + 1) = 0 from fun z => by have := (nI_eq (b := 0) (by omega) (by omega)).mp z; omega)]
      have e := x_totL h hV (j + 1) 6000 0 0 (by omega) (by omega)
      refine Eq.trans (show x_O_total_19 6000 0 0 w = _ from e) ?_
      rw [Ls, List.countP_flatMap, Nat.zero_add]
      rw [sum_cg (g := List.countP FQ ∘ fun b => Ls (j + 1) j (0 + 1) (0 + 2 ^ b) (uq iD 0 b))]
      intro b hb1
      exact (hc b).symm
    · have hfind : (Ls (j + 1) (j + 1) 0 0 iD).find? FQ = ((fl 0 (j + 1) 0).find? (fun b => decide (0 < Wn (j + 1) M wt (j + 1 - 1) (2 ^ b) 0 b false))).bind (fun b => (Ls (j + 1) j 1 (0 + 2 ^ b) (uq iD 0 b)).find? FQ) := by
        rw [Ls, List.find?_flatMap]
        refine fS _ (fun b hb1 c => ⟨rfl, ?_⟩) (fun b hb1 c => ?_)
        · rw [decide_eq_true_eq] at c
          rw [find_pos, hc]
          exact c
        · rw [decide_eq_false_iff_not] at c
          rw [← Option.not_isSome_iff_eq_none, find_pos, hc]
          exact c
      have el : x_O_leastNext 0 (-1) 0 w = _ := x_lst0 h hV (c := -1) (pb := 0) (j + 1) 6000 0 (by omega) (by omega)
      unfold x_O_firstUnder
      refine (show x_O_firstUnder_10 (5999 + 1) (nI t) 0 (-1) 0 0 w = _ from ?_)
      rw [x_O_firstUnder_10, if_neg (show ¬ nI t < 0 from nI_pos (by omega)), h.2.1, if_neg (show ¬ nI (j + 1) ≤ 0 from nI_ge (a := 0) (by omega) (by omega)), el, gx_bs, hfind]
      cases hb1 : (fl 0 (j + 1) 0).find? (fun b => decide (0 < Wn (j + 1) M wt (j + 1 - 1) (2 ^ b) 0 b false)) with
      | none =>
        rw [if_neg (show ¬ (0 : Int32) ≤ nr none by decide)]
        rfl
      | some b =>
        obtain ⟨b1, b2, b3⟩ := fl_mem _ _ _ (List.mem_of_find?_eq_some hb1)
        obtain ⟨q1, q2, q3, q4⟩ := ob_emp (j + 1) (by omega) b (by omega)
        have hpos : 0 < Wn (j + 1) M wt (j + 1 - 1) (2 ^ b) 0 b false := by simpa using List.find?_some hb1
        have hs : ((Ls (j + 1) j 1 (0 + 2 ^ b) (uq iD 0 b)).find? FQ).isSome = true := by rw [find_pos, hc]; exact hpos
        obtain ⟨q', hq'⟩ := Option.isSome_iff_exists.mp hs
        rw [Option.bind_some, hq']
        have hun := x_undL h hV ht j 5999 0 (2 ^ b) (uq iD 0 b) q' false (by omega) q3 q2 (Nat.zero_le _) (by rw [show uq iD 0 b 0 = b from rfl]; omega) (by rw [Nat.zero_add] at hq'; rw [← hFe]; exact hq') (by omega)
        rw [if_pos (show (0 : Int32) ≤ nr (some b) from nI_pos' (by omega)), if_pos (show (0 : Int32) ≤ 0 by decide)]
        simp only [x_O_firstUnder_71, gx_bs, nr, ob_shl b (show b < 8 by omega)]
        refine Eq.trans (show x_O_firstUnder_10 5999 (nI t) ((0 : Int32) ||| nI (2 ^ b)) (nI b) 0 (0 + 1) w = x_O_firstUnder_10 5999 (nI t) (nI (2 ^ b)) (nI (uq iD 0 b 0)) (bI false) (nI (0 + 1)) w from by rw [Int32.zero_or]; rfl) (hun.trans ?_)
        unfold fv
        simp only
        rw [if_neg (show ¬ nI t < 0 from nI_pos (by omega)), nI_clamp (by omega)]
theorem P_orders {wx wm : gx_Wd} (v : Int32) (h : Inv wx wm) : Eq2 (x_E_orders v wx) (m_orders v wm) := by
  have h0 := h
  obtain ⟨r, ri, k, f, hI⟩ := h
  have hn := hI.1.2.2.1
  have hs := hI.2.2.2.2.2.1
  obtain ⟨w1, e1, e2, hX⟩ := x_told hI.1.1 hI.1.2.2
  obtain ⟨w2, g1, g2, g3, g4⟩ := x_fill hX
  have hF0 : r 0 0 = 0 → ∀ q, xF r (r 0 1) (r 0 2) q r0 nO (r 5) = true := by
    intro hz q
    unfold xF
    rw [cFirm_iff hn]
    exact ⟨fun p hp => by omega, fun s hs => by omega⟩
  have hFQ : ∀ j q, r 0 0 = j + 1 → xF r (r 0 1) (r 0 2) q r0 nO (r 5) = Tl (Mx r (r 0 1) (r 0 2)) (r 5) j 0 q false := by
    intro j q hj
    have h1 := Tl_iff (n := r 0 0) (M := Mx r (r 0 1) (r 0 2)) (wt := r 5) (B := xB r (r 0 1) (r 0 2) q r0 nO) (G := xG r (r 0 1) (r 0 2) q r0) (q := q) (fun p hp => Mx_ok) j 0 false (by omega) (fun z => by omega)
    have h2 : xF r (r 0 1) (r 0 2) q r0 nO (r 5) = true ↔ Tl (Mx r (r 0 1) (r 0 2)) (r 5) j 0 q false = true := by
      rw [h1]
      unfold xF
      rw [cFirm_iff hn]
      constructor
      · rintro ⟨p1, p2⟩
        exact ⟨fun i _ hi => p1 i hi, fun s _ hs => p2 s hs⟩
      · rintro ⟨p1, p2⟩
        exact ⟨fun i hi => p1 i (Nat.zero_le _) hi, fun s hs => p2 s (Nat.zero_le _) hs⟩
    cases hh : xF r (r 0 1) (r 0 2) q r0 nO (r 5) with
    | true => exact (h2.mp hh).symm
    | false =>
      cases hh2 : Tl (Mx r (r 0 1) (r 0 2)) (r 5) j 0 q false with
      | false => rfl
      | true => rw [h2.mpr hh2] at hh; cases hh
  obtain ⟨o1, o2⟩ := x_ord g3 g4 (fun q => xF r (r 0 1) (r 0 2) q r0 nO (r 5)) hF0 hFQ
  have hInv : ∀ wm', (∀ o k, wm' o k = wm o k) → Inv w2 wm' := fun wm' hm => h0.to (fun o k hk => by rw [g2 o (by unfold xKeep at hk; omega) (by unfold xKeep at hk; omega), e2 o (by unfold xKeep at hk; omega)]) (fun o k _ => hm o k)
  unfold x_E_orders m_orders
  by_cases cv : v = -1
  · subst cv
    rw [if_neg (show ¬ (-1 : Int32) < -1 by decide), hI.1.1.n, if_pos (show (-1 : Int32) < nI (r 0 0) from by
      rw [Int32.lt_iff_toInt_lt, nI_toInt (by omega)]
      have : ((-1 : Int32)).toInt = -1 := by decide
      omega), if_pos rfl]
    obtain ⟨w3, d1, d2⟩ := m_ord hI.mc hs (v := -1) (Or.inl (by decide))
    simp only [e1, g1, gx_bs, if_true, o1, d1]
    rw [if_neg (show ¬ (0 : Int32) ≤ -1 by decide)]
    exact ⟨_, _, _, rfl, rfl, hInv w3 d2⟩
  · rw [if_neg cv]
    rcases isb hn hI.1.1.n hI.1.2.1.n v with ⟨p, hp, rfl, q1, q2⟩ | ⟨q1, q2⟩
    · rw [if_neg (show ¬ nI p < -1 from fun z => nI_pos (show p < 2 ^ 31 by omega) (Int32.lt_trans z (by decide))), hI.1.1.n, if_pos (nI_lt hp (by omega)), q2, gx_bs, if_neg (show ¬ (1 : Int32) = 0 by decide)]
      obtain ⟨w3, d1, d2⟩ := m_ord hI.mc hs (v := nI p) (Or.inr ⟨p, by omega, rfl⟩)
      simp only [e1, g1, gx_bs, if_neg cv, o2 p hp, d1]
      rw [if_pos (show (0 : Int32) ≤ nI p from nI_pos' (by omega))]
      exact ⟨_, _, _, rfl, rfl, hInv w3 d2⟩
    · have hx : (if v < -1 then (x_E_refuse (-1) wx).bind fun r2 => some (r2.1, r2.2) else if v < wx 1 0 then (x_M_asTold wx).bind fun r4 => (x_O_fill r4).bind fun r5 => if v = (-1) then (x_O_total r5).bind fun r8 => some (r8.1, r8.2) else (x_O_firstUnder v r5).bind fun r7 => some (r7.1, r7.2) else (x_E_refuse (-1) wx).bind fun r9 => some (r9.1, r9.2)) = (x_E_refuse (-1) wx).bind fun r2 => some (r2.1, r2.2) := by
        by_cases c1 : v < -1
        · rw [if_pos c1]
        · rw [if_neg c1]
          unfold x_R_hasBearer_1 at q1
          rw [hI.1.1.n] at q1 ⊢
          by_cases c2 : v < 0
          · exfalso
            rw [Int32.lt_iff_toInt_lt] at c1 c2
            have e : ((-1 : Int32)).toInt = -1 := by decide
            have e' : ((0 : Int32)).toInt = 0 := by decide
            exact cv (Int32.toInt_inj.mp (by omega))
          · rw [if_neg c2] at q1
            by_cases c3 : nI (r 0 0) ≤ v
            · rw [if_neg (fun z => by rw [Int32.lt_iff_toInt_lt] at z; rw [Int32.le_iff_toInt_le] at c3; omega)]
            · rw [if_neg c3] at q1
              simp at q1
      rw [q2, gx_bs, if_pos rfl]
      exact refE 1 (by decide) h0 hx rfl
