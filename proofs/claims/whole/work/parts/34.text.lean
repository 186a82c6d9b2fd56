/-! ===== the text: what a statement is, and the class's reading ===== -/
abbrev Lt : Type := Nat → Int32
def isD (c : Int32) : Bool := decide (48 ≤ c) && decide (c ≤ 57)
def dv (c : Int32) : Nat := c.toNatClampNeg - 48
theorem isD_nat {c : Int32} (h : isD c = true) : ∃ d, d ≤ 9 ∧ c = nI (48 + d) ∧ dv c = d := by
  unfold isD at h
  rw [Bool.and_eq_true, decide_eq_true_eq, decide_eq_true_eq] at h
  obtain ⟨j, hj, rfl⟩ := le_nat (n := 57) (a := c) (by decide) (Int32.le_trans (show (0 : Int32) ≤ 48 by decide) h.1) h.2
  have h1 : 48 ≤ j := (nI_leI (a := 48) (b := j) (by omega) (by omega)).mp h.1
  refine ⟨j - 48, by omega, by rw [show 48 + (j - 48) = j by omega], ?_⟩
  unfold dv
  rw [nI_clamp (by omega)]
def nm1 (L : Lt) (p : Nat) : Option (Nat × Nat) := if isD (L p) = true then some (p + 1, dv (L p)) else none
def nm2 (L : Lt) (p : Nat) : Option (Nat × Nat) := if isD (L p) = true then (if isD (L (p + 1)) = true then some (p + 2, 10 * dv (L p) + dv (L (p + 1))) else some (p + 1, dv (L p))) else none
def kdL (c : Int32) : List Int32 → Nat → Option Nat
  | [], _ => none
  | a :: t, i => if a = c then some i else kdL c t (i + 1)
def kd (c : Int32) : Option Nat := kdL c [98, 99, 116, 115, 108, 104] 0
def one (L : Lt) (c : Int32) (p : Nat) : Option (Nat × List Nat) := if c = 68 then (nm1 L p).map (fun z => (z.1, [z.2])) else if c = 75 then (kd (L p)).map (fun k => (p + 1, [k])) else if c = 78 then (nm2 L p).map (fun z => (z.1, [z.2])) else if L p = c then some (p + 1, []) else none
def run (L : Lt) : List Int32 → Nat → List Nat → Bool × Nat × List Nat
  | [], p, acc => (true, p, acc)
  | c :: t, p, acc => match one L c p with
    | none => (false, p, acc)
    | some z => run L t z.1 (acc ++ z.2)
def form (c : Int32) : List Int32 := if c = 98 then [75, 78, 44, 68, 59] else if c = 103 then [78, 44, 68, 59] else if c = 107 then [68, 44, 68, 59] else if c = 108 then [78, 59] else if c = 115 then [68, 44, 78, 59] else []
def ps (L : Lt) (p : Nat) : Bool × Nat × List Nat := if (form (L p)).isEmpty = true then (false, p, []) else run L (form (L p)) (p + 1) []
/-- the letters told, and behind them nothing -/
def ltr (t : Lt) (f : Nat) : Lt := fun p => if p < f then t p else -1
theorem ltr_lt {t : Lt} {f p : Nat} (h : ltr t f p ≠ -1) : p < f := by
  unfold ltr at h
  by_cases c : p < f
  · exact c
  · rw [if_neg c] at h; exact absurd rfl h
theorem isD_lt {t : Lt} {f p : Nat} (h : isD (ltr t f p) = true) : p < f := ltr_lt (fun z => by rw [z] at h; exact absurd h (by decide))
theorem one_le {t : Lt} {f p : Nat} {c : Int32} (hc : c ≠ -1) {z : Nat × List Nat} (h : one (ltr t f) c p = some z) : p < z.1 ∧ z.1 ≤ f := by
  unfold one at h
  split at h
  · unfold nm1 at h
    split at h
    · rename_i h1
      have := isD_lt h1
      cases h
      exact ⟨Nat.lt_succ_self _, this⟩
    · cases h
  · split at h
    · rw [Option.map_eq_some_iff] at h
      obtain ⟨k, hk, rfl⟩ := h
      exact ⟨Nat.lt_succ_self _, ltr_lt (t := t) (fun z => by rw [z, show kd (-1) = none by decide] at hk; cases hk)⟩
    · split at h
      · unfold nm2 at h
        split at h
        · rename_i h1
          have := isD_lt h1
          split at h
          · rename_i h2
            have := isD_lt h2
            cases h
            exact ⟨by simp, this⟩
          · cases h
            exact ⟨Nat.lt_succ_self _, this⟩
        · cases h
      · split at h
        · rename_i h1
          cases h
          exact ⟨Nat.lt_succ_self _, ltr_lt (t := t) (by rw [h1]; exact hc)⟩
        · cases h
theorem run_le {t : Lt} {f : Nat} : ∀ (xs : List Int32) (p : Nat) (acc : List Nat), (∀ c ∈ xs, c ≠ -1) → p ≤ f → p ≤ (run (ltr t f) xs p acc).2.1 ∧ (run (ltr t f) xs p acc).2.1 ≤ f := by
  intro xs
  induction xs with
  | nil => intro p acc _ hp; exact ⟨Nat.le_refl _, hp⟩
  | cons c xs ih =>
    intro p acc hx hp
    rw [run]
    cases h : one (ltr t f) c p with
    | none => exact ⟨Nat.le_refl _, hp⟩
    | some z =>
      obtain ⟨h1, h2⟩ := one_le (hx c (List.mem_cons_self ..)) h
      obtain ⟨h3, h4⟩ := ih z.1 (acc ++ z.2) (fun c hc => hx c (List.mem_cons_of_mem _ hc)) h2
      exact ⟨by simp only; omega, h4⟩
theorem run_acc {L : Lt} : ∀ (xs : List Int32) (p : Nat) (acc : List Nat), run L xs p acc = ((run L xs p []).1, (run L xs p []).2.1, acc ++ (run L xs p []).2.2) := by
  intro xs
  induction xs with
  | nil => intro p acc; simp [run]
  | cons c xs ih =>
    intro p acc
    rw [run, run]
    cases h : one L c p with
    | none => simp
    | some z =>
      simp only
      rw [ih z.1 (acc ++ z.2), ih z.1 ([] ++ z.2)]
      simp
theorem run_app {L : Lt} : ∀ (xs ys : List Int32) (p : Nat) (acc : List Nat), run L (xs ++ ys) p acc = if (run L xs p acc).1 = true then run L ys (run L xs p acc).2.1 (run L xs p acc).2.2 else run L xs p acc := by
  intro xs
  induction xs with
  | nil => intro ys p acc; simp [run]
  | cons c xs ih =>
    intro ys p acc
    rw [List.cons_append, run, run]
    cases h : one L c p with
    | none => simp
    | some z => simp only; exact ih _ _ _
theorem form_ne {c a : Int32} (h : a ∈ form c) : a ≠ -1 := by
  have h2 : ∀ l : List Int32, (l.all (fun a => decide (a ≠ -1))) = true → ∀ a ∈ l, a ≠ -1 := fun l hl a ha => by simpa using List.all_eq_true.mp hl a ha
  refine h2 (form c) ?_ a h
  unfold form
  repeat' split
  all_goals decide
theorem ps_le {t : Lt} {f p : Nat} (hp : p ≤ f) : p ≤ (ps (ltr t f) p).2.1 ∧ (ps (ltr t f) p).2.1 ≤ f ∧ ((ps (ltr t f) p).1 = true → p < (ps (ltr t f) p).2.1) := by
  unfold ps
  by_cases c : (form (ltr t f p)).isEmpty = true
  · rw [if_pos c]
    exact ⟨Nat.le_refl _, hp, fun z => by cases z⟩
  · rw [if_neg c]
    have hlt : p < f := ltr_lt (t := t) (fun z => c (by rw [z]; decide))
    obtain ⟨h1, h2⟩ := run_le (t := t) (f := f) (form (ltr t f p)) (p + 1) [] (fun c hc => form_ne hc) hlt
    exact ⟨by omega, h2, fun _ => by omega⟩
/-! the class's texts -/
def TXT (q : Nat) (cs : List Int32) : Prop := (∀ w, x_S_length q w = some (nI cs.length, w)) ∧ (∀ i c, cs[i]? = some c → ∀ w, x_S_charAt q (nI i) w = some (c, w)) ∧ (∀ w, x_S_isEmpty q w = some (bI cs.isEmpty, w)) ∧ cs.length ≤ 6
theorem tx_len : ∀ i, i < 7 → gx_txl.getD i 0 = (gx_txb.getD i []).length ∧ (gx_txb.getD i []).length ≤ 6 := by decide
theorem TXT_of {i : Nat} (hi : i < 7) : TXT (1000 + i) (gx_txb.getD i []) := by
  obtain ⟨e1, e2⟩ := tx_len i hi
  refine ⟨fun w => ?_, fun k c hk w => ?_, fun w => ?_, e2⟩
  · unfold x_S_length
    rw [if_pos (by omega), show 1000 + i - 1000 = i by omega, e1]
    rfl
  · have hk2 := (List.getElem?_eq_some_iff.mp hk).1
    unfold x_S_charAt
    rw [if_pos ⟨by omega, by omega, nI_pos (by omega), by rw [nI_clamp (by omega), show 1000 + i - 1000 = i by omega, e1]; exact hk2⟩, nI_clamp (by omega), show 1000 + i - 1000 = i by omega]
    rw [List.getD_eq_getElem?_getD, hk]
    rfl
  · unfold x_S_isEmpty
    rw [if_pos (by omega), show 1000 + i - 1000 = i by omega, e1]
    cases gx_txb.getD i [] with
    | nil => rfl
    | cons a l => rfl
theorem x_form (c : Int32) (w : gx_Wd) : ∃ q, x_T_formOf c w = some (q, w) ∧ TXT q (form c) := by
  unfold x_T_formOf form
  by_cases c1 : c = 98
  · rw [if_pos c1, if_pos c1]; exact ⟨1000, rfl, TXT_of (i := 0) (by decide)⟩
  rw [if_neg c1, if_neg c1]
  by_cases c2 : c = 103
  · rw [if_pos c2, if_pos c2]; exact ⟨1002, rfl, TXT_of (i := 2) (by decide)⟩
  rw [if_neg c2, if_neg c2]
  by_cases c3 : c = 107
  · rw [if_pos c3, if_pos c3]; exact ⟨1004, rfl, TXT_of (i := 4) (by decide)⟩
  rw [if_neg c3, if_neg c3]
  by_cases c4 : c = 108
  · rw [if_pos c4, if_pos c4]; exact ⟨1003, rfl, TXT_of (i := 3) (by decide)⟩
  rw [if_neg c4, if_neg c4]
  by_cases c5 : c = 115
  · rw [if_pos c5, if_pos c5]; exact ⟨1001, rfl, TXT_of (i := 1) (by decide)⟩
  rw [if_neg c5, if_neg c5]
  exact ⟨1005, rfl, TXT_of (i := 5) (by decide)⟩
/-- the reader: so many letters, at a place -/
def XT (w : gx_Wd) (t : Lt) (f p : Nat) : Prop := w 29 1 = nI f ∧ w 29 2 = nI p ∧ (∀ i, i < 96 → w 30 i = t i) ∧ p ≤ f ∧ f ≤ 96
def NT (w : gx_Wd) (acc : List Nat) : Prop := w 29 5 = nI acc.length ∧ ∀ i v, acc[i]? = some v → w 31 i = nI v
def Un (w w' : gx_Wd) : Prop := ∀ o k, o ≠ 31 → ¬ (o = 29 ∧ (k = 2 ∨ k = 5)) → w' o k = w o k
theorem Un.tr {w w1 w2 : gx_Wd} (h1 : Un w w1) (h2 : Un w1 w2) : Un w w2 := fun o k a b => by rw [h2 o k a b, h1 o k a b]
section
variable {w : gx_Wd} {t : Lt} {f p : Nat}
theorem XT.mv {w' : gx_Wd} (h : XT w t f p) (hu : Un w w') {p' : Nat} (h2 : w' 29 2 = nI p') (hp : p' ≤ f) : XT w' t f p' := ⟨by rw [hu 29 1 (by decide) (by decide)]; exact h.1, h2, fun i hi => by rw [hu 30 i (by decide) (by omega)]; exact h.2.2.1 i hi, hp, h.2.2.2.2⟩
theorem x_here (h : XT w t f p) : x_T_here w = some (ltr t f p, w) := by
  obtain ⟨h1, h2, h3, h4, h5⟩ := h
  unfold x_T_here ltr
  rw [h1, h2]
  by_cases c : p < f
  · rw [if_neg (nI_ge c (by omega)), if_pos c, px_cell (N := 96) rfl (by omega) (by decide), h3 p (by omega)]
    rfl
  · rw [if_pos (nI_le (by omega) (by omega)), if_neg c]
theorem x_adv (h : XT w t f p) (hp : p < f) : gx_put w 29 2 (w 29 2 + 1) = some (gx_w w 29 2 (nI (p + 1))) ∧ XT (gx_w w 29 2 (nI (p + 1))) t f (p + 1) ∧ Un w (gx_w w 29 2 (nI (p + 1))) := by
  have hu : Un w (gx_w w 29 2 (nI (p + 1))) := fun o k a b => px_wk (by omega)
  refine ⟨?_, h.mv hu px_ws hp, hu⟩
  unfold gx_put
  rw [h.2.1, nI_1]
theorem NT.mv {w' : gx_Wd} {acc : List Nat} (h : NT w acc) (h5 : w' 29 5 = w 29 5) (h31 : w' 31 = w 31) : NT w' acc := ⟨by rw [h5]; exact h.1, fun i v hi => by rw [h31]; exact h.2 i v hi⟩
theorem x_keep (h : XT w t f p) {acc : List Nat} (hN : NT w acc) (hl : acc.length < 3) (v : Nat) : ∃ w', x_T_keepNumber (nI v) w = some w' ∧ XT w' t f p ∧ NT w' (acc ++ [v]) ∧ Un w w' := by
  have hu : Un w (gx_w (gx_w w 31 acc.length (nI v)) 29 5 (nI (acc.length + 1))) := fun o k a b => by rw [px_wk (by omega), px_wk (by omega)]
  refine ⟨gx_w (gx_w w 31 acc.length (nI v)) 29 5 (nI (acc.length + 1)), ?_, h.mv hu (by rw [px_wk (by omega), px_wk (by omega)]; exact h.2.1) h.2.2.2.1, ⟨by rw [px_ws, List.length_append]; rfl, fun i u hi => ?_⟩, hu⟩
  · unfold x_T_keepNumber
    simp only [hN.1, px_set (N := 3) (o := 31) rfl hl (by decide), gx_bs, gx_put]
    rw [px_wo (show 29 ≠ 31 by decide), hN.1, nI_1]
  · rw [px_wo (by decide), px_w]
    by_cases c : i < acc.length
    · rw [List.getElem?_append_left c] at hi
      rw [if_pos rfl, if_neg (by omega)]
      exact hN.2 i u hi
    · rw [List.getElem?_append_right (by omega)] at hi
      cases hj : i - acc.length with
      | zero =>
        rw [hj] at hi
        simp at hi
        rw [if_pos rfl, if_pos (by omega), hi]
      | succ n => rw [hj] at hi; simp at hi
theorem x_56 (h : XT w t f p) {acc : List Nat} (hN : NT w acc) (hl : acc.length < 3) (v k : Nat) (hk : k ≤ 2) : ∃ w', x_T_readNumber_56 (nI v) (nI k) w = some (bI (decide (0 < k)), w') ∧ XT w' t f p ∧ NT w' (acc ++ [v]) ∧ Un w w' := by
  obtain ⟨w', e1, e2, e3, e4⟩ := x_keep h hN hl v
  refine ⟨w', ?_, e2, e3, e4⟩
  unfold x_T_readNumber_56
  rw [e1, gx_bs]
  by_cases c : 0 < k
  · rw [if_neg (show ¬ nI k ≤ 0 from nI_ge (a := 0) c (by omega)), decide_eq_true c]; rfl
  · rw [show k = 0 by omega, if_pos (by decide)]; rfl
theorem x_rnD (h : XT w t f p) {fu n v k : Nat} (hk : k < n) (hn : n ≤ 2) (hd : isD (ltr t f p) = true) : x_T_readNumber_4 (fu + 1) (nI n) (nI v) (nI k) w = x_T_readNumber_4 fu (nI n) (nI (10 * v + dv (ltr t f p))) (nI (k + 1)) (gx_w w 29 2 (nI (p + 1))) := by
  have hp := isD_lt hd
  obtain ⟨d, hd1, hd2, hd3⟩ := isD_nat hd
  obtain ⟨e1, e2, e3⟩ := x_adv h hp
  rw [x_T_readNumber_4, if_neg (nI_ge hk (by omega)), hd3]
  simp only [x_here h, gx_bs]
  rw [if_neg (show ¬ ltr t f p < 48 from by rw [hd2]; exact nI_nlt (a := 48 + d) (b := 48) (by omega) (by omega)), if_neg (show ¬ 57 < ltr t f p from by rw [hd2]; exact nI_nlt (a := 57) (b := 48 + d) (by omega) (by omega))]
  simp only [e1, gx_bs]
  rw [hd2, nI_1]
  rw [show (10 : Int32) * nI v + nI (48 + d) - 48 = nI (10 * v + d) from by rw [show (10 : Int32) = nI 10 from rfl, pk_mul, nI_add, show (48 : Int32) = nI 48 from rfl, pk_sub (by omega), show 10 * v + (48 + d) - 48 = 10 * v + d by omega]]
theorem x_rnN (h : XT w t f p) {fu n k : Nat} {v : Int32} (hk : n ≤ k ∧ k ≤ 2 ∨ k < n ∧ n ≤ 2 ∧ ¬ isD (ltr t f p) = true) : x_T_readNumber_4 (fu + 1) (nI n) v (nI k) w = x_T_readNumber_56 v (nI k) w := by
  rw [x_T_readNumber_4]
  rcases hk with ⟨h1, h2⟩ | ⟨h1, h2, h3⟩
  · rw [if_pos (nI_le h1 (by omega))]
  · rw [if_neg (nI_ge h1 (by omega))]
    simp only [x_here h, gx_bs]
    by_cases c1 : ltr t f p < 48
    · rw [if_pos c1]
    · rw [if_neg c1]
      by_cases c2 : 57 < ltr t f p
      · rw [if_pos c2]
      · exfalso
        refine h3 ?_
        unfold isD
        rw [Bool.and_eq_true, decide_eq_true_eq, decide_eq_true_eq]
        exact ⟨Int32.not_lt.mp c1, Int32.not_lt.mp c2⟩
theorem x_num1 (h : XT w t f p) {acc : List Nat} (hN : NT w acc) (hl : acc.length < 3) : ∃ w', x_T_readNumber 1 w = some (bI (nm1 (ltr t f) p).isSome, w') ∧ Un w w' ∧ XT w' t f (match nm1 (ltr t f) p with | some z => z.1 | none => p) ∧ ∀ z, nm1 (ltr t f) p = some z → NT w' (acc ++ [z.2]) := by
  unfold nm1
  by_cases c : isD (ltr t f p) = true
  · obtain ⟨e1, e2, e3⟩ := x_adv h (isD_lt c)
    have hN2 : NT (gx_w w 29 2 (nI (p + 1))) acc := hN.mv (px_wk (by decide)) (px_wo (by decide))
    obtain ⟨w', g1, g2, g3, g4⟩ := x_56 e2 hN2 hl (10 * 0 + dv (ltr t f p)) 1 (by omega)
    refine ⟨w', ?_, e3.tr g4, by rw [if_pos c]; exact g2, fun z hz => ?_⟩
    · rw [if_pos c]
      refine Eq.trans (show x_T_readNumber_4 (5998 + 1 + 1) (nI 1) (nI 0) (nI 0) w = _ from x_rnD h (by omega) (by omega) c) ?_
      refine Eq.trans (x_rnN e2 (Or.inl ⟨by omega, by omega⟩)) ?_
      exact g1
    · rw [if_pos c] at hz
      cases hz
      simpa using g3
  · obtain ⟨w', g1, g2, g3, g4⟩ := x_56 h hN hl 0 0 (by omega)
    refine ⟨w', ?_, g4, by rw [if_neg c]; exact g2, fun z hz => by rw [if_neg c] at hz; cases hz⟩
    rw [if_neg c]
    refine Eq.trans (show x_T_readNumber_4 (5999 + 1) (nI 1) (nI 0) (nI 0) w = _ from x_rnN h (Or.inr ⟨by omega, by omega, c⟩)) ?_
    exact g1
theorem x_num2 (h : XT w t f p) {acc : List Nat} (hN : NT w acc) (hl : acc.length < 3) : ∃ w', x_T_readNumber 2 w = some (bI (nm2 (ltr t f) p).isSome, w') ∧ Un w w' ∧ XT w' t f (match nm2 (ltr t f) p with | some z => z.1 | none => p) ∧ ∀ z, nm2 (ltr t f) p = some z → NT w' (acc ++ [z.2]) := by
  unfold nm2
  by_cases c : isD (ltr t f p) = true
  · obtain ⟨e1, e2, e3⟩ := x_adv h (isD_lt c)
    have hN2 : NT (gx_w w 29 2 (nI (p + 1))) acc := hN.mv (px_wk (by decide)) (px_wo (by decide))
    simp only [if_pos c]
    by_cases c2 : isD (ltr t f (p + 1)) = true
    · simp only [if_pos c2]
      obtain ⟨d1, d2, d3⟩ := x_adv e2 (isD_lt c2)
      have hN3 : NT (gx_w (gx_w w 29 2 (nI (p + 1))) 29 2 (nI (p + 1 + 1))) acc := hN2.mv (px_wk (by decide)) (px_wo (by decide))
      obtain ⟨w', g1, g2, g3, g4⟩ := x_56 d2 hN3 hl (10 * (10 * 0 + dv (ltr t f p)) + dv (ltr t f (p + 1))) 2 (by omega)
      refine ⟨w', ?_, (e3.tr d3).tr g4, g2, fun z hz => ?_⟩
      · refine Eq.trans (show x_T_readNumber_4 (5997 + 1 + 1 + 1) (nI 2) (nI 0) (nI 0) w = _ from x_rnD h (by omega) (by omega) c) ?_
        refine Eq.trans (x_rnD e2 (by omega) (by omega) c2) ?_
        refine Eq.trans (x_rnN d2 (Or.inl ⟨by omega, by omega⟩)) ?_
        exact g1
      · cases hz
        simpa using g3
    · simp only [if_neg c2]
      obtain ⟨w', g1, g2, g3, g4⟩ := x_56 e2 hN2 hl (10 * 0 + dv (ltr t f p)) 1 (by omega)
      refine ⟨w', ?_, e3.tr g4, g2, fun z hz => ?_⟩
      · refine Eq.trans (show x_T_readNumber_4 (5998 + 1 + 1) (nI 2) (nI 0) (nI 0) w = _ from x_rnD h (by omega) (by omega) c) ?_
        refine Eq.trans (x_rnN e2 (Or.inr ⟨by omega, by omega, c2⟩)) ?_
        exact g1
      · cases hz
        simpa using g3
  · simp only [if_neg c]
    obtain ⟨w', g1, g2, g3, g4⟩ := x_56 h hN hl 0 0 (by omega)
    refine ⟨w', ?_, g4, g2, fun z hz => by cases hz⟩
    refine Eq.trans (show x_T_readNumber_4 (5999 + 1) (nI 2) (nI 0) (nI 0) w = _ from x_rnN h (Or.inr ⟨by omega, by omega, c⟩)) ?_
    exact g1
theorem x_kdL {c : Int32} {cs : List Int32} (hT : TXT 1006 cs) : ∀ (rest : List Int32) (fu i : Nat), cs.drop i = rest → i + rest.length = cs.length → rest.length < fu → x_T_readKind_7 fu c (nI i) w = match kdL c rest i with | none => some (0, w) | some k => x_T_readKind_26 (nI k) w := by
  obtain ⟨h1, h2, h3, h4⟩ := hT
  intro rest
  induction rest with
  | nil =>
    intro fu i hd hi hf
    obtain ⟨fu, rfl⟩ : ∃ g, fu = g + 1 := ⟨fu - 1, by omega⟩
    rw [List.length_nil] at hi
    rw [x_T_readKind_7, h1, gx_bs, if_pos (nI_le (by omega) (by omega))]
    rfl
  | cons a rest ih =>
    intro fu i hd hi hf
    obtain ⟨fu, rfl⟩ : ∃ g, fu = g + 1 := ⟨fu - 1, by omega⟩
    have ha : cs[i]? = some a := by
      have := congrArg (fun l => l[0]?) hd
      simpa using this
    have hl := (List.getElem?_eq_some_iff.mp ha).1
    have hd2 : cs.drop (i + 1) = rest := by
      rw [← List.drop_drop, hd]
      rfl
    rw [x_T_readKind_7, h1, gx_bs, if_neg (nI_ge hl (by omega)), h2 i a ha, gx_bs, kdL]
    by_cases c1 : a = c
    · rw [if_pos c1, if_pos c1]
    · rw [if_neg c1, if_neg c1, gx_bs, nI_1]
      exact ih fu (i + 1) hd2 (by simp at hi; omega) (by simp at hf; omega)
end
