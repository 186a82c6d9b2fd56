/-! ===== the ways: the class's search ===== -/
def okS (r : Rf) (s : Nat) : Bool := decide (s < 448) && decide (s / 28 ≤ lA (r 0 0)) && xF r (s / 28) (s % 28) iD r0 nO (r 5)
def nb1 (r : Rf) (s : Nat) : List Nat := if 1 ≤ s / 28 then [s - 28] else []
def nb2 (r : Rf) (s : Nat) : List Nat := if s / 28 + 1 ≤ lA (r 0 0) then [s + 28] else []
def nb3 (s : Nat) : List Nat := if 1 ≤ s % 28 then [s - 1] else []
def nb4 (s : Nat) : List Nat := if s % 28 + 1 < 28 then [s + 1] else []
def nbx (r : Rf) (s : Nat) : List Nat := nb1 r s ++ (nb2 r s ++ (nb3 s ++ nb4 s))
def nbm (r : Rf) (s : Nat) : List Nat := nb2 r s ++ (nb1 r s ++ (nb4 s ++ nb3 s))
def adS (r : Rf) (u v : Nat) : Prop := v ∈ nbx r u
theorem nbm_ad {r : Rf} {u v : Nat} : v ∈ nbm r u ↔ adS r u v := by
  unfold adS nbm nbx
  simp only [List.mem_append]
  constructor <;> (intro h; rcases h with h | h | h | h <;> simp [h])
def dI (z : Int32) (o : Option Nat) : Int32 := match o with
  | some d => nI d
  | none => z
theorem lA_le {n : Nat} : lA n ≤ 15 ∧ lA n + n ≤ 16 ∨ 16 < n ∧ lA n ≤ 15 := by
  unfold lA
  split <;> omega
/-- the rows of the search, in the class -/
def XS (r : Rf) (w0 w : gx_Wd) (S : BS) : Prop := (∃ a l, XC w r a l iD r0 nO (r 5)) ∧ (∀ s, s < 448 → w 33 s = dI (-9) (S.1 s)) ∧ (∀ i u : Nat, S.2[i]? = some u → w 34 i = nI u) ∧ w 32 3 = nI S.2.length ∧ S.2.Nodup ∧ (∀ u ∈ S.2, u < 448 ∧ (S.1 u).isSome = true) ∧ (∀ u e, S.1 u = some e → e ≤ 500) ∧ ∀ o, (o < 22 ∨ 29 ≤ o ∧ o ≤ 31 ∨ 35 ≤ o) → w o = w0 o
theorem XS.len {r : Rf} {w0 w : gx_Wd} {S : BS} (h : XS r w0 w S) : S.2.length ≤ 448 := nodup_le 448 S.2 h.2.2.2.2.1 (fun x hx => (h.2.2.2.2.2.1 x hx).1)
theorem XS.len1 {r : Rf} {w0 w : gx_Wd} {S : BS} (h : XS r w0 w S) {s : Nat} (hs : s < 448) (hn : S.1 s = none) : S.2.length < 448 := by
  have h1 := nodup_le 448 (S.2 ++ [s]) (by
    rw [List.nodup_append]
    refine ⟨h.2.2.2.2.1, by simp, fun a ha b hb => ?_⟩
    simp only [List.mem_singleton] at hb
    rw [hb]
    intro z
    have := (h.2.2.2.2.2.1 a ha).2
    rw [z, hn] at this
    simp at this) (fun x hx => by
    rcases List.mem_append.mp hx with hx | hx
    · exact (h.2.2.2.2.2.1 x hx).1
    · simp only [List.mem_singleton] at hx; omega)
  simp at h1
  omega
section
variable {r : Rf} {w0 : gx_Wd}
theorem XS.mind {w w' : gx_Wd} {S : BS} (h : XS r w0 w S) (hx : ∃ a l, XC w' r a l iD r0 nO (r 5)) (ho : ∀ o, o < 22 ∨ 29 ≤ o → w' o = w o) : XS r w0 w' S := by
  obtain ⟨h1, h2, h3, h4, h5, h6, h7, h8⟩ := h
  exact ⟨hx, fun s hs => by rw [ho 33 (by decide)]; exact h2 s hs, fun i u hi => by rw [ho 34 (by decide)]; exact h3 i u hi, by rw [ho 32 (by decide)]; exact h4, h5, h6, h7, fun o h => by rw [ho o (by omega)]; exact h8 o h⟩
theorem x_vis {w : gx_Wd} {S : BS} (h : XS r w0 w S) {a l d : Nat} (ha : a ≤ lA (r 0 0)) (hl : l < 28) (hd : d ≤ 500) : ∃ w', x_W_visit (nI a) (nI l) (nI d) w = some w' ∧ XS r w0 w' (bvis (okS r) d S (28 * a + l)) := by
  obtain ⟨a0, l0, hX⟩ := h.1
  have hn := hX.rok
  have hla := @lA_le (r 0 0)
  have hs : 28 * a + l < 448 := by omega
  have ok : okS r (28 * a + l) = xF r a l iD r0 nO (r 5) := by
    unfold okS
    rw [show (28 * a + l) / 28 = a by omega, show (28 * a + l) % 28 = l by omega]
    simp [hs, ha]
  have h33 := h.2.1 (28 * a + l) hs
  unfold x_W_visit
  rw [if_neg (nI_pos (by omega)), x_lastAt hn hX.n, gx_bs]
  simp only
  rw [if_neg (nI_nlt ha (by omega)), if_neg (nI_pos (by omega)), if_pos (show nI l < 28 from nI_lt (b := 28) hl (by omega))]
  rw [show nI a * 28 = nI (28 * a) by rw [show (28 : Int32) = nI 28 from rfl, pk_mul, Nat.mul_comm], nI_add]
  simp only [gx_bs, px_cell (N := 448) (o := 33) rfl hs (by decide), h33]
  cases hc : S.1 (28 * a + l) with
  | some e =>
    have he := h.2.2.2.2.2.2.1 _ _ hc
    rw [if_neg (show ¬ dI (-9) (some e) < 0 from nI_pos (by omega))]
    refine ⟨w, rfl, ?_⟩
    have : bvis (okS r) d S (28 * a + l) = S := by unfold bvis; rw [if_neg (by simp [hc])]
    rw [this]; exact h
  | none =>
    rw [if_pos (show dI (-9) none < 0 by decide)]
    obtain ⟨w1, e1, e2, hX1⟩ := ((hX.plc (a' := a) (by omega)).lev (l' := l) (by omega)).f
    have o1 : ∀ o, o < 22 ∨ 29 ≤ o → w1 o = w o := fun o ho => by rw [e2 o (by omega) (by omega) (by omega), px_wo (by omega), px_wo (by omega)]
    have hS1 := h.mind ⟨_, _, hX1⟩ o1
    simp only [gx_put, gx_bs, e1, bI_ite]
    by_cases c : xF r a l iD r0 nO (r 5) = true
    · rw [if_pos c]
      have ht := h.len1 hs hc
      have hb : bvis (okS r) d S (28 * a + l) = (fun u => if u = 28 * a + l then some d else S.1 u, S.2 ++ [28 * a + l]) := by unfold bvis; rw [if_pos ⟨by simp [hc], by rw [ok]; exact c⟩]
      rw [hb]
      obtain ⟨g1, g2, g3, g4, g5, g6, g7, g8⟩ := hS1
      simp only [g4, px_set (N := 448) (o := 34) rfl ht (by decide), gx_bs, px_set (N := 448) (o := 33) rfl hs (by decide)]
      rw [if_neg (by decide)]
      refine ⟨_, rfl, ⟨_, _, hX1.to (fun o p1 p2 => by rw [px_wo (by omega), px_wo (by omega), px_wo (by omega)])⟩, fun s hs2 => ?_, fun i u hi => ?_, ?_, ?_, fun u hu => ?_, fun u e hu => ?_, fun o ho => by rw [px_wo (by omega), px_wo (by omega), px_wo (by omega)]; exact g8 o ho⟩
      · rw [px_wo (by decide), px_w]
        by_cases c2 : s = 28 * a + l
        · simp [c2, dI]
        · simp only [if_true, if_neg c2]
          rw [px_wo (by decide)]
          exact g2 s hs2
      · rw [px_wo (by decide), px_wo (by decide), px_w]
        simp only [if_true]
        by_cases c2 : i < S.2.length
        · rw [if_neg (by omega)]
          simp only at hi
          rw [List.getElem?_append_left c2] at hi
          exact g3 i u hi
        · simp only at hi
          rw [List.getElem?_append_right (by omega)] at hi
          cases hj : i - S.2.length with
          | zero =>
            rw [hj] at hi
            simp at hi
            rw [if_pos (by omega), hi]
          | succ n => rw [hj] at hi; simp at hi
      · have q : (gx_w (gx_w w1 34 S.2.length (nI (28 * a + l))) 33 (28 * a + l) (nI d)) 32 3 = nI S.2.length := by rw [px_wo (by decide), px_wo (by decide)]; exact g4
        rw [px_ws, q]
        simp only [List.length_append, List.length_singleton]
        exact nI_1 _
      · rw [List.nodup_append]
        refine ⟨g5, by simp, fun a2 ha2 b hb2 => ?_⟩
        simp only [List.mem_singleton] at hb2
        rw [hb2]
        intro z
        have := (g6 a2 ha2).2
        rw [z, hc] at this
        simp at this
      · simp only [List.mem_append, List.mem_singleton] at hu
        rcases hu with hu | hu
        · obtain ⟨q1, q2⟩ := g6 u hu
          refine ⟨q1, ?_⟩
          simp only
          by_cases c2 : u = 28 * a + l
          · rw [if_pos c2]; rfl
          · rw [if_neg c2]; exact q2
        · rw [hu]; simp [hs]
      · simp only at hu
        by_cases c2 : u = 28 * a + l
        · rw [if_pos c2] at hu; cases hu; exact hd
        · rw [if_neg c2] at hu; exact g7 u e hu
    · rw [if_neg c]
      refine ⟨w1, rfl, ?_⟩
      have : bvis (okS r) d S (28 * a + l) = S := by unfold bvis; rw [if_neg (fun z => c (by rw [← ok]; exact z.2))]
      rw [this]; exact hS1
/-- beyond the ground, or beyond the levels: nothing -/
theorem x_visN {w : gx_Wd} {a l m : Int32} (ha : a < 0) : x_W_visit a l m w = some w := by
  unfold x_W_visit
  rw [if_pos ha]
theorem x_visH {w : gx_Wd} {S : BS} (h : XS r w0 w S) {a : Nat} {l m : Int32} (ha : lA (r 0 0) < a) (ha2 : a < 1000) : x_W_visit (nI a) l m w = some w := by
  obtain ⟨a0, l0, hX⟩ := h.1
  unfold x_W_visit
  rw [if_neg (nI_pos (by omega)), x_lastAt hX.rok hX.n, gx_bs]
  simp only
  rw [if_pos (nI_lt ha (by omega))]
theorem x_visL {w : gx_Wd} {S : BS} (h : XS r w0 w S) {a : Nat} {l m : Int32} (ha : a ≤ lA (r 0 0)) (hl : l < 0 ∨ l = 28) : x_W_visit (nI a) l m w = some w := by
  obtain ⟨a0, l0, hX⟩ := h.1
  have hla := @lA_le (r 0 0)
  unfold x_W_visit
  rw [if_neg (nI_pos (by omega)), x_lastAt hX.rok hX.n, gx_bs]
  simp only
  rw [if_neg (nI_nlt ha (by omega))]
  rcases hl with hl | hl
  · rw [if_pos hl]
  · subst hl
    rw [if_neg (by decide), if_neg (by decide)]
theorem x_pop {w : gx_Wd} {S : BS} (h : XS r w0 w S) {u d : Nat} (hu : u < 448) (hl : u / 28 ≤ lA (r 0 0)) (hd : d ≤ 500) : ∃ w1 w2 w3 w4, x_W_visit (nI (u / 28) - 1) (nI (u % 28)) (nI d) w = some w1 ∧ x_W_visit (nI (u / 28) + 1) (nI (u % 28)) (nI d) w1 = some w2 ∧ x_W_visit (nI (u / 28)) (nI (u % 28) - 1) (nI d) w2 = some w3 ∧ x_W_visit (nI (u / 28)) (nI (u % 28) + 1) (nI d) w3 = some w4 ∧ XS r w0 w4 ((nbx r u).foldl (bvis (okS r) d) S) := by
  have hm : u % 28 < 28 := Nat.mod_lt _ (by decide)
  have hdm := Nat.div_add_mod u 28
  obtain ⟨w1, e1, h1⟩ : ∃ w1, x_W_visit (nI (u / 28) - 1) (nI (u % 28)) (nI d) w = some w1 ∧ XS r w0 w1 ((nb1 r u).foldl (bvis (okS r) d) S) := by
    unfold nb1
    by_cases c : 1 ≤ u / 28
    · rw [if_pos c, show nI (u / 28) - 1 = nI (u / 28 - 1) from pk_sub (b := 1) c]
      obtain ⟨w1, e1, h1⟩ := x_vis h (a := u / 28 - 1) (l := u % 28) (d := d) (by omega) hm hd
      refine ⟨w1, e1, ?_⟩
      rw [show 28 * (u / 28 - 1) + u % 28 = u - 28 by omega] at h1
      exact h1
    · rw [if_neg c, show u / 28 = 0 by omega]
      exact ⟨w, x_visN (by decide), h⟩
  obtain ⟨w2, e2, h2⟩ : ∃ w2, x_W_visit (nI (u / 28) + 1) (nI (u % 28)) (nI d) w1 = some w2 ∧ XS r w0 w2 ((nb2 r u).foldl (bvis (okS r) d) ((nb1 r u).foldl (bvis (okS r) d) S)) := by
    unfold nb2
    rw [nI_1]
    by_cases c : u / 28 + 1 ≤ lA (r 0 0)
    · rw [if_pos c]
      obtain ⟨w1, e1, h1⟩ := x_vis h1 (a := u / 28 + 1) (l := u % 28) (d := d) c hm hd
      refine ⟨w1, e1, ?_⟩
      rw [show 28 * (u / 28 + 1) + u % 28 = u + 28 by omega] at h1
      exact h1
    · rw [if_neg c]
      exact ⟨w1, x_visH h1 (by omega) (by omega), h1⟩
  obtain ⟨w3, e3, h3⟩ : ∃ w3, x_W_visit (nI (u / 28)) (nI (u % 28) - 1) (nI d) w2 = some w3 ∧ XS r w0 w3 ((nb3 u).foldl (bvis (okS r) d) ((nb2 r u).foldl (bvis (okS r) d) ((nb1 r u).foldl (bvis (okS r) d) S))) := by
    unfold nb3
    by_cases c : 1 ≤ u % 28
    · rw [if_pos c, show nI (u % 28) - 1 = nI (u % 28 - 1) from pk_sub (b := 1) c]
      obtain ⟨w1, e1, h1⟩ := x_vis h2 (a := u / 28) (l := u % 28 - 1) (d := d) hl (by omega) hd
      refine ⟨w1, e1, ?_⟩
      rw [show 28 * (u / 28) + (u % 28 - 1) = u - 1 by omega] at h1
      exact h1
    · rw [if_neg c]
      exact ⟨w2, x_visL h2 hl (Or.inl (by rw [show u % 28 = 0 by omega]; decide)), h2⟩
  obtain ⟨w4, e4, h4⟩ : ∃ w4, x_W_visit (nI (u / 28)) (nI (u % 28) + 1) (nI d) w3 = some w4 ∧ XS r w0 w4 ((nb4 u).foldl (bvis (okS r) d) ((nb3 u).foldl (bvis (okS r) d) ((nb2 r u).foldl (bvis (okS r) d) ((nb1 r u).foldl (bvis (okS r) d) S)))) := by
    unfold nb4
    rw [nI_1]
    by_cases c : u % 28 + 1 < 28
    · rw [if_pos c]
      obtain ⟨w1, e1, h1⟩ := x_vis h3 (a := u / 28) (l := u % 28 + 1) (d := d) hl c hd
      refine ⟨w1, e1, ?_⟩
      rw [show 28 * (u / 28) + (u % 28 + 1) = u + 1 by omega] at h1
      exact h1
    · rw [if_neg c]
      exact ⟨w3, x_visL h3 hl (Or.inr (by rw [show u % 28 + 1 = 28 by omega]; rfl)), h3⟩
  refine ⟨w1, w2, w3, w4, e1, e2, e3, e4, ?_⟩
  unfold nbx
  rw [List.foldl_append, List.foldl_append, List.foldl_append]
  exact h4
theorem okS_in {s : Nat} (h : okS r s = true) : s < 448 ∧ s / 28 ≤ lA (r 0 0) := by
  unfold okS at h
  simp only [Bool.and_eq_true, decide_eq_true_eq] at h
  exact h.1
theorem x_expL {s0 : Nat} : ∀ (j f k D0 : Nat) (w : gx_Wd) (S : BS), XS r w0 w S → BI (okS r) (adS r) s0 S D0 → BC (okS r) (adS r) S k → BB S k → k + j = 449 → j < f → ∃ w' S', x_W_explore_60 f (nI k) w = some w' ∧ XS r w0 w' S' ∧ DS (okS r) (adS r) s0 S'.1 := by
  intro j
  induction j with
  | zero =>
    intro f k D0 w S h hI hC hB hk hf
    obtain ⟨f, rfl⟩ : ∃ g, f = g + 1 := ⟨f - 1, by omega⟩
    have hl := h.len
    refine ⟨w, S, ?_, h, BI_DS hI hC (by omega)⟩
    rw [x_W_explore_60, h.2.2.2.1, if_pos (nI_le (by omega) (by omega))]
  | succ j ih =>
    intro f k D0 w S h hI hC hB hk hf
    obtain ⟨f, rfl⟩ : ∃ g, f = g + 1 := ⟨f - 1, by omega⟩
    have hl := h.len
    by_cases c : S.2.length ≤ k
    · refine ⟨w, S, ?_, h, BI_DS hI hC c⟩
      rw [x_W_explore_60, h.2.2.2.1, if_pos (nI_le c (by omega))]
    · have hkl : k < S.2.length := by omega
      obtain ⟨u, hu⟩ : ∃ u, S.2[k]? = some u := ⟨S.2[k], List.getElem?_eq_getElem hkl⟩
      obtain ⟨q1, q2⟩ := hI.1 u (List.mem_of_getElem? hu)
      obtain ⟨d, hd⟩ := Option.isSome_iff_exists.mp q1
      obtain ⟨hu1, hu2⟩ := okS_in q2
      have hdk := hI.2.2.2.2.2.2.2.2 k u d hu hd
      obtain ⟨w1, w2, w3, w4, e1, e2, e3, e4, h4⟩ := x_pop h hu1 hu2 (d := d + 1) (by omega)
      obtain ⟨⟨D1, i1⟩, i2, i3⟩ := bpop hI hC hB hu hd (nb := nbx r u) (fun v => Iff.rfl)
      obtain ⟨w', S', g1, g2, g3⟩ := ih f (k + 1) D1 w4 _ h4 i1 i2 i3 (by omega) (by omega)
      refine ⟨w', S', ?_, g2, g3⟩
      have h33 : w 33 u = nI d := by rw [h.2.1 u hu1, hd]; rfl
      rw [x_W_explore_60, h.2.2.2.1, if_neg (nI_ge hkl (by omega)), if_neg (show ¬ (448 : Int32) ≤ nI k from nI_ge (b := 448) (by omega) (by omega))]
      simp only [px_cell (N := 448) (o := 34) rfl (show k < 448 by omega) (by decide), h.2.2.1 k u hu, gx_bs, px_cell (N := 448) (o := 33) rfl hu1 (by decide), h33]
      rw [show nI u / 28 = nI (u / 28) from pk_div (d := 28) (by omega) (by decide) (by decide), show nI u - nI (u / 28) * 28 = nI (u % 28) from by
        rw [← pk_rem (a := u) (d := 28) (by omega) (by decide) (by decide), show nI u / nI 28 = nI (u / 28) from pk_div (by omega) (by decide) (by decide)]
        rfl, nI_1 d, nI_1 k]
      simp only [e1, e2, e3, e4, gx_bs]
      exact g1
theorem x_ini : ∀ (j f i : Nat) (w : gx_Wd), i + j = 448 → j < f → ∃ w', x_W_explore_2 f (nI i) w = x_W_explore_28 w' ∧ (∀ o, o ≠ 33 → w' o = w o) ∧ (∀ s, s < i → w' 33 s = w 33 s) ∧ ∀ s, i ≤ s → s < 448 → w' 33 s = -9 := by
  intro j
  induction j with
  | zero =>
    intro f i w hi hf
    obtain ⟨f, rfl⟩ : ∃ g, f = g + 1 := ⟨f - 1, by omega⟩
    refine ⟨w, ?_, fun _ _ => rfl, fun _ _ => rfl, fun s h1 h2 => by omega⟩
    rw [x_W_explore_2, if_pos (show (448 : Int32) ≤ nI i from nI_le (a := 448) (by omega) (by omega))]
  | succ j ih =>
    intro f i w hi hf
    obtain ⟨f, rfl⟩ : ∃ g, f = g + 1 := ⟨f - 1, by omega⟩
    obtain ⟨w', g1, g2, g3, g4⟩ := ih f (i + 1) (gx_w w 33 i (-9)) (by omega) (by omega)
    refine ⟨w', ?_, fun o ho => by rw [g2 o ho, px_wo ho], fun s hs => by rw [g3 s (by omega), px_wn (by omega)], fun s h1 h2 => ?_⟩
    · rw [x_W_explore_2, if_neg (show ¬ (448 : Int32) ≤ nI i from nI_ge (b := 448) (by omega) (by omega))]
      simp only [px_set (N := 448) (o := 33) rfl (show i < 448 by omega) (by decide), gx_bs]
      rw [nI_1]
      exact g1
    · by_cases c : s = i
      · subst c; rw [g3 s (by omega), px_ws]
      · exact g4 s (by omega) h2
def s0S (r : Rf) : Nat := 28 * r 0 1 + r 0 2
theorem x_exp {w : gx_Wd} (h : XC w r (r 0 1) (r 0 2) iD r0 nO (r 5)) (hR : Rok 99 r) : ∃ w' S', x_W_explore w = some w' ∧ XS r w w' S' ∧ DS (okS r) (adS r) (s0S r) S'.1 := by
  obtain ⟨w1, e1, e2, -, e4⟩ := x_ini 448 6000 0 w (by omega) (by omega)
  have hX1 : XC (gx_w w1 32 3 0) r (r 0 1) (r 0 2) iD r0 nO (r 5) := h.to (fun o p1 p2 => by rw [px_wo (by omega), e2 o (by omega)])
  have hS0 : XS r w (gx_w w1 32 3 0) (fun _ => none, []) := ⟨⟨_, _, hX1⟩, fun s hs => by rw [px_wo (by decide)]; exact e4 s (by omega) hs, fun i u hi => by simp at hi, px_ws, by simp, fun u hu => by simp at hu, fun u e hu => by simp at hu, fun o ho => by rw [px_wo (by omega), e2 o (by omega)]⟩
  have hla : r 0 1 ≤ lA (r 0 0) := by
    have := hR.2.1
    have := hR.2.2.1
    unfold lA
    split <;> omega
  obtain ⟨w2, d1, d2⟩ := x_vis hS0 (a := r 0 1) (l := r 0 2) (d := 0) hla (by have := hR.2.2.2.1; omega) (by omega)
  have hI0 : BI (okS r) (adS r) (s0S r) (bvis (okS r) 0 (fun _ => none, []) (s0S r)) 0 := by
    cases c : okS r (s0S r) with
    | true => exact BI_0 c
    | false => exact BI_0n c
  obtain ⟨w', S', g1, g2, g3⟩ := x_expL (r := r) (w0 := w) (s0 := s0S r) 449 6000 0 0 w2 _ d2 hI0 (fun i u e v hi => by omega) (fun u e hu he v g hg => by have := hI0.2.2.2.2.1 v g hg; omega) (by omega) (by omega)
  refine ⟨w', S', ?_, g2, g3⟩
  unfold x_W_explore
  refine (show x_W_explore_2 6000 0 w = _ from e1).trans ?_
  simp only [x_W_explore_28, gx_put, gx_bs]
  rw [hX1.1.a, hX1.1.l]
  refine (congrArg (fun z => z.bind fun r2 => x_W_explore_60 6000 0 r2) (show x_W_visit (nI (r 0 1)) (nI (r 0 2)) 0 (gx_w w1 32 3 0) = _ from d1)).trans ?_
  simp only [gx_bs]
  exact g1
end
