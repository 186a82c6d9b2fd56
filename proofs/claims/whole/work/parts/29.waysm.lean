/-! ===== the ways: the model's search; way, reach, lowest ===== -/
def MS (r : Rf) (w0 w : gx_Wd) (S : BS) : Prop := MC w r iD nO ∧ (∀ s, s < 448 → w 11 s = dI (-1) (S.1 s)) ∧ (∀ i u : Nat, S.2[i]? = some u → w 12 i = nI u) ∧ w 0 22 = nI S.2.length ∧ S.2.Nodup ∧ (∀ u ∈ S.2, u < 448 ∧ (S.1 u).isSome = true) ∧ (∀ u e, S.1 u = some e → e ≤ 500) ∧ ∀ o k, o ≠ 11 → o ≠ 12 → ¬ (o = 0 ∧ k = 22) → w o k = w0 o k
theorem MS.len {r : Rf} {w0 w : gx_Wd} {S : BS} (h : MS r w0 w S) : S.2.length ≤ 448 := nodup_le 448 S.2 h.2.2.2.2.1 (fun x hx => (h.2.2.2.2.2.1 x hx).1)
theorem MS.len1 {r : Rf} {w0 w : gx_Wd} {S : BS} (h : MS r w0 w S) {s : Nat} (hs : s < 448) (hn : S.1 s = none) : S.2.length < 448 := by
  have h1 := nodup_le 448 (S.2 ++ [s]) (by
    rw [List.nodup_append]
    refine ⟨h.2.2.2.2.1, by simp, fun a ha b hb => ?_⟩
    simp only [List.mem_singleton] at hb
    rw [hb]
    intro z
    have := (h.2.2.2.2.2.1 a ha).2
    rw [z, hn] at this
    simp at this) (fun x hx => by
    rcases List.mem_append.mp hx with hx | hx
    · exact (h.2.2.2.2.2.1 x hx).1
    · simp only [List.mem_singleton] at hx; omega)
  simp at h1
  omega
section
variable {r : Rf} {w0 : gx_Wd}
theorem m_hat {w : gx_Wd} (h : MC w r iD nO) {a l : Nat} (ha : a + r 0 0 ≤ 16) (ha2 : a ≤ 15) (hl : l ≤ 27) : m_isHeldAt (nI a) (nI l) w = some (bI (xF r a l iD r0 nO (r 5)), w) := by
  have h1 : MC (gx_w (gx_w w 0 1 (nI a)) 0 2 (nI l)) (rput (rput r 0 1 a) 0 2 l) iD nO := by
    obtain ⟨q1, q2, q3, q4⟩ := h
    have e1 := q1.put (j := 0) (i := 1) (v := a)
    have e2 := RF.put (j := 0) (i := 2) (v := l) e1
    exact ⟨e2, (q2.putA ha2 ha).putL hl, fun p hp => by rw [px_wo (by decide), px_wo (by decide)]; exact q3 p hp, fun p hp => by rw [px_wk (by omega), px_wk (by omega)]; exact q4 p hp⟩
  have e1 := h1.f
  have e2 : xF (rput (rput r 0 1 a) 0 2 l) ((rput (rput r 0 1 a) 0 2 l) 0 1) ((rput (rput r 0 1 a) 0 2 l) 0 2) iD r0 nO ((rput (rput r 0 1 a) 0 2 l) 5) = xF r a l iD r0 nO (r 5) := rfl
  rw [e2] at e1
  have e3 : gx_w (gx_w (gx_w (gx_w w 0 1 (nI a)) 0 2 (nI l)) 0 1 (w 0 1)) 0 2 (w 0 2) = w := by
    funext o k
    simp only [px_w]
    by_cases c : o = 0
    · subst c
      simp only [if_true]
      by_cases c2 : k = 2
      · rw [if_pos c2, c2]
      · by_cases c3 : k = 1
        · rw [if_neg c2, if_pos c3, c3]
        · simp [c2, c3]
    · simp [c]
  simp only [m_isHeldAt, gx_put, gx_bs, e1, e3]
  rw [if_pos (bI_01 _)]
theorem m_in1 {w : gx_Wd} {a n : Nat} (ha : a ≤ n) (hn : n < 2 ^ 31) : m_in (nI a) 0 (nI n) w = some (1, w) := by
  unfold m_in
  rw [if_neg (nI_pos (by omega)), if_neg (nI_nlt ha (by omega))]
theorem m_inH {w : gx_Wd} {a n : Nat} (ha : n < a) (hn : a < 2 ^ 31) : m_in (nI a) 0 (nI n) w = some (0, w) := by
  unfold m_in
  rw [if_neg (nI_pos (by omega)), if_pos (nI_lt ha (by omega))]
theorem m_inN {w : gx_Wd} {a n : Int32} (ha : a < 0) : m_in a 0 n w = some (0, w) := by
  unfold m_in
  rw [if_pos ha]
theorem m_vis {w : gx_Wd} {S : BS} (h : MS r w0 w S) {a l d : Nat} (ha : a ≤ lA (r 0 0)) (hl : l < 28) (hd : d ≤ 500) : ∃ w', m_reaches (nI a) (nI l) (nI d) w = some w' ∧ MS r w0 w' (bvis (okS r) d S (28 * a + l)) := by
  have hM := h.1
  have hn := hM.2.1.1
  have hla := @lA_le (r 0 0)
  have hs : 28 * a + l < 448 := by omega
  have ok : okS r (28 * a + l) = xF r a l iD r0 nO (r 5) := by
    unfold okS
    rw [show (28 * a + l) / 28 = a by omega, show (28 * a + l) % 28 = l by omega]
    simp [hs, ha]
  have h11 := h.2.1 (28 * a + l) hs
  have e27 : m_in (nI l) 0 27 w = some (1, w) := m_in1 (n := 27) (by omega) (by decide)
  have e28 : (28 : Int32) * nI a + nI l = nI (28 * a + l) := by rw [show (28 : Int32) = nI 28 from rfl, pk_mul, nI_add]
  unfold m_reaches
  simp only [m_lastAt_ok hn hM.1.n, m_in1 ha (show lA (r 0 0) < 2 ^ 31 by omega), e27, gx_bs, e28, px_ald (sh := sh_m) (N := 448) (o := 11) rfl hs (by decide), h11, m_hat hM (show a + r 0 0 ≤ 16 by omega) (show a ≤ 15 by omega) (show l ≤ 27 by omega), bI_ite]
  rw [if_neg (by decide), if_neg (by decide)]
  cases hc : S.1 (28 * a + l) with
  | some e =>
    have he := h.2.2.2.2.2.2.1 _ _ hc
    rw [if_pos (show (0 : Int32) ≤ dI (-1) (some e) from nI_pos' (by omega))]
    refine ⟨w, rfl, ?_⟩
    have : bvis (okS r) d S (28 * a + l) = S := by unfold bvis; rw [if_neg (by simp [hc])]
    rw [this]; exact h
  | none =>
    rw [if_neg (show ¬ (0 : Int32) ≤ dI (-1) none by decide)]
    by_cases c : xF r a l iD r0 nO (r 5) = true
    · rw [if_pos c]
      have ht := h.len1 hs hc
      have hb : bvis (okS r) d S (28 * a + l) = (fun u => if u = 28 * a + l then some d else S.1 u, S.2 ++ [28 * a + l]) := by unfold bvis; rw [if_pos ⟨by simp [hc], by rw [ok]; exact c⟩]
      rw [hb]
      obtain ⟨g1, g2, g3, g4, g5, g6, g7, g8⟩ := h
      have q0 : (gx_w w 11 (28 * a + l) (nI d)) 0 22 = nI S.2.length := by rw [px_wo (by decide)]; exact g4
      simp only [px_ast (sh := sh_m) (N := 448) (o := 11) rfl hs (by decide), gx_bs, q0, px_ast (sh := sh_m) (N := 448) (o := 12) rfl ht (by decide), gx_put]
      have q1 : (gx_w (gx_w w 11 (28 * a + l) (nI d)) 12 S.2.length (nI (28 * a + l))) 0 22 = nI S.2.length := by rw [px_wo (by decide)]; exact q0
      rw [q1, nI_1]
      refine ⟨_, rfl, ?_, fun s hs2 => ?_, fun i u hi => ?_, ?_, ?_, fun u hu => ?_, fun u e hu => ?_, fun o k o1 o2 o3 => by rw [px_wk o3, px_wo o2, px_wo o1]; exact g8 o k o1 o2 o3⟩
      · obtain ⟨p1, p2, p3, p4⟩ := g1
        exact ⟨p1.to (fun o k o1 o2 o3 => by rw [px_wk (by omega), px_wo (by omega), px_wo (by omega)]), p2, fun p hp => by rw [px_wk (by omega), px_wo (by omega), px_wo (by omega)]; exact p3 p hp, fun p hp => by rw [px_wk (by omega), px_wo (by omega), px_wo (by omega)]; exact p4 p hp⟩
      · rw [px_wo (by decide), px_wo (by decide), px_w]
        by_cases c2 : s = 28 * a + l
        · simp [c2, dI]
        · simp only [if_true, if_neg c2]
          exact g2 s hs2
      · rw [px_wo (by decide), px_w]
        simp only [if_true]
        by_cases c2 : i < S.2.length
        · rw [if_neg (by omega), px_wo (by decide)]
          simp only at hi
          rw [List.getElem?_append_left c2] at hi
          exact g3 i u hi
        · simp only at hi
          rw [List.getElem?_append_right (by omega)] at hi
          cases hj : i - S.2.length with
          | zero =>
            rw [hj] at hi
            simp at hi
            rw [if_pos (by omega), hi]
          | succ n => rw [hj] at hi; simp at hi
      · rw [px_ws]
        simp only [List.length_append, List.length_singleton]
      · rw [List.nodup_append]
        refine ⟨g5, by simp, fun a2 ha2 b hb2 => ?_⟩
        simp only [List.mem_singleton] at hb2
        rw [hb2]
        intro z
        have := (g6 a2 ha2).2
        rw [z, hc] at this
        simp at this
      · simp only [List.mem_append, List.mem_singleton] at hu
        rcases hu with hu | hu
        · obtain ⟨q1, q2⟩ := g6 u hu
          refine ⟨q1, ?_⟩
          simp only
          by_cases c2 : u = 28 * a + l
          · rw [if_pos c2]; rfl
          · rw [if_neg c2]; exact q2
        · rw [hu]; simp [hs]
      · simp only at hu
        by_cases c2 : u = 28 * a + l
        · rw [if_pos c2] at hu; cases hu; exact hd
        · rw [if_neg c2] at hu; exact g7 u e hu
    · rw [if_neg c]
      refine ⟨w, rfl, ?_⟩
      have : bvis (okS r) d S (28 * a + l) = S := by unfold bvis; rw [if_neg (fun z => c (by rw [← ok]; exact z.2))]
      rw [this]; exact h
theorem m_visN {w : gx_Wd} {S : BS} (h : MS r w0 w S) {a l m : Int32} (ha : a < 0) : m_reaches a l m w = some w := by
  unfold m_reaches
  simp only [m_lastAt_ok h.1.2.1.1 h.1.1.n, gx_bs, m_inN ha]
  rw [if_pos trivial]
theorem m_visH {w : gx_Wd} {S : BS} (h : MS r w0 w S) {a : Nat} {l m : Int32} (ha : lA (r 0 0) < a) (ha2 : a < 1000) : m_reaches (nI a) l m w = some w := by
  unfold m_reaches
  simp only [m_lastAt_ok h.1.2.1.1 h.1.1.n, gx_bs, m_inH ha (show a < 2 ^ 31 by omega)]
  rw [if_pos trivial]
theorem m_visL {w : gx_Wd} {S : BS} (h : MS r w0 w S) {a : Nat} {l m : Int32} (ha : a ≤ lA (r 0 0)) (hl : l < 0 ∨ l = 28) : m_reaches (nI a) l m w = some w := by
  have hla := @lA_le (r 0 0)
  have e : m_in l 0 27 w = some (0, w) := by
    rcases hl with hl | hl
    · exact m_inN hl
    · rw [hl]; exact m_inH (a := 28) (n := 27) (by decide) (by decide)
  unfold m_reaches
  simp only [m_lastAt_ok h.1.2.1.1 h.1.1.n, gx_bs, m_in1 ha (show lA (r 0 0) < 2 ^ 31 by omega), e]
  rw [if_neg (by decide), if_pos trivial]
theorem m_pop {w : gx_Wd} {S : BS} (h : MS r w0 w S) {u d : Nat} (hu : u < 448) (hl : u / 28 ≤ lA (r 0 0)) (hd : d ≤ 500) : ∃ w1 w2 w3 w4, m_reaches (nI (u / 28) + 1) (nI (u % 28)) (nI d) w = some w1 ∧ m_reaches (nI (u / 28) - 1) (nI (u % 28)) (nI d) w1 = some w2 ∧ m_reaches (nI (u / 28)) (nI (u % 28) + 1) (nI d) w2 = some w3 ∧ m_reaches (nI (u / 28)) (nI (u % 28) - 1) (nI d) w3 = some w4 ∧ MS r w0 w4 ((nbm r u).foldl (bvis (okS r) d) S) := by
  have hm : u % 28 < 28 := Nat.mod_lt _ (by decide)
  have hdm := Nat.div_add_mod u 28
  obtain ⟨w1, e1, h1⟩ : ∃ w1, m_reaches (nI (u / 28) + 1) (nI (u % 28)) (nI d) w = some w1 ∧ MS r w0 w1 ((nb2 r u).foldl (bvis (okS r) d) S) := by
    unfold nb2
    rw [nI_1]
    by_cases c : u / 28 + 1 ≤ lA (r 0 0)
    · rw [if_pos c]
      obtain ⟨w1, e1, h1⟩ := m_vis h (a := u / 28 + 1) (l := u % 28) (d := d) c hm hd
      refine ⟨w1, e1, ?_⟩
      rw [show 28 * (u / 28 + 1) + u % 28 = u + 28 by omega] at h1
      exact h1
    · rw [if_neg c]
      exact ⟨w, m_visH h (by omega) (by omega), h⟩
  obtain ⟨w2, e2, h2⟩ : ∃ w2, m_reaches (nI (u / 28) - 1) (nI (u % 28)) (nI d) w1 = some w2 ∧ MS r w0 w2 ((nb1 r u).foldl (bvis (okS r) d) ((nb2 r u).foldl (bvis (okS r) d) S)) := by
    unfold nb1
    by_cases c : 1 ≤ u / 28
    · rw [if_pos c, show nI (u / 28) - 1 = nI (u / 28 - 1) from pk_sub (b := 1) c]
      obtain ⟨w1, e1, h1⟩ := m_vis h1 (a := u / 28 - 1) (l := u % 28) (d := d) (by omega) hm hd
      refine ⟨w1, e1, ?_⟩
      rw [show 28 * (u / 28 - 1) + u % 28 = u - 28 by omega] at h1
      exact h1
    · rw [if_neg c, show u / 28 = 0 by omega]
      exact ⟨w1, m_visN h1 (by decide), h1⟩
  obtain ⟨w3, e3, h3⟩ : ∃ w3, m_reaches (nI (u / 28)) (nI (u % 28) + 1) (nI d) w2 = some w3 ∧ MS r w0 w3 ((nb4 u).foldl (bvis (okS r) d) ((nb1 r u).foldl (bvis (okS r) d) ((nb2 r u).foldl (bvis (okS r) d) S))) := by
    unfold nb4
    rw [nI_1]
    by_cases c : u % 28 + 1 < 28
    · rw [if_pos c]
      obtain ⟨w1, e1, h1⟩ := m_vis h2 (a := u / 28) (l := u % 28 + 1) (d := d) hl c hd
      refine ⟨w1, e1, ?_⟩
      rw [show 28 * (u / 28) + (u % 28 + 1) = u + 1 by omega] at h1
      exact h1
    · rw [if_neg c]
      exact ⟨w2, m_visL h2 hl (Or.inr (by rw [show u % 28 + 1 = 28 by omega]; rfl)), h2⟩
  obtain ⟨w4, e4, h4⟩ : ∃ w4, m_reaches (nI (u / 28)) (nI (u % 28) - 1) (nI d) w3 = some w4 ∧ MS r w0 w4 ((nb3 u).foldl (bvis (okS r) d) ((nb4 u).foldl (bvis (okS r) d) ((nb1 r u).foldl (bvis (okS r) d) ((nb2 r u).foldl (bvis (okS r) d) S)))) := by
    unfold nb3
    by_cases c : 1 ≤ u % 28
    · rw [if_pos c, show nI (u % 28) - 1 = nI (u % 28 - 1) from pk_sub (b := 1) c]
      obtain ⟨w1, e1, h1⟩ := m_vis h3 (a := u / 28) (l := u % 28 - 1) (d := d) hl (by omega) hd
      refine ⟨w1, e1, ?_⟩
      rw [show 28 * (u / 28) + (u % 28 - 1) = u - 1 by omega] at h1
      exact h1
    · rw [if_neg c]
      exact ⟨w3, m_visL h3 hl (Or.inl (by rw [show u % 28 = 0 by omega]; decide)), h3⟩
  refine ⟨w1, w2, w3, w4, e1, e2, e3, e4, ?_⟩
  unfold nbm
  rw [List.foldl_append, List.foldl_append, List.foldl_append]
  exact h4
theorem m_expL {s0 : Nat} : ∀ (j f k D0 : Nat) (w : gx_Wd) (S : BS), MS r w0 w S → BI (okS r) (adS r) s0 S D0 → BC (okS r) (adS r) S k → BB S k → k + j = 449 → j < f → ∃ w' S', m_layWays_42 f (nI k) w = some w' ∧ MS r w0 w' S' ∧ DS (okS r) (adS r) s0 S'.1 := by
  intro j
  induction j with
  | zero =>
    intro f k D0 w S h hI hC hB hk hf
    obtain ⟨f, rfl⟩ : ∃ g, f = g + 1 := ⟨f - 1, by omega⟩
    have hl := h.len
    refine ⟨w, S, ?_, h, BI_DS hI hC (by omega)⟩
    rw [m_layWays_42, h.2.2.2.1, if_pos (nI_le (by omega) (by omega))]
  | succ j ih =>
    intro f k D0 w S h hI hC hB hk hf
    obtain ⟨f, rfl⟩ : ∃ g, f = g + 1 := ⟨f - 1, by omega⟩
    have hl := h.len
    by_cases c : S.2.length ≤ k
    · refine ⟨w, S, ?_, h, BI_DS hI hC c⟩
      rw [m_layWays_42, h.2.2.2.1, if_pos (nI_le c (by omega))]
    · have hkl : k < S.2.length := by omega
      obtain ⟨u, hu⟩ : ∃ u, S.2[k]? = some u := ⟨S.2[k], List.getElem?_eq_getElem hkl⟩
      obtain ⟨q1, q2⟩ := hI.1 u (List.mem_of_getElem? hu)
      obtain ⟨d, hd⟩ := Option.isSome_iff_exists.mp q1
      obtain ⟨hu1, hu2⟩ := okS_in q2
      have hdk := hI.2.2.2.2.2.2.2.2 k u d hu hd
      obtain ⟨w1, w2, w3, w4, e1, e2, e3, e4, h4⟩ := m_pop h hu1 hu2 (d := d + 1) (by omega)
      obtain ⟨⟨D1, i1⟩, i2, i3⟩ := bpop hI hC hB hu hd (nb := nbm r u) (fun v => nbm_ad)
      obtain ⟨w', S', g1, g2, g3⟩ := ih f (k + 1) D1 w4 _ h4 i1 i2 i3 (by omega) (by omega)
      refine ⟨w', S', ?_, g2, g3⟩
      have h33 : w 11 u = nI d := by rw [h.2.1 u hu1, hd]; rfl
      rw [m_layWays_42, h.2.2.2.1, if_neg (nI_ge hkl (by omega))]
      simp only [px_ald (sh := sh_m) (N := 448) (o := 12) rfl (show k < 448 by omega) (by decide), h.2.2.1 k u hu, gx_bs, px_ald (sh := sh_m) (N := 448) (o := 11) rfl hu1 (by decide), h33]
      rw [show nI u / 28 = nI (u / 28) from pk_div (d := 28) (by omega) (by decide) (by decide), show nI u - nI (u / 28) * 28 = nI (u % 28) from by
        rw [← pk_rem (a := u) (d := 28) (by omega) (by decide) (by decide), show nI u / nI 28 = nI (u / 28) from pk_div (by omega) (by decide) (by decide)]
        rfl, nI_1 d, nI_1 k]
      simp only [e1, e2, e3, e4, gx_bs]
      exact g1
theorem m_ini : ∀ (j f i : Nat) (w : gx_Wd), i + j = 448 → j < f → ∃ w', m_layWays_2 f (nI i) w = m_layWays_22 w' ∧ (∀ o, o ≠ 11 → w' o = w o) ∧ (∀ s, s < i → w' 11 s = w 11 s) ∧ ∀ s, i ≤ s → s < 448 → w' 11 s = -1 := by
  intro j
  induction j with
  | zero =>
    intro f i w hi hf
    obtain ⟨f, rfl⟩ : ∃ g, f = g + 1 := ⟨f - 1, by omega⟩
    refine ⟨w, ?_, fun _ _ => rfl, fun _ _ => rfl, fun s h1 h2 => by omega⟩
    rw [m_layWays_2, if_pos (show (448 : Int32) ≤ nI i from nI_le (a := 448) (by omega) (by omega))]
  | succ j ih =>
    intro f i w hi hf
    obtain ⟨f, rfl⟩ : ∃ g, f = g + 1 := ⟨f - 1, by omega⟩
    obtain ⟨w', g1, g2, g3, g4⟩ := ih f (i + 1) (gx_w w 11 i (-1)) (by omega) (by omega)
    refine ⟨w', ?_, fun o ho => by rw [g2 o ho, px_wo ho], fun s hs => by rw [g3 s (by omega), px_wn (by omega)], fun s h1 h2 => ?_⟩
    · rw [m_layWays_2, if_neg (show ¬ (448 : Int32) ≤ nI i from nI_ge (b := 448) (by omega) (by omega))]
      simp only [px_ast (sh := sh_m) (N := 448) (o := 11) rfl (show i < 448 by omega) (by decide), gx_bs]
      rw [nI_1]
      exact g1
    · by_cases c : s = i
      · subst c; rw [g3 s (by omega), px_ws]
      · exact g4 s (by omega) h2
theorem m_exp {w : gx_Wd} (h : MC w r iD nO) (hR : Rok 99 r) : ∃ w' S', m_layWays w = some w' ∧ MS r w w' S' ∧ DS (okS r) (adS r) (s0S r) S'.1 := by
  obtain ⟨w1, e1, e2, -, e4⟩ := m_ini 448 6000 0 w (by omega) (by omega)
  have hX1 : MC (gx_w w1 0 22 0) r iD nO := by
    obtain ⟨p1, p2, p3, p4⟩ := h
    exact ⟨p1.to (fun o k o1 o2 o3 => by rw [px_wk (by omega), e2 o (by omega)]), p2, fun p hp => by rw [px_wo (by decide), e2 10 (by decide)]; exact p3 p hp, fun p hp => by rw [px_wk (by omega), e2 0 (by decide)]; exact p4 p hp⟩
  have hS0 : MS r w (gx_w w1 0 22 0) (fun _ => none, []) := ⟨hX1, fun s hs => by rw [px_wo (by decide)]; exact e4 s (by omega) hs, fun i u hi => by simp at hi, px_ws, by simp, fun u hu => by simp at hu, fun u e hu => by simp at hu, fun o k o1 o2 o3 => by rw [px_wk o3, e2 o o1]⟩
  have hla : r 0 1 ≤ lA (r 0 0) := by
    have := hR.2.1
    have := hR.2.2.1
    unfold lA
    split <;> omega
  obtain ⟨w2, d1, d2⟩ := m_vis hS0 (a := r 0 1) (l := r 0 2) (d := 0) hla (by have := hR.2.2.2.1; omega) (by omega)
  have hI0 : BI (okS r) (adS r) (s0S r) (bvis (okS r) 0 (fun _ => none, []) (s0S r)) 0 := by
    cases c : okS r (s0S r) with
    | true => exact BI_0 c
    | false => exact BI_0n c
  obtain ⟨w', S', g1, g2, g3⟩ := m_expL (r := r) (w0 := w) (s0 := s0S r) 449 6000 0 0 w2 _ d2 hI0 (fun i u e v hi => by omega) (fun u e hu he v g hg => by have := hI0.2.2.2.2.1 v g hg; omega) (by omega) (by omega)
  refine ⟨w', S', ?_, g2, g3⟩
  unfold m_layWays
  refine (show m_layWays_2 6000 0 w = _ from e1).trans ?_
  simp only [m_layWays_22, gx_put, gx_bs]
  rw [hX1.1.a, hX1.1.l]
  refine (congrArg (fun z => z.bind fun r2 => m_layWays_42 6000 0 r2) (show m_reaches (nI (r 0 1)) (nI (r 0 2)) 0 (gx_w w1 0 22 0) = _ from d1)).trans ?_
  simp only [gx_bs]
  exact g1
end
/-! what is read off the minutes -/
def fx (o c : Option Nat) : Option Nat := match c with
  | none => o
  | some d => match o with
    | none => some d
    | some b => if b ≤ d then some b else some d
def fwF (D : Nat → Option Nat) (a : Nat) : Nat → Nat → Option Nat → Option Nat
  | 0, _, o => o
  | j + 1, l, o => fwF D a j (l + 1) (fx o (D (28 * a + l)))
def o5 (o : Option Nat) : Prop := ∀ e, o = some e → e ≤ 500
theorem fx_5 {o c : Option Nat} (ho : o5 o) (hc : o5 c) : o5 (fx o c) := by
  intro e he
  unfold fx at he
  cases c with
  | none => exact ho e he
  | some d =>
    cases o with
    | none => exact hc e he
    | some b =>
      simp only at he
      split at he
      · exact ho e he
      · exact hc e he
theorem x_fewL {w : gx_Wd} {D : Nat → Option Nat} (hD : ∀ s, s < 448 → w 33 s = dI (-9) (D s)) (h5 : ∀ s, o5 (D s)) {a : Nat} (ha : a < 16) : ∀ (j f l : Nat) (o : Option Nat), o5 o → l + j = 28 → j < f → x_W_fewestTo_5 f (nI a) (dI (-9) o) (nI l) w = some (dI (-9) (fwF D a j l o), w) := by
  intro j
  induction j with
  | zero =>
    intro f l o ho hl hf
    obtain ⟨f, rfl⟩ : ∃ g, f = g + 1 := ⟨f - 1, by omega⟩
    rw [x_W_fewestTo_5, if_pos (show (28 : Int32) ≤ nI l from nI_le (a := 28) (by omega) (by omega))]
    rfl
  | succ j ih =>
    intro f l o ho hl hf
    obtain ⟨f, rfl⟩ : ∃ g, f = g + 1 := ⟨f - 1, by omega⟩
    rw [x_W_fewestTo_5, if_neg (show ¬ (28 : Int32) ≤ nI l from nI_ge (b := 28) (by omega) (by omega))]
    have hs : 28 * a + l < 448 := by omega
    have e28 : nI a * 28 + nI l = nI (28 * a + l) := by rw [show (28 : Int32) = nI 28 from rfl, pk_mul, nI_add, Nat.mul_comm]
    have hi := ih f (l + 1) (fx o (D (28 * a + l))) (fx_5 ho (h5 _)) (by omega) (by omega)
    simp only [x_W_minutesTo, e28, px_cell (N := 448) (o := 33) rfl hs (by decide), hD _ hs, gx_bs, x_W_fewestTo_37, x_W_fewestTo_34]
    rw [nI_1, fwF]
    cases hc : D (28 * a + l) with
    | none =>
      rw [if_pos (show dI (-9) none < 0 by decide)]
      rw [hc] at hi
      exact hi
    | some d =>
      have hd := h5 _ d hc
      rw [if_neg (show ¬ dI (-9) (some d) < 0 from nI_pos (by omega))]
      rw [hc] at hi
      cases o with
      | none =>
        rw [if_pos (show dI (-9) none < 0 by decide)]
        exact hi
      | some b =>
        have hb := ho b rfl
        rw [if_neg (show ¬ dI (-9) (some b) < 0 from nI_pos (by omega))]
        by_cases c2 : b ≤ d
        · rw [if_pos (show dI (-9) (some b) ≤ dI (-9) (some d) from nI_le c2 (by omega))]
          simp only [fx, if_pos c2] at hi ⊢
          exact hi
        · rw [if_neg (show ¬ dI (-9) (some b) ≤ dI (-9) (some d) from nI_ge (by omega) (by omega))]
          simp only [fx, if_neg c2] at hi ⊢
          exact hi
theorem m_wayL {w : gx_Wd} {D : Nat → Option Nat} (hD : ∀ s, s < 448 → w 11 s = dI (-1) (D s)) (h5 : ∀ s, o5 (D s)) {a : Nat} (ha : a < 16) : ∀ (j f l : Nat) (o : Option Nat), o5 o → l + j = 28 → j < f → m_way_35 f (nI a) (dI (-9) o) (nI l) w = some (dI (-9) (fwF D a j l o), w) := by
  intro j
  induction j with
  | zero =>
    intro f l o ho hl hf
    obtain ⟨f, rfl⟩ : ∃ g, f = g + 1 := ⟨f - 1, by omega⟩
    rw [m_way_35, if_pos (show (28 : Int32) ≤ nI l from nI_le (a := 28) (by omega) (by omega))]
    rfl
  | succ j ih =>
    intro f l o ho hl hf
    obtain ⟨f, rfl⟩ : ∃ g, f = g + 1 := ⟨f - 1, by omega⟩
    rw [m_way_35, if_neg (show ¬ (28 : Int32) ≤ nI l from nI_ge (b := 28) (by omega) (by omega))]
    have hs : 28 * a + l < 448 := by omega
    have e28 : (28 : Int32) * nI a + nI l = nI (28 * a + l) := by rw [show (28 : Int32) = nI 28 from rfl, pk_mul, nI_add]
    have hi := ih f (l + 1) (fx o (D (28 * a + l))) (fx_5 ho (h5 _)) (by omega) (by omega)
    simp only [e28, px_ald (sh := sh_m) (N := 448) (o := 11) rfl hs (by decide), hD _ hs, gx_bs, m_way_75]
    rw [nI_1, fwF]
    cases hc : D (28 * a + l) with
    | none =>
      rw [if_pos (show dI (-1) none < 0 by decide)]
      rw [hc] at hi
      exact hi
    | some d =>
      have hd := h5 _ d hc
      rw [if_neg (show ¬ dI (-1) (some d) < 0 from nI_pos (by omega))]
      rw [hc] at hi
      cases o with
      | none =>
        rw [if_pos (show dI (-9) none < 0 by decide)]
        exact hi
      | some b =>
        have hb := ho b rfl
        rw [if_neg (show ¬ dI (-9) (some b) < 0 from nI_pos (by omega))]
        by_cases c2 : b ≤ d
        · rw [if_pos (show dI (-9) (some b) ≤ dI (-1) (some d) from nI_le c2 (by omega))]
          simp only [fx, if_pos c2] at hi ⊢
          exact hi
        · rw [if_neg (show ¬ dI (-9) (some b) ≤ dI (-1) (some d) from nI_ge (by omega) (by omega))]
          simp only [fx, if_neg c2] at hi ⊢
          exact hi
/-- within so many minutes -/
def wit (D : Nat → Option Nat) (n s : Nat) : Bool := match D s with
  | some d => decide (d ≤ n)
  | none => false
def fit (n : Nat) (o : Option Nat) : Bool := match o with
  | some d => decide (d ≤ n)
  | none => false
theorem fit_fx {n : Nat} {o c : Option Nat} : fit n (fx o c) = (fit n o || fit n c) := by
  unfold fx
  cases c with
  | none => cases o <;> simp [fit]
  | some d =>
    cases o with
    | none => simp [fit]
    | some b =>
      simp only
      by_cases h : b ≤ d
      · rw [if_pos h]
        simp only [fit]
        by_cases h2 : b ≤ n
        · simp [h2]
        · have : ¬ d ≤ n := by omega
          simp [h2, this]
      · rw [if_neg h]
        simp only [fit]
        by_cases h2 : d ≤ n
        · simp [h2]
        · have : ¬ b ≤ n := by omega
          simp [h2, this]
theorem fit_fw {D : Nat → Option Nat} {n a : Nat} : ∀ j l o, fit n (fwF D a j l o) = (fit n o || (gfind (fun l => wit D n (28 * a + l)) j l).isSome) := by
  intro j
  induction j with
  | zero => intro l o; simp [fwF, gfind]
  | succ j ih =>
    intro l o
    rw [fwF, ih, fit_fx, gfind]
    have e : fit n (D (28 * a + l)) = wit D n (28 * a + l) := by unfold fit wit; rfl
    rw [e]
    by_cases c : wit D n (28 * a + l) = true
    · simp [c]
    · simp [c]
theorem x_reaL {w : gx_Wd} {D : Nat → Option Nat} (hD : ∀ s, s < 448 → w 33 s = dI (-9) (D s)) (h5 : ∀ s, o5 (D s)) {n : Nat} (hn : n ≤ 40) : ∀ (j f a : Nat) (b : Int32), a + j = 16 → j < f → x_W_reachedWithin_4 f (nI n) b (nI a) w = some (bitF (fun a => (gfind (fun l => wit D n (28 * a + l)) 28 0).isSome) j a b, w) := by
  intro j
  induction j with
  | zero =>
    intro f a b ha hf
    obtain ⟨f, rfl⟩ : ∃ g, f = g + 1 := ⟨f - 1, by omega⟩
    rw [x_W_reachedWithin_4, if_pos (show (16 : Int32) ≤ nI a from nI_le (a := 16) (by omega) (by omega))]
    rfl
  | succ j ih =>
    intro f a b ha hf
    obtain ⟨f, rfl⟩ : ∃ g, f = g + 1 := ⟨f - 1, by omega⟩
    rw [x_W_reachedWithin_4, if_neg (show ¬ (16 : Int32) ≤ nI a from nI_ge (b := 16) (by omega) (by omega))]
    have e : x_W_fewestTo (nI a) w = some (dI (-9) (fwF D a 28 0 none), w) := x_fewL hD h5 (show a < 16 by omega) 28 6000 0 none (fun e he => by cases he) (by omega) (by omega)
    have hf := @fit_fw D n a 28 0 none
    have hi := ih f (a + 1) (if (gfind (fun l => wit D n (28 * a + l)) 28 0).isSome = true then b ||| ((1 : Int32) <<< (nI a &&& 31)) else b) (by omega) (by omega)
    simp only [e, gx_bs, x_W_reachedWithin_34]
    rw [nI_1, bitF]
    have h50 : o5 (fwF D a 28 0 none) := by
      have : ∀ j l o, o5 o → o5 (fwF D a j l o) := by
        intro j
        induction j with
        | zero => intro l o h; exact h
        | succ j ih => intro l o h; exact ih _ _ (fx_5 h (h5 _))
      exact this 28 0 none (fun e he => by cases he)
    cases hc : fwF D a 28 0 none with
    | none =>
      rw [hc] at hf
      simp only [fit, Bool.false_or] at hf
      rw [if_pos (show dI (-9) none < 0 by decide)]
      rw [← hf] at hi ⊢
      exact hi
    | some d =>
      have hd := h50 d hc
      rw [hc] at hf
      simp only [fit, Bool.false_or] at hf
      rw [if_neg (show ¬ dI (-9) (some d) < 0 from nI_pos (by omega))]
      by_cases c2 : d ≤ n
      · rw [if_neg (show ¬ nI n < dI (-9) (some d) from nI_nlt c2 (by omega))]
        rw [decide_eq_true c2] at hf
        rw [← hf] at hi ⊢
        exact hi
      · rw [if_pos (show nI n < dI (-9) (some d) from nI_lt (by omega) (by omega))]
        rw [decide_eq_false c2] at hf
        rw [← hf] at hi ⊢
        exact hi
def mrF (P : Nat → Bool) : Nat → Nat → Int32 → Int32
  | 0, _, b => b
  | j + 1, k, b => mrF P j (k + 1) (if P k = true then b ||| ((1 : Int32) <<< (nI (k / 28) &&& 31)) else b)
theorem or_or (b c : Int32) : b ||| c ||| c = b ||| c := by rw [Int32.or_assoc, Int32.or_self]
theorem mr_28 {P : Nat → Bool} {a : Nat} : ∀ (m l j : Nat) (b : Int32), l + m = 28 → mrF P (j + m) (28 * a + l) b = mrF P j (28 * (a + 1)) (if (gfind (fun l => P (28 * a + l)) m l).isSome = true then b ||| ((1 : Int32) <<< (nI a &&& 31)) else b) := by
  intro m
  induction m with
  | zero =>
    intro l j b hl
    rw [show 28 * a + l = 28 * (a + 1) by omega]
    simp [gfind]
  | succ m ih =>
    intro l j b hl
    rw [show j + (m + 1) = (j + m) + 1 by omega, mrF, show 28 * a + l + 1 = 28 * a + (l + 1) by omega, ih (l + 1) j _ (by omega), gfind, show (28 * a + l) / 28 = a by omega]
    by_cases c : P (28 * a + l) = true
    · rw [if_pos c, if_pos c]
      simp only [Option.isSome_some, if_true]
      by_cases c2 : (gfind (fun l => P (28 * a + l)) m (l + 1)).isSome = true
      · rw [if_pos c2, or_or]
      · rw [if_neg c2]
    · rw [if_neg c, if_neg c]
theorem mr_bit {P : Nat → Bool} : ∀ (j a : Nat) (b : Int32), mrF P (28 * j) (28 * a) b = bitF (fun a => (gfind (fun l => P (28 * a + l)) 28 0).isSome) j a b := by
  intro j
  induction j with
  | zero => intro a b; rfl
  | succ j ih =>
    intro a b
    have h := mr_28 (P := P) (a := a) 28 0 (28 * j) b (by omega)
    rw [show 28 * (j + 1) = 28 * j + 28 by omega]
    refine Eq.trans (show mrF P (28 * j + 28) (28 * a) b = _ from h) ?_
    rw [bitF, ih]
theorem m_rin {w : gx_Wd} {D : Nat → Option Nat} {n s : Nat} (h5 : o5 (D s)) (hn : n ≤ 40) : m_in (dI (-1) (D s)) 0 (nI n) w = some (bI (wit D n s), w) := by
  unfold wit
  cases hc : D s with
  | none => exact m_inN (by decide)
  | some d =>
    have := h5 d hc
    by_cases c : d ≤ n
    · rw [show dI (-1) (some d) = nI d from rfl, m_in1 c (by omega)]; simp [c, bI]
    · rw [show dI (-1) (some d) = nI d from rfl, m_inH (by omega) (by omega)]; simp [c, bI]
theorem m_reaL {w : gx_Wd} {D : Nat → Option Nat} (hD : ∀ s, s < 448 → w 11 s = dI (-1) (D s)) (h5 : ∀ s, o5 (D s)) {n : Nat} (hn : n ≤ 40) : ∀ (j f k : Nat) (b : Int32), k + j = 448 → j < f → m_reach_32 f (nI n) b (nI k) w = some (mrF (wit D n) j k b, w) := by
  intro j
  induction j with
  | zero =>
    intro f k b hk hf
    obtain ⟨f, rfl⟩ : ∃ g, f = g + 1 := ⟨f - 1, by omega⟩
    rw [m_reach_32, if_pos (show (448 : Int32) ≤ nI k from nI_le (a := 448) (by omega) (by omega))]
    rfl
  | succ j ih =>
    intro f k b hk hf
    obtain ⟨f, rfl⟩ : ∃ g, f = g + 1 := ⟨f - 1, by omega⟩
    rw [m_reach_32, if_neg (show ¬ (448 : Int32) ≤ nI k from nI_ge (b := 448) (by omega) (by omega))]
    have hi := ih f (k + 1) (if wit D n k = true then b ||| ((1 : Int32) <<< (nI (k / 28) &&& 31)) else b) (by omega) (by omega)
    simp only [px_ald (sh := sh_m) (N := 448) (o := 11) rfl (show k < 448 by omega) (by decide), hD k (by omega), gx_bs, m_rin (h5 k) hn, bI_ite, m_reach_65, shl_or0]
    rw [nI_1, mrF, show nI k / 28 = nI (k / 28) from pk_div (d := 28) (by omega) (by decide) (by decide)]
    by_cases c : wit D n k = true
    · rw [if_pos c] at hi ⊢
      rw [if_pos c]; exact hi
    · rw [if_neg c] at hi ⊢
      rw [if_neg c]; exact hi
def lwR (o : Option Nat) : Int32 := match o with
  | some l => nI l
  | none => -9
theorem x_lowL {w : gx_Wd} {D : Nat → Option Nat} (hD : ∀ s, s < 448 → w 33 s = dI (-9) (D s)) (h5 : ∀ s, o5 (D s)) {a n : Nat} (ha : a < 16) (hn : n ≤ 40) : ∀ (j f l : Nat), l + j = 28 → j < f → x_W_lowestAt_2 f (nI a) (nI n) (nI l) w = some (lwR (gfind (fun l => wit D n (28 * a + l)) j l), w) := by
  intro j
  induction j with
  | zero =>
    intro f l hl hf
    obtain ⟨f, rfl⟩ : ∃ g, f = g + 1 := ⟨f - 1, by omega⟩
    rw [x_W_lowestAt_2, if_pos (show (28 : Int32) ≤ nI l from nI_le (a := 28) (by omega) (by omega))]
    rfl
  | succ j ih =>
    intro f l hl hf
    obtain ⟨f, rfl⟩ : ∃ g, f = g + 1 := ⟨f - 1, by omega⟩
    rw [x_W_lowestAt_2, if_neg (show ¬ (28 : Int32) ≤ nI l from nI_ge (b := 28) (by omega) (by omega))]
    have hs : 28 * a + l < 448 := by omega
    have e28 : nI a * 28 + nI l = nI (28 * a + l) := by rw [show (28 : Int32) = nI 28 from rfl, pk_mul, nI_add, Nat.mul_comm]
    have hi := ih f (l + 1) (by omega) (by omega)
    simp only [x_W_minutesTo, e28, px_cell (N := 448) (o := 33) rfl hs (by decide), hD _ hs, gx_bs, x_W_lowestAt_29]
    rw [nI_1, gfind]
    unfold wit at hi ⊢
    cases hc : D (28 * a + l) with
    | none =>
      rw [if_pos (show dI (-9) none < 0 by decide)]
      simp only [Bool.false_eq_true, if_false]
      exact hi
    | some d =>
      have hd := h5 _ d hc
      rw [if_neg (show ¬ dI (-9) (some d) < 0 from nI_pos (by omega))]
      by_cases c2 : d ≤ n
      · rw [if_neg (show ¬ nI n < dI (-9) (some d) from nI_nlt c2 (by omega))]
        simp [c2, lwR]
      · rw [if_pos (show nI n < dI (-9) (some d) from nI_lt (by omega) (by omega))]
        simp only [decide_eq_false c2, Bool.false_eq_true, if_false]
        exact hi
theorem m_lowL {w : gx_Wd} {D : Nat → Option Nat} (hD : ∀ s, s < 448 → w 11 s = dI (-1) (D s)) (h5 : ∀ s, o5 (D s)) {a n : Nat} (ha : a < 16) (hn : n ≤ 40) : ∀ (j f l : Nat), l + j = 28 → j < f → m_lowest_42 f (nI a) (nI n) (nI l) w = some (lwR (gfind (fun l => wit D n (28 * a + l)) j l), w) := by
  intro j
  induction j with
  | zero =>
    intro f l hl hf
    obtain ⟨f, rfl⟩ : ∃ g, f = g + 1 := ⟨f - 1, by omega⟩
    rw [m_lowest_42, if_pos (show (28 : Int32) ≤ nI l from nI_le (a := 28) (by omega) (by omega))]
    rfl
  | succ j ih =>
    intro f l hl hf
    obtain ⟨f, rfl⟩ : ∃ g, f = g + 1 := ⟨f - 1, by omega⟩
    rw [m_lowest_42, if_neg (show ¬ (28 : Int32) ≤ nI l from nI_ge (b := 28) (by omega) (by omega))]
    have hs : 28 * a + l < 448 := by omega
    have e28 : (28 : Int32) * nI a + nI l = nI (28 * a + l) := by rw [show (28 : Int32) = nI 28 from rfl, pk_mul, nI_add]
    have hi := ih f (l + 1) (by omega) (by omega)
    simp only [e28, px_ald (sh := sh_m) (N := 448) (o := 11) rfl hs (by decide), hD _ hs, gx_bs, m_rin (h5 _) hn, bI_ite]
    rw [nI_1, gfind]
    by_cases c : wit D n (28 * a + l) = true
    · rw [if_pos c, if_pos c]; rfl
    · rw [if_neg c, if_neg c]; exact hi
/-- both searches: the same minutes -/
theorem two_exp {wx wm : gx_Wd} (h : Inv wx wm) : ∃ (w1 w2 w3 : gx_Wd) (D : Nat → Option Nat), x_M_asTold wx = some w1 ∧ x_W_explore w1 = some w2 ∧ m_layWays wm = some w3 ∧ (∀ s, s < 448 → w2 33 s = dI (-9) (D s)) ∧ (∀ s, s < 448 → w3 11 s = dI (-1) (D s)) ∧ (∀ s, o5 (D s)) ∧ Inv w2 w3 := by
  have h0 := h
  obtain ⟨r, ri, k, f, hI⟩ := h
  obtain ⟨w1, e1, e2, hX⟩ := x_told hI.1.1 hI.1.2.2
  obtain ⟨w2, S, g1, g2, g3⟩ := x_exp hX hI.1.2.2
  obtain ⟨w3, S', d1, d2, d3⟩ := m_exp hI.mc hI.1.2.2
  have hD := DS_eq g3 d3
  refine ⟨w1, w2, w3, S.1, e1, g1, d1, g2.2.1, fun s hs => by rw [hD]; exact d2.2.1 s hs, fun s e he => g2.2.2.2.2.2.2.1 s e he, h0.to (fun o k hk => ?_) (fun o k hk => ?_)⟩
  · rw [g2.2.2.2.2.2.2.2 o (by unfold xKeep at hk; omega), e2 o (by unfold xKeep at hk; omega)]
  · exact d2.2.2.2.2.2.2.2 o k (by unfold mKeep at hk; omega) (by unfold mKeep at hk; omega) (by unfold mKeep at hk; omega)
theorem P_way {wx wm : gx_Wd} (v : Int32) (h : Inv wx wm) : Eq2 (x_E_way v wx) (m_way v wm) := by
  unfold x_E_way m_way
  have h0 := h
  obtain ⟨r, ri, k, f, hI⟩ := h
  have hn := hI.1.2.2.1
  by_cases c0 : 0 ≤ v
  · simp only [if_pos c0, x_lastAt hn hI.1.1.n, m_lastAt_ok hn hI.1.2.1.n, gx_bs]
    have hl : lA (r 0 0) ≤ 15 := by unfold lA; split <;> omega
    by_cases c1 : v ≤ nI (lA (r 0 0))
    · obtain ⟨a, ha, rfl⟩ := le_nat (by omega) c0 c1
      rw [if_pos c1, if_pos c1]
      obtain ⟨w1, w2, w3, D, e1, e2, e3, hx, hm, h5, hI2⟩ := two_exp h0
      have f1 : x_W_fewestTo (nI a) w2 = some (dI (-9) (fwF D a 28 0 none), w2) := x_fewL hx h5 (show a < 16 by omega) 28 6000 0 none (fun e he => by cases he) (by omega) (by omega)
      have f2 : m_way_35 6000 (nI a) (-9) 0 w3 = some (dI (-9) (fwF D a 28 0 none), w3) := m_wayL hm h5 (show a < 16 by omega) 28 6000 0 none (fun e he => by cases he) (by omega) (by omega)
      simp only [e1, e2, e3, f1, f2, gx_bs]
      exact ⟨_, _, _, rfl, rfl, hI2⟩
    · rw [if_neg c1, if_neg c1]
      exact refE 6 (by decide) h0 rfl rfl
  · simp only [if_neg c0]
    exact refE 4 (by decide) h0 rfl rfl
theorem P_reach {wx wm : gx_Wd} (v : Int32) (h : Inv wx wm) : Eq2 (x_E_reach v wx) (m_reach v wm) := by
  unfold x_E_reach m_reach
  by_cases c0 : 0 ≤ v
  · simp only [if_pos c0]
    by_cases c1 : v ≤ 40
    · obtain ⟨n, hn, rfl⟩ := le_nat (n := 40) (by decide) c0 c1
      simp only [if_pos c1]
      obtain ⟨w1, w2, w3, D, e1, e2, e3, hx, hm, h5, hI2⟩ := two_exp h
      have f1 : x_W_reachedWithin (nI n) w2 = some (bitF (fun a => (gfind (fun l => wit D n (28 * a + l)) 28 0).isSome) 16 0 0, w2) := x_reaL hx h5 hn 16 6000 0 0 (by omega) (by omega)
      have f2 : m_reach_32 6000 (nI n) 0 0 w3 = some (mrF (wit D n) 448 0 0, w3) := m_reaL hm h5 hn 448 6000 0 0 (by omega) (by omega)
      have f3 : mrF (wit D n) 448 0 0 = bitF (fun a => (gfind (fun l => wit D n (28 * a + l)) 28 0).isSome) 16 0 0 := mr_bit (P := wit D n) 16 0 0
      rw [f3] at f2
      simp only [e1, e2, e3, f1, f2, gx_bs]
      exact ⟨_, _, _, rfl, rfl, hI2⟩
    · simp only [if_neg c1]
      exact refE 6 (by decide) h rfl rfl
  · simp only [if_neg c0]
    exact refE 4 (by decide) h rfl rfl
theorem P_lowest {wx wm : gx_Wd} (v z : Int32) (h : Inv wx wm) : Eq2 (x_E_lowest v z wx) (m_lowest v z wm) := by
  unfold x_E_lowest m_lowest
  have h0 := h
  obtain ⟨r, ri, k, f, hI⟩ := h
  have hn := hI.1.2.2.1
  have hl : lA (r 0 0) ≤ 15 := by unfold lA; split <;> omega
  by_cases c0 : v < 0
  · rw [if_pos c0, if_pos c0]
    exact refE 4 (by decide) h0 rfl rfl
  · rw [if_neg c0, if_neg c0]
    by_cases c1 : 0 ≤ z
    · simp only [if_pos c1, x_lastAt hn hI.1.1.n, m_lastAt_ok hn hI.1.2.1.n, gx_bs]
      by_cases c2 : nI (lA (r 0 0)) < v
      · rw [if_pos c2, if_pos c2]
        exact refE 6 (by decide) h0 rfl rfl
      · rw [if_neg c2, if_neg c2]
        by_cases c3 : z ≤ 40
        · rw [if_pos c3, if_pos c3]
          obtain ⟨n, hn2, rfl⟩ := le_nat (n := 40) (by decide) c1 c3
          obtain ⟨a, ha, rfl⟩ := nI_of c0
          have ha2 : a ≤ lA (r 0 0) := by
            rcases Nat.lt_or_ge (lA (r 0 0)) a with q | q
            · exact absurd (nI_lt q ha) c2
            · exact q
          obtain ⟨w1, w2, w3, D, e1, e2, e3, hx, hm, h5, hI2⟩ := two_exp h0
          have f1 : x_W_lowestAt (nI a) (nI n) w2 = some (lwR (gfind (fun l => wit D n (28 * a + l)) 28 0), w2) := x_lowL hx h5 (show a < 16 by omega) hn2 28 6000 0 (by omega) (by omega)
          have f2 : m_lowest_42 6000 (nI a) (nI n) 0 w3 = some (lwR (gfind (fun l => wit D n (28 * a + l)) 28 0), w3) := m_lowL hm h5 (show a < 16 by omega) hn2 28 6000 0 (by omega) (by omega)
          simp only [e1, e2, e3, f1, f2, gx_bs]
          exact ⟨_, _, _, rfl, rfl, hI2⟩
        · rw [if_neg c3, if_neg c3]
          exact refE 6 (by decide) h0 rfl rfl
    · rw [if_neg c1, if_neg c1]
      exact refE 4 (by decide) h0 rfl rfl
