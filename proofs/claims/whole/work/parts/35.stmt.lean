/-! ===== the text: a statement read, on both sides ===== -/
section
variable {w : gx_Wd} {t : Lt} {f p : Nat}
theorem x_kind (h : XT w t f p) {acc : List Nat} (hN : NT w acc) (hl : acc.length < 3) : ∃ w', x_T_readKind w = some (bI (kd (ltr t f p)).isSome, w') ∧ Un w w' ∧ XT w' t f (match kd (ltr t f p) with | some _ => p + 1 | none => p) ∧ ∀ k, kd (ltr t f p) = some k → NT w' (acc ++ [k]) := by
  have hT : TXT 1006 _ := TXT_of (i := 6) (by decide)
  have hk : x_T_readKind_7 6000 (ltr t f p) (nI 0) w = match kd (ltr t f p) with | none => some (0, w) | some k => x_T_readKind_26 (nI k) w := x_kdL hT (gx_txb.getD 6 []) 6000 0 rfl (by simp) (show 6 < 6000 by omega)
  have e0 : x_T_readKind w = x_T_readKind_7 6000 (ltr t f p) (nI 0) w := by
    unfold x_T_readKind
    simp only [x_here h, gx_bs]
    rfl
  rw [e0, hk]
  cases hc : kd (ltr t f p) with
  | none => exact ⟨w, rfl, fun _ _ _ _ => rfl, h, fun k hk => by cases hk⟩
  | some k =>
    have hp : p < f := ltr_lt (t := t) (fun z => by rw [z, show kd (-1) = none by decide] at hc; cases hc)
    obtain ⟨e1, e2, e3⟩ := x_adv h hp
    have hN2 : NT (gx_w w 29 2 (nI (p + 1))) acc := hN.mv (px_wk (by decide)) (px_wo (by decide))
    obtain ⟨w', g1, g2, g3, g4⟩ := x_keep e2 hN2 hl k
    refine ⟨w', ?_, e3.tr g4, g2, fun k hk => by cases hk; exact g3⟩
    simp only [x_T_readKind_26, e1, g1, gx_bs]
    rfl
theorem bI_rt {α : Type} {b : Bool} {x : Option α} : (if bI b = 0 ∨ bI b = 1 then x else none) = x := if_pos (bI_01 b)
def nk (c : Int32) : Nat := if c = 68 ∨ c = 75 ∨ c = 78 then 1 else 0
theorem x_one (h : XT w t f p) {acc : List Nat} (hN : NT w acc) {c : Int32} (hl : acc.length + nk c ≤ 3) (hc : c ≠ -1) : ∃ w', x_T_readPart c w = some (bI (one (ltr t f) c p).isSome, w') ∧ Un w w' ∧ XT w' t f (match one (ltr t f) c p with | some z => z.1 | none => p) ∧ ∀ z, one (ltr t f) c p = some z → NT w' (acc ++ z.2) ∧ z.2.length = nk c := by
  unfold nk at hl ⊢
  unfold one x_T_readPart
  by_cases c1 : c = 68
  · rw [if_pos (Or.inl c1)] at hl
    obtain ⟨w', g1, g2, g3, g4⟩ := x_num1 h hN (show acc.length < 3 by omega)
    simp only [if_pos c1, g1, gx_bs, bI_rt]
    refine ⟨w', ?_, g2, ?_, fun z hz => ?_⟩
    · cases nm1 (ltr t f) p <;> rfl
    · cases hh : nm1 (ltr t f) p with
      | none => rw [hh] at g3; exact g3
      | some z => rw [hh] at g3; exact g3
    · rw [Option.map_eq_some_iff] at hz
      obtain ⟨y, hy, rfl⟩ := hz
      exact ⟨g4 y hy, by rw [if_pos (Or.inl c1)]; rfl⟩
  simp only [if_neg c1]
  by_cases c2 : c = 75
  · rw [if_pos (Or.inr (Or.inl c2))] at hl
    obtain ⟨w', g1, g2, g3, g4⟩ := x_kind h hN (show acc.length < 3 by omega)
    simp only [if_pos c2, g1, gx_bs, bI_rt]
    refine ⟨w', ?_, g2, ?_, fun z hz => ?_⟩
    · cases kd (ltr t f p) <;> rfl
    · cases hh : kd (ltr t f p) with
      | none => rw [hh] at g3; exact g3
      | some z => rw [hh] at g3; exact g3
    · rw [Option.map_eq_some_iff] at hz
      obtain ⟨y, hy, rfl⟩ := hz
      exact ⟨g4 y hy, by rw [if_pos (Or.inr (Or.inl c2))]; rfl⟩
  simp only [if_neg c2]
  by_cases c3 : c = 78
  · rw [if_pos (Or.inr (Or.inr c3))] at hl
    obtain ⟨w', g1, g2, g3, g4⟩ := x_num2 h hN (show acc.length < 3 by omega)
    simp only [if_pos c3, g1, gx_bs, bI_rt]
    refine ⟨w', ?_, g2, ?_, fun z hz => ?_⟩
    · cases nm2 (ltr t f) p <;> rfl
    · cases hh : nm2 (ltr t f) p with
      | none => rw [hh] at g3; exact g3
      | some z => rw [hh] at g3; exact g3
    · rw [Option.map_eq_some_iff] at hz
      obtain ⟨y, hy, rfl⟩ := hz
      exact ⟨g4 y hy, by rw [if_pos (Or.inr (Or.inr c3))]; rfl⟩
  simp only [if_neg c3, x_here h, gx_bs]
  by_cases c4 : ltr t f p = c
  · have hp : p < f := ltr_lt (t := t) (by rw [c4]; exact hc)
    obtain ⟨e1, e2, e3⟩ := x_adv h hp
    simp only [if_pos c4, e1, gx_bs]
    refine ⟨_, rfl, e3, e2, fun z hz => ?_⟩
    cases hz
    refine ⟨?_, by rw [if_neg (by simp [c1, c2, c3])]; rfl⟩
    rw [List.append_nil]
    exact hN.mv (px_wk (by decide)) (px_wo (by decide))
  · simp only [if_neg c4]
    exact ⟨w, rfl, fun _ _ _ _ => rfl, h, fun z hz => by cases hz⟩
def nn : List Int32 → Nat
  | [] => 0
  | c :: t => nk c + nn t
end
theorem x_run {t : Lt} {f q : Nat} {cs : List Int32} (hT : TXT q cs) : ∀ (rest : List Int32) (fu i p : Nat) (acc : List Nat) (w : gx_Wd), cs.drop i = rest → i + rest.length = cs.length → rest.length < fu → XT w t f p → NT w acc → acc.length + nn rest ≤ 3 → (∀ c ∈ rest, c ≠ -1) → ∃ w', x_T_readStatement_42 fu q (nI i) w = some (bI (run (ltr t f) rest p acc).1, w') ∧ Un w w' ∧ XT w' t f (run (ltr t f) rest p acc).2.1 ∧ ((run (ltr t f) rest p acc).1 = true → NT w' (run (ltr t f) rest p acc).2.2) := by
  obtain ⟨h1, h2, h3, h4⟩ := hT
  intro rest
  induction rest with
  | nil =>
    intro fu i p acc w hd hi hf h hN hl hc
    obtain ⟨fu, rfl⟩ : ∃ g, fu = g + 1 := ⟨fu - 1, by omega⟩
    rw [List.length_nil] at hi
    refine ⟨w, ?_, fun _ _ _ _ => rfl, h, fun _ => hN⟩
    rw [x_T_readStatement_42, h1, gx_bs, if_pos (nI_le (by omega) (by omega))]
    rfl
  | cons a rest ih =>
    intro fu i p acc w hd hi hf h hN hl hc
    obtain ⟨fu, rfl⟩ : ∃ g, fu = g + 1 := ⟨fu - 1, by omega⟩
    have ha : cs[i]? = some a := by
      have := congrArg (fun l => l[0]?) hd
      simpa using this
    have hli := (List.getElem?_eq_some_iff.mp ha).1
    have hd2 : cs.drop (i + 1) = rest := by
      rw [← List.drop_drop, hd]
      rfl
    rw [nn] at hl
    obtain ⟨w1, e1, e2, e3, e4⟩ := x_one h hN (c := a) (by omega) (hc a (List.mem_cons_self ..))
    rw [run]
    cases ho : one (ltr t f) a p with
    | none =>
      rw [ho] at e1 e3
      refine ⟨w1, ?_, e2, e3, fun z => by cases z⟩
      rw [x_T_readStatement_42, h1, gx_bs, if_neg (nI_ge hli (by omega)), h2 i a ha, gx_bs, e1, gx_bs]
      rfl
    | some z =>
      rw [ho] at e1 e3
      obtain ⟨d1, d2⟩ := e4 z ho
      obtain ⟨w', g1, g2, g3, g4⟩ := ih fu (i + 1) z.1 (acc ++ z.2) w1 hd2 (by simp at hi; omega) (by simp at hf; omega) e3 d1 (by rw [List.length_append, d2]; omega) (fun c hc2 => hc c (List.mem_cons_of_mem _ hc2))
      refine ⟨w', ?_, e2.tr g2, g3, g4⟩
      rw [x_T_readStatement_42, h1, gx_bs, if_neg (nI_ge hli (by omega)), h2 i a ha, gx_bs, e1, gx_bs]
      rw [if_neg (show ¬ bI (some z).isSome = 0 from (by decide : ¬ (1 : Int32) = 0)), gx_bs, nI_1]
      exact g1
theorem form_nn (c : Int32) : nn (form c) ≤ 3 := by
  unfold form
  repeat' split
  all_goals decide
theorem form_len (c : Int32) : (form c).length < 6000 := by
  unfold form
  repeat' split
  all_goals decide
def Us (w w' : gx_Wd) : Prop := ∀ o k, o ≠ 31 → ¬ (o = 29 ∧ (k = 2 ∨ k = 3 ∨ k = 5)) → w' o k = w o k
theorem x_stmt {w : gx_Wd} {t : Lt} {f p : Nat} (h : XT w t f p) : ∃ w', x_T_readStatement w = some (bI (ps (ltr t f) p).1, w') ∧ Us w w' ∧ XT w' t f (ps (ltr t f) p).2.1 ∧ ((ps (ltr t f) p).1 = true → NT w' (ps (ltr t f) p).2.2 ∧ w' 29 3 = ltr t f p) := by
  have hu0 : Un w (gx_w w 29 5 0) := fun o k a b => px_wk (by omega)
  have hX0 : XT (gx_w w 29 5 0) t f p := h.mv hu0 (by rw [px_wk (by decide)]; exact h.2.1) h.2.2.2.1
  have hX1 : XT (gx_w (gx_w w 29 5 0) 29 3 (ltr t f p)) t f p := ⟨by rw [px_wk (by decide)]; exact hX0.1, by rw [px_wk (by decide)]; exact hX0.2.1, fun i hi => by rw [px_wo (by decide)]; exact hX0.2.2.1 i hi, h.2.2.2⟩
  have hu1 : Us w (gx_w (gx_w w 29 5 0) 29 3 (ltr t f p)) := fun o k a b => by rw [px_wk (by omega), px_wk (by omega)]
  obtain ⟨q, hq, hT⟩ := x_form (ltr t f p) (gx_w (gx_w w 29 5 0) 29 3 (ltr t f p))
  have e0 : ∀ y, x_T_readStatement w = y ↔ (if bI (form (ltr t f p)).isEmpty = 0 then (gx_put (gx_w (gx_w w 29 5 0) 29 3 (ltr t f p)) 29 2 ((gx_w (gx_w w 29 5 0) 29 3 (ltr t f p)) 29 2 + 1)).bind fun w7 => x_T_readStatement_42 6000 q 0 w7 else some (0, gx_w (gx_w w 29 5 0) 29 3 (ltr t f p))) = y := by
    intro y
    unfold x_T_readStatement
    rw [show gx_put w 29 5 0 = some (gx_w w 29 5 0) from rfl, gx_bs, x_here hX0, gx_bs, show gx_put (ltr t f p, gx_w w 29 5 0).2 29 3 (ltr t f p, gx_w w 29 5 0).1 = some (gx_w (gx_w w 29 5 0) 29 3 (ltr t f p)) from rfl, gx_bs, px_ws, hq, gx_bs, hT.2.2.1, gx_bs]
  rw [bI_ite] at e0
  unfold ps
  by_cases c : (form (ltr t f p)).isEmpty = true
  · simp only [if_pos c] at e0 ⊢
    exact ⟨_, (e0 _).mpr rfl, hu1, hX1, fun z => by cases z⟩
  · simp only [if_neg c] at e0 ⊢
    have hp : p < f := ltr_lt (t := t) (fun z => c (by rw [z]; decide))
    obtain ⟨d1, d2, d3⟩ := x_adv hX1 hp
    have hN : NT (gx_w (gx_w (gx_w w 29 5 0) 29 3 (ltr t f p)) 29 2 (nI (p + 1))) [] := ⟨by rw [px_wk (by decide), px_wk (by decide), px_ws]; rfl, fun i v hi => by simp at hi⟩
    obtain ⟨w', g1, g2, g3, g4⟩ := x_run hT (form (ltr t f p)) 6000 0 (p + 1) [] _ rfl (by simp) (form_len _) d2 hN (by simpa using form_nn _) (fun c hc => form_ne hc)
    refine ⟨w', ?_, fun o k a b => by rw [g2 o k a (by omega), d3 o k a (by omega), hu1 o k a b], g3, fun z => ⟨g4 z, ?_⟩⟩
    · rw [e0, d1, gx_bs]
      exact g1
    · rw [g2 29 3 (by decide) (by decide), d3 29 3 (by decide) (by decide), px_ws]
