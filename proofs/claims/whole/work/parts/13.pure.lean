/-! ===== PURE: numbers, worlds, the small functions ===== -/
theorem nl (n : Nat) : (no_index (OfNat.ofNat n) : Int32) = nI n := rfl
theorem gx_bs {α β : Type} {a : α} {f : α → Option β} : (some a).bind f = f a := by
  have h : ∀ o : Option α, o = some a → o.bind f = f a := fun o h => by rw [h]; rfl
  exact h _ rfl
theorem px_w (w : gx_Wd) (o k : Nat) (v : Int32) (o' k' : Nat) : gx_w w o k v o' k' = if o' = o then (if k' = k then v else w o k') else w o' k' := by
  unfold gx_w
  by_cases h : o' = o
  · simp [h, upd]
  · simp [h]
theorem px_wo {w : gx_Wd} {o k : Nat} {v : Int32} {o' : Nat} (h : o' ≠ o) : gx_w w o k v o' = w o' := by
  unfold gx_w; rw [if_neg h]
theorem px_ws {w : gx_Wd} {o k : Nat} {v : Int32} : gx_w w o k v o k = v := by rw [px_w]; simp
theorem px_wn {w : gx_Wd} {o k k' : Nat} {v : Int32} (h : k' ≠ k) : gx_w w o k v o k' = w o k' := by rw [px_w]; simp [h]
theorem px_ald {sh : List gx_Sh} {w : gx_Wd} {o N k : Nat} (hs : sh[o]? = some (.inl N)) (hk : k < N) (hN : N < 2 ^ 31) : gx_ald sh w o (nI k) = some (w o k) := by
  unfold gx_ald
  rw [hs]
  simp only
  rw [nI_clamp (by omega), if_neg]
  rintro (h | h)
  · exact nI_pos (by omega) h
  · omega
theorem px_ast {sh : List gx_Sh} {w : gx_Wd} {o N k : Nat} {v : Int32} (hs : sh[o]? = some (.inl N)) (hk : k < N) (hN : N < 2 ^ 31) : gx_ast sh w o (nI k) v = some (gx_w w o k v) := by
  unfold gx_ast
  rw [hs]
  simp only
  rw [nI_clamp (by omega), if_neg]
  rintro (h | h)
  · exact nI_pos (by omega) h
  · omega
theorem px_aln {sh : List gx_Sh} {o N : Nat} (hs : sh[o]? = some (.inl N)) : gx_aln sh o = some (nI N) := by
  unfold gx_aln
  rw [hs]
  rfl
theorem px_cell {w : gx_Wd} {o N k : Nat} (hs : sh_x[o]? = some (.inl N)) (hk : k < N) (hN : N < 2 ^ 31) : x_E_cell o (nI k) w = some (w o k, w) := by
  unfold x_E_cell
  rw [if_neg (nI_pos (by omega)), px_aln hs, Option.bind_some, if_neg (nI_ge hk (by omega)), px_ald hs hk hN, Option.bind_some]
theorem px_cellO {w : gx_Wd} {o N k : Nat} (hs : sh_x[o]? = some (.inl N)) (hk : N ≤ k) (hN : k < 2 ^ 31) : x_E_cell o (nI k) w = some (0, w) := by
  unfold x_E_cell
  rw [if_neg (nI_pos (by omega)), px_aln hs, Option.bind_some, if_pos (nI_le hk (by omega))]
theorem px_cellN {w : gx_Wd} {o : Nat} : x_E_cell o (-1) w = some (0, w) := by
  unfold x_E_cell
  rw [if_pos (by decide)]
theorem px_set {w : gx_Wd} {o N k : Nat} {v : Int32} (hs : sh_x[o]? = some (.inl N)) (hk : k < N) (hN : N < 2 ^ 31) : x_E_setCell o (nI k) v w = some (1, gx_w w o k v) := by
  unfold x_E_setCell
  rw [if_neg (nI_pos (by omega)), px_aln hs, Option.bind_some, if_pos (nI_lt hk (by omega)), px_ast hs hk hN, Option.bind_some]
theorem px_exch {w : gx_Wd} {o N k : Nat} {v : Int32} (hs : sh_x[o]? = some (.inl N)) (hk : k < N) (hN : N < 2 ^ 31) : x_E_exchange o (nI k) v w = some (w o k, gx_w w o k v) := by
  unfold x_E_exchange
  rw [px_cell hs hk hN, Option.bind_some, px_set hs hk hN, Option.bind_some]
theorem px_copyL {p q N : Nat} (hp : sh_x[p]? = some (.inl N)) (hq : sh_x[q]? = some (.inl N)) (hpq : p ≠ q) (hN : N < 2 ^ 31) : ∀ (j f i : Nat) (w : gx_Wd), i + j = N → j < f → ∃ w', x_E_copyCells_11 f p q (nI i) w = some w' ∧ (∀ o, o ≠ q → w' o = w o) ∧ (∀ k, k < i → w' q k = w q k) ∧ ∀ k, i ≤ k → k < N → w' q k = w p k := by
  intro j
  induction j with
  | zero =>
    intro f i w hi hf
    obtain ⟨f, rfl⟩ : ∃ g, f = g + 1 := ⟨f - 1, by omega⟩
    refine ⟨w, ?_, fun _ _ => rfl, fun _ _ => rfl, fun k h1 h2 => by omega⟩
    rw [x_E_copyCells_11, px_aln hp, Option.bind_some, if_pos (nI_le (by omega) (by omega))]
  | succ j ih =>
    intro f i w hi hf
    obtain ⟨f, rfl⟩ : ∃ g, f = g + 1 := ⟨f - 1, by omega⟩
    obtain ⟨w', h1, h2, h3, h4⟩ := ih f (i + 1) (gx_w w q i (w p i)) (by omega) (by omega)
    refine ⟨w', ?_, fun o ho => ?_, fun k hk => ?_, fun k hk1 hk2 => ?_⟩
    · rw [x_E_copyCells_11, px_aln hp, Option.bind_some, if_neg (nI_ge (by omega) (by omega)), px_aln hq, Option.bind_some, if_neg (nI_ge (by omega) (by omega)), px_ald hp (by omega) hN, Option.bind_some, px_ast hq (by omega) hN, Option.bind_some, Option.bind_some]
      rw [show nI i + 1 = nI (i + 1) from nI_1 i]
      exact h1
    · rw [h2 o ho, px_wo ho]
    · rw [h3 k (by omega), px_wn (by omega)]
    · by_cases hki : k = i
      · subst hki
        rw [h3 k (by omega), px_ws]
      · rw [h4 k (by omega) hk2, px_wo hpq]
theorem px_copy {p q N : Nat} (w : gx_Wd) (hp : sh_x[p]? = some (.inl N)) (hq : sh_x[q]? = some (.inl N)) (hpq : p ≠ q) (hN : N < 5000) : ∃ w', x_E_copyCells p q w = some w' ∧ (∀ o, o ≠ q → w' o = w o) ∧ ∀ k, k < N → w' q k = w p k := by
  obtain ⟨w', h1, h2, -, h4⟩ := px_copyL hp hq hpq (by omega) N 6000 0 w (by omega) (by omega)
  exact ⟨w', h1, h2, fun k hk => h4 k (Nat.zero_le k) hk⟩
/-- sums of the first n -/
def sm (f : Nat → Int32) : Nat → Int32
  | 0 => 0
  | n + 1 => sm f n + f n
theorem sm_congr {f g : Nat → Int32} : ∀ n, (∀ i, i < n → f i = g i) → sm f n = sm g n := by
  intro n
  induction n with
  | zero => intro _; rfl
  | succ n ih => intro h; rw [sm, sm, ih (fun i hi => h i (by omega)), h n (by omega)]
theorem px_sumL {o N n : Nat} (hs : sh_x[o]? = some (.inl N)) (hn : n ≤ N) (hN : N < 2 ^ 31) (w : gx_Wd) : ∀ (j f i : Nat), i + j = n → j < f → x_E_sumOf_4 f o (nI n) (sm (w o) i) (nI i) w = some (sm (w o) n, w) := by
  intro j
  induction j with
  | zero =>
    intro f i hi hf
    obtain ⟨f, rfl⟩ : ∃ g, f = g + 1 := ⟨f - 1, by omega⟩
    rw [x_E_sumOf_4, if_pos (nI_le (by omega) (by omega))]
    rw [show i = n by omega]
  | succ j ih =>
    intro f i hi hf
    obtain ⟨f, rfl⟩ : ∃ g, f = g + 1 := ⟨f - 1, by omega⟩
    rw [x_E_sumOf_4, if_neg (nI_ge (by omega) (by omega)), px_cell hs (by omega) hN, Option.bind_some, Option.bind_some, Option.bind_some]
    rw [show nI i + 1 = nI (i + 1) from nI_1 i]
    exact ih f (i + 1) (by omega) (by omega)
theorem px_sum {o N n : Nat} (hs : sh_x[o]? = some (.inl N)) (hn : n ≤ N) (hN : N < 5000) (w : gx_Wd) : x_E_sumOf o (nI n) w = some (sm (w o) n, w) := px_sumL hs hn (by omega) w n 6000 0 (by omega) (by omega)
/-- the first place, of so many from i on, at which P holds -/
def gfind (P : Nat → Bool) : Nat → Nat → Option Nat
  | 0, _ => none
  | f + 1, i => if P i = true then some i else gfind P f (i + 1)
theorem gfind_none {P : Nat → Bool} : ∀ f i, gfind P f i = none ↔ ∀ j, i ≤ j → j < i + f → P j = false := by
  intro f
  induction f with
  | zero => intro i; simp [gfind]; intro j h1 h2; omega
  | succ f ih =>
    intro i
    rw [gfind]
    by_cases h : P i = true
    · rw [if_pos h]
      constructor
      · intro h2; cases h2
      · intro h2; rw [h2 i (Nat.le_refl i) (by omega)] at h; cases h
    · rw [if_neg h, ih]
      constructor
      · intro h2 j h3 h4
        by_cases hj : j = i
        · subst hj; simpa using h
        · exact h2 j (by omega) (by omega)
      · intro h2 j h3 h4; exact h2 j (by omega) (by omega)
theorem gfind_some {P : Nat → Bool} : ∀ f i j, gfind P f i = some j → i ≤ j ∧ j < i + f ∧ P j = true := by
  intro f
  induction f with
  | zero => intro i j h; cases h
  | succ f ih =>
    intro i j h
    rw [gfind] at h
    by_cases hp : P i = true
    · rw [if_pos hp] at h; cases h; exact ⟨Nat.le_refl _, by omega, hp⟩
    · rw [if_neg hp] at h
      obtain ⟨h1, h2, h3⟩ := ih _ _ h
      exact ⟨by omega, by omega, h3⟩
theorem gfind_congr {P Q : Nat → Bool} : ∀ f i, (∀ j, i ≤ j → j < i + f → P j = Q j) → gfind P f i = gfind Q f i := by
  intro f
  induction f with
  | zero => intro i _; rfl
  | succ f ih => intro i h; rw [gfind, gfind, h i (Nat.le_refl i) (by omega), ih (i + 1) (fun j h1 h2 => h j (by omega) (by omega))]
def bI (b : Bool) : Int32 := if b = true then 1 else 0
theorem bI_0 {b : Bool} : bI b = 0 ↔ b = false := by cases b <;> decide
theorem bI_1 {b : Bool} : bI b = 1 ↔ b = true := by cases b <;> decide
theorem bI_01 (b : Bool) : bI b = 0 ∨ bI b = 1 := by cases b <;> decide
/-! numbers against literals -/
theorem ql_eq {a n : Nat} (ha : a < 2 ^ 31) (hn : n < 2 ^ 31) : nI a = (no_index (OfNat.ofNat n) : Int32) ↔ a = n := nI_eq ha hn
theorem ql_le {a n : Nat} (ha : a < 2 ^ 31) (hn : n < 2 ^ 31) : (no_index (OfNat.ofNat n) : Int32) ≤ nI a ↔ n ≤ a := nI_leI hn ha
theorem ql_ge {a n : Nat} (ha : a < 2 ^ 31) (hn : n < 2 ^ 31) : nI a ≤ (no_index (OfNat.ofNat n) : Int32) ↔ a ≤ n := nI_leI ha hn
theorem ql_lt {a n : Nat} (ha : a < 2 ^ 31) (hn : n < 2 ^ 31) : (no_index (OfNat.ofNat n) : Int32) < nI a ↔ n < a := nI_ltI hn ha
theorem ql_gt {a n : Nat} (ha : a < 2 ^ 31) (hn : n < 2 ^ 31) : nI a < (no_index (OfNat.ofNat n) : Int32) ↔ a < n := nI_ltI ha hn
theorem qn_eq {a b : Nat} (ha : a < 2 ^ 31) (hb : b < 2 ^ 31) : nI a = nI b ↔ a = b := nI_eq ha hb
theorem qn_le {a b : Nat} (ha : a < 2 ^ 31) (hb : b < 2 ^ 31) : nI a ≤ nI b ↔ a ≤ b := nI_leI ha hb
theorem qn_lt {a b : Nat} (ha : a < 2 ^ 31) (hb : b < 2 ^ 31) : nI a < nI b ↔ a < b := nI_ltI ha hb
theorem ql_add {a n : Nat} : nI a + (no_index (OfNat.ofNat n) : Int32) = nI (a + n) := nI_add a n
theorem qn_add {a b : Nat} : nI a + nI b = nI (a + b) := nI_add a b
theorem ql_mul {a n : Nat} : nI a * (no_index (OfNat.ofNat n) : Int32) = nI (a * n) := pk_mul a n
theorem ql_mulL {a n : Nat} : (no_index (OfNat.ofNat n) : Int32) * nI a = nI (n * a) := pk_mul n a
theorem qn_mul {a b : Nat} : nI a * nI b = nI (a * b) := pk_mul a b
theorem ql_div {a n : Nat} (ha : a < 2 ^ 31) (h0 : 0 < n) (hn : n < 2 ^ 31) : nI a / (no_index (OfNat.ofNat n) : Int32) = nI (a / n) := pk_div ha h0 hn
theorem ql_sub {a n : Nat} (h : n ≤ a) : nI a - (no_index (OfNat.ofNat n) : Int32) = nI (a - n) := pk_sub h
theorem qn_sub {a b : Nat} (h : b ≤ a) : nI a - nI b = nI (a - b) := pk_sub h
