/-! ===== the orders: lists of them, and how many hold ===== -/
def hb (U b : Nat) : Bool := decide (U / 2 ^ b % 2 = 1)
def fl (U : Nat) : Nat → Nat → List Nat
  | 0, _ => []
  | j + 1, b => if hb U b = true then fl U j (b + 1) else b :: fl U j (b + 1)
def pc (U : Nat) : Nat := 7 - (fl U 7 0).length
def fac : Nat → Nat
  | 0 => 1
  | n + 1 => (n + 1) * fac n
theorem fl_mem {U : Nat} : ∀ j b c, c ∈ fl U j b → b ≤ c ∧ c < b + j ∧ hb U c = false := by
  intro j
  induction j with
  | zero => intro b c h; simp [fl] at h
  | succ j ih =>
    intro b c h
    rw [fl] at h
    by_cases hu : hb U b = true
    · rw [if_pos hu] at h
      obtain ⟨h1, h2, h3⟩ := ih _ _ h
      exact ⟨by omega, by omega, h3⟩
    · rw [if_neg hu] at h
      rcases List.mem_cons.mp h with h | h
      · subst h; exact ⟨by omega, by omega, by simpa using hu⟩
      · obtain ⟨h1, h2, h3⟩ := ih _ _ h
        exact ⟨by omega, by omega, h3⟩
theorem ob_len : ∀ n, n < 8 → ∀ U, U < 2 ^ n → (fl U n 0).length + pc U = n := by decide +kernel
theorem ob_pc : ∀ U, U < 128 → ∀ b, b < 7 → hb U b = false → pc (U + 2 ^ b) = pc U + 1 := by decide +kernel
theorem ob_lt : ∀ n, n < 8 → ∀ U, U < 2 ^ n → ∀ b, b < n → hb U b = false → U + 2 ^ b < 2 ^ n := by decide +kernel
theorem ob_hb : ∀ U, U < 128 → ∀ b, b < 7 → hb U b = false → hb (U + 2 ^ b) b = true := by decide +kernel
theorem ob_has : ∀ U, U < 128 → ∀ b, b < 7 → ((nI U >>> (nI b &&& 31)) &&& 1 = 1 ↔ hb U b = true) := by decide +kernel
theorem ob_or : ∀ U, U < 128 → ∀ b, b < 7 → hb U b = false → nI U ||| ((1 : Int32) <<< (nI b &&& 31)) = nI (U + 2 ^ b) := by decide +kernel
theorem ob_msk : ∀ n, n < 8 → ∀ U, U < 2 ^ n → ∀ b, b < n → ((nI (2 ^ n - 1 - U) >>> (nI b &&& 31)) &&& 1 = 1 ↔ hb U b = false) := by decide +kernel
theorem ob_xor : ∀ n, n < 8 → ∀ U, U < 2 ^ n → ∀ b, b < n → hb U b = false → nI (2 ^ n - 1 - U) &&& (((1 : Int32) <<< (nI b &&& 31)) ^^^ (-1)) = nI (2 ^ n - 1 - (U + 2 ^ b)) := by decide +kernel
theorem ob_shl : ∀ b, b < 8 → (1 : Int32) <<< (nI b &&& 31) = nI (2 ^ b) := by decide +kernel
theorem ob_shm : ∀ b, b < 8 → (1 : Int32) <<< (nI b &&& 31) - 1 = nI (2 ^ b - 1) := by decide +kernel
theorem ob_fac : ∀ j, j < 8 → 0 < fac j ∧ fac j ≤ 5040 := by decide +kernel
theorem ob_p2 {n U : Nat} (hn : n < 8) (h : U < 2 ^ n) : U < 128 := Nat.lt_of_lt_of_le h (show 2 ^ n ≤ 2 ^ 7 from Nat.pow_le_pow_right (by decide) (by omega))
def uq (q : Nat → Nat) (p b : Nat) : Nat → Nat := fun i => if i = p then b else q i
def Ls (n : Nat) : Nat → Nat → Nat → (Nat → Nat) → List (Nat → Nat)
  | 0, _, _, q => [q]
  | j + 1, p, U, q => (fl U n 0).flatMap (fun b => Ls n j (p + 1) (U + 2 ^ b) (uq q p b))
theorem Ls_pre {n : Nat} : ∀ j p U q q', q' ∈ Ls n j p U q → ∀ i, i < p ∨ p + j ≤ i → q' i = q i := by
  intro j
  induction j with
  | zero =>
    intro p U q q' h i hi
    rw [Ls, List.mem_singleton] at h
    rw [h]
  | succ j ih =>
    intro p U q q' h i hi
    rw [Ls, List.mem_flatMap] at h
    obtain ⟨b, hb1, hb2⟩ := h
    rw [ih _ _ _ _ hb2 i (by omega)]
    unfold uq
    rw [if_neg (by omega)]
theorem Ls_lt {n : Nat} : ∀ j p U q q', q' ∈ Ls n j p U q → ∀ i, p ≤ i → i < p + j → q' i < n := by
  intro j
  induction j with
  | zero => intro p U q q' h i h1 h2; omega
  | succ j ih =>
    intro p U q q' h i h1 h2
    rw [Ls, List.mem_flatMap] at h
    obtain ⟨b, hb1, hb2⟩ := h
    by_cases c : i = p
    · rw [Ls_pre _ _ _ _ _ hb2 i (by omega)]
      unfold uq
      rw [if_pos c]
      have := fl_mem _ _ _ hb1
      omega
    · exact ih _ _ _ _ hb2 i (by omega) (by omega)
theorem flat_len {α β : Type} {f : α → List β} {L : Nat} : ∀ l : List α, (∀ b ∈ l, (f b).length = L) → (l.flatMap f).length = l.length * L := by
  intro l
  induction l with
  | nil => intro _; simp
  | cons a l ih =>
    intro h
    rw [List.flatMap_cons, List.length_append, h a (List.mem_cons_self ..), ih (fun b hb => h b (List.mem_cons_of_mem _ hb)), List.length_cons, Nat.succ_mul, Nat.add_comm]
theorem flat_get {α β : Type} {f : α → List β} {L : Nat} (hL : 0 < L) : ∀ (l : List α) (i : Nat), (∀ b ∈ l, (f b).length = L) → (l.flatMap f)[i]? = (l[i / L]?).bind (fun b => (f b)[i % L]?) := by
  intro l
  induction l with
  | nil => intro i _; simp
  | cons a l ih =>
    intro i h
    have ha := h a (List.mem_cons_self ..)
    rw [List.flatMap_cons]
    by_cases c : i < L
    · rw [List.getElem?_append_left (by omega), Nat.div_eq_of_lt c, Nat.mod_eq_of_lt c]
      rfl
    · obtain ⟨d, rfl⟩ : ∃ d, i = d + L := ⟨i - L, by omega⟩
      rw [List.getElem?_append_right (by omega), ha, Nat.add_sub_cancel, Nat.add_div_right _ hL, Nat.add_mod_right, ih d (fun b hb => h b (List.mem_cons_of_mem _ hb))]
      rfl
theorem Ls_len {n : Nat} (hn : n < 8) : ∀ j p U q, U < 2 ^ n → pc U + j = n → (Ls n j p U q).length = fac j := by
  intro j
  induction j with
  | zero => intro p U q h1 h2; rfl
  | succ j ih =>
    intro p U q h1 h2
    have h3 := ob_len n hn U h1
    rw [Ls, flat_len (L := fac j)]
    · rw [show (fl U n 0).length = j + 1 by omega]
      rfl
    · intro b hb1
      obtain ⟨q1, q2, q3⟩ := fl_mem _ _ _ hb1
      refine ih _ _ _ (ob_lt n hn U h1 b (by omega) q3) ?_
      rw [ob_pc U (ob_p2 hn h1) b (by omega) q3]
      omega
section
variable (n : Nat) (M : Nat → Nat → Option Nat) (wt : Nat → Nat)
def lw (p : Nat) (pb : Bool) : Nat := if p = 0 then 0 else if pb = true then wt (p - 1) else 2 * wt (p - 1)
def bl (p c : Nat) (pb : Bool) (g : Nat) : Bool := match M c p with
  | none => true
  | some m => decide (lw wt p pb + g ≤ m)
def sc (p c : Nat) (pb : Bool) (b : Nat) : Bool := !((M c p).isNone && (M b (p + 1)).isNone && decide (0 < wt p)) && bl M wt p c pb (if (M b (p + 1)).isSome = true then wt p else 2 * wt p)
def Wn : Nat → Nat → Nat → Nat → Bool → Nat
  | 0, _, p, c, pb => if bl M wt p c pb 0 = true then 1 else 0
  | j + 1, U, p, c, pb => ((fl U n 0).map (fun b => if sc M wt p c pb b = true then Wn j (U + 2 ^ b) (p + 1) b (M c p).isSome else 0)).sum
def Tl : Nat → Nat → (Nat → Nat) → Bool → Bool
  | 0, p, q, pb => bl M wt p (q p) pb 0
  | j + 1, p, q, pb => sc M wt p (q p) pb (q (p + 1)) && Tl j (p + 1) q (M (q p) p).isSome
end
section
variable {n : Nat} {M : Nat → Nat → Option Nat} {wt : Nat → Nat}
theorem Tl_mem {j p U b : Nat} {q q' : Nat → Nat} {pb : Bool} (h : q' ∈ Ls n j (p + 2) U (uq q (p + 1) b)) : Tl M wt (j + 1) p q' pb = (sc M wt p (q p) pb b && Tl M wt j (p + 1) q' (M (q p) p).isSome) := by
  have e1 : q' p = q p := by
    rw [Ls_pre _ _ _ _ _ h p (by omega)]
    unfold uq
    rw [if_neg (by omega)]
  have e2 : q' (p + 1) = b := by
    rw [Ls_pre _ _ _ _ _ h (p + 1) (by omega)]
    unfold uq
    rw [if_pos rfl]
  rw [Tl, e1, e2]
theorem Wn_cnt : ∀ j p U q pb, (Ls n j (p + 1) U q).countP (fun q' => Tl M wt j p q' pb) = Wn n M wt j U p (q p) pb := by
  intro j
  induction j with
  | zero =>
    intro p U q pb
    rw [Ls, Wn]
    simp only [List.countP_cons, List.countP_nil, Tl, Nat.zero_add]
  | succ j ih =>
    intro p U q pb
    rw [Ls, List.countP_flatMap, Wn]
    congr 1
    refine List.map_congr_left (fun b hb1 => ?_)
    simp only [Function.comp]
    by_cases c : sc M wt p (q p) pb b = true
    · rw [if_pos c]
      have h := ih (p + 1) (U + 2 ^ b) (uq q (p + 1) b) (M (q p) p).isSome
      rw [show uq q (p + 1) b (p + 1) = b from if_pos rfl] at h
      rw [← h]
      refine List.countP_congr (fun q' hq' => ?_)
      rw [Tl_mem hq', c, Bool.true_and]
    · rw [if_neg c, List.countP_eq_zero]
      intro q' hq'
      rw [Tl_mem hq']
      simp [c]
theorem fS {α β : Type} {g g' : α → Option β} {cond : α → Bool} : ∀ l : List α, (∀ b ∈ l, cond b = true → g b = g' b ∧ (g b).isSome = true) → (∀ b ∈ l, cond b = false → g b = none) → l.findSome? g = (l.find? cond).bind g' := by
  intro l
  induction l with
  | nil => intro _ _; rfl
  | cons a l ih =>
    intro h1 h2
    rw [List.findSome?_cons, List.find?_cons]
    by_cases c : cond a = true
    · obtain ⟨e1, e2⟩ := h1 a (List.mem_cons_self ..) c
      obtain ⟨v, hv⟩ := Option.isSome_iff_exists.mp e2
      rw [c, hv]
      simp only
      rw [Option.bind_some, ← e1, hv]
    · have c2 : cond a = false := by simpa using c
      rw [c2, h2 a (List.mem_cons_self ..) c2]
      exact ih (fun b hb => h1 b (List.mem_cons_of_mem _ hb)) (fun b hb => h2 b (List.mem_cons_of_mem _ hb))
/-- which comes next, in the first order that holds -/
def nx (n : Nat) (M : Nat → Nat → Option Nat) (wt : Nat → Nat) (j U p c : Nat) (pb : Bool) (b : Nat) : Bool := sc M wt p c pb b && decide (0 < Wn n M wt j (U + 2 ^ b) (p + 1) b (M c p).isSome)
theorem find_cg {α : Type} {P Q : α → Bool} : ∀ {l : List α}, (∀ a ∈ l, P a = Q a) → l.find? P = l.find? Q := by
  intro l
  induction l with
  | nil => intro _; rfl
  | cons a l ih =>
    intro h
    rw [List.find?_cons, List.find?_cons, h a (List.mem_cons_self ..), ih (fun b hb => h b (List.mem_cons_of_mem _ hb))]
theorem find_pos {α : Type} {P : α → Bool} {l : List α} : (l.find? P).isSome = true ↔ 0 < l.countP P := by
  rw [List.find?_isSome, List.countP_pos_iff]
theorem Ls_find {j p U : Nat} {q : Nat → Nat} {pb : Bool} : (Ls n (j + 1) (p + 1) U q).find? (fun q' => Tl M wt (j + 1) p q' pb) = ((fl U n 0).find? (nx n M wt j U p (q p) pb)).bind (fun b => (Ls n j (p + 2) (U + 2 ^ b) (uq q (p + 1) b)).find? (fun q' => Tl M wt j (p + 1) q' (M (q p) p).isSome)) := by
  rw [Ls, List.find?_flatMap]
  have hc : ∀ b, (Ls n j (p + 2) (U + 2 ^ b) (uq q (p + 1) b)).countP (fun q' => Tl M wt j (p + 1) q' (M (q p) p).isSome) = Wn n M wt j (U + 2 ^ b) (p + 1) b (M (q p) p).isSome := by
    intro b
    have h := Wn_cnt (n := n) (M := M) (wt := wt) j (p + 1) (U + 2 ^ b) (uq q (p + 1) b) (M (q p) p).isSome
    rw [show uq q (p + 1) b (p + 1) = b from if_pos rfl] at h
    exact h
  have he : ∀ b, sc M wt p (q p) pb b = true → (Ls n j (p + 2) (U + 2 ^ b) (uq q (p + 1) b)).find? (fun q' => Tl M wt (j + 1) p q' pb) = (Ls n j (p + 2) (U + 2 ^ b) (uq q (p + 1) b)).find? (fun q' => Tl M wt j (p + 1) q' (M (q p) p).isSome) := by
    intro b c
    refine find_cg (fun q' hq' => ?_)
    rw [Tl_mem hq', c, Bool.true_and]
  refine fS _ (fun b hb1 c => ?_) (fun b hb1 c => ?_)
  · unfold nx at c
    rw [Bool.and_eq_true, decide_eq_true_eq] at c
    refine ⟨he b c.1, ?_⟩
    rw [he b c.1, find_pos, hc]
    exact c.2
  · unfold nx at c
    by_cases c1 : sc M wt p (q p) pb b = true
    · rw [c1, Bool.true_and, decide_eq_false_iff_not] at c
      rw [he b c1, ← Option.not_isSome_iff_eq_none, find_pos, hc]
      exact c
    · rw [List.find?_eq_none]
      intro q' hq'
      rw [Tl_mem hq']
      simp [c1]
theorem Wn_le (hn : n < 8) {j p U c : Nat} {pb : Bool} (h1 : U < 2 ^ n) (h2 : pc U + j = n) : Wn n M wt j U p c pb ≤ 5040 := by
  have h := Wn_cnt (n := n) (M := M) (wt := wt) j p U (fun _ => c) pb
  rw [← h]
  refine Nat.le_trans List.countP_le_length ?_
  rw [Ls_len hn _ _ _ _ h1 h2]
  exact (ob_fac j (by omega)).2
/-- the two: conditions one after the other, and firmness -/
theorem bl_iff {B : Nat → Bool} {G : Nat → Nat} {q : Nat → Nat} {p g : Nat} {pb : Bool} (hp : p < n) (hM : M (q p) p = if B p = true then some (2 * G p) else none) (hb1 : 0 < p → pb = B (p - 1)) (hg : g = if p + 1 < n then (if B (p + 1) = true then wt p else 2 * wt p) else 0) : bl M wt p (q p) pb g = true ↔ cL n B wt p ≤ 2 * G p := by
  unfold bl
  rw [hM]
  unfold cL
  by_cases c : B p = true
  · rw [if_pos c]
    simp only [decide_eq_true_eq, c, and_true]
    have e : lw wt p pb = if 1 ≤ p then (if B (p - 1) = true then wt (p - 1) else 2 * wt (p - 1)) else 0 := by
      unfold lw
      by_cases c0 : p = 0
      · rw [if_pos c0, if_neg (by omega)]
      · rw [if_neg c0, if_pos (show 1 ≤ p by omega), hb1 (by omega)]
    rw [e, hg]
  · rw [if_neg c]
    simp [c]
theorem Tl_iff {B : Nat → Bool} {G : Nat → Nat} {q : Nat → Nat} (hM : ∀ p, p < n → M (q p) p = if B p = true then some (2 * G p) else none) : ∀ j p pb, p + j + 1 = n → (0 < p → pb = B (p - 1)) → (Tl M wt j p q pb = true ↔ (∀ i, p ≤ i → i < n → cL n B wt i ≤ 2 * G i) ∧ ∀ s, p ≤ s → s + 1 < n → 0 < wt s → (B s = true ∨ B (s + 1) = true)) := by
  have hS : ∀ p, p < n → (M (q p) p).isSome = B p := by
    intro p hp
    rw [hM p hp]
    by_cases c : B p = true
    · rw [if_pos c, c]; rfl
    · rw [if_neg c]; simpa using (show B p = false by simpa using c).symm
  intro j
  induction j with
  | zero =>
    intro p pb hp hb1
    have hbl := bl_iff (n := n) (M := M) (wt := wt) (B := B) (G := G) (q := q) (p := p) (pb := pb) (g := 0) (by omega) (hM p (by omega)) hb1 (if_neg (by omega)).symm
    rw [Tl, hbl]
    constructor
    · intro h
      exact ⟨fun i h1 h2 => by rw [show i = p by omega]; exact h, fun s h1 h2 => by omega⟩
    · intro h
      exact h.1 p (Nat.le_refl _) (by omega)
  | succ j ih =>
    intro p pb hp hb1
    rw [Tl, Bool.and_eq_true, hS p (by omega), ih (p + 1) (B p) (by omega) (fun _ => by simp)]
    have e : sc M wt p (q p) pb (q (p + 1)) = true ↔ cL n B wt p ≤ 2 * G p ∧ (0 < wt p → (B p = true ∨ B (p + 1) = true)) := by
      unfold sc
      have h2 : (M (q p) p).isNone = !(B p) := by rw [← hS p (by omega)]; cases M (q p) p <;> rfl
      have h3 : (M (q (p + 1)) (p + 1)).isNone = !(B (p + 1)) := by rw [← hS (p + 1) (by omega)]; cases M (q (p + 1)) (p + 1) <;> rfl
      have hbl := bl_iff (n := n) (M := M) (wt := wt) (B := B) (G := G) (q := q) (p := p) (pb := pb) (g := if (M (q (p + 1)) (p + 1)).isSome = true then wt p else 2 * wt p) (by omega) (hM p (by omega)) hb1 (by rw [if_pos (show p + 1 < n by omega), hS (p + 1) (by omega)])
      rw [Bool.and_eq_true, hbl, h2, h3]
      have e2 : (!(!(B p) && !(B (p + 1)) && decide (0 < wt p))) = true ↔ (0 < wt p → (B p = true ∨ B (p + 1) = true)) := by
        cases B p <;> cases B (p + 1) <;> simp
      rw [e2]
      exact And.comm
    rw [e]
    constructor
    · rintro ⟨⟨h1, h2⟩, h3, h4⟩
      refine ⟨fun i i1 i2 => ?_, fun s s1 s2 => ?_⟩
      · by_cases c : i = p
        · rw [c]; exact h1
        · exact h3 i (by omega) i2
      · by_cases c : s = p
        · rw [c]; exact h2
        · exact h4 s (by omega) s2
    · rintro ⟨h1, h2⟩
      exact ⟨⟨h1 p (Nat.le_refl _) (by omega), h2 p (Nat.le_refl _) (by omega)⟩, fun i i1 i2 => h1 i (by omega) i2, fun s s1 s2 => h2 s (by omega) s2⟩
end
