/-! ===== BASE: a side's world as a function of object and place; the machine's rows over it ===== -/
/-- the words that every method has: the good words of the tables -/
def gx_big : List Cond := lw_tbl.filter goodWord
def gx_isNest : Cond → Bool
  | .fieldLinkNest .. => true
  | .methodLinkNest .. => true
  | _ => false
/-- the links to private members of nest mates -/
def gx_nest : List Cond := lw_tbl.filter gx_isNest
def gx_NW (U : State) : Prop := ∀ w ∈ gx_nest, va_Nw w U
theorem gx_NW.warm {s U : State} (hW : s.WarmedH U.vm) (h : gx_NW s) : gx_NW U := by
  intro w hw
  have hn := (List.mem_filter.mp hw).2
  have h1 := h w hw
  cases w <;> first | exact va_Nw.warmF hW h1 | exact va_Nw.warmM hW h1 | (simp [gx_isNest] at hn; done)
theorem gx_NW.same {s U : State} (hv : s.vm = U.vm) (h : gx_NW s) : gx_NW U := by
  intro w hw
  have hn := (List.mem_filter.mp hw).2
  have h1 := h w hw
  cases w <;> first | exact va_Nw.same rfl hv h1 | (simp [gx_isNest] at hn; done)
theorem gx_good {h c : Cond} (hc : c ∈ gx_big) : GoodIn (h :: gx_big) (c :: gx_big) := by
  intro w hw
  rcases List.mem_cons.mp hw with rfl | hw
  · exact ⟨List.mem_cons_of_mem _ hc, good_of_word (List.mem_filter.mp hc).2⟩
  · exact ⟨List.mem_cons_of_mem _ hw, good_of_word (List.mem_filter.mp hw).2⟩
abbrev gx_V : Type := Int32 ⊕ Nat
abbrev gx_Wd : Type := Nat → Nat → Int32
abbrev gx_Sh : Type := Nat ⊕ (Nat × List (Option Nat))
/-- a side: its objects' shapes, classes' numbers, addresses, the class of int[], the texts' rows -/
abbrev gx_Sd : Type := List gx_Sh × va_G × (Nat → Nat) × ClassId × (Nat → Nat)
def gx_cv (ad : Nat → Nat) : gx_V → Value
  | .inl x => .int x
  | .inr o => .ref (ad o)
def gx_fs (ad : Nat → Nat) (f : Nat → Int32) : Nat → List (Option Nat) → List Value
  | _, [] => []
  | k, none :: t => .int (f k) :: gx_fs ad f (k + 1) t
  | k, some o :: t => .ref (ad o) :: gx_fs ad f (k + 1) t
def gx_ce (S : gx_Sd) (f : Nat → Int32) : gx_Sh → va_E
  | .inl n => .inl (S.2.2.2.1, n, .inl f)
  | .inr c => .inr (c.1, gx_fs S.2.2.1 f 0 c.2)
def gx_cs (S : gx_Sd) (w : gx_Wd) : Nat → List gx_Sh → va_W
  | _, [] => []
  | k, s :: t => (S.2.2.1 k, gx_ce S (w k) s) :: gx_cs S w (k + 1) t
def gx_cells (S : gx_Sd) (w : gx_Wd) : va_W := gx_cs S w 0 S.1
theorem gx_cs_get (S : gx_Sd) (w : gx_Wd) : ∀ (t : List gx_Sh) (k i : Nat), (gx_cs S w k t)[i]? = (t[i]?).map (fun s => (S.2.2.1 (k + i), gx_ce S (w (k + i)) s)) := by
  intro t
  induction t with
  | nil => intro k i; simp [gx_cs]
  | cons s t ih =>
    intro k i
    cases i with
    | zero => simp [gx_cs]
    | succ i =>
      simp only [gx_cs, List.getElem?_cons_succ]
      rw [ih (k + 1) i, Nat.add_assoc, Nat.add_comm 1 i]
theorem gx_get {S : gx_Sd} {w : gx_Wd} {o : Nat} {s : gx_Sh} (h : S.1[o]? = some s) : (gx_cells S w)[o]? = some (S.2.2.1 o, gx_ce S (w o) s) := by
  unfold gx_cells
  rw [gx_cs_get, h]
  simp
theorem gx_fs_congr (ad : Nat → Nat) {f g : Nat → Int32} : ∀ (t : List (Option Nat)) (k : Nat), (∀ i, k ≤ i → f i = g i) → gx_fs ad f k t = gx_fs ad g k t := by
  intro t
  induction t with
  | nil => intro k _; rfl
  | cons a t ih =>
    intro k h
    have e := ih (k + 1) (fun i hi => h i (by omega))
    cases a with
    | none => simp only [gx_fs]; rw [e, h k (Nat.le_refl k)]
    | some o => simp only [gx_fs]; rw [e]
theorem gx_fs_set (ad : Nat → Nat) {f : Nat → Int32} {x : Int32} : ∀ (t : List (Option Nat)) (j k : Nat), t[k]? = some none → (gx_fs ad f j t).set k (.int x) = gx_fs ad (upd f (j + k) x) j t := by
  intro t
  induction t with
  | nil => intro j k h; simp at h
  | cons a t ih =>
    intro j k h
    cases k with
    | zero =>
      simp only [List.getElem?_cons_zero, Option.some.injEq] at h
      subst h
      simp only [gx_fs, List.set_cons_zero, Nat.add_zero]
      rw [gx_fs_congr ad (f := upd f j x) (g := f) t (j + 1) (fun i hi => by simp [upd]; omega)]
      simp [upd]
    | succ k =>
      have e := ih (j + 1) k (by simpa using h)
      rw [show j + 1 + k = j + (k + 1) by omega] at e
      cases a with
      | none =>
        simp only [gx_fs, List.set_cons_succ]
        rw [e]
        simp [upd]
      | some o =>
        simp only [gx_fs, List.set_cons_succ]
        rw [e]
theorem gx_fs_int (ad : Nat → Nat) {f : Nat → Int32} : ∀ (t : List (Option Nat)) (j k : Nat), t[k]? = some none → (gx_fs ad f j t)[k]? = some (.int (f (j + k))) := by
  intro t
  induction t with
  | nil => intro j k h; simp at h
  | cons a t ih =>
    intro j k h
    cases k with
    | zero =>
      simp only [List.getElem?_cons_zero, Option.some.injEq] at h
      subst h
      simp [gx_fs]
    | succ k =>
      have e := ih (j + 1) k (by simpa using h)
      rw [show j + 1 + k = j + (k + 1) by omega] at e
      cases a <;> simpa [gx_fs] using e
theorem gx_fs_ref (ad : Nat → Nat) {f : Nat → Int32} {o : Nat} : ∀ (t : List (Option Nat)) (j k : Nat), t[k]? = some (some o) → (gx_fs ad f j t)[k]? = some (.ref (ad o)) := by
  intro t
  induction t with
  | nil => intro j k h; simp at h
  | cons a t ih =>
    intro j k h
    cases k with
    | zero =>
      simp only [List.getElem?_cons_zero, Option.some.injEq] at h
      subst h
      simp [gx_fs]
    | succ k =>
      have e := ih (j + 1) k (by simpa using h)
      cases a <;> simpa [gx_fs] using e
theorem gx_fs_len (ad : Nat → Nat) {f : Nat → Int32} : ∀ (t : List (Option Nat)) (j : Nat), (gx_fs ad f j t).length = t.length := by
  intro t
  induction t with
  | nil => intro j; rfl
  | cons a t ih => intro j; cases a <;> simp [gx_fs, ih]
/-- one place of one object gets a number -/
def gx_w (w : gx_Wd) (o k : Nat) (x : Int32) : gx_Wd := fun a => if a = o then upd (w o) k x else w a
theorem gx_cells_set {S : gx_Sd} {w : gx_Wd} {o k : Nat} {x : Int32} {s : gx_Sh} {e : va_E} (h : S.1[o]? = some s) (he : e = gx_ce S (upd (w o) k x) s) : (gx_cells S w).set o (S.2.2.1 o, e) = gx_cells S (gx_w w o k x) := by
  subst he
  apply List.ext_getElem?
  intro i
  rw [List.getElem?_set]
  unfold gx_cells
  rw [gx_cs_get, gx_cs_get]
  by_cases hi : o = i
  · subst hi
    have hlt : o < (gx_cs S w 0 S.1).length := by
      have h2 := gx_get (w := w) h
      unfold gx_cells at h2
      exact (List.getElem?_eq_some_iff.mp h2).1
    simp [h, hlt, gx_w]
  · simp only [if_neg hi]
    have : ¬ i = o := fun e => hi e.symm
    simp [gx_w, this]
/-- the addresses of the side's objects -/
def gx_A (S : gx_Sd) : Nat → Prop := fun q => ∃ k, k < S.1.length ∧ q = S.2.2.1 k
def gx_DD (S : gx_Sd) : Prop := ∀ i j, i < S.1.length → j < S.1.length → S.2.2.1 i = S.2.2.1 j → i = j
theorem gx_cells_at {S : gx_Sd} {w : gx_Wd} {i : Nat} {q : Nat × va_E} (h : (gx_cells S w)[i]? = some q) : i < S.1.length ∧ q.1 = S.2.2.1 i := by
  unfold gx_cells at h
  rw [gx_cs_get] at h
  cases hs : S.1[i]? with
  | none => rw [hs] at h; simp at h
  | some s =>
    rw [hs] at h
    simp at h
    exact ⟨(List.getElem?_eq_some_iff.mp hs).1, by rw [← h]⟩
theorem gx_DD.d {S : gx_Sd} (h : gx_DD S) (w : gx_Wd) : va_D (gx_A S) (gx_cells S w) := by
  refine ⟨fun i j p q hi hj e => ?_, fun k q hk => ?_⟩
  · obtain ⟨a1, a2⟩ := gx_cells_at hi
    obtain ⟨b1, b2⟩ := gx_cells_at hj
    exact h i j a1 b1 (by rw [← a2, ← b2]; exact e)
  · obtain ⟨a1, a2⟩ := gx_cells_at hk
    exact ⟨k, a1, a2⟩
/-- the texts of the class Text, by their places: entry, text, bytes -/
def gx_tx : List (Nat × String × List Int32) := [(65, "KN,D;", [75, 78, 44, 68, 59]), (67, "D,N;", [68, 44, 78, 59]), (69, "N,D;", [78, 44, 68, 59]), (71, "N;", [78, 59]), (73, "D,D;", [68, 44, 68, 59]), (75, "", []), (84, "bctslh", [98, 99, 116, 115, 108, 104])]
def gx_txl : List Nat := gx_tx.map (fun q => q.2.2.length)
def gx_txb : List (List Int32) := gx_tx.map (fun q => q.2.2)
/-- what is known of texts and statics -/
def gx_SX (S : gx_Sd) (U : State) (H : Heap) : Prop :=
  vk_S 7 gx_txl gx_txb (fun i => S.2.2.1 (1000 + i)) (fun i => S.2.2.1 (2000 + i)) (gx_A S) U H ∧
  (∀ i, i < 7 → vk_R "EachBearsPillar$Text" (gx_tx.getD i (0, "", [])).1 (gx_tx.getD i (0, "", [])).2.1 (S.2.2.1 (1000 + i)) U) ∧
  va_Z "java/lang/String" "COMPACT_STRINGS" "Z" (.int 1) (gx_A S) U H ∧
  (∃ v : Value, (v = .null ∨ ∃ a, v = .ref a) ∧ va_Z "jdk/internal/util/Preconditions" "SIOOBE_FORMATTER" "Ljava/util/function/BiFunction;" v (gx_A S) U H)
theorem gx_SX.to {S : gx_Sd} {s U : State} {H0 H : Heap} (hW : s.WarmedH U.vm) (hq : ∀ a : Nat, a < H0.size → ¬ gx_A S a → H[a]? = H0[a]?) (h : gx_SX S s H0) : gx_SX S U H := by
  obtain ⟨h1, h2, h3, v, h4, h5⟩ := h
  exact ⟨(h1.moved hW.alike).kept hq, fun i hi => (h2 i hi).warm hW, (h3.moved hW.alike).kept hq, v, h4, (h5.moved hW.alike).kept hq⟩
theorem gx_SX.same {S : gx_Sd} {s U : State} {H : Heap} (hv : U.vm = s.vm) (h : gx_SX S s H) : gx_SX S U H := by
  obtain ⟨h1, h2, h3, v, h4, h5⟩ := h
  have ha : s.vm.Alike U.vm := by rw [hv]; exact Vm.Alike.refl _
  exact ⟨h1.moved ha, fun i hi => (h2 i hi).same hv, h3.moved ha, v, h4, h5.moved ha⟩
