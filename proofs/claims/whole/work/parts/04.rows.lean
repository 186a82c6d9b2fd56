/-! ===== a method's book: name, bytes, locals, answer, room, the side's shapes ===== -/
abbrev gx_Mi : Type := MethodName × ByteArray × Nat × Option FieldType × Room × List gx_Sh
abbrev gx_X : Type := Program × Launch × Env × State × MethodId × Array Value × List Frame × Method × Code × gx_Sd × Option gx_V × gx_Wd
def gx_res : gx_X → Option gx_V
  | (_, _, _, _, _, _, _, _, _, _, res, _) => res
def gx_wr : gx_X → gx_Wd
  | (_, _, _, _, _, _, _, _, _, _, _, w1) => w1
def gx_PX (S : gx_Sd) (w : gx_Wd) (U : State) : Prop := va_P S.2.1 gx_cl (gx_cells S w) U.heap ∧ va_K S.2.1 gx_cl [(S.2.2.2.1, .int)] U ∧ gx_DD S ∧ gx_NW U ∧ gx_SX S U U.heap
def gx_Q (S : gx_Sd) (res : Option gx_V) (w1 : gx_Wd) : Array Value → State → Outcome → State → Prop := fun _ st oc t => (oc = .returned (res.map (gx_cv S.2.2.1)) ∧ va_P S.2.1 gx_cl (gx_cells S w1) t.heap) ∧ va_F (gx_A S) st t
def gx_MT (M : gx_Mi) (args : List gx_V) (w : gx_Wd) (res : Option gx_V) (w1 : gx_Wd) : Prop := ∀ (l : Launch) (S : gx_Sd), S.1 = M.2.2.2.2.2 → Met l M.1 (.code M.1 M.2.1 M.2.2.1 M.2.2.2.1 :: gx_big) M.2.2.2.2.1 (va_Pc (args.map (gx_cv S.2.2.1)) (gx_PX S w)) (gx_Q S res w1) 0 0 (gx_A S)
def gx_Ok (X : gx_X) (M : gx_Mi) : Prop := match X with
  | (p, l, e, s, m, args, below, meth, c, S, res, w1) => p.tables.exec = Jvm.exec ∧ c.code = M.2.1 ∧ c.maxLocals = M.2.2.1 ∧ (∀ w ∈ (Cond.code M.1 M.2.1 M.2.2.1 M.2.2.2.1 :: gx_big), w.before args s = true) ∧ s.vm.findClass M.1.cls = some m.cls ∧ meth.sig.returnType = M.2.2.2.1 ∧ meth.locks = false ∧ va_K S.2.1 gx_cl [(S.2.2.2.1, .int)] s ∧ gx_DD S ∧ gx_NW s ∧ gx_SX S s s.heap ∧ S.1 = M.2.2.2.2.2
def gx_lc (ad : Nat → Nat) : Nat → List (Option gx_V) → List (Nat × Value)
  | _, [] => []
  | k, none :: t => gx_lc ad (k + 1) t
  | k, some v :: t => (k, gx_cv ad v) :: gx_lc ad (k + 1) t
/-- THE GOAL: at pc, with these locals, this stack, in this world, the method comes to its end -/
def gx_G (X : gx_X) (M : gx_Mi) (pc : Nat) (ls : List (Option gx_V)) (st : List gx_V) (w : gx_Wd) : Prop := match X with
  | (p, l, e, s, m, args, below, meth, c, S, res, w1) => ∀ (H : Heap) (locs : List Loc) (LS : Array Slot), va_P S.2.1 gx_cl (gx_cells S w) H → va_S (gx_A S) s.heap H locs → lv_has LS M.2.2.1 (gx_lc S.2.2.1 0 ls) → W p l e M.2.2.2.2.1 s m args below meth c H locs 0 0 (MQ below (gx_Q S res w1) args s 0 0 (gx_A S)) (F0 m pc LS (st.map (gx_cv S.2.2.1)))
/-! locals -/
def gx_n {α : Type} : List (Option α) → Nat → Option α
  | [], _ => none
  | a :: _, 0 => a
  | _ :: t, k + 1 => gx_n t k
def gx_st {α : Type} : List (Option α) → Nat → α → List (Option α)
  | [], 0, v => [some v]
  | [], k + 1, v => none :: gx_st [] k v
  | _ :: t, 0, v => some v :: t
  | a :: t, k + 1, v => a :: gx_st t k v
theorem gx_lc_iff (ad : Nat → Nat) : ∀ (ls : List (Option gx_V)) (k : Nat) (q : Nat × Value), q ∈ gx_lc ad k ls ↔ ∃ i v, gx_n ls i = some v ∧ q = (k + i, gx_cv ad v) := by
  intro ls
  induction ls with
  | nil => intro k q; simp [gx_lc, gx_n]
  | cons a t ih =>
    intro k q
    have step : (∃ i v, gx_n t i = some v ∧ q = (k + 1 + i, gx_cv ad v)) ↔ ∃ i v, gx_n (a :: t) (i + 1) = some v ∧ q = (k + (i + 1), gx_cv ad v) := by
      constructor
      · rintro ⟨i, v, h1, h2⟩; exact ⟨i, v, h1, by rw [h2, Nat.add_assoc, Nat.add_comm 1 i]⟩
      · rintro ⟨i, v, h1, h2⟩; exact ⟨i, v, h1, by rw [h2, Nat.add_assoc, Nat.add_comm 1 i]⟩
    cases a with
    | none =>
      simp only [gx_lc]
      rw [ih (k + 1) q, step]
      constructor
      · rintro ⟨i, v, h1, h2⟩; exact ⟨i + 1, v, h1, h2⟩
      · rintro ⟨i, v, h1, h2⟩
        cases i with
        | zero => simp [gx_n] at h1
        | succ i => exact ⟨i, v, h1, h2⟩
    | some u =>
      simp only [gx_lc, List.mem_cons]
      rw [ih (k + 1) q, step]
      constructor
      · rintro (h | ⟨i, v, h1, h2⟩)
        · exact ⟨0, u, rfl, h⟩
        · exact ⟨i + 1, v, h1, h2⟩
      · rintro ⟨i, v, h1, h2⟩
        cases i with
        | zero => left; simp only [gx_n, Option.some.injEq] at h1; rw [h1]; exact h2
        | succ i => right; exact ⟨i, v, h1, h2⟩
theorem gx_n_st {α : Type} : ∀ (ls : List (Option α)) (k : Nat) (v : α) (i : Nat), gx_n (gx_st ls k v) i = if i = k then some v else gx_n ls i := by
  intro ls
  induction ls with
  | nil =>
    intro k
    induction k with
    | zero => intro v i; cases i <;> simp [gx_st, gx_n]
    | succ k ih => intro v i; cases i with
      | zero => simp [gx_st, gx_n]
      | succ i => simp only [gx_st, gx_n]; rw [ih v i]; simp [gx_n]
  | cons a t ih =>
    intro k v i
    cases k with
    | zero => cases i <;> simp [gx_st, gx_n]
    | succ k => cases i with
      | zero => simp [gx_st, gx_n]
      | succ i => simp only [gx_st, gx_n]; rw [ih k v i]; simp
theorem gx_lat {ad : Nat → Nat} {LS : Array Slot} {nL : Nat} {ls : List (Option gx_V)} (h : lv_has LS nL (gx_lc ad 0 ls)) {i : Nat} {v : gx_V} (hi : gx_n ls i = some v) : LS[i]? = some (.val (gx_cv ad v)) :=
  h.2.2 (i, gx_cv ad v) ((gx_lc_iff ad ls 0 _).mpr ⟨i, v, hi, by simp⟩)
theorem gx_lmono {ad : Nat → Nat} {LS : Array Slot} {nL : Nat} {l : List (Nat × Value)} {ls : List (Option gx_V)} (h : lv_has LS nL l) (hm : ∀ i v, gx_n ls i = some v → (i, gx_cv ad v) ∈ l) : lv_has LS nL (gx_lc ad 0 ls) := by
  refine ⟨h.1, h.2.1, fun q hq => ?_⟩
  obtain ⟨i, v, h1, h2⟩ := (gx_lc_iff ad ls 0 q).mp hq
  rw [Nat.zero_add] at h2
  subst h2
  exact h.2.2 _ (hm i v h1)
theorem gx_lset {ad : Nat → Nat} {LS : Array Slot} {nL k : Nat} {ls : List (Option gx_V)} {v : gx_V} (h : lv_has LS nL ((k, gx_cv ad v) :: (gx_lc ad 0 ls).filter (fun q => !(q.1 == k) && !(q.1 + 1 == k && q.2.category == 2)))) : lv_has LS nL (gx_lc ad 0 (gx_st ls k v)) := by
  refine gx_lmono h fun i u hi => ?_
  rw [gx_n_st] at hi
  by_cases hk : i = k
  · subst hk
    rw [if_pos rfl] at hi
    cases hi
    exact List.mem_cons_self
  · rw [if_neg hk] at hi
    refine List.mem_cons_of_mem _ (List.mem_filter.mpr ⟨(gx_lc_iff ad ls 0 _).mpr ⟨i, u, hi, by simp⟩, ?_⟩)
    have hc : (gx_cv ad u).category = 1 := by cases u <;> rfl
    simp [hk, hc]
/-- fewer locals told -/
def gx_le {α : Type} : List (Option α) → List (Option α) → Prop
  | [], _ => True
  | none :: t, [] => gx_le t []
  | some _ :: _, [] => False
  | none :: t, _ :: u => gx_le t u
  | some v :: t, a :: u => a = some v ∧ gx_le t u
theorem gx_le_n {α : Type} : ∀ (l' l : List (Option α)), gx_le l' l → ∀ i v, gx_n l' i = some v → gx_n l i = some v := by
  intro l'
  induction l' with
  | nil => intro l _ i v h; simp [gx_n] at h
  | cons a t ih =>
    intro l h i v hv
    cases l with
    | nil =>
      cases a with
      | none => cases i with
        | zero => simp [gx_n] at hv
        | succ i => have := ih [] h i v hv; simp [gx_n] at this
      | some u => exact absurd h (by simp [gx_le])
    | cons b u =>
      cases a with
      | none => cases i with
        | zero => simp [gx_n] at hv
        | succ i => exact ih u h i v hv
      | some x =>
        obtain ⟨h1, h2⟩ := h
        cases i with
        | zero => rw [h1]; exact hv
        | succ i => exact ih u h2 i v hv
variable {X : gx_X} {M : gx_Mi} {pc : Nat} {ls ls' : List (Option gx_V)} {st : List gx_V} {w : gx_Wd}
theorem gx_weak (h : gx_le ls' ls) (k : gx_G X M pc ls' st w) : gx_G X M pc ls st w := by
  obtain ⟨p, l, e, s, m, args, below, meth, c, S, res, w1⟩ := X
  intro H locs LS hP hS hl
  exact k H locs LS hP hS (gx_lmono hl fun i v hi => (gx_lc_iff _ ls 0 _).mpr ⟨i, v, gx_le_n ls' ls h i v hi, by simp⟩)
theorem gx_cat (ad : Nat → Nat) (v : gx_V) : (gx_cv ad v).category = 1 := by cases v <;> rfl
theorem gx_iconst (hX : gx_Ok X M) {n : Int} {v : Int32} (hd : decode M.2.1 pc = .ok (.iconst n, 1)) (hv : Int32.ofInt n = v) (k : gx_G X M (pc + 1) ls (.inl v :: st) w) : gx_G X M pc ls (st) w := by
  obtain ⟨p, l, e, s, m, args, below, meth, c, S, res, w1⟩ := X
  obtain ⟨hx, hb, hml, hts, hown, hrt, hlk, hK, hDD, hNW, hSX, hsh⟩ := hX
  intro H locs LS hP hS hl
  exact lv_iconst hx hb hd hv (k H locs LS hP hS hl)
theorem gx_bipush (hX : gx_Ok X M) {n : Int} {v : Int32} (hd : decode M.2.1 pc = .ok (.bipush n, 2)) (hv : (Int8.ofInt n).toInt32 = v) (k : gx_G X M (pc + 2) ls (.inl v :: st) w) : gx_G X M pc ls (st) w := by
  obtain ⟨p, l, e, s, m, args, below, meth, c, S, res, w1⟩ := X
  obtain ⟨hx, hb, hml, hts, hown, hrt, hlk, hK, hDD, hNW, hSX, hsh⟩ := hX
  intro H locs LS hP hS hl
  exact lv_bipush hx hb hd hv (k H locs LS hP hS hl)
theorem gx_sipush (hX : gx_Ok X M) {n : Int} {v : Int32} (hd : decode M.2.1 pc = .ok (.sipush n, 3)) (hv : (Int16.ofInt n).toInt32 = v) (k : gx_G X M (pc + 3) ls (.inl v :: st) w) : gx_G X M pc ls (st) w := by
  obtain ⟨p, l, e, s, m, args, below, meth, c, S, res, w1⟩ := X
  obtain ⟨hx, hb, hml, hts, hown, hrt, hlk, hK, hDD, hNW, hSX, hsh⟩ := hX
  intro H locs LS hP hS hl
  exact lv_sipush hx hb hd hv (k H locs LS hP hS hl)
theorem gx_ldci (hX : gx_Ok X M) {ix : Nat} {v : Int32} (hd : decode M.2.1 pc = .ok (.ldc ix, 2)) (hv : Cond.constant M.1.cls ix v ∈ gx_big) (k : gx_G X M (pc + 2) ls (.inl v :: st) w) : gx_G X M pc ls (st) w := by
  obtain ⟨p, l, e, s, m, args, below, meth, c, S, res, w1⟩ := X
  obtain ⟨hx, hb, hml, hts, hown, hrt, hlk, hK, hDD, hNW, hSX, hsh⟩ := hX
  intro H locs LS hP hS hl
  exact lv_ldc hx hb hown (hts _ (List.mem_cons_of_mem _ hv)) hd (k H locs LS hP hS hl)
theorem gx_ldcw (hX : gx_Ok X M) {ix : Nat} {v : Int32} (hd : decode M.2.1 pc = .ok (.ldc_w ix, 3)) (hv : Cond.constant M.1.cls ix v ∈ gx_big) (k : gx_G X M (pc + 3) ls (.inl v :: st) w) : gx_G X M pc ls (st) w := by
  obtain ⟨p, l, e, s, m, args, below, meth, c, S, res, w1⟩ := X
  obtain ⟨hx, hb, hml, hts, hown, hrt, hlk, hK, hDD, hNW, hSX, hsh⟩ := hX
  intro H locs LS hP hS hl
  exact lv_ldcw hx hb hown (hts _ (List.mem_cons_of_mem _ hv)) hd (k H locs LS hP hS hl)
theorem gx_iload_n (hX : gx_Ok X M) {i : Fin 4} {x : Int32} (hd : decode M.2.1 pc = .ok (.iload_n i, 1)) (hi : gx_n ls i.val = some (.inl x)) (k : gx_G X M (pc + 1) ls (.inl x :: st) w) : gx_G X M pc ls (st) w := by
  obtain ⟨p, l, e, s, m, args, below, meth, c, S, res, w1⟩ := X
  obtain ⟨hx, hb, hml, hts, hown, hrt, hlk, hK, hDD, hNW, hSX, hsh⟩ := hX
  intro H locs LS hP hS hl
  exact lv_iload_n hx hb hd rfl (gx_lat hl hi) (k H locs LS hP hS hl)
theorem gx_iload (hX : gx_Ok X M) {i : Nat} {x : Int32} (hd : decode M.2.1 pc = .ok (.iload i, 2)) (hi : gx_n ls i = some (.inl x)) (k : gx_G X M (pc + 2) ls (.inl x :: st) w) : gx_G X M pc ls (st) w := by
  obtain ⟨p, l, e, s, m, args, below, meth, c, S, res, w1⟩ := X
  obtain ⟨hx, hb, hml, hts, hown, hrt, hlk, hK, hDD, hNW, hSX, hsh⟩ := hX
  intro H locs LS hP hS hl
  exact lv_iload hx hb hd (gx_lat hl hi) (k H locs LS hP hS hl)
theorem gx_aload_n (hX : gx_Ok X M) {i : Fin 4} {x : Nat} (hd : decode M.2.1 pc = .ok (.aload_n i, 1)) (hi : gx_n ls i.val = some (.inr x)) (k : gx_G X M (pc + 1) ls (.inr x :: st) w) : gx_G X M pc ls (st) w := by
  obtain ⟨p, l, e, s, m, args, below, meth, c, S, res, w1⟩ := X
  obtain ⟨hx, hb, hml, hts, hown, hrt, hlk, hK, hDD, hNW, hSX, hsh⟩ := hX
  intro H locs LS hP hS hl
  exact lv_aload_n hx hb hd rfl (gx_lat hl hi) (k H locs LS hP hS hl)
theorem gx_istore_n (hX : gx_Ok X M) {i : Fin 4} {x : Int32} (hd : decode M.2.1 pc = .ok (.istore_n i, 1)) (hn : i.val < M.2.2.1) (hs : gx_st ls i.val (.inl x) = ls') (k : gx_G X M (pc + 1) ls' st w) : gx_G X M pc ls (.inl x :: st) w := by
  obtain ⟨p, l, e, s, m, args, below, meth, c, S, res, w1⟩ := X
  obtain ⟨hx, hb, hml, hts, hown, hrt, hlk, hK, hDD, hNW, hSX, hsh⟩ := hX
  subst hs
  intro H locs LS hP hS hl
  exact lv_istore_n hx hb hd rfl hl hn rfl (fun LS' hl' => k H locs LS' hP hS (gx_lset hl'))
theorem gx_istore (hX : gx_Ok X M) {i : Nat} {x : Int32} (hd : decode M.2.1 pc = .ok (.istore i, 2)) (hn : i < M.2.2.1) (hs : gx_st ls i (.inl x) = ls') (k : gx_G X M (pc + 2) ls' st w) : gx_G X M pc ls (.inl x :: st) w := by
  obtain ⟨p, l, e, s, m, args, below, meth, c, S, res, w1⟩ := X
  obtain ⟨hx, hb, hml, hts, hown, hrt, hlk, hK, hDD, hNW, hSX, hsh⟩ := hX
  subst hs
  intro H locs LS hP hS hl
  exact lv_istore hx hb hd hl hn rfl (fun LS' hl' => k H locs LS' hP hS (gx_lset hl'))
theorem gx_astore_n (hX : gx_Ok X M) {i : Fin 4} {x : Nat} (hd : decode M.2.1 pc = .ok (.astore_n i, 1)) (hn : i.val < M.2.2.1) (hs : gx_st ls i.val (.inr x) = ls') (k : gx_G X M (pc + 1) ls' st w) : gx_G X M pc ls (.inr x :: st) w := by
  obtain ⟨p, l, e, s, m, args, below, meth, c, S, res, w1⟩ := X
  obtain ⟨hx, hb, hml, hts, hown, hrt, hlk, hK, hDD, hNW, hSX, hsh⟩ := hX
  subst hs
  intro H locs LS hP hS hl
  exact lv_astore_n hx hb hd rfl hl hn rfl (fun LS' hl' => k H locs LS' hP hS (gx_lset hl'))
theorem gx_iinc (hX : gx_Ok X M) {i : Nat} {n : Int} {x v : Int32} (hd : decode M.2.1 pc = .ok (.iinc i n, 3)) (hi : gx_n ls i = some (.inl x)) (hv : x + Int32.ofInt n = v) (hn : i < M.2.2.1) (hs : gx_st ls i (.inl v) = ls') (k : gx_G X M (pc + 3) ls' st w) : gx_G X M pc ls st w := by
  obtain ⟨p, l, e, s, m, args, below, meth, c, S, res, w1⟩ := X
  obtain ⟨hx, hb, hml, hts, hown, hrt, hlk, hK, hDD, hNW, hSX, hsh⟩ := hX
  subst hs
  intro H locs LS hP hS hl
  obtain ⟨j, hj⟩ := List.getElem?_of_mem ((gx_lc_iff S.2.2.1 ls 0 (i, .int x)).mpr ⟨i, .inl x, hi, by simp [gx_cv]⟩)
  exact lv_iinc hx hb hd hl hj hv hn rfl (fun LS' hl' => k H locs LS' hP hS (gx_lset hl'))
theorem gx_iadd (hX : gx_Ok X M) {x y : Int32} (hd : decode M.2.1 pc = .ok (.iadd, 1)) (k : gx_G X M (pc + 1) ls (.inl (x + y) :: st) w) : gx_G X M pc ls (.inl y :: .inl x :: st) w := by
  obtain ⟨p, l, e, s, m, args, below, meth, c, S, res, w1⟩ := X
  obtain ⟨hx, hb, hml, hts, hown, hrt, hlk, hK, hDD, hNW, hSX, hsh⟩ := hX
  intro H locs LS hP hS hl
  exact lv_iadd hx hb hd (k H locs LS hP hS hl)
theorem gx_isub (hX : gx_Ok X M) {x y : Int32} (hd : decode M.2.1 pc = .ok (.isub, 1)) (k : gx_G X M (pc + 1) ls (.inl (x - y) :: st) w) : gx_G X M pc ls (.inl y :: .inl x :: st) w := by
  obtain ⟨p, l, e, s, m, args, below, meth, c, S, res, w1⟩ := X
  obtain ⟨hx, hb, hml, hts, hown, hrt, hlk, hK, hDD, hNW, hSX, hsh⟩ := hX
  intro H locs LS hP hS hl
  exact lv_isub hx hb hd (k H locs LS hP hS hl)
theorem gx_imul (hX : gx_Ok X M) {x y : Int32} (hd : decode M.2.1 pc = .ok (.imul, 1)) (k : gx_G X M (pc + 1) ls (.inl (x * y) :: st) w) : gx_G X M pc ls (.inl y :: .inl x :: st) w := by
  obtain ⟨p, l, e, s, m, args, below, meth, c, S, res, w1⟩ := X
  obtain ⟨hx, hb, hml, hts, hown, hrt, hlk, hK, hDD, hNW, hSX, hsh⟩ := hX
  intro H locs LS hP hS hl
  exact lv_imul hx hb hd (k H locs LS hP hS hl)
theorem gx_iand (hX : gx_Ok X M) {x y : Int32} (hd : decode M.2.1 pc = .ok (.iand, 1)) (k : gx_G X M (pc + 1) ls (.inl (x &&& y) :: st) w) : gx_G X M pc ls (.inl y :: .inl x :: st) w := by
  obtain ⟨p, l, e, s, m, args, below, meth, c, S, res, w1⟩ := X
  obtain ⟨hx, hb, hml, hts, hown, hrt, hlk, hK, hDD, hNW, hSX, hsh⟩ := hX
  intro H locs LS hP hS hl
  exact lv_iand hx hb hd (k H locs LS hP hS hl)
theorem gx_ior (hX : gx_Ok X M) {x y : Int32} (hd : decode M.2.1 pc = .ok (.ior, 1)) (k : gx_G X M (pc + 1) ls (.inl (x ||| y) :: st) w) : gx_G X M pc ls (.inl y :: .inl x :: st) w := by
  obtain ⟨p, l, e, s, m, args, below, meth, c, S, res, w1⟩ := X
  obtain ⟨hx, hb, hml, hts, hown, hrt, hlk, hK, hDD, hNW, hSX, hsh⟩ := hX
  intro H locs LS hP hS hl
  exact lv_ior hx hb hd (k H locs LS hP hS hl)
theorem gx_ixor (hX : gx_Ok X M) {x y : Int32} (hd : decode M.2.1 pc = .ok (.ixor, 1)) (k : gx_G X M (pc + 1) ls (.inl (x ^^^ y) :: st) w) : gx_G X M pc ls (.inl y :: .inl x :: st) w := by
  obtain ⟨p, l, e, s, m, args, below, meth, c, S, res, w1⟩ := X
  obtain ⟨hx, hb, hml, hts, hown, hrt, hlk, hK, hDD, hNW, hSX, hsh⟩ := hX
  intro H locs LS hP hS hl
  exact lv_ixor hx hb hd (k H locs LS hP hS hl)
theorem gx_ishl (hX : gx_Ok X M) {x y : Int32} (hd : decode M.2.1 pc = .ok (.ishl, 1)) (k : gx_G X M (pc + 1) ls (.inl (x <<< (y &&& 31)) :: st) w) : gx_G X M pc ls (.inl y :: .inl x :: st) w := by
  obtain ⟨p, l, e, s, m, args, below, meth, c, S, res, w1⟩ := X
  obtain ⟨hx, hb, hml, hts, hown, hrt, hlk, hK, hDD, hNW, hSX, hsh⟩ := hX
  intro H locs LS hP hS hl
  exact lv_ishl hx hb hd (k H locs LS hP hS hl)
theorem gx_ishr (hX : gx_Ok X M) {x y : Int32} (hd : decode M.2.1 pc = .ok (.ishr, 1)) (k : gx_G X M (pc + 1) ls (.inl (x >>> (y &&& 31)) :: st) w) : gx_G X M pc ls (.inl y :: .inl x :: st) w := by
  obtain ⟨p, l, e, s, m, args, below, meth, c, S, res, w1⟩ := X
  obtain ⟨hx, hb, hml, hts, hown, hrt, hlk, hK, hDD, hNW, hSX, hsh⟩ := hX
  intro H locs LS hP hS hl
  exact lv_ishr hx hb hd (k H locs LS hP hS hl)
theorem gx_iushr (hX : gx_Ok X M) {x y : Int32} (hd : decode M.2.1 pc = .ok (.iushr, 1)) (k : gx_G X M (pc + 1) ls (.inl ((x.toUInt32 >>> (y.toUInt32 &&& Int32.toUInt32 31)).toInt32) :: st) w) : gx_G X M pc ls (.inl y :: .inl x :: st) w := by
  obtain ⟨p, l, e, s, m, args, below, meth, c, S, res, w1⟩ := X
  obtain ⟨hx, hb, hml, hts, hown, hrt, hlk, hK, hDD, hNW, hSX, hsh⟩ := hX
  intro H locs LS hP hS hl
  exact lv_iushr hx hb hd rfl (k H locs LS hP hS hl)
theorem gx_idiv (hX : gx_Ok X M) {x y : Int32} (hd : decode M.2.1 pc = .ok (.idiv, 1)) (hy : ¬ y = 0) (k : gx_G X M (pc + 1) ls (.inl (x / y) :: st) w) : gx_G X M pc ls (.inl y :: .inl x :: st) w := by
  obtain ⟨p, l, e, s, m, args, below, meth, c, S, res, w1⟩ := X
  obtain ⟨hx, hb, hml, hts, hown, hrt, hlk, hK, hDD, hNW, hSX, hsh⟩ := hX
  intro H locs LS hP hS hl
  exact lv_idiv hx hb hd hy (k H locs LS hP hS hl)
theorem gx_irem (hX : gx_Ok X M) {x y : Int32} (hd : decode M.2.1 pc = .ok (.irem, 1)) (hy : ¬ y = 0) (k : gx_G X M (pc + 1) ls (.inl (x - x / y * y) :: st) w) : gx_G X M pc ls (.inl y :: .inl x :: st) w := by
  obtain ⟨p, l, e, s, m, args, below, meth, c, S, res, w1⟩ := X
  obtain ⟨hx, hb, hml, hts, hown, hrt, hlk, hK, hDD, hNW, hSX, hsh⟩ := hX
  intro H locs LS hP hS hl
  exact lv_irem hx hb hd hy (k H locs LS hP hS hl)
theorem gx_ineg (hX : gx_Ok X M) {x : Int32} (hd : decode M.2.1 pc = .ok (.ineg, 1)) (k : gx_G X M (pc + 1) ls (.inl (-x) :: st) w) : gx_G X M pc ls (.inl x :: st) w := by
  obtain ⟨p, l, e, s, m, args, below, meth, c, S, res, w1⟩ := X
  obtain ⟨hx, hb, hml, hts, hown, hrt, hlk, hK, hDD, hNW, hSX, hsh⟩ := hX
  intro H locs LS hP hS hl
  exact lv_ineg hx hb hd (k H locs LS hP hS hl)
theorem gx_dup (hX : gx_Ok X M) {v : gx_V} (hd : decode M.2.1 pc = .ok (.dup, 1)) (k : gx_G X M (pc + 1) ls (v :: v :: st) w) : gx_G X M pc ls (v :: st) w := by
  obtain ⟨p, l, e, s, m, args, below, meth, c, S, res, w1⟩ := X
  obtain ⟨hx, hb, hml, hts, hown, hrt, hlk, hK, hDD, hNW, hSX, hsh⟩ := hX
  intro H locs LS hP hS hl
  exact lv_dup hx hb hd (gx_cat _ v) (k H locs LS hP hS hl)
theorem gx_pop (hX : gx_Ok X M) {v : gx_V} (hd : decode M.2.1 pc = .ok (.pop, 1)) (k : gx_G X M (pc + 1) ls (st) w) : gx_G X M pc ls (v :: st) w := by
  obtain ⟨p, l, e, s, m, args, below, meth, c, S, res, w1⟩ := X
  obtain ⟨hx, hb, hml, hts, hown, hrt, hlk, hK, hDD, hNW, hSX, hsh⟩ := hX
  intro H locs LS hP hS hl
  exact lv_pop hx hb hd (gx_cat _ v) (k H locs LS hP hS hl)
theorem gx_dup2 (hX : gx_Ok X M) {v u : gx_V} (hd : decode M.2.1 pc = .ok (.dup2, 1)) (k : gx_G X M (pc + 1) ls (v :: u :: v :: u :: st) w) : gx_G X M pc ls (v :: u :: st) w := by
  obtain ⟨p, l, e, s, m, args, below, meth, c, S, res, w1⟩ := X
  obtain ⟨hx, hb, hml, hts, hown, hrt, hlk, hK, hDD, hNW, hSX, hsh⟩ := hX
  intro H locs LS hP hS hl
  exact lv_dup2_11 hx hb hd (gx_cat _ v) (gx_cat _ u) (k H locs LS hP hS hl)
theorem gx_dup_x1 (hX : gx_Ok X M) {v u : gx_V} (hd : decode M.2.1 pc = .ok (.dup_x1, 1)) (k : gx_G X M (pc + 1) ls (v :: u :: v :: st) w) : gx_G X M pc ls (v :: u :: st) w := by
  obtain ⟨p, l, e, s, m, args, below, meth, c, S, res, w1⟩ := X
  obtain ⟨hx, hb, hml, hts, hown, hrt, hlk, hK, hDD, hNW, hSX, hsh⟩ := hX
  intro H locs LS hP hS hl
  exact lv_dup_x1 hx hb hd (gx_cat _ v) (gx_cat _ u) (k H locs LS hP hS hl)
theorem gx_if_eq (hX : gx_Ok X M) {x : Int32} {off : Int} {tgt : Nat} (hd : decode M.2.1 pc = .ok (.ifCond .eq off, 3)) (ht : (pc : Int) + off = (tgt : Int)) (kt : x = 0 → gx_G X M tgt ls st w) (kf : ¬ x = 0 → gx_G X M (pc + 3) ls st w) : gx_G X M pc ls (.inl x :: st) w := by
  obtain ⟨p, l, e, s, m, args, below, meth, c, S, res, w1⟩ := X
  obtain ⟨hx, hb, hml, hts, hown, hrt, hlk, hK, hDD, hNW, hSX, hsh⟩ := hX
  intro H locs LS hP hS hl
  exact lv_if_eq hx hb hd ht (fun q => kt q H locs LS hP hS hl) (fun q => kf q H locs LS hP hS hl)
theorem gx_ic_eq (hX : gx_Ok X M) {x y : Int32} {off : Int} {tgt : Nat} (hd : decode M.2.1 pc = .ok (.if_icmp .eq off, 3)) (ht : (pc : Int) + off = (tgt : Int)) (kt : x = y → gx_G X M tgt ls st w) (kf : ¬ x = y → gx_G X M (pc + 3) ls st w) : gx_G X M pc ls (.inl y :: .inl x :: st) w := by
  obtain ⟨p, l, e, s, m, args, below, meth, c, S, res, w1⟩ := X
  obtain ⟨hx, hb, hml, hts, hown, hrt, hlk, hK, hDD, hNW, hSX, hsh⟩ := hX
  intro H locs LS hP hS hl
  exact lv_icmp_eq hx hb hd ht (fun q => kt q H locs LS hP hS hl) (fun q => kf q H locs LS hP hS hl)
theorem gx_if_ne (hX : gx_Ok X M) {x : Int32} {off : Int} {tgt : Nat} (hd : decode M.2.1 pc = .ok (.ifCond .ne off, 3)) (ht : (pc : Int) + off = (tgt : Int)) (kt : ¬ x = 0 → gx_G X M tgt ls st w) (kf : x = 0 → gx_G X M (pc + 3) ls st w) : gx_G X M pc ls (.inl x :: st) w := by
  obtain ⟨p, l, e, s, m, args, below, meth, c, S, res, w1⟩ := X
  obtain ⟨hx, hb, hml, hts, hown, hrt, hlk, hK, hDD, hNW, hSX, hsh⟩ := hX
  intro H locs LS hP hS hl
  exact lv_if_ne hx hb hd ht (fun q => kt q H locs LS hP hS hl) (fun q => kf q H locs LS hP hS hl)
theorem gx_ic_ne (hX : gx_Ok X M) {x y : Int32} {off : Int} {tgt : Nat} (hd : decode M.2.1 pc = .ok (.if_icmp .ne off, 3)) (ht : (pc : Int) + off = (tgt : Int)) (kt : ¬ x = y → gx_G X M tgt ls st w) (kf : x = y → gx_G X M (pc + 3) ls st w) : gx_G X M pc ls (.inl y :: .inl x :: st) w := by
  obtain ⟨p, l, e, s, m, args, below, meth, c, S, res, w1⟩ := X
  obtain ⟨hx, hb, hml, hts, hown, hrt, hlk, hK, hDD, hNW, hSX, hsh⟩ := hX
  intro H locs LS hP hS hl
  exact lv_icmp_ne hx hb hd ht (fun q => kt q H locs LS hP hS hl) (fun q => kf q H locs LS hP hS hl)
theorem gx_if_lt (hX : gx_Ok X M) {x : Int32} {off : Int} {tgt : Nat} (hd : decode M.2.1 pc = .ok (.ifCond .lt off, 3)) (ht : (pc : Int) + off = (tgt : Int)) (kt : x < 0 → gx_G X M tgt ls st w) (kf : ¬ x < 0 → gx_G X M (pc + 3) ls st w) : gx_G X M pc ls (.inl x :: st) w := by
  obtain ⟨p, l, e, s, m, args, below, meth, c, S, res, w1⟩ := X
  obtain ⟨hx, hb, hml, hts, hown, hrt, hlk, hK, hDD, hNW, hSX, hsh⟩ := hX
  intro H locs LS hP hS hl
  exact lv_if_lt hx hb hd ht (fun q => kt q H locs LS hP hS hl) (fun q => kf q H locs LS hP hS hl)
theorem gx_ic_lt (hX : gx_Ok X M) {x y : Int32} {off : Int} {tgt : Nat} (hd : decode M.2.1 pc = .ok (.if_icmp .lt off, 3)) (ht : (pc : Int) + off = (tgt : Int)) (kt : x < y → gx_G X M tgt ls st w) (kf : ¬ x < y → gx_G X M (pc + 3) ls st w) : gx_G X M pc ls (.inl y :: .inl x :: st) w := by
  obtain ⟨p, l, e, s, m, args, below, meth, c, S, res, w1⟩ := X
  obtain ⟨hx, hb, hml, hts, hown, hrt, hlk, hK, hDD, hNW, hSX, hsh⟩ := hX
  intro H locs LS hP hS hl
  exact lv_icmp_lt hx hb hd ht (fun q => kt q H locs LS hP hS hl) (fun q => kf q H locs LS hP hS hl)
theorem gx_if_ge (hX : gx_Ok X M) {x : Int32} {off : Int} {tgt : Nat} (hd : decode M.2.1 pc = .ok (.ifCond .ge off, 3)) (ht : (pc : Int) + off = (tgt : Int)) (kt : 0 ≤ x → gx_G X M tgt ls st w) (kf : ¬ 0 ≤ x → gx_G X M (pc + 3) ls st w) : gx_G X M pc ls (.inl x :: st) w := by
  obtain ⟨p, l, e, s, m, args, below, meth, c, S, res, w1⟩ := X
  obtain ⟨hx, hb, hml, hts, hown, hrt, hlk, hK, hDD, hNW, hSX, hsh⟩ := hX
  intro H locs LS hP hS hl
  exact lv_if_ge hx hb hd ht (fun q => kt q H locs LS hP hS hl) (fun q => kf q H locs LS hP hS hl)
theorem gx_ic_ge (hX : gx_Ok X M) {x y : Int32} {off : Int} {tgt : Nat} (hd : decode M.2.1 pc = .ok (.if_icmp .ge off, 3)) (ht : (pc : Int) + off = (tgt : Int)) (kt : y ≤ x → gx_G X M tgt ls st w) (kf : ¬ y ≤ x → gx_G X M (pc + 3) ls st w) : gx_G X M pc ls (.inl y :: .inl x :: st) w := by
  obtain ⟨p, l, e, s, m, args, below, meth, c, S, res, w1⟩ := X
  obtain ⟨hx, hb, hml, hts, hown, hrt, hlk, hK, hDD, hNW, hSX, hsh⟩ := hX
  intro H locs LS hP hS hl
  exact lv_icmp_ge hx hb hd ht (fun q => kt q H locs LS hP hS hl) (fun q => kf q H locs LS hP hS hl)
theorem gx_if_gt (hX : gx_Ok X M) {x : Int32} {off : Int} {tgt : Nat} (hd : decode M.2.1 pc = .ok (.ifCond .gt off, 3)) (ht : (pc : Int) + off = (tgt : Int)) (kt : 0 < x → gx_G X M tgt ls st w) (kf : ¬ 0 < x → gx_G X M (pc + 3) ls st w) : gx_G X M pc ls (.inl x :: st) w := by
  obtain ⟨p, l, e, s, m, args, below, meth, c, S, res, w1⟩ := X
  obtain ⟨hx, hb, hml, hts, hown, hrt, hlk, hK, hDD, hNW, hSX, hsh⟩ := hX
  intro H locs LS hP hS hl
  exact lv_if_gt hx hb hd ht (fun q => kt q H locs LS hP hS hl) (fun q => kf q H locs LS hP hS hl)
theorem gx_ic_gt (hX : gx_Ok X M) {x y : Int32} {off : Int} {tgt : Nat} (hd : decode M.2.1 pc = .ok (.if_icmp .gt off, 3)) (ht : (pc : Int) + off = (tgt : Int)) (kt : y < x → gx_G X M tgt ls st w) (kf : ¬ y < x → gx_G X M (pc + 3) ls st w) : gx_G X M pc ls (.inl y :: .inl x :: st) w := by
  obtain ⟨p, l, e, s, m, args, below, meth, c, S, res, w1⟩ := X
  obtain ⟨hx, hb, hml, hts, hown, hrt, hlk, hK, hDD, hNW, hSX, hsh⟩ := hX
  intro H locs LS hP hS hl
  exact lv_icmp_gt hx hb hd ht (fun q => kt q H locs LS hP hS hl) (fun q => kf q H locs LS hP hS hl)
theorem gx_if_le (hX : gx_Ok X M) {x : Int32} {off : Int} {tgt : Nat} (hd : decode M.2.1 pc = .ok (.ifCond .le off, 3)) (ht : (pc : Int) + off = (tgt : Int)) (kt : x ≤ 0 → gx_G X M tgt ls st w) (kf : ¬ x ≤ 0 → gx_G X M (pc + 3) ls st w) : gx_G X M pc ls (.inl x :: st) w := by
  obtain ⟨p, l, e, s, m, args, below, meth, c, S, res, w1⟩ := X
  obtain ⟨hx, hb, hml, hts, hown, hrt, hlk, hK, hDD, hNW, hSX, hsh⟩ := hX
  intro H locs LS hP hS hl
  exact lv_if_le hx hb hd ht (fun q => kt q H locs LS hP hS hl) (fun q => kf q H locs LS hP hS hl)
theorem gx_ic_le (hX : gx_Ok X M) {x y : Int32} {off : Int} {tgt : Nat} (hd : decode M.2.1 pc = .ok (.if_icmp .le off, 3)) (ht : (pc : Int) + off = (tgt : Int)) (kt : x ≤ y → gx_G X M tgt ls st w) (kf : ¬ x ≤ y → gx_G X M (pc + 3) ls st w) : gx_G X M pc ls (.inl y :: .inl x :: st) w := by
  obtain ⟨p, l, e, s, m, args, below, meth, c, S, res, w1⟩ := X
  obtain ⟨hx, hb, hml, hts, hown, hrt, hlk, hK, hDD, hNW, hSX, hsh⟩ := hX
  intro H locs LS hP hS hl
  exact lv_icmp_le hx hb hd ht (fun q => kt q H locs LS hP hS hl) (fun q => kf q H locs LS hP hS hl)
theorem gx_goto (hX : gx_Ok X M) {off : Int} {tgt : Nat} (hd : decode M.2.1 pc = .ok (.goto off, 3)) (ht : (pc : Int) + off = (tgt : Int)) (k : gx_G X M tgt ls st w) : gx_G X M pc ls st w := by
  obtain ⟨p, l, e, s, m, args, below, meth, c, S, res, w1⟩ := X
  obtain ⟨hx, hb, hml, hts, hown, hrt, hlk, hK, hDD, hNW, hSX, hsh⟩ := hX
  intro H locs LS hP hS hl
  exact lv_goto hx hb hd ht (k H locs LS hP hS hl)
theorem gx_ifnull (hX : gx_Ok X M) {off : Int} {x : Nat} (hd : decode M.2.1 pc = .ok (.ifnull off, 3)) (k : gx_G X M (pc + 3) ls st w) : gx_G X M pc ls (.inr x :: st) w := by
  obtain ⟨p, l, e, s, m, args, below, meth, c, S, res, w1⟩ := X
  obtain ⟨hx, hb, hml, hts, hown, hrt, hlk, hK, hDD, hNW, hSX, hsh⟩ := hX
  intro H locs LS hP hS hl
  exact lv_ifnull hx hb hd (k H locs LS hP hS hl)
theorem gx_ifnonnull (hX : gx_Ok X M) {off : Int} {tgt x : Nat} (hd : decode M.2.1 pc = .ok (.ifnonnull off, 3)) (ht : (pc : Int) + off = (tgt : Int)) (k : gx_G X M tgt ls st w) : gx_G X M pc ls (.inr x :: st) w := by
  obtain ⟨p, l, e, s, m, args, below, meth, c, S, res, w1⟩ := X
  obtain ⟨hx, hb, hml, hts, hown, hrt, hlk, hK, hDD, hNW, hSX, hsh⟩ := hX
  intro H locs LS hP hS hl
  exact lv_ifnonnull hx hb hd ht (k H locs LS hP hS hl)
theorem gx_lookup (hX : gx_Ok X M) {dflt : Int} {ps : Array (Int × Int)} {len : Nat} {x : Int32} {off : Int} {tgt : Nat} (hd : decode M.2.1 pc = .ok (.lookupswitch dflt ps, len)) (hp : (ps.toList.zip (ps.toList.drop 1)).all (fun (a, next) => a.1 < next.1) = true) (ho : Op.lookupswitch.offset ps.toList dflt x.toInt = off) (ht : (pc : Int) + off = (tgt : Int)) (k : gx_G X M tgt ls st w) : gx_G X M pc ls (.inl x :: st) w := by
  obtain ⟨p, l, e, s, m, args, below, meth, c, S, res, w1⟩ := X
  obtain ⟨hx, hb, hml, hts, hown, hrt, hlk, hK, hDD, hNW, hSX, hsh⟩ := hX
  intro H locs LS hP hS hl
  exact lv_lookup hx hb hd hp ho ht (k H locs LS hP hS hl)
theorem gx_tabOut (hX : gx_Ok X M) {dflt lo hi : Int} {offs : Array Int} {len : Nat} {x : Int32} {tgt : Nat} (hd : decode M.2.1 pc = .ok (.tableswitch dflt lo hi offs, len)) (h : x.toInt < lo ∨ hi < x.toInt) (ht : (pc : Int) + dflt = (tgt : Int)) (k : gx_G X M tgt ls st w) : gx_G X M pc ls (.inl x :: st) w := by
  obtain ⟨p, l, e, s, m, args, below, meth, c, S, res, w1⟩ := X
  obtain ⟨hx, hb, hml, hts, hown, hrt, hlk, hK, hDD, hNW, hSX, hsh⟩ := hX
  intro H locs LS hP hS hl
  exact lv_tableOut hx hb hd h ht (k H locs LS hP hS hl)
theorem gx_tabIn (hX : gx_Ok X M) {dflt lo hi : Int} {offs : Array Int} {len : Nat} {x : Int32} {off : Int} {tgt : Nat} (hd : decode M.2.1 pc = .ok (.tableswitch dflt lo hi offs, len)) (h1 : ¬ x.toInt < lo) (h2 : ¬ hi < x.toInt) (ho : offs[(x.toInt - lo).toNat]? = some off) (ht : (pc : Int) + off = (tgt : Int)) (k : gx_G X M tgt ls st w) : gx_G X M pc ls (.inl x :: st) w := by
  obtain ⟨p, l, e, s, m, args, below, meth, c, S, res, w1⟩ := X
  obtain ⟨hx, hb, hml, hts, hown, hrt, hlk, hK, hDD, hNW, hSX, hsh⟩ := hX
  intro H locs LS hP hS hl
  exact lv_tableIn hx hb hd h1 h2 ho ht (k H locs LS hP hS hl)
/-! fields, arrays -/
/-- the field k of the class ci, by the entry ix of the class own -/
def gx_fl (own : String) (ix ci k : Nat) : Prop := ∃ (C : String) (T : u_T) (N : Nat), gx_cl[ci]? = some (C, T, N) ∧ k < N ∧ (Cond.fieldLink own ix (T k).1 (T k).2.1 (T k).2.2.1 ∈ gx_big ∨ Cond.fieldLinkNest own ix (T k).1 (T k).2.1 (T k).2.2.1 "EachBearsPillar" ∈ gx_nest)
theorem gx_get0 (hX : gx_Ok X M) {ix ci k o : Nat} {fs : List (Option Nat)} {v : gx_V} (hf : gx_fl M.1.cls ix ci k) (hs : M.2.2.2.2.2[o]? = some (.inr (ci, fs))) (hv : ∀ S : gx_Sd, (gx_fs S.2.2.1 (w o) 0 fs)[k]? = some (gx_cv S.2.2.1 v)) (hd : decode M.2.1 pc = .ok (.getfield ix, 3)) (kk : gx_G X M (pc + 3) ls (v :: st) w) : gx_G X M pc ls (.inr o :: st) w := by
  obtain ⟨p, l, e, s, m, args, below, meth, c, S, res, w1⟩ := X
  obtain ⟨hx, hb, hml, hts, hown, hrt, hlk, hK, hDD, hNW, hSX, hsh⟩ := hX
  intro H locs LS hP hS hl
  obtain ⟨C, T, N, hc, hk, hlink⟩ := hf
  obtain ⟨hin, ⟨ty, hty⟩, hnm⟩ := gx_clok ci C T N hc
  have he : (gx_cells S w)[o]? = some (S.2.2.1 o, .inr (ci, gx_fs S.2.2.1 (w o) 0 fs)) := gx_get (by rw [hsh]; exact hs)
  rcases hlink with hlink | hlink
  · exact va_get hx hb hts (fun u hu => List.mem_cons_of_mem _ (hin u hu)) hown hK hP o he hc k hk (hts _ (List.mem_cons_of_mem _ hlink)) (fun _ h => h) (hv S) hd (kk H locs LS hP hS hl)
  · exact va_getN hx hb hts (fun u hu => List.mem_cons_of_mem _ (hin u hu)) hown hK hP o he hc k hk (va_Nw.use rfl (hNW _ hlink)) (fun _ h => h) (hv S) hd (kk H locs LS hP hS hl)
theorem gx_geti (hX : gx_Ok X M) {ix ci k o : Nat} {fs : List (Option Nat)} (hf : gx_fl M.1.cls ix ci k) (hs : M.2.2.2.2.2[o]? = some (.inr (ci, fs))) (hv : fs[k]? = some none) (hd : decode M.2.1 pc = .ok (.getfield ix, 3)) (kk : gx_G X M (pc + 3) ls (.inl (w o k) :: st) w) : gx_G X M pc ls (.inr o :: st) w :=
  gx_get0 hX hf hs (fun S => by rw [gx_fs_int S.2.2.1 fs 0 k hv, Nat.zero_add]; rfl) hd kk
theorem gx_getr (hX : gx_Ok X M) {ix ci k o q : Nat} {fs : List (Option Nat)} (hf : gx_fl M.1.cls ix ci k) (hs : M.2.2.2.2.2[o]? = some (.inr (ci, fs))) (hv : fs[k]? = some (some q)) (hd : decode M.2.1 pc = .ok (.getfield ix, 3)) (kk : gx_G X M (pc + 3) ls (.inr q :: st) w) : gx_G X M pc ls (.inr o :: st) w :=
  gx_get0 hX hf hs (fun S => by rw [gx_fs_ref S.2.2.1 fs 0 k hv]; rfl) hd kk
/-- a field that may be written, of a kind that takes the number -/
def gx_pf (ci k : Nat) (v : Int32) : Prop := ∃ (C : String) (T : u_T) (N : Nat) (ty : FieldType), gx_cl[ci]? = some (C, T, N) ∧ (T k).2.2.2 = false ∧ parseFieldDescriptor (T k).2.2.1 = some ty ∧ narrow ty (.int v) = .int v ∧ fits ty (.int v) = true
theorem gx_putf (hX : gx_Ok X M) {ix ci k o : Nat} {fs : List (Option Nat)} {v : Int32} (hf : gx_fl M.1.cls ix ci k) (hp : gx_pf ci k v) (hs : M.2.2.2.2.2[o]? = some (.inr (ci, fs))) (hv : fs[k]? = some none) (hd : decode M.2.1 pc = .ok (.putfield ix, 3)) (kk : gx_G X M (pc + 3) ls st (gx_w w o k v)) : gx_G X M pc ls (.inl v :: .inr o :: st) w := by
  obtain ⟨p, l, e, s, m, args, below, meth, c, S, res, w1⟩ := X
  obtain ⟨hx, hb, hml, hts, hown, hrt, hlk, hK, hDD, hNW, hSX, hsh⟩ := hX
  intro H locs LS hP hS hl
  obtain ⟨C, T, N, hc, hk, hlink⟩ := hf
  obtain ⟨C', T', N', ty1, hc', hfin, hpd, hnar, hfit⟩ := hp
  cases hc.symm.trans hc'
  obtain ⟨hin, ⟨ty, hty⟩, hnm⟩ := gx_clok ci C T N hc
  have hso : S.1[o]? = some (.inr (ci, fs)) := by rw [hsh]; exact hs
  have he : (gx_cells S w)[o]? = some (S.2.2.1 o, .inr (ci, gx_fs S.2.2.1 (w o) 0 fs)) := gx_get hso
  have hlen : k < (gx_fs S.2.2.1 (w o) 0 fs).length := by rw [gx_fs_len]; exact (List.getElem?_eq_some_iff.mp hv).1
  have hset : (gx_cells S w).set o (S.2.2.1 o, .inr (ci, (gx_fs S.2.2.1 (w o) 0 fs).set k (.int v))) = gx_cells S (gx_w w o k v) := gx_cells_set hso (by rw [gx_fs_set S.2.2.1 fs 0 k hv, Nat.zero_add]; rfl)
  rcases hlink with hlink | hlink
  · refine va_put hx hb hts (fun u hu => List.mem_cons_of_mem _ (hin u hu)) ty hty hnm hown hK hP (hDD.d w) hS o he hc k hk (hts _ (List.mem_cons_of_mem _ hlink)) (fun _ h => h) hfin hpd hnar hfit hlen hd (fun H1 locs1 hP1 _ hS1 => ?_)
    have hP2 : va_P S.2.1 gx_cl (gx_cells S (gx_w w o k v)) H1 := by rw [← hset]; exact hP1
    exact kk H1 locs1 LS hP2 hS1 hl
  · refine va_putN hx hb hts (fun u hu => List.mem_cons_of_mem _ (hin u hu)) ty hty hnm hown hK hP (hDD.d w) hS o he hc k hk (va_Nw.use rfl (hNW _ hlink)) (fun _ h => h) hfin hpd hnar hfit hlen hd (fun H1 locs1 hP1 _ hS1 => ?_)
    have hP2 : va_P S.2.1 gx_cl (gx_cells S (gx_w w o k v)) H1 := by rw [← hset]; exact hP1
    exact kk H1 locs1 LS hP2 hS1 hl
/-- arrays: reading, writing, length, as the machine does them -/
def gx_ald (sh : List gx_Sh) (w : gx_Wd) (o : Nat) (i : Int32) : Option Int32 := match sh[o]? with
  | some (.inl n) => if i < 0 ∨ n ≤ i.toNatClampNeg then none else some (w o i.toNatClampNeg)
  | _ => none
def gx_ast (sh : List gx_Sh) (w : gx_Wd) (o : Nat) (i v : Int32) : Option gx_Wd := match sh[o]? with
  | some (.inl n) => if i < 0 ∨ n ≤ i.toNatClampNeg then none else some (gx_w w o i.toNatClampNeg v)
  | _ => none
def gx_aln (sh : List gx_Sh) (o : Nat) : Option Int32 := match sh[o]? with
  | some (.inl n) => some (Int32.ofNat n)
  | _ => none
theorem gx_iald (hX : gx_Ok X M) {o : Nat} {i v : Int32} (hv : gx_ald M.2.2.2.2.2 w o i = some v) (hd : decode M.2.1 pc = .ok (.iaload, 1)) (kk : gx_G X M (pc + 1) ls (.inl v :: st) w) : gx_G X M pc ls (.inl i :: .inr o :: st) w := by
  obtain ⟨p, l, e, s, m, args, below, meth, c, S, res, w1⟩ := X
  obtain ⟨hx, hb, hml, hts, hown, hrt, hlk, hK, hDD, hNW, hSX, hsh⟩ := hX
  intro H locs LS hP hS hl
  rw [← hsh] at hv
  unfold gx_ald at hv
  split at hv
  · rename_i n hn
    split at hv
    · cases hv
    · rename_i hin
      cases hv
      have he : (gx_cells S w)[o]? = some (S.2.2.1 o, .inl (S.2.2.2.1, n, .inl (w o))) := gx_get hn
      exact va_iald hx hb hK hP o 0 he rfl hin hd (kk H locs LS hP hS hl)
  · cases hv
theorem gx_iast (hX : gx_Ok X M) {o : Nat} {i v : Int32} {w' : gx_Wd} (hv : gx_ast M.2.2.2.2.2 w o i v = some w') (hd : decode M.2.1 pc = .ok (.iastore, 1)) (kk : gx_G X M (pc + 1) ls st w') : gx_G X M pc ls (.inl v :: .inl i :: .inr o :: st) w := by
  obtain ⟨p, l, e, s, m, args, below, meth, c, S, res, w1⟩ := X
  obtain ⟨hx, hb, hml, hts, hown, hrt, hlk, hK, hDD, hNW, hSX, hsh⟩ := hX
  intro H locs LS hP hS hl
  rw [← hsh] at hv
  unfold gx_ast at hv
  split at hv
  · rename_i n hn
    split at hv
    · cases hv
    · rename_i hin
      cases hv
      have he : (gx_cells S w)[o]? = some (S.2.2.1 o, .inl (S.2.2.2.1, n, .inl (w o))) := gx_get hn
      refine va_iast hx hb hK hP (hDD.d w) hS o 0 he rfl hin hd (fun H1 locs1 hP1 _ hS1 => ?_)
      have hset : (gx_cells S w).set o (S.2.2.1 o, .inl (S.2.2.2.1, n, .inl (upd (w o) i.toNatClampNeg v))) = gx_cells S (gx_w w o i.toNatClampNeg v) := gx_cells_set hn rfl
      have hP2 : va_P S.2.1 gx_cl (gx_cells S (gx_w w o i.toNatClampNeg v)) H1 := by rw [← hset]; exact hP1
      exact kk H1 locs1 LS hP2 hS1 hl
  · cases hv
theorem gx_alen (hX : gx_Ok X M) {o : Nat} {v : Int32} (hv : gx_aln M.2.2.2.2.2 o = some v) (hd : decode M.2.1 pc = .ok (.arraylength, 1)) (kk : gx_G X M (pc + 1) ls (.inl v :: st) w) : gx_G X M pc ls (.inr o :: st) w := by
  obtain ⟨p, l, e, s, m, args, below, meth, c, S, res, w1⟩ := X
  obtain ⟨hx, hb, hml, hts, hown, hrt, hlk, hK, hDD, hNW, hSX, hsh⟩ := hX
  intro H locs LS hP hS hl
  rw [← hsh] at hv
  unfold gx_aln at hv
  split at hv
  · rename_i n hn
    cases hv
    have he : (gx_cells S w)[o]? = some (S.2.2.1 o, .inl (S.2.2.2.1, n, .inl (w o))) := gx_get hn
    exact va_alen hx hb hK hP o 0 he rfl rfl hd (kk H locs LS hP hS hl)
  · cases hv
/-! calls, ends -/
/-- what the tables say of a method that is called: its numbers of arguments, whether it is static -/
def gx_mo (M : gx_Mi) (n : Nat) : Prop := Cond.code M.1 M.2.1 M.2.2.1 M.2.2.2.1 ∈ gx_big ∧ Cond.initialized M.1.cls ∈ gx_big ∧ (M.1.cls ≠ "java/lang/invoke/MethodHandle" ∧ M.1.cls ≠ "java/lang/invoke/VarHandle") ∧ (parseMethodDescriptor M.1.desc).map (fun d => d.parameters.length) = some n ∧ M.2.2.2.2.1.cells = 0 ∧ M.2.2.2.2.1.slots = 0
def gx_mv (M : gx_Mi) : Prop := Cond.instanceMethod M.1 ∈ gx_big ∧ Cond.selects M.1.cls M.1 M.1 ∈ gx_big
def gx_ms (M : gx_Mi) : Prop := Cond.static M.1 ∈ gx_big
/-- the call's entry names the method -/
def gx_ln (own : String) (ix : Nat) (M : gx_Mi) : Prop := Cond.methodLink own ix M.1 ∈ gx_big ∨ Cond.methodLinkNest own ix M.1 "EachBearsPillar" ∈ gx_nest
/-- the callee's room fits -/
def gx_rm (M' M : gx_Mi) : Prop := M'.2.2.2.2.1.frames + 1 ≤ M.2.2.2.2.1.frames ∧ 8 + (M'.2.2.1 + 11) + M'.2.2.2.2.1.locals ≤ M.2.2.2.2.1.locals
theorem gx_cat1 (ad : Nat → Nat) : ∀ (st : List gx_V), ((st.map (gx_cv ad)).map fun v => v.category).sum = st.length := by
  intro st
  induction st with
  | nil => rfl
  | cons a t ih => simp only [List.map_cons, List.sum_cons, List.length_cons]; rw [ih, gx_cat]; omega
theorem gx_fb {S : gx_Sd} {w : gx_Wd} {av : List Value} : FrameBlind (va_Pc av (gx_PX S w)) := by
  intro a U g mk h
  obtain ⟨h1, h2, h3, h4, h5, h6⟩ := h
  exact ⟨h1, h2, va_K.moved (u := U) (U := U.calling g mk a) (Vm.Alike.refl U.vm) h3, h4, gx_NW.same (s := U) (U := U.calling g mk a) rfl h5, gx_SX.same (s := U) (U := U.calling g mk a) rfl h6⟩
theorem gx_after {p : Program} {l : Launch} {e : Env} {R : Room} {s : State} {m : MethodId} {args a : Array Value} {below : List Frame} {meth : Method} {c : Code} {H : Heap} {locs : List Loc} {Q : State → Prop} {S : gx_Sd} {res : Option gx_V} {w' : gx_Wd} {LS : Array Slot} {st0 : List Value}
    (hr : va_Run p l e R s m args below meth c H locs 0 0 0 0 (F0 m pc LS st0) (st.map (gx_cv S.2.2.1)) (gx_Q S res w' a) (gx_A S)) (hS : va_S (gx_A S) s.heap H locs)
    (kk : ∀ (H1 : Heap) (locs1 : List Loc), va_P S.2.1 gx_cl (gx_cells S w') H1 → va_S (gx_A S) s.heap H1 locs1 → W p l e R s m args below meth c H1 locs1 0 0 Q (F0 m (pc + 3) LS ((res.toList ++ st).map (gx_cv S.2.2.1)))) : W p l e R s m args below meth c H locs 0 0 Q (F0 m pc LS st0) := by
  intro T hT X'
  obtain ⟨v, st₀, t, T', L, h0, X'', hL, e1, e2, ⟨⟨hv, hb⟩, hz, hk⟩, stp⟩ := hr T hT X'
  rw [h0] at hz hk
  have hv2 : v = res.map (gx_cv S.2.2.1) := by cases hv; rfl
  subst hv2
  obtain ⟨t2, a1, b1⟩ := kk T'.heap (locs ++ L) (by rw [e1]; exact hb)
    ⟨Nat.le_trans hS.1 (by rw [e1]; exact hz), fun q h1 h2 => by rw [e1, hk q (Nat.lt_of_lt_of_le h1 hS.1) h2]; exact hS.2.1 q h1 h2, fun q hq => by
      rcases List.mem_append.mp hq with h | h
      · exact hS.2.2 q h
      · exact hL q h⟩ T' rfl X''
  refine ⟨t2, stp t2 ?_, b1⟩
  have e3 : (res.map (gx_cv S.2.2.1)).toList ++ st.map (gx_cv S.2.2.1) = (res.toList ++ st).map (gx_cv S.2.2.1) := by cases res <;> simp
  rw [e3]
  exact a1
theorem gx_callV (hX : gx_Ok X M) {M' : gx_Mi} {ix b ci n : Nat} {As rest : List gx_V} {fs : List (Option Nat)} {res : Option gx_V} {w' : gx_Wd} (hd : decode M.2.1 pc = .ok (.invokevirtual ix, 3)) (hl : gx_ln M.1.cls ix M') (ho : gx_mo M' n) (hv : gx_mv M') (hr : gx_rm M' M) (hs : M.2.2.2.2.2[b]? = some (.inr (ci, fs))) (hc : ∃ T N, gx_cl[ci]? = some (M'.1.cls, T, N)) (he : M'.2.2.2.2.2 = M.2.2.2.2.2) (hM : gx_MT M' (.inr b :: As) w res w') (hn : As.length = n) (hst : st = As.reverse ++ .inr b :: rest) (hrl : rest.length ≤ 8) (kk : gx_G X M (pc + 3) ls (res.toList ++ rest) w') : gx_G X M pc ls st w := by
  obtain ⟨p, l, e, s, m, args, below, meth, c, S, res, w1⟩ := X
  obtain ⟨hx, hb, hml, hts, hown, hrt, hlk, hK, hDD, hNW, hSX, hsh⟩ := hX
  intro H locs LS hP hS hlv
  obtain ⟨T, N, hc⟩ := hc
  obtain ⟨o1, o2, o3, o4, o5, o6⟩ := ho
  have hp : PreV s H M'.1.cls (S.2.2.1 b) (va_Pc ((Sum.inr b :: As : List gx_V).map (gx_cv S.2.2.1)) (gx_PX S w)) (As.map (gx_cv S.2.2.1)) := by
    refine ⟨gx_fb, va_recv hK hP hc (gx_get (by rw [hsh]; exact hs)), fun U hU hW => ⟨rfl, ?_⟩⟩
    exact ⟨by rw [hU]; exact hP, va_K.moved hW.alike hK, hDD, hNW.warm hW, by rw [hU]; exact hSX.to hW hS.2.1⟩
  have hws : ∀ w ∈ (Cond.code M'.1 M'.2.1 M'.2.2.1 M'.2.2.2.1 :: gx_big), ∀ (a' : Array Value) (U : State), s.WarmedH U.vm → w.before a' U = true := pay_in hts (gx_good o1)
  have hlen : ∀ sig, parseMethodDescriptor M'.1.desc = some sig → n = sig.parameters.length := fun sig h => by
    have h2 := o4
    rw [h] at h2
    exact (Option.some.inj h2).symm
  have hst2 : (st.map (gx_cv S.2.2.1)) = (As.map (gx_cv S.2.2.1)).reverse ++ .ref (S.2.2.1 b) :: rest.map (gx_cv S.2.2.1) := by rw [hst]; simp [gx_cv]
  have hrest : 2 * (F0 m pc LS (st.map (gx_cv S.2.2.1))).monitorRoom + ((rest.map (gx_cv S.2.2.1)).map fun v => v.category).sum ≤ 8 := by
    rw [gx_cat1]
    show 2 * 0 + _ ≤ 8
    omega
  rcases hl with hl | hl
  · exact gx_after (va_runV (own := M.1.cls) (As := As.map (gx_cv S.2.2.1)) (rest := rest.map (gx_cv S.2.2.1)) (g := F0 m pc LS (st.map (gx_cv S.2.2.1))) ⟨hx, hb, hml, hown, hts⟩ (hM l S (by rw [he]; exact hsh)) ⟨⟨o5, o6, hr.1, hr.2, hws, List.mem_cons_self, hts _ (List.mem_cons_of_mem _ o1), hts _ (List.mem_cons_of_mem _ o2), o3, hlen, hts _ (List.mem_cons_of_mem _ hl)⟩, hts _ (List.mem_cons_of_mem _ hv.1), hts _ (List.mem_cons_of_mem _ hv.2)⟩ hp rfl (by rw [List.length_map]; exact hn) hlv.1 hst2 hrest hd ⟨Nat.zero_le _, Nat.zero_le _⟩) hS (fun H1 locs1 hP1 hS1 => kk H1 locs1 LS hP1 hS1 hlv)
  · exact gx_after (va_runVN (own := M.1.cls) (host := "EachBearsPillar") (As := As.map (gx_cv S.2.2.1)) (rest := rest.map (gx_cv S.2.2.1)) (g := F0 m pc LS (st.map (gx_cv S.2.2.1))) ⟨hx, hb, hml, hown, hts⟩ (hM l S (by rw [he]; exact hsh)) ⟨⟨⟨o5, o6, hr.1, hr.2, hws, List.mem_cons_self⟩, hts _ (List.mem_cons_of_mem _ o1), hts _ (List.mem_cons_of_mem _ o2), o3, hlen, va_Nw.use rfl (hNW _ hl)⟩, hts _ (List.mem_cons_of_mem _ hv.1), hts _ (List.mem_cons_of_mem _ hv.2)⟩ hp rfl (by rw [List.length_map]; exact hn) hlv.1 hst2 hrest hd ⟨Nat.zero_le _, Nat.zero_le _⟩) hS (fun H1 locs1 hP1 hS1 => kk H1 locs1 LS hP1 hS1 hlv)
theorem gx_callS (hX : gx_Ok X M) {M' : gx_Mi} {ix n : Nat} {As rest : List gx_V} {res : Option gx_V} {w' : gx_Wd} (hd : decode M.2.1 pc = .ok (.invokestatic ix, 3)) (hl : gx_ln M.1.cls ix M') (ho : gx_mo M' n) (hv : gx_ms M') (hr : gx_rm M' M) (he : M'.2.2.2.2.2 = M.2.2.2.2.2) (hM : gx_MT M' As w res w') (hn : As.length = n) (hst : st = As.reverse ++ rest) (hrl : rest.length ≤ 8) (kk : gx_G X M (pc + 3) ls (res.toList ++ rest) w') : gx_G X M pc ls st w := by
  obtain ⟨p, l, e, s, m, args, below, meth, c, S, res, w1⟩ := X
  obtain ⟨hx, hb, hml, hts, hown, hrt, hlk, hK, hDD, hNW, hSX, hsh⟩ := hX
  intro H locs LS hP hS hlv
  obtain ⟨o1, o2, o3, o4, o5, o6⟩ := ho
  have hp : PreS s H (va_Pc (As.map (gx_cv S.2.2.1)) (gx_PX S w)) (As.map (gx_cv S.2.2.1)) := by
    refine ⟨gx_fb, fun U hU hW => ⟨rfl, ?_⟩⟩
    exact ⟨by rw [hU]; exact hP, va_K.moved hW.alike hK, hDD, hNW.warm hW, by rw [hU]; exact hSX.to hW hS.2.1⟩
  have hws : ∀ w ∈ (Cond.code M'.1 M'.2.1 M'.2.2.1 M'.2.2.2.1 :: gx_big), ∀ (a' : Array Value) (U : State), s.WarmedH U.vm → w.before a' U = true := pay_in hts (gx_good o1)
  have hlen : ∀ sig, parseMethodDescriptor M'.1.desc = some sig → n = sig.parameters.length := fun sig h => by
    have h2 := o4
    rw [h] at h2
    exact (Option.some.inj h2).symm
  have hst2 : (st.map (gx_cv S.2.2.1)) = (As.map (gx_cv S.2.2.1)).reverse ++ rest.map (gx_cv S.2.2.1) := by rw [hst]; simp
  have hrest : 2 * (F0 m pc LS (st.map (gx_cv S.2.2.1))).monitorRoom + ((rest.map (gx_cv S.2.2.1)).map fun v => v.category).sum ≤ 8 := by
    rw [gx_cat1]
    show 2 * 0 + _ ≤ 8
    omega
  rcases hl with hl | hl
  · exact gx_after (va_runS (own := M.1.cls) (As := As.map (gx_cv S.2.2.1)) (rest := rest.map (gx_cv S.2.2.1)) (g := F0 m pc LS (st.map (gx_cv S.2.2.1))) ⟨hx, hb, hml, hown, hts⟩ (hM l S (by rw [he]; exact hsh)) ⟨⟨o5, o6, hr.1, hr.2, hws, List.mem_cons_self, hts _ (List.mem_cons_of_mem _ o1), hts _ (List.mem_cons_of_mem _ o2), o3, hlen, hts _ (List.mem_cons_of_mem _ hl)⟩, hts _ (List.mem_cons_of_mem _ hv)⟩ hp rfl (by rw [List.length_map]; exact hn) hlv.1 hst2 hrest hd ⟨Nat.zero_le _, Nat.zero_le _⟩) hS (fun H1 locs1 hP1 hS1 => kk H1 locs1 LS hP1 hS1 hlv)
  · exact gx_after (va_runSN (own := M.1.cls) (host := "EachBearsPillar") (As := As.map (gx_cv S.2.2.1)) (rest := rest.map (gx_cv S.2.2.1)) (g := F0 m pc LS (st.map (gx_cv S.2.2.1))) ⟨hx, hb, hml, hown, hts⟩ (hM l S (by rw [he]; exact hsh)) ⟨⟨⟨o5, o6, hr.1, hr.2, hws, List.mem_cons_self⟩, hts _ (List.mem_cons_of_mem _ o1), hts _ (List.mem_cons_of_mem _ o2), o3, hlen, va_Nw.use rfl (hNW _ hl)⟩, hts _ (List.mem_cons_of_mem _ hv), trivial⟩ hp rfl (by rw [List.length_map]; exact hn) hlv.1 hst2 hrest hd ⟨Nat.zero_le _, Nat.zero_le _⟩) hS (fun H1 locs1 hP1 hS1 => kk H1 locs1 LS hP1 hS1 hlv)
/-- Math.min of two ints -/
theorem gx_min (hX : gx_Ok X M) {ix : Nat} {x y : Int32} (hd : decode M.2.1 pc = .ok (.invokestatic ix, 3)) (h1 : Cond.methodLink M.1.cls ix Lib.Math.min.name ∈ gx_big) (h2 : Cond.static Lib.Math.min.name ∈ gx_big) (h3 : Cond.initialized "java/lang/Math" ∈ gx_big) (h4 : Cond.code Lib.Math.min.name Lib.Math.min.code 2 (some .int) ∈ gx_big) (hf : 1 ≤ M.2.2.2.2.1.frames) (hlo : st.length + 13 ≤ M.2.2.2.2.1.locals) (k : gx_G X M (pc + 3) ls (.inl (if y < x then y else x) :: st) w) : gx_G X M pc ls (.inl y :: .inl x :: st) w := by
  obtain ⟨p, l, e, s, m, args, below, meth, c, S, res, w1⟩ := X
  obtain ⟨hx, hb, hml, hts, hown, hrt, hlk, hK, hDD, hNW, hSX, hsh⟩ := hX
  intro H locs LS hP hS hl
  have q := fun u (h : u ∈ gx_big) => hts u (List.mem_cons_of_mem _ h)
  exact va_mmin hx hb (by rw [hml]; exact hl.1.symm) hown (q _ h1) (q _ h2) (q _ h3) (q _ h4) hf (by rw [gx_cat1]; exact hlo) (Nat.zero_le _) (Nat.zero_le _) hd (k H locs LS hP hS hl)
theorem gx_max (hX : gx_Ok X M) {ix : Nat} {x y : Int32} (hd : decode M.2.1 pc = .ok (.invokestatic ix, 3)) (h1 : Cond.methodLink M.1.cls ix Lib.Math.max.name ∈ gx_big) (h2 : Cond.static Lib.Math.max.name ∈ gx_big) (h3 : Cond.initialized "java/lang/Math" ∈ gx_big) (h4 : Cond.code Lib.Math.max.name Lib.Math.max.code 2 (some .int) ∈ gx_big) (hf : 1 ≤ M.2.2.2.2.1.frames) (hlo : st.length + 13 ≤ M.2.2.2.2.1.locals) (k : gx_G X M (pc + 3) ls (.inl (if x < y then y else x) :: st) w) : gx_G X M pc ls (.inl y :: .inl x :: st) w := by
  obtain ⟨p, l, e, s, m, args, below, meth, c, S, res, w1⟩ := X
  obtain ⟨hx, hb, hml, hts, hown, hrt, hlk, hK, hDD, hNW, hSX, hsh⟩ := hX
  intro H locs LS hP hS hl
  have q := fun u (h : u ∈ gx_big) => hts u (List.mem_cons_of_mem _ h)
  exact va_mmax hx hb (by rw [hml]; exact hl.1.symm) hown (q _ h1) (q _ h2) (q _ h3) (q _ h4) hf (by rw [gx_cat1]; exact hlo) (Nat.zero_le _) (Nat.zero_le _) hd (k H locs LS hP hS hl)
theorem gx_iret (hX : gx_Ok X M) {v : Int32} (hd : decode M.2.1 pc = .ok (.ireturn, 1)) (hr : M.2.2.2.1 = some .int) (h1 : gx_res X = some (.inl v)) (h2 : gx_wr X = w) : gx_G X M pc ls [.inl v] w := by
  obtain ⟨p, l, e, s, m, args, below, meth, c, S, res, w1⟩ := X
  obtain ⟨hx, hb, hml, hts, hown, hrt, hlk, hK, hDD, hNW, hSX, hsh⟩ := hX
  intro H locs LS hP hS hl
  have e1 : res = some (.inl v) := h1
  have e2 : w1 = w := h2
  subst e1 e2
  exact W.iret hx hb (by rw [hrt]; exact hr) (fun t ht hW => ⟨⟨rfl, by rw [ht]; exact hP⟩, hS.F ht⟩) hS.2.2 hd hlk
theorem gx_zret (hX : gx_Ok X M) {v : Int32} {ty : FieldType} (hd : decode M.2.1 pc = .ok (.ireturn, 1)) (hr : M.2.2.2.1 = some ty) (hn : narrow ty (.int v) = .int v) (h1 : gx_res X = some (.inl v)) (h2 : gx_wr X = w) : gx_G X M pc ls [.inl v] w := by
  obtain ⟨p, l, e, s, m, args, below, meth, c, S, res, w1⟩ := X
  obtain ⟨hx, hb, hml, hts, hown, hrt, hlk, hK, hDD, hNW, hSX, hsh⟩ := hX
  intro H locs LS hP hS hl
  have e1 : res = some (.inl v) := h1
  have e2 : w1 = w := h2
  subst e1 e2
  exact W.zret hx hb (by rw [hrt]; exact hr) hn (fun t ht hW => ⟨⟨rfl, by rw [ht]; exact hP⟩, hS.F ht⟩) hS.2.2 hd hlk
theorem gx_vret (hX : gx_Ok X M) (hd : decode M.2.1 pc = .ok (.return_, 1)) (hr : M.2.2.2.1 = none) (h1 : gx_res X = none) (h2 : gx_wr X = w) : gx_G X M pc ls [] w := by
  obtain ⟨p, l, e, s, m, args, below, meth, c, S, res, w1⟩ := X
  obtain ⟨hx, hb, hml, hts, hown, hrt, hlk, hK, hDD, hNW, hSX, hsh⟩ := hX
  intro H locs LS hP hS hl
  have e1 : res = none := h1
  have e2 : w1 = w := h2
  subst e1 e2
  exact W.vret hx hb (by rw [hrt]; exact hr) (fun t ht hW => ⟨⟨rfl, by rw [ht]; exact hP⟩, hS.F ht⟩) hS.2.2 hd hlk
theorem gx_aret (hX : gx_Ok X M) {o : Nat} {ty : FieldType} (hd : decode M.2.1 pc = .ok (.areturn, 1)) (hr : M.2.2.2.1 = some ty) (hty : ∃ C, ty = .object C) (h1 : gx_res X = some (.inr o)) (h2 : gx_wr X = w) : gx_G X M pc ls [.inr o] w := by
  obtain ⟨p, l, e, s, m, args, below, meth, c, S, res, w1⟩ := X
  obtain ⟨hx, hb, hml, hts, hown, hrt, hlk, hK, hDD, hNW, hSX, hsh⟩ := hX
  intro H locs LS hP hS hl
  have e1 : res = some (.inr o) := h1
  have e2 : w1 = w := h2
  subst e1 e2
  obtain ⟨C, rfl⟩ := hty
  exact W.aret (v := .ref (S.2.2.1 o)) hx hb (by rw [hrt]; exact hr) (Or.inl ⟨C, rfl⟩) (Or.inr ⟨_, rfl⟩) (fun t ht hW => ⟨⟨rfl, by rw [ht]; exact hP⟩, hS.F ht⟩) hS.2.2 hd hlk
/-- a text constant of the class Text -/
theorem gx_ldcs (hX : gx_Ok X M) {ix i : Nat} {tx : String} (hC : M.1.cls = "EachBearsPillar$Text") (hi : i < 7) (hx2 : gx_tx.getD i (0, "", []) = (ix, tx, gx_txb.getD i [])) (hd : decode M.2.1 pc = .ok (.ldc ix, 2)) (k : gx_G X M (pc + 2) ls (.inr (1000 + i) :: st) w) : gx_G X M pc ls st w := by
  obtain ⟨p, l, e, s, m, args, below, meth, c, S, res, w1⟩ := X
  obtain ⟨hx, hb, hml, hts, hown, hrt, hlk, hK, hDD, hNW, hSX, hsh⟩ := hX
  intro H locs LS hP hS hl
  have h1 := hSX.2.1 i hi
  rw [hx2, ← hC] at h1
  exact va_ldcS hx hb hown h1 hd (k H locs LS hP hS hl)
/-- from the walk to the contract -/
theorem gx_met {args : List gx_V} {res : Option gx_V} {w' : gx_Wd} (hy : plainName M.1.cls = true) (hlen : args.length ≤ M.2.2.1) (h : ∀ X, gx_Ok X M → gx_res X = res → gx_wr X = w' → gx_G X M 0 (args.map some) [] w) : gx_MT M args w res w' := by
  intro l S hsh
  refine Met.ofW (cc := M.2.1) (maxL := M.2.2.1) (ret := M.2.2.2.1) hy rfl ?_
  intro p e s m args0 below meth c s₁ B hml hv
  obtain ⟨rfl, hP, hK, hDD, hNW, hSX⟩ := hv
  have hown : s.vm.findClass M.1.cls = some m.cls := findClass_of_methodNamed B.named
  have k := h (p, l, e, s, m, (args.map (gx_cv S.2.2.1)).toArray, below, meth, c, S, res, w') ⟨B.exec, B.bytes, hml, atoms_spec (ws := Cond.code M.1 M.2.1 M.2.2.1 M.2.2.2.1 :: gx_big) B.pre, hown, B.returns, B.notSynchronized, hK, hDD, hNW, hSX, hsh⟩ rfl rfl
  have hsl : ∀ vs : List gx_V, lg_sl (vs.map (gx_cv S.2.2.1)) = (vs.map (gx_cv S.2.2.1)).map Slot.val := by
    intro vs
    induction vs with
    | nil => rfl
    | cons v t ih =>
      have e : lg_sl ((v :: t).map (gx_cv S.2.2.1)) = (if (gx_cv S.2.2.1 v).category = 2 then [Slot.val (gx_cv S.2.2.1 v), Slot.second] else [Slot.val (gx_cv S.2.2.1 v)]) ++ lg_sl (t.map (gx_cv S.2.2.1)) := rfl
      rw [e, gx_cat, ih]
      rfl
  have hl := lv_entry (args.map (gx_cv S.2.2.1)) (n := M.2.2.1) (by rw [hsl]; simpa using hlen)
  rw [lg_entry_eq]
  refine k s.heap [] _ hP va_S.rf (gx_lmono hl fun i v hi => ?_)
  have key : ∀ (vs : List gx_V) (j i : Nat) (v : gx_V), gx_n (vs.map some) i = some v → (j + i, gx_cv S.2.2.1 v) ∈ lv_args j (vs.map (gx_cv S.2.2.1)) := by
    intro vs
    induction vs with
    | nil => intro j i v h; simp [gx_n] at h
    | cons a t ih =>
      intro j i v h
      have hc : (gx_cv S.2.2.1 a).category = 1 := gx_cat _ a
      cases i with
      | zero => simp [gx_n] at h; subst h; simp [lv_args]
      | succ i =>
        have := ih (j + 1) i v h
        simp only [List.map_cons, lv_args, hc]
        refine List.mem_cons_of_mem _ ?_
        rw [show j + (i + 1) = j + 1 + i by omega]
        simpa using this
  have := key args 0 i v hi
  rwa [Nat.zero_add] at this
