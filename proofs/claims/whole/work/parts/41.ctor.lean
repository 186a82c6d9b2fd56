/-! ===== the constructors: rows over lists of cells ===== -/
abbrev gz (cI : ClassId) (n : Nat) : va_E := .inl (cI, n, .inl (fun _ => 0))
abbrev gn_Mi : Type := MethodName × ByteArray × Nat × Room
/-- what stands fixed in a constructor's walk -/
abbrev gn_X : Type := Program × Launch × Env × State × MethodId × Array Value × List Frame × Method × Code × (State → Prop) × va_G × ClassId × (Nat → Prop)
def gn_Ok (X : gn_X) (M : gn_Mi) : Prop := match X with
  | (p, l, e, s, m, args, below, meth, c, Q, D, cI, A) => p.tables.exec = Jvm.exec ∧ c.code = M.2.1 ∧ c.maxLocals = M.2.2.1 ∧ (∀ w ∈ (Cond.code M.1 M.2.1 M.2.2.1 none :: gx_big), w.before args s = true) ∧ s.vm.findClass M.1.cls = some m.cls ∧ meth.sig.returnType = none ∧ meth.locks = false ∧ meth.name = "<init>" ∧ va_K D gx_cl [(cI, .int)] s ∧ gx_NW s ∧ ∀ q, s.heap.size ≤ q → A q
/-- the goal: at pc, with these locals and this stack, so many cells and slots made, these cells, it comes to its end -/
def gn_G (X : gn_X) (M : gn_Mi) (cells slots pc : Nat) (lc : List (Nat × Value)) (st : List Value) (ws : va_W) : Prop := match X with
  | (p, l, e, s, m, args, below, meth, c, Q, D, cI, A) => ∀ (H : Heap) (locs : List Loc) (LS : Array Slot), va_P D gx_cl ws H → va_D A ws → va_S A s.heap H locs → lv_has LS M.2.2.1 lc → W p l e M.2.2.2 s m args below meth c H locs cells slots Q (F0 m pc LS st)
def gn_cI (X : gn_X) : ClassId := X.2.2.2.2.2.2.2.2.2.2.2.1
section
variable {X : gn_X} {M : gn_Mi} {cells slots pc : Nat} {lc : List (Nat × Value)} {st : List Value} {ws : va_W}
theorem gn_aload (hX : gn_Ok X M) {i : Fin 4} {q : Nat} (hd : decode M.2.1 pc = .ok (.aload_n i, 1)) (hi : (i.val, Value.ref q) ∈ lc) (k : gn_G X M cells slots (pc + 1) lc (.ref q :: st) ws) : gn_G X M cells slots pc lc st ws := by
  obtain ⟨p, l, e, s, m, args, below, meth, c, Q, D, cI, A⟩ := X
  obtain ⟨hx, hb, hml, hts, hown, hrt, hlk, hin, hK, hNW, hA⟩ := hX
  intro H locs LS hP hD hS hl
  exact lv_aload_n hx hb hd rfl (hl.2.2 _ hi) (k H locs LS hP hD hS hl)
theorem gn_iconst (hX : gn_Ok X M) {n : Int} {v : Int32} (hd : decode M.2.1 pc = .ok (.iconst n, 1)) (hv : Int32.ofInt n = v) (k : gn_G X M cells slots (pc + 1) lc (.int v :: st) ws) : gn_G X M cells slots pc lc st ws := by
  obtain ⟨p, l, e, s, m, args, below, meth, c, Q, D, cI, A⟩ := X
  obtain ⟨hx, hb, hml, hts, hown, hrt, hlk, hin, hK, hNW, hA⟩ := hX
  intro H locs LS hP hD hS hl
  exact lv_iconst hx hb hd hv (k H locs LS hP hD hS hl)
theorem gn_bipush (hX : gn_Ok X M) {n : Int} {v : Int32} (hd : decode M.2.1 pc = .ok (.bipush n, 2)) (hv : (Int8.ofInt n).toInt32 = v) (k : gn_G X M cells slots (pc + 2) lc (.int v :: st) ws) : gn_G X M cells slots pc lc st ws := by
  obtain ⟨p, l, e, s, m, args, below, meth, c, Q, D, cI, A⟩ := X
  obtain ⟨hx, hb, hml, hts, hown, hrt, hlk, hin, hK, hNW, hA⟩ := hX
  intro H locs LS hP hD hS hl
  exact lv_bipush hx hb hd hv (k H locs LS hP hD hS hl)
theorem gn_sipush (hX : gn_Ok X M) {n : Int} {v : Int32} (hd : decode M.2.1 pc = .ok (.sipush n, 3)) (hv : (Int16.ofInt n).toInt32 = v) (k : gn_G X M cells slots (pc + 3) lc (.int v :: st) ws) : gn_G X M cells slots pc lc st ws := by
  obtain ⟨p, l, e, s, m, args, below, meth, c, Q, D, cI, A⟩ := X
  obtain ⟨hx, hb, hml, hts, hown, hrt, hlk, hin, hK, hNW, hA⟩ := hX
  intro H locs LS hP hD hS hl
  exact lv_sipush hx hb hd hv (k H locs LS hP hD hS hl)
theorem gn_dup (hX : gn_Ok X M) {q : Nat} (hd : decode M.2.1 pc = .ok (.dup, 1)) (k : gn_G X M cells slots (pc + 1) lc (.ref q :: .ref q :: st) ws) : gn_G X M cells slots pc lc (.ref q :: st) ws := by
  obtain ⟨p, l, e, s, m, args, below, meth, c, Q, D, cI, A⟩ := X
  obtain ⟨hx, hb, hml, hts, hown, hrt, hlk, hin, hK, hNW, hA⟩ := hX
  intro H locs LS hP hD hS hl
  exact lv_dup hx hb hd rfl (k H locs LS hP hD hS hl)
/-- Object's constructor -/
theorem gn_obj (hX : gn_Ok X M) {q ix : Nat} (hd : decode M.2.1 pc = .ok (.invokespecial ix, 3)) (h1 : Cond.methodLink M.1.cls ix Lib.objectInit ∈ gx_big) (h2 : Cond.instanceMethod Lib.objectInit ∈ gx_big) (h3 : Cond.code Lib.objectInit ⟨#[0xb1]⟩ 1 none ∈ gx_big) (hf : 1 ≤ M.2.2.2.frames) (hlo : 12 ≤ M.2.2.2.locals) (k : gn_G X M cells slots (pc + 3) lc [] ws) : gn_G X M cells slots pc lc [.ref q] ws := by
  obtain ⟨p, l, e, s, m, args, below, meth, c, Q, D, cI, A⟩ := X
  obtain ⟨hx, hb, hml, hts, hown, hrt, hlk, hin, hK, hNW, hA⟩ := hX
  intro H locs LS hP hD hS hl
  exact W.objInit hx hb hown (hts _ (List.mem_cons_of_mem _ h1)) (hts _ (List.mem_cons_of_mem _ h2)) (hts _ (List.mem_cons_of_mem _ h3)) rfl (by rw [hml]; exact hl.1) rfl hd hf hlo (k H locs LS hP hD hS hl)
/-- a field gets a value: last word of a constructor's own fields -/
theorem gn_put (hX : gn_Ok X M) {ix ci k q q0 : Nat} {fs : List Value} {v : Value} {ty : FieldType} (hf : ∃ (C : String) (T : u_T) (N : Nat), gx_cl[ci]? = some (C, T, N) ∧ k < N ∧ Cond.fieldLink M.1.cls ix (T k).1 (T k).2.1 (T k).2.2.1 ∈ gx_big ∧ parseFieldDescriptor (T k).2.2.1 = some ty ∧ ((T k).2.2.2 = true → (T k).1 = M.1.cls)) (hn : narrow ty v = v) (hfit : fits ty v = true) (he : ws[q0]? = some (q, .inr (ci, fs))) (hl : k < fs.length) (hd : decode M.2.1 pc = .ok (.putfield ix, 3)) (kk : gn_G X M cells slots (pc + 3) lc st (ws.set q0 (q, .inr (ci, fs.set k v)))) : gn_G X M cells slots pc lc (v :: .ref q :: st) ws := by
  obtain ⟨p, l, e, s, m, args, below, meth, c, Q, D, cI, A⟩ := X
  obtain ⟨hx, hb, hml, hts, hown, hrt, hlk, hin, hK, hNW, hA⟩ := hX
  intro H locs LS hP hD hS hlv
  obtain ⟨C, T, N, hc, hk, hlink, hpd, hdecl⟩ := hf
  obtain ⟨hinw, ⟨ty0, hty⟩, hnm⟩ := gx_clok ci C T N hc
  by_cases hfin : (T k).2.2.2 = true
  · exact va_putF hx hb hts (fun u hu => List.mem_cons_of_mem _ (hinw u hu)) ty0 hty hnm hown hK hP hD hS q0 he hc k hk (hts _ (List.mem_cons_of_mem _ hlink)) (fun _ h => h) hfin hin (hdecl hfin) hpd hn hfit hl hd (fun H1 locs1 hP1 hD1 hS1 => kk H1 locs1 LS hP1 hD1 hS1 hlv)
  · exact va_put hx hb hts (fun u hu => List.mem_cons_of_mem _ (hinw u hu)) ty0 hty hnm hown hK hP hD hS q0 he hc k hk (hts _ (List.mem_cons_of_mem _ hlink)) (fun _ h => h) (by simpa using hfin) hpd hn hfit hl hd (fun H1 locs1 hP1 hD1 hS1 => kk H1 locs1 LS hP1 hD1 hS1 hlv)
theorem gn_get (hX : gn_Ok X M) {ix ci k q q0 : Nat} {fs : List Value} {v : Value} (hf : ∃ (C : String) (T : u_T) (N : Nat), gx_cl[ci]? = some (C, T, N) ∧ k < N ∧ Cond.fieldLink M.1.cls ix (T k).1 (T k).2.1 (T k).2.2.1 ∈ gx_big) (he : ws[q0]? = some (q, .inr (ci, fs))) (hv : fs[k]? = some v) (hd : decode M.2.1 pc = .ok (.getfield ix, 3)) (kk : gn_G X M cells slots (pc + 3) lc (v :: st) ws) : gn_G X M cells slots pc lc (.ref q :: st) ws := by
  obtain ⟨p, l, e, s, m, args, below, meth, c, Q, D, cI, A⟩ := X
  obtain ⟨hx, hb, hml, hts, hown, hrt, hlk, hin, hK, hNW, hA⟩ := hX
  intro H locs LS hP hD hS hl
  obtain ⟨C, T, N, hc, hk, hlink⟩ := hf
  obtain ⟨hinw, -, -⟩ := gx_clok ci C T N hc
  exact va_get hx hb hts (fun u hu => List.mem_cons_of_mem _ (hinw u hu)) hown hK hP q0 he hc k hk (hts _ (List.mem_cons_of_mem _ hlink)) (fun _ h => h) hv hd (kk H locs LS hP hD hS hl)
/-- an array of ints comes, all zero, of the one class -/
theorem gn_newa (hX : gn_Ok X M) (hac : Cond.arrayClass .int ∈ gx_big) {n : Int32} {N : Nat} (hn : ¬ n < 0) (hN : n.toNatClampNeg = N) (hby : N ≤ 100000) (hcells : cells + 1 ≤ M.2.2.2.cells) (hslots : slots + N ≤ M.2.2.2.slots) (hd : decode M.2.1 pc = .ok (.newarray .int, 2)) (kk : ∀ q, gn_G X M (cells + 1) (slots + N) (pc + 2) lc (.ref q :: st) (ws ++ [(q, gz (gn_cI X) N)])) : gn_G X M cells slots pc lc (.int n :: st) ws := by
  obtain ⟨p, l, e, s, m, args, below, meth, c, Q, D, cI, A⟩ := X
  obtain ⟨hx, hb, hml, hts, hown, hrt, hlk, hin, hK, hNW, hA⟩ := hX
  intro H locs LS hP hD hS hl
  refine va_newa (atype := .int) (a0 := (N, .inl (fun _ => 0))) hx hb (hts _ (List.mem_cons_of_mem _ hac)) rfl hK hP hD hS hA (fun cA => rfl) hn hN (by show N * 4 ≤ _; omega) hcells hslots hd (fun q cA H1 hK1 hP1 hD1 hS1 => ?_)
  have e1 : s.vm.findClass ("[" ++ FieldType.int.toString) = some cI := (hK.2 0 _ rfl).2
  have e2 : s.vm.findClass ("[" ++ FieldType.int.toString) = some cA := (hK1.2 1 _ rfl).2
  rw [e1] at e2
  cases e2
  exact kk q H1 locs LS hP1 hD1 hS1 hl
theorem gn_iast (hX : gn_Ok X M) {q0 q n : Nat} {f : Nat → Int32} {i v : Int32} (he : ws[q0]? = some (q, .inl (gn_cI X, n, .inl f))) (hin : vp_in i n) (hd : decode M.2.1 pc = .ok (.iastore, 1)) (kk : gn_G X M cells slots (pc + 1) lc st (ws.set q0 (q, .inl (gn_cI X, n, .inl (upd f i.toNatClampNeg v))))) : gn_G X M cells slots pc lc (.int v :: .int i :: .ref q :: st) ws := by
  obtain ⟨p, l, e, s, m, args, below, meth, c, Q, D, cI, A⟩ := X
  obtain ⟨hx, hb, hml, hts, hown, hrt, hlk, hin2, hK, hNW, hA⟩ := hX
  intro H locs LS hP hD hS hl
  exact va_iast hx hb hK hP hD hS q0 0 he rfl hin hd (fun H1 locs1 hP1 hD1 hS1 => kk H1 locs1 LS hP1 hD1 hS1 hl)
/-- what a constructor promises: its object's cell, and its arrays' and objects', in the order in which they came -/
def gn_Pre (D : va_G) (cI : ClassId) (ci h0 sz : Nat) (fs0 : List Value) : State → Prop := fun U => U.heap.size = sz ∧ va_P D gx_cl [(h0, .inr (ci, fs0))] U.heap ∧ va_K D gx_cl [(cI, .int)] U ∧ va_D (fun _ => True) [(h0, .inr (ci, fs0))] ∧ gx_NW U
def gn_Qc (D : va_G) (cI : ClassId) (ci h0 sz : Nat) (fs0 : List Value) (N : Nat) (out : ClassId → Nat → List Nat → va_W) : Array Value → State → Outcome → State → Prop := va_Qv (fun qs : List Nat => qs.length = N) (fun qs t => va_P D gx_cl (out cI h0 qs) t.heap ∧ va_D (va_A [(h0, .inr (ci, fs0))] sz) (out cI h0 qs)) (va_A [(h0, .inr (ci, fs0))] sz)
def gn_CT (M : gn_Mi) (ci : Nat) (fs0 As : List Value) (N : Nat) (out : ClassId → Nat → List Nat → va_W) : Prop := ∀ (l : Launch) (D : va_G) (cI : ClassId) (h0 sz : Nat), Met l M.1 (Cond.code M.1 M.2.1 M.2.2.1 none :: gx_big) M.2.2.2 (va_Pc (.ref h0 :: As) (gn_Pre D cI ci h0 sz fs0)) (gn_Qc D cI ci h0 sz fs0 N out) M.2.2.2.cells M.2.2.2.slots (va_A [(h0, .inr (ci, fs0))] sz)
def gn_Fin (X : gn_X) (M : gn_Mi) (ci h0 : Nat) (fs0 : List Value) (N : Nat) (out : ClassId → Nat → List Nat → va_W) : Prop := match X with
  | (p, l, e, s, m, args, below, meth, c, Q, D, cI, A) => A = va_A [(h0, .inr (ci, fs0))] s.heap.size ∧ Q = MQ below (gn_Qc D cI ci h0 s.heap.size fs0 N out) args s M.2.2.2.cells M.2.2.2.slots A
/-- the constructor's end -/
theorem gn_ret (hX : gn_Ok X M) {ci h0 N : Nat} {fs0 : List Value} {out : ClassId → Nat → List Nat → va_W} (hF : gn_Fin X M ci h0 fs0 N out) (qs : List Nat) (hq : qs.length = N) (hws : ws = out (gn_cI X) h0 qs) (hc : cells = M.2.2.2.cells) (hs : slots = M.2.2.2.slots) (hd : decode M.2.1 pc = .ok (.return_, 1)) : gn_G X M cells slots pc lc [] ws := by
  obtain ⟨p, l, e, s, m, args, below, meth, c, Q, D, cI, A⟩ := X
  obtain ⟨hx, hb, hml, hts, hown, hrt, hlk, hin, hK, hNW, hA⟩ := hX
  obtain ⟨hA2, hQ2⟩ := hF
  intro H locs LS hP hD hS hl
  subst hQ2 hc hs hws
  refine W.vret hx hb hrt (fun t ht hW => ?_) hS.2.2 hd hlk
  subst hA2
  exact ⟨⟨qs, rfl, hq, by rw [ht]; exact hP, hD⟩, hS.F ht⟩
/-- from the walk to the promise -/
theorem gn_met {M : gn_Mi} {ci N : Nat} {fs0 As : List Value} {out : ClassId → Nat → List Nat → va_W} (hy : plainName M.1.cls = true) (hname : M.1.name = "<init>") (hAs : ∀ v ∈ As, v.category = 1) (hlen : As.length + 1 ≤ M.2.2.1) (h : ∀ (X : gn_X) (h0 : Nat), gn_Ok X M → gn_Fin X M ci h0 fs0 N out → gn_G X M 0 0 0 (lv_args 0 (.ref h0 :: As)) [] [(h0, .inr (ci, fs0))]) : gn_CT M ci fs0 As N out := by
  intro l D cI h0 sz
  refine Met.ofW (cc := M.2.1) (maxL := M.2.2.1) (ret := none) hy rfl ?_
  intro p e s m args below meth c s₁ B hml hv
  obtain ⟨rfl, hsz, hP, hK, hD0, hNW⟩ := hv
  subst hsz
  have hown : s.vm.findClass M.1.cls = some m.cls := findClass_of_methodNamed B.named
  have hin : meth.name = "<init>" := by rw [(name_of_methodNamed B.named B.method).1]; exact hname
  have hA : ∀ q, s.heap.size ≤ q → va_A [(h0, .inr (ci, fs0))] s.heap.size q := fun q h => Or.inr h
  have hts := atoms_spec (ws := Cond.code M.1 M.2.1 M.2.2.1 none :: gx_big) B.pre
  have k := h (p, l, e, s, m, (.ref h0 :: As : List Value).toArray, below, meth, c, MQ below (gn_Qc D cI ci h0 s.heap.size fs0 N out) (.ref h0 :: As : List Value).toArray s M.2.2.2.cells M.2.2.2.slots (va_A [(h0, .inr (ci, fs0))] s.heap.size), D, cI, va_A [(h0, .inr (ci, fs0))] s.heap.size) h0 (And.intro B.exec (And.intro B.bytes (And.intro hml (And.intro hts (And.intro hown (And.intro B.returns (And.intro B.notSynchronized (And.intro hin (And.intro hK (And.intro hNW hA)))))))))) (And.intro rfl rfl)
  have hsl : ∀ vs : List Value, (∀ v ∈ vs, v.category = 1) → lg_sl vs = vs.map Slot.val := by
    intro vs
    induction vs with
    | nil => intro _; rfl
    | cons v t ih =>
      intro hc
      have e : lg_sl (v :: t) = (if v.category = 2 then [Slot.val v, Slot.second] else [Slot.val v]) ++ lg_sl t := rfl
      rw [e, hc v (List.mem_cons_self ..), ih (fun u hu => hc u (List.mem_cons_of_mem _ hu))]
      rfl
  have hl := lv_entry (.ref h0 :: As) (n := M.2.2.1) (by
    rw [hsl (.ref h0 :: As) (fun v hv => by
      rcases List.mem_cons.mp hv with rfl | hv
      · rfl
      · exact hAs v hv)]
    simpa using hlen)
  rw [lg_entry_eq]
  exact k s.heap [] _ hP hD0.self va_S.rf hl
end
