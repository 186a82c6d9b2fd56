/-! ===== constructors: objects made in a constructor, and their constructors called ===== -/
theorem gn_nd : ∀ (l : List Nat), (∀ i j : Nat, ∀ a, l[i]? = some a → l[j]? = some a → i = j) → va_nd l = true := by
  intro l
  induction l with
  | nil => intro _; rfl
  | cons a t ih =>
    intro h
    simp only [va_nd, Bool.and_eq_true, decide_eq_true_eq]
    refine ⟨fun hm => ?_, ih (fun i j b h1 h2 => ?_)⟩
    · obtain ⟨k, hk⟩ := List.getElem?_of_mem hm
      have := h 0 (k + 1) a (by simp) (by simpa using hk)
      omega
    · have := h (i + 1) (j + 1) b (by simpa using h1) (by simpa using h2)
      omega
theorem gn_rg (n : Nat) : va_nd (List.range n) = true := gn_nd _ (fun i j a h1 h2 => by
  obtain ⟨h3, h4⟩ := List.getElem?_eq_some_iff.mp h1
  obtain ⟨h5, h6⟩ := List.getElem?_eq_some_iff.mp h2
  simp at h4 h6
  omega)
theorem gn_rgm (wr : va_W) (x : Nat × va_E) : (List.range wr.length).map (fun i => (wr ++ [x])[i]?) = wr.map some := by
  apply List.ext_getElem?
  intro i
  rw [List.getElem?_map, List.getElem?_map]
  by_cases h : i < wr.length
  · rw [List.getElem?_range h]
    simp only [Option.map_some]
    rw [List.getElem?_append_left h, List.getElem?_eq_getElem h, Option.map_some]
  · rw [List.getElem?_eq_none (by simpa using h), List.getElem?_eq_none (by simpa using h)]
    rfl
section
variable {X : gn_X} {M : gn_Mi} {cells slots pc : Nat} {lc : List (Nat × Value)} {st : List Value} {ws : va_W}
/-- an object comes, its fields all zero -/
theorem gn_new (hX : gn_Ok X M) {ix ci : Nat} {C : String} {T : u_T} {N : Nat} {fs : List Value} (hc : gx_cl[ci]? = some (C, T, N)) (hcl : Cond.classLink M.1.cls ix C ∈ gx_big) (hinst : Cond.instantiable C N ∈ gx_big) (hini : Cond.initialized C ∈ gx_big) (hfs : ∀ j, j < N → ∃ t, parseFieldDescriptor (T j).2.2.1 = some t ∧ defaultValue t = vp_V fs j) (hcells : cells + 1 ≤ M.2.2.2.cells) (hslots : slots + N ≤ M.2.2.2.slots) (hd : decode M.2.1 pc = .ok (.new ix, 3)) (kk : ∀ q, gn_G X M (cells + 1) (slots + N) (pc + 3) lc (.ref q :: st) (ws ++ [(q, .inr (ci, fs))])) : gn_G X M cells slots pc lc st ws := by
  obtain ⟨p, l, e, s, m, args, below, meth, c, Q, D, cI, A⟩ := X
  obtain ⟨hx, hb, hml, hts, hown, hrt, hlk, hin, hK, hNW, hA⟩ := hX
  intro H locs LS hP hD hS hl
  obtain ⟨hinw, ⟨ty0, hty⟩, hnm⟩ := gx_clok ci C T N hc
  refine va_new hx hb hts (fun u hu => List.mem_cons_of_mem _ (hinw u hu)) ty0 hty hown (hts _ (List.mem_cons_of_mem _ hcl)) (hts _ (List.mem_cons_of_mem _ hinst)) (hts _ (List.mem_cons_of_mem _ hini)) hK hP hD hS hA hc (fs := fs) (fun j hj => ?_) hcells hslots hd (fun q H1 hP1 hD1 hS1 => kk q H1 locs LS hP1 hD1 hS1 hl)
  obtain ⟨t, h1, h2⟩ := hfs j hj
  have h3 := hty j hj
  rw [h1] at h3
  rw [← Option.some.inj h3]
  exact h2
theorem gn_fb {M : gn_Mi} {D : va_G} {cI : ClassId} {ci h0 sz : Nat} {fs0 : List Value} {av : List Value} : FrameBlind (va_Pc av (gn_Pre D cI ci h0 sz fs0)) := by
  intro a U g mk h
  obtain ⟨h1, h2, h3, h4, h5, h6⟩ := h
  exact ⟨h1, h2, h3, va_K.moved (u := U) (U := U.calling g mk a) (Vm.Alike.refl U.vm) h4, h5, gx_NW.same (s := U) (U := U.calling g mk a) rfl h6⟩
/-- a nest mate's constructor, called over the last cell -/
theorem gn_call (hX : gn_Ok X M) {M' : gn_Mi} {ix n ci b N : Nat} {fs0 As : List Value} {out : ClassId → Nat → List Nat → va_W} {wr : va_W} (hM : gn_CT M' ci fs0 As N out) (hC : Cond.code M'.1 M'.2.1 M'.2.2.1 none ∈ gx_big) (hini : Cond.initialized M'.1.cls ∈ gx_big) (hy : M'.1.cls ≠ "java/lang/invoke/MethodHandle" ∧ M'.1.cls ≠ "java/lang/invoke/VarHandle") (hdn : (parseMethodDescriptor M'.1.desc).map (fun d => d.parameters.length) = some n) (hname : M'.1.name = "<init>") (hinst : Cond.instanceMethod M'.1 ∈ gx_big) (hl : Cond.methodLinkNest M.1.cls ix M'.1 "EachBearsPillar" ∈ gx_nest) (hr : M'.2.2.2.frames + 1 ≤ M.2.2.2.frames ∧ 8 + (M'.2.2.1 + 11) + M'.2.2.2.locals ≤ M.2.2.2.locals) (hd : decode M.2.1 pc = .ok (.invokespecial ix, 3)) (hn : As.length = n) {rest : List Value} (hst : st = As.reverse ++ .ref b :: rest) (hrl : (rest.map fun v => v.category).sum ≤ 8) (hws : ws = wr ++ [(b, .inr (ci, fs0))]) (hcells : cells + M'.2.2.2.cells ≤ M.2.2.2.cells) (hslots : slots + M'.2.2.2.slots ≤ M.2.2.2.slots)
    (kk : ∀ qs : List Nat, qs.length = N → gn_G X M (cells + M'.2.2.2.cells) (slots + M'.2.2.2.slots) (pc + 3) lc rest (wr ++ out (gn_cI X) b qs)) : gn_G X M cells slots pc lc st ws := by
  obtain ⟨p, l, e, s, m, args, below, meth, c, Q, D, cI, A⟩ := X
  obtain ⟨hx, hb, hml, hts, hown, hrt, hlk, hin, hK, hNW, hA⟩ := hX
  intro H locs LS hP hD hS hlv
  subst hws hst
  have hat : (wr ++ [(b, (.inr (ci, fs0) : va_E))])[wr.length]? = some (b, .inr (ci, fs0)) := by simp
  have hP1 : va_P D gx_cl [(b, .inr (ci, fs0))] H := by
    intro k q hq
    cases k with
    | zero => cases hq; exact hP _ _ hat
    | succ k => simp at hq
  have hD1 : va_D (fun _ => True) [((b : Nat), (.inr (ci, fs0) : va_E))] := by
    refine ⟨fun i j x y hi hj _ => ?_, fun _ _ _ => trivial⟩
    cases i <;> cases j <;> first | rfl | (simp at hi hj)
  have hp : PreS s H (va_Pc (.ref b :: As) (gn_Pre D cI ci b H.size fs0)) (.ref b :: As) := by
    refine ⟨gn_fb (M := M'), fun U hU hW => ⟨rfl, by rw [hU], by rw [hU]; exact hP1, va_K.moved hW.alike hK, hD1, hNW.warm hW⟩⟩
  have hwsd : ∀ w ∈ (Cond.code M'.1 M'.2.1 M'.2.2.1 none :: gx_big), ∀ (a' : Array Value) (U : State), s.WarmedH U.vm → w.before a' U = true := pay_in hts (gx_good hC)
  have hlen : ∀ sig, parseMethodDescriptor M'.1.desc = some sig → n = sig.parameters.length := fun sig h => by
    have h2 := hdn
    rw [h] at h2
    exact (Option.some.inj h2).symm
  have hfree := va_free (wc := [(b, .inr (ci, fs0))]) hD hS hA [wr.length] (by simp)
  have run := va_runIN (e := e) (below := below) (meth := meth) (locs := locs) (own := M.1.cls) (host := "EachBearsPillar") (b := b) (As := As) (rest := rest) (cells := cells) (slots := slots) (g := F0 m pc LS (As.reverse ++ .ref b :: rest)) ⟨hx, hb, hml, hown, hts⟩ (hM l D cI b H.size) ⟨⟨⟨rfl, rfl, hr.1, hr.2, hwsd, List.mem_cons_self⟩, hts _ (List.mem_cons_of_mem _ hC), hts _ (List.mem_cons_of_mem _ hini), hy, hlen, va_Nw.use rfl (hNW _ hl)⟩, hname, hts _ (List.mem_cons_of_mem _ hinst)⟩ hp rfl hn hlv.1 rfl (by show 2 * 0 + _ ≤ 8; omega) hd ⟨hcells, hslots⟩
  refine va_callv run hS (fun q _ h => hfree q h) (fun q h => hfree q h) (fun qs t H1 locs1 ht hal hqs hB hsz hkeep hS1 => ?_)
  obtain ⟨hP2, hD2⟩ := hB
  rw [ht] at hP2
  obtain ⟨j1, j2⟩ := va_join (wr := wr) (wc := [(b, .inr (ci, fs0))]) hP hD [wr.length] (List.range wr.length) (by simp) (gn_rgm wr _) (gn_rg _) (by simp; omega) hkeep hfree hP2 hD2
  exact kk qs hqs H1 locs1 LS j1 j2 hS1 hlv
end
theorem gn_l6 {P : List Nat → Prop} (h : ∀ a b c d e f, P [a, b, c, d, e, f]) : ∀ qs : List Nat, qs.length = 6 → P qs
  | [a, b, c, d, e, f], _ => h a b c d e f
theorem gn_l2 {P : List Nat → Prop} (h : ∀ a b, P [a, b]) : ∀ qs : List Nat, qs.length = 2 → P qs
  | [a, b], _ => h a b
