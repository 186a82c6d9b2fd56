/-! ===== the law: its start ===== -/
/-- an object and its constructor, in the law -/
theorem lx_ctor {p : Program} {l : Launch} {e : Env} {s : State} {m : MethodId} {below : List Frame} {meth : Method} {c : Code} {b : Nat} {H : Heap} {locs : List Loc} {Q : State → Prop} {LS : Array Slot} {pc cells slots : Nat} (hx : p.tables.exec = Jvm.exec) (hb : c.code = code) (hml : c.maxLocals = 4) (hown : s.vm.findClass R_law = some m.cls) (hts : ∀ w ∈ lw_tbl, w.before #[Value.ref b] s = true) (hNW : gx_NW s) {D : va_G} {cI : ClassId} (hK : va_K D gx_cl [(cI, .int)] s) {M' : gn_Mi} {ixn ixc ci N nf : Nat} {C : String} {T : u_T} {fs0 : List Value} {out : ClassId → Nat → List Nat → va_W} {wr : va_W} (hM : gn_CT M' ci fs0 [] N out) (hcl0 : M'.1.cls = C) (hc : gx_cl[ci]? = some (C, T, nf)) (hlc : Cond.classLink R_law ixn C ∈ gx_big) (hinst : Cond.instantiable C nf ∈ gx_big) (hini : Cond.initialized C ∈ gx_big) (hfs : ∀ j, j < nf → ∃ t, parseFieldDescriptor (T j).2.2.1 = some t ∧ defaultValue t = vp_V fs0 j) (hC : Cond.code M'.1 M'.2.1 M'.2.2.1 none ∈ gx_big) (hy : M'.1.cls ≠ "java/lang/invoke/MethodHandle" ∧ M'.1.cls ≠ "java/lang/invoke/VarHandle") (hdn : (parseMethodDescriptor M'.1.desc).map (fun d => d.parameters.length) = some 0) (hname : M'.1.name = "<init>") (him : Cond.instanceMethod M'.1 ∈ gx_big) (hl : Cond.methodLink R_law ixc M'.1 ∈ gx_big) (hr : M'.2.2.2.frames + 1 ≤ room_1.frames ∧ 8 + (M'.2.2.1 + 11) + M'.2.2.2.locals ≤ room_1.locals) (hd0 : decode code pc = .ok (.new ixn, 3)) (hd1 : decode code (pc + 3) = .ok (.dup, 1)) (hd2 : decode code (pc + 3 + 1) = .ok (.invokespecial ixc, 3)) (hP : va_P D gx_cl wr H) (hD : va_D (lx_A s) wr) (hS : va_S (lx_A s) s.heap H locs) (hls : LS.size = 4) (hcells : cells + 1 + M'.2.2.2.cells ≤ 60) (hslots : slots + nf + M'.2.2.2.slots ≤ 4256)
    (kk : ∀ (q : Nat) (qs : List Nat) (H1 : Heap) (locs1 : List Loc), qs.length = N → va_P D gx_cl (wr ++ out cI q qs) H1 → va_D (lx_A s) (wr ++ out cI q qs) → va_S (lx_A s) s.heap H1 locs1 → W p l e room_1 s m #[Value.ref b] below meth c H1 locs1 (cells + 1 + M'.2.2.2.cells) (slots + nf + M'.2.2.2.slots) Q (F0 m (pc + 3 + 1 + 3) LS [.ref q])) : W p l e room_1 s m #[Value.ref b] below meth c H locs cells slots Q (F0 m pc LS []) := by
  subst hcl0
  obtain ⟨hinw, ⟨ty0, hty⟩, hnm⟩ := gx_clok ci _ T nf hc
  have hA : ∀ q, s.heap.size ≤ q → lx_A s q := fun _ h => h
  refine va_new hx hb hts (fun u hu => lx_big (hinw u hu)) ty0 hty hown (hts _ (lx_big hlc)) (hts _ (lx_big hinst)) (hts _ (lx_big hini)) hK hP hD hS hA hc (fs := fs0) (fun j hj => ?_) (by show cells + 1 ≤ 60; omega) (by show slots + nf ≤ 4256; omega) hd0 (fun q H1 hP1 hD1 hS1 => ?_)
  · obtain ⟨t, h1, h2⟩ := hfs j hj
    have h3 := hty j hj
    rw [h1] at h3
    rw [← Option.some.inj h3]
    exact h2
  refine lv_dup hx hb hd1 rfl ?_
  have hat : (wr ++ [(q, (.inr (ci, fs0) : va_E))])[wr.length]? = some (q, .inr (ci, fs0)) := by simp
  have hP2 : va_P D gx_cl [(q, .inr (ci, fs0))] H1 := by
    intro k x hq
    cases k with
    | zero => cases hq; exact hP1 _ _ hat
    | succ k => simp at hq
  have hD2 : va_D (fun _ => True) [((q : Nat), (.inr (ci, fs0) : va_E))] := by
    refine ⟨fun i j x y hi hj _ => ?_, fun _ _ _ => trivial⟩
    cases i <;> cases j <;> first | rfl | (simp at hi hj)
  have hp : PreS s H1 (va_Pc (.ref q :: []) (gn_Pre D cI ci q H1.size fs0)) (.ref q :: []) := by
    refine ⟨gn_fb (M := M'), fun U hU hW => ⟨rfl, by rw [hU], by rw [hU]; exact hP2, va_K.moved hW.alike hK, hD2, hNW.warm hW⟩⟩
  have hwsd : ∀ w ∈ (Cond.code M'.1 M'.2.1 M'.2.2.1 none :: gx_big), ∀ (a' : Array Value) (U : State), s.WarmedH U.vm → w.before a' U = true := pay_in hts (lx_good hC)
  have hlen : ∀ sig, parseMethodDescriptor M'.1.desc = some sig → 0 = sig.parameters.length := fun sig h => by
    have h2 := hdn
    rw [h] at h2
    exact (Option.some.inj h2).symm
  have hfree := va_free (wc := [(q, .inr (ci, fs0))]) hD1 hS1 hA [wr.length] (by simp)
  have run := va_runI (e := e) (below := below) (meth := meth) (locs := locs) (R := room_1) (own := R_law) (b := q) (As := []) (rest := [.ref q]) (cells := cells + 1) (slots := slots + nf) (g := F0 m (pc + 3 + 1) LS [.ref q, .ref q]) ⟨hx, hb, hml, hown, hts⟩ (hM l D cI q H1.size) ⟨⟨rfl, rfl, hr.1, hr.2, hwsd, List.mem_cons_self, hts _ (lx_big hC), hts _ (lx_big hini), hy, hlen, hts _ (lx_big hl)⟩, hname, hts _ (lx_big him)⟩ hp rfl rfl hls rfl (lv_room (pc := pc) (ls := LS) (m := m) (rest := []) (Nat.le_of_ble_eq_true rfl)) hd2 ⟨hcells, hslots⟩
  refine va_callv run hS1 (fun q _ h => hfree q h) (fun q h => hfree q h) (fun qs t H3 locs1 ht hal hqs hB hsz hkeep hS3 => ?_)
  obtain ⟨hP3, hD3⟩ := hB
  rw [ht] at hP3
  obtain ⟨j1, j2⟩ := va_join (wr := wr) (wc := [(q, .inr (ci, fs0))]) hP1 hD1 [wr.length] (List.range wr.length) (by simp) (gn_rgm wr _) (gn_rg _) (by simp; omega) hkeep hfree hP3 hD3
  exact kk q qs H3 locs1 hqs j1 j2 hS3
/-- the classes known, the class of int[] -/
theorem lx_K {s : State} {a : Array Value} (hts : ∀ w ∈ lw_tbl, w.before a s = true) : ∃ (D : va_G) (cI : ClassId), va_K D gx_cl [(cI, .int)] s := by
  have h0 : ∀ k : Nat, ∃ u : ClassId × (Nat → Nat), ∀ q : vw_C, gx_cl[k]? = some q → u_Kn s q.1 q.2.1 q.2.2 u.1 u.2 := by
    intro k
    have main : ∀ (q : vw_C) (n : Nat), gx_cl[k]? = some q → Cond.instantiable q.1 n ∈ gx_big → ∃ u : ClassId × (Nat → Nat), ∀ q : vw_C, gx_cl[k]? = some q → u_Kn s q.1 q.2.1 q.2.2 u.1 u.2 := by
      intro q n hq hi
      obtain ⟨c0, iS, hKn⟩ := u_known (C := q.1) (T := q.2.1) (N := q.2.2) (n := n) hts (fun w hw => lx_big ((gx_clok k q.1 q.2.1 q.2.2 hq).1 w hw)) (hts _ (lx_big hi))
      refine ⟨(c0, iS), fun q' hq' => ?_⟩
      rw [hq] at hq'
      cases hq'
      exact hKn
    match k with
    | 0 => exact main _ 11 rfl se_E_it
    | 1 => exact main _ 9 rfl ne_R_it
    | 2 => exact main _ 10 rfl ne_M_it
    | 3 => exact main _ 6 rfl ne_T_it
    | 4 => exact main _ 4 rfl ne_W_it
    | 5 => exact main _ 3 rfl ne_O_it
    | 6 => exact main _ 35 rfl se_D_it
    | k + 7 => exact ⟨(0, fun _ => 0), fun q hq => by simp at hq⟩
  obtain ⟨ch, hch⟩ := Classical.axiomOfChoice h0
  obtain ⟨cA, kA, comp, h1, h2, h3⟩ := Cond.arrayClass_spec (hts _ (lx_big wi_ac))
  refine ⟨(fun k => (ch k).1, fun k => (ch k).2), cA, fun k q hq => hch k q hq, fun k q hq => ?_⟩
  cases k with
  | zero =>
    cases hq
    exact ⟨fun n z => ⟨fun k h => (by cases h), kA, h2, comp, h3⟩, h1⟩
  | succ k => simp at hq
theorem lx_NW {s : State} {a : Array Value} (hts : ∀ w ∈ lw_tbl, w.before a s = true) : gx_NW s := by
  intro w hw
  have h1 := hts w (List.mem_filter.mp hw).1
  have h2 := (List.mem_filter.mp hw).2
  cases w <;> first | exact va_Nw.of rfl h1 | (simp [gx_isNest] at h2; done)
/-- the texts' terms -/
def lx_tm (i : Nat) : Term := Term.string "EachBearsPillar$Text" (gx_tx.getD i (0, "", [])).1
abbrev lx_fl : List Cond := flatC (given_1.and narrow_1)
theorem lx_t1 : ∀ i, i < 7 → Cond.exactly (lx_tm i) "java/lang/String" ∈ lx_fl := by decide +kernel
theorem lx_t2 : ∀ i, i < 7 → Cond.eq (.field (lx_tm i) "java/lang/String" "coder" "B") (.int 0) ∈ lx_fl := by decide +kernel
theorem lx_t3 : ∀ i, i < 7 → Cond.arrayOf (.field (lx_tm i) "java/lang/String" "value" "[B") .byte ∈ lx_fl := by decide +kernel
theorem lx_t4 : ∀ i, i < 7 → Cond.eq (.length (.field (lx_tm i) "java/lang/String" "value" "[B")) (.int (Int32.ofNat (gx_txl.getD i 0))) ∈ lx_fl := by decide +kernel
theorem lx_t5 : ∀ i, i < 7 → ∀ j, j < gx_txl.getD i 0 → Cond.eq (.elem (.field (lx_tm i) "java/lang/String" "value" "[B") (.int (Int32.ofNat j))) (.int ((gx_txb.getD i []).getD j 0)) ∈ lx_fl := by decide +kernel
theorem lx_t6 : ∀ i, i < 7 → ∀ j, j < 7 → i ≠ j → (Cond.not (Cond.eq (lx_tm i) (lx_tm j)) ∈ lx_fl ∨ Cond.not (Cond.eq (lx_tm j) (lx_tm i)) ∈ lx_fl) := by decide +kernel
theorem lx_t7 : ∀ i, i < 7 → gx_txl.getD i 0 < 2 ^ 31 := by decide +kernel
theorem lx_t8 : Cond.eq (Term.static "java/lang/String" "COMPACT_STRINGS" "Z") (.int 1) ∈ lx_fl := by decide +kernel
theorem lx_t9 : Cond.isRef (Term.static "jdk/internal/util/Preconditions" "SIOOBE_FORMATTER" "Ljava/util/function/BiFunction;") ∈ lx_fl := by decide +kernel
def lx_ad (q : Nat) (qs : List Nat) (adK adV : Nat → Nat) : Nat → Nat := fun i => if i < 1000 then (q :: qs).getD i 0 else if i < 2000 then adK (i - 1000) else adV (i - 2000)
def lx_S (sh : List gx_Sh) (D : va_G) (cI q : Nat) (qs : List Nat) (adK adV : Nat → Nat) : gx_Sd := (sh, D, lx_ad q qs adK adV, cI, fun _ => 0)
theorem lx_adk {q : Nat} {qs : List Nat} {adK adV : Nat → Nat} {i : Nat} (h : i < 7) : lx_ad q qs adK adV (1000 + i) = adK i := by
  unfold lx_ad
  rw [if_neg (by omega), if_pos (by omega), Nat.add_sub_cancel_left]
theorem lx_adv {q : Nat} {qs : List Nat} {adK adV : Nat → Nat} {i : Nat} (h : i < 7) : lx_ad q qs adK adV (2000 + i) = adV i := by
  unfold lx_ad
  rw [if_neg (by omega), if_neg (by omega), Nat.add_sub_cancel_left]
/-- what is known of texts and statics at the start, whatever the sides' objects are -/
theorem lx_T {s : State} {a : Array Value} (hts : ∀ w ∈ lw_tbl, w.before a s = true) (hgv : (Jvm.Cond.and given_1 narrow_1).before a s = true) : ∃ adK adV : Nat → Nat, ∀ (sh : List gx_Sh) (D : va_G) (cI q : Nat) (qs : List Nat), (∀ k, k < sh.length → s.heap.size ≤ lx_ad q qs adK adV k) → gx_SX (lx_S sh D cI q qs adK adV) s s.heap := by
  have hs : ∀ c, c ∈ lx_fl → c.before a s = true := flat_of_before _ hgv
  have hA : ∀ x : Nat, x < s.heap.size → ¬ lx_A s x := fun x hx h => absurd h (Nat.not_le.mpr hx)
  obtain ⟨adK, adV, hT, hE⟩ := vk_Sof (tm := lx_tm) (len := gx_txl) (byt := gx_txb) (A := lx_A s) (N := 7) lx_t7 (fun i hi => hs _ (lx_t1 i hi)) (fun i hi => hs _ (lx_t2 i hi)) (fun i hi => hs _ (lx_t3 i hi)) (fun i hi => hs _ (lx_t4 i hi)) (fun i hi j hj => hs _ (lx_t5 i hi j hj)) (fun i j hi hj hij => (lx_t6 i hi j hj hij).elim (fun h => Or.inl (hs _ h)) (fun h => Or.inr (hs _ h))) hA
  have hZ1 := va_Zof (A := lx_A s) (hts _ (se_sc)) (hts _ (lx_big se_si)) (va_eqt (hs _ lx_t8)) hA
  have hZ2 := va_Zqof (A := lx_A s) (hts _ (se_pf)) (hts _ (lx_big se_pi)) (hs _ lx_t9) hA
  refine ⟨adK, adV, fun sh D cI q qs hlow => ?_⟩
  have hAB : ∀ x, gx_A (lx_S sh D cI q qs adK adV) x → lx_A s x := by
    rintro x ⟨k, hk, rfl⟩
    exact hlow k hk
  have hT2 := hT.narrow hAB
  refine ⟨⟨fun i hi => ?_, fun i j hi hj e => ?_⟩, fun i hi => ?_, hZ1.narrow hAB, ?_⟩
  · have e1 : (lx_S sh D cI q qs adK adV).2.2.1 (1000 + i) = adK i := lx_adk hi
    have e2 : (lx_S sh D cI q qs adK adV).2.2.1 (2000 + i) = adV i := lx_adv hi
    have h := hT2.1 i hi
    dsimp only
    rw [e1, e2]
    exact h
  · have e1 : (lx_S sh D cI q qs adK adV).2.2.1 (1000 + i) = adK i := lx_adk hi
    have e2 : (lx_S sh D cI q qs adK adV).2.2.1 (1000 + j) = adK j := lx_adk hj
    dsimp only at e
    rw [e1, e2] at e
    exact hT2.2 i j hi hj e
  · have e1 : (lx_S sh D cI q qs adK adV).2.2.1 (1000 + i) = adK i := lx_adk hi
    rw [e1]
    refine vk_R.of (A := a) ?_ (hE i hi)
    match i, hi with
    | 0, _ => exact hts _ (se_t0)
    | 1, _ => exact hts _ (se_t1)
    | 2, _ => exact hts _ (se_t2)
    | 3, _ => exact hts _ (se_t3)
    | 4, _ => exact hts _ (se_t4)
    | 5, _ => exact hts _ (se_t5)
    | 6, _ => exact hts _ (se_t6)
    | n + 7, h => exact absurd h (by omega)
  · rcases hZ2 with h | ⟨t, h⟩
    · exact ⟨.null, Or.inl rfl, h.narrow hAB⟩
    · exact ⟨.ref t, Or.inr ⟨t, rfl⟩, h.narrow hAB⟩
/-- the worlds at the start -/
def w0x : gx_Wd := fun _ _ => 0
def w0m : gx_Wd := fun o => if o = 10 then (upd (upd (upd (upd (upd (upd (upd (fun _ => 0) (Int32.toNatClampNeg 0) 0) (Int32.toNatClampNeg 1) 1) (Int32.toNatClampNeg 2) 2) (Int32.toNatClampNeg 3) 3) (Int32.toNatClampNeg 4) 4) (Int32.toNatClampNeg 5) 5) (Int32.toNatClampNeg 6) 6) else if o = 0 then upd (fun _ => 0) 19 (-1) else fun _ => 0
set_option maxRecDepth 20000 in
theorem lx_ox {D : va_G} {cI q : Nat} {qs : List Nat} {adK adV : Nat → Nat} : o_i_E cI q qs = gx_cells (lx_S sh_x D cI q qs adK adV) w0x := rfl
set_option maxRecDepth 20000 in
theorem lx_om {D : va_G} {cI q : Nat} {adK adV : Nat → Nat} : ∀ qs : List Nat, qs.length = 19 → o_i_D cI q qs = gx_cells (lx_S sh_m D cI q qs adK adV) w0m
  | [q0, q1, q2, q3, q4, q5, q6, q7, q8, q9, q10, q11, q12, q13, q14, q15, q16, q17, q18], _ => rfl
theorem Inv0 : Inv w0x w0m := by
  have e : nI 0 = 0 := nI_0
  have hm : ∀ o k, o ≠ 10 → ¬ (o = 0 ∧ k = 19) → w0m o k = 0 := by
    intro o k h1 h2
    unfold w0m
    rw [if_neg h1]
    by_cases h3 : o = 0
    · rw [if_pos h3]
      exact pk_un (fun z => h2 ⟨h3, z⟩)
    · rw [if_neg h3]
  refine ⟨fun _ _ => 0, fun _ _ => 0, 0, 0, ⟨⟨fun k _ => e.symm, fun j _ _ i _ => e.symm, fun i _ => e.symm, fun i _ => e.symm⟩, ⟨fun k hk => ?_, fun j h1 h2 i hi => ?_, fun i hi => ?_, fun i hi => ?_⟩, ?_⟩, ⟨⟨fun k _ => e.symm, fun j _ _ i _ => e.symm, fun i _ => e.symm, fun i _ => e.symm⟩, ⟨fun k hk => ?_, fun j h1 h2 i hi => ?_, fun i hi => ?_, fun i hi => ?_⟩, ?_, ?_⟩, ⟨Nat.zero_le _, e.symm, ?_, fun i hi => ?_⟩, fun i hi => ?_, ⟨Nat.zero_le _, e.symm, ?_, fun i hi => ?_⟩, fun i hi => ?_, rfl⟩
  · rw [hm 0 k (by omega) (by omega)]; exact e.symm
  · rw [hm (0 + j) i (by omega) (by omega)]; exact e.symm
  · rw [hm (0 + 5) i (by omega) (by omega)]; exact e.symm
  · rw [hm (0 + 6) i (by omega) (by omega)]; exact e.symm
  · unfold Rok; simp
  · rw [hm 0 (26 + k) (by omega) (by omega)]; exact e.symm
  · rw [hm (13 + j) i (by omega) (by omega)]; exact e.symm
  · rw [hm 18 i (by omega) (by omega)]; exact e.symm
  · rw [hm 19 i (by omega) (by omega)]; exact e.symm
  · unfold Rok; simp
  · rw [hm 0 25 (by omega) (by omega)]; rfl
  · rw [hm 0 4 (by omega) (by omega)]; exact e.symm
  · rw [hm 8 i (by omega) (by omega)]; rfl
  · rw [hm 9 i (by omega) (by omega)]; rfl
  · rw [hm 0 3 (by omega) (by omega)]; exact e.symm
  · rw [hm 7 i (by omega) (by omega)]; rfl
  · match i, hi with
    | 0, _ => rfl
    | 1, _ => rfl
    | 2, _ => rfl
    | 3, _ => rfl
    | 4, _ => rfl
    | 5, _ => rfl
    | 6, _ => rfl
    | n + 7, h => exact absurd h (by omega)
/-- a side stands, where its cells are apart and new -/
theorem lx_side {s : State} {S : gx_Sd} {w : gx_Wd} {pre post : va_W} (hK : va_K S.2.1 gx_cl [(S.2.2.2.1, .int)] s) (hSX : (∀ i, i < S.1.length → s.heap.size ≤ S.2.2.1 i) → gx_SX S s s.heap) (hD : va_D (lx_A s) (pre ++ gx_cells S w ++ post)) : lx_Sd S s := by
  have hat : ∀ i, i < S.1.length → ∃ e, (pre ++ gx_cells S w ++ post)[pre.length + i]? = some (S.2.2.1 i, e) := by
    intro i hi
    have h := gx_get (S := S) (w := w) (List.getElem?_eq_getElem hi)
    have hl : i < (gx_cells S w).length := (List.getElem?_eq_some_iff.mp h).1
    refine ⟨gx_ce S (w i) S.1[i], ?_⟩
    rw [List.append_assoc, List.getElem?_append_right (by omega), Nat.add_sub_cancel_left, List.getElem?_append_left hl]
    exact h
  have hlow : ∀ i, i < S.1.length → s.heap.size ≤ S.2.2.1 i := by
    intro i hi
    obtain ⟨e, h⟩ := hat i hi
    exact hD.2 _ _ h
  refine ⟨hK, fun i j hi hj e => ?_, hSX hlow, hlow⟩
  obtain ⟨e1, h1⟩ := hat i hi
  obtain ⟨e2, h2⟩ := hat j hj
  have := hD.1 _ _ _ _ h1 h2 e
  omega
