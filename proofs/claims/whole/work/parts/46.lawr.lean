/-! ===== the law: its world of two sides, its rows ===== -/
def R_law : String := "EachBearsPillarLaw"
def lw_P (b : Addr) (xs : List Int32) (args : Array Value) (s : State) : Prop := args = #[.ref b] ∧ s.IntsAt b xs ∧ xs.length ≤ 1536 ∧ (Jvm.Cond.and given_1 narrow_1).before args s = true
def lw_Q (_ : Array Value) (s : State) (o : Outcome) (t : State) : Prop := o = .returned (some (.int 1)) ∧ Framed s o t [] 60 4256
def lw_Z (below : List Frame) (a : Array Value) (s : State) : State → Prop := fun t => ∃ o, t.status = .running ∧ Ended t below o ∧ lw_Q a s o t
/-- the law's own end, with 1 on the stack, nothing written that was there before, its room as the claim has it -/
theorem lw_ret {p : Program} {l : Launch} {e : Env} {s : State} {m : MethodId} {below : List Frame} {meth : Method} {c : Code} {b : Nat} (hx : p.tables.exec = Jvm.exec) (hb : c.code = code) (hr : meth.sig.returnType = ret) (hlocks : meth.locks = false) {pc : Nat} {H : Heap} {ls : Array Slot} (hdg : decode code pc = .ok (.ireturn, 1)) : W p l e room_1 s m #[Value.ref b] below meth c H [] 60 4256 (lw_Z below #[Value.ref b] s) (F0 m pc ls [.int 1]) := by
  intro T hT X
  obtain ⟨fs, hret, hrun, hended, hW, hframe⟩ := X.leave (v := some (.int 1)) (hlocks := hlocks) (fun h => by rw [hr] at h; cases h)
  have hmeth' : T.vm.method? m = some meth := X.method'
  refine ⟨T.setFrames fs, ?_, .returned (some (.int 1)), hrun, hended, rfl, ⟨_, rfl⟩, hW, hframe⟩
  jvm_step X.here [X.here.top, hx, hb, hdg, hmeth', hr, ret, narrow_b1]
  (try refine ⟨rfl, ?_⟩); (try refine ⟨rfl, ?_⟩)
  first | (intro acts; rw [hret _ acts rfl rfl rfl]) | rw [hret _ _ rfl rfl rfl]
  exact Steps.refl _
/-- what holds at the law's entry: the machine, the code, the tables' words (any of lw_tbl by 'hts w (by decide +kernel)'), the script of L ints xs at the cell b, what the Statement gives of the start (any of its parts by flat_of_before) -/
def lw_At (p : Program) (s : State) (m : MethodId) (meth : Method) (c : Code) (b L : Nat) (xs : Nat → Int32) : Prop :=
  p.tables.exec = Jvm.exec ∧ c.code = code ∧ meth.sig.returnType = ret ∧ c.maxLocals = 4 ∧ s.vm.findClass R_law = some m.cls ∧ (∀ w ∈ lw_tbl, w.before #[Value.ref b] s = true) ∧ va_X b L xs s s.heap ∧ b < s.heap.size ∧ meth.locks = false ∧ (Jvm.Cond.and given_1 narrow_1).before #[Value.ref b] s = true
/-! my own rows over the law -/
theorem lx_big {w : Cond} (h : w ∈ gx_big) : w ∈ lw_tbl := (List.mem_filter.mp h).1
theorem lx_good {c : Cond} (hc : c ∈ gx_big) : GoodIn lw_tbl (c :: gx_big) := by
  intro w hw
  rcases List.mem_cons.mp hw with rfl | hw
  · exact ⟨lx_big hc, good_of_word (List.mem_filter.mp hc).2⟩
  · exact ⟨lx_big hw, good_of_word (List.mem_filter.mp hw).2⟩
abbrev lx_X : Type := Program × Launch × Env × State × MethodId × List Frame × Method × Code × Nat × Nat × (Nat → Int32) × gx_Sd × gx_Sd
def lx_A (s : State) : Nat → Prop := fun q => s.heap.size ≤ q
def lx_Sd (S : gx_Sd) (s : State) : Prop := va_K S.2.1 gx_cl [(S.2.2.2.1, .int)] s ∧ gx_DD S ∧ gx_SX S s s.heap ∧ ∀ i, i < S.1.length → s.heap.size ≤ S.2.2.1 i
def lx_Ok (X : lx_X) : Prop := match X with
  | (p, l, e, s, m, below, meth, c, b, L, xs, Sx, Sm) => p.tables.exec = Jvm.exec ∧ c.code = code ∧ meth.sig.returnType = ret ∧ c.maxLocals = 4 ∧ s.vm.findClass R_law = some m.cls ∧ (∀ w ∈ lw_tbl, w.before #[Value.ref b] s = true) ∧ va_X b L xs s s.heap ∧ b < s.heap.size ∧ meth.locks = false ∧ L ≤ 1536 ∧ gx_NW s ∧ lx_Sd Sx s ∧ lx_Sd Sm s ∧ (∀ i j, i < Sx.1.length → j < Sm.1.length → Sx.2.2.1 i ≠ Sm.2.2.1 j) ∧ Sx.1 = sh_x ∧ Sm.1 = sh_m
def lx_b (X : lx_X) : Nat := X.2.2.2.2.2.2.2.2.1
def lx_L (X : lx_X) : Nat := X.2.2.2.2.2.2.2.2.2.1
def lx_xs (X : lx_X) : Nat → Int32 := X.2.2.2.2.2.2.2.2.2.2.1
def lx_x (X : lx_X) : Nat := X.2.2.2.2.2.2.2.2.2.2.2.1.2.2.1 0
def lx_m (X : lx_X) : Nat := X.2.2.2.2.2.2.2.2.2.2.2.2.2.2.1 0
/-- THE GOAL: at pc, with the counter at k, this stack, these worlds, the law comes to its end -/
def lx_G (X : lx_X) (pc k : Nat) (st : List Value) (wx wm : gx_Wd) : Prop := match X with
  | (p, l, e, s, m, below, meth, c, b, _, _, Sx, Sm) => ∀ (H : Heap) (locs : List Loc) (LS : Array Slot), va_P Sx.2.1 gx_cl (gx_cells Sx wx) H → va_P Sm.2.1 gx_cl (gx_cells Sm wm) H → va_S (lx_A s) s.heap H locs → lv_has LS 4 [(0, .ref b), (1, .ref (Sx.2.2.1 0)), (2, .ref (Sm.2.2.1 0)), (3, .int (nI k))] → W p l e room_1 s m #[Value.ref b] below meth c H locs 60 4256 (lw_Z below #[Value.ref b] s) (F0 m pc LS st)
/-- a call at one of the two sides -/
theorem lx_call {p : Program} {l : Launch} {e : Env} {s : State} {m : MethodId} {below : List Frame} {meth : Method} {c : Code} {b : Nat} {H : Heap} {locs : List Loc} {Q : State → Prop} {LS : Array Slot} {pc : Nat} (hx : p.tables.exec = Jvm.exec) (hb : c.code = code) (hml : c.maxLocals = 4) (hown : s.vm.findClass R_law = some m.cls) (hts : ∀ w ∈ lw_tbl, w.before #[Value.ref b] s = true) (hNW : gx_NW s) {S S' : gx_Sd} (hS0 : lx_Sd S s) (hdj : ∀ i j, i < S.1.length → j < S'.1.length → S.2.2.1 i ≠ S'.2.2.1 j) {w w' w1 : gx_Wd} {M' : gx_Mi} {ix n ci : Nat} {As : List gx_V} {fs : List (Option Nat)} {v : Int32} (hd : decode code pc = .ok (.invokevirtual ix, 3)) (hl : Cond.methodLink R_law ix M'.1 ∈ gx_big) (ho : gx_mo M' n) (hv : gx_mv M') (hr : M'.2.2.2.2.1.frames + 1 ≤ room_1.frames ∧ 8 + (M'.2.2.1 + 11) + M'.2.2.2.2.1.locals ≤ room_1.locals) (hs : S.1[0]? = some (.inr (ci, fs))) (hc : ∃ T N, gx_cl[ci]? = some (M'.1.cls, T, N)) (he : S.1 = M'.2.2.2.2.2) (hM : gx_MT M' (.inr 0 :: As) w (some (.inl v)) w1) (hn : As.length = n) {rest st : List Value} (hst : st = (As.map (gx_cv S.2.2.1)).reverse ++ .ref (S.2.2.1 0) :: rest) (hrl : (rest.map fun v => v.category).sum ≤ 8) (hP : va_P S.2.1 gx_cl (gx_cells S w) H) (hP' : va_P S'.2.1 gx_cl (gx_cells S' w') H) (hVS : va_S (lx_A s) s.heap H locs) (hls : LS.size = 4)
    (kk : ∀ (H1 : Heap) (locs1 : List Loc), va_P S.2.1 gx_cl (gx_cells S w1) H1 → va_P S'.2.1 gx_cl (gx_cells S' w') H1 → va_S (lx_A s) s.heap H1 locs1 → W p l e room_1 s m #[Value.ref b] below meth c H1 locs1 60 4256 Q (F0 m (pc + 3) LS (.int v :: rest))) : W p l e room_1 s m #[Value.ref b] below meth c H locs 60 4256 Q (F0 m pc LS st) := by
  obtain ⟨hK, hDD, hSX, hlow⟩ := hS0
  obtain ⟨T, N, hc⟩ := hc
  obtain ⟨o1, o2, o3, o4, o5, o6⟩ := ho
  subst hst
  have hp : PreV s H M'.1.cls (S.2.2.1 0) (va_Pc ((Sum.inr 0 :: As : List gx_V).map (gx_cv S.2.2.1)) (gx_PX S w)) (As.map (gx_cv S.2.2.1)) := by
    refine ⟨gx_fb, va_recv hK hP hc (gx_get hs), fun U hU hW => ⟨rfl, ?_⟩⟩
    exact ⟨by rw [hU]; exact hP, va_K.moved hW.alike hK, hDD, hNW.warm hW, by rw [hU]; exact hSX.to hW (fun a ha _ => hVS.2.1 a ha (Nat.not_le.mpr ha))⟩
  have hws : ∀ w ∈ (Cond.code M'.1 M'.2.1 M'.2.2.1 M'.2.2.2.1 :: gx_big), ∀ (a' : Array Value) (U : State), s.WarmedH U.vm → w.before a' U = true := pay_in hts (lx_good o1)
  have hlen : ∀ sig, parseMethodDescriptor M'.1.desc = some sig → n = sig.parameters.length := fun sig h => by
    have h2 := o4
    rw [h] at h2
    exact (Option.some.inj h2).symm
  have hfree : ∀ q, gx_A S q → lx_A s q := by
    rintro q ⟨k, hk, rfl⟩
    exact hlow k hk
  have hr : va_Run p l e room_1 s m #[Value.ref b] below meth c H locs 60 4256 0 0 (F0 m pc LS ((As.map (gx_cv S.2.2.1)).reverse ++ .ref (S.2.2.1 0) :: rest)) rest (gx_Q S (some (.inl v)) w1 (Value.ref (S.2.2.1 0) :: As.map (gx_cv S.2.2.1)).toArray) (gx_A S) :=
    va_runV (own := R_law) (As := As.map (gx_cv S.2.2.1)) (rest := rest) (g := F0 m pc LS ((As.map (gx_cv S.2.2.1)).reverse ++ .ref (S.2.2.1 0) :: rest)) ⟨hx, hb, hml, hown, hts⟩ (hM l S he) ⟨⟨o5, o6, hr.1, hr.2, hws, List.mem_cons_self, hts _ (lx_big o1), hts _ (lx_big o2), o3, hlen, hts _ (lx_big hl)⟩, hts _ (lx_big hv.1), hts _ (lx_big hv.2)⟩ hp rfl (by rw [List.length_map]; exact hn) hls rfl (by show 2 * 0 + _ ≤ 8; omega) hd ⟨Nat.le_refl 60, Nat.le_refl 4256⟩
  intro T' hT X'
  obtain ⟨v', st₀, t, T2, L, h0, X'', hL, e1, e2, ⟨⟨hv', hb'⟩, hz, hk⟩, stp⟩ := hr T' hT X'
  rw [h0] at hz hk
  have hv2 : v' = some (.int v) := by cases hv'; rfl
  subst hv2
  have hoth : va_P S'.2.1 gx_cl (gx_cells S' w') T2.heap := by
    intro k q hq
    rw [e1]
    have hq2 := hP' k q hq
    obtain ⟨g1, g2⟩ := gx_cells_at hq
    refine hq2.kept (hk q.1 hq2.lt ?_)
    rintro ⟨i, hi, e⟩
    exact hdj i k hi g1 (by rw [← e, g2])
  obtain ⟨t2, a1, b1⟩ := kk T2.heap (locs ++ L) (by rw [e1]; exact hb') hoth
    ⟨Nat.le_trans hVS.1 (by rw [e1]; exact hz), fun q h1 h2 => by rw [e1, hk q (Nat.lt_of_lt_of_le h1 hVS.1) (fun z => h2 (hfree q z))]; exact hVS.2.1 q h1 h2, fun q hq => by
      rcases List.mem_append.mp hq with h | h
      · exact hVS.2.2 q h
      · exact hfree _ (hL q h)⟩ T2 rfl X''
  exact ⟨t2, stp t2 a1, b1⟩
section
variable {X : lx_X} {pc k : Nat} {st : List Value} {wx wm : gx_Wd}
theorem lx_a0 (hX : lx_Ok X) (hd : decode code pc = .ok (.aload_n 0, 1)) (kk : lx_G X (pc + 1) k (.ref (lx_b X) :: st) wx wm) : lx_G X pc k st wx wm := by
  obtain ⟨p, l, e, s, m, below, meth, c, b, L, xs, Sx, Sm⟩ := X
  obtain ⟨hx, hb, hr, hml, hown, hts, hSc, hbl, hlk, hL, hNW, h1, h2, hdj, e1, e2⟩ := hX
  intro H locs LS hPx hPm hS hl
  exact lv_aload_n hx hb hd rfl (lv_at hl 0 rfl) (kk H locs LS hPx hPm hS hl)
theorem lx_a1 (hX : lx_Ok X) (hd : decode code pc = .ok (.aload_n 1, 1)) (kk : lx_G X (pc + 1) k (.ref (lx_x X) :: st) wx wm) : lx_G X pc k st wx wm := by
  obtain ⟨p, l, e, s, m, below, meth, c, b, L, xs, Sx, Sm⟩ := X
  obtain ⟨hx, hb, hr, hml, hown, hts, hSc, hbl, hlk, hL, hNW, h1, h2, hdj, e1, e2⟩ := hX
  intro H locs LS hPx hPm hS hl
  exact lv_aload_n hx hb hd rfl (lv_at hl 1 rfl) (kk H locs LS hPx hPm hS hl)
theorem lx_a2 (hX : lx_Ok X) (hd : decode code pc = .ok (.aload_n 2, 1)) (kk : lx_G X (pc + 1) k (.ref (lx_m X) :: st) wx wm) : lx_G X pc k st wx wm := by
  obtain ⟨p, l, e, s, m, below, meth, c, b, L, xs, Sx, Sm⟩ := X
  obtain ⟨hx, hb, hr, hml, hown, hts, hSc, hbl, hlk, hL, hNW, h1, h2, hdj, e1, e2⟩ := hX
  intro H locs LS hPx hPm hS hl
  exact lv_aload_n hx hb hd rfl (lv_at hl 2 rfl) (kk H locs LS hPx hPm hS hl)
theorem lx_i3 (hX : lx_Ok X) (hd : decode code pc = .ok (.iload_n 3, 1)) (kk : lx_G X (pc + 1) k (.int (nI k) :: st) wx wm) : lx_G X pc k st wx wm := by
  obtain ⟨p, l, e, s, m, below, meth, c, b, L, xs, Sx, Sm⟩ := X
  obtain ⟨hx, hb, hr, hml, hown, hts, hSc, hbl, hlk, hL, hNW, h1, h2, hdj, e1, e2⟩ := hX
  intro H locs LS hPx hPm hS hl
  exact lv_iload_n hx hb hd rfl (lv_at hl 3 rfl) (kk H locs LS hPx hPm hS hl)
theorem lx_ic (hX : lx_Ok X) {n : Int} {v : Int32} (hd : decode code pc = .ok (.iconst n, 1)) (hv : Int32.ofInt n = v) (kk : lx_G X (pc + 1) k (.int v :: st) wx wm) : lx_G X pc k st wx wm := by
  obtain ⟨p, l, e, s, m, below, meth, c, b, L, xs, Sx, Sm⟩ := X
  obtain ⟨hx, hb, hr, hml, hown, hts, hSc, hbl, hlk, hL, hNW, h1, h2, hdj, e1, e2⟩ := hX
  intro H locs LS hPx hPm hS hl
  exact lv_iconst hx hb hd hv (kk H locs LS hPx hPm hS hl)
theorem lx_bi (hX : lx_Ok X) {n : Int} {v : Int32} (hd : decode code pc = .ok (.bipush n, 2)) (hv : (Int8.ofInt n).toInt32 = v) (kk : lx_G X (pc + 2) k (.int v :: st) wx wm) : lx_G X pc k st wx wm := by
  obtain ⟨p, l, e, s, m, below, meth, c, b, L, xs, Sx, Sm⟩ := X
  obtain ⟨hx, hb, hr, hml, hown, hts, hSc, hbl, hlk, hL, hNW, h1, h2, hdj, e1, e2⟩ := hX
  intro H locs LS hPx hPm hS hl
  exact lv_bipush hx hb hd hv (kk H locs LS hPx hPm hS hl)
theorem lx_add (hX : lx_Ok X) {x y : Int32} (hd : decode code pc = .ok (.iadd, 1)) (kk : lx_G X (pc + 1) k (.int (x + y) :: st) wx wm) : lx_G X pc k (.int y :: .int x :: st) wx wm := by
  obtain ⟨p, l, e, s, m, below, meth, c, b, L, xs, Sx, Sm⟩ := X
  obtain ⟨hx, hb, hr, hml, hown, hts, hSc, hbl, hlk, hL, hNW, h1, h2, hdj, e1, e2⟩ := hX
  intro H locs LS hPx hPm hS hl
  exact lv_iadd hx hb hd (kk H locs LS hPx hPm hS hl)
theorem lx_sub (hX : lx_Ok X) {x y : Int32} (hd : decode code pc = .ok (.isub, 1)) (kk : lx_G X (pc + 1) k (.int (x - y) :: st) wx wm) : lx_G X pc k (.int y :: .int x :: st) wx wm := by
  obtain ⟨p, l, e, s, m, below, meth, c, b, L, xs, Sx, Sm⟩ := X
  obtain ⟨hx, hb, hr, hml, hown, hts, hSc, hbl, hlk, hL, hNW, h1, h2, hdj, e1, e2⟩ := hX
  intro H locs LS hPx hPm hS hl
  exact lv_isub hx hb hd (kk H locs LS hPx hPm hS hl)
theorem lx_and (hX : lx_Ok X) {x y : Int32} (hd : decode code pc = .ok (.iand, 1)) (kk : lx_G X (pc + 1) k (.int (x &&& y) :: st) wx wm) : lx_G X pc k (.int y :: .int x :: st) wx wm := by
  obtain ⟨p, l, e, s, m, below, meth, c, b, L, xs, Sx, Sm⟩ := X
  obtain ⟨hx, hb, hr, hml, hown, hts, hSc, hbl, hlk, hL, hNW, h1, h2, hdj, e1, e2⟩ := hX
  intro H locs LS hPx hPm hS hl
  exact lv_iand hx hb hd (kk H locs LS hPx hPm hS hl)
theorem lx_ld (hX : lx_Ok X) {i : Int32} (hin : vp_in i (lx_L X)) (hd : decode code pc = .ok (.iaload, 1)) (kk : lx_G X (pc + 1) k (.int (lx_xs X i.toNatClampNeg) :: st) wx wm) : lx_G X pc k (.int i :: .ref (lx_b X) :: st) wx wm := by
  obtain ⟨p, l, e, s, m, below, meth, c, b, L, xs, Sx, Sm⟩ := X
  obtain ⟨hx, hb, hr, hml, hown, hts, hSc, hbl, hlk, hL, hNW, h1, h2, hdj, e1, e2⟩ := hX
  intro H locs LS hPx hPm hS hl
  exact va_sld hx hb hSc hbl (Nat.not_le.mpr hbl) hS hin hd (kk H locs LS hPx hPm hS hl)
theorem lx_len (hX : lx_Ok X) (hd : decode code pc = .ok (.arraylength, 1)) (kk : lx_G X (pc + 1) k (.int (nI (lx_L X)) :: st) wx wm) : lx_G X pc k (.ref (lx_b X) :: st) wx wm := by
  obtain ⟨p, l, e, s, m, below, meth, c, b, L, xs, Sx, Sm⟩ := X
  obtain ⟨hx, hb, hr, hml, hown, hts, hSc, hbl, hlk, hL, hNW, h1, h2, hdj, e1, e2⟩ := hX
  intro H locs LS hPx hPm hS hl
  exact va_slen hx hb hSc hbl (Nat.not_le.mpr hbl) hS hd (kk H locs LS hPx hPm hS hl)
theorem lx_eq (hX : lx_Ok X) {x : Int32} {off : Int} {tgt : Nat} (hd : decode code pc = .ok (.if_icmp .eq off, 3)) (ht : (pc : Int) + off = (tgt : Int)) (kk : lx_G X tgt k st wx wm) : lx_G X pc k (.int x :: .int x :: st) wx wm := by
  obtain ⟨p, l, e, s, m, below, meth, c, b, L, xs, Sx, Sm⟩ := X
  obtain ⟨hx, hb, hr, hml, hown, hts, hSc, hbl, hlk, hL, hNW, h1, h2, hdj, e1, e2⟩ := hX
  intro H locs LS hPx hPm hS hl
  exact lv_icmp_eq hx hb hd ht (fun _ => kk H locs LS hPx hPm hS hl) (fun h => absurd rfl h)
theorem lx_gt (hX : lx_Ok X) {x y : Int32} {off : Int} {tgt : Nat} (hd : decode code pc = .ok (.if_icmp .gt off, 3)) (ht : (pc : Int) + off = (tgt : Int)) (kt : y < x → lx_G X tgt k st wx wm) (kf : ¬ y < x → lx_G X (pc + 3) k st wx wm) : lx_G X pc k (.int y :: .int x :: st) wx wm := by
  obtain ⟨p, l, e, s, m, below, meth, c, b, L, xs, Sx, Sm⟩ := X
  obtain ⟨hx, hb, hr, hml, hown, hts, hSc, hbl, hlk, hL, hNW, h1, h2, hdj, e1, e2⟩ := hX
  intro H locs LS hPx hPm hS hl
  exact lv_icmp_gt hx hb hd ht (fun h => kt h H locs LS hPx hPm hS hl) (fun h => kf h H locs LS hPx hPm hS hl)
theorem lx_out (hX : lx_Ok X) {dflt lo hi : Int} {offs : Array Int} {len : Nat} {x : Int32} {tgt : Nat} (hd : decode code pc = .ok (.tableswitch dflt lo hi offs, len)) (h : x.toInt < lo ∨ hi < x.toInt) (ht : (pc : Int) + dflt = (tgt : Int)) (kk : lx_G X tgt k st wx wm) : lx_G X pc k (.int x :: st) wx wm := by
  obtain ⟨p, l, e, s, m, below, meth, c, b, L, xs, Sx, Sm⟩ := X
  obtain ⟨hx, hb, hr, hml, hown, hts, hSc, hbl, hlk, hL, hNW, h1, h2, hdj, e1, e2⟩ := hX
  intro H locs LS hPx hPm hS hl
  exact lv_tableOut hx hb hd h ht (kk H locs LS hPx hPm hS hl)
theorem lx_tin (hX : lx_Ok X) {dflt lo hi : Int} {offs : Array Int} {len : Nat} {x : Int32} {off : Int} {tgt : Nat} (hd : decode code pc = .ok (.tableswitch dflt lo hi offs, len)) (h1 : ¬ x.toInt < lo) (h2 : ¬ hi < x.toInt) (ho : offs[(x.toInt - lo).toNat]? = some off) (ht : (pc : Int) + off = (tgt : Int)) (kk : lx_G X tgt k st wx wm) : lx_G X pc k (.int x :: st) wx wm := by
  obtain ⟨p, l, e, s, m, below, meth, c, b, L, xs, Sx, Sm⟩ := X
  obtain ⟨hx, hb, hr, hml, hown, hts, hSc, hbl, hlk, hL, hNW, g1, g2, hdj, e1, e2⟩ := hX
  intro H locs LS hPx hPm hS hl
  exact lv_tableIn hx hb hd h1 h2 ho ht (kk H locs LS hPx hPm hS hl)
theorem lx_go (hX : lx_Ok X) {off : Int} {tgt : Nat} (hd : decode code pc = .ok (.goto off, 3)) (ht : (pc : Int) + off = (tgt : Int)) (kk : lx_G X tgt k st wx wm) : lx_G X pc k st wx wm := by
  obtain ⟨p, l, e, s, m, below, meth, c, b, L, xs, Sx, Sm⟩ := X
  obtain ⟨hx, hb, hr, hml, hown, hts, hSc, hbl, hlk, hL, hNW, h1, h2, hdj, e1, e2⟩ := hX
  intro H locs LS hPx hPm hS hl
  exact lv_goto hx hb hd ht (kk H locs LS hPx hPm hS hl)
theorem lx_inc (hX : lx_Ok X) (hd : decode code pc = .ok (.iinc 3 3, 3)) (kk : lx_G X (pc + 3) (k + 3) st wx wm) : lx_G X pc k st wx wm := by
  obtain ⟨p, l, e, s, m, below, meth, c, b, L, xs, Sx, Sm⟩ := X
  obtain ⟨hx, hb, hr, hml, hown, hts, hSc, hbl, hlk, hL, hNW, h1, h2, hdj, e1, e2⟩ := hX
  intro H locs LS hPx hPm hS hl
  refine lv_iinc (v := nI (k + 3)) (lv' := [(3, .int (nI (k + 3))), (0, .ref b), (1, .ref (Sx.2.2.1 0)), (2, .ref (Sm.2.2.1 0))]) hx hb hd hl (k := 3) rfl (by rw [← nI_add]; rfl) (by decide) rfl (fun ls hl => ?_)
  exact kk H locs ls hPx hPm hS (lv_sub hl [1, 2, 3, 0] rfl)
/-- the law's end, with true -/
theorem lx_end (hX : lx_Ok X) (hd0 : decode code pc = .ok (.iconst 1, 1)) (hd1 : decode code (pc + 1) = .ok (.ireturn, 1)) : lx_G X pc k [] wx wm := by
  refine lx_ic hX (v := 1) hd0 (by decide) ?_
  obtain ⟨p, l, e, s, m, below, meth, c, b, L, xs, Sx, Sm⟩ := X
  obtain ⟨hx, hb, hr, hml, hown, hts, hSc, hbl, hlk, hL, hNW, h1, h2, hdj, e1, e2⟩ := hX
  intro H locs LS hPx hPm hS hl
  refine va_forget (fun q hq => hS.2.2 q hq) ?_
  exact lw_ret hx hb hr hlk hd1
theorem lx_cvm (ad : Nat → Nat) (As : List Int32) : (As.map (Sum.inl : Int32 → gx_V)).map (gx_cv ad) = As.map Value.int := by
  rw [List.map_map]
  rfl
theorem lx_cx (hX : lx_Ok X) {M' : gx_Mi} {ix n : Nat} {As : List Int32} {v : Int32} {w1 : gx_Wd} {rest : List Value} (hd : decode code pc = .ok (.invokevirtual ix, 3)) (hl : Cond.methodLink R_law ix M'.1 ∈ gx_big) (ho : gx_mo M' n) (hv : gx_mv M') (hr : (Nat.ble (M'.2.2.2.2.1.frames + 1) room_1.frames && Nat.ble (8 + (M'.2.2.1 + 11) + M'.2.2.2.2.1.locals) room_1.locals) = true) (hc : M'.1.cls = "EachBearsPillar") (he : M'.2.2.2.2.2 = sh_x) (hM : gx_MT M' (.inr 0 :: As.map .inl) wx (some (.inl v)) w1) (hn : As.length = n) (hst : st = (As.map Value.int).reverse ++ .ref (lx_x X) :: rest) (hrl : (rest.map fun v => v.category).sum ≤ 8) (kk : lx_G X (pc + 3) k (.int v :: rest) w1 wm) : lx_G X pc k st wx wm := by
  obtain ⟨p, l, e, s, m, below, meth, c, b, L, xs, Sx, Sm⟩ := X
  obtain ⟨hx, hb, hr0, hml, hown, hts, hSc, hbl, hlk, hL, hNW, h1, h2, hdj, e1, e2⟩ := hX
  intro H locs LS hPx hPm hS hls
  rw [Bool.and_eq_true] at hr
  refine lx_call hx hb hml hown hts hNW h1 hdj hd hl ho hv ⟨Nat.le_of_ble_eq_true hr.1, Nat.le_of_ble_eq_true hr.2⟩ (ci := 0) (by rw [e1]; rfl) ⟨gx_FE, 11, by rw [hc]; rfl⟩ (by rw [e1, he]) hM (by rw [List.length_map]; exact hn) (by rw [lx_cvm]; exact hst) hrl hPx hPm hS hls.1 (fun H1 locs1 hP1 hP2 hS1 => kk H1 locs1 LS hP1 hP2 hS1 hls)
theorem lx_cm (hX : lx_Ok X) {M' : gx_Mi} {ix n : Nat} {As : List Int32} {v : Int32} {w1 : gx_Wd} {rest : List Value} (hd : decode code pc = .ok (.invokevirtual ix, 3)) (hl : Cond.methodLink R_law ix M'.1 ∈ gx_big) (ho : gx_mo M' n) (hv : gx_mv M') (hr : (Nat.ble (M'.2.2.2.2.1.frames + 1) room_1.frames && Nat.ble (8 + (M'.2.2.1 + 11) + M'.2.2.2.2.1.locals) room_1.locals) = true) (hc : M'.1.cls = "EachBearsPillarModel") (he : M'.2.2.2.2.2 = sh_m) (hM : gx_MT M' (.inr 0 :: As.map .inl) wm (some (.inl v)) w1) (hn : As.length = n) (hst : st = (As.map Value.int).reverse ++ .ref (lx_m X) :: rest) (hrl : (rest.map fun v => v.category).sum ≤ 8) (kk : lx_G X (pc + 3) k (.int v :: rest) wx w1) : lx_G X pc k st wx wm := by
  obtain ⟨p, l, e, s, m, below, meth, c, b, L, xs, Sx, Sm⟩ := X
  obtain ⟨hx, hb, hr0, hml, hown, hts, hSc, hbl, hlk, hL, hNW, h1, h2, hdj, e1, e2⟩ := hX
  intro H locs LS hPx hPm hS hls
  rw [Bool.and_eq_true] at hr
  refine lx_call hx hb hml hown hts hNW h2 (fun i j hi hj q => hdj j i hj hi q.symm) hd hl ho hv ⟨Nat.le_of_ble_eq_true hr.1, Nat.le_of_ble_eq_true hr.2⟩ (ci := 6) (by rw [e2]; rfl) ⟨gx_FD, 35, by rw [hc]; rfl⟩ (by rw [e2, he]) hM (by rw [List.length_map]; exact hn) (by rw [lx_cvm]; exact hst) hrl hPm hPx hS hls.1 (fun H1 locs1 hP1 hP2 hS1 => kk H1 locs1 LS hP2 hP1 hS1 hls)
theorem lx_in (hX : lx_Ok X) {j : Nat} (h : k + j < lx_L X) : vp_in (nI k + nI j) (lx_L X) := by
  obtain ⟨p, l, e, s, m, below, meth, c, b, L, xs, Sx, Sm⟩ := X
  obtain ⟨hx, hb, hr, hml, hown, hts, hSc, hbl, hlk, hL, hNW, h1, h2, hdj, e1, e2⟩ := hX
  rw [nI_add]
  exact vp_in_nI h (Nat.lt_of_le_of_lt hL (by decide))
end
