/-! ===== small words of the walks ===== -/
theorem gx_dt {cc : ByteArray} {L : List (Nat × Instr × Nat)} (h : ∀ q ∈ L, decode cc q.1 = .ok (q.2.1, q.2.2)) (i : Nat) {pc : Nat} {ins : Instr} {n : Nat} (hi : L[i]? = some (pc, ins, n)) : decode cc pc = .ok (ins, n) := h (pc, ins, n) (List.mem_of_getElem? hi)
theorem gx_bd {α β : Type} {a : Option α} {f : α → Option β} {r : β} (h : a.bind f = some r) : ∃ v, a = some v ∧ f v = some r := Option.bind_eq_some_iff.mp h
theorem gx_ifp {α : Type} {c : Prop} [Decidable c] {a b r : α} (hc : c) (h : (if c then a else b) = r) : a = r := by rw [if_pos hc] at h; exact h
theorem gx_ifn {α : Type} {c : Prop} [Decidable c] {a b r : α} (hc : ¬ c) (h : (if c then a else b) = r) : b = r := by rw [if_neg hc] at h; exact h
theorem gx_nz {α : Type} {c : Prop} [Decidable c] {b : Option α} {r : α} (h : (if c then none else b) = some r) : ¬ c ∧ b = some r := by
  by_cases hc : c
  · rw [if_pos hc] at h; cases h
  · rw [if_neg hc] at h; exact ⟨hc, h⟩
theorem gx_01 {α : Type} {c : Prop} [Decidable c] {b : Option α} {r : α} (h : (if c then b else none) = some r) : c ∧ b = some r := by
  by_cases hc : c
  · rw [if_pos hc] at h; exact ⟨hc, h⟩
  · rw [if_neg hc] at h; cases h
theorem gx_nar {v : Int32} (h : v = 0 ∨ v = 1) : narrow .boolean (.int v) = .int v := by rcases h with rfl | rfl <;> rfl
theorem gx_ii {x n v : Int32} {k : Int} (e : some (x + n) = some v) (h : Int32.ofInt k = n) : x + Int32.ofInt k = v := by rw [h]; exact Option.some.inj e
theorem gx_le0 {α : Type} {u : List (Option α)} : gx_le [] u := trivial
theorem gx_leS {α : Type} {v : α} {t u : List (Option α)} (h : gx_le t u) : gx_le (some v :: t) (some v :: u) := ⟨rfl, h⟩
theorem gx_leN {α : Type} {a : Option α} {t u : List (Option α)} (h : gx_le t u) : gx_le (none :: t) (a :: u) := h
def gx_put (w : gx_Wd) (o k : Nat) (x : Int32) : Option gx_Wd := some (gx_w w o k x)
def gx_td (dflt z : Int) : Int → List Int → Prop
  | _, [] => True
  | j, o :: t => (o = dflt ∨ ¬ z = j) ∧ gx_td dflt z (j + 1) t
theorem gx_td0 {dflt z j : Int} : gx_td dflt z j [] := trivial
theorem gx_tdC {dflt z j o : Int} {t : List Int} (h1 : o = dflt ∨ ¬ z = j) (h2 : gx_td dflt z (j + 1) t) : gx_td dflt z j (o :: t) := ⟨h1, h2⟩
theorem gx_td_at {dflt z : Int} : ∀ (l : List Int) (j : Int) (i : Nat) (o : Int), gx_td dflt z j l → l[i]? = some o → o = dflt ∨ ¬ z = j + i := by
  intro l
  induction l with
  | nil => intro j i o _ h; simp at h
  | cons a t ih =>
    intro j i o h hi
    cases i with
    | zero => simp at hi; subst hi; simpa using h.1
    | succ i =>
      have := ih (j + 1) i o h.2 (by simpa using hi)
      rcases this with q | q
      · exact Or.inl q
      · exact Or.inr (by omega)
section
variable {X : gx_X} {M : gx_Mi} {pc : Nat} {ls ls' : List (Option gx_V)} {st : List gx_V} {w : gx_Wd}
theorem gx_top {x y : Int32} (e : some x = some y) (k : gx_G X M pc ls (.inl y :: st) w) : gx_G X M pc ls (.inl x :: st) w := by
  rw [Option.some.inj e]; exact k
theorem gx_putp (hX : gx_Ok X M) {ix ci k o : Nat} {fs : List (Option Nat)} {v : Int32} {w' : gx_Wd} (hf : gx_fl M.1.cls ix ci k) (hp : gx_pf ci k v) (hs : M.2.2.2.2.2[o]? = some (.inr (ci, fs))) (hv : fs[k]? = some none) (e : gx_put w o k v = some w') (hd : decode M.2.1 pc = .ok (.putfield ix, 3)) (kk : gx_G X M (pc + 3) ls st w') : gx_G X M pc ls (.inl v :: .inr o :: st) w := by
  have e1 := Option.some.inj e
  subst e1
  exact gx_putf hX hf hp hs hv hd kk
theorem gx_tabD (hX : gx_Ok X M) {dflt lo hi : Int} {offs : Array Int} {len : Nat} {x : Int32} {tgt : Nat} (hd : decode M.2.1 pc = .ok (.tableswitch dflt lo hi offs, len)) (h : gx_td dflt x.toInt lo offs.toList) (hlen : lo + offs.toList.length = hi + 1) (ht : (pc : Int) + dflt = (tgt : Int)) (k : gx_G X M tgt ls st w) : gx_G X M pc ls (.inl x :: st) w := by
  by_cases h1 : x.toInt < lo
  · exact gx_tabOut hX hd (Or.inl h1) ht k
  · by_cases h2 : hi < x.toInt
    · exact gx_tabOut hX hd (Or.inr h2) ht k
    · have hlt : (x.toInt - lo).toNat < offs.toList.length := by omega
      have hg : offs.toList[(x.toInt - lo).toNat]? = some (offs.toList[(x.toInt - lo).toNat]) := List.getElem?_eq_getElem hlt
      rcases gx_td_at _ _ _ _ h hg with q | q
      · refine gx_tabIn hX hd h1 h2 (off := dflt) ?_ ht k
        rw [← Array.getElem?_toList, hg, q]
      · exact absurd (by omega) q
theorem gx_rmb {M' M : gx_Mi} (h : (Nat.ble (M'.2.2.2.2.1.frames + 1) M.2.2.2.2.1.frames && Nat.ble (8 + (M'.2.2.1 + 11) + M'.2.2.2.2.1.locals) M.2.2.2.2.1.locals) = true) : gx_rm M' M := by
  rw [Bool.and_eq_true] at h
  exact ⟨Nat.le_of_ble_eq_true h.1, Nat.le_of_ble_eq_true h.2⟩
theorem gx_callVi (hX : gx_Ok X M) {M' : gx_Mi} {ix b ci n : Nat} {As rest : List gx_V} {fs : List (Option Nat)} {v : Int32} {w' : gx_Wd} (hd : decode M.2.1 pc = .ok (.invokevirtual ix, 3)) (hl : gx_ln M.1.cls ix M') (ho : gx_mo M' n) (hv : gx_mv M') (hr : gx_rm M' M) (hs : M.2.2.2.2.2[b]? = some (.inr (ci, fs))) (hc : ∃ T N, gx_cl[ci]? = some (M'.1.cls, T, N)) (he : M'.2.2.2.2.2 = M.2.2.2.2.2) (hM : gx_MT M' (.inr b :: As) w (some (.inl v)) w') (hn : As.length = n) (hst : st = As.reverse ++ .inr b :: rest) (hrl : rest.length ≤ 8) (kk : gx_G X M (pc + 3) ls (.inl v :: rest) w') : gx_G X M pc ls st w := gx_callV hX hd hl ho hv hr hs hc he hM hn hst hrl kk
theorem gx_callSi (hX : gx_Ok X M) {M' : gx_Mi} {ix n : Nat} {As rest : List gx_V} {v : Int32} {w' : gx_Wd} (hd : decode M.2.1 pc = .ok (.invokestatic ix, 3)) (hl : gx_ln M.1.cls ix M') (ho : gx_mo M' n) (hv : gx_ms M') (hr : gx_rm M' M) (he : M'.2.2.2.2.2 = M.2.2.2.2.2) (hM : gx_MT M' As w (some (.inl v)) w') (hn : As.length = n) (hst : st = As.reverse ++ rest) (hrl : rest.length ≤ 8) (kk : gx_G X M (pc + 3) ls (.inl v :: rest) w') : gx_G X M pc ls st w := gx_callS hX hd hl ho hv hr he hM hn hst hrl kk
theorem gx_callVv (hX : gx_Ok X M) {M' : gx_Mi} {ix b ci n : Nat} {As rest : List gx_V} {fs : List (Option Nat)} {w' : gx_Wd} (hd : decode M.2.1 pc = .ok (.invokevirtual ix, 3)) (hl : gx_ln M.1.cls ix M') (ho : gx_mo M' n) (hv : gx_mv M') (hr : gx_rm M' M) (hs : M.2.2.2.2.2[b]? = some (.inr (ci, fs))) (hc : ∃ T N, gx_cl[ci]? = some (M'.1.cls, T, N)) (he : M'.2.2.2.2.2 = M.2.2.2.2.2) (hM : gx_MT M' (.inr b :: As) w none w') (hn : As.length = n) (hst : st = As.reverse ++ .inr b :: rest) (hrl : rest.length ≤ 8) (kk : gx_G X M (pc + 3) ls (rest) w') : gx_G X M pc ls st w := gx_callV hX hd hl ho hv hr hs hc he hM hn hst hrl kk
theorem gx_callSv (hX : gx_Ok X M) {M' : gx_Mi} {ix n : Nat} {As rest : List gx_V} {w' : gx_Wd} (hd : decode M.2.1 pc = .ok (.invokestatic ix, 3)) (hl : gx_ln M.1.cls ix M') (ho : gx_mo M' n) (hv : gx_ms M') (hr : gx_rm M' M) (he : M'.2.2.2.2.2 = M.2.2.2.2.2) (hM : gx_MT M' As w none w') (hn : As.length = n) (hst : st = As.reverse ++ rest) (hrl : rest.length ≤ 8) (kk : gx_G X M (pc + 3) ls (rest) w') : gx_G X M pc ls st w := gx_callS hX hd hl ho hv hr he hM hn hst hrl kk
theorem gx_callVr (hX : gx_Ok X M) {M' : gx_Mi} {ix b ci n : Nat} {As rest : List gx_V} {fs : List (Option Nat)} {v : Nat} {w' : gx_Wd} (hd : decode M.2.1 pc = .ok (.invokevirtual ix, 3)) (hl : gx_ln M.1.cls ix M') (ho : gx_mo M' n) (hv : gx_mv M') (hr : gx_rm M' M) (hs : M.2.2.2.2.2[b]? = some (.inr (ci, fs))) (hc : ∃ T N, gx_cl[ci]? = some (M'.1.cls, T, N)) (he : M'.2.2.2.2.2 = M.2.2.2.2.2) (hM : gx_MT M' (.inr b :: As) w (some (.inr v)) w') (hn : As.length = n) (hst : st = As.reverse ++ .inr b :: rest) (hrl : rest.length ≤ 8) (kk : gx_G X M (pc + 3) ls (.inr v :: rest) w') : gx_G X M pc ls st w := gx_callV hX hd hl ho hv hr hs hc he hM hn hst hrl kk
theorem gx_callSr (hX : gx_Ok X M) {M' : gx_Mi} {ix n : Nat} {As rest : List gx_V} {v : Nat} {w' : gx_Wd} (hd : decode M.2.1 pc = .ok (.invokestatic ix, 3)) (hl : gx_ln M.1.cls ix M') (ho : gx_mo M' n) (hv : gx_ms M') (hr : gx_rm M' M) (he : M'.2.2.2.2.2 = M.2.2.2.2.2) (hM : gx_MT M' As w (some (.inr v)) w') (hn : As.length = n) (hst : st = As.reverse ++ rest) (hrl : rest.length ≤ 8) (kk : gx_G X M (pc + 3) ls (.inr v :: rest) w') : gx_G X M pc ls st w := gx_callS hX hd hl ho hv hr he hM hn hst hrl kk
end
