/-! ===== the texts: length, sign, emptiness, as the library answers them for the class's own texts ===== -/
def x_S_isEmpty (o : Nat) (w : gx_Wd) : Option (Int32 × gx_Wd) := if 1000 ≤ o ∧ o < 1007 then some (if gx_txl.getD (o - 1000) 0 = 0 then 1 else 0, w) else none
def x_S_length (o : Nat) (w : gx_Wd) : Option (Int32 × gx_Wd) := if 1000 ≤ o ∧ o < 1007 then some (Int32.ofNat (gx_txl.getD (o - 1000) 0), w) else none
def x_S_charAt (o : Nat) (i : Int32) (w : gx_Wd) : Option (Int32 × gx_Wd) := if 1000 ≤ o ∧ o < 1007 ∧ ¬ i < 0 ∧ i.toNatClampNeg < gx_txl.getD (o - 1000) 0 then some ((gx_txb.getD (o - 1000) []).getD i.toNatClampNeg 0, w) else none
theorem gx_so_isEmpty {o : Nat} {w : gx_Wd} {r : Int32 × gx_Wd} (h : x_S_isEmpty o w = some r) : ∃ i, i < 7 ∧ o = 1000 + i := by
  unfold x_S_isEmpty at h
  split at h
  · rename_i c; exact ⟨o - 1000, by omega, by omega⟩
  · cases h
theorem gx_so_length {o : Nat} {w : gx_Wd} {r : Int32 × gx_Wd} (h : x_S_length o w = some r) : ∃ i, i < 7 ∧ o = 1000 + i := by
  unfold x_S_length at h
  split at h
  · rename_i c; exact ⟨o - 1000, by omega, by omega⟩
  · cases h
theorem gx_so_charAt {o : Nat} {i : Int32} {w : gx_Wd} {r : Int32 × gx_Wd} (h : x_S_charAt o i w = some r) : ∃ i, i < 7 ∧ o = 1000 + i := by
  unfold x_S_charAt at h
  split at h
  · rename_i c; exact ⟨o - 1000, by omega, by omega⟩
  · cases h
theorem k_x_S_isEmpty {o : Nat} {w : gx_Wd} {R : Int32 × gx_Wd} (h : x_S_isEmpty o w = some R) : gx_MT mi_x_S_isEmpty [.inr o] w (some (.inl R.1)) R.2 := by
  sorry
theorem k_x_S_length {o : Nat} {w : gx_Wd} {R : Int32 × gx_Wd} (h : x_S_length o w = some R) : gx_MT mi_x_S_length [.inr o] w (some (.inl R.1)) R.2 := by
  sorry
theorem k_x_S_charAt {o : Nat} {i : Int32} {w : gx_Wd} {R : Int32 × gx_Wd} (h : x_S_charAt o i w = some R) : gx_MT mi_x_S_charAt [.inr o, .inl i] w (some (.inl R.1)) R.2 := by
  sorry
section
variable {X : gx_X} {M : gx_Mi} {pc : Nat} {ls ls' : List (Option gx_V)} {st : List gx_V} {w : gx_Wd}
theorem gx_callTi (hX : gx_Ok X M) {M' : gx_Mi} {ix b n : Nat} {As rest : List gx_V} {v : Int32} {w' : gx_Wd} (hd : decode M.2.1 pc = .ok (.invokevirtual ix, 3)) (hl : gx_ln M.1.cls ix M') (ho : gx_mo M' n) (hv : gx_mv M') (hr : gx_rm M' M) (hc : M'.1.cls = "java/lang/String") (he : M'.2.2.2.2.2 = M.2.2.2.2.2) (hso : ∃ i, i < 7 ∧ b = 1000 + i) (hM : gx_MT M' (.inr b :: As) w (some (.inl v)) w') (hn : As.length = n) (hst : st = As.reverse ++ .inr b :: rest) (hrl : rest.length ≤ 8) (kk : gx_G X M (pc + 3) ls (.inl v :: rest) w') : gx_G X M pc ls st w := by
  obtain ⟨p, l, e, s, m, args, below, meth, c, S, res, w1⟩ := X
  obtain ⟨hx, hb, hml, hts, hown, hrt, hlk, hK, hDD, hNW, hSX, hsh⟩ := hX
  intro H locs LS hP hS hlv
  obtain ⟨i, hi, hbi⟩ := hso
  obtain ⟨o1, o2, o3, o4, o5, o6⟩ := ho
  have hp : PreV s H M'.1.cls (S.2.2.1 b) (va_Pc ((Sum.inr b :: As : List gx_V).map (gx_cv S.2.2.1)) (gx_PX S w)) (As.map (gx_cv S.2.2.1)) := by
    refine ⟨gx_fb, ?_, fun U hU hW => ⟨rfl, ?_⟩⟩
    · rw [hc, hbi]
      exact vk_recv (adK := fun i => S.2.2.1 (1000 + i)) hSX.1 hi hS
    · exact ⟨by rw [hU]; exact hP, va_K.moved hW.alike hK, hDD, hNW.warm hW, by rw [hU]; exact hSX.to hW hS.2.1⟩
  have hws : ∀ w ∈ (Cond.code M'.1 M'.2.1 M'.2.2.1 M'.2.2.2.1 :: gx_big), ∀ (a' : Array Value) (U : State), s.WarmedH U.vm → w.before a' U = true := pay_in hts (gx_good o1)
  have hlen : ∀ sig, parseMethodDescriptor M'.1.desc = some sig → n = sig.parameters.length := fun sig h => by
    have h2 := o4
    rw [h] at h2
    exact (Option.some.inj h2).symm
  have hst2 : (st.map (gx_cv S.2.2.1)) = (As.map (gx_cv S.2.2.1)).reverse ++ .ref (S.2.2.1 b) :: rest.map (gx_cv S.2.2.1) := by rw [hst]; simp [gx_cv]
  have hrest : 2 * (F0 m pc LS (st.map (gx_cv S.2.2.1))).monitorRoom + ((rest.map (gx_cv S.2.2.1)).map fun v => v.category).sum ≤ 8 := by
    rw [gx_cat1]
    show 2 * 0 + _ ≤ 8
    omega
  rcases hl with hl | hl
  · exact gx_after (va_runV (own := M.1.cls) (As := As.map (gx_cv S.2.2.1)) (rest := rest.map (gx_cv S.2.2.1)) (g := F0 m pc LS (st.map (gx_cv S.2.2.1))) ⟨hx, hb, hml, hown, hts⟩ (hM l S (by rw [he]; exact hsh)) ⟨⟨o5, o6, hr.1, hr.2, hws, List.mem_cons_self, hts _ (List.mem_cons_of_mem _ o1), hts _ (List.mem_cons_of_mem _ o2), o3, hlen, hts _ (List.mem_cons_of_mem _ hl)⟩, hts _ (List.mem_cons_of_mem _ hv.1), hts _ (List.mem_cons_of_mem _ hv.2)⟩ hp rfl (by rw [List.length_map]; exact hn) hlv.1 hst2 hrest hd ⟨Nat.zero_le _, Nat.zero_le _⟩) hS (fun H1 locs1 hP1 hS1 => kk H1 locs1 LS hP1 hS1 hlv)
  · exact gx_after (va_runVN (own := M.1.cls) (host := "EachBearsPillar") (As := As.map (gx_cv S.2.2.1)) (rest := rest.map (gx_cv S.2.2.1)) (g := F0 m pc LS (st.map (gx_cv S.2.2.1))) ⟨hx, hb, hml, hown, hts⟩ (hM l S (by rw [he]; exact hsh)) ⟨⟨⟨o5, o6, hr.1, hr.2, hws, List.mem_cons_self⟩, hts _ (List.mem_cons_of_mem _ o1), hts _ (List.mem_cons_of_mem _ o2), o3, hlen, va_Nw.use rfl (hNW _ hl)⟩, hts _ (List.mem_cons_of_mem _ hv.1), hts _ (List.mem_cons_of_mem _ hv.2)⟩ hp rfl (by rw [List.length_map]; exact hn) hlv.1 hst2 hrest hd ⟨Nat.zero_le _, Nat.zero_le _⟩) hS (fun H1 locs1 hP1 hS1 => kk H1 locs1 LS hP1 hS1 hlv)
end
