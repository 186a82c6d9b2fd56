/-! ===== the law: its loop ===== -/
theorem lx_ltk {k L : Nat} (hL : L ≤ 1536) (hk : k ≤ 1536) (h : L < k + 3) : nI L - nI 3 < nI k := by
  rw [Int32.lt_iff_toInt_lt, Int32.toInt_sub, nI_toInt (by omega), nI_toInt (by omega), nI_toInt (by omega)]
  rw [Int.bmod_def]
  split <;> omega
theorem lx_nltk {k L : Nat} (hL : L ≤ 1536) (hk : k ≤ 1536) (h : ¬ nI L - nI 3 < nI k) : k + 2 < L := by
  rcases Nat.lt_or_ge (k + 2) L with q | q
  · exact q
  · exact absurd (lx_ltk hL hk (by omega)) h
theorem lx_L1536 {X : lx_X} (hX : lx_Ok X) : lx_L X ≤ 1536 := by
  obtain ⟨p, l, e, s, m, below, meth, c, b, L, xs, Sx, Sm⟩ := X
  obtain ⟨hx, hb, hr, hml, hown, hts, hSc, hbl, hlk, hL, hNW, h1, h2, hdj, e1, e2⟩ := hX
  exact hL
theorem lx_loop {X : lx_X} (hX : lx_Ok X) : ∀ (n k : Nat) (wx wm : gx_Wd), k ≤ lx_L X → lx_L X < k + n → Inv wx wm → lx_G X 18 k [] wx wm := by
  intro n
  induction n with
  | zero => intro k wx wm h1 h2; exact absurd h2 (by omega)
  | succ n ih =>
    intro k wx wm h1 h2 h
    have hL := lx_L1536 hX
    refine lx_i3 hX (gx_dt dt_law 10 rfl) ?_
    refine lx_a0 hX (gx_dt dt_law 11 rfl) ?_
    refine lx_len hX (gx_dt dt_law 12 rfl) ?_
    refine lx_ic hX (v := nI 3) (gx_dt dt_law 13 rfl) (by decide) ?_
    refine lx_sub hX (gx_dt dt_law 14 rfl) ?_
    refine lx_gt hX (tgt := 733) (gx_dt dt_law 15 rfl) (by decide) (fun _ => lx_end hX (gx_dt dt_law 23 rfl) (gx_dt dt_law 24 rfl)) (fun hc => ?_)
    have hk : k + 2 < lx_L X := lx_nltk hL (by omega) hc
    have next : ∀ wx' wm', Inv wx' wm' → lx_G X 727 k [] wx' wm' := by
      intro wx' wm' h'
      refine lx_inc hX (gx_dt dt_law 21 rfl) ?_
      refine lx_go hX (tgt := 18) (gx_dt dt_law 22 rfl) (by decide) ?_
      exact ih (k + 3) wx' wm' (by omega) (by omega) h'
    refine lx_a0 hX (gx_dt dt_law 16 rfl) ?_
    refine lx_i3 hX (gx_dt dt_law 17 rfl) ?_
    refine lx_ld hX (vp_in_nI (show k < lx_L X by omega) (by omega)) (gx_dt dt_law 18 rfl) ?_
    refine lx_bi hX (v := 31) (gx_dt dt_law 19 rfl) (by decide) ?_
    refine lx_and hX (gx_dt dt_law 20 rfl) ?_
    generalize lx_xs X (nI k).toNatClampNeg &&& 31 = z
    by_cases c1 : z.toInt < 0
    · exact lx_out hX (tgt := 727) dt_law_32 (Or.inl c1) (by decide) (next wx wm h)
    · by_cases c2 : 26 < z.toInt
      · exact lx_out hX (tgt := 727) dt_law_32 (Or.inr c2) (by decide) (next wx wm h)
      have hn0 : ∃ n : Nat, (z.toInt - 0).toNat = n ∧ n ≤ 26 := ⟨_, rfl, by omega⟩
      obtain ⟨n0, hn, hn1⟩ := hn0
      rcases (show n0 = 0 ∨ n0 = 1 ∨ n0 = 2 ∨ n0 = 3 ∨ n0 = 4 ∨ n0 = 5 ∨ n0 = 6 ∨ n0 = 7 ∨ n0 = 8 ∨ n0 = 9 ∨ n0 = 10 ∨ n0 = 11 ∨ n0 = 12 ∨ n0 = 13 ∨ n0 = 14 ∨ n0 = 15 ∨ n0 = 16 ∨ n0 = 17 ∨ n0 = 18 ∨ n0 = 19 ∨ n0 = 20 ∨ n0 = 21 ∨ n0 = 22 ∨ n0 = 23 ∨ n0 = 24 ∨ n0 = 25 ∨ n0 = 26 by omega) with rfl | rfl | rfl | rfl | rfl | rfl | rfl | rfl | rfl | rfl | rfl | rfl | rfl | rfl | rfl | rfl | rfl | rfl | rfl | rfl | rfl | rfl | rfl | rfl | rfl | rfl | rfl
      · exact lx_tin hX (off := 124) (tgt := 156) dt_law_32 c1 c2 (by rw [hn]; rfl) (by decide) (lc_0 hX hk h next)
      · exact lx_tin hX (off := 147) (tgt := 179) dt_law_32 c1 c2 (by rw [hn]; rfl) (by decide) (lc_1 hX hk h next)
      · exact lx_tin hX (off := 160) (tgt := 192) dt_law_32 c1 c2 (by rw [hn]; rfl) (by decide) (lc_2 hX hk h next)
      · exact lx_tin hX (off := 193) (tgt := 225) dt_law_32 c1 c2 (by rw [hn]; rfl) (by decide) (lc_3 hX hk h next)
      · exact lx_tin hX (off := 226) (tgt := 258) dt_law_32 c1 c2 (by rw [hn]; rfl) (by decide) (lc_4 hX hk h next)
      · exact lx_tin hX (off := 259) (tgt := 291) dt_law_32 c1 c2 (by rw [hn]; rfl) (by decide) (lc_5 hX hk h next)
      · exact lx_tin hX (off := 282) (tgt := 314) dt_law_32 c1 c2 (by rw [hn]; rfl) (by decide) (lc_6 hX hk h next)
      · exact lx_tin hX (off := 315) (tgt := 347) dt_law_32 c1 c2 (by rw [hn]; rfl) (by decide) (lc_7 hX hk h next)
      · exact lx_tin hX (off := 338) (tgt := 370) dt_law_32 c1 c2 (by rw [hn]; rfl) (by decide) (lc_8 hX hk h next)
      · exact lx_tin hX (off := 361) (tgt := 393) dt_law_32 c1 c2 (by rw [hn]; rfl) (by decide) (lc_9 hX hk h next)
      · exact lx_tin hX (off := 374) (tgt := 406) dt_law_32 c1 c2 (by rw [hn]; rfl) (by decide) (lc_10 hX hk h next)
      · exact lx_tin hX (off := 387) (tgt := 419) dt_law_32 c1 c2 (by rw [hn]; rfl) (by decide) (lc_11 hX hk h next)
      · exact lx_tin hX (off := 400) (tgt := 432) dt_law_32 c1 c2 (by rw [hn]; rfl) (by decide) (lc_12 hX hk h next)
      · exact lx_tin hX (off := 413) (tgt := 445) dt_law_32 c1 c2 (by rw [hn]; rfl) (by decide) (lc_13 hX hk h next)
      · exact lx_tin hX (off := 426) (tgt := 458) dt_law_32 c1 c2 (by rw [hn]; rfl) (by decide) (lc_14 hX hk h next)
      · exact lx_tin hX (off := 449) (tgt := 481) dt_law_32 c1 c2 (by rw [hn]; rfl) (by decide) (lc_15 hX hk h next)
      · exact lx_tin hX (off := 462) (tgt := 494) dt_law_32 c1 c2 (by rw [hn]; rfl) (by decide) (lc_16 hX hk h next)
      · exact lx_tin hX (off := 485) (tgt := 517) dt_law_32 c1 c2 (by rw [hn]; rfl) (by decide) (lc_17 hX hk h next)
      · exact lx_tin hX (off := 508) (tgt := 540) dt_law_32 c1 c2 (by rw [hn]; rfl) (by decide) (lc_18 hX hk h next)
      · exact lx_tin hX (off := 521) (tgt := 553) dt_law_32 c1 c2 (by rw [hn]; rfl) (by decide) (lc_19 hX hk h next)
      · exact lx_tin hX (off := 544) (tgt := 576) dt_law_32 c1 c2 (by rw [hn]; rfl) (by decide) (lc_20 hX hk h next)
      · exact lx_tin hX (off := 567) (tgt := 599) dt_law_32 c1 c2 (by rw [hn]; rfl) (by decide) (lc_21 hX hk h next)
      · exact lx_tin hX (off := 600) (tgt := 632) dt_law_32 c1 c2 (by rw [hn]; rfl) (by decide) (lc_22 hX hk h next)
      · exact lx_tin hX (off := 613) (tgt := 645) dt_law_32 c1 c2 (by rw [hn]; rfl) (by decide) (lc_23 hX hk h next)
      · exact lx_tin hX (off := 646) (tgt := 678) dt_law_32 c1 c2 (by rw [hn]; rfl) (by decide) (lc_24 hX hk h next)
      · exact lx_tin hX (off := 659) (tgt := 691) dt_law_32 c1 c2 (by rw [hn]; rfl) (by decide) (lc_25 hX hk h next)
      · exact lx_tin hX (off := 672) (tgt := 704) dt_law_32 c1 c2 (by rw [hn]; rfl) (by decide) (lc_26 hX hk h next)
