-- EachBearsPillar.count(I)I
def x_E_count (a1 : Int32) (w : gx_Wd) : Option (Int32 × gx_Wd) :=
  if a1 = 0 then
    some (w 1 0, w)
  else
  if a1 = 1 then
    some (w 1 1, w)
  else
  if a1 = 2 then
    some (w 1 2, w)
  else
  if a1 = 3 then
    (x_E_sumOf 6 6 w).bind fun r5 =>
    some (r5.1, r5.2)
  else
  if a1 = 4 then
    (x_M_asTold w).bind fun r7 =>
    (x_M_standAndWeigh r7).bind fun r8 =>
    (x_E_sumOf 28 (r8 1 0) r8).bind fun r9 =>
    some (r9.1, r9.2)
  else
  if a1 = 5 then
    (x_M_asTold w).bind fun r11 =>
    (x_M_standAndWeigh r11).bind fun r12 =>
    (x_E_sumOf 26 (r12 1 0) r12).bind fun r13 =>
    some (r13.1, r13.2)
  else
  if a1 = 6 then
    some (w 0 9, w)
  else
  if a1 = 7 then
    some (w 29 1, w)
  else
  if a1 < 11 then
    some ((-9), w)
  else
  if 16 < a1 then
    some ((-9), w)
  else
  (x_E_cell 39 (a1 - 10) w).bind fun r18 =>
  some (r18.1, r18.2)
theorem k_x_E_count {a1 : Int32} {w : gx_Wd} {R : Int32 × gx_Wd} (h : x_E_count a1 w = some R) : gx_MT mi_x_E_count [.inr 0, .inl a1] w (some (.inl R.1)) R.2 := by
  refine gx_met (by decide +kernel) (Nat.le_of_ble_eq_true rfl) (fun X hX hres hwr => ?_)
  show gx_G X mi_x_E_count 0 [some (.inr 0), some (.inl a1)] [] w
  rw [x_E_count] at h
  refine gx_iload_n hX (gx_dt dt_mi_x_E_count 0 rfl) rfl ?_
  by_cases c1 : a1 = 0
  · have h := gx_ifp c1 h
    refine gx_tabIn hX (off := 47) (tgt := 48) (gx_dt dt_mi_x_E_count 1 rfl) (by rw [c1]; decide) (by rw [c1]; decide) (by rw [c1]; rfl) (by decide) ?_
    refine gx_aload_n hX (gx_dt dt_mi_x_E_count 2 rfl) rfl ?_
    refine gx_getr hX fl_E_10 sh_x_0 rfl (gx_dt dt_mi_x_E_count 3 rfl) ?_
    refine gx_geti hX fl_E_158 sh_x_1 rfl (gx_dt dt_mi_x_E_count 4 rfl) ?_
    obtain rfl := Option.some.inj h
    exact gx_iret hX (gx_dt dt_mi_x_E_count 5 rfl) rfl hres hwr
  have h := gx_ifn c1 h
  by_cases c2 : a1 = 1
  · have h := gx_ifp c2 h
    refine gx_tabIn hX (off := 55) (tgt := 56) (gx_dt dt_mi_x_E_count 1 rfl) (by rw [c2]; decide) (by rw [c2]; decide) (by rw [c2]; rfl) (by decide) ?_
    refine gx_aload_n hX (gx_dt dt_mi_x_E_count 6 rfl) rfl ?_
    refine gx_getr hX fl_E_10 sh_x_0 rfl (gx_dt dt_mi_x_E_count 7 rfl) ?_
    refine gx_geti hX fl_E_112 sh_x_1 rfl (gx_dt dt_mi_x_E_count 8 rfl) ?_
    obtain rfl := Option.some.inj h
    exact gx_iret hX (gx_dt dt_mi_x_E_count 9 rfl) rfl hres hwr
  have h := gx_ifn c2 h
  by_cases c3 : a1 = 2
  · have h := gx_ifp c3 h
    refine gx_tabIn hX (off := 63) (tgt := 64) (gx_dt dt_mi_x_E_count 1 rfl) (by rw [c3]; decide) (by rw [c3]; decide) (by rw [c3]; rfl) (by decide) ?_
    refine gx_aload_n hX (gx_dt dt_mi_x_E_count 10 rfl) rfl ?_
    refine gx_getr hX fl_E_10 sh_x_0 rfl (gx_dt dt_mi_x_E_count 11 rfl) ?_
    refine gx_geti hX fl_E_100 sh_x_1 rfl (gx_dt dt_mi_x_E_count 12 rfl) ?_
    obtain rfl := Option.some.inj h
    exact gx_iret hX (gx_dt dt_mi_x_E_count 13 rfl) rfl hres hwr
  have h := gx_ifn c3 h
  by_cases c4 : a1 = 3
  · have h := gx_ifp c4 h
    refine gx_tabIn hX (off := 71) (tgt := 72) (gx_dt dt_mi_x_E_count 1 rfl) (by rw [c4]; decide) (by rw [c4]; decide) (by rw [c4]; rfl) (by decide) ?_
    refine gx_aload_n hX (gx_dt dt_mi_x_E_count 14 rfl) rfl ?_
    refine gx_getr hX fl_E_10 sh_x_0 rfl (gx_dt dt_mi_x_E_count 15 rfl) ?_
    refine gx_getr hX fl_E_90 sh_x_1 rfl (gx_dt dt_mi_x_E_count 16 rfl) ?_
    refine gx_bipush hX (v := 6) (gx_dt dt_mi_x_E_count 17 rfl) (by decide) ?_
    obtain ⟨r5, e_r5, h⟩ := gx_bd h
    refine gx_callSi hX (gx_dt dt_mi_x_E_count 18 rfl) ln_E_161_x_E_sumOf mo_x_E_sumOf ms_x_E_sumOf (gx_rmb rfl) rfl (k_x_E_sumOf e_r5) rfl rfl (Nat.le_of_ble_eq_true rfl) ?_
    obtain rfl := Option.some.inj h
    exact gx_iret hX (gx_dt dt_mi_x_E_count 19 rfl) rfl hres hwr
  have h := gx_ifn c4 h
  by_cases c6 : a1 = 4
  · have h := gx_ifp c6 h
    refine gx_tabIn hX (off := 84) (tgt := 85) (gx_dt dt_mi_x_E_count 1 rfl) (by rw [c6]; decide) (by rw [c6]; decide) (by rw [c6]; rfl) (by decide) ?_
    refine gx_aload_n hX (gx_dt dt_mi_x_E_count 20 rfl) rfl ?_
    refine gx_getr hX fl_E_31 sh_x_0 rfl (gx_dt dt_mi_x_E_count 21 rfl) ?_
    obtain ⟨r7, e_r7, h⟩ := gx_bd h
    refine gx_callVv hX (gx_dt dt_mi_x_E_count 22 rfl) ln_E_115_x_M_asTold mo_x_M_asTold mv_x_M_asTold (gx_rmb rfl) sh_x_22 ⟨_, _, rfl⟩ rfl (k_x_M_asTold e_r7) rfl rfl (Nat.le_of_ble_eq_true rfl) ?_
    refine gx_aload_n hX (gx_dt dt_mi_x_E_count 23 rfl) rfl ?_
    refine gx_getr hX fl_E_31 sh_x_0 rfl (gx_dt dt_mi_x_E_count 24 rfl) ?_
    obtain ⟨r8, e_r8, h⟩ := gx_bd h
    refine gx_callVv hX (gx_dt dt_mi_x_E_count 25 rfl) ln_E_142_x_M_standAndWeigh mo_x_M_standAndWeigh mv_x_M_standAndWeigh (gx_rmb rfl) sh_x_22 ⟨_, _, rfl⟩ rfl (k_x_M_standAndWeigh e_r8) rfl rfl (Nat.le_of_ble_eq_true rfl) ?_
    refine gx_aload_n hX (gx_dt dt_mi_x_E_count 26 rfl) rfl ?_
    refine gx_getr hX fl_E_31 sh_x_0 rfl (gx_dt dt_mi_x_E_count 27 rfl) ?_
    refine gx_getr hX fl_E_145 sh_x_22 rfl (gx_dt dt_mi_x_E_count 28 rfl) ?_
    refine gx_aload_n hX (gx_dt dt_mi_x_E_count 29 rfl) rfl ?_
    refine gx_getr hX fl_E_10 sh_x_0 rfl (gx_dt dt_mi_x_E_count 30 rfl) ?_
    refine gx_geti hX fl_E_158 sh_x_1 rfl (gx_dt dt_mi_x_E_count 31 rfl) ?_
    obtain ⟨r9, e_r9, h⟩ := gx_bd h
    refine gx_callSi hX (gx_dt dt_mi_x_E_count 32 rfl) ln_E_161_x_E_sumOf mo_x_E_sumOf ms_x_E_sumOf (gx_rmb rfl) rfl (k_x_E_sumOf e_r9) rfl rfl (Nat.le_of_ble_eq_true rfl) ?_
    obtain rfl := Option.some.inj h
    exact gx_iret hX (gx_dt dt_mi_x_E_count 33 rfl) rfl hres hwr
  have h := gx_ifn c6 h
  by_cases c10 : a1 = 5
  · have h := gx_ifp c10 h
    refine gx_tabIn hX (off := 116) (tgt := 117) (gx_dt dt_mi_x_E_count 1 rfl) (by rw [c10]; decide) (by rw [c10]; decide) (by rw [c10]; rfl) (by decide) ?_
    refine gx_aload_n hX (gx_dt dt_mi_x_E_count 34 rfl) rfl ?_
    refine gx_getr hX fl_E_31 sh_x_0 rfl (gx_dt dt_mi_x_E_count 35 rfl) ?_
    obtain ⟨r11, e_r11, h⟩ := gx_bd h
    refine gx_callVv hX (gx_dt dt_mi_x_E_count 36 rfl) ln_E_115_x_M_asTold mo_x_M_asTold mv_x_M_asTold (gx_rmb rfl) sh_x_22 ⟨_, _, rfl⟩ rfl (k_x_M_asTold e_r11) rfl rfl (Nat.le_of_ble_eq_true rfl) ?_
    refine gx_aload_n hX (gx_dt dt_mi_x_E_count 37 rfl) rfl ?_
    refine gx_getr hX fl_E_31 sh_x_0 rfl (gx_dt dt_mi_x_E_count 38 rfl) ?_
    obtain ⟨r12, e_r12, h⟩ := gx_bd h
    refine gx_callVv hX (gx_dt dt_mi_x_E_count 39 rfl) ln_E_142_x_M_standAndWeigh mo_x_M_standAndWeigh mv_x_M_standAndWeigh (gx_rmb rfl) sh_x_22 ⟨_, _, rfl⟩ rfl (k_x_M_standAndWeigh e_r12) rfl rfl (Nat.le_of_ble_eq_true rfl) ?_
    refine gx_aload_n hX (gx_dt dt_mi_x_E_count 40 rfl) rfl ?_
    refine gx_getr hX fl_E_31 sh_x_0 rfl (gx_dt dt_mi_x_E_count 41 rfl) ?_
    refine gx_getr hX fl_E_164 sh_x_22 rfl (gx_dt dt_mi_x_E_count 42 rfl) ?_
    refine gx_aload_n hX (gx_dt dt_mi_x_E_count 43 rfl) rfl ?_
    refine gx_getr hX fl_E_10 sh_x_0 rfl (gx_dt dt_mi_x_E_count 44 rfl) ?_
    refine gx_geti hX fl_E_158 sh_x_1 rfl (gx_dt dt_mi_x_E_count 45 rfl) ?_
    obtain ⟨r13, e_r13, h⟩ := gx_bd h
    refine gx_callSi hX (gx_dt dt_mi_x_E_count 46 rfl) ln_E_161_x_E_sumOf mo_x_E_sumOf ms_x_E_sumOf (gx_rmb rfl) rfl (k_x_E_sumOf e_r13) rfl rfl (Nat.le_of_ble_eq_true rfl) ?_
    obtain rfl := Option.some.inj h
    exact gx_iret hX (gx_dt dt_mi_x_E_count 47 rfl) rfl hres hwr
  have h := gx_ifn c10 h
  by_cases c14 : a1 = 6
  · have h := gx_ifp c14 h
    refine gx_tabIn hX (off := 148) (tgt := 149) (gx_dt dt_mi_x_E_count 1 rfl) (by rw [c14]; decide) (by rw [c14]; decide) (by rw [c14]; rfl) (by decide) ?_
    refine gx_aload_n hX (gx_dt dt_mi_x_E_count 48 rfl) rfl ?_
    refine gx_geti hX fl_E_62 sh_x_0 rfl (gx_dt dt_mi_x_E_count 49 rfl) ?_
    obtain rfl := Option.some.inj h
    exact gx_iret hX (gx_dt dt_mi_x_E_count 50 rfl) rfl hres hwr
  have h := gx_ifn c14 h
  by_cases c15 : a1 = 7
  · have h := gx_ifp c15 h
    refine gx_tabIn hX (off := 153) (tgt := 154) (gx_dt dt_mi_x_E_count 1 rfl) (by rw [c15]; decide) (by rw [c15]; decide) (by rw [c15]; rfl) (by decide) ?_
    refine gx_aload_n hX (gx_dt dt_mi_x_E_count 51 rfl) rfl ?_
    refine gx_getr hX fl_E_38 sh_x_0 rfl (gx_dt dt_mi_x_E_count 52 rfl) ?_
    refine gx_geti hX fl_E_73 sh_x_29 rfl (gx_dt dt_mi_x_E_count 53 rfl) ?_
    obtain rfl := Option.some.inj h
    exact gx_iret hX (gx_dt dt_mi_x_E_count 54 rfl) rfl hres hwr
  have h := gx_ifn c15 h
  refine gx_tabD hX (tgt := 162) (gx_dt dt_mi_x_E_count 1 rfl) (gx_tdC (Or.inr (lv_neT c1 rfl)) (gx_tdC (Or.inr (lv_neT c2 rfl)) (gx_tdC (Or.inr (lv_neT c3 rfl)) (gx_tdC (Or.inr (lv_neT c4 rfl)) (gx_tdC (Or.inr (lv_neT c6 rfl)) (gx_tdC (Or.inr (lv_neT c10 rfl)) (gx_tdC (Or.inr (lv_neT c14 rfl)) (gx_tdC (Or.inr (lv_neT c15 rfl)) gx_td0)))))))) (by decide) (by decide) ?_
  refine gx_iload_n hX (gx_dt dt_mi_x_E_count 55 rfl) rfl ?_
  refine gx_bipush hX (v := 11) (gx_dt dt_mi_x_E_count 56 rfl) (by decide) ?_
  refine gx_ic_lt hX (tgt := 188) (gx_dt dt_mi_x_E_count 57 rfl) (by decide) (fun c16 => ?_) (fun c16 => ?_)
  · have h := gx_ifp c16 h
    refine gx_bipush hX (v := (-9)) (gx_dt dt_mi_x_E_count 68 rfl) (by decide) ?_
    obtain rfl := Option.some.inj h
    exact gx_iret hX (gx_dt dt_mi_x_E_count 69 rfl) rfl hres hwr
  · have h := gx_ifn c16 h
    refine gx_iload_n hX (gx_dt dt_mi_x_E_count 58 rfl) rfl ?_
    refine gx_bipush hX (v := 16) (gx_dt dt_mi_x_E_count 59 rfl) (by decide) ?_
    refine gx_ic_gt hX (tgt := 188) (gx_dt dt_mi_x_E_count 60 rfl) (by decide) (fun c17 => ?_) (fun c17 => ?_)
    · have h := gx_ifp c17 h
      refine gx_bipush hX (v := (-9)) (gx_dt dt_mi_x_E_count 68 rfl) (by decide) ?_
      obtain rfl := Option.some.inj h
      exact gx_iret hX (gx_dt dt_mi_x_E_count 69 rfl) rfl hres hwr
    · have h := gx_ifn c17 h
      refine gx_aload_n hX (gx_dt dt_mi_x_E_count 61 rfl) rfl ?_
      refine gx_getr hX fl_E_66 sh_x_0 rfl (gx_dt dt_mi_x_E_count 62 rfl) ?_
      refine gx_iload_n hX (gx_dt dt_mi_x_E_count 63 rfl) rfl ?_
      refine gx_bipush hX (v := 10) (gx_dt dt_mi_x_E_count 64 rfl) (by decide) ?_
      refine gx_isub hX (gx_dt dt_mi_x_E_count 65 rfl) ?_
      obtain ⟨r18, e_r18, h⟩ := gx_bd h
      refine gx_callSi hX (gx_dt dt_mi_x_E_count 66 rfl) ln_E_125_x_E_cell mo_x_E_cell ms_x_E_cell (gx_rmb rfl) rfl (k_x_E_cell e_r18) rfl rfl (Nat.le_of_ble_eq_true rfl) ?_
      refine gx_goto hX (tgt := 190) (gx_dt dt_mi_x_E_count 67 rfl) (by decide) ?_
      obtain rfl := Option.some.inj h
      exact gx_iret hX (gx_dt dt_mi_x_E_count 69 rfl) rfl hres hwr
-- EachBearsPillar.levels()I
def x_E_levels_41 (K11 : Int32 → Int32 → gx_Wd → Option (Int32 × gx_Wd)) (b1 : Int32) (b2 : Int32) (w : gx_Wd) : Option (Int32 × gx_Wd) :=
  (some (b2 + 1)).bind fun v1 =>
  K11 b1 v1 w
def x_E_levels_11 : Nat → Int32 → Int32 → gx_Wd → Option (Int32 × gx_Wd)
  | 0, _, _, _ => none
  | n + 1, b1, b2, w =>
  if 28 ≤ b2 then
    some (b1, w)
  else
  (gx_put w 22 2 b2).bind fun w2 =>
  (x_M_isFirm w2).bind fun r3 =>
  if r3.1 = 0 then
    x_E_levels_41 (x_E_levels_11 n) b1 b2 r3.2
  else
  (some (b1 ||| (1 <<< (b2 &&& 31)))).bind fun v5 =>
  x_E_levels_41 (x_E_levels_11 n) v5 b2 r3.2
def x_E_levels (w : gx_Wd) : Option (Int32 × gx_Wd) :=
  (x_M_asTold w).bind fun r1 =>
  x_E_levels_11 6000 0 0 r1
theorem t_x_E_levels_41 {X : gx_X} (hX : gx_Ok X mi_x_E_levels) {R : Int32 × gx_Wd} (hres : gx_res X = some (.inl R.1)) (hwr : gx_wr X = R.2) {K11 : Int32 → Int32 → gx_Wd → Option (Int32 × gx_Wd)} (hK11 : ∀ (b1 : Int32) (b2 : Int32) (w : gx_Wd), K11 b1 b2 w = some R → gx_G X mi_x_E_levels 11 [some (.inr 0), some (.inl b1), some (.inl b2)] [] w) (b1 : Int32) (b2 : Int32) (w : gx_Wd) (h : x_E_levels_41 K11 b1 b2 w = some R) : gx_G X mi_x_E_levels 41 [some (.inr 0), some (.inl b1), some (.inl b2)] [] w := by
  rw [x_E_levels_41] at h
  obtain ⟨v1, e_v1, h⟩ := gx_bd h
  refine gx_iinc hX (v := v1) (ls' := [some (.inr 0), some (.inl b1), some (.inl v1)]) (gx_dt dt_mi_x_E_levels 24 rfl) rfl (gx_ii e_v1 (by decide)) (by decide) rfl ?_
  refine gx_goto hX (tgt := 11) (gx_dt dt_mi_x_E_levels 25 rfl) (by decide) ?_
  exact gx_weak (gx_leS (gx_leS (gx_leS gx_le0))) (hK11 _ _ _ h)
theorem t_x_E_levels_11 {X : gx_X} (hX : gx_Ok X mi_x_E_levels) {R : Int32 × gx_Wd} (hres : gx_res X = some (.inl R.1)) (hwr : gx_wr X = R.2) : ∀ (n : Nat) (b1 : Int32) (b2 : Int32) (w : gx_Wd), x_E_levels_11 n b1 b2 w = some R → gx_G X mi_x_E_levels 11 [some (.inr 0), some (.inl b1), some (.inl b2)] [] w := by
  intro n
  induction n with
  | zero => intro b1 b2 w h; rw [x_E_levels_11] at h; cases h
  | succ n ih =>
    intro b1 b2 w h
    rw [x_E_levels_11] at h
    refine gx_iload_n hX (gx_dt dt_mi_x_E_levels 7 rfl) rfl ?_
    refine gx_bipush hX (v := 28) (gx_dt dt_mi_x_E_levels 8 rfl) (by decide) ?_
    refine gx_ic_ge hX (tgt := 47) (gx_dt dt_mi_x_E_levels 9 rfl) (by decide) (fun c1 => ?_) (fun c1 => ?_)
    · have h := gx_ifp c1 h
      refine gx_iload_n hX (gx_dt dt_mi_x_E_levels 26 rfl) rfl ?_
      obtain rfl := Option.some.inj h
      exact gx_iret hX (gx_dt dt_mi_x_E_levels 27 rfl) rfl hres hwr
    · have h := gx_ifn c1 h
      refine gx_aload_n hX (gx_dt dt_mi_x_E_levels 10 rfl) rfl ?_
      refine gx_getr hX fl_E_31 sh_x_0 rfl (gx_dt dt_mi_x_E_levels 11 rfl) ?_
      refine gx_iload_n hX (gx_dt dt_mi_x_E_levels 12 rfl) rfl ?_
      obtain ⟨w2, e_w2, h⟩ := gx_bd h
      refine gx_putp hX fl_E_167 (pf_M_2 _) sh_x_22 rfl e_w2 (gx_dt dt_mi_x_E_levels 13 rfl) ?_
      refine gx_aload_n hX (gx_dt dt_mi_x_E_levels 14 rfl) rfl ?_
      refine gx_getr hX fl_E_31 sh_x_0 rfl (gx_dt dt_mi_x_E_levels 15 rfl) ?_
      obtain ⟨r3, e_r3, h⟩ := gx_bd h
      refine gx_callVi hX (gx_dt dt_mi_x_E_levels 16 rfl) ln_E_148_x_M_isFirm mo_x_M_isFirm mv_x_M_isFirm (gx_rmb rfl) sh_x_22 ⟨_, _, rfl⟩ rfl (k_x_M_isFirm e_r3) rfl rfl (Nat.le_of_ble_eq_true rfl) ?_
      refine gx_if_eq hX (tgt := 41) (gx_dt dt_mi_x_E_levels 17 rfl) (by decide) (fun c4 => ?_) (fun c4 => ?_)
      · have h := gx_ifp c4 h
        exact gx_weak (gx_leS (gx_leS (gx_leS gx_le0))) (t_x_E_levels_41 hX hres hwr ih _ _ _ h)
      · have h := gx_ifn c4 h
        refine gx_iload_n hX (gx_dt dt_mi_x_E_levels 18 rfl) rfl ?_
        refine gx_iconst hX (v := 1) (gx_dt dt_mi_x_E_levels 19 rfl) (by decide) ?_
        refine gx_iload_n hX (gx_dt dt_mi_x_E_levels 20 rfl) rfl ?_
        refine gx_ishl hX (gx_dt dt_mi_x_E_levels 21 rfl) ?_
        refine gx_ior hX (gx_dt dt_mi_x_E_levels 22 rfl) ?_
        obtain ⟨v5, e_v5, h⟩ := gx_bd h
        refine gx_top e_v5 ?_
        refine gx_istore_n hX (ls' := [some (.inr 0), some (.inl v5), some (.inl b2)]) (gx_dt dt_mi_x_E_levels 23 rfl) (by decide) rfl ?_
        exact gx_weak (gx_leS (gx_leS (gx_leS gx_le0))) (t_x_E_levels_41 hX hres hwr ih _ _ _ h)
theorem k_x_E_levels {w : gx_Wd} {R : Int32 × gx_Wd} (h : x_E_levels w = some R) : gx_MT mi_x_E_levels [.inr 0] w (some (.inl R.1)) R.2 := by
  refine gx_met (by decide +kernel) (Nat.le_of_ble_eq_true rfl) (fun X hX hres hwr => ?_)
  show gx_G X mi_x_E_levels 0 [some (.inr 0)] [] w
  rw [x_E_levels] at h
  refine gx_aload_n hX (gx_dt dt_mi_x_E_levels 0 rfl) rfl ?_
  refine gx_getr hX fl_E_31 sh_x_0 rfl (gx_dt dt_mi_x_E_levels 1 rfl) ?_
  obtain ⟨r1, e_r1, h⟩ := gx_bd h
  refine gx_callVv hX (gx_dt dt_mi_x_E_levels 2 rfl) ln_E_115_x_M_asTold mo_x_M_asTold mv_x_M_asTold (gx_rmb rfl) sh_x_22 ⟨_, _, rfl⟩ rfl (k_x_M_asTold e_r1) rfl rfl (Nat.le_of_ble_eq_true rfl) ?_
  refine gx_iconst hX (v := 0) (gx_dt dt_mi_x_E_levels 3 rfl) (by decide) ?_
  refine gx_istore_n hX (ls' := [some (.inr 0), some (.inl (0))]) (gx_dt dt_mi_x_E_levels 4 rfl) (by decide) rfl ?_
  refine gx_iconst hX (v := 0) (gx_dt dt_mi_x_E_levels 5 rfl) (by decide) ?_
  refine gx_istore_n hX (ls' := [some (.inr 0), some (.inl (0)), some (.inl (0))]) (gx_dt dt_mi_x_E_levels 6 rfl) (by decide) rfl ?_
  exact gx_weak (gx_leS (gx_leS (gx_leS gx_le0))) (t_x_E_levels_11 hX hres hwr _ _ _ _ h)
-- EachBearsPillar.raise(I)I
def x_E_raise (a1 : Int32) (w : gx_Wd) : Option (Int32 × gx_Wd) :=
  (x_M_topOf a1 a1 w).bind fun r1 =>
  (some ((w 22 2) - r1.1)).bind fun v2 =>
  if v2 ≤ 0 then
    some (0, r1.2)
  else
  (x_E_cell 5 a1 r1.2).bind fun r4 =>
  if r4.1 + v2 ≤ 9 then
    (x_E_setCell 24 a1 v2 r4.2).bind fun r6 =>
    some (v2, r6.2)
  else
  some (0, r4.2)
theorem k_x_E_raise {a1 : Int32} {w : gx_Wd} {R : Int32 × gx_Wd} (h : x_E_raise a1 w = some R) : gx_MT mi_x_E_raise [.inr 0, .inl a1] w (some (.inl R.1)) R.2 := by
  refine gx_met (by decide +kernel) (Nat.le_of_ble_eq_true rfl) (fun X hX hres hwr => ?_)
  show gx_G X mi_x_E_raise 0 [some (.inr 0), some (.inl a1)] [] w
  rw [x_E_raise] at h
  refine gx_aload_n hX (gx_dt dt_mi_x_E_raise 0 rfl) rfl ?_
  refine gx_getr hX fl_E_31 sh_x_0 rfl (gx_dt dt_mi_x_E_raise 1 rfl) ?_
  refine gx_geti hX fl_E_167 sh_x_22 rfl (gx_dt dt_mi_x_E_raise 2 rfl) ?_
  refine gx_aload_n hX (gx_dt dt_mi_x_E_raise 3 rfl) rfl ?_
  refine gx_getr hX fl_E_31 sh_x_0 rfl (gx_dt dt_mi_x_E_raise 4 rfl) ?_
  refine gx_iload_n hX (gx_dt dt_mi_x_E_raise 5 rfl) rfl ?_
  refine gx_iload_n hX (gx_dt dt_mi_x_E_raise 6 rfl) rfl ?_
  obtain ⟨r1, e_r1, h⟩ := gx_bd h
  refine gx_callVi hX (gx_dt dt_mi_x_E_raise 7 rfl) ln_E_118_x_M_topOf mo_x_M_topOf mv_x_M_topOf (gx_rmb rfl) sh_x_22 ⟨_, _, rfl⟩ rfl (k_x_M_topOf e_r1) rfl rfl (Nat.le_of_ble_eq_true rfl) ?_
  refine gx_isub hX (gx_dt dt_mi_x_E_raise 8 rfl) ?_
  obtain ⟨v2, e_v2, h⟩ := gx_bd h
  refine gx_top e_v2 ?_
  refine gx_istore_n hX (ls' := [some (.inr 0), some (.inl a1), some (.inl v2)]) (gx_dt dt_mi_x_E_raise 9 rfl) (by decide) rfl ?_
  refine gx_iload_n hX (gx_dt dt_mi_x_E_raise 10 rfl) rfl ?_
  refine gx_if_le hX (tgt := 40) (gx_dt dt_mi_x_E_raise 11 rfl) (by decide) (fun c3 => ?_) (fun c3 => ?_)
  · have h := gx_ifp c3 h
    refine gx_iconst hX (v := 0) (gx_dt dt_mi_x_E_raise 21 rfl) (by decide) ?_
    obtain rfl := Option.some.inj h
    exact gx_iret hX (gx_dt dt_mi_x_E_raise 22 rfl) rfl hres hwr
  · have h := gx_ifn c3 h
    refine gx_aload_n hX (gx_dt dt_mi_x_E_raise 12 rfl) rfl ?_
    refine gx_getr hX fl_E_10 sh_x_0 rfl (gx_dt dt_mi_x_E_raise 13 rfl) ?_
    refine gx_getr hX fl_E_106 sh_x_1 rfl (gx_dt dt_mi_x_E_raise 14 rfl) ?_
    refine gx_iload_n hX (gx_dt dt_mi_x_E_raise 15 rfl) rfl ?_
    obtain ⟨r4, e_r4, h⟩ := gx_bd h
    refine gx_callSi hX (gx_dt dt_mi_x_E_raise 16 rfl) ln_E_125_x_E_cell mo_x_E_cell ms_x_E_cell (gx_rmb rfl) rfl (k_x_E_cell e_r4) rfl rfl (Nat.le_of_ble_eq_true rfl) ?_
    refine gx_iload_n hX (gx_dt dt_mi_x_E_raise 17 rfl) rfl ?_
    refine gx_iadd hX (gx_dt dt_mi_x_E_raise 18 rfl) ?_
    refine gx_bipush hX (v := 9) (gx_dt dt_mi_x_E_raise 19 rfl) (by decide) ?_
    refine gx_ic_le hX (tgt := 42) (gx_dt dt_mi_x_E_raise 20 rfl) (by decide) (fun c5 => ?_) (fun c5 => ?_)
    · have h := gx_ifp c5 h
      refine gx_aload_n hX (gx_dt dt_mi_x_E_raise 23 rfl) rfl ?_
      refine gx_getr hX fl_E_31 sh_x_0 rfl (gx_dt dt_mi_x_E_raise 24 rfl) ?_
      refine gx_getr hX fl_E_251 sh_x_22 rfl (gx_dt dt_mi_x_E_raise 25 rfl) ?_
      refine gx_iload_n hX (gx_dt dt_mi_x_E_raise 26 rfl) rfl ?_
      refine gx_iload_n hX (gx_dt dt_mi_x_E_raise 27 rfl) rfl ?_
      obtain ⟨r6, e_r6, h⟩ := gx_bd h
      refine gx_callSi hX (gx_dt dt_mi_x_E_raise 28 rfl) ln_E_174_x_E_setCell mo_x_E_setCell ms_x_E_setCell (gx_rmb rfl) rfl (k_x_E_setCell e_r6) rfl rfl (Nat.le_of_ble_eq_true rfl) ?_
      refine gx_pop hX (gx_dt dt_mi_x_E_raise 29 rfl) ?_
      refine gx_iload_n hX (gx_dt dt_mi_x_E_raise 30 rfl) rfl ?_
      obtain rfl := Option.some.inj h
      exact gx_iret hX (gx_dt dt_mi_x_E_raise 31 rfl) rfl hres hwr
    · have h := gx_ifn c5 h
      refine gx_iconst hX (v := 0) (gx_dt dt_mi_x_E_raise 21 rfl) (by decide) ?_
      obtain rfl := Option.some.inj h
      exact gx_iret hX (gx_dt dt_mi_x_E_raise 22 rfl) rfl hres hwr
-- EachBearsPillar.raiseBoth(II)I
def x_E_raiseBoth_43 (b3 : Int32) (w : gx_Wd) : Option (Int32 × gx_Wd) :=
  if b3 ≤ 0 then
    some (0, w)
  else
  (x_M_isFirm w).bind fun r2 =>
  if r2.1 = 0 then
    some (0, r2.2)
  else
  some (b3, r2.2)
def x_E_raiseBoth_42 (s0 : Int32) (w : gx_Wd) : Option (Int32 × gx_Wd) :=
  x_E_raiseBoth_43 s0 w
def x_E_raiseBoth (a1 : Int32) (a2 : Int32) (w : gx_Wd) : Option (Int32 × gx_Wd) :=
  (x_M_asTold w).bind fun r1 =>
  (x_E_raise a1 r1).bind fun r2 =>
  if a2 = a1 then
    x_E_raiseBoth_43 r2.1 r2.2
  else
  (x_E_raise a2 r2.2).bind fun r4 =>
  if r2.1 ≤ 0 then
    x_E_raiseBoth_42 0 r4.2
  else
  if r4.1 ≤ 0 then
    x_E_raiseBoth_42 0 r4.2
  else
  x_E_raiseBoth_42 (r2.1 + r4.1) r4.2
theorem t_x_E_raiseBoth_43 {X : gx_X} (hX : gx_Ok X mi_x_E_raiseBoth) {R : Int32 × gx_Wd} (hres : gx_res X = some (.inl R.1)) (hwr : gx_wr X = R.2) (b3 : Int32) (w : gx_Wd) (h : x_E_raiseBoth_43 b3 w = some R) : gx_G X mi_x_E_raiseBoth 43 [some (.inr 0), none, none, some (.inl b3)] [] w := by
  rw [x_E_raiseBoth_43] at h
  refine gx_iload_n hX (gx_dt dt_mi_x_E_raiseBoth 24 rfl) rfl ?_
  refine gx_if_le hX (tgt := 61) (gx_dt dt_mi_x_E_raiseBoth 25 rfl) (by decide) (fun c1 => ?_) (fun c1 => ?_)
  · have h := gx_ifp c1 h
    refine gx_iconst hX (v := 0) (gx_dt dt_mi_x_E_raiseBoth 32 rfl) (by decide) ?_
    obtain rfl := Option.some.inj h
    exact gx_iret hX (gx_dt dt_mi_x_E_raiseBoth 33 rfl) rfl hres hwr
  · have h := gx_ifn c1 h
    refine gx_aload_n hX (gx_dt dt_mi_x_E_raiseBoth 26 rfl) rfl ?_
    refine gx_getr hX fl_E_31 sh_x_0 rfl (gx_dt dt_mi_x_E_raiseBoth 27 rfl) ?_
    obtain ⟨r2, e_r2, h⟩ := gx_bd h
    refine gx_callVi hX (gx_dt dt_mi_x_E_raiseBoth 28 rfl) ln_E_148_x_M_isFirm mo_x_M_isFirm mv_x_M_isFirm (gx_rmb rfl) sh_x_22 ⟨_, _, rfl⟩ rfl (k_x_M_isFirm e_r2) rfl rfl (Nat.le_of_ble_eq_true rfl) ?_
    refine gx_if_eq hX (tgt := 61) (gx_dt dt_mi_x_E_raiseBoth 29 rfl) (by decide) (fun c3 => ?_) (fun c3 => ?_)
    · have h := gx_ifp c3 h
      refine gx_iconst hX (v := 0) (gx_dt dt_mi_x_E_raiseBoth 32 rfl) (by decide) ?_
      obtain rfl := Option.some.inj h
      exact gx_iret hX (gx_dt dt_mi_x_E_raiseBoth 33 rfl) rfl hres hwr
    · have h := gx_ifn c3 h
      refine gx_iload_n hX (gx_dt dt_mi_x_E_raiseBoth 30 rfl) rfl ?_
      refine gx_goto hX (tgt := 62) (gx_dt dt_mi_x_E_raiseBoth 31 rfl) (by decide) ?_
      obtain rfl := Option.some.inj h
      exact gx_iret hX (gx_dt dt_mi_x_E_raiseBoth 33 rfl) rfl hres hwr
theorem t_x_E_raiseBoth_42 {X : gx_X} (hX : gx_Ok X mi_x_E_raiseBoth) {R : Int32 × gx_Wd} (hres : gx_res X = some (.inl R.1)) (hwr : gx_wr X = R.2) (s0 : Int32) (w : gx_Wd) (h : x_E_raiseBoth_42 s0 w = some R) : gx_G X mi_x_E_raiseBoth 42 [some (.inr 0)] [.inl s0] w := by
  rw [x_E_raiseBoth_42] at h
  refine gx_istore_n hX (ls' := [some (.inr 0), none, none, some (.inl s0)]) (gx_dt dt_mi_x_E_raiseBoth 23 rfl) (by decide) rfl ?_
  exact gx_weak (gx_leS (gx_leN (gx_leN (gx_leS gx_le0)))) (t_x_E_raiseBoth_43 hX hres hwr _ _ h)
theorem k_x_E_raiseBoth {a1 : Int32} {a2 : Int32} {w : gx_Wd} {R : Int32 × gx_Wd} (h : x_E_raiseBoth a1 a2 w = some R) : gx_MT mi_x_E_raiseBoth [.inr 0, .inl a1, .inl a2] w (some (.inl R.1)) R.2 := by
  refine gx_met (by decide +kernel) (Nat.le_of_ble_eq_true rfl) (fun X hX hres hwr => ?_)
  show gx_G X mi_x_E_raiseBoth 0 [some (.inr 0), some (.inl a1), some (.inl a2)] [] w
  rw [x_E_raiseBoth] at h
  refine gx_aload_n hX (gx_dt dt_mi_x_E_raiseBoth 0 rfl) rfl ?_
  refine gx_getr hX fl_E_31 sh_x_0 rfl (gx_dt dt_mi_x_E_raiseBoth 1 rfl) ?_
  obtain ⟨r1, e_r1, h⟩ := gx_bd h
  refine gx_callVv hX (gx_dt dt_mi_x_E_raiseBoth 2 rfl) ln_E_115_x_M_asTold mo_x_M_asTold mv_x_M_asTold (gx_rmb rfl) sh_x_22 ⟨_, _, rfl⟩ rfl (k_x_M_asTold e_r1) rfl rfl (Nat.le_of_ble_eq_true rfl) ?_
  refine gx_aload_n hX (gx_dt dt_mi_x_E_raiseBoth 3 rfl) rfl ?_
  refine gx_iload_n hX (gx_dt dt_mi_x_E_raiseBoth 4 rfl) rfl ?_
  obtain ⟨r2, e_r2, h⟩ := gx_bd h
  refine gx_callVi hX (gx_dt dt_mi_x_E_raiseBoth 5 rfl) ln_E_248_x_E_raise mo_x_E_raise mv_x_E_raise (gx_rmb rfl) sh_x_0 ⟨_, _, rfl⟩ rfl (k_x_E_raise e_r2) rfl rfl (Nat.le_of_ble_eq_true rfl) ?_
  refine gx_istore_n hX (ls' := [some (.inr 0), some (.inl a1), some (.inl a2), some (.inl (r2.1))]) (gx_dt dt_mi_x_E_raiseBoth 6 rfl) (by decide) rfl ?_
  refine gx_iload_n hX (gx_dt dt_mi_x_E_raiseBoth 7 rfl) rfl ?_
  refine gx_iload_n hX (gx_dt dt_mi_x_E_raiseBoth 8 rfl) rfl ?_
  refine gx_ic_eq hX (tgt := 43) (gx_dt dt_mi_x_E_raiseBoth 9 rfl) (by decide) (fun c3 => ?_) (fun c3 => ?_)
  · have h := gx_ifp c3 h
    exact gx_weak (gx_leS (gx_leN (gx_leN (gx_leS gx_le0)))) (t_x_E_raiseBoth_43 hX hres hwr _ _ h)
  · have h := gx_ifn c3 h
    refine gx_aload_n hX (gx_dt dt_mi_x_E_raiseBoth 10 rfl) rfl ?_
    refine gx_iload_n hX (gx_dt dt_mi_x_E_raiseBoth 11 rfl) rfl ?_
    obtain ⟨r4, e_r4, h⟩ := gx_bd h
    refine gx_callVi hX (gx_dt dt_mi_x_E_raiseBoth 12 rfl) ln_E_248_x_E_raise mo_x_E_raise mv_x_E_raise (gx_rmb rfl) sh_x_0 ⟨_, _, rfl⟩ rfl (k_x_E_raise e_r4) rfl rfl (Nat.le_of_ble_eq_true rfl) ?_
    refine gx_istore hX (ls' := [some (.inr 0), some (.inl a1), some (.inl a2), some (.inl (r2.1)), some (.inl (r4.1))]) (gx_dt dt_mi_x_E_raiseBoth 13 rfl) (by decide) rfl ?_
    refine gx_iload_n hX (gx_dt dt_mi_x_E_raiseBoth 14 rfl) rfl ?_
    refine gx_if_le hX (tgt := 41) (gx_dt dt_mi_x_E_raiseBoth 15 rfl) (by decide) (fun c5 => ?_) (fun c5 => ?_)
    · have h := gx_ifp c5 h
      refine gx_iconst hX (v := 0) (gx_dt dt_mi_x_E_raiseBoth 22 rfl) (by decide) ?_
      exact gx_weak (gx_leS gx_le0) (t_x_E_raiseBoth_42 hX hres hwr _ _ h)
    · have h := gx_ifn c5 h
      refine gx_iload hX (gx_dt dt_mi_x_E_raiseBoth 16 rfl) rfl ?_
      refine gx_if_le hX (tgt := 41) (gx_dt dt_mi_x_E_raiseBoth 17 rfl) (by decide) (fun c6 => ?_) (fun c6 => ?_)
      · have h := gx_ifp c6 h
        refine gx_iconst hX (v := 0) (gx_dt dt_mi_x_E_raiseBoth 22 rfl) (by decide) ?_
        exact gx_weak (gx_leS gx_le0) (t_x_E_raiseBoth_42 hX hres hwr _ _ h)
      · have h := gx_ifn c6 h
        refine gx_iload_n hX (gx_dt dt_mi_x_E_raiseBoth 18 rfl) rfl ?_
        refine gx_iload hX (gx_dt dt_mi_x_E_raiseBoth 19 rfl) rfl ?_
        refine gx_iadd hX (gx_dt dt_mi_x_E_raiseBoth 20 rfl) ?_
        refine gx_goto hX (tgt := 42) (gx_dt dt_mi_x_E_raiseBoth 21 rfl) (by decide) ?_
        exact gx_weak (gx_leS gx_le0) (t_x_E_raiseBoth_42 hX hres hwr _ _ h)
-- EachBearsPillar.blocks()I
def x_E_blocks_80 (K24 : Int32 → Int32 → gx_Wd → Option (Int32 × gx_Wd)) (b1 : Int32) (b2 : Int32) (w : gx_Wd) : Option (Int32 × gx_Wd) :=
  (some (b2 + 1)).bind fun v1 =>
  K24 b1 v1 w
def x_E_blocks_74 (K24 : Int32 → Int32 → gx_Wd → Option (Int32 × gx_Wd)) (K37 : Int32 → Int32 → Int32 → gx_Wd → Option (Int32 × gx_Wd)) (b1 : Int32) (b2 : Int32) (b3 : Int32) (w : gx_Wd) : Option (Int32 × gx_Wd) :=
  (some (b3 + 1)).bind fun v1 =>
  K37 b1 b2 v1 w
def x_E_blocks_71 (K24 : Int32 → Int32 → gx_Wd → Option (Int32 × gx_Wd)) (K37 : Int32 → Int32 → Int32 → gx_Wd → Option (Int32 × gx_Wd)) (b2 : Int32) (b3 : Int32) (b4 : Int32) (w : gx_Wd) : Option (Int32 × gx_Wd) :=
  x_E_blocks_74 K24 K37 b4 b2 b3 w
def x_E_blocks_37 (K24 : Int32 → Int32 → gx_Wd → Option (Int32 × gx_Wd)) : Nat → Int32 → Int32 → Int32 → gx_Wd → Option (Int32 × gx_Wd)
  | 0, _, _, _, _ => none
  | n + 1, b1, b2, b3, w =>
  if w 1 0 ≤ b3 then
    x_E_blocks_80 K24 b1 b2 w
  else
  (x_E_raiseBoth b2 b3 w).bind fun r2 =>
  if r2.1 ≤ 0 then
    x_E_blocks_74 K24 (x_E_blocks_37 K24 n) b1 b2 b3 r2.2
  else
  if b1 < 0 then
    x_E_blocks_71 K24 (x_E_blocks_37 K24 n) b2 b3 r2.1 r2.2
  else
  if b1 ≤ r2.1 then
    x_E_blocks_74 K24 (x_E_blocks_37 K24 n) b1 b2 b3 r2.2
  else
  x_E_blocks_71 K24 (x_E_blocks_37 K24 n) b2 b3 r2.1 r2.2
def x_E_blocks_24 : Nat → Int32 → Int32 → gx_Wd → Option (Int32 × gx_Wd)
  | 0, _, _, _ => none
  | n + 1, b1, b2, w =>
  if w 1 0 ≤ b2 then
    some (b1, w)
  else
  x_E_blocks_37 (x_E_blocks_24 n) 6000 b1 b2 b2 w
def x_E_blocks (w : gx_Wd) : Option (Int32 × gx_Wd) :=
  (x_M_asTold w).bind fun r1 =>
  (x_M_isFirm r1).bind fun r2 =>
  if r2.1 = 0 then
    x_E_blocks_24 6000 (-9) 0 r2.2
  else
  some (0, r2.2)
theorem t_x_E_blocks_80 {X : gx_X} (hX : gx_Ok X mi_x_E_blocks) {R : Int32 × gx_Wd} (hres : gx_res X = some (.inl R.1)) (hwr : gx_wr X = R.2) {K24 : Int32 → Int32 → gx_Wd → Option (Int32 × gx_Wd)} (hK24 : ∀ (b1 : Int32) (b2 : Int32) (w : gx_Wd), K24 b1 b2 w = some R → gx_G X mi_x_E_blocks 24 [some (.inr 0), some (.inl b1), some (.inl b2)] [] w) (b1 : Int32) (b2 : Int32) (w : gx_Wd) (h : x_E_blocks_80 K24 b1 b2 w = some R) : gx_G X mi_x_E_blocks 80 [some (.inr 0), some (.inl b1), some (.inl b2)] [] w := by
  rw [x_E_blocks_80] at h
  obtain ⟨v1, e_v1, h⟩ := gx_bd h
  refine gx_iinc hX (v := v1) (ls' := [some (.inr 0), some (.inl b1), some (.inl v1)]) (gx_dt dt_mi_x_E_blocks 41 rfl) rfl (gx_ii e_v1 (by decide)) (by decide) rfl ?_
  refine gx_goto hX (tgt := 24) (gx_dt dt_mi_x_E_blocks 42 rfl) (by decide) ?_
  exact gx_weak (gx_leS (gx_leS (gx_leS gx_le0))) (hK24 _ _ _ h)
theorem t_x_E_blocks_74 {X : gx_X} (hX : gx_Ok X mi_x_E_blocks) {R : Int32 × gx_Wd} (hres : gx_res X = some (.inl R.1)) (hwr : gx_wr X = R.2) {K24 : Int32 → Int32 → gx_Wd → Option (Int32 × gx_Wd)} (hK24 : ∀ (b1 : Int32) (b2 : Int32) (w : gx_Wd), K24 b1 b2 w = some R → gx_G X mi_x_E_blocks 24 [some (.inr 0), some (.inl b1), some (.inl b2)] [] w) {K37 : Int32 → Int32 → Int32 → gx_Wd → Option (Int32 × gx_Wd)} (hK37 : ∀ (b1 : Int32) (b2 : Int32) (b3 : Int32) (w : gx_Wd), K37 b1 b2 b3 w = some R → gx_G X mi_x_E_blocks 37 [some (.inr 0), some (.inl b1), some (.inl b2), some (.inl b3)] [] w) (b1 : Int32) (b2 : Int32) (b3 : Int32) (w : gx_Wd) (h : x_E_blocks_74 K24 K37 b1 b2 b3 w = some R) : gx_G X mi_x_E_blocks 74 [some (.inr 0), some (.inl b1), some (.inl b2), some (.inl b3)] [] w := by
  rw [x_E_blocks_74] at h
  obtain ⟨v1, e_v1, h⟩ := gx_bd h
  refine gx_iinc hX (v := v1) (ls' := [some (.inr 0), some (.inl b1), some (.inl b2), some (.inl v1)]) (gx_dt dt_mi_x_E_blocks 39 rfl) rfl (gx_ii e_v1 (by decide)) (by decide) rfl ?_
  refine gx_goto hX (tgt := 37) (gx_dt dt_mi_x_E_blocks 40 rfl) (by decide) ?_
  exact gx_weak (gx_leS (gx_leS (gx_leS (gx_leS gx_le0)))) (hK37 _ _ _ _ h)
theorem t_x_E_blocks_71 {X : gx_X} (hX : gx_Ok X mi_x_E_blocks) {R : Int32 × gx_Wd} (hres : gx_res X = some (.inl R.1)) (hwr : gx_wr X = R.2) {K24 : Int32 → Int32 → gx_Wd → Option (Int32 × gx_Wd)} (hK24 : ∀ (b1 : Int32) (b2 : Int32) (w : gx_Wd), K24 b1 b2 w = some R → gx_G X mi_x_E_blocks 24 [some (.inr 0), some (.inl b1), some (.inl b2)] [] w) {K37 : Int32 → Int32 → Int32 → gx_Wd → Option (Int32 × gx_Wd)} (hK37 : ∀ (b1 : Int32) (b2 : Int32) (b3 : Int32) (w : gx_Wd), K37 b1 b2 b3 w = some R → gx_G X mi_x_E_blocks 37 [some (.inr 0), some (.inl b1), some (.inl b2), some (.inl b3)] [] w) (b2 : Int32) (b3 : Int32) (b4 : Int32) (w : gx_Wd) (h : x_E_blocks_71 K24 K37 b2 b3 b4 w = some R) : gx_G X mi_x_E_blocks 71 [some (.inr 0), none, some (.inl b2), some (.inl b3), some (.inl b4)] [] w := by
  rw [x_E_blocks_71] at h
  refine gx_iload hX (gx_dt dt_mi_x_E_blocks 37 rfl) rfl ?_
  refine gx_istore_n hX (ls' := [some (.inr 0), some (.inl b4), some (.inl b2), some (.inl b3), some (.inl b4)]) (gx_dt dt_mi_x_E_blocks 38 rfl) (by decide) rfl ?_
  exact gx_weak (gx_leS (gx_leS (gx_leS (gx_leS gx_le0)))) (t_x_E_blocks_74 hX hres hwr hK24 hK37 _ _ _ _ h)
theorem t_x_E_blocks_37 {X : gx_X} (hX : gx_Ok X mi_x_E_blocks) {R : Int32 × gx_Wd} (hres : gx_res X = some (.inl R.1)) (hwr : gx_wr X = R.2) {K24 : Int32 → Int32 → gx_Wd → Option (Int32 × gx_Wd)} (hK24 : ∀ (b1 : Int32) (b2 : Int32) (w : gx_Wd), K24 b1 b2 w = some R → gx_G X mi_x_E_blocks 24 [some (.inr 0), some (.inl b1), some (.inl b2)] [] w) : ∀ (n : Nat) (b1 : Int32) (b2 : Int32) (b3 : Int32) (w : gx_Wd), x_E_blocks_37 K24 n b1 b2 b3 w = some R → gx_G X mi_x_E_blocks 37 [some (.inr 0), some (.inl b1), some (.inl b2), some (.inl b3)] [] w := by
  intro n
  induction n with
  | zero => intro b1 b2 b3 w h; rw [x_E_blocks_37] at h; cases h
  | succ n ih =>
    intro b1 b2 b3 w h
    rw [x_E_blocks_37] at h
    refine gx_iload_n hX (gx_dt dt_mi_x_E_blocks 20 rfl) rfl ?_
    refine gx_aload_n hX (gx_dt dt_mi_x_E_blocks 21 rfl) rfl ?_
    refine gx_getr hX fl_E_10 sh_x_0 rfl (gx_dt dt_mi_x_E_blocks 22 rfl) ?_
    refine gx_geti hX fl_E_158 sh_x_1 rfl (gx_dt dt_mi_x_E_blocks 23 rfl) ?_
    refine gx_ic_ge hX (tgt := 80) (gx_dt dt_mi_x_E_blocks 24 rfl) (by decide) (fun c1 => ?_) (fun c1 => ?_)
    · have h := gx_ifp c1 h
      exact gx_weak (gx_leS (gx_leS (gx_leS gx_le0))) (t_x_E_blocks_80 hX hres hwr hK24 _ _ _ h)
    · have h := gx_ifn c1 h
      refine gx_aload_n hX (gx_dt dt_mi_x_E_blocks 25 rfl) rfl ?_
      refine gx_iload_n hX (gx_dt dt_mi_x_E_blocks 26 rfl) rfl ?_
      refine gx_iload_n hX (gx_dt dt_mi_x_E_blocks 27 rfl) rfl ?_
      obtain ⟨r2, e_r2, h⟩ := gx_bd h
      refine gx_callVi hX (gx_dt dt_mi_x_E_blocks 28 rfl) ln_E_168_x_E_raiseBoth mo_x_E_raiseBoth mv_x_E_raiseBoth (gx_rmb rfl) sh_x_0 ⟨_, _, rfl⟩ rfl (k_x_E_raiseBoth e_r2) rfl rfl (Nat.le_of_ble_eq_true rfl) ?_
      refine gx_istore hX (ls' := [some (.inr 0), some (.inl b1), some (.inl b2), some (.inl b3), some (.inl (r2.1))]) (gx_dt dt_mi_x_E_blocks 29 rfl) (by decide) rfl ?_
      refine gx_iload hX (gx_dt dt_mi_x_E_blocks 30 rfl) rfl ?_
      refine gx_if_le hX (tgt := 74) (gx_dt dt_mi_x_E_blocks 31 rfl) (by decide) (fun c3 => ?_) (fun c3 => ?_)
      · have h := gx_ifp c3 h
        exact gx_weak (gx_leS (gx_leS (gx_leS (gx_leS gx_le0)))) (t_x_E_blocks_74 hX hres hwr hK24 ih _ _ _ _ h)
      · have h := gx_ifn c3 h
        refine gx_iload_n hX (gx_dt dt_mi_x_E_blocks 32 rfl) rfl ?_
        refine gx_if_lt hX (tgt := 71) (gx_dt dt_mi_x_E_blocks 33 rfl) (by decide) (fun c4 => ?_) (fun c4 => ?_)
        · have h := gx_ifp c4 h
          exact gx_weak (gx_leS (gx_leN (gx_leS (gx_leS (gx_leS gx_le0))))) (t_x_E_blocks_71 hX hres hwr hK24 ih _ _ _ _ h)
        · have h := gx_ifn c4 h
          refine gx_iload hX (gx_dt dt_mi_x_E_blocks 34 rfl) rfl ?_
          refine gx_iload_n hX (gx_dt dt_mi_x_E_blocks 35 rfl) rfl ?_
          refine gx_ic_ge hX (tgt := 74) (gx_dt dt_mi_x_E_blocks 36 rfl) (by decide) (fun c5 => ?_) (fun c5 => ?_)
          · have h := gx_ifp c5 h
            exact gx_weak (gx_leS (gx_leS (gx_leS (gx_leS gx_le0)))) (t_x_E_blocks_74 hX hres hwr hK24 ih _ _ _ _ h)
          · have h := gx_ifn c5 h
            exact gx_weak (gx_leS (gx_leN (gx_leS (gx_leS (gx_leS gx_le0))))) (t_x_E_blocks_71 hX hres hwr hK24 ih _ _ _ _ h)
theorem t_x_E_blocks_24 {X : gx_X} (hX : gx_Ok X mi_x_E_blocks) {R : Int32 × gx_Wd} (hres : gx_res X = some (.inl R.1)) (hwr : gx_wr X = R.2) : ∀ (n : Nat) (b1 : Int32) (b2 : Int32) (w : gx_Wd), x_E_blocks_24 n b1 b2 w = some R → gx_G X mi_x_E_blocks 24 [some (.inr 0), some (.inl b1), some (.inl b2)] [] w := by
  intro n
  induction n with
  | zero => intro b1 b2 w h; rw [x_E_blocks_24] at h; cases h
  | succ n ih =>
    intro b1 b2 w h
    rw [x_E_blocks_24] at h
    refine gx_iload_n hX (gx_dt dt_mi_x_E_blocks 13 rfl) rfl ?_
    refine gx_aload_n hX (gx_dt dt_mi_x_E_blocks 14 rfl) rfl ?_
    refine gx_getr hX fl_E_10 sh_x_0 rfl (gx_dt dt_mi_x_E_blocks 15 rfl) ?_
    refine gx_geti hX fl_E_158 sh_x_1 rfl (gx_dt dt_mi_x_E_blocks 16 rfl) ?_
    refine gx_ic_ge hX (tgt := 86) (gx_dt dt_mi_x_E_blocks 17 rfl) (by decide) (fun c1 => ?_) (fun c1 => ?_)
    · have h := gx_ifp c1 h
      refine gx_iload_n hX (gx_dt dt_mi_x_E_blocks 43 rfl) rfl ?_
      obtain rfl := Option.some.inj h
      exact gx_iret hX (gx_dt dt_mi_x_E_blocks 44 rfl) rfl hres hwr
    · have h := gx_ifn c1 h
      refine gx_iload_n hX (gx_dt dt_mi_x_E_blocks 18 rfl) rfl ?_
      refine gx_istore_n hX (ls' := [some (.inr 0), some (.inl b1), some (.inl b2), some (.inl b2)]) (gx_dt dt_mi_x_E_blocks 19 rfl) (by decide) rfl ?_
      exact gx_weak (gx_leS (gx_leS (gx_leS (gx_leS gx_le0)))) (t_x_E_blocks_37 hX hres hwr ih _ _ _ _ _ h)
theorem k_x_E_blocks {w : gx_Wd} {R : Int32 × gx_Wd} (h : x_E_blocks w = some R) : gx_MT mi_x_E_blocks [.inr 0] w (some (.inl R.1)) R.2 := by
  refine gx_met (by decide +kernel) (Nat.le_of_ble_eq_true rfl) (fun X hX hres hwr => ?_)
  show gx_G X mi_x_E_blocks 0 [some (.inr 0)] [] w
  rw [x_E_blocks] at h
  refine gx_aload_n hX (gx_dt dt_mi_x_E_blocks 0 rfl) rfl ?_
  refine gx_getr hX fl_E_31 sh_x_0 rfl (gx_dt dt_mi_x_E_blocks 1 rfl) ?_
  obtain ⟨r1, e_r1, h⟩ := gx_bd h
  refine gx_callVv hX (gx_dt dt_mi_x_E_blocks 2 rfl) ln_E_115_x_M_asTold mo_x_M_asTold mv_x_M_asTold (gx_rmb rfl) sh_x_22 ⟨_, _, rfl⟩ rfl (k_x_M_asTold e_r1) rfl rfl (Nat.le_of_ble_eq_true rfl) ?_
  refine gx_aload_n hX (gx_dt dt_mi_x_E_blocks 3 rfl) rfl ?_
  refine gx_getr hX fl_E_31 sh_x_0 rfl (gx_dt dt_mi_x_E_blocks 4 rfl) ?_
  obtain ⟨r2, e_r2, h⟩ := gx_bd h
  refine gx_callVi hX (gx_dt dt_mi_x_E_blocks 5 rfl) ln_E_148_x_M_isFirm mo_x_M_isFirm mv_x_M_isFirm (gx_rmb rfl) sh_x_22 ⟨_, _, rfl⟩ rfl (k_x_M_isFirm e_r2) rfl rfl (Nat.le_of_ble_eq_true rfl) ?_
  refine gx_if_eq hX (tgt := 19) (gx_dt dt_mi_x_E_blocks 6 rfl) (by decide) (fun c3 => ?_) (fun c3 => ?_)
  · have h := gx_ifp c3 h
    refine gx_bipush hX (v := (-9)) (gx_dt dt_mi_x_E_blocks 9 rfl) (by decide) ?_
    refine gx_istore_n hX (ls' := [some (.inr 0), some (.inl ((-9)))]) (gx_dt dt_mi_x_E_blocks 10 rfl) (by decide) rfl ?_
    refine gx_iconst hX (v := 0) (gx_dt dt_mi_x_E_blocks 11 rfl) (by decide) ?_
    refine gx_istore_n hX (ls' := [some (.inr 0), some (.inl ((-9))), some (.inl (0))]) (gx_dt dt_mi_x_E_blocks 12 rfl) (by decide) rfl ?_
    exact gx_weak (gx_leS (gx_leS (gx_leS gx_le0))) (t_x_E_blocks_24 hX hres hwr _ _ _ _ h)
  · have h := gx_ifn c3 h
    refine gx_iconst hX (v := 0) (gx_dt dt_mi_x_E_blocks 7 rfl) (by decide) ?_
    obtain rfl := Option.some.inj h
    exact gx_iret hX (gx_dt dt_mi_x_E_blocks 8 rfl) rfl hres hwr
-- EachBearsPillar.swap()I
def x_E_swap_84 (K2 : Int32 → gx_Wd → Option (Int32 × gx_Wd)) (b1 : Int32) (w : gx_Wd) : Option (Int32 × gx_Wd) :=
  (some (b1 + 1)).bind fun v1 =>
  K2 v1 w
def x_E_swap_71 (b1 : Int32) (b2 : Int32) (w : gx_Wd) : Option (Int32 × gx_Wd) :=
  some ((10 * b1) + b2, w)
def x_E_swap_17 (K2 : Int32 → gx_Wd → Option (Int32 × gx_Wd)) : Nat → Int32 → Int32 → gx_Wd → Option (Int32 × gx_Wd)
  | 0, _, _, _ => none
  | n + 1, b1, b2, w =>
  if w 1 0 ≤ b2 then
    x_E_swap_84 K2 b1 w
  else
  (x_M_asTold w).bind fun r2 =>
  (x_E_setCell 23 b1 b2 r2).bind fun r3 =>
  (x_E_setCell 23 b2 b1 r3.2).bind fun r4 =>
  (x_M_isFirm r4.2).bind fun r5 =>
  if r5.1 = 0 then
    (some (b2 + 1)).bind fun v7 =>
    (x_E_swap_17 K2 n) b1 v7 r5.2
  else
  x_E_swap_71 b1 b2 r5.2
def x_E_swap_2 : Nat → Int32 → gx_Wd → Option (Int32 × gx_Wd)
  | 0, _, _ => none
  | n + 1, b1, w =>
  if w 1 0 ≤ b1 then
    some ((-9), w)
  else
  (some (b1 + 1)).bind fun v2 =>
  x_E_swap_17 (x_E_swap_2 n) 6000 b1 v2 w
def x_E_swap (w : gx_Wd) : Option (Int32 × gx_Wd) :=
  x_E_swap_2 6000 0 w
theorem t_x_E_swap_84 {X : gx_X} (hX : gx_Ok X mi_x_E_swap) {R : Int32 × gx_Wd} (hres : gx_res X = some (.inl R.1)) (hwr : gx_wr X = R.2) {K2 : Int32 → gx_Wd → Option (Int32 × gx_Wd)} (hK2 : ∀ (b1 : Int32) (w : gx_Wd), K2 b1 w = some R → gx_G X mi_x_E_swap 2 [some (.inr 0), some (.inl b1)] [] w) (b1 : Int32) (w : gx_Wd) (h : x_E_swap_84 K2 b1 w = some R) : gx_G X mi_x_E_swap 84 [some (.inr 0), some (.inl b1)] [] w := by
  rw [x_E_swap_84] at h
  obtain ⟨v1, e_v1, h⟩ := gx_bd h
  refine gx_iinc hX (v := v1) (ls' := [some (.inr 0), some (.inl v1)]) (gx_dt dt_mi_x_E_swap 45 rfl) rfl (gx_ii e_v1 (by decide)) (by decide) rfl ?_
  refine gx_goto hX (tgt := 2) (gx_dt dt_mi_x_E_swap 46 rfl) (by decide) ?_
  exact gx_weak (gx_leS (gx_leS gx_le0)) (hK2 _ _ h)
theorem t_x_E_swap_71 {X : gx_X} (hX : gx_Ok X mi_x_E_swap) {R : Int32 × gx_Wd} (hres : gx_res X = some (.inl R.1)) (hwr : gx_wr X = R.2) (b1 : Int32) (b2 : Int32) (w : gx_Wd) (h : x_E_swap_71 b1 b2 w = some R) : gx_G X mi_x_E_swap 71 [none, some (.inl b1), some (.inl b2)] [] w := by
  rw [x_E_swap_71] at h
  refine gx_bipush hX (v := 10) (gx_dt dt_mi_x_E_swap 37 rfl) (by decide) ?_
  refine gx_iload_n hX (gx_dt dt_mi_x_E_swap 38 rfl) rfl ?_
  refine gx_imul hX (gx_dt dt_mi_x_E_swap 39 rfl) ?_
  refine gx_iload_n hX (gx_dt dt_mi_x_E_swap 40 rfl) rfl ?_
  refine gx_iadd hX (gx_dt dt_mi_x_E_swap 41 rfl) ?_
  obtain rfl := Option.some.inj h
  exact gx_iret hX (gx_dt dt_mi_x_E_swap 42 rfl) rfl hres hwr
theorem t_x_E_swap_17 {X : gx_X} (hX : gx_Ok X mi_x_E_swap) {R : Int32 × gx_Wd} (hres : gx_res X = some (.inl R.1)) (hwr : gx_wr X = R.2) {K2 : Int32 → gx_Wd → Option (Int32 × gx_Wd)} (hK2 : ∀ (b1 : Int32) (w : gx_Wd), K2 b1 w = some R → gx_G X mi_x_E_swap 2 [some (.inr 0), some (.inl b1)] [] w) : ∀ (n : Nat) (b1 : Int32) (b2 : Int32) (w : gx_Wd), x_E_swap_17 K2 n b1 b2 w = some R → gx_G X mi_x_E_swap 17 [some (.inr 0), some (.inl b1), some (.inl b2)] [] w := by
  intro n
  induction n with
  | zero => intro b1 b2 w h; rw [x_E_swap_17] at h; cases h
  | succ n ih =>
    intro b1 b2 w h
    rw [x_E_swap_17] at h
    refine gx_iload_n hX (gx_dt dt_mi_x_E_swap 11 rfl) rfl ?_
    refine gx_aload_n hX (gx_dt dt_mi_x_E_swap 12 rfl) rfl ?_
    refine gx_getr hX fl_E_10 sh_x_0 rfl (gx_dt dt_mi_x_E_swap 13 rfl) ?_
    refine gx_geti hX fl_E_158 sh_x_1 rfl (gx_dt dt_mi_x_E_swap 14 rfl) ?_
    refine gx_ic_ge hX (tgt := 84) (gx_dt dt_mi_x_E_swap 15 rfl) (by decide) (fun c1 => ?_) (fun c1 => ?_)
    · have h := gx_ifp c1 h
      exact gx_weak (gx_leS (gx_leS gx_le0)) (t_x_E_swap_84 hX hres hwr hK2 _ _ h)
    · have h := gx_ifn c1 h
      refine gx_aload_n hX (gx_dt dt_mi_x_E_swap 16 rfl) rfl ?_
      refine gx_getr hX fl_E_31 sh_x_0 rfl (gx_dt dt_mi_x_E_swap 17 rfl) ?_
      obtain ⟨r2, e_r2, h⟩ := gx_bd h
      refine gx_callVv hX (gx_dt dt_mi_x_E_swap 18 rfl) ln_E_115_x_M_asTold mo_x_M_asTold mv_x_M_asTold (gx_rmb rfl) sh_x_22 ⟨_, _, rfl⟩ rfl (k_x_M_asTold e_r2) rfl rfl (Nat.le_of_ble_eq_true rfl) ?_
      refine gx_aload_n hX (gx_dt dt_mi_x_E_swap 19 rfl) rfl ?_
      refine gx_getr hX fl_E_31 sh_x_0 rfl (gx_dt dt_mi_x_E_swap 20 rfl) ?_
      refine gx_getr hX fl_E_171 sh_x_22 rfl (gx_dt dt_mi_x_E_swap 21 rfl) ?_
      refine gx_iload_n hX (gx_dt dt_mi_x_E_swap 22 rfl) rfl ?_
      refine gx_iload_n hX (gx_dt dt_mi_x_E_swap 23 rfl) rfl ?_
      obtain ⟨r3, e_r3, h⟩ := gx_bd h
      refine gx_callSi hX (gx_dt dt_mi_x_E_swap 24 rfl) ln_E_174_x_E_setCell mo_x_E_setCell ms_x_E_setCell (gx_rmb rfl) rfl (k_x_E_setCell e_r3) rfl rfl (Nat.le_of_ble_eq_true rfl) ?_
      refine gx_pop hX (gx_dt dt_mi_x_E_swap 25 rfl) ?_
      refine gx_aload_n hX (gx_dt dt_mi_x_E_swap 26 rfl) rfl ?_
      refine gx_getr hX fl_E_31 sh_x_0 rfl (gx_dt dt_mi_x_E_swap 27 rfl) ?_
      refine gx_getr hX fl_E_171 sh_x_22 rfl (gx_dt dt_mi_x_E_swap 28 rfl) ?_
      refine gx_iload_n hX (gx_dt dt_mi_x_E_swap 29 rfl) rfl ?_
      refine gx_iload_n hX (gx_dt dt_mi_x_E_swap 30 rfl) rfl ?_
      obtain ⟨r4, e_r4, h⟩ := gx_bd h
      refine gx_callSi hX (gx_dt dt_mi_x_E_swap 31 rfl) ln_E_174_x_E_setCell mo_x_E_setCell ms_x_E_setCell (gx_rmb rfl) rfl (k_x_E_setCell e_r4) rfl rfl (Nat.le_of_ble_eq_true rfl) ?_
      refine gx_pop hX (gx_dt dt_mi_x_E_swap 32 rfl) ?_
      refine gx_aload_n hX (gx_dt dt_mi_x_E_swap 33 rfl) rfl ?_
      refine gx_getr hX fl_E_31 sh_x_0 rfl (gx_dt dt_mi_x_E_swap 34 rfl) ?_
      obtain ⟨r5, e_r5, h⟩ := gx_bd h
      refine gx_callVi hX (gx_dt dt_mi_x_E_swap 35 rfl) ln_E_148_x_M_isFirm mo_x_M_isFirm mv_x_M_isFirm (gx_rmb rfl) sh_x_22 ⟨_, _, rfl⟩ rfl (k_x_M_isFirm e_r5) rfl rfl (Nat.le_of_ble_eq_true rfl) ?_
      refine gx_if_eq hX (tgt := 78) (gx_dt dt_mi_x_E_swap 36 rfl) (by decide) (fun c6 => ?_) (fun c6 => ?_)
      · have h := gx_ifp c6 h
        obtain ⟨v7, e_v7, h⟩ := gx_bd h
        refine gx_iinc hX (v := v7) (ls' := [some (.inr 0), some (.inl b1), some (.inl v7)]) (gx_dt dt_mi_x_E_swap 43 rfl) rfl (gx_ii e_v7 (by decide)) (by decide) rfl ?_
        refine gx_goto hX (tgt := 17) (gx_dt dt_mi_x_E_swap 44 rfl) (by decide) ?_
        exact gx_weak (gx_leS (gx_leS (gx_leS gx_le0))) (ih _ _ _ h)
      · have h := gx_ifn c6 h
        exact gx_weak (gx_leN (gx_leS (gx_leS gx_le0))) (t_x_E_swap_71 hX hres hwr _ _ _ h)
theorem t_x_E_swap_2 {X : gx_X} (hX : gx_Ok X mi_x_E_swap) {R : Int32 × gx_Wd} (hres : gx_res X = some (.inl R.1)) (hwr : gx_wr X = R.2) : ∀ (n : Nat) (b1 : Int32) (w : gx_Wd), x_E_swap_2 n b1 w = some R → gx_G X mi_x_E_swap 2 [some (.inr 0), some (.inl b1)] [] w := by
  intro n
  induction n with
  | zero => intro b1 w h; rw [x_E_swap_2] at h; cases h
  | succ n ih =>
    intro b1 w h
    rw [x_E_swap_2] at h
    refine gx_iload_n hX (gx_dt dt_mi_x_E_swap 2 rfl) rfl ?_
    refine gx_aload_n hX (gx_dt dt_mi_x_E_swap 3 rfl) rfl ?_
    refine gx_getr hX fl_E_10 sh_x_0 rfl (gx_dt dt_mi_x_E_swap 4 rfl) ?_
    refine gx_geti hX fl_E_158 sh_x_1 rfl (gx_dt dt_mi_x_E_swap 5 rfl) ?_
    refine gx_ic_ge hX (tgt := 90) (gx_dt dt_mi_x_E_swap 6 rfl) (by decide) (fun c1 => ?_) (fun c1 => ?_)
    · have h := gx_ifp c1 h
      refine gx_bipush hX (v := (-9)) (gx_dt dt_mi_x_E_swap 47 rfl) (by decide) ?_
      obtain rfl := Option.some.inj h
      exact gx_iret hX (gx_dt dt_mi_x_E_swap 48 rfl) rfl hres hwr
    · have h := gx_ifn c1 h
      refine gx_iload_n hX (gx_dt dt_mi_x_E_swap 7 rfl) rfl ?_
      refine gx_iconst hX (v := 1) (gx_dt dt_mi_x_E_swap 8 rfl) (by decide) ?_
      refine gx_iadd hX (gx_dt dt_mi_x_E_swap 9 rfl) ?_
      obtain ⟨v2, e_v2, h⟩ := gx_bd h
      refine gx_top e_v2 ?_
      refine gx_istore_n hX (ls' := [some (.inr 0), some (.inl b1), some (.inl v2)]) (gx_dt dt_mi_x_E_swap 10 rfl) (by decide) rfl ?_
      exact gx_weak (gx_leS (gx_leS (gx_leS gx_le0))) (t_x_E_swap_17 hX hres hwr ih _ _ _ _ h)
theorem k_x_E_swap {w : gx_Wd} {R : Int32 × gx_Wd} (h : x_E_swap w = some R) : gx_MT mi_x_E_swap [.inr 0] w (some (.inl R.1)) R.2 := by
  refine gx_met (by decide +kernel) (Nat.le_of_ble_eq_true rfl) (fun X hX hres hwr => ?_)
  show gx_G X mi_x_E_swap 0 [some (.inr 0)] [] w
  rw [x_E_swap] at h
  refine gx_iconst hX (v := 0) (gx_dt dt_mi_x_E_swap 0 rfl) (by decide) ?_
  refine gx_istore_n hX (ls' := [some (.inr 0), some (.inl (0))]) (gx_dt dt_mi_x_E_swap 1 rfl) (by decide) rfl ?_
  exact gx_weak (gx_leS (gx_leS gx_le0)) (t_x_E_swap_2 hX hres hwr _ _ _ h)
-- EachBearsPillar$Orders.spotOf(III)I
def x_O_spotOf (a0 : Int32) (a1 : Int32) (a2 : Int32) (w : gx_Wd) : Option (Int32 × gx_Wd) :=
  some ((((a0 * 7) + a1) * 2) + a2, w)
theorem k_x_O_spotOf {a0 : Int32} {a1 : Int32} {a2 : Int32} {w : gx_Wd} {R : Int32 × gx_Wd} (h : x_O_spotOf a0 a1 a2 w = some R) : gx_MT mi_x_O_spotOf [.inl a0, .inl a1, .inl a2] w (some (.inl R.1)) R.2 := by
  refine gx_met (by decide +kernel) (Nat.le_of_ble_eq_true rfl) (fun X hX hres hwr => ?_)
  show gx_G X mi_x_O_spotOf 0 [some (.inl a0), some (.inl a1), some (.inl a2)] [] w
  rw [x_O_spotOf] at h
  refine gx_iload_n hX (gx_dt dt_mi_x_O_spotOf 0 rfl) rfl ?_
  refine gx_bipush hX (v := 7) (gx_dt dt_mi_x_O_spotOf 1 rfl) (by decide) ?_
  refine gx_imul hX (gx_dt dt_mi_x_O_spotOf 2 rfl) ?_
  refine gx_iload_n hX (gx_dt dt_mi_x_O_spotOf 3 rfl) rfl ?_
  refine gx_iadd hX (gx_dt dt_mi_x_O_spotOf 4 rfl) ?_
  refine gx_iconst hX (v := 2) (gx_dt dt_mi_x_O_spotOf 5 rfl) (by decide) ?_
  refine gx_imul hX (gx_dt dt_mi_x_O_spotOf 6 rfl) ?_
  refine gx_iload_n hX (gx_dt dt_mi_x_O_spotOf 7 rfl) rfl ?_
  refine gx_iadd hX (gx_dt dt_mi_x_O_spotOf 8 rfl) ?_
  obtain rfl := Option.some.inj h
  exact gx_iret hX (gx_dt dt_mi_x_O_spotOf 9 rfl) rfl hres hwr
-- java/lang/Integer.bitCount(I)I
def x_I_bitCount (a0 : Int32) (w : gx_Wd) : Option (Int32 × gx_Wd) :=
  (some (a0 - (((a0.toUInt32 >>> (Int32.toUInt32 1 &&& Int32.toUInt32 31)).toInt32) &&& 1431655765))).bind fun v1 =>
  (some ((v1 &&& 858993459) + (((v1.toUInt32 >>> (Int32.toUInt32 2 &&& Int32.toUInt32 31)).toInt32) &&& 858993459))).bind fun v2 =>
  (some ((v2 + ((v2.toUInt32 >>> (Int32.toUInt32 4 &&& Int32.toUInt32 31)).toInt32)) &&& 252645135)).bind fun v3 =>
  (some (v3 + ((v3.toUInt32 >>> (Int32.toUInt32 8 &&& Int32.toUInt32 31)).toInt32))).bind fun v4 =>
  (some (v4 + ((v4.toUInt32 >>> (Int32.toUInt32 16 &&& Int32.toUInt32 31)).toInt32))).bind fun v5 =>
  some (v5 &&& 63, w)
theorem k_x_I_bitCount {a0 : Int32} {w : gx_Wd} {R : Int32 × gx_Wd} (h : x_I_bitCount a0 w = some R) : gx_MT mi_x_I_bitCount [.inl a0] w (some (.inl R.1)) R.2 := by
  refine gx_met (by decide +kernel) (Nat.le_of_ble_eq_true rfl) (fun X hX hres hwr => ?_)
  show gx_G X mi_x_I_bitCount 0 [some (.inl a0)] [] w
  rw [x_I_bitCount] at h
  refine gx_iload_n hX (gx_dt dt_mi_x_I_bitCount 0 rfl) rfl ?_
  refine gx_iload_n hX (gx_dt dt_mi_x_I_bitCount 1 rfl) rfl ?_
  refine gx_iconst hX (v := 1) (gx_dt dt_mi_x_I_bitCount 2 rfl) (by decide) ?_
  refine gx_iushr hX (gx_dt dt_mi_x_I_bitCount 3 rfl) ?_
  refine gx_ldcw hX (v := 1431655765) (gx_dt dt_mi_x_I_bitCount 4 rfl) wr_constant_I_265 ?_
  refine gx_iand hX (gx_dt dt_mi_x_I_bitCount 5 rfl) ?_
  refine gx_isub hX (gx_dt dt_mi_x_I_bitCount 6 rfl) ?_
  obtain ⟨v1, e_v1, h⟩ := gx_bd h
  refine gx_top e_v1 ?_
  refine gx_istore_n hX (ls' := [some (.inl v1)]) (gx_dt dt_mi_x_I_bitCount 7 rfl) (by decide) rfl ?_
  refine gx_iload_n hX (gx_dt dt_mi_x_I_bitCount 8 rfl) rfl ?_
  refine gx_ldcw hX (v := 858993459) (gx_dt dt_mi_x_I_bitCount 9 rfl) wr_constant_I_266 ?_
  refine gx_iand hX (gx_dt dt_mi_x_I_bitCount 10 rfl) ?_
  refine gx_iload_n hX (gx_dt dt_mi_x_I_bitCount 11 rfl) rfl ?_
  refine gx_iconst hX (v := 2) (gx_dt dt_mi_x_I_bitCount 12 rfl) (by decide) ?_
  refine gx_iushr hX (gx_dt dt_mi_x_I_bitCount 13 rfl) ?_
  refine gx_ldcw hX (v := 858993459) (gx_dt dt_mi_x_I_bitCount 14 rfl) wr_constant_I_266 ?_
  refine gx_iand hX (gx_dt dt_mi_x_I_bitCount 15 rfl) ?_
  refine gx_iadd hX (gx_dt dt_mi_x_I_bitCount 16 rfl) ?_
  obtain ⟨v2, e_v2, h⟩ := gx_bd h
  refine gx_top e_v2 ?_
  refine gx_istore_n hX (ls' := [some (.inl v2)]) (gx_dt dt_mi_x_I_bitCount 17 rfl) (by decide) rfl ?_
  refine gx_iload_n hX (gx_dt dt_mi_x_I_bitCount 18 rfl) rfl ?_
  refine gx_iload_n hX (gx_dt dt_mi_x_I_bitCount 19 rfl) rfl ?_
  refine gx_iconst hX (v := 4) (gx_dt dt_mi_x_I_bitCount 20 rfl) (by decide) ?_
  refine gx_iushr hX (gx_dt dt_mi_x_I_bitCount 21 rfl) ?_
  refine gx_iadd hX (gx_dt dt_mi_x_I_bitCount 22 rfl) ?_
  refine gx_ldcw hX (v := 252645135) (gx_dt dt_mi_x_I_bitCount 23 rfl) wr_constant_I_267 ?_
  refine gx_iand hX (gx_dt dt_mi_x_I_bitCount 24 rfl) ?_
  obtain ⟨v3, e_v3, h⟩ := gx_bd h
  refine gx_top e_v3 ?_
  refine gx_istore_n hX (ls' := [some (.inl v3)]) (gx_dt dt_mi_x_I_bitCount 25 rfl) (by decide) rfl ?_
  refine gx_iload_n hX (gx_dt dt_mi_x_I_bitCount 26 rfl) rfl ?_
  refine gx_iload_n hX (gx_dt dt_mi_x_I_bitCount 27 rfl) rfl ?_
  refine gx_bipush hX (v := 8) (gx_dt dt_mi_x_I_bitCount 28 rfl) (by decide) ?_
  refine gx_iushr hX (gx_dt dt_mi_x_I_bitCount 29 rfl) ?_
  refine gx_iadd hX (gx_dt dt_mi_x_I_bitCount 30 rfl) ?_
  obtain ⟨v4, e_v4, h⟩ := gx_bd h
  refine gx_top e_v4 ?_
  refine gx_istore_n hX (ls' := [some (.inl v4)]) (gx_dt dt_mi_x_I_bitCount 31 rfl) (by decide) rfl ?_
  refine gx_iload_n hX (gx_dt dt_mi_x_I_bitCount 32 rfl) rfl ?_
  refine gx_iload_n hX (gx_dt dt_mi_x_I_bitCount 33 rfl) rfl ?_
  refine gx_bipush hX (v := 16) (gx_dt dt_mi_x_I_bitCount 34 rfl) (by decide) ?_
  refine gx_iushr hX (gx_dt dt_mi_x_I_bitCount 35 rfl) ?_
  refine gx_iadd hX (gx_dt dt_mi_x_I_bitCount 36 rfl) ?_
  obtain ⟨v5, e_v5, h⟩ := gx_bd h
  refine gx_top e_v5 ?_
  refine gx_istore_n hX (ls' := [some (.inl v5)]) (gx_dt dt_mi_x_I_bitCount 37 rfl) (by decide) rfl ?_
  refine gx_iload_n hX (gx_dt dt_mi_x_I_bitCount 38 rfl) rfl ?_
  refine gx_bipush hX (v := 63) (gx_dt dt_mi_x_I_bitCount 39 rfl) (by decide) ?_
  refine gx_iand hX (gx_dt dt_mi_x_I_bitCount 40 rfl) ?_
  obtain rfl := Option.some.inj h
  exact gx_iret hX (gx_dt dt_mi_x_I_bitCount 41 rfl) rfl hres hwr
-- EachBearsPillar$Orders.mostOf(II)I
def x_O_mostOf (a1 : Int32) (a2 : Int32) (w : gx_Wd) : Option (Int32 × gx_Wd) :=
  (x_E_cell 36 ((a1 * 7) + a2) w).bind fun r1 =>
  some (r1.1, r1.2)
theorem k_x_O_mostOf {a1 : Int32} {a2 : Int32} {w : gx_Wd} {R : Int32 × gx_Wd} (h : x_O_mostOf a1 a2 w = some R) : gx_MT mi_x_O_mostOf [.inr 35, .inl a1, .inl a2] w (some (.inl R.1)) R.2 := by
  refine gx_met (by decide +kernel) (Nat.le_of_ble_eq_true rfl) (fun X hX hres hwr => ?_)
  show gx_G X mi_x_O_mostOf 0 [some (.inr 35), some (.inl a1), some (.inl a2)] [] w
  rw [x_O_mostOf] at h
  refine gx_aload_n hX (gx_dt dt_mi_x_O_mostOf 0 rfl) rfl ?_
  refine gx_getr hX fl_O_15 sh_x_35 rfl (gx_dt dt_mi_x_O_mostOf 1 rfl) ?_
  refine gx_iload_n hX (gx_dt dt_mi_x_O_mostOf 2 rfl) rfl ?_
  refine gx_bipush hX (v := 7) (gx_dt dt_mi_x_O_mostOf 3 rfl) (by decide) ?_
  refine gx_imul hX (gx_dt dt_mi_x_O_mostOf 4 rfl) ?_
  refine gx_iload_n hX (gx_dt dt_mi_x_O_mostOf 5 rfl) rfl ?_
  refine gx_iadd hX (gx_dt dt_mi_x_O_mostOf 6 rfl) ?_
  obtain ⟨r1, e_r1, h⟩ := gx_bd h
  refine gx_callSi hX (gx_dt dt_mi_x_O_mostOf 7 rfl) ln_O_56_x_E_cell mo_x_E_cell ms_x_E_cell (gx_rmb rfl) rfl (k_x_E_cell e_r1) rfl rfl (Nat.le_of_ble_eq_true rfl) ?_
  obtain rfl := Option.some.inj h
  exact gx_iret hX (gx_dt dt_mi_x_O_mostOf 8 rfl) rfl hres hwr
-- EachBearsPillar$Orders.bearsLeft(IIII)Z
def x_O_bearsLeft_37 (b4 : Int32) (b5 : Int32) (s0 : Int32) (w : gx_Wd) : Option (Int32 × gx_Wd) :=
  if b5 < 0 then
    some (1, w)
  else
  if b5 < s0 + b4 then
    some (0, w)
  else
  some (1, w)
def x_O_bearsLeft (a1 : Int32) (a2 : Int32) (a3 : Int32) (a4 : Int32) (w : gx_Wd) : Option (Int32 × gx_Wd) :=
  (x_O_mostOf a2 a1 w).bind fun r1 =>
  (x_E_cell 25 (a1 - 1) r1.2).bind fun r2 =>
  if a3 = 1 then
    x_O_bearsLeft_37 a4 r1.1 r2.1 r2.2
  else
    x_O_bearsLeft_37 a4 r1.1 (2 * r2.1) r2.2
theorem t_x_O_bearsLeft_37 {X : gx_X} (hX : gx_Ok X mi_x_O_bearsLeft) {R : Int32 × gx_Wd} (hres : gx_res X = some (.inl R.1)) (hwr : gx_wr X = R.2) (b4 : Int32) (b5 : Int32) (s0 : Int32) (w : gx_Wd) (h : x_O_bearsLeft_37 b4 b5 s0 w = some R) : gx_G X mi_x_O_bearsLeft 37 [none, none, none, none, some (.inl b4), some (.inl b5)] [.inl s0] w := by
  rw [x_O_bearsLeft_37] at h
  refine gx_istore hX (ls' := [none, none, none, none, some (.inl b4), some (.inl b5), none, some (.inl s0)]) (gx_dt dt_mi_x_O_bearsLeft 21 rfl) (by decide) rfl ?_
  refine gx_iload hX (gx_dt dt_mi_x_O_bearsLeft 22 rfl) rfl ?_
  refine gx_if_lt hX (tgt := 54) (gx_dt dt_mi_x_O_bearsLeft 23 rfl) (by decide) (fun c1 => ?_) (fun c1 => ?_)
  · have h := gx_ifp c1 h
    refine gx_iconst hX (v := 1) (gx_dt dt_mi_x_O_bearsLeft 29 rfl) (by decide) ?_
    refine gx_goto hX (tgt := 59) (gx_dt dt_mi_x_O_bearsLeft 30 rfl) (by decide) ?_
    obtain rfl := Option.some.inj h
    exact gx_zret hX (gx_dt dt_mi_x_O_bearsLeft 32 rfl) rfl rfl hres hwr
  · have h := gx_ifn c1 h
    refine gx_iload hX (gx_dt dt_mi_x_O_bearsLeft 24 rfl) rfl ?_
    refine gx_iload hX (gx_dt dt_mi_x_O_bearsLeft 25 rfl) rfl ?_
    refine gx_iadd hX (gx_dt dt_mi_x_O_bearsLeft 26 rfl) ?_
    refine gx_iload hX (gx_dt dt_mi_x_O_bearsLeft 27 rfl) rfl ?_
    refine gx_ic_gt hX (tgt := 58) (gx_dt dt_mi_x_O_bearsLeft 28 rfl) (by decide) (fun c2 => ?_) (fun c2 => ?_)
    · have h := gx_ifp c2 h
      refine gx_iconst hX (v := 0) (gx_dt dt_mi_x_O_bearsLeft 31 rfl) (by decide) ?_
      obtain rfl := Option.some.inj h
      exact gx_zret hX (gx_dt dt_mi_x_O_bearsLeft 32 rfl) rfl rfl hres hwr
    · have h := gx_ifn c2 h
      refine gx_iconst hX (v := 1) (gx_dt dt_mi_x_O_bearsLeft 29 rfl) (by decide) ?_
      refine gx_goto hX (tgt := 59) (gx_dt dt_mi_x_O_bearsLeft 30 rfl) (by decide) ?_
      obtain rfl := Option.some.inj h
      exact gx_zret hX (gx_dt dt_mi_x_O_bearsLeft 32 rfl) rfl rfl hres hwr
theorem k_x_O_bearsLeft {a1 : Int32} {a2 : Int32} {a3 : Int32} {a4 : Int32} {w : gx_Wd} {R : Int32 × gx_Wd} (h : x_O_bearsLeft a1 a2 a3 a4 w = some R) : gx_MT mi_x_O_bearsLeft [.inr 35, .inl a1, .inl a2, .inl a3, .inl a4] w (some (.inl R.1)) R.2 := by
  refine gx_met (by decide +kernel) (Nat.le_of_ble_eq_true rfl) (fun X hX hres hwr => ?_)
  show gx_G X mi_x_O_bearsLeft 0 [some (.inr 35), some (.inl a1), some (.inl a2), some (.inl a3), some (.inl a4)] [] w
  rw [x_O_bearsLeft] at h
  refine gx_aload_n hX (gx_dt dt_mi_x_O_bearsLeft 0 rfl) rfl ?_
  refine gx_iload_n hX (gx_dt dt_mi_x_O_bearsLeft 1 rfl) rfl ?_
  refine gx_iload_n hX (gx_dt dt_mi_x_O_bearsLeft 2 rfl) rfl ?_
  obtain ⟨r1, e_r1, h⟩ := gx_bd h
  refine gx_callVi hX (gx_dt dt_mi_x_O_bearsLeft 3 rfl) ln_O_77_x_O_mostOf mo_x_O_mostOf mv_x_O_mostOf (gx_rmb rfl) sh_x_35 ⟨_, _, rfl⟩ rfl (k_x_O_mostOf e_r1) rfl rfl (Nat.le_of_ble_eq_true rfl) ?_
  refine gx_istore hX (ls' := [some (.inr 35), some (.inl a1), some (.inl a2), some (.inl a3), some (.inl a4), some (.inl (r1.1))]) (gx_dt dt_mi_x_O_bearsLeft 4 rfl) (by decide) rfl ?_
  refine gx_aload_n hX (gx_dt dt_mi_x_O_bearsLeft 5 rfl) rfl ?_
  refine gx_getr hX fl_O_9 sh_x_35 rfl (gx_dt dt_mi_x_O_bearsLeft 6 rfl) ?_
  refine gx_getr hX fl_O_74 sh_x_22 rfl (gx_dt dt_mi_x_O_bearsLeft 7 rfl) ?_
  refine gx_iload_n hX (gx_dt dt_mi_x_O_bearsLeft 8 rfl) rfl ?_
  refine gx_iconst hX (v := 1) (gx_dt dt_mi_x_O_bearsLeft 9 rfl) (by decide) ?_
  refine gx_isub hX (gx_dt dt_mi_x_O_bearsLeft 10 rfl) ?_
  obtain ⟨r2, e_r2, h⟩ := gx_bd h
  refine gx_callSi hX (gx_dt dt_mi_x_O_bearsLeft 11 rfl) ln_O_56_x_E_cell mo_x_E_cell ms_x_E_cell (gx_rmb rfl) rfl (k_x_E_cell e_r2) rfl rfl (Nat.le_of_ble_eq_true rfl) ?_
  refine gx_istore hX (ls' := [some (.inr 35), some (.inl a1), some (.inl a2), some (.inl a3), some (.inl a4), some (.inl (r1.1)), some (.inl (r2.1))]) (gx_dt dt_mi_x_O_bearsLeft 12 rfl) (by decide) rfl ?_
  refine gx_iload_n hX (gx_dt dt_mi_x_O_bearsLeft 13 rfl) rfl ?_
  refine gx_iconst hX (v := 1) (gx_dt dt_mi_x_O_bearsLeft 14 rfl) (by decide) ?_
  refine gx_ic_ne hX (tgt := 33) (gx_dt dt_mi_x_O_bearsLeft 15 rfl) (by decide) (fun c3 => ?_) (fun c3 => ?_)
  · have h := gx_ifn c3 h
    refine gx_iconst hX (v := 2) (gx_dt dt_mi_x_O_bearsLeft 18 rfl) (by decide) ?_
    refine gx_iload hX (gx_dt dt_mi_x_O_bearsLeft 19 rfl) rfl ?_
    refine gx_imul hX (gx_dt dt_mi_x_O_bearsLeft 20 rfl) ?_
    exact gx_weak (gx_leN (gx_leN (gx_leN (gx_leN (gx_leS (gx_leS gx_le0)))))) (t_x_O_bearsLeft_37 hX hres hwr _ _ _ _ h)
  · have h := gx_ifp c3 h
    refine gx_iload hX (gx_dt dt_mi_x_O_bearsLeft 16 rfl) rfl ?_
    refine gx_goto hX (tgt := 37) (gx_dt dt_mi_x_O_bearsLeft 17 rfl) (by decide) ?_
    exact gx_weak (gx_leN (gx_leN (gx_leN (gx_leN (gx_leS (gx_leS gx_le0)))))) (t_x_O_bearsLeft_37 hX hres hwr _ _ _ _ h)
