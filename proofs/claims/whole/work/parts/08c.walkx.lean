-- EachBearsPillar$Mind.canBear(II)Z
def x_M_canBear (a1 : Int32) (a2 : Int32) (w : gx_Wd) : Option (Int32 × gx_Wd) :=
  (x_E_cell 2 a1 w).bind fun r1 =>
  if r1.1 = 3 then
    some (0, r1.2)
  else
  if a2 < r1.2 22 2 then
    some (0, r1.2)
  else
  some (1, r1.2)
theorem k_x_M_canBear {a1 : Int32} {a2 : Int32} {w : gx_Wd} {R : Int32 × gx_Wd} (h : x_M_canBear a1 a2 w = some R) : gx_MT mi_x_M_canBear [.inr 22, .inl a1, .inl a2] w (some (.inl R.1)) R.2 := by
  refine gx_met (by decide +kernel) (Nat.le_of_ble_eq_true rfl) (fun X hX hres hwr => ?_)
  show gx_G X mi_x_M_canBear 0 [some (.inr 22), some (.inl a1), some (.inl a2)] [] w
  rw [x_M_canBear] at h
  refine gx_aload_n hX (gx_dt dt_mi_x_M_canBear 0 rfl) rfl ?_
  refine gx_getr hX fl_M_9 sh_x_22 rfl (gx_dt dt_mi_x_M_canBear 1 rfl) ?_
  refine gx_getr hX fl_M_70 sh_x_1 rfl (gx_dt dt_mi_x_M_canBear 2 rfl) ?_
  refine gx_iload_n hX (gx_dt dt_mi_x_M_canBear 3 rfl) rfl ?_
  obtain ⟨r1, e_r1, h⟩ := gx_bd h
  refine gx_callSi hX (gx_dt dt_mi_x_M_canBear 4 rfl) ln_M_60_x_E_cell mo_x_E_cell ms_x_E_cell (gx_rmb rfl) rfl (k_x_E_cell e_r1) rfl rfl (Nat.le_of_ble_eq_true rfl) ?_
  refine gx_iconst hX (v := 3) (gx_dt dt_mi_x_M_canBear 5 rfl) (by decide) ?_
  refine gx_ic_eq hX (tgt := 27) (gx_dt dt_mi_x_M_canBear 6 rfl) (by decide) (fun c2 => ?_) (fun c2 => ?_)
  · have h := gx_ifp c2 h
    refine gx_iconst hX (v := 0) (gx_dt dt_mi_x_M_canBear 13 rfl) (by decide) ?_
    obtain rfl := Option.some.inj h
    exact gx_zret hX (gx_dt dt_mi_x_M_canBear 14 rfl) rfl rfl hres hwr
  · have h := gx_ifn c2 h
    refine gx_iload_n hX (gx_dt dt_mi_x_M_canBear 7 rfl) rfl ?_
    refine gx_aload_n hX (gx_dt dt_mi_x_M_canBear 8 rfl) rfl ?_
    refine gx_geti hX fl_M_19 sh_x_22 rfl (gx_dt dt_mi_x_M_canBear 9 rfl) ?_
    refine gx_ic_lt hX (tgt := 27) (gx_dt dt_mi_x_M_canBear 10 rfl) (by decide) (fun c3 => ?_) (fun c3 => ?_)
    · have h := gx_ifp c3 h
      refine gx_iconst hX (v := 0) (gx_dt dt_mi_x_M_canBear 13 rfl) (by decide) ?_
      obtain rfl := Option.some.inj h
      exact gx_zret hX (gx_dt dt_mi_x_M_canBear 14 rfl) rfl rfl hres hwr
    · have h := gx_ifn c3 h
      refine gx_iconst hX (v := 1) (gx_dt dt_mi_x_M_canBear 11 rfl) (by decide) ?_
      refine gx_goto hX (tgt := 28) (gx_dt dt_mi_x_M_canBear 12 rfl) (by decide) ?_
      obtain rfl := Option.some.inj h
      exact gx_zret hX (gx_dt dt_mi_x_M_canBear 14 rfl) rfl rfl hres hwr
-- EachBearsPillar$Mind.mightOf(II)I
def x_M_mightOf_27 (b1 : Int32) (b3 : Int32) (s0 : Int32) (w : gx_Wd) : Option (Int32 × gx_Wd) :=
  (x_E_cell 2 b1 w).bind fun r1 =>
  if r1.1 = 1 then
    some (s0 / 2, r1.2)
  else
  if r1.1 = 2 then
    some (2 * s0, r1.2)
  else
  if r1.1 = 4 then
    some ((if 0 < s0 - 3 then s0 - 3 else 0), r1.2)
  else
  if r1.1 = 5 then
    some (2 * b3, r1.2)
  else
  some (s0, r1.2)
def x_M_mightOf (a1 : Int32) (a2 : Int32) (w : gx_Wd) : Option (Int32 × gx_Wd) :=
  (x_E_cell 3 a1 w).bind fun r1 =>
  if a2 ≤ r1.2 22 2 then
    x_M_mightOf_27 a1 r1.1 r1.1 r1.2
  else
  x_M_mightOf_27 a1 r1.1 (r1.1 / 2) r1.2
theorem t_x_M_mightOf_27 {X : gx_X} (hX : gx_Ok X mi_x_M_mightOf) {R : Int32 × gx_Wd} (hres : gx_res X = some (.inl R.1)) (hwr : gx_wr X = R.2) (b1 : Int32) (b3 : Int32) (s0 : Int32) (w : gx_Wd) (h : x_M_mightOf_27 b1 b3 s0 w = some R) : gx_G X mi_x_M_mightOf 27 [some (.inr 22), some (.inl b1), none, some (.inl b3)] [.inl s0] w := by
  rw [x_M_mightOf_27] at h
  refine gx_istore hX (ls' := [some (.inr 22), some (.inl b1), none, some (.inl b3), some (.inl s0)]) (gx_dt dt_mi_x_M_mightOf 15 rfl) (by decide) rfl ?_
  refine gx_aload_n hX (gx_dt dt_mi_x_M_mightOf 16 rfl) rfl ?_
  refine gx_getr hX fl_M_9 sh_x_22 rfl (gx_dt dt_mi_x_M_mightOf 17 rfl) ?_
  refine gx_getr hX fl_M_70 sh_x_1 rfl (gx_dt dt_mi_x_M_mightOf 18 rfl) ?_
  refine gx_iload_n hX (gx_dt dt_mi_x_M_mightOf 19 rfl) rfl ?_
  obtain ⟨r1, e_r1, h⟩ := gx_bd h
  refine gx_callSi hX (gx_dt dt_mi_x_M_mightOf 20 rfl) ln_M_60_x_E_cell mo_x_E_cell ms_x_E_cell (gx_rmb rfl) rfl (k_x_E_cell e_r1) rfl rfl (Nat.le_of_ble_eq_true rfl) ?_
  by_cases c2 : r1.1 = 1
  · have h := gx_ifp c2 h
    refine gx_tabIn hX (off := 36) (tgt := 76) (gx_dt dt_mi_x_M_mightOf 21 rfl) (by rw [c2]; decide) (by rw [c2]; decide) (by rw [c2]; rfl) (by decide) ?_
    refine gx_iload hX (gx_dt dt_mi_x_M_mightOf 22 rfl) rfl ?_
    refine gx_iconst hX (v := 2) (gx_dt dt_mi_x_M_mightOf 23 rfl) (by decide) ?_
    refine gx_idiv hX (gx_dt dt_mi_x_M_mightOf 24 rfl) (by decide) ?_
    obtain rfl := Option.some.inj h
    exact gx_iret hX (gx_dt dt_mi_x_M_mightOf 25 rfl) rfl hres hwr
  have h := gx_ifn c2 h
  by_cases c3 : r1.1 = 2
  · have h := gx_ifp c3 h
    refine gx_tabIn hX (off := 41) (tgt := 81) (gx_dt dt_mi_x_M_mightOf 21 rfl) (by rw [c3]; decide) (by rw [c3]; decide) (by rw [c3]; rfl) (by decide) ?_
    refine gx_iconst hX (v := 2) (gx_dt dt_mi_x_M_mightOf 26 rfl) (by decide) ?_
    refine gx_iload hX (gx_dt dt_mi_x_M_mightOf 27 rfl) rfl ?_
    refine gx_imul hX (gx_dt dt_mi_x_M_mightOf 28 rfl) ?_
    obtain rfl := Option.some.inj h
    exact gx_iret hX (gx_dt dt_mi_x_M_mightOf 29 rfl) rfl hres hwr
  have h := gx_ifn c3 h
  by_cases c4 : r1.1 = 4
  · have h := gx_ifp c4 h
    refine gx_tabIn hX (off := 46) (tgt := 86) (gx_dt dt_mi_x_M_mightOf 21 rfl) (by rw [c4]; decide) (by rw [c4]; decide) (by rw [c4]; rfl) (by decide) ?_
    refine gx_iconst hX (v := 0) (gx_dt dt_mi_x_M_mightOf 30 rfl) (by decide) ?_
    refine gx_iload hX (gx_dt dt_mi_x_M_mightOf 31 rfl) rfl ?_
    refine gx_iconst hX (v := 3) (gx_dt dt_mi_x_M_mightOf 32 rfl) (by decide) ?_
    refine gx_isub hX (gx_dt dt_mi_x_M_mightOf 33 rfl) ?_
    refine gx_max hX (gx_dt dt_mi_x_M_mightOf 34 rfl) wr_methodLink_M_76 w_max_static w_math_init w_max_code (Nat.le_of_ble_eq_true rfl) (Nat.le_of_ble_eq_true rfl) ?_
    obtain rfl := Option.some.inj h
    exact gx_iret hX (gx_dt dt_mi_x_M_mightOf 35 rfl) rfl hres hwr
  have h := gx_ifn c4 h
  by_cases c5 : r1.1 = 5
  · have h := gx_ifp c5 h
    refine gx_tabIn hX (off := 55) (tgt := 95) (gx_dt dt_mi_x_M_mightOf 21 rfl) (by rw [c5]; decide) (by rw [c5]; decide) (by rw [c5]; rfl) (by decide) ?_
    refine gx_iconst hX (v := 2) (gx_dt dt_mi_x_M_mightOf 36 rfl) (by decide) ?_
    refine gx_iload_n hX (gx_dt dt_mi_x_M_mightOf 37 rfl) rfl ?_
    refine gx_imul hX (gx_dt dt_mi_x_M_mightOf 38 rfl) ?_
    obtain rfl := Option.some.inj h
    exact gx_iret hX (gx_dt dt_mi_x_M_mightOf 39 rfl) rfl hres hwr
  have h := gx_ifn c5 h
  refine gx_tabD hX (tgt := 99) (gx_dt dt_mi_x_M_mightOf 21 rfl) (gx_tdC (Or.inr (lv_neT c2 rfl)) (gx_tdC (Or.inr (lv_neT c3 rfl)) (gx_tdC (Or.inl rfl) (gx_tdC (Or.inr (lv_neT c4 rfl)) (gx_tdC (Or.inr (lv_neT c5 rfl)) gx_td0))))) (by decide) (by decide) ?_
  refine gx_iload hX (gx_dt dt_mi_x_M_mightOf 40 rfl) rfl ?_
  obtain rfl := Option.some.inj h
  exact gx_iret hX (gx_dt dt_mi_x_M_mightOf 41 rfl) rfl hres hwr
theorem k_x_M_mightOf {a1 : Int32} {a2 : Int32} {w : gx_Wd} {R : Int32 × gx_Wd} (h : x_M_mightOf a1 a2 w = some R) : gx_MT mi_x_M_mightOf [.inr 22, .inl a1, .inl a2] w (some (.inl R.1)) R.2 := by
  refine gx_met (by decide +kernel) (Nat.le_of_ble_eq_true rfl) (fun X hX hres hwr => ?_)
  show gx_G X mi_x_M_mightOf 0 [some (.inr 22), some (.inl a1), some (.inl a2)] [] w
  rw [x_M_mightOf] at h
  refine gx_aload_n hX (gx_dt dt_mi_x_M_mightOf 0 rfl) rfl ?_
  refine gx_getr hX fl_M_9 sh_x_22 rfl (gx_dt dt_mi_x_M_mightOf 1 rfl) ?_
  refine gx_getr hX fl_M_73 sh_x_1 rfl (gx_dt dt_mi_x_M_mightOf 2 rfl) ?_
  refine gx_iload_n hX (gx_dt dt_mi_x_M_mightOf 3 rfl) rfl ?_
  obtain ⟨r1, e_r1, h⟩ := gx_bd h
  refine gx_callSi hX (gx_dt dt_mi_x_M_mightOf 4 rfl) ln_M_60_x_E_cell mo_x_E_cell ms_x_E_cell (gx_rmb rfl) rfl (k_x_E_cell e_r1) rfl rfl (Nat.le_of_ble_eq_true rfl) ?_
  refine gx_istore_n hX (ls' := [some (.inr 22), some (.inl a1), some (.inl a2), some (.inl (r1.1))]) (gx_dt dt_mi_x_M_mightOf 5 rfl) (by decide) rfl ?_
  refine gx_iload_n hX (gx_dt dt_mi_x_M_mightOf 6 rfl) rfl ?_
  refine gx_aload_n hX (gx_dt dt_mi_x_M_mightOf 7 rfl) rfl ?_
  refine gx_geti hX fl_M_19 sh_x_22 rfl (gx_dt dt_mi_x_M_mightOf 8 rfl) ?_
  refine gx_ic_le hX (tgt := 26) (gx_dt dt_mi_x_M_mightOf 9 rfl) (by decide) (fun c2 => ?_) (fun c2 => ?_)
  · have h := gx_ifp c2 h
    refine gx_iload_n hX (gx_dt dt_mi_x_M_mightOf 14 rfl) rfl ?_
    exact gx_weak (gx_leS (gx_leS (gx_leN (gx_leS gx_le0)))) (t_x_M_mightOf_27 hX hres hwr _ _ _ _ h)
  · have h := gx_ifn c2 h
    refine gx_iload_n hX (gx_dt dt_mi_x_M_mightOf 10 rfl) rfl ?_
    refine gx_iconst hX (v := 2) (gx_dt dt_mi_x_M_mightOf 11 rfl) (by decide) ?_
    refine gx_idiv hX (gx_dt dt_mi_x_M_mightOf 12 rfl) (by decide) ?_
    refine gx_goto hX (tgt := 27) (gx_dt dt_mi_x_M_mightOf 13 rfl) (by decide) ?_
    exact gx_weak (gx_leS (gx_leS (gx_leN (gx_leS gx_le0)))) (t_x_M_mightOf_27 hX hres hwr _ _ _ _ h)
-- EachBearsPillar.bearer(II)I
def x_E_bearer (a1 : Int32) (a2 : Int32) (w : gx_Wd) : Option (Int32 × gx_Wd) :=
  (x_R_hasBearer_1 a1 w).bind fun r1 =>
  if r1.1 = 0 then
    (x_E_refuse (-1) r1.2).bind fun r24 =>
    some (r24.1, r24.2)
  else
    (x_M_asTold r1.2).bind fun r3 =>
    (x_M_topOf a1 a1 r3).bind fun r4 =>
    if a2 = 0 then
      (x_E_cell 2 a1 r4.2).bind fun r6 =>
      some (r6.1, r6.2)
    else
    if a2 = 1 then
      (x_E_cell 3 a1 r4.2).bind fun r8 =>
      some (r8.1, r8.2)
    else
    if a2 = 2 then
      (x_E_cell 4 a1 r4.2).bind fun r10 =>
      some (r10.1, r10.2)
    else
    if a2 = 3 then
      (x_E_cell 5 a1 r4.2).bind fun r12 =>
      some (r12.1, r12.2)
    else
    if a2 = 4 then
      some (r4.1, r4.2)
    else
    if a2 = 5 then
      (x_M_canBear a1 r4.1 r4.2).bind fun r15 =>
      if r15.1 = 0 then
        some (0, r15.2)
      else
      some (1, r15.2)
    else
    if a2 = 6 then
      (x_M_canBear a1 r4.1 r4.2).bind fun r18 =>
      if r18.1 = 0 then
        some (0, r18.2)
      else
      if r4.1 ≤ r18.2 1 2 then
        some (0, r18.2)
      else
      some (1, r18.2)
    else
    if a2 = 7 then
      (x_M_mightOf a1 r4.1 r4.2).bind fun r22 =>
      some (r22.1, r22.2)
    else
    (x_E_refuse (-2) r4.2).bind fun r23 =>
    some (r23.1, r23.2)
theorem k_x_E_bearer {a1 : Int32} {a2 : Int32} {w : gx_Wd} {R : Int32 × gx_Wd} (h : x_E_bearer a1 a2 w = some R) : gx_MT mi_x_E_bearer [.inr 0, .inl a1, .inl a2] w (some (.inl R.1)) R.2 := by
  refine gx_met (by decide +kernel) (Nat.le_of_ble_eq_true rfl) (fun X hX hres hwr => ?_)
  show gx_G X mi_x_E_bearer 0 [some (.inr 0), some (.inl a1), some (.inl a2)] [] w
  rw [x_E_bearer] at h
  refine gx_aload_n hX (gx_dt dt_mi_x_E_bearer 0 rfl) rfl ?_
  refine gx_getr hX fl_E_10 sh_x_0 rfl (gx_dt dt_mi_x_E_bearer 1 rfl) ?_
  refine gx_iload_n hX (gx_dt dt_mi_x_E_bearer 2 rfl) rfl ?_
  obtain ⟨r1, e_r1, h⟩ := gx_bd h
  refine gx_callVi hX (gx_dt dt_mi_x_E_bearer 3 rfl) ln_E_103_x_R_hasBearer_1 mo_x_R_hasBearer_1 mv_x_R_hasBearer_1 (gx_rmb rfl) sh_x_1 ⟨_, _, rfl⟩ rfl (k_x_R_hasBearer_1 e_r1) rfl rfl (Nat.le_of_ble_eq_true rfl) ?_
  refine gx_if_ne hX (tgt := 17) (gx_dt dt_mi_x_E_bearer 4 rfl) (by decide) (fun c2 => ?_) (fun c2 => ?_)
  · have h := gx_ifn c2 h
    refine gx_aload_n hX (gx_dt dt_mi_x_E_bearer 9 rfl) rfl ?_
    refine gx_getr hX fl_E_31 sh_x_0 rfl (gx_dt dt_mi_x_E_bearer 10 rfl) ?_
    obtain ⟨r3, e_r3, h⟩ := gx_bd h
    refine gx_callVv hX (gx_dt dt_mi_x_E_bearer 11 rfl) ln_E_115_x_M_asTold mo_x_M_asTold mv_x_M_asTold (gx_rmb rfl) sh_x_22 ⟨_, _, rfl⟩ rfl (k_x_M_asTold e_r3) rfl rfl (Nat.le_of_ble_eq_true rfl) ?_
    refine gx_aload_n hX (gx_dt dt_mi_x_E_bearer 12 rfl) rfl ?_
    refine gx_getr hX fl_E_31 sh_x_0 rfl (gx_dt dt_mi_x_E_bearer 13 rfl) ?_
    refine gx_iload_n hX (gx_dt dt_mi_x_E_bearer 14 rfl) rfl ?_
    refine gx_iload_n hX (gx_dt dt_mi_x_E_bearer 15 rfl) rfl ?_
    obtain ⟨r4, e_r4, h⟩ := gx_bd h
    refine gx_callVi hX (gx_dt dt_mi_x_E_bearer 16 rfl) ln_E_118_x_M_topOf mo_x_M_topOf mv_x_M_topOf (gx_rmb rfl) sh_x_22 ⟨_, _, rfl⟩ rfl (k_x_M_topOf e_r4) rfl rfl (Nat.le_of_ble_eq_true rfl) ?_
    refine gx_istore_n hX (ls' := [some (.inr 0), some (.inl a1), some (.inl a2), some (.inl (r4.1))]) (gx_dt dt_mi_x_E_bearer 17 rfl) (by decide) rfl ?_
    refine gx_iload_n hX (gx_dt dt_mi_x_E_bearer 18 rfl) rfl ?_
    by_cases c5 : a2 = 0
    · have h := gx_ifp c5 h
      refine gx_tabIn hX (off := 45) (tgt := 80) (gx_dt dt_mi_x_E_bearer 19 rfl) (by rw [c5]; decide) (by rw [c5]; decide) (by rw [c5]; rfl) (by decide) ?_
      refine gx_aload_n hX (gx_dt dt_mi_x_E_bearer 20 rfl) rfl ?_
      refine gx_getr hX fl_E_10 sh_x_0 rfl (gx_dt dt_mi_x_E_bearer 21 rfl) ?_
      refine gx_getr hX fl_E_122 sh_x_1 rfl (gx_dt dt_mi_x_E_bearer 22 rfl) ?_
      refine gx_iload_n hX (gx_dt dt_mi_x_E_bearer 23 rfl) rfl ?_
      obtain ⟨r6, e_r6, h⟩ := gx_bd h
      refine gx_callSi hX (gx_dt dt_mi_x_E_bearer 24 rfl) ln_E_125_x_E_cell mo_x_E_cell ms_x_E_cell (gx_rmb rfl) rfl (k_x_E_cell e_r6) rfl rfl (Nat.le_of_ble_eq_true rfl) ?_
      obtain rfl := Option.some.inj h
      exact gx_iret hX (gx_dt dt_mi_x_E_bearer 25 rfl) rfl hres hwr
    have h := gx_ifn c5 h
    by_cases c7 : a2 = 1
    · have h := gx_ifp c7 h
      refine gx_tabIn hX (off := 57) (tgt := 92) (gx_dt dt_mi_x_E_bearer 19 rfl) (by rw [c7]; decide) (by rw [c7]; decide) (by rw [c7]; rfl) (by decide) ?_
      refine gx_aload_n hX (gx_dt dt_mi_x_E_bearer 26 rfl) rfl ?_
      refine gx_getr hX fl_E_10 sh_x_0 rfl (gx_dt dt_mi_x_E_bearer 27 rfl) ?_
      refine gx_getr hX fl_E_129 sh_x_1 rfl (gx_dt dt_mi_x_E_bearer 28 rfl) ?_
      refine gx_iload_n hX (gx_dt dt_mi_x_E_bearer 29 rfl) rfl ?_
      obtain ⟨r8, e_r8, h⟩ := gx_bd h
      refine gx_callSi hX (gx_dt dt_mi_x_E_bearer 30 rfl) ln_E_125_x_E_cell mo_x_E_cell ms_x_E_cell (gx_rmb rfl) rfl (k_x_E_cell e_r8) rfl rfl (Nat.le_of_ble_eq_true rfl) ?_
      obtain rfl := Option.some.inj h
      exact gx_iret hX (gx_dt dt_mi_x_E_bearer 31 rfl) rfl hres hwr
    have h := gx_ifn c7 h
    by_cases c9 : a2 = 2
    · have h := gx_ifp c9 h
      refine gx_tabIn hX (off := 69) (tgt := 104) (gx_dt dt_mi_x_E_bearer 19 rfl) (by rw [c9]; decide) (by rw [c9]; decide) (by rw [c9]; rfl) (by decide) ?_
      refine gx_aload_n hX (gx_dt dt_mi_x_E_bearer 32 rfl) rfl ?_
      refine gx_getr hX fl_E_10 sh_x_0 rfl (gx_dt dt_mi_x_E_bearer 33 rfl) ?_
      refine gx_getr hX fl_E_132 sh_x_1 rfl (gx_dt dt_mi_x_E_bearer 34 rfl) ?_
      refine gx_iload_n hX (gx_dt dt_mi_x_E_bearer 35 rfl) rfl ?_
      obtain ⟨r10, e_r10, h⟩ := gx_bd h
      refine gx_callSi hX (gx_dt dt_mi_x_E_bearer 36 rfl) ln_E_125_x_E_cell mo_x_E_cell ms_x_E_cell (gx_rmb rfl) rfl (k_x_E_cell e_r10) rfl rfl (Nat.le_of_ble_eq_true rfl) ?_
      obtain rfl := Option.some.inj h
      exact gx_iret hX (gx_dt dt_mi_x_E_bearer 37 rfl) rfl hres hwr
    have h := gx_ifn c9 h
    by_cases c11 : a2 = 3
    · have h := gx_ifp c11 h
      refine gx_tabIn hX (off := 81) (tgt := 116) (gx_dt dt_mi_x_E_bearer 19 rfl) (by rw [c11]; decide) (by rw [c11]; decide) (by rw [c11]; rfl) (by decide) ?_
      refine gx_aload_n hX (gx_dt dt_mi_x_E_bearer 38 rfl) rfl ?_
      refine gx_getr hX fl_E_10 sh_x_0 rfl (gx_dt dt_mi_x_E_bearer 39 rfl) ?_
      refine gx_getr hX fl_E_106 sh_x_1 rfl (gx_dt dt_mi_x_E_bearer 40 rfl) ?_
      refine gx_iload_n hX (gx_dt dt_mi_x_E_bearer 41 rfl) rfl ?_
      obtain ⟨r12, e_r12, h⟩ := gx_bd h
      refine gx_callSi hX (gx_dt dt_mi_x_E_bearer 42 rfl) ln_E_125_x_E_cell mo_x_E_cell ms_x_E_cell (gx_rmb rfl) rfl (k_x_E_cell e_r12) rfl rfl (Nat.le_of_ble_eq_true rfl) ?_
      obtain rfl := Option.some.inj h
      exact gx_iret hX (gx_dt dt_mi_x_E_bearer 43 rfl) rfl hres hwr
    have h := gx_ifn c11 h
    by_cases c13 : a2 = 4
    · have h := gx_ifp c13 h
      refine gx_tabIn hX (off := 93) (tgt := 128) (gx_dt dt_mi_x_E_bearer 19 rfl) (by rw [c13]; decide) (by rw [c13]; decide) (by rw [c13]; rfl) (by decide) ?_
      refine gx_iload_n hX (gx_dt dt_mi_x_E_bearer 44 rfl) rfl ?_
      obtain rfl := Option.some.inj h
      exact gx_iret hX (gx_dt dt_mi_x_E_bearer 45 rfl) rfl hres hwr
    have h := gx_ifn c13 h
    by_cases c14 : a2 = 5
    · have h := gx_ifp c14 h
      refine gx_tabIn hX (off := 95) (tgt := 130) (gx_dt dt_mi_x_E_bearer 19 rfl) (by rw [c14]; decide) (by rw [c14]; decide) (by rw [c14]; rfl) (by decide) ?_
      refine gx_aload_n hX (gx_dt dt_mi_x_E_bearer 46 rfl) rfl ?_
      refine gx_getr hX fl_E_31 sh_x_0 rfl (gx_dt dt_mi_x_E_bearer 47 rfl) ?_
      refine gx_iload_n hX (gx_dt dt_mi_x_E_bearer 48 rfl) rfl ?_
      refine gx_iload_n hX (gx_dt dt_mi_x_E_bearer 49 rfl) rfl ?_
      obtain ⟨r15, e_r15, h⟩ := gx_bd h
      refine gx_callVi hX (gx_dt dt_mi_x_E_bearer 50 rfl) ln_E_135_x_M_canBear mo_x_M_canBear mv_x_M_canBear (gx_rmb rfl) sh_x_22 ⟨_, _, rfl⟩ rfl (k_x_M_canBear e_r15) rfl rfl (Nat.le_of_ble_eq_true rfl) ?_
      refine gx_if_eq hX (tgt := 146) (gx_dt dt_mi_x_E_bearer 51 rfl) (by decide) (fun c16 => ?_) (fun c16 => ?_)
      · have h := gx_ifp c16 h
        refine gx_iconst hX (v := 0) (gx_dt dt_mi_x_E_bearer 54 rfl) (by decide) ?_
        obtain rfl := Option.some.inj h
        exact gx_iret hX (gx_dt dt_mi_x_E_bearer 55 rfl) rfl hres hwr
      · have h := gx_ifn c16 h
        refine gx_iconst hX (v := 1) (gx_dt dt_mi_x_E_bearer 52 rfl) (by decide) ?_
        refine gx_goto hX (tgt := 147) (gx_dt dt_mi_x_E_bearer 53 rfl) (by decide) ?_
        obtain rfl := Option.some.inj h
        exact gx_iret hX (gx_dt dt_mi_x_E_bearer 55 rfl) rfl hres hwr
    have h := gx_ifn c14 h
    by_cases c17 : a2 = 6
    · have h := gx_ifp c17 h
      refine gx_tabIn hX (off := 113) (tgt := 148) (gx_dt dt_mi_x_E_bearer 19 rfl) (by rw [c17]; decide) (by rw [c17]; decide) (by rw [c17]; rfl) (by decide) ?_
      refine gx_aload_n hX (gx_dt dt_mi_x_E_bearer 56 rfl) rfl ?_
      refine gx_getr hX fl_E_31 sh_x_0 rfl (gx_dt dt_mi_x_E_bearer 57 rfl) ?_
      refine gx_iload_n hX (gx_dt dt_mi_x_E_bearer 58 rfl) rfl ?_
      refine gx_iload_n hX (gx_dt dt_mi_x_E_bearer 59 rfl) rfl ?_
      obtain ⟨r18, e_r18, h⟩ := gx_bd h
      refine gx_callVi hX (gx_dt dt_mi_x_E_bearer 60 rfl) ln_E_135_x_M_canBear mo_x_M_canBear mv_x_M_canBear (gx_rmb rfl) sh_x_22 ⟨_, _, rfl⟩ rfl (k_x_M_canBear e_r18) rfl rfl (Nat.le_of_ble_eq_true rfl) ?_
      refine gx_if_eq hX (tgt := 175) (gx_dt dt_mi_x_E_bearer 61 rfl) (by decide) (fun c19 => ?_) (fun c19 => ?_)
      · have h := gx_ifp c19 h
        refine gx_iconst hX (v := 0) (gx_dt dt_mi_x_E_bearer 69 rfl) (by decide) ?_
        obtain rfl := Option.some.inj h
        exact gx_iret hX (gx_dt dt_mi_x_E_bearer 70 rfl) rfl hres hwr
      · have h := gx_ifn c19 h
        refine gx_iload_n hX (gx_dt dt_mi_x_E_bearer 62 rfl) rfl ?_
        refine gx_aload_n hX (gx_dt dt_mi_x_E_bearer 63 rfl) rfl ?_
        refine gx_getr hX fl_E_10 sh_x_0 rfl (gx_dt dt_mi_x_E_bearer 64 rfl) ?_
        refine gx_geti hX fl_E_100 sh_x_1 rfl (gx_dt dt_mi_x_E_bearer 65 rfl) ?_
        refine gx_ic_le hX (tgt := 175) (gx_dt dt_mi_x_E_bearer 66 rfl) (by decide) (fun c20 => ?_) (fun c20 => ?_)
        · have h := gx_ifp c20 h
          refine gx_iconst hX (v := 0) (gx_dt dt_mi_x_E_bearer 69 rfl) (by decide) ?_
          obtain rfl := Option.some.inj h
          exact gx_iret hX (gx_dt dt_mi_x_E_bearer 70 rfl) rfl hres hwr
        · have h := gx_ifn c20 h
          refine gx_iconst hX (v := 1) (gx_dt dt_mi_x_E_bearer 67 rfl) (by decide) ?_
          refine gx_goto hX (tgt := 176) (gx_dt dt_mi_x_E_bearer 68 rfl) (by decide) ?_
          obtain rfl := Option.some.inj h
          exact gx_iret hX (gx_dt dt_mi_x_E_bearer 70 rfl) rfl hres hwr
    have h := gx_ifn c17 h
    by_cases c21 : a2 = 7
    · have h := gx_ifp c21 h
      refine gx_tabIn hX (off := 142) (tgt := 177) (gx_dt dt_mi_x_E_bearer 19 rfl) (by rw [c21]; decide) (by rw [c21]; decide) (by rw [c21]; rfl) (by decide) ?_
      refine gx_aload_n hX (gx_dt dt_mi_x_E_bearer 71 rfl) rfl ?_
      refine gx_getr hX fl_E_31 sh_x_0 rfl (gx_dt dt_mi_x_E_bearer 72 rfl) ?_
      refine gx_iload_n hX (gx_dt dt_mi_x_E_bearer 73 rfl) rfl ?_
      refine gx_iload_n hX (gx_dt dt_mi_x_E_bearer 74 rfl) rfl ?_
      obtain ⟨r22, e_r22, h⟩ := gx_bd h
      refine gx_callVi hX (gx_dt dt_mi_x_E_bearer 75 rfl) ln_E_139_x_M_mightOf mo_x_M_mightOf mv_x_M_mightOf (gx_rmb rfl) sh_x_22 ⟨_, _, rfl⟩ rfl (k_x_M_mightOf e_r22) rfl rfl (Nat.le_of_ble_eq_true rfl) ?_
      obtain rfl := Option.some.inj h
      exact gx_iret hX (gx_dt dt_mi_x_E_bearer 76 rfl) rfl hres hwr
    have h := gx_ifn c21 h
    refine gx_tabD hX (tgt := 187) (gx_dt dt_mi_x_E_bearer 19 rfl) (gx_tdC (Or.inr (lv_neT c5 rfl)) (gx_tdC (Or.inr (lv_neT c7 rfl)) (gx_tdC (Or.inr (lv_neT c9 rfl)) (gx_tdC (Or.inr (lv_neT c11 rfl)) (gx_tdC (Or.inr (lv_neT c13 rfl)) (gx_tdC (Or.inr (lv_neT c14 rfl)) (gx_tdC (Or.inr (lv_neT c17 rfl)) (gx_tdC (Or.inr (lv_neT c21 rfl)) gx_td0)))))))) (by decide) (by decide) ?_
    refine gx_aload_n hX (gx_dt dt_mi_x_E_bearer 77 rfl) rfl ?_
    refine gx_bipush hX (v := (-2)) (gx_dt dt_mi_x_E_bearer 78 rfl) (by decide) ?_
    obtain ⟨r23, e_r23, h⟩ := gx_bd h
    refine gx_callVi hX (gx_dt dt_mi_x_E_bearer 79 rfl) ln_E_69_x_E_refuse mo_x_E_refuse mv_x_E_refuse (gx_rmb rfl) sh_x_0 ⟨_, _, rfl⟩ rfl (k_x_E_refuse e_r23) rfl rfl (Nat.le_of_ble_eq_true rfl) ?_
    obtain rfl := Option.some.inj h
    exact gx_iret hX (gx_dt dt_mi_x_E_bearer 80 rfl) rfl hres hwr
  · have h := gx_ifp c2 h
    refine gx_aload_n hX (gx_dt dt_mi_x_E_bearer 5 rfl) rfl ?_
    refine gx_iconst hX (v := (-1)) (gx_dt dt_mi_x_E_bearer 6 rfl) (by decide) ?_
    obtain ⟨r24, e_r24, h⟩ := gx_bd h
    refine gx_callVi hX (gx_dt dt_mi_x_E_bearer 7 rfl) ln_E_69_x_E_refuse mo_x_E_refuse mv_x_E_refuse (gx_rmb rfl) sh_x_0 ⟨_, _, rfl⟩ rfl (k_x_E_refuse e_r24) rfl rfl (Nat.le_of_ble_eq_true rfl) ?_
    obtain rfl := Option.some.inj h
    exact gx_iret hX (gx_dt dt_mi_x_E_bearer 8 rfl) rfl hres hwr
-- EachBearsPillar$Mind.stand()V
def x_M_stand_71 (K2 : Int32 → gx_Wd → Option (gx_Wd)) (b1 : Int32) (b2 : Int32) (b3 : Int32) (s0 : Int32) (s1 : Int32) (w : gx_Wd) : Option (gx_Wd) :=
  (x_E_setCell 26 s1 s0 w).bind fun r1 =>
  (x_M_mightOf b2 b3 r1.2).bind fun r2 =>
  (x_E_setCell 27 b1 r2.1 r2.2).bind fun r3 =>
  (some (b1 + 1)).bind fun v4 =>
  K2 v4 r3.2
def x_M_stand_54 (K2 : Int32 → gx_Wd → Option (gx_Wd)) (b1 : Int32) (b2 : Int32) (b3 : Int32) (s0 : Int32) (w : gx_Wd) : Option (gx_Wd) :=
  if s0 = 0 then
    x_M_stand_71 K2 b1 b2 b3 0 b1 w
  else
  x_M_stand_71 K2 b1 b2 b3 1 b1 w
def x_M_stand_2 : Nat → Int32 → gx_Wd → Option (gx_Wd)
  | 0, _, _ => none
  | n + 1, b1, w =>
  if w 1 0 ≤ b1 then
    some w
  else
  (x_E_cell 23 b1 w).bind fun r2 =>
  (x_M_topOf r2.1 b1 r2.2).bind fun r3 =>
  (x_M_canBear r2.1 r3.1 r3.2).bind fun r4 =>
  if r4.1 = 0 then
    x_M_stand_54 (x_M_stand_2 n) b1 r2.1 r3.1 0 r4.2
  else
  if ((r4.2 22 3) >>> (b1 &&& 31)) &&& 1 = 0 then
    x_M_stand_54 (x_M_stand_2 n) b1 r2.1 r3.1 1 r4.2
  else
    x_M_stand_54 (x_M_stand_2 n) b1 r2.1 r3.1 0 r4.2
def x_M_stand (w : gx_Wd) : Option (gx_Wd) :=
  x_M_stand_2 6000 0 w
theorem t_x_M_stand_71 {X : gx_X} (hX : gx_Ok X mi_x_M_stand) {R : gx_Wd} (hres : gx_res X = none) (hwr : gx_wr X = R) {K2 : Int32 → gx_Wd → Option (gx_Wd)} (hK2 : ∀ (b1 : Int32) (w : gx_Wd), K2 b1 w = some R → gx_G X mi_x_M_stand 2 [some (.inr 22), some (.inl b1)] [] w) (b1 : Int32) (b2 : Int32) (b3 : Int32) (s0 : Int32) (s1 : Int32) (w : gx_Wd) (h : x_M_stand_71 K2 b1 b2 b3 s0 s1 w = some R) : gx_G X mi_x_M_stand 71 [some (.inr 22), some (.inl b1), some (.inl b2), some (.inl b3)] [.inl s0, .inl s1, .inr 26] w := by
  rw [x_M_stand_71] at h
  obtain ⟨r1, e_r1, h⟩ := gx_bd h
  refine gx_callSi hX (gx_dt dt_mi_x_M_stand 41 rfl) ln_M_48_x_E_setCell mo_x_E_setCell ms_x_E_setCell (gx_rmb rfl) rfl (k_x_E_setCell e_r1) rfl rfl (Nat.le_of_ble_eq_true rfl) ?_
  refine gx_pop hX (gx_dt dt_mi_x_M_stand 42 rfl) ?_
  refine gx_aload_n hX (gx_dt dt_mi_x_M_stand 43 rfl) rfl ?_
  refine gx_getr hX fl_M_38 sh_x_22 rfl (gx_dt dt_mi_x_M_stand 44 rfl) ?_
  refine gx_iload_n hX (gx_dt dt_mi_x_M_stand 45 rfl) rfl ?_
  refine gx_aload_n hX (gx_dt dt_mi_x_M_stand 46 rfl) rfl ?_
  refine gx_iload_n hX (gx_dt dt_mi_x_M_stand 47 rfl) rfl ?_
  refine gx_iload_n hX (gx_dt dt_mi_x_M_stand 48 rfl) rfl ?_
  obtain ⟨r2, e_r2, h⟩ := gx_bd h
  refine gx_callVi hX (gx_dt dt_mi_x_M_stand 49 rfl) ln_M_92_x_M_mightOf mo_x_M_mightOf mv_x_M_mightOf (gx_rmb rfl) sh_x_22 ⟨_, _, rfl⟩ rfl (k_x_M_mightOf e_r2) rfl rfl (Nat.le_of_ble_eq_true rfl) ?_
  obtain ⟨r3, e_r3, h⟩ := gx_bd h
  refine gx_callSi hX (gx_dt dt_mi_x_M_stand 50 rfl) ln_M_48_x_E_setCell mo_x_E_setCell ms_x_E_setCell (gx_rmb rfl) rfl (k_x_E_setCell e_r3) rfl rfl (Nat.le_of_ble_eq_true rfl) ?_
  refine gx_pop hX (gx_dt dt_mi_x_M_stand 51 rfl) ?_
  obtain ⟨v4, e_v4, h⟩ := gx_bd h
  refine gx_iinc hX (v := v4) (ls' := [some (.inr 22), some (.inl v4), some (.inl b2), some (.inl b3)]) (gx_dt dt_mi_x_M_stand 52 rfl) rfl (gx_ii e_v4 (by decide)) (by decide) rfl ?_
  refine gx_goto hX (tgt := 2) (gx_dt dt_mi_x_M_stand 53 rfl) (by decide) ?_
  exact gx_weak (gx_leS (gx_leS gx_le0)) (hK2 _ _ h)
theorem t_x_M_stand_54 {X : gx_X} (hX : gx_Ok X mi_x_M_stand) {R : gx_Wd} (hres : gx_res X = none) (hwr : gx_wr X = R) {K2 : Int32 → gx_Wd → Option (gx_Wd)} (hK2 : ∀ (b1 : Int32) (w : gx_Wd), K2 b1 w = some R → gx_G X mi_x_M_stand 2 [some (.inr 22), some (.inl b1)] [] w) (b1 : Int32) (b2 : Int32) (b3 : Int32) (s0 : Int32) (w : gx_Wd) (h : x_M_stand_54 K2 b1 b2 b3 s0 w = some R) : gx_G X mi_x_M_stand 54 [some (.inr 22), some (.inl b1), some (.inl b2), some (.inl b3)] [.inl s0] w := by
  rw [x_M_stand_54] at h
  refine gx_istore hX (ls' := [some (.inr 22), some (.inl b1), some (.inl b2), some (.inl b3), some (.inl s0)]) (gx_dt dt_mi_x_M_stand 32 rfl) (by decide) rfl ?_
  refine gx_aload_n hX (gx_dt dt_mi_x_M_stand 33 rfl) rfl ?_
  refine gx_getr hX fl_M_35 sh_x_22 rfl (gx_dt dt_mi_x_M_stand 34 rfl) ?_
  refine gx_iload_n hX (gx_dt dt_mi_x_M_stand 35 rfl) rfl ?_
  refine gx_iload hX (gx_dt dt_mi_x_M_stand 36 rfl) rfl ?_
  refine gx_if_eq hX (tgt := 70) (gx_dt dt_mi_x_M_stand 37 rfl) (by decide) (fun c1 => ?_) (fun c1 => ?_)
  · have h := gx_ifp c1 h
    refine gx_iconst hX (v := 0) (gx_dt dt_mi_x_M_stand 40 rfl) (by decide) ?_
    exact gx_weak (gx_leS (gx_leS (gx_leS (gx_leS gx_le0)))) (t_x_M_stand_71 hX hres hwr hK2 _ _ _ _ _ _ h)
  · have h := gx_ifn c1 h
    refine gx_iconst hX (v := 1) (gx_dt dt_mi_x_M_stand 38 rfl) (by decide) ?_
    refine gx_goto hX (tgt := 71) (gx_dt dt_mi_x_M_stand 39 rfl) (by decide) ?_
    exact gx_weak (gx_leS (gx_leS (gx_leS (gx_leS gx_le0)))) (t_x_M_stand_71 hX hres hwr hK2 _ _ _ _ _ _ h)
theorem t_x_M_stand_2 {X : gx_X} (hX : gx_Ok X mi_x_M_stand) {R : gx_Wd} (hres : gx_res X = none) (hwr : gx_wr X = R) : ∀ (n : Nat) (b1 : Int32) (w : gx_Wd), x_M_stand_2 n b1 w = some R → gx_G X mi_x_M_stand 2 [some (.inr 22), some (.inl b1)] [] w := by
  intro n
  induction n with
  | zero => intro b1 w h; rw [x_M_stand_2] at h; cases h
  | succ n ih =>
    intro b1 w h
    rw [x_M_stand_2] at h
    refine gx_iload_n hX (gx_dt dt_mi_x_M_stand 2 rfl) rfl ?_
    refine gx_aload_n hX (gx_dt dt_mi_x_M_stand 3 rfl) rfl ?_
    refine gx_getr hX fl_M_9 sh_x_22 rfl (gx_dt dt_mi_x_M_stand 4 rfl) ?_
    refine gx_geti hX fl_M_82 sh_x_1 rfl (gx_dt dt_mi_x_M_stand 5 rfl) ?_
    refine gx_ic_ge hX (tgt := 96) (gx_dt dt_mi_x_M_stand 6 rfl) (by decide) (fun c1 => ?_) (fun c1 => ?_)
    · have h := gx_ifp c1 h
      obtain rfl := Option.some.inj h
      exact gx_vret hX (gx_dt dt_mi_x_M_stand 54 rfl) rfl hres hwr
    · have h := gx_ifn c1 h
      refine gx_aload_n hX (gx_dt dt_mi_x_M_stand 7 rfl) rfl ?_
      refine gx_getr hX fl_M_25 sh_x_22 rfl (gx_dt dt_mi_x_M_stand 8 rfl) ?_
      refine gx_iload_n hX (gx_dt dt_mi_x_M_stand 9 rfl) rfl ?_
      obtain ⟨r2, e_r2, h⟩ := gx_bd h
      refine gx_callSi hX (gx_dt dt_mi_x_M_stand 10 rfl) ln_M_60_x_E_cell mo_x_E_cell ms_x_E_cell (gx_rmb rfl) rfl (k_x_E_cell e_r2) rfl rfl (Nat.le_of_ble_eq_true rfl) ?_
      refine gx_istore_n hX (ls' := [some (.inr 22), some (.inl b1), some (.inl (r2.1))]) (gx_dt dt_mi_x_M_stand 11 rfl) (by decide) rfl ?_
      refine gx_aload_n hX (gx_dt dt_mi_x_M_stand 12 rfl) rfl ?_
      refine gx_iload_n hX (gx_dt dt_mi_x_M_stand 13 rfl) rfl ?_
      refine gx_iload_n hX (gx_dt dt_mi_x_M_stand 14 rfl) rfl ?_
      obtain ⟨r3, e_r3, h⟩ := gx_bd h
      refine gx_callVi hX (gx_dt dt_mi_x_M_stand 15 rfl) ln_M_85_x_M_topOf mo_x_M_topOf mv_x_M_topOf (gx_rmb rfl) sh_x_22 ⟨_, _, rfl⟩ rfl (k_x_M_topOf e_r3) rfl rfl (Nat.le_of_ble_eq_true rfl) ?_
      refine gx_istore_n hX (ls' := [some (.inr 22), some (.inl b1), some (.inl (r2.1)), some (.inl (r3.1))]) (gx_dt dt_mi_x_M_stand 16 rfl) (by decide) rfl ?_
      refine gx_aload_n hX (gx_dt dt_mi_x_M_stand 17 rfl) rfl ?_
      refine gx_iload_n hX (gx_dt dt_mi_x_M_stand 18 rfl) rfl ?_
      refine gx_iload_n hX (gx_dt dt_mi_x_M_stand 19 rfl) rfl ?_
      obtain ⟨r4, e_r4, h⟩ := gx_bd h
      refine gx_callVi hX (gx_dt dt_mi_x_M_stand 20 rfl) ln_M_88_x_M_canBear mo_x_M_canBear mv_x_M_canBear (gx_rmb rfl) sh_x_22 ⟨_, _, rfl⟩ rfl (k_x_M_canBear e_r4) rfl rfl (Nat.le_of_ble_eq_true rfl) ?_
      refine gx_if_eq hX (tgt := 53) (gx_dt dt_mi_x_M_stand 21 rfl) (by decide) (fun c5 => ?_) (fun c5 => ?_)
      · have h := gx_ifp c5 h
        refine gx_iconst hX (v := 0) (gx_dt dt_mi_x_M_stand 31 rfl) (by decide) ?_
        exact gx_weak (gx_leS (gx_leS (gx_leS (gx_leS gx_le0)))) (t_x_M_stand_54 hX hres hwr ih _ _ _ _ _ h)
      · have h := gx_ifn c5 h
        refine gx_aload_n hX (gx_dt dt_mi_x_M_stand 22 rfl) rfl ?_
        refine gx_geti hX fl_M_22 sh_x_22 rfl (gx_dt dt_mi_x_M_stand 23 rfl) ?_
        refine gx_iload_n hX (gx_dt dt_mi_x_M_stand 24 rfl) rfl ?_
        refine gx_ishr hX (gx_dt dt_mi_x_M_stand 25 rfl) ?_
        refine gx_iconst hX (v := 1) (gx_dt dt_mi_x_M_stand 26 rfl) (by decide) ?_
        refine gx_iand hX (gx_dt dt_mi_x_M_stand 27 rfl) ?_
        refine gx_if_ne hX (tgt := 53) (gx_dt dt_mi_x_M_stand 28 rfl) (by decide) (fun c6 => ?_) (fun c6 => ?_)
        · have h := gx_ifn c6 h
          refine gx_iconst hX (v := 0) (gx_dt dt_mi_x_M_stand 31 rfl) (by decide) ?_
          exact gx_weak (gx_leS (gx_leS (gx_leS (gx_leS gx_le0)))) (t_x_M_stand_54 hX hres hwr ih _ _ _ _ _ h)
        · have h := gx_ifp c6 h
          refine gx_iconst hX (v := 1) (gx_dt dt_mi_x_M_stand 29 rfl) (by decide) ?_
          refine gx_goto hX (tgt := 54) (gx_dt dt_mi_x_M_stand 30 rfl) (by decide) ?_
          exact gx_weak (gx_leS (gx_leS (gx_leS (gx_leS gx_le0)))) (t_x_M_stand_54 hX hres hwr ih _ _ _ _ _ h)
theorem k_x_M_stand {w : gx_Wd} {R : gx_Wd} (h : x_M_stand w = some R) : gx_MT mi_x_M_stand [.inr 22] w none R := by
  refine gx_met (by decide +kernel) (Nat.le_of_ble_eq_true rfl) (fun X hX hres hwr => ?_)
  show gx_G X mi_x_M_stand 0 [some (.inr 22)] [] w
  rw [x_M_stand] at h
  refine gx_iconst hX (v := 0) (gx_dt dt_mi_x_M_stand 0 rfl) (by decide) ?_
  refine gx_istore_n hX (ls' := [some (.inr 22), some (.inl (0))]) (gx_dt dt_mi_x_M_stand 1 rfl) (by decide) rfl ?_
  exact gx_weak (gx_leS (gx_leS gx_le0)) (t_x_M_stand_2 hX hres hwr _ _ _ h)
-- EachBearsPillar$Mind.shareOf(II)I
def x_M_shareOf (a1 : Int32) (a2 : Int32) (w : gx_Wd) : Option (Int32 × gx_Wd) :=
  (x_R_hasBearer_1 a2 w).bind fun r1 =>
  if r1.1 = 0 then
    some (0, r1.2)
  else
  (x_E_cell 26 a1 r1.2).bind fun r3 =>
  if r3.1 = 0 then
    some (0, r3.2)
  else
    (x_E_cell 25 (if a2 < a1 then a2 else a1) r3.2).bind fun r5 =>
    (x_E_cell 26 a2 r5.2).bind fun r6 =>
    if r6.1 = 1 then
      some (r5.1, r6.2)
    else
      some (2 * r5.1, r6.2)
theorem k_x_M_shareOf {a1 : Int32} {a2 : Int32} {w : gx_Wd} {R : Int32 × gx_Wd} (h : x_M_shareOf a1 a2 w = some R) : gx_MT mi_x_M_shareOf [.inr 22, .inl a1, .inl a2] w (some (.inl R.1)) R.2 := by
  refine gx_met (by decide +kernel) (Nat.le_of_ble_eq_true rfl) (fun X hX hres hwr => ?_)
  show gx_G X mi_x_M_shareOf 0 [some (.inr 22), some (.inl a1), some (.inl a2)] [] w
  rw [x_M_shareOf] at h
  refine gx_aload_n hX (gx_dt dt_mi_x_M_shareOf 0 rfl) rfl ?_
  refine gx_getr hX fl_M_9 sh_x_22 rfl (gx_dt dt_mi_x_M_shareOf 1 rfl) ?_
  refine gx_iload_n hX (gx_dt dt_mi_x_M_shareOf 2 rfl) rfl ?_
  obtain ⟨r1, e_r1, h⟩ := gx_bd h
  refine gx_callVi hX (gx_dt dt_mi_x_M_shareOf 3 rfl) ln_M_104_x_R_hasBearer_1 mo_x_R_hasBearer_1 mv_x_R_hasBearer_1 (gx_rmb rfl) sh_x_1 ⟨_, _, rfl⟩ rfl (k_x_R_hasBearer_1 e_r1) rfl rfl (Nat.le_of_ble_eq_true rfl) ?_
  refine gx_if_eq hX (tgt := 22) (gx_dt dt_mi_x_M_shareOf 4 rfl) (by decide) (fun c2 => ?_) (fun c2 => ?_)
  · have h := gx_ifp c2 h
    refine gx_iconst hX (v := 0) (gx_dt dt_mi_x_M_shareOf 10 rfl) (by decide) ?_
    obtain rfl := Option.some.inj h
    exact gx_iret hX (gx_dt dt_mi_x_M_shareOf 11 rfl) rfl hres hwr
  · have h := gx_ifn c2 h
    refine gx_aload_n hX (gx_dt dt_mi_x_M_shareOf 5 rfl) rfl ?_
    refine gx_getr hX fl_M_35 sh_x_22 rfl (gx_dt dt_mi_x_M_shareOf 6 rfl) ?_
    refine gx_iload_n hX (gx_dt dt_mi_x_M_shareOf 7 rfl) rfl ?_
    obtain ⟨r3, e_r3, h⟩ := gx_bd h
    refine gx_callSi hX (gx_dt dt_mi_x_M_shareOf 8 rfl) ln_M_60_x_E_cell mo_x_E_cell ms_x_E_cell (gx_rmb rfl) rfl (k_x_E_cell e_r3) rfl rfl (Nat.le_of_ble_eq_true rfl) ?_
    refine gx_if_ne hX (tgt := 24) (gx_dt dt_mi_x_M_shareOf 9 rfl) (by decide) (fun c4 => ?_) (fun c4 => ?_)
    · have h := gx_ifn c4 h
      refine gx_aload_n hX (gx_dt dt_mi_x_M_shareOf 12 rfl) rfl ?_
      refine gx_getr hX fl_M_32 sh_x_22 rfl (gx_dt dt_mi_x_M_shareOf 13 rfl) ?_
      refine gx_iload_n hX (gx_dt dt_mi_x_M_shareOf 14 rfl) rfl ?_
      refine gx_iload_n hX (gx_dt dt_mi_x_M_shareOf 15 rfl) rfl ?_
      refine gx_min hX (gx_dt dt_mi_x_M_shareOf 16 rfl) wr_methodLink_M_108 w_min_static w_math_init w_min_code (Nat.le_of_ble_eq_true rfl) (Nat.le_of_ble_eq_true rfl) ?_
      obtain ⟨r5, e_r5, h⟩ := gx_bd h
      refine gx_callSi hX (gx_dt dt_mi_x_M_shareOf 17 rfl) ln_M_60_x_E_cell mo_x_E_cell ms_x_E_cell (gx_rmb rfl) rfl (k_x_E_cell e_r5) rfl rfl (Nat.le_of_ble_eq_true rfl) ?_
      refine gx_istore_n hX (ls' := [some (.inr 22), some (.inl a1), some (.inl a2), some (.inl (r5.1))]) (gx_dt dt_mi_x_M_shareOf 18 rfl) (by decide) rfl ?_
      refine gx_aload_n hX (gx_dt dt_mi_x_M_shareOf 19 rfl) rfl ?_
      refine gx_getr hX fl_M_35 sh_x_22 rfl (gx_dt dt_mi_x_M_shareOf 20 rfl) ?_
      refine gx_iload_n hX (gx_dt dt_mi_x_M_shareOf 21 rfl) rfl ?_
      obtain ⟨r6, e_r6, h⟩ := gx_bd h
      refine gx_callSi hX (gx_dt dt_mi_x_M_shareOf 22 rfl) ln_M_60_x_E_cell mo_x_E_cell ms_x_E_cell (gx_rmb rfl) rfl (k_x_E_cell e_r6) rfl rfl (Nat.le_of_ble_eq_true rfl) ?_
      refine gx_iconst hX (v := 1) (gx_dt dt_mi_x_M_shareOf 23 rfl) (by decide) ?_
      refine gx_ic_ne hX (tgt := 53) (gx_dt dt_mi_x_M_shareOf 24 rfl) (by decide) (fun c7 => ?_) (fun c7 => ?_)
      · have h := gx_ifn c7 h
        refine gx_iconst hX (v := 2) (gx_dt dt_mi_x_M_shareOf 27 rfl) (by decide) ?_
        refine gx_iload_n hX (gx_dt dt_mi_x_M_shareOf 28 rfl) rfl ?_
        refine gx_imul hX (gx_dt dt_mi_x_M_shareOf 29 rfl) ?_
        obtain rfl := Option.some.inj h
        exact gx_iret hX (gx_dt dt_mi_x_M_shareOf 30 rfl) rfl hres hwr
      · have h := gx_ifp c7 h
        refine gx_iload_n hX (gx_dt dt_mi_x_M_shareOf 25 rfl) rfl ?_
        refine gx_goto hX (tgt := 56) (gx_dt dt_mi_x_M_shareOf 26 rfl) (by decide) ?_
        obtain rfl := Option.some.inj h
        exact gx_iret hX (gx_dt dt_mi_x_M_shareOf 30 rfl) rfl hres hwr
    · have h := gx_ifp c4 h
      refine gx_iconst hX (v := 0) (gx_dt dt_mi_x_M_shareOf 10 rfl) (by decide) ?_
      obtain rfl := Option.some.inj h
      exact gx_iret hX (gx_dt dt_mi_x_M_shareOf 11 rfl) rfl hres hwr
-- EachBearsPillar$Mind.weigh()V
def x_M_weigh_2 : Nat → Int32 → gx_Wd → Option (gx_Wd)
  | 0, _, _ => none
  | n + 1, b1, w =>
  if w 1 0 ≤ b1 then
    some w
  else
  (x_M_shareOf b1 (b1 - 1) w).bind fun r2 =>
  (x_M_shareOf b1 (b1 + 1) r2.2).bind fun r3 =>
  (x_E_setCell 28 b1 (r2.1 + r3.1) r3.2).bind fun r4 =>
  (some (b1 + 1)).bind fun v5 =>
  (x_M_weigh_2 n) v5 r4.2
def x_M_weigh (w : gx_Wd) : Option (gx_Wd) :=
  x_M_weigh_2 6000 0 w
theorem t_x_M_weigh_2 {X : gx_X} (hX : gx_Ok X mi_x_M_weigh) {R : gx_Wd} (hres : gx_res X = none) (hwr : gx_wr X = R) : ∀ (n : Nat) (b1 : Int32) (w : gx_Wd), x_M_weigh_2 n b1 w = some R → gx_G X mi_x_M_weigh 2 [some (.inr 22), some (.inl b1)] [] w := by
  intro n
  induction n with
  | zero => intro b1 w h; rw [x_M_weigh_2] at h; cases h
  | succ n ih =>
    intro b1 w h
    rw [x_M_weigh_2] at h
    refine gx_iload_n hX (gx_dt dt_mi_x_M_weigh 2 rfl) rfl ?_
    refine gx_aload_n hX (gx_dt dt_mi_x_M_weigh 3 rfl) rfl ?_
    refine gx_getr hX fl_M_9 sh_x_22 rfl (gx_dt dt_mi_x_M_weigh 4 rfl) ?_
    refine gx_geti hX fl_M_82 sh_x_1 rfl (gx_dt dt_mi_x_M_weigh 5 rfl) ?_
    refine gx_ic_ge hX (tgt := 45) (gx_dt dt_mi_x_M_weigh 6 rfl) (by decide) (fun c1 => ?_) (fun c1 => ?_)
    · have h := gx_ifp c1 h
      obtain rfl := Option.some.inj h
      exact gx_vret hX (gx_dt dt_mi_x_M_weigh 27 rfl) rfl hres hwr
    · have h := gx_ifn c1 h
      refine gx_aload_n hX (gx_dt dt_mi_x_M_weigh 7 rfl) rfl ?_
      refine gx_getr hX fl_M_41 sh_x_22 rfl (gx_dt dt_mi_x_M_weigh 8 rfl) ?_
      refine gx_iload_n hX (gx_dt dt_mi_x_M_weigh 9 rfl) rfl ?_
      refine gx_aload_n hX (gx_dt dt_mi_x_M_weigh 10 rfl) rfl ?_
      refine gx_iload_n hX (gx_dt dt_mi_x_M_weigh 11 rfl) rfl ?_
      refine gx_iload_n hX (gx_dt dt_mi_x_M_weigh 12 rfl) rfl ?_
      refine gx_iconst hX (v := 1) (gx_dt dt_mi_x_M_weigh 13 rfl) (by decide) ?_
      refine gx_isub hX (gx_dt dt_mi_x_M_weigh 14 rfl) ?_
      obtain ⟨r2, e_r2, h⟩ := gx_bd h
      refine gx_callVi hX (gx_dt dt_mi_x_M_weigh 15 rfl) ln_M_95_x_M_shareOf mo_x_M_shareOf mv_x_M_shareOf (gx_rmb rfl) sh_x_22 ⟨_, _, rfl⟩ rfl (k_x_M_shareOf e_r2) rfl rfl (Nat.le_of_ble_eq_true rfl) ?_
      refine gx_aload_n hX (gx_dt dt_mi_x_M_weigh 16 rfl) rfl ?_
      refine gx_iload_n hX (gx_dt dt_mi_x_M_weigh 17 rfl) rfl ?_
      refine gx_iload_n hX (gx_dt dt_mi_x_M_weigh 18 rfl) rfl ?_
      refine gx_iconst hX (v := 1) (gx_dt dt_mi_x_M_weigh 19 rfl) (by decide) ?_
      refine gx_iadd hX (gx_dt dt_mi_x_M_weigh 20 rfl) ?_
      obtain ⟨r3, e_r3, h⟩ := gx_bd h
      refine gx_callVi hX (gx_dt dt_mi_x_M_weigh 21 rfl) ln_M_95_x_M_shareOf mo_x_M_shareOf mv_x_M_shareOf (gx_rmb rfl) sh_x_22 ⟨_, _, rfl⟩ rfl (k_x_M_shareOf e_r3) rfl rfl (Nat.le_of_ble_eq_true rfl) ?_
      refine gx_iadd hX (gx_dt dt_mi_x_M_weigh 22 rfl) ?_
      obtain ⟨r4, e_r4, h⟩ := gx_bd h
      refine gx_callSi hX (gx_dt dt_mi_x_M_weigh 23 rfl) ln_M_48_x_E_setCell mo_x_E_setCell ms_x_E_setCell (gx_rmb rfl) rfl (k_x_E_setCell e_r4) rfl rfl (Nat.le_of_ble_eq_true rfl) ?_
      refine gx_pop hX (gx_dt dt_mi_x_M_weigh 24 rfl) ?_
      obtain ⟨v5, e_v5, h⟩ := gx_bd h
      refine gx_iinc hX (v := v5) (ls' := [some (.inr 22), some (.inl v5)]) (gx_dt dt_mi_x_M_weigh 25 rfl) rfl (gx_ii e_v5 (by decide)) (by decide) rfl ?_
      refine gx_goto hX (tgt := 2) (gx_dt dt_mi_x_M_weigh 26 rfl) (by decide) ?_
      exact gx_weak (gx_leS (gx_leS gx_le0)) (ih _ _ h)
theorem k_x_M_weigh {w : gx_Wd} {R : gx_Wd} (h : x_M_weigh w = some R) : gx_MT mi_x_M_weigh [.inr 22] w none R := by
  refine gx_met (by decide +kernel) (Nat.le_of_ble_eq_true rfl) (fun X hX hres hwr => ?_)
  show gx_G X mi_x_M_weigh 0 [some (.inr 22)] [] w
  rw [x_M_weigh] at h
  refine gx_iconst hX (v := 0) (gx_dt dt_mi_x_M_weigh 0 rfl) (by decide) ?_
  refine gx_istore_n hX (ls' := [some (.inr 22), some (.inl (0))]) (gx_dt dt_mi_x_M_weigh 1 rfl) (by decide) rfl ?_
  exact gx_weak (gx_leS (gx_leS gx_le0)) (t_x_M_weigh_2 hX hres hwr _ _ _ h)
-- EachBearsPillar$Mind.standAndWeigh()V
def x_M_standAndWeigh (w : gx_Wd) : Option (gx_Wd) :=
  (x_M_stand w).bind fun r1 =>
  (x_M_weigh r1).bind fun r2 =>
  some r2
theorem k_x_M_standAndWeigh {w : gx_Wd} {R : gx_Wd} (h : x_M_standAndWeigh w = some R) : gx_MT mi_x_M_standAndWeigh [.inr 22] w none R := by
  refine gx_met (by decide +kernel) (Nat.le_of_ble_eq_true rfl) (fun X hX hres hwr => ?_)
  show gx_G X mi_x_M_standAndWeigh 0 [some (.inr 22)] [] w
  rw [x_M_standAndWeigh] at h
  refine gx_aload_n hX (gx_dt dt_mi_x_M_standAndWeigh 0 rfl) rfl ?_
  obtain ⟨r1, e_r1, h⟩ := gx_bd h
  refine gx_callVv hX (gx_dt dt_mi_x_M_standAndWeigh 1 rfl) ln_M_98_x_M_stand mo_x_M_stand mv_x_M_stand (gx_rmb rfl) sh_x_22 ⟨_, _, rfl⟩ rfl (k_x_M_stand e_r1) rfl rfl (Nat.le_of_ble_eq_true rfl) ?_
  refine gx_aload_n hX (gx_dt dt_mi_x_M_standAndWeigh 2 rfl) rfl ?_
  obtain ⟨r2, e_r2, h⟩ := gx_bd h
  refine gx_callVv hX (gx_dt dt_mi_x_M_standAndWeigh 3 rfl) ln_M_101_x_M_weigh mo_x_M_weigh mv_x_M_weigh (gx_rmb rfl) sh_x_22 ⟨_, _, rfl⟩ rfl (k_x_M_weigh e_r2) rfl rfl (Nat.le_of_ble_eq_true rfl) ?_
  obtain rfl := Option.some.inj h
  exact gx_vret hX (gx_dt dt_mi_x_M_standAndWeigh 4 rfl) rfl hres hwr
-- EachBearsPillar.load(I)I
def x_E_load (a1 : Int32) (w : gx_Wd) : Option (Int32 × gx_Wd) :=
  (x_R_hasBearer_1 a1 w).bind fun r1 =>
  if r1.1 = 0 then
    (x_E_refuse (-1) r1.2).bind fun r6 =>
    some (r6.1, r6.2)
  else
    (x_M_asTold r1.2).bind fun r3 =>
    (x_M_standAndWeigh r3).bind fun r4 =>
    (x_E_cell 28 a1 r4).bind fun r5 =>
    some (r5.1, r5.2)
theorem k_x_E_load {a1 : Int32} {w : gx_Wd} {R : Int32 × gx_Wd} (h : x_E_load a1 w = some R) : gx_MT mi_x_E_load [.inr 0, .inl a1] w (some (.inl R.1)) R.2 := by
  refine gx_met (by decide +kernel) (Nat.le_of_ble_eq_true rfl) (fun X hX hres hwr => ?_)
  show gx_G X mi_x_E_load 0 [some (.inr 0), some (.inl a1)] [] w
  rw [x_E_load] at h
  refine gx_aload_n hX (gx_dt dt_mi_x_E_load 0 rfl) rfl ?_
  refine gx_getr hX fl_E_10 sh_x_0 rfl (gx_dt dt_mi_x_E_load 1 rfl) ?_
  refine gx_iload_n hX (gx_dt dt_mi_x_E_load 2 rfl) rfl ?_
  obtain ⟨r1, e_r1, h⟩ := gx_bd h
  refine gx_callVi hX (gx_dt dt_mi_x_E_load 3 rfl) ln_E_103_x_R_hasBearer_1 mo_x_R_hasBearer_1 mv_x_R_hasBearer_1 (gx_rmb rfl) sh_x_1 ⟨_, _, rfl⟩ rfl (k_x_R_hasBearer_1 e_r1) rfl rfl (Nat.le_of_ble_eq_true rfl) ?_
  refine gx_if_ne hX (tgt := 17) (gx_dt dt_mi_x_E_load 4 rfl) (by decide) (fun c2 => ?_) (fun c2 => ?_)
  · have h := gx_ifn c2 h
    refine gx_aload_n hX (gx_dt dt_mi_x_E_load 9 rfl) rfl ?_
    refine gx_getr hX fl_E_31 sh_x_0 rfl (gx_dt dt_mi_x_E_load 10 rfl) ?_
    obtain ⟨r3, e_r3, h⟩ := gx_bd h
    refine gx_callVv hX (gx_dt dt_mi_x_E_load 11 rfl) ln_E_115_x_M_asTold mo_x_M_asTold mv_x_M_asTold (gx_rmb rfl) sh_x_22 ⟨_, _, rfl⟩ rfl (k_x_M_asTold e_r3) rfl rfl (Nat.le_of_ble_eq_true rfl) ?_
    refine gx_aload_n hX (gx_dt dt_mi_x_E_load 12 rfl) rfl ?_
    refine gx_getr hX fl_E_31 sh_x_0 rfl (gx_dt dt_mi_x_E_load 13 rfl) ?_
    obtain ⟨r4, e_r4, h⟩ := gx_bd h
    refine gx_callVv hX (gx_dt dt_mi_x_E_load 14 rfl) ln_E_142_x_M_standAndWeigh mo_x_M_standAndWeigh mv_x_M_standAndWeigh (gx_rmb rfl) sh_x_22 ⟨_, _, rfl⟩ rfl (k_x_M_standAndWeigh e_r4) rfl rfl (Nat.le_of_ble_eq_true rfl) ?_
    refine gx_aload_n hX (gx_dt dt_mi_x_E_load 15 rfl) rfl ?_
    refine gx_getr hX fl_E_31 sh_x_0 rfl (gx_dt dt_mi_x_E_load 16 rfl) ?_
    refine gx_getr hX fl_E_145 sh_x_22 rfl (gx_dt dt_mi_x_E_load 17 rfl) ?_
    refine gx_iload_n hX (gx_dt dt_mi_x_E_load 18 rfl) rfl ?_
    obtain ⟨r5, e_r5, h⟩ := gx_bd h
    refine gx_callSi hX (gx_dt dt_mi_x_E_load 19 rfl) ln_E_125_x_E_cell mo_x_E_cell ms_x_E_cell (gx_rmb rfl) rfl (k_x_E_cell e_r5) rfl rfl (Nat.le_of_ble_eq_true rfl) ?_
    obtain rfl := Option.some.inj h
    exact gx_iret hX (gx_dt dt_mi_x_E_load 20 rfl) rfl hres hwr
  · have h := gx_ifp c2 h
    refine gx_aload_n hX (gx_dt dt_mi_x_E_load 5 rfl) rfl ?_
    refine gx_iconst hX (v := (-1)) (gx_dt dt_mi_x_E_load 6 rfl) (by decide) ?_
    obtain ⟨r6, e_r6, h⟩ := gx_bd h
    refine gx_callVi hX (gx_dt dt_mi_x_E_load 7 rfl) ln_E_69_x_E_refuse mo_x_E_refuse mv_x_E_refuse (gx_rmb rfl) sh_x_0 ⟨_, _, rfl⟩ rfl (k_x_E_refuse e_r6) rfl rfl (Nat.le_of_ble_eq_true rfl) ?_
    obtain rfl := Option.some.inj h
    exact gx_iret hX (gx_dt dt_mi_x_E_load 8 rfl) rfl hres hwr
-- EachBearsPillar$Mind.firstOverloaded()I
def x_M_firstOverloaded_2 : Nat → Int32 → gx_Wd → Option (Int32 × gx_Wd)
  | 0, _, _ => none
  | n + 1, b1, w =>
  if w 1 0 ≤ b1 then
    some ((-1), w)
  else
  (x_E_cell 28 b1 w).bind fun r2 =>
  (x_E_cell 27 b1 r2.2).bind fun r3 =>
  if r2.1 ≤ 2 * r3.1 then
    (some (b1 + 1)).bind fun v5 =>
    (x_M_firstOverloaded_2 n) v5 r3.2
  else
  some (b1, r3.2)
def x_M_firstOverloaded (w : gx_Wd) : Option (Int32 × gx_Wd) :=
  x_M_firstOverloaded_2 6000 0 w
theorem t_x_M_firstOverloaded_2 {X : gx_X} (hX : gx_Ok X mi_x_M_firstOverloaded) {R : Int32 × gx_Wd} (hres : gx_res X = some (.inl R.1)) (hwr : gx_wr X = R.2) : ∀ (n : Nat) (b1 : Int32) (w : gx_Wd), x_M_firstOverloaded_2 n b1 w = some R → gx_G X mi_x_M_firstOverloaded 2 [some (.inr 22), some (.inl b1)] [] w := by
  intro n
  induction n with
  | zero => intro b1 w h; rw [x_M_firstOverloaded_2] at h; cases h
  | succ n ih =>
    intro b1 w h
    rw [x_M_firstOverloaded_2] at h
    refine gx_iload_n hX (gx_dt dt_mi_x_M_firstOverloaded 2 rfl) rfl ?_
    refine gx_aload_n hX (gx_dt dt_mi_x_M_firstOverloaded 3 rfl) rfl ?_
    refine gx_getr hX fl_M_9 sh_x_22 rfl (gx_dt dt_mi_x_M_firstOverloaded 4 rfl) ?_
    refine gx_geti hX fl_M_82 sh_x_1 rfl (gx_dt dt_mi_x_M_firstOverloaded 5 rfl) ?_
    refine gx_ic_ge hX (tgt := 42) (gx_dt dt_mi_x_M_firstOverloaded 6 rfl) (by decide) (fun c1 => ?_) (fun c1 => ?_)
    · have h := gx_ifp c1 h
      refine gx_iconst hX (v := (-1)) (gx_dt dt_mi_x_M_firstOverloaded 22 rfl) (by decide) ?_
      obtain rfl := Option.some.inj h
      exact gx_iret hX (gx_dt dt_mi_x_M_firstOverloaded 23 rfl) rfl hres hwr
    · have h := gx_ifn c1 h
      refine gx_aload_n hX (gx_dt dt_mi_x_M_firstOverloaded 7 rfl) rfl ?_
      refine gx_getr hX fl_M_41 sh_x_22 rfl (gx_dt dt_mi_x_M_firstOverloaded 8 rfl) ?_
      refine gx_iload_n hX (gx_dt dt_mi_x_M_firstOverloaded 9 rfl) rfl ?_
      obtain ⟨r2, e_r2, h⟩ := gx_bd h
      refine gx_callSi hX (gx_dt dt_mi_x_M_firstOverloaded 10 rfl) ln_M_60_x_E_cell mo_x_E_cell ms_x_E_cell (gx_rmb rfl) rfl (k_x_E_cell e_r2) rfl rfl (Nat.le_of_ble_eq_true rfl) ?_
      refine gx_iconst hX (v := 2) (gx_dt dt_mi_x_M_firstOverloaded 11 rfl) (by decide) ?_
      refine gx_aload_n hX (gx_dt dt_mi_x_M_firstOverloaded 12 rfl) rfl ?_
      refine gx_getr hX fl_M_38 sh_x_22 rfl (gx_dt dt_mi_x_M_firstOverloaded 13 rfl) ?_
      refine gx_iload_n hX (gx_dt dt_mi_x_M_firstOverloaded 14 rfl) rfl ?_
      obtain ⟨r3, e_r3, h⟩ := gx_bd h
      refine gx_callSi hX (gx_dt dt_mi_x_M_firstOverloaded 15 rfl) ln_M_60_x_E_cell mo_x_E_cell ms_x_E_cell (gx_rmb rfl) rfl (k_x_E_cell e_r3) rfl rfl (Nat.le_of_ble_eq_true rfl) ?_
      refine gx_imul hX (gx_dt dt_mi_x_M_firstOverloaded 16 rfl) ?_
      refine gx_ic_le hX (tgt := 36) (gx_dt dt_mi_x_M_firstOverloaded 17 rfl) (by decide) (fun c4 => ?_) (fun c4 => ?_)
      · have h := gx_ifp c4 h
        obtain ⟨v5, e_v5, h⟩ := gx_bd h
        refine gx_iinc hX (v := v5) (ls' := [some (.inr 22), some (.inl v5)]) (gx_dt dt_mi_x_M_firstOverloaded 20 rfl) rfl (gx_ii e_v5 (by decide)) (by decide) rfl ?_
        refine gx_goto hX (tgt := 2) (gx_dt dt_mi_x_M_firstOverloaded 21 rfl) (by decide) ?_
        exact gx_weak (gx_leS (gx_leS gx_le0)) (ih _ _ h)
      · have h := gx_ifn c4 h
        refine gx_iload_n hX (gx_dt dt_mi_x_M_firstOverloaded 18 rfl) rfl ?_
        obtain rfl := Option.some.inj h
        exact gx_iret hX (gx_dt dt_mi_x_M_firstOverloaded 19 rfl) rfl hres hwr
theorem k_x_M_firstOverloaded {w : gx_Wd} {R : Int32 × gx_Wd} (h : x_M_firstOverloaded w = some R) : gx_MT mi_x_M_firstOverloaded [.inr 22] w (some (.inl R.1)) R.2 := by
  refine gx_met (by decide +kernel) (Nat.le_of_ble_eq_true rfl) (fun X hX hres hwr => ?_)
  show gx_G X mi_x_M_firstOverloaded 0 [some (.inr 22)] [] w
  rw [x_M_firstOverloaded] at h
  refine gx_iconst hX (v := 0) (gx_dt dt_mi_x_M_firstOverloaded 0 rfl) (by decide) ?_
  refine gx_istore_n hX (ls' := [some (.inr 22), some (.inl (0))]) (gx_dt dt_mi_x_M_firstOverloaded 1 rfl) (by decide) rfl ?_
  exact gx_weak (gx_leS (gx_leS gx_le0)) (t_x_M_firstOverloaded_2 hX hres hwr _ _ _ h)
-- EachBearsPillar$Mind.firstFalling()I
def x_M_firstFalling_52 (K2 : Int32 → gx_Wd → Option (Int32 × gx_Wd)) (b1 : Int32) (w : gx_Wd) : Option (Int32 × gx_Wd) :=
  (some (b1 + 1)).bind fun v1 =>
  K2 v1 w
def x_M_firstFalling_2 : Nat → Int32 → gx_Wd → Option (Int32 × gx_Wd)
  | 0, _, _ => none
  | n + 1, b1, w =>
  if w 1 0 ≤ b1 + 1 then
    some ((-1), w)
  else
  (x_E_cell 25 b1 w).bind fun r2 =>
  if r2.1 ≤ 0 then
    x_M_firstFalling_52 (x_M_firstFalling_2 n) b1 r2.2
  else
  (x_E_cell 26 b1 r2.2).bind fun r4 =>
  if r4.1 = 0 then
    (x_E_cell 26 (b1 + 1) r4.2).bind fun r6 =>
    if r6.1 = 0 then
      some (b1, r6.2)
    else
      x_M_firstFalling_52 (x_M_firstFalling_2 n) b1 r6.2
  else
    x_M_firstFalling_52 (x_M_firstFalling_2 n) b1 r4.2
def x_M_firstFalling (w : gx_Wd) : Option (Int32 × gx_Wd) :=
  x_M_firstFalling_2 6000 0 w
theorem t_x_M_firstFalling_52 {X : gx_X} (hX : gx_Ok X mi_x_M_firstFalling) {R : Int32 × gx_Wd} (hres : gx_res X = some (.inl R.1)) (hwr : gx_wr X = R.2) {K2 : Int32 → gx_Wd → Option (Int32 × gx_Wd)} (hK2 : ∀ (b1 : Int32) (w : gx_Wd), K2 b1 w = some R → gx_G X mi_x_M_firstFalling 2 [some (.inr 22), some (.inl b1)] [] w) (b1 : Int32) (w : gx_Wd) (h : x_M_firstFalling_52 K2 b1 w = some R) : gx_G X mi_x_M_firstFalling 52 [some (.inr 22), some (.inl b1)] [] w := by
  rw [x_M_firstFalling_52] at h
  obtain ⟨v1, e_v1, h⟩ := gx_bd h
  refine gx_iinc hX (v := v1) (ls' := [some (.inr 22), some (.inl v1)]) (gx_dt dt_mi_x_M_firstFalling 28 rfl) rfl (gx_ii e_v1 (by decide)) (by decide) rfl ?_
  refine gx_goto hX (tgt := 2) (gx_dt dt_mi_x_M_firstFalling 29 rfl) (by decide) ?_
  exact gx_weak (gx_leS (gx_leS gx_le0)) (hK2 _ _ h)
theorem t_x_M_firstFalling_2 {X : gx_X} (hX : gx_Ok X mi_x_M_firstFalling) {R : Int32 × gx_Wd} (hres : gx_res X = some (.inl R.1)) (hwr : gx_wr X = R.2) : ∀ (n : Nat) (b1 : Int32) (w : gx_Wd), x_M_firstFalling_2 n b1 w = some R → gx_G X mi_x_M_firstFalling 2 [some (.inr 22), some (.inl b1)] [] w := by
  intro n
  induction n with
  | zero => intro b1 w h; rw [x_M_firstFalling_2] at h; cases h
  | succ n ih =>
    intro b1 w h
    rw [x_M_firstFalling_2] at h
    refine gx_iload_n hX (gx_dt dt_mi_x_M_firstFalling 2 rfl) rfl ?_
    refine gx_iconst hX (v := 1) (gx_dt dt_mi_x_M_firstFalling 3 rfl) (by decide) ?_
    refine gx_iadd hX (gx_dt dt_mi_x_M_firstFalling 4 rfl) ?_
    refine gx_aload_n hX (gx_dt dt_mi_x_M_firstFalling 5 rfl) rfl ?_
    refine gx_getr hX fl_M_9 sh_x_22 rfl (gx_dt dt_mi_x_M_firstFalling 6 rfl) ?_
    refine gx_geti hX fl_M_82 sh_x_1 rfl (gx_dt dt_mi_x_M_firstFalling 7 rfl) ?_
    refine gx_ic_ge hX (tgt := 58) (gx_dt dt_mi_x_M_firstFalling 8 rfl) (by decide) (fun c1 => ?_) (fun c1 => ?_)
    · have h := gx_ifp c1 h
      refine gx_iconst hX (v := (-1)) (gx_dt dt_mi_x_M_firstFalling 30 rfl) (by decide) ?_
      obtain rfl := Option.some.inj h
      exact gx_iret hX (gx_dt dt_mi_x_M_firstFalling 31 rfl) rfl hres hwr
    · have h := gx_ifn c1 h
      refine gx_aload_n hX (gx_dt dt_mi_x_M_firstFalling 9 rfl) rfl ?_
      refine gx_getr hX fl_M_32 sh_x_22 rfl (gx_dt dt_mi_x_M_firstFalling 10 rfl) ?_
      refine gx_iload_n hX (gx_dt dt_mi_x_M_firstFalling 11 rfl) rfl ?_
      obtain ⟨r2, e_r2, h⟩ := gx_bd h
      refine gx_callSi hX (gx_dt dt_mi_x_M_firstFalling 12 rfl) ln_M_60_x_E_cell mo_x_E_cell ms_x_E_cell (gx_rmb rfl) rfl (k_x_E_cell e_r2) rfl rfl (Nat.le_of_ble_eq_true rfl) ?_
      refine gx_if_le hX (tgt := 52) (gx_dt dt_mi_x_M_firstFalling 13 rfl) (by decide) (fun c3 => ?_) (fun c3 => ?_)
      · have h := gx_ifp c3 h
        exact gx_weak (gx_leS (gx_leS gx_le0)) (t_x_M_firstFalling_52 hX hres hwr ih _ _ h)
      · have h := gx_ifn c3 h
        refine gx_aload_n hX (gx_dt dt_mi_x_M_firstFalling 14 rfl) rfl ?_
        refine gx_getr hX fl_M_35 sh_x_22 rfl (gx_dt dt_mi_x_M_firstFalling 15 rfl) ?_
        refine gx_iload_n hX (gx_dt dt_mi_x_M_firstFalling 16 rfl) rfl ?_
        obtain ⟨r4, e_r4, h⟩ := gx_bd h
        refine gx_callSi hX (gx_dt dt_mi_x_M_firstFalling 17 rfl) ln_M_60_x_E_cell mo_x_E_cell ms_x_E_cell (gx_rmb rfl) rfl (k_x_E_cell e_r4) rfl rfl (Nat.le_of_ble_eq_true rfl) ?_
        refine gx_if_ne hX (tgt := 52) (gx_dt dt_mi_x_M_firstFalling 18 rfl) (by decide) (fun c5 => ?_) (fun c5 => ?_)
        · have h := gx_ifn c5 h
          exact gx_weak (gx_leS (gx_leS gx_le0)) (t_x_M_firstFalling_52 hX hres hwr ih _ _ h)
        · have h := gx_ifp c5 h
          refine gx_aload_n hX (gx_dt dt_mi_x_M_firstFalling 19 rfl) rfl ?_
          refine gx_getr hX fl_M_35 sh_x_22 rfl (gx_dt dt_mi_x_M_firstFalling 20 rfl) ?_
          refine gx_iload_n hX (gx_dt dt_mi_x_M_firstFalling 21 rfl) rfl ?_
          refine gx_iconst hX (v := 1) (gx_dt dt_mi_x_M_firstFalling 22 rfl) (by decide) ?_
          refine gx_iadd hX (gx_dt dt_mi_x_M_firstFalling 23 rfl) ?_
          obtain ⟨r6, e_r6, h⟩ := gx_bd h
          refine gx_callSi hX (gx_dt dt_mi_x_M_firstFalling 24 rfl) ln_M_60_x_E_cell mo_x_E_cell ms_x_E_cell (gx_rmb rfl) rfl (k_x_E_cell e_r6) rfl rfl (Nat.le_of_ble_eq_true rfl) ?_
          refine gx_if_ne hX (tgt := 52) (gx_dt dt_mi_x_M_firstFalling 25 rfl) (by decide) (fun c7 => ?_) (fun c7 => ?_)
          · have h := gx_ifn c7 h
            exact gx_weak (gx_leS (gx_leS gx_le0)) (t_x_M_firstFalling_52 hX hres hwr ih _ _ h)
          · have h := gx_ifp c7 h
            refine gx_iload_n hX (gx_dt dt_mi_x_M_firstFalling 26 rfl) rfl ?_
            obtain rfl := Option.some.inj h
            exact gx_iret hX (gx_dt dt_mi_x_M_firstFalling 27 rfl) rfl hres hwr
theorem k_x_M_firstFalling {w : gx_Wd} {R : Int32 × gx_Wd} (h : x_M_firstFalling w = some R) : gx_MT mi_x_M_firstFalling [.inr 22] w (some (.inl R.1)) R.2 := by
  refine gx_met (by decide +kernel) (Nat.le_of_ble_eq_true rfl) (fun X hX hres hwr => ?_)
  show gx_G X mi_x_M_firstFalling 0 [some (.inr 22)] [] w
  rw [x_M_firstFalling] at h
  refine gx_iconst hX (v := 0) (gx_dt dt_mi_x_M_firstFalling 0 rfl) (by decide) ?_
  refine gx_istore_n hX (ls' := [some (.inr 22), some (.inl (0))]) (gx_dt dt_mi_x_M_firstFalling 1 rfl) (by decide) rfl ?_
  exact gx_weak (gx_leS (gx_leS gx_le0)) (t_x_M_firstFalling_2 hX hres hwr _ _ _ h)
-- EachBearsPillar$Mind.isBorne()Z
def x_M_isBorne (w : gx_Wd) : Option (Int32 × gx_Wd) :=
  (x_M_firstOverloaded w).bind fun r1 =>
  if 0 ≤ r1.1 then
    some (0, r1.2)
  else
  (x_M_firstFalling r1.2).bind fun r3 =>
  if 0 ≤ r3.1 then
    some (0, r3.2)
  else
  some (1, r3.2)
theorem k_x_M_isBorne {w : gx_Wd} {R : Int32 × gx_Wd} (h : x_M_isBorne w = some R) : gx_MT mi_x_M_isBorne [.inr 22] w (some (.inl R.1)) R.2 := by
  refine gx_met (by decide +kernel) (Nat.le_of_ble_eq_true rfl) (fun X hX hres hwr => ?_)
  show gx_G X mi_x_M_isBorne 0 [some (.inr 22)] [] w
  rw [x_M_isBorne] at h
  refine gx_aload_n hX (gx_dt dt_mi_x_M_isBorne 0 rfl) rfl ?_
  obtain ⟨r1, e_r1, h⟩ := gx_bd h
  refine gx_callVi hX (gx_dt dt_mi_x_M_isBorne 1 rfl) ln_M_111_x_M_firstOverloaded mo_x_M_firstOverloaded mv_x_M_firstOverloaded (gx_rmb rfl) sh_x_22 ⟨_, _, rfl⟩ rfl (k_x_M_firstOverloaded e_r1) rfl rfl (Nat.le_of_ble_eq_true rfl) ?_
  refine gx_if_ge hX (tgt := 18) (gx_dt dt_mi_x_M_isBorne 2 rfl) (by decide) (fun c2 => ?_) (fun c2 => ?_)
  · have h := gx_ifp c2 h
    refine gx_iconst hX (v := 0) (gx_dt dt_mi_x_M_isBorne 8 rfl) (by decide) ?_
    obtain rfl := Option.some.inj h
    exact gx_zret hX (gx_dt dt_mi_x_M_isBorne 9 rfl) rfl rfl hres hwr
  · have h := gx_ifn c2 h
    refine gx_aload_n hX (gx_dt dt_mi_x_M_isBorne 3 rfl) rfl ?_
    obtain ⟨r3, e_r3, h⟩ := gx_bd h
    refine gx_callVi hX (gx_dt dt_mi_x_M_isBorne 4 rfl) ln_M_115_x_M_firstFalling mo_x_M_firstFalling mv_x_M_firstFalling (gx_rmb rfl) sh_x_22 ⟨_, _, rfl⟩ rfl (k_x_M_firstFalling e_r3) rfl rfl (Nat.le_of_ble_eq_true rfl) ?_
    refine gx_if_ge hX (tgt := 18) (gx_dt dt_mi_x_M_isBorne 5 rfl) (by decide) (fun c4 => ?_) (fun c4 => ?_)
    · have h := gx_ifp c4 h
      refine gx_iconst hX (v := 0) (gx_dt dt_mi_x_M_isBorne 8 rfl) (by decide) ?_
      obtain rfl := Option.some.inj h
      exact gx_zret hX (gx_dt dt_mi_x_M_isBorne 9 rfl) rfl rfl hres hwr
    · have h := gx_ifn c4 h
      refine gx_iconst hX (v := 1) (gx_dt dt_mi_x_M_isBorne 6 rfl) (by decide) ?_
      refine gx_goto hX (tgt := 19) (gx_dt dt_mi_x_M_isBorne 7 rfl) (by decide) ?_
      obtain rfl := Option.some.inj h
      exact gx_zret hX (gx_dt dt_mi_x_M_isBorne 9 rfl) rfl rfl hres hwr
-- EachBearsPillar$Mind.isFirm()Z
def x_M_isFirm (w : gx_Wd) : Option (Int32 × gx_Wd) :=
  (x_M_stand w).bind fun r1 =>
  (x_M_weigh r1).bind fun r2 =>
  (x_M_isBorne r2).bind fun r3 =>
  if r3.1 = 0 ∨ r3.1 = 1 then some (r3.1, r3.2) else none
theorem k_x_M_isFirm {w : gx_Wd} {R : Int32 × gx_Wd} (h : x_M_isFirm w = some R) : gx_MT mi_x_M_isFirm [.inr 22] w (some (.inl R.1)) R.2 := by
  refine gx_met (by decide +kernel) (Nat.le_of_ble_eq_true rfl) (fun X hX hres hwr => ?_)
  show gx_G X mi_x_M_isFirm 0 [some (.inr 22)] [] w
  rw [x_M_isFirm] at h
  refine gx_aload_n hX (gx_dt dt_mi_x_M_isFirm 0 rfl) rfl ?_
  obtain ⟨r1, e_r1, h⟩ := gx_bd h
  refine gx_callVv hX (gx_dt dt_mi_x_M_isFirm 1 rfl) ln_M_98_x_M_stand mo_x_M_stand mv_x_M_stand (gx_rmb rfl) sh_x_22 ⟨_, _, rfl⟩ rfl (k_x_M_stand e_r1) rfl rfl (Nat.le_of_ble_eq_true rfl) ?_
  refine gx_aload_n hX (gx_dt dt_mi_x_M_isFirm 2 rfl) rfl ?_
  obtain ⟨r2, e_r2, h⟩ := gx_bd h
  refine gx_callVv hX (gx_dt dt_mi_x_M_isFirm 3 rfl) ln_M_101_x_M_weigh mo_x_M_weigh mv_x_M_weigh (gx_rmb rfl) sh_x_22 ⟨_, _, rfl⟩ rfl (k_x_M_weigh e_r2) rfl rfl (Nat.le_of_ble_eq_true rfl) ?_
  refine gx_aload_n hX (gx_dt dt_mi_x_M_isFirm 4 rfl) rfl ?_
  obtain ⟨r3, e_r3, h⟩ := gx_bd h
  refine gx_callVi hX (gx_dt dt_mi_x_M_isFirm 5 rfl) ln_M_118_x_M_isBorne mo_x_M_isBorne mv_x_M_isBorne (gx_rmb rfl) sh_x_22 ⟨_, _, rfl⟩ rfl (k_x_M_isBorne e_r3) rfl rfl (Nat.le_of_ble_eq_true rfl) ?_
  obtain ⟨c, h⟩ := gx_01 h
  obtain rfl := Option.some.inj h
  exact gx_zret hX (gx_dt dt_mi_x_M_isFirm 6 rfl) rfl (gx_nar c) hres hwr
-- EachBearsPillar.holds()I
def x_E_holds (w : gx_Wd) : Option (Int32 × gx_Wd) :=
  (x_M_asTold w).bind fun r1 =>
  (x_M_isFirm r1).bind fun r2 =>
  if r2.1 = 0 then
    some (0, r2.2)
  else
  some (1, r2.2)
theorem k_x_E_holds {w : gx_Wd} {R : Int32 × gx_Wd} (h : x_E_holds w = some R) : gx_MT mi_x_E_holds [.inr 0] w (some (.inl R.1)) R.2 := by
  refine gx_met (by decide +kernel) (Nat.le_of_ble_eq_true rfl) (fun X hX hres hwr => ?_)
  show gx_G X mi_x_E_holds 0 [some (.inr 0)] [] w
  rw [x_E_holds] at h
  refine gx_aload_n hX (gx_dt dt_mi_x_E_holds 0 rfl) rfl ?_
  refine gx_getr hX fl_E_31 sh_x_0 rfl (gx_dt dt_mi_x_E_holds 1 rfl) ?_
  obtain ⟨r1, e_r1, h⟩ := gx_bd h
  refine gx_callVv hX (gx_dt dt_mi_x_E_holds 2 rfl) ln_E_115_x_M_asTold mo_x_M_asTold mv_x_M_asTold (gx_rmb rfl) sh_x_22 ⟨_, _, rfl⟩ rfl (k_x_M_asTold e_r1) rfl rfl (Nat.le_of_ble_eq_true rfl) ?_
  refine gx_aload_n hX (gx_dt dt_mi_x_E_holds 3 rfl) rfl ?_
  refine gx_getr hX fl_E_31 sh_x_0 rfl (gx_dt dt_mi_x_E_holds 4 rfl) ?_
  obtain ⟨r2, e_r2, h⟩ := gx_bd h
  refine gx_callVi hX (gx_dt dt_mi_x_E_holds 5 rfl) ln_E_148_x_M_isFirm mo_x_M_isFirm mv_x_M_isFirm (gx_rmb rfl) sh_x_22 ⟨_, _, rfl⟩ rfl (k_x_M_isFirm e_r2) rfl rfl (Nat.le_of_ble_eq_true rfl) ?_
  refine gx_if_eq hX (tgt := 21) (gx_dt dt_mi_x_E_holds 6 rfl) (by decide) (fun c3 => ?_) (fun c3 => ?_)
  · have h := gx_ifp c3 h
    refine gx_iconst hX (v := 0) (gx_dt dt_mi_x_E_holds 9 rfl) (by decide) ?_
    obtain rfl := Option.some.inj h
    exact gx_iret hX (gx_dt dt_mi_x_E_holds 10 rfl) rfl hres hwr
  · have h := gx_ifn c3 h
    refine gx_iconst hX (v := 1) (gx_dt dt_mi_x_E_holds 7 rfl) (by decide) ?_
    refine gx_goto hX (tgt := 22) (gx_dt dt_mi_x_E_holds 8 rfl) (by decide) ?_
    obtain rfl := Option.some.inj h
    exact gx_iret hX (gx_dt dt_mi_x_E_holds 10 rfl) rfl hres hwr
-- EachBearsPillar.sag()I
def x_E_sag (w : gx_Wd) : Option (Int32 × gx_Wd) :=
  (x_M_asTold w).bind fun r1 =>
  (x_M_standAndWeigh r1).bind fun r2 =>
  (x_M_firstOverloaded r2).bind fun r3 =>
  if r3.1 < 0 then
    (x_M_firstFalling r3.2).bind fun r5 =>
    if r5.1 < 0 then
      some ((-9), r5.2)
    else
    some (10 + r5.1, r5.2)
  else
  some (r3.1, r3.2)
theorem k_x_E_sag {w : gx_Wd} {R : Int32 × gx_Wd} (h : x_E_sag w = some R) : gx_MT mi_x_E_sag [.inr 0] w (some (.inl R.1)) R.2 := by
  refine gx_met (by decide +kernel) (Nat.le_of_ble_eq_true rfl) (fun X hX hres hwr => ?_)
  show gx_G X mi_x_E_sag 0 [some (.inr 0)] [] w
  rw [x_E_sag] at h
  refine gx_aload_n hX (gx_dt dt_mi_x_E_sag 0 rfl) rfl ?_
  refine gx_getr hX fl_E_31 sh_x_0 rfl (gx_dt dt_mi_x_E_sag 1 rfl) ?_
  obtain ⟨r1, e_r1, h⟩ := gx_bd h
  refine gx_callVv hX (gx_dt dt_mi_x_E_sag 2 rfl) ln_E_115_x_M_asTold mo_x_M_asTold mv_x_M_asTold (gx_rmb rfl) sh_x_22 ⟨_, _, rfl⟩ rfl (k_x_M_asTold e_r1) rfl rfl (Nat.le_of_ble_eq_true rfl) ?_
  refine gx_aload_n hX (gx_dt dt_mi_x_E_sag 3 rfl) rfl ?_
  refine gx_getr hX fl_E_31 sh_x_0 rfl (gx_dt dt_mi_x_E_sag 4 rfl) ?_
  obtain ⟨r2, e_r2, h⟩ := gx_bd h
  refine gx_callVv hX (gx_dt dt_mi_x_E_sag 5 rfl) ln_E_142_x_M_standAndWeigh mo_x_M_standAndWeigh mv_x_M_standAndWeigh (gx_rmb rfl) sh_x_22 ⟨_, _, rfl⟩ rfl (k_x_M_standAndWeigh e_r2) rfl rfl (Nat.le_of_ble_eq_true rfl) ?_
  refine gx_aload_n hX (gx_dt dt_mi_x_E_sag 6 rfl) rfl ?_
  refine gx_getr hX fl_E_31 sh_x_0 rfl (gx_dt dt_mi_x_E_sag 7 rfl) ?_
  obtain ⟨r3, e_r3, h⟩ := gx_bd h
  refine gx_callVi hX (gx_dt dt_mi_x_E_sag 8 rfl) ln_E_152_x_M_firstOverloaded mo_x_M_firstOverloaded mv_x_M_firstOverloaded (gx_rmb rfl) sh_x_22 ⟨_, _, rfl⟩ rfl (k_x_M_firstOverloaded e_r3) rfl rfl (Nat.le_of_ble_eq_true rfl) ?_
  refine gx_istore_n hX (ls' := [some (.inr 0), some (.inl (r3.1))]) (gx_dt dt_mi_x_E_sag 9 rfl) (by decide) rfl ?_
  refine gx_iload_n hX (gx_dt dt_mi_x_E_sag 10 rfl) rfl ?_
  refine gx_if_lt hX (tgt := 28) (gx_dt dt_mi_x_E_sag 11 rfl) (by decide) (fun c4 => ?_) (fun c4 => ?_)
  · have h := gx_ifp c4 h
    refine gx_aload_n hX (gx_dt dt_mi_x_E_sag 14 rfl) rfl ?_
    refine gx_getr hX fl_E_31 sh_x_0 rfl (gx_dt dt_mi_x_E_sag 15 rfl) ?_
    obtain ⟨r5, e_r5, h⟩ := gx_bd h
    refine gx_callVi hX (gx_dt dt_mi_x_E_sag 16 rfl) ln_E_155_x_M_firstFalling mo_x_M_firstFalling mv_x_M_firstFalling (gx_rmb rfl) sh_x_22 ⟨_, _, rfl⟩ rfl (k_x_M_firstFalling e_r5) rfl rfl (Nat.le_of_ble_eq_true rfl) ?_
    refine gx_istore_n hX (ls' := [some (.inr 0), some (.inl (r3.1)), some (.inl (r5.1))]) (gx_dt dt_mi_x_E_sag 17 rfl) (by decide) rfl ?_
    refine gx_iload_n hX (gx_dt dt_mi_x_E_sag 18 rfl) rfl ?_
    refine gx_if_lt hX (tgt := 47) (gx_dt dt_mi_x_E_sag 19 rfl) (by decide) (fun c6 => ?_) (fun c6 => ?_)
    · have h := gx_ifp c6 h
      refine gx_bipush hX (v := (-9)) (gx_dt dt_mi_x_E_sag 24 rfl) (by decide) ?_
      obtain rfl := Option.some.inj h
      exact gx_iret hX (gx_dt dt_mi_x_E_sag 25 rfl) rfl hres hwr
    · have h := gx_ifn c6 h
      refine gx_bipush hX (v := 10) (gx_dt dt_mi_x_E_sag 20 rfl) (by decide) ?_
      refine gx_iload_n hX (gx_dt dt_mi_x_E_sag 21 rfl) rfl ?_
      refine gx_iadd hX (gx_dt dt_mi_x_E_sag 22 rfl) ?_
      refine gx_goto hX (tgt := 49) (gx_dt dt_mi_x_E_sag 23 rfl) (by decide) ?_
      obtain rfl := Option.some.inj h
      exact gx_iret hX (gx_dt dt_mi_x_E_sag 25 rfl) rfl hres hwr
  · have h := gx_ifn c4 h
    refine gx_iload_n hX (gx_dt dt_mi_x_E_sag 12 rfl) rfl ?_
    obtain rfl := Option.some.inj h
    exact gx_iret hX (gx_dt dt_mi_x_E_sag 13 rfl) rfl hres hwr
-- EachBearsPillar.sumOf([II)I
def x_E_sumOf_4 : Nat → Nat → Int32 → Int32 → Int32 → gx_Wd → Option (Int32 × gx_Wd)
  | 0, _, _, _, _, _ => none
  | n + 1, q0, b1, b2, b3, w =>
  if b1 ≤ b3 then
    some (b2, w)
  else
  (x_E_cell q0 b3 w).bind fun r2 =>
  (some (b2 + r2.1)).bind fun v3 =>
  (some (b3 + 1)).bind fun v4 =>
  (x_E_sumOf_4 n) q0 b1 v3 v4 r2.2
def x_E_sumOf (o0 : Nat) (a1 : Int32) (w : gx_Wd) : Option (Int32 × gx_Wd) :=
  x_E_sumOf_4 6000 o0 a1 0 0 w
theorem t_x_E_sumOf_4 {X : gx_X} (hX : gx_Ok X mi_x_E_sumOf) {R : Int32 × gx_Wd} (hres : gx_res X = some (.inl R.1)) (hwr : gx_wr X = R.2) : ∀ (n : Nat) (q0 : Nat) (b1 : Int32) (b2 : Int32) (b3 : Int32) (w : gx_Wd), x_E_sumOf_4 n q0 b1 b2 b3 w = some R → gx_G X mi_x_E_sumOf 4 [some (.inr q0), some (.inl b1), some (.inl b2), some (.inl b3)] [] w := by
  intro n
  induction n with
  | zero => intro q0 b1 b2 b3 w h; rw [x_E_sumOf_4] at h; cases h
  | succ n ih =>
    intro q0 b1 b2 b3 w h
    rw [x_E_sumOf_4] at h
    refine gx_iload_n hX (gx_dt dt_mi_x_E_sumOf 4 rfl) rfl ?_
    refine gx_iload_n hX (gx_dt dt_mi_x_E_sumOf 5 rfl) rfl ?_
    refine gx_ic_ge hX (tgt := 23) (gx_dt dt_mi_x_E_sumOf 6 rfl) (by decide) (fun c1 => ?_) (fun c1 => ?_)
    · have h := gx_ifp c1 h
      refine gx_iload_n hX (gx_dt dt_mi_x_E_sumOf 15 rfl) rfl ?_
      obtain rfl := Option.some.inj h
      exact gx_iret hX (gx_dt dt_mi_x_E_sumOf 16 rfl) rfl hres hwr
    · have h := gx_ifn c1 h
      refine gx_iload_n hX (gx_dt dt_mi_x_E_sumOf 7 rfl) rfl ?_
      refine gx_aload_n hX (gx_dt dt_mi_x_E_sumOf 8 rfl) rfl ?_
      refine gx_iload_n hX (gx_dt dt_mi_x_E_sumOf 9 rfl) rfl ?_
      obtain ⟨r2, e_r2, h⟩ := gx_bd h
      refine gx_callSi hX (gx_dt dt_mi_x_E_sumOf 10 rfl) ln_E_125_x_E_cell mo_x_E_cell ms_x_E_cell (gx_rmb rfl) rfl (k_x_E_cell e_r2) rfl rfl (Nat.le_of_ble_eq_true rfl) ?_
      refine gx_iadd hX (gx_dt dt_mi_x_E_sumOf 11 rfl) ?_
      obtain ⟨v3, e_v3, h⟩ := gx_bd h
      refine gx_top e_v3 ?_
      refine gx_istore_n hX (ls' := [some (.inr q0), some (.inl b1), some (.inl v3), some (.inl b3)]) (gx_dt dt_mi_x_E_sumOf 12 rfl) (by decide) rfl ?_
      obtain ⟨v4, e_v4, h⟩ := gx_bd h
      refine gx_iinc hX (v := v4) (ls' := [some (.inr q0), some (.inl b1), some (.inl v3), some (.inl v4)]) (gx_dt dt_mi_x_E_sumOf 13 rfl) rfl (gx_ii e_v4 (by decide)) (by decide) rfl ?_
      refine gx_goto hX (tgt := 4) (gx_dt dt_mi_x_E_sumOf 14 rfl) (by decide) ?_
      exact gx_weak (gx_leS (gx_leS (gx_leS (gx_leS gx_le0)))) (ih _ _ _ _ _ h)
theorem k_x_E_sumOf {o0 : Nat} {a1 : Int32} {w : gx_Wd} {R : Int32 × gx_Wd} (h : x_E_sumOf o0 a1 w = some R) : gx_MT mi_x_E_sumOf [.inr o0, .inl a1] w (some (.inl R.1)) R.2 := by
  refine gx_met (by decide +kernel) (Nat.le_of_ble_eq_true rfl) (fun X hX hres hwr => ?_)
  show gx_G X mi_x_E_sumOf 0 [some (.inr o0), some (.inl a1)] [] w
  rw [x_E_sumOf] at h
  refine gx_iconst hX (v := 0) (gx_dt dt_mi_x_E_sumOf 0 rfl) (by decide) ?_
  refine gx_istore_n hX (ls' := [some (.inr o0), some (.inl a1), some (.inl (0))]) (gx_dt dt_mi_x_E_sumOf 1 rfl) (by decide) rfl ?_
  refine gx_iconst hX (v := 0) (gx_dt dt_mi_x_E_sumOf 2 rfl) (by decide) ?_
  refine gx_istore_n hX (ls' := [some (.inr o0), some (.inl a1), some (.inl (0)), some (.inl (0))]) (gx_dt dt_mi_x_E_sumOf 3 rfl) (by decide) rfl ?_
  exact gx_weak (gx_leS (gx_leS (gx_leS (gx_leS gx_le0)))) (t_x_E_sumOf_4 hX hres hwr _ _ _ _ _ _ h)
