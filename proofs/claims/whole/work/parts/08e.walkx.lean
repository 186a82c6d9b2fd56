-- EachBearsPillar$Orders.waysWith(IIII)I
def x_O_waysWith_107 (b1 : Int32) (b4 : Int32) (b7 : Int32) (s0 : Int32) (s1 : Int32) (s2 : Int32) (s3 : Int32) (w : gx_Wd) : Option (Int32 × gx_Wd) :=
  (x_O_bearsLeft s3 s2 s1 s0 w).bind fun r1 =>
  if r1.1 = 0 then
    some (0, r1.2)
  else
    if b7 = 0 then
      (x_O_spotOf (b1 ||| (1 <<< (b4 &&& 31))) b4 0 r1.2).bind fun r4 =>
      (x_E_cell 37 r4.1 r4.2).bind fun r5 =>
      some (r5.1, r5.2)
    else
    (x_O_spotOf (b1 ||| (1 <<< (b4 &&& 31))) b4 1 r1.2).bind fun r6 =>
    (x_E_cell 37 r6.1 r6.2).bind fun r7 =>
    some (r7.1, r7.2)
def x_O_waysWith_88 (b1 : Int32) (b2 : Int32) (b3 : Int32) (b4 : Int32) (b5 : Int32) (b6 : Int32) (b7 : Int32) (b8 : Int32) (w : gx_Wd) : Option (Int32 × gx_Wd) :=
  if b8 = 0 then
    x_O_waysWith_107 b1 b4 b7 (2 * b6) b3 b2 b5 w
  else
  x_O_waysWith_107 b1 b4 b7 b6 b3 b2 b5 w
def x_O_waysWith_69 (b1 : Int32) (b2 : Int32) (b3 : Int32) (b4 : Int32) (b5 : Int32) (b6 : Int32) (b7 : Int32) (s0 : Int32) (w : gx_Wd) : Option (Int32 × gx_Wd) :=
  if b7 = 0 then
    if s0 = 0 then
      if b6 ≤ 0 then
        x_O_waysWith_88 b1 b2 b3 b4 b5 b6 b7 s0 w
      else
      some (0, w)
    else
      x_O_waysWith_88 b1 b2 b3 b4 b5 b6 b7 s0 w
  else
    x_O_waysWith_88 b1 b2 b3 b4 b5 b6 b7 s0 w
def x_O_waysWith_49 (b1 : Int32) (b2 : Int32) (b3 : Int32) (b4 : Int32) (b5 : Int32) (b6 : Int32) (s0 : Int32) (w : gx_Wd) : Option (Int32 × gx_Wd) :=
  (x_O_mostOf b4 (b5 + 1) w).bind fun r1 =>
  if r1.1 < 0 then
    x_O_waysWith_69 b1 b2 b3 b4 b5 b6 s0 0 r1.2
  else
  x_O_waysWith_69 b1 b2 b3 b4 b5 b6 s0 1 r1.2
def x_O_waysWith (a1 : Int32) (a2 : Int32) (a3 : Int32) (a4 : Int32) (w : gx_Wd) : Option (Int32 × gx_Wd) :=
  if (a1 >>> (a4 &&& 31)) &&& 1 = 1 then
    some (0, w)
  else
    (x_I_bitCount a1 w).bind fun r2 =>
    (some (r2.1 - 1)).bind fun v3 =>
    (x_E_cell 25 v3 r2.2).bind fun r4 =>
    (x_O_mostOf a2 v3 r4.2).bind fun r5 =>
    if r5.1 < 0 then
      x_O_waysWith_49 a1 a2 a3 a4 v3 r4.1 0 r5.2
    else
    x_O_waysWith_49 a1 a2 a3 a4 v3 r4.1 1 r5.2
theorem t_x_O_waysWith_107 {X : gx_X} (hX : gx_Ok X mi_x_O_waysWith) {R : Int32 × gx_Wd} (hres : gx_res X = some (.inl R.1)) (hwr : gx_wr X = R.2) (b1 : Int32) (b4 : Int32) (b7 : Int32) (s0 : Int32) (s1 : Int32) (s2 : Int32) (s3 : Int32) (w : gx_Wd) (h : x_O_waysWith_107 b1 b4 b7 s0 s1 s2 s3 w = some R) : gx_G X mi_x_O_waysWith 107 [some (.inr 35), some (.inl b1), none, none, some (.inl b4), none, none, some (.inl b7)] [.inl s0, .inl s1, .inl s2, .inl s3, .inr 35] w := by
  rw [x_O_waysWith_107] at h
  obtain ⟨r1, e_r1, h⟩ := gx_bd h
  refine gx_callVi hX (gx_dt dt_mi_x_O_waysWith 59 rfl) ln_O_66_x_O_bearsLeft mo_x_O_bearsLeft mv_x_O_bearsLeft (gx_rmb rfl) sh_x_35 ⟨_, _, rfl⟩ rfl (k_x_O_bearsLeft e_r1) rfl rfl (Nat.le_of_ble_eq_true rfl) ?_
  refine gx_if_ne hX (tgt := 115) (gx_dt dt_mi_x_O_waysWith 60 rfl) (by decide) (fun c2 => ?_) (fun c2 => ?_)
  · have h := gx_ifn c2 h
    refine gx_aload_n hX (gx_dt dt_mi_x_O_waysWith 63 rfl) rfl ?_
    refine gx_getr hX fl_O_19 sh_x_35 rfl (gx_dt dt_mi_x_O_waysWith 64 rfl) ?_
    refine gx_iload_n hX (gx_dt dt_mi_x_O_waysWith 65 rfl) rfl ?_
    refine gx_iconst hX (v := 1) (gx_dt dt_mi_x_O_waysWith 66 rfl) (by decide) ?_
    refine gx_iload hX (gx_dt dt_mi_x_O_waysWith 67 rfl) rfl ?_
    refine gx_ishl hX (gx_dt dt_mi_x_O_waysWith 68 rfl) ?_
    refine gx_ior hX (gx_dt dt_mi_x_O_waysWith 69 rfl) ?_
    refine gx_iload hX (gx_dt dt_mi_x_O_waysWith 70 rfl) rfl ?_
    refine gx_iload hX (gx_dt dt_mi_x_O_waysWith 71 rfl) rfl ?_
    refine gx_if_eq hX (tgt := 136) (gx_dt dt_mi_x_O_waysWith 72 rfl) (by decide) (fun c3 => ?_) (fun c3 => ?_)
    · have h := gx_ifp c3 h
      refine gx_iconst hX (v := 0) (gx_dt dt_mi_x_O_waysWith 75 rfl) (by decide) ?_
      obtain ⟨r4, e_r4, h⟩ := gx_bd h
      refine gx_callSi hX (gx_dt dt_mi_x_O_waysWith 76 rfl) ln_O_49_x_O_spotOf mo_x_O_spotOf ms_x_O_spotOf (gx_rmb rfl) rfl (k_x_O_spotOf e_r4) rfl rfl (Nat.le_of_ble_eq_true rfl) ?_
      obtain ⟨r5, e_r5, h⟩ := gx_bd h
      refine gx_callSi hX (gx_dt dt_mi_x_O_waysWith 77 rfl) ln_O_56_x_E_cell mo_x_E_cell ms_x_E_cell (gx_rmb rfl) rfl (k_x_E_cell e_r5) rfl rfl (Nat.le_of_ble_eq_true rfl) ?_
      obtain rfl := Option.some.inj h
      exact gx_iret hX (gx_dt dt_mi_x_O_waysWith 78 rfl) rfl hres hwr
    · have h := gx_ifn c3 h
      refine gx_iconst hX (v := 1) (gx_dt dt_mi_x_O_waysWith 73 rfl) (by decide) ?_
      refine gx_goto hX (tgt := 137) (gx_dt dt_mi_x_O_waysWith 74 rfl) (by decide) ?_
      obtain ⟨r6, e_r6, h⟩ := gx_bd h
      refine gx_callSi hX (gx_dt dt_mi_x_O_waysWith 76 rfl) ln_O_49_x_O_spotOf mo_x_O_spotOf ms_x_O_spotOf (gx_rmb rfl) rfl (k_x_O_spotOf e_r6) rfl rfl (Nat.le_of_ble_eq_true rfl) ?_
      obtain ⟨r7, e_r7, h⟩ := gx_bd h
      refine gx_callSi hX (gx_dt dt_mi_x_O_waysWith 77 rfl) ln_O_56_x_E_cell mo_x_E_cell ms_x_E_cell (gx_rmb rfl) rfl (k_x_E_cell e_r7) rfl rfl (Nat.le_of_ble_eq_true rfl) ?_
      obtain rfl := Option.some.inj h
      exact gx_iret hX (gx_dt dt_mi_x_O_waysWith 78 rfl) rfl hres hwr
  · have h := gx_ifp c2 h
    refine gx_iconst hX (v := 0) (gx_dt dt_mi_x_O_waysWith 61 rfl) (by decide) ?_
    obtain rfl := Option.some.inj h
    exact gx_iret hX (gx_dt dt_mi_x_O_waysWith 62 rfl) rfl hres hwr
theorem t_x_O_waysWith_88 {X : gx_X} (hX : gx_Ok X mi_x_O_waysWith) {R : Int32 × gx_Wd} (hres : gx_res X = some (.inl R.1)) (hwr : gx_wr X = R.2) (b1 : Int32) (b2 : Int32) (b3 : Int32) (b4 : Int32) (b5 : Int32) (b6 : Int32) (b7 : Int32) (b8 : Int32) (w : gx_Wd) (h : x_O_waysWith_88 b1 b2 b3 b4 b5 b6 b7 b8 w = some R) : gx_G X mi_x_O_waysWith 88 [some (.inr 35), some (.inl b1), some (.inl b2), some (.inl b3), some (.inl b4), some (.inl b5), some (.inl b6), some (.inl b7), some (.inl b8)] [] w := by
  rw [x_O_waysWith_88] at h
  refine gx_aload_n hX (gx_dt dt_mi_x_O_waysWith 48 rfl) rfl ?_
  refine gx_iload hX (gx_dt dt_mi_x_O_waysWith 49 rfl) rfl ?_
  refine gx_iload_n hX (gx_dt dt_mi_x_O_waysWith 50 rfl) rfl ?_
  refine gx_iload_n hX (gx_dt dt_mi_x_O_waysWith 51 rfl) rfl ?_
  refine gx_iload hX (gx_dt dt_mi_x_O_waysWith 52 rfl) rfl ?_
  refine gx_if_eq hX (tgt := 103) (gx_dt dt_mi_x_O_waysWith 53 rfl) (by decide) (fun c1 => ?_) (fun c1 => ?_)
  · have h := gx_ifp c1 h
    refine gx_iconst hX (v := 2) (gx_dt dt_mi_x_O_waysWith 56 rfl) (by decide) ?_
    refine gx_iload hX (gx_dt dt_mi_x_O_waysWith 57 rfl) rfl ?_
    refine gx_imul hX (gx_dt dt_mi_x_O_waysWith 58 rfl) ?_
    exact gx_weak (gx_leS (gx_leS (gx_leN (gx_leN (gx_leS (gx_leN (gx_leN (gx_leS gx_le0)))))))) (t_x_O_waysWith_107 hX hres hwr _ _ _ _ _ _ _ _ h)
  · have h := gx_ifn c1 h
    refine gx_iload hX (gx_dt dt_mi_x_O_waysWith 54 rfl) rfl ?_
    refine gx_goto hX (tgt := 107) (gx_dt dt_mi_x_O_waysWith 55 rfl) (by decide) ?_
    exact gx_weak (gx_leS (gx_leS (gx_leN (gx_leN (gx_leS (gx_leN (gx_leN (gx_leS gx_le0)))))))) (t_x_O_waysWith_107 hX hres hwr _ _ _ _ _ _ _ _ h)
theorem t_x_O_waysWith_69 {X : gx_X} (hX : gx_Ok X mi_x_O_waysWith) {R : Int32 × gx_Wd} (hres : gx_res X = some (.inl R.1)) (hwr : gx_wr X = R.2) (b1 : Int32) (b2 : Int32) (b3 : Int32) (b4 : Int32) (b5 : Int32) (b6 : Int32) (b7 : Int32) (s0 : Int32) (w : gx_Wd) (h : x_O_waysWith_69 b1 b2 b3 b4 b5 b6 b7 s0 w = some R) : gx_G X mi_x_O_waysWith 69 [some (.inr 35), some (.inl b1), some (.inl b2), some (.inl b3), some (.inl b4), some (.inl b5), some (.inl b6), some (.inl b7)] [.inl s0] w := by
  rw [x_O_waysWith_69] at h
  refine gx_istore hX (ls' := [some (.inr 35), some (.inl b1), some (.inl b2), some (.inl b3), some (.inl b4), some (.inl b5), some (.inl b6), some (.inl b7), some (.inl s0)]) (gx_dt dt_mi_x_O_waysWith 39 rfl) (by decide) rfl ?_
  refine gx_iload hX (gx_dt dt_mi_x_O_waysWith 40 rfl) rfl ?_
  refine gx_if_ne hX (tgt := 88) (gx_dt dt_mi_x_O_waysWith 41 rfl) (by decide) (fun c1 => ?_) (fun c1 => ?_)
  · have h := gx_ifn c1 h
    exact gx_weak (gx_leS (gx_leS (gx_leS (gx_leS (gx_leS (gx_leS (gx_leS (gx_leS (gx_leS gx_le0))))))))) (t_x_O_waysWith_88 hX hres hwr _ _ _ _ _ _ _ _ _ h)
  · have h := gx_ifp c1 h
    refine gx_iload hX (gx_dt dt_mi_x_O_waysWith 42 rfl) rfl ?_
    refine gx_if_ne hX (tgt := 88) (gx_dt dt_mi_x_O_waysWith 43 rfl) (by decide) (fun c2 => ?_) (fun c2 => ?_)
    · have h := gx_ifn c2 h
      exact gx_weak (gx_leS (gx_leS (gx_leS (gx_leS (gx_leS (gx_leS (gx_leS (gx_leS (gx_leS gx_le0))))))))) (t_x_O_waysWith_88 hX hres hwr _ _ _ _ _ _ _ _ _ h)
    · have h := gx_ifp c2 h
      refine gx_iload hX (gx_dt dt_mi_x_O_waysWith 44 rfl) rfl ?_
      refine gx_if_le hX (tgt := 88) (gx_dt dt_mi_x_O_waysWith 45 rfl) (by decide) (fun c3 => ?_) (fun c3 => ?_)
      · have h := gx_ifp c3 h
        exact gx_weak (gx_leS (gx_leS (gx_leS (gx_leS (gx_leS (gx_leS (gx_leS (gx_leS (gx_leS gx_le0))))))))) (t_x_O_waysWith_88 hX hres hwr _ _ _ _ _ _ _ _ _ h)
      · have h := gx_ifn c3 h
        refine gx_iconst hX (v := 0) (gx_dt dt_mi_x_O_waysWith 46 rfl) (by decide) ?_
        obtain rfl := Option.some.inj h
        exact gx_iret hX (gx_dt dt_mi_x_O_waysWith 47 rfl) rfl hres hwr
theorem t_x_O_waysWith_49 {X : gx_X} (hX : gx_Ok X mi_x_O_waysWith) {R : Int32 × gx_Wd} (hres : gx_res X = some (.inl R.1)) (hwr : gx_wr X = R.2) (b1 : Int32) (b2 : Int32) (b3 : Int32) (b4 : Int32) (b5 : Int32) (b6 : Int32) (s0 : Int32) (w : gx_Wd) (h : x_O_waysWith_49 b1 b2 b3 b4 b5 b6 s0 w = some R) : gx_G X mi_x_O_waysWith 49 [some (.inr 35), some (.inl b1), some (.inl b2), some (.inl b3), some (.inl b4), some (.inl b5), some (.inl b6)] [.inl s0] w := by
  rw [x_O_waysWith_49] at h
  refine gx_istore hX (ls' := [some (.inr 35), some (.inl b1), some (.inl b2), some (.inl b3), some (.inl b4), some (.inl b5), some (.inl b6), some (.inl s0)]) (gx_dt dt_mi_x_O_waysWith 28 rfl) (by decide) rfl ?_
  refine gx_aload_n hX (gx_dt dt_mi_x_O_waysWith 29 rfl) rfl ?_
  refine gx_iload hX (gx_dt dt_mi_x_O_waysWith 30 rfl) rfl ?_
  refine gx_iload hX (gx_dt dt_mi_x_O_waysWith 31 rfl) rfl ?_
  refine gx_iconst hX (v := 1) (gx_dt dt_mi_x_O_waysWith 32 rfl) (by decide) ?_
  refine gx_iadd hX (gx_dt dt_mi_x_O_waysWith 33 rfl) ?_
  obtain ⟨r1, e_r1, h⟩ := gx_bd h
  refine gx_callVi hX (gx_dt dt_mi_x_O_waysWith 34 rfl) ln_O_77_x_O_mostOf mo_x_O_mostOf mv_x_O_mostOf (gx_rmb rfl) sh_x_35 ⟨_, _, rfl⟩ rfl (k_x_O_mostOf e_r1) rfl rfl (Nat.le_of_ble_eq_true rfl) ?_
  refine gx_if_lt hX (tgt := 68) (gx_dt dt_mi_x_O_waysWith 35 rfl) (by decide) (fun c2 => ?_) (fun c2 => ?_)
  · have h := gx_ifp c2 h
    refine gx_iconst hX (v := 0) (gx_dt dt_mi_x_O_waysWith 38 rfl) (by decide) ?_
    exact gx_weak (gx_leS (gx_leS (gx_leS (gx_leS (gx_leS (gx_leS (gx_leS (gx_leS gx_le0)))))))) (t_x_O_waysWith_69 hX hres hwr _ _ _ _ _ _ _ _ _ h)
  · have h := gx_ifn c2 h
    refine gx_iconst hX (v := 1) (gx_dt dt_mi_x_O_waysWith 36 rfl) (by decide) ?_
    refine gx_goto hX (tgt := 69) (gx_dt dt_mi_x_O_waysWith 37 rfl) (by decide) ?_
    exact gx_weak (gx_leS (gx_leS (gx_leS (gx_leS (gx_leS (gx_leS (gx_leS (gx_leS gx_le0)))))))) (t_x_O_waysWith_69 hX hres hwr _ _ _ _ _ _ _ _ _ h)
theorem k_x_O_waysWith {a1 : Int32} {a2 : Int32} {a3 : Int32} {a4 : Int32} {w : gx_Wd} {R : Int32 × gx_Wd} (h : x_O_waysWith a1 a2 a3 a4 w = some R) : gx_MT mi_x_O_waysWith [.inr 35, .inl a1, .inl a2, .inl a3, .inl a4] w (some (.inl R.1)) R.2 := by
  refine gx_met (by decide +kernel) (Nat.le_of_ble_eq_true rfl) (fun X hX hres hwr => ?_)
  show gx_G X mi_x_O_waysWith 0 [some (.inr 35), some (.inl a1), some (.inl a2), some (.inl a3), some (.inl a4)] [] w
  rw [x_O_waysWith] at h
  refine gx_iload_n hX (gx_dt dt_mi_x_O_waysWith 0 rfl) rfl ?_
  refine gx_iload hX (gx_dt dt_mi_x_O_waysWith 1 rfl) rfl ?_
  refine gx_ishr hX (gx_dt dt_mi_x_O_waysWith 2 rfl) ?_
  refine gx_iconst hX (v := 1) (gx_dt dt_mi_x_O_waysWith 3 rfl) (by decide) ?_
  refine gx_iand hX (gx_dt dt_mi_x_O_waysWith 4 rfl) ?_
  refine gx_iconst hX (v := 1) (gx_dt dt_mi_x_O_waysWith 5 rfl) (by decide) ?_
  refine gx_ic_ne hX (tgt := 12) (gx_dt dt_mi_x_O_waysWith 6 rfl) (by decide) (fun c1 => ?_) (fun c1 => ?_)
  · have h := gx_ifn c1 h
    refine gx_iload_n hX (gx_dt dt_mi_x_O_waysWith 9 rfl) rfl ?_
    obtain ⟨r2, e_r2, h⟩ := gx_bd h
    refine gx_callSi hX (gx_dt dt_mi_x_O_waysWith 10 rfl) ln_O_60_x_I_bitCount mo_x_I_bitCount ms_x_I_bitCount (gx_rmb rfl) rfl (k_x_I_bitCount e_r2) rfl rfl (Nat.le_of_ble_eq_true rfl) ?_
    refine gx_iconst hX (v := 1) (gx_dt dt_mi_x_O_waysWith 11 rfl) (by decide) ?_
    refine gx_isub hX (gx_dt dt_mi_x_O_waysWith 12 rfl) ?_
    obtain ⟨v3, e_v3, h⟩ := gx_bd h
    refine gx_top e_v3 ?_
    refine gx_istore hX (ls' := [some (.inr 35), some (.inl a1), some (.inl a2), some (.inl a3), some (.inl a4), some (.inl v3)]) (gx_dt dt_mi_x_O_waysWith 13 rfl) (by decide) rfl ?_
    refine gx_aload_n hX (gx_dt dt_mi_x_O_waysWith 14 rfl) rfl ?_
    refine gx_getr hX fl_O_9 sh_x_35 rfl (gx_dt dt_mi_x_O_waysWith 15 rfl) ?_
    refine gx_getr hX fl_O_74 sh_x_22 rfl (gx_dt dt_mi_x_O_waysWith 16 rfl) ?_
    refine gx_iload hX (gx_dt dt_mi_x_O_waysWith 17 rfl) rfl ?_
    obtain ⟨r4, e_r4, h⟩ := gx_bd h
    refine gx_callSi hX (gx_dt dt_mi_x_O_waysWith 18 rfl) ln_O_56_x_E_cell mo_x_E_cell ms_x_E_cell (gx_rmb rfl) rfl (k_x_E_cell e_r4) rfl rfl (Nat.le_of_ble_eq_true rfl) ?_
    refine gx_istore hX (ls' := [some (.inr 35), some (.inl a1), some (.inl a2), some (.inl a3), some (.inl a4), some (.inl v3), some (.inl (r4.1))]) (gx_dt dt_mi_x_O_waysWith 19 rfl) (by decide) rfl ?_
    refine gx_aload_n hX (gx_dt dt_mi_x_O_waysWith 20 rfl) rfl ?_
    refine gx_iload_n hX (gx_dt dt_mi_x_O_waysWith 21 rfl) rfl ?_
    refine gx_iload hX (gx_dt dt_mi_x_O_waysWith 22 rfl) rfl ?_
    obtain ⟨r5, e_r5, h⟩ := gx_bd h
    refine gx_callVi hX (gx_dt dt_mi_x_O_waysWith 23 rfl) ln_O_77_x_O_mostOf mo_x_O_mostOf mv_x_O_mostOf (gx_rmb rfl) sh_x_35 ⟨_, _, rfl⟩ rfl (k_x_O_mostOf e_r5) rfl rfl (Nat.le_of_ble_eq_true rfl) ?_
    refine gx_if_lt hX (tgt := 48) (gx_dt dt_mi_x_O_waysWith 24 rfl) (by decide) (fun c6 => ?_) (fun c6 => ?_)
    · have h := gx_ifp c6 h
      refine gx_iconst hX (v := 0) (gx_dt dt_mi_x_O_waysWith 27 rfl) (by decide) ?_
      exact gx_weak (gx_leS (gx_leS (gx_leS (gx_leS (gx_leS (gx_leS (gx_leS gx_le0))))))) (t_x_O_waysWith_49 hX hres hwr _ _ _ _ _ _ _ _ h)
    · have h := gx_ifn c6 h
      refine gx_iconst hX (v := 1) (gx_dt dt_mi_x_O_waysWith 25 rfl) (by decide) ?_
      refine gx_goto hX (tgt := 49) (gx_dt dt_mi_x_O_waysWith 26 rfl) (by decide) ?_
      exact gx_weak (gx_leS (gx_leS (gx_leS (gx_leS (gx_leS (gx_leS (gx_leS gx_le0))))))) (t_x_O_waysWith_49 hX hres hwr _ _ _ _ _ _ _ _ h)
  · have h := gx_ifp c1 h
    refine gx_iconst hX (v := 0) (gx_dt dt_mi_x_O_waysWith 7 rfl) (by decide) ?_
    obtain rfl := Option.some.inj h
    exact gx_iret hX (gx_dt dt_mi_x_O_waysWith 8 rfl) rfl hres hwr
-- EachBearsPillar$Orders.waysOn(III)I
def x_O_waysOn_49 : Nat → Int32 → Int32 → Int32 → Int32 → Int32 → gx_Wd → Option (Int32 × gx_Wd)
  | 0, _, _, _, _, _, _ => none
  | n + 1, b1, b2, b3, b5, b6, w =>
  if w 1 0 ≤ b6 then
    some (b5, w)
  else
  (x_O_waysWith b1 b2 b3 b6 w).bind fun r2 =>
  (some (b5 + r2.1)).bind fun v3 =>
  (some (b6 + 1)).bind fun v4 =>
  (x_O_waysOn_49 n) b1 b2 b3 v3 v4 r2.2
def x_O_waysOn (a1 : Int32) (a2 : Int32) (a3 : Int32) (w : gx_Wd) : Option (Int32 × gx_Wd) :=
  (x_I_bitCount a1 w).bind fun r1 =>
  (some (r1.1 - 1)).bind fun v2 =>
  if v2 + 1 < r1.2 1 0 then
    x_O_waysOn_49 6000 a1 a2 a3 0 0 r1.2
  else
  (x_O_bearsLeft v2 a2 a3 0 r1.2).bind fun r4 =>
  if r4.1 = 0 then
    some (0, r4.2)
  else
  some (1, r4.2)
theorem t_x_O_waysOn_49 {X : gx_X} (hX : gx_Ok X mi_x_O_waysOn) {R : Int32 × gx_Wd} (hres : gx_res X = some (.inl R.1)) (hwr : gx_wr X = R.2) : ∀ (n : Nat) (b1 : Int32) (b2 : Int32) (b3 : Int32) (b5 : Int32) (b6 : Int32) (w : gx_Wd), x_O_waysOn_49 n b1 b2 b3 b5 b6 w = some R → gx_G X mi_x_O_waysOn 49 [some (.inr 35), some (.inl b1), some (.inl b2), some (.inl b3), none, some (.inl b5), some (.inl b6)] [] w := by
  intro n
  induction n with
  | zero => intro b1 b2 b3 b5 b6 w h; rw [x_O_waysOn_49] at h; cases h
  | succ n ih =>
    intro b1 b2 b3 b5 b6 w h
    rw [x_O_waysOn_49] at h
    refine gx_iload hX (gx_dt dt_mi_x_O_waysOn 28 rfl) rfl ?_
    refine gx_aload_n hX (gx_dt dt_mi_x_O_waysOn 29 rfl) rfl ?_
    refine gx_getr hX fl_O_9 sh_x_35 rfl (gx_dt dt_mi_x_O_waysOn 30 rfl) ?_
    refine gx_getr hX fl_O_22 sh_x_22 rfl (gx_dt dt_mi_x_O_waysOn 31 rfl) ?_
    refine gx_geti hX fl_O_28 sh_x_1 rfl (gx_dt dt_mi_x_O_waysOn 32 rfl) ?_
    refine gx_ic_ge hX (tgt := 84) (gx_dt dt_mi_x_O_waysOn 33 rfl) (by decide) (fun c1 => ?_) (fun c1 => ?_)
    · have h := gx_ifp c1 h
      refine gx_iload hX (gx_dt dt_mi_x_O_waysOn 45 rfl) rfl ?_
      obtain rfl := Option.some.inj h
      exact gx_iret hX (gx_dt dt_mi_x_O_waysOn 46 rfl) rfl hres hwr
    · have h := gx_ifn c1 h
      refine gx_iload hX (gx_dt dt_mi_x_O_waysOn 34 rfl) rfl ?_
      refine gx_aload_n hX (gx_dt dt_mi_x_O_waysOn 35 rfl) rfl ?_
      refine gx_iload_n hX (gx_dt dt_mi_x_O_waysOn 36 rfl) rfl ?_
      refine gx_iload_n hX (gx_dt dt_mi_x_O_waysOn 37 rfl) rfl ?_
      refine gx_iload_n hX (gx_dt dt_mi_x_O_waysOn 38 rfl) rfl ?_
      refine gx_iload hX (gx_dt dt_mi_x_O_waysOn 39 rfl) rfl ?_
      obtain ⟨r2, e_r2, h⟩ := gx_bd h
      refine gx_callVi hX (gx_dt dt_mi_x_O_waysOn 40 rfl) ln_O_70_x_O_waysWith mo_x_O_waysWith mv_x_O_waysWith (gx_rmb rfl) sh_x_35 ⟨_, _, rfl⟩ rfl (k_x_O_waysWith e_r2) rfl rfl (Nat.le_of_ble_eq_true rfl) ?_
      refine gx_iadd hX (gx_dt dt_mi_x_O_waysOn 41 rfl) ?_
      obtain ⟨v3, e_v3, h⟩ := gx_bd h
      refine gx_top e_v3 ?_
      refine gx_istore hX (ls' := [some (.inr 35), some (.inl b1), some (.inl b2), some (.inl b3), none, some (.inl v3), some (.inl b6)]) (gx_dt dt_mi_x_O_waysOn 42 rfl) (by decide) rfl ?_
      obtain ⟨v4, e_v4, h⟩ := gx_bd h
      refine gx_iinc hX (v := v4) (ls' := [some (.inr 35), some (.inl b1), some (.inl b2), some (.inl b3), none, some (.inl v3), some (.inl v4)]) (gx_dt dt_mi_x_O_waysOn 43 rfl) rfl (gx_ii e_v4 (by decide)) (by decide) rfl ?_
      refine gx_goto hX (tgt := 49) (gx_dt dt_mi_x_O_waysOn 44 rfl) (by decide) ?_
      exact gx_weak (gx_leS (gx_leS (gx_leS (gx_leS (gx_leN (gx_leS (gx_leS gx_le0))))))) (ih _ _ _ _ _ _ h)
theorem k_x_O_waysOn {a1 : Int32} {a2 : Int32} {a3 : Int32} {w : gx_Wd} {R : Int32 × gx_Wd} (h : x_O_waysOn a1 a2 a3 w = some R) : gx_MT mi_x_O_waysOn [.inr 35, .inl a1, .inl a2, .inl a3] w (some (.inl R.1)) R.2 := by
  refine gx_met (by decide +kernel) (Nat.le_of_ble_eq_true rfl) (fun X hX hres hwr => ?_)
  show gx_G X mi_x_O_waysOn 0 [some (.inr 35), some (.inl a1), some (.inl a2), some (.inl a3)] [] w
  rw [x_O_waysOn] at h
  refine gx_iload_n hX (gx_dt dt_mi_x_O_waysOn 0 rfl) rfl ?_
  obtain ⟨r1, e_r1, h⟩ := gx_bd h
  refine gx_callSi hX (gx_dt dt_mi_x_O_waysOn 1 rfl) ln_O_60_x_I_bitCount mo_x_I_bitCount ms_x_I_bitCount (gx_rmb rfl) rfl (k_x_I_bitCount e_r1) rfl rfl (Nat.le_of_ble_eq_true rfl) ?_
  refine gx_iconst hX (v := 1) (gx_dt dt_mi_x_O_waysOn 2 rfl) (by decide) ?_
  refine gx_isub hX (gx_dt dt_mi_x_O_waysOn 3 rfl) ?_
  obtain ⟨v2, e_v2, h⟩ := gx_bd h
  refine gx_top e_v2 ?_
  refine gx_istore hX (ls' := [some (.inr 35), some (.inl a1), some (.inl a2), some (.inl a3), some (.inl v2)]) (gx_dt dt_mi_x_O_waysOn 4 rfl) (by decide) rfl ?_
  refine gx_iload hX (gx_dt dt_mi_x_O_waysOn 5 rfl) rfl ?_
  refine gx_iconst hX (v := 1) (gx_dt dt_mi_x_O_waysOn 6 rfl) (by decide) ?_
  refine gx_iadd hX (gx_dt dt_mi_x_O_waysOn 7 rfl) ?_
  refine gx_aload_n hX (gx_dt dt_mi_x_O_waysOn 8 rfl) rfl ?_
  refine gx_getr hX fl_O_9 sh_x_35 rfl (gx_dt dt_mi_x_O_waysOn 9 rfl) ?_
  refine gx_getr hX fl_O_22 sh_x_22 rfl (gx_dt dt_mi_x_O_waysOn 10 rfl) ?_
  refine gx_geti hX fl_O_28 sh_x_1 rfl (gx_dt dt_mi_x_O_waysOn 11 rfl) ?_
  refine gx_ic_lt hX (tgt := 43) (gx_dt dt_mi_x_O_waysOn 12 rfl) (by decide) (fun c3 => ?_) (fun c3 => ?_)
  · have h := gx_ifp c3 h
    refine gx_iconst hX (v := 0) (gx_dt dt_mi_x_O_waysOn 24 rfl) (by decide) ?_
    refine gx_istore hX (ls' := [some (.inr 35), some (.inl a1), some (.inl a2), some (.inl a3), some (.inl v2), some (.inl (0))]) (gx_dt dt_mi_x_O_waysOn 25 rfl) (by decide) rfl ?_
    refine gx_iconst hX (v := 0) (gx_dt dt_mi_x_O_waysOn 26 rfl) (by decide) ?_
    refine gx_istore hX (ls' := [some (.inr 35), some (.inl a1), some (.inl a2), some (.inl a3), some (.inl v2), some (.inl (0)), some (.inl (0))]) (gx_dt dt_mi_x_O_waysOn 27 rfl) (by decide) rfl ?_
    exact gx_weak (gx_leS (gx_leS (gx_leS (gx_leS (gx_leN (gx_leS (gx_leS gx_le0))))))) (t_x_O_waysOn_49 hX hres hwr _ _ _ _ _ _ _ h)
  · have h := gx_ifn c3 h
    refine gx_aload_n hX (gx_dt dt_mi_x_O_waysOn 13 rfl) rfl ?_
    refine gx_iload hX (gx_dt dt_mi_x_O_waysOn 14 rfl) rfl ?_
    refine gx_iload_n hX (gx_dt dt_mi_x_O_waysOn 15 rfl) rfl ?_
    refine gx_iload_n hX (gx_dt dt_mi_x_O_waysOn 16 rfl) rfl ?_
    refine gx_iconst hX (v := 0) (gx_dt dt_mi_x_O_waysOn 17 rfl) (by decide) ?_
    obtain ⟨r4, e_r4, h⟩ := gx_bd h
    refine gx_callVi hX (gx_dt dt_mi_x_O_waysOn 18 rfl) ln_O_66_x_O_bearsLeft mo_x_O_bearsLeft mv_x_O_bearsLeft (gx_rmb rfl) sh_x_35 ⟨_, _, rfl⟩ rfl (k_x_O_bearsLeft e_r4) rfl rfl (Nat.le_of_ble_eq_true rfl) ?_
    refine gx_if_eq hX (tgt := 41) (gx_dt dt_mi_x_O_waysOn 19 rfl) (by decide) (fun c5 => ?_) (fun c5 => ?_)
    · have h := gx_ifp c5 h
      refine gx_iconst hX (v := 0) (gx_dt dt_mi_x_O_waysOn 22 rfl) (by decide) ?_
      obtain rfl := Option.some.inj h
      exact gx_iret hX (gx_dt dt_mi_x_O_waysOn 23 rfl) rfl hres hwr
    · have h := gx_ifn c5 h
      refine gx_iconst hX (v := 1) (gx_dt dt_mi_x_O_waysOn 20 rfl) (by decide) ?_
      refine gx_goto hX (tgt := 42) (gx_dt dt_mi_x_O_waysOn 21 rfl) (by decide) ?_
      obtain rfl := Option.some.inj h
      exact gx_iret hX (gx_dt dt_mi_x_O_waysOn 23 rfl) rfl hres hwr
-- EachBearsPillar$Orders.fill()V
def x_O_fill_169 (K101 : Int32 → Int32 → gx_Wd → Option (gx_Wd)) (b1 : Int32) (b2 : Int32) (w : gx_Wd) : Option (gx_Wd) :=
  (some (b2 + (-1))).bind fun v1 =>
  K101 b1 v1 w
def x_O_fill_163 (K101 : Int32 → Int32 → gx_Wd → Option (gx_Wd)) (K107 : Int32 → Int32 → Int32 → gx_Wd → Option (gx_Wd)) (b1 : Int32) (b2 : Int32) (b3 : Int32) (w : gx_Wd) : Option (gx_Wd) :=
  (some (b3 + 1)).bind fun v1 =>
  K107 b1 b2 v1 w
def x_O_fill_107 (K101 : Int32 → Int32 → gx_Wd → Option (gx_Wd)) : Nat → Int32 → Int32 → Int32 → gx_Wd → Option (gx_Wd)
  | 0, _, _, _, _ => none
  | n + 1, b1, b2, b3, w =>
  if b1 ≤ b3 then
    x_O_fill_169 K101 b1 b2 w
  else
  if (b2 >>> (b3 &&& 31)) &&& 1 = 1 then
    (x_O_spotOf b2 b3 0 w).bind fun r3 =>
    (x_O_waysOn b2 b3 0 r3.2).bind fun r4 =>
    (x_E_setCell 37 r3.1 r4.1 r4.2).bind fun r5 =>
    (x_O_spotOf b2 b3 1 r5.2).bind fun r6 =>
    (x_O_waysOn b2 b3 1 r6.2).bind fun r7 =>
    (x_E_setCell 37 r6.1 r7.1 r7.2).bind fun r8 =>
    x_O_fill_163 K101 (x_O_fill_107 K101 n) b1 b2 b3 r8.2
  else
    x_O_fill_163 K101 (x_O_fill_107 K101 n) b1 b2 b3 w
def x_O_fill_101 : Nat → Int32 → Int32 → gx_Wd → Option (gx_Wd)
  | 0, _, _, _ => none
  | n + 1, b1, b2, w =>
  if b2 ≤ 0 then
    some w
  else
  x_O_fill_107 (x_O_fill_101 n) 6000 b1 b2 0 w
def x_O_fill_95 (b1 : Int32) (w : gx_Wd) : Option (gx_Wd) :=
  (some ((1 <<< (b1 &&& 31)) - 1)).bind fun v1 =>
  x_O_fill_101 6000 b1 v1 w
def x_O_fill_89 (K13 : Int32 → Int32 → gx_Wd → Option (gx_Wd)) (b1 : Int32) (b2 : Int32) (w : gx_Wd) : Option (gx_Wd) :=
  (some (b2 + 1)).bind fun v1 =>
  K13 b1 v1 w
def x_O_fill_65 (K13 : Int32 → Int32 → gx_Wd → Option (gx_Wd)) (K20 : Int32 → Int32 → Int32 → gx_Wd → Option (gx_Wd)) (b1 : Int32) (b2 : Int32) (b3 : Int32) (s0 : Int32) (w : gx_Wd) : Option (gx_Wd) :=
  (x_E_setCell 36 ((b2 * 7) + b3) s0 w).bind fun r1 =>
  (some (b3 + 1)).bind fun v2 =>
  K20 b1 b2 v2 r1.2
def x_O_fill_20 (K13 : Int32 → Int32 → gx_Wd → Option (gx_Wd)) : Nat → Int32 → Int32 → Int32 → gx_Wd → Option (gx_Wd)
  | 0, _, _, _, _ => none
  | n + 1, b1, b2, b3, w =>
  if b1 ≤ b3 then
    x_O_fill_89 K13 b1 b2 w
  else
  (x_M_topOf b2 b3 w).bind fun r2 =>
  (x_M_canBear b2 r2.1 r2.2).bind fun r3 =>
  if r3.1 = 0 then
    x_O_fill_65 K13 (x_O_fill_20 K13 n) b1 b2 b3 (-1) r3.2
  else
  (x_M_mightOf b2 r2.1 r3.2).bind fun r5 =>
  x_O_fill_65 K13 (x_O_fill_20 K13 n) b1 b2 b3 (2 * r5.1) r5.2
def x_O_fill_13 : Nat → Int32 → Int32 → gx_Wd → Option (gx_Wd)
  | 0, _, _, _ => none
  | n + 1, b1, b2, w =>
  if b1 ≤ b2 then
    x_O_fill_95 b1 w
  else
  x_O_fill_20 (x_O_fill_13 n) 6000 b1 b2 0 w
def x_O_fill (w : gx_Wd) : Option (gx_Wd) :=
  x_O_fill_13 6000 (w 1 0) 0 w
theorem t_x_O_fill_169 {X : gx_X} (hX : gx_Ok X mi_x_O_fill) {R : gx_Wd} (hres : gx_res X = none) (hwr : gx_wr X = R) {K101 : Int32 → Int32 → gx_Wd → Option (gx_Wd)} (hK101 : ∀ (b1 : Int32) (b2 : Int32) (w : gx_Wd), K101 b1 b2 w = some R → gx_G X mi_x_O_fill 101 [some (.inr 35), some (.inl b1), some (.inl b2)] [] w) (b1 : Int32) (b2 : Int32) (w : gx_Wd) (h : x_O_fill_169 K101 b1 b2 w = some R) : gx_G X mi_x_O_fill 169 [some (.inr 35), some (.inl b1), some (.inl b2)] [] w := by
  rw [x_O_fill_169] at h
  obtain ⟨v1, e_v1, h⟩ := gx_bd h
  refine gx_iinc hX (v := v1) (ls' := [some (.inr 35), some (.inl b1), some (.inl v1)]) (gx_dt dt_mi_x_O_fill 99 rfl) rfl (gx_ii e_v1 (by decide)) (by decide) rfl ?_
  refine gx_goto hX (tgt := 101) (gx_dt dt_mi_x_O_fill 100 rfl) (by decide) ?_
  exact gx_weak (gx_leS (gx_leS (gx_leS gx_le0))) (hK101 _ _ _ h)
theorem t_x_O_fill_163 {X : gx_X} (hX : gx_Ok X mi_x_O_fill) {R : gx_Wd} (hres : gx_res X = none) (hwr : gx_wr X = R) {K101 : Int32 → Int32 → gx_Wd → Option (gx_Wd)} (hK101 : ∀ (b1 : Int32) (b2 : Int32) (w : gx_Wd), K101 b1 b2 w = some R → gx_G X mi_x_O_fill 101 [some (.inr 35), some (.inl b1), some (.inl b2)] [] w) {K107 : Int32 → Int32 → Int32 → gx_Wd → Option (gx_Wd)} (hK107 : ∀ (b1 : Int32) (b2 : Int32) (b3 : Int32) (w : gx_Wd), K107 b1 b2 b3 w = some R → gx_G X mi_x_O_fill 107 [some (.inr 35), some (.inl b1), some (.inl b2), some (.inl b3)] [] w) (b1 : Int32) (b2 : Int32) (b3 : Int32) (w : gx_Wd) (h : x_O_fill_163 K101 K107 b1 b2 b3 w = some R) : gx_G X mi_x_O_fill 163 [some (.inr 35), some (.inl b1), some (.inl b2), some (.inl b3)] [] w := by
  rw [x_O_fill_163] at h
  obtain ⟨v1, e_v1, h⟩ := gx_bd h
  refine gx_iinc hX (v := v1) (ls' := [some (.inr 35), some (.inl b1), some (.inl b2), some (.inl v1)]) (gx_dt dt_mi_x_O_fill 97 rfl) rfl (gx_ii e_v1 (by decide)) (by decide) rfl ?_
  refine gx_goto hX (tgt := 107) (gx_dt dt_mi_x_O_fill 98 rfl) (by decide) ?_
  exact gx_weak (gx_leS (gx_leS (gx_leS (gx_leS gx_le0)))) (hK107 _ _ _ _ h)
theorem t_x_O_fill_107 {X : gx_X} (hX : gx_Ok X mi_x_O_fill) {R : gx_Wd} (hres : gx_res X = none) (hwr : gx_wr X = R) {K101 : Int32 → Int32 → gx_Wd → Option (gx_Wd)} (hK101 : ∀ (b1 : Int32) (b2 : Int32) (w : gx_Wd), K101 b1 b2 w = some R → gx_G X mi_x_O_fill 101 [some (.inr 35), some (.inl b1), some (.inl b2)] [] w) : ∀ (n : Nat) (b1 : Int32) (b2 : Int32) (b3 : Int32) (w : gx_Wd), x_O_fill_107 K101 n b1 b2 b3 w = some R → gx_G X mi_x_O_fill 107 [some (.inr 35), some (.inl b1), some (.inl b2), some (.inl b3)] [] w := by
  intro n
  induction n with
  | zero => intro b1 b2 b3 w h; rw [x_O_fill_107] at h; cases h
  | succ n ih =>
    intro b1 b2 b3 w h
    rw [x_O_fill_107] at h
    refine gx_iload_n hX (gx_dt dt_mi_x_O_fill 61 rfl) rfl ?_
    refine gx_iload_n hX (gx_dt dt_mi_x_O_fill 62 rfl) rfl ?_
    refine gx_ic_ge hX (tgt := 169) (gx_dt dt_mi_x_O_fill 63 rfl) (by decide) (fun c1 => ?_) (fun c1 => ?_)
    · have h := gx_ifp c1 h
      exact gx_weak (gx_leS (gx_leS (gx_leS gx_le0))) (t_x_O_fill_169 hX hres hwr hK101 _ _ _ h)
    · have h := gx_ifn c1 h
      refine gx_iload_n hX (gx_dt dt_mi_x_O_fill 64 rfl) rfl ?_
      refine gx_iload_n hX (gx_dt dt_mi_x_O_fill 65 rfl) rfl ?_
      refine gx_ishr hX (gx_dt dt_mi_x_O_fill 66 rfl) ?_
      refine gx_iconst hX (v := 1) (gx_dt dt_mi_x_O_fill 67 rfl) (by decide) ?_
      refine gx_iand hX (gx_dt dt_mi_x_O_fill 68 rfl) ?_
      refine gx_iconst hX (v := 1) (gx_dt dt_mi_x_O_fill 69 rfl) (by decide) ?_
      refine gx_ic_ne hX (tgt := 163) (gx_dt dt_mi_x_O_fill 70 rfl) (by decide) (fun c2 => ?_) (fun c2 => ?_)
      · have h := gx_ifn c2 h
        exact gx_weak (gx_leS (gx_leS (gx_leS (gx_leS gx_le0)))) (t_x_O_fill_163 hX hres hwr hK101 ih _ _ _ _ h)
      · have h := gx_ifp c2 h
        refine gx_aload_n hX (gx_dt dt_mi_x_O_fill 71 rfl) rfl ?_
        refine gx_getr hX fl_O_19 sh_x_35 rfl (gx_dt dt_mi_x_O_fill 72 rfl) ?_
        refine gx_iload_n hX (gx_dt dt_mi_x_O_fill 73 rfl) rfl ?_
        refine gx_iload_n hX (gx_dt dt_mi_x_O_fill 74 rfl) rfl ?_
        refine gx_iconst hX (v := 0) (gx_dt dt_mi_x_O_fill 75 rfl) (by decide) ?_
        obtain ⟨r3, e_r3, h⟩ := gx_bd h
        refine gx_callSi hX (gx_dt dt_mi_x_O_fill 76 rfl) ln_O_49_x_O_spotOf mo_x_O_spotOf ms_x_O_spotOf (gx_rmb rfl) rfl (k_x_O_spotOf e_r3) rfl rfl (Nat.le_of_ble_eq_true rfl) ?_
        refine gx_aload_n hX (gx_dt dt_mi_x_O_fill 77 rfl) rfl ?_
        refine gx_iload_n hX (gx_dt dt_mi_x_O_fill 78 rfl) rfl ?_
        refine gx_iload_n hX (gx_dt dt_mi_x_O_fill 79 rfl) rfl ?_
        refine gx_iconst hX (v := 0) (gx_dt dt_mi_x_O_fill 80 rfl) (by decide) ?_
        obtain ⟨r4, e_r4, h⟩ := gx_bd h
        refine gx_callVi hX (gx_dt dt_mi_x_O_fill 81 rfl) ln_O_53_x_O_waysOn mo_x_O_waysOn mv_x_O_waysOn (gx_rmb rfl) sh_x_35 ⟨_, _, rfl⟩ rfl (k_x_O_waysOn e_r4) rfl rfl (Nat.le_of_ble_eq_true rfl) ?_
        obtain ⟨r5, e_r5, h⟩ := gx_bd h
        refine gx_callSi hX (gx_dt dt_mi_x_O_fill 82 rfl) ln_O_45_x_E_setCell mo_x_E_setCell ms_x_E_setCell (gx_rmb rfl) rfl (k_x_E_setCell e_r5) rfl rfl (Nat.le_of_ble_eq_true rfl) ?_
        refine gx_pop hX (gx_dt dt_mi_x_O_fill 83 rfl) ?_
        refine gx_aload_n hX (gx_dt dt_mi_x_O_fill 84 rfl) rfl ?_
        refine gx_getr hX fl_O_19 sh_x_35 rfl (gx_dt dt_mi_x_O_fill 85 rfl) ?_
        refine gx_iload_n hX (gx_dt dt_mi_x_O_fill 86 rfl) rfl ?_
        refine gx_iload_n hX (gx_dt dt_mi_x_O_fill 87 rfl) rfl ?_
        refine gx_iconst hX (v := 1) (gx_dt dt_mi_x_O_fill 88 rfl) (by decide) ?_
        obtain ⟨r6, e_r6, h⟩ := gx_bd h
        refine gx_callSi hX (gx_dt dt_mi_x_O_fill 89 rfl) ln_O_49_x_O_spotOf mo_x_O_spotOf ms_x_O_spotOf (gx_rmb rfl) rfl (k_x_O_spotOf e_r6) rfl rfl (Nat.le_of_ble_eq_true rfl) ?_
        refine gx_aload_n hX (gx_dt dt_mi_x_O_fill 90 rfl) rfl ?_
        refine gx_iload_n hX (gx_dt dt_mi_x_O_fill 91 rfl) rfl ?_
        refine gx_iload_n hX (gx_dt dt_mi_x_O_fill 92 rfl) rfl ?_
        refine gx_iconst hX (v := 1) (gx_dt dt_mi_x_O_fill 93 rfl) (by decide) ?_
        obtain ⟨r7, e_r7, h⟩ := gx_bd h
        refine gx_callVi hX (gx_dt dt_mi_x_O_fill 94 rfl) ln_O_53_x_O_waysOn mo_x_O_waysOn mv_x_O_waysOn (gx_rmb rfl) sh_x_35 ⟨_, _, rfl⟩ rfl (k_x_O_waysOn e_r7) rfl rfl (Nat.le_of_ble_eq_true rfl) ?_
        obtain ⟨r8, e_r8, h⟩ := gx_bd h
        refine gx_callSi hX (gx_dt dt_mi_x_O_fill 95 rfl) ln_O_45_x_E_setCell mo_x_E_setCell ms_x_E_setCell (gx_rmb rfl) rfl (k_x_E_setCell e_r8) rfl rfl (Nat.le_of_ble_eq_true rfl) ?_
        refine gx_pop hX (gx_dt dt_mi_x_O_fill 96 rfl) ?_
        exact gx_weak (gx_leS (gx_leS (gx_leS (gx_leS gx_le0)))) (t_x_O_fill_163 hX hres hwr hK101 ih _ _ _ _ h)
theorem t_x_O_fill_101 {X : gx_X} (hX : gx_Ok X mi_x_O_fill) {R : gx_Wd} (hres : gx_res X = none) (hwr : gx_wr X = R) : ∀ (n : Nat) (b1 : Int32) (b2 : Int32) (w : gx_Wd), x_O_fill_101 n b1 b2 w = some R → gx_G X mi_x_O_fill 101 [some (.inr 35), some (.inl b1), some (.inl b2)] [] w := by
  intro n
  induction n with
  | zero => intro b1 b2 w h; rw [x_O_fill_101] at h; cases h
  | succ n ih =>
    intro b1 b2 w h
    rw [x_O_fill_101] at h
    refine gx_iload_n hX (gx_dt dt_mi_x_O_fill 57 rfl) rfl ?_
    refine gx_if_le hX (tgt := 175) (gx_dt dt_mi_x_O_fill 58 rfl) (by decide) (fun c1 => ?_) (fun c1 => ?_)
    · have h := gx_ifp c1 h
      obtain rfl := Option.some.inj h
      exact gx_vret hX (gx_dt dt_mi_x_O_fill 101 rfl) rfl hres hwr
    · have h := gx_ifn c1 h
      refine gx_iconst hX (v := 0) (gx_dt dt_mi_x_O_fill 59 rfl) (by decide) ?_
      refine gx_istore_n hX (ls' := [some (.inr 35), some (.inl b1), some (.inl b2), some (.inl (0))]) (gx_dt dt_mi_x_O_fill 60 rfl) (by decide) rfl ?_
      exact gx_weak (gx_leS (gx_leS (gx_leS (gx_leS gx_le0)))) (t_x_O_fill_107 hX hres hwr ih _ _ _ _ _ h)
theorem t_x_O_fill_95 {X : gx_X} (hX : gx_Ok X mi_x_O_fill) {R : gx_Wd} (hres : gx_res X = none) (hwr : gx_wr X = R) (b1 : Int32) (w : gx_Wd) (h : x_O_fill_95 b1 w = some R) : gx_G X mi_x_O_fill 95 [some (.inr 35), some (.inl b1)] [] w := by
  rw [x_O_fill_95] at h
  refine gx_iconst hX (v := 1) (gx_dt dt_mi_x_O_fill 51 rfl) (by decide) ?_
  refine gx_iload_n hX (gx_dt dt_mi_x_O_fill 52 rfl) rfl ?_
  refine gx_ishl hX (gx_dt dt_mi_x_O_fill 53 rfl) ?_
  refine gx_iconst hX (v := 1) (gx_dt dt_mi_x_O_fill 54 rfl) (by decide) ?_
  refine gx_isub hX (gx_dt dt_mi_x_O_fill 55 rfl) ?_
  obtain ⟨v1, e_v1, h⟩ := gx_bd h
  refine gx_top e_v1 ?_
  refine gx_istore_n hX (ls' := [some (.inr 35), some (.inl b1), some (.inl v1)]) (gx_dt dt_mi_x_O_fill 56 rfl) (by decide) rfl ?_
  exact gx_weak (gx_leS (gx_leS (gx_leS gx_le0))) (t_x_O_fill_101 hX hres hwr _ _ _ _ h)
theorem t_x_O_fill_89 {X : gx_X} (hX : gx_Ok X mi_x_O_fill) {R : gx_Wd} (hres : gx_res X = none) (hwr : gx_wr X = R) {K13 : Int32 → Int32 → gx_Wd → Option (gx_Wd)} (hK13 : ∀ (b1 : Int32) (b2 : Int32) (w : gx_Wd), K13 b1 b2 w = some R → gx_G X mi_x_O_fill 13 [some (.inr 35), some (.inl b1), some (.inl b2)] [] w) (b1 : Int32) (b2 : Int32) (w : gx_Wd) (h : x_O_fill_89 K13 b1 b2 w = some R) : gx_G X mi_x_O_fill 89 [some (.inr 35), some (.inl b1), some (.inl b2)] [] w := by
  rw [x_O_fill_89] at h
  obtain ⟨v1, e_v1, h⟩ := gx_bd h
  refine gx_iinc hX (v := v1) (ls' := [some (.inr 35), some (.inl b1), some (.inl v1)]) (gx_dt dt_mi_x_O_fill 49 rfl) rfl (gx_ii e_v1 (by decide)) (by decide) rfl ?_
  refine gx_goto hX (tgt := 13) (gx_dt dt_mi_x_O_fill 50 rfl) (by decide) ?_
  exact gx_weak (gx_leS (gx_leS (gx_leS gx_le0))) (hK13 _ _ _ h)
theorem t_x_O_fill_65 {X : gx_X} (hX : gx_Ok X mi_x_O_fill) {R : gx_Wd} (hres : gx_res X = none) (hwr : gx_wr X = R) {K13 : Int32 → Int32 → gx_Wd → Option (gx_Wd)} (hK13 : ∀ (b1 : Int32) (b2 : Int32) (w : gx_Wd), K13 b1 b2 w = some R → gx_G X mi_x_O_fill 13 [some (.inr 35), some (.inl b1), some (.inl b2)] [] w) {K20 : Int32 → Int32 → Int32 → gx_Wd → Option (gx_Wd)} (hK20 : ∀ (b1 : Int32) (b2 : Int32) (b3 : Int32) (w : gx_Wd), K20 b1 b2 b3 w = some R → gx_G X mi_x_O_fill 20 [some (.inr 35), some (.inl b1), some (.inl b2), some (.inl b3)] [] w) (b1 : Int32) (b2 : Int32) (b3 : Int32) (s0 : Int32) (w : gx_Wd) (h : x_O_fill_65 K13 K20 b1 b2 b3 s0 w = some R) : gx_G X mi_x_O_fill 65 [some (.inr 35), some (.inl b1), some (.inl b2), some (.inl b3)] [.inl s0] w := by
  rw [x_O_fill_65] at h
  refine gx_istore hX (ls' := [some (.inr 35), some (.inl b1), some (.inl b2), some (.inl b3), none, some (.inl s0)]) (gx_dt dt_mi_x_O_fill 36 rfl) (by decide) rfl ?_
  refine gx_aload_n hX (gx_dt dt_mi_x_O_fill 37 rfl) rfl ?_
  refine gx_getr hX fl_O_15 sh_x_35 rfl (gx_dt dt_mi_x_O_fill 38 rfl) ?_
  refine gx_iload_n hX (gx_dt dt_mi_x_O_fill 39 rfl) rfl ?_
  refine gx_bipush hX (v := 7) (gx_dt dt_mi_x_O_fill 40 rfl) (by decide) ?_
  refine gx_imul hX (gx_dt dt_mi_x_O_fill 41 rfl) ?_
  refine gx_iload_n hX (gx_dt dt_mi_x_O_fill 42 rfl) rfl ?_
  refine gx_iadd hX (gx_dt dt_mi_x_O_fill 43 rfl) ?_
  refine gx_iload hX (gx_dt dt_mi_x_O_fill 44 rfl) rfl ?_
  obtain ⟨r1, e_r1, h⟩ := gx_bd h
  refine gx_callSi hX (gx_dt dt_mi_x_O_fill 45 rfl) ln_O_45_x_E_setCell mo_x_E_setCell ms_x_E_setCell (gx_rmb rfl) rfl (k_x_E_setCell e_r1) rfl rfl (Nat.le_of_ble_eq_true rfl) ?_
  refine gx_pop hX (gx_dt dt_mi_x_O_fill 46 rfl) ?_
  obtain ⟨v2, e_v2, h⟩ := gx_bd h
  refine gx_iinc hX (v := v2) (ls' := [some (.inr 35), some (.inl b1), some (.inl b2), some (.inl v2), none, some (.inl s0)]) (gx_dt dt_mi_x_O_fill 47 rfl) rfl (gx_ii e_v2 (by decide)) (by decide) rfl ?_
  refine gx_goto hX (tgt := 20) (gx_dt dt_mi_x_O_fill 48 rfl) (by decide) ?_
  exact gx_weak (gx_leS (gx_leS (gx_leS (gx_leS gx_le0)))) (hK20 _ _ _ _ h)
theorem t_x_O_fill_20 {X : gx_X} (hX : gx_Ok X mi_x_O_fill) {R : gx_Wd} (hres : gx_res X = none) (hwr : gx_wr X = R) {K13 : Int32 → Int32 → gx_Wd → Option (gx_Wd)} (hK13 : ∀ (b1 : Int32) (b2 : Int32) (w : gx_Wd), K13 b1 b2 w = some R → gx_G X mi_x_O_fill 13 [some (.inr 35), some (.inl b1), some (.inl b2)] [] w) : ∀ (n : Nat) (b1 : Int32) (b2 : Int32) (b3 : Int32) (w : gx_Wd), x_O_fill_20 K13 n b1 b2 b3 w = some R → gx_G X mi_x_O_fill 20 [some (.inr 35), some (.inl b1), some (.inl b2), some (.inl b3)] [] w := by
  intro n
  induction n with
  | zero => intro b1 b2 b3 w h; rw [x_O_fill_20] at h; cases h
  | succ n ih =>
    intro b1 b2 b3 w h
    rw [x_O_fill_20] at h
    refine gx_iload_n hX (gx_dt dt_mi_x_O_fill 12 rfl) rfl ?_
    refine gx_iload_n hX (gx_dt dt_mi_x_O_fill 13 rfl) rfl ?_
    refine gx_ic_ge hX (tgt := 89) (gx_dt dt_mi_x_O_fill 14 rfl) (by decide) (fun c1 => ?_) (fun c1 => ?_)
    · have h := gx_ifp c1 h
      exact gx_weak (gx_leS (gx_leS (gx_leS gx_le0))) (t_x_O_fill_89 hX hres hwr hK13 _ _ _ h)
    · have h := gx_ifn c1 h
      refine gx_aload_n hX (gx_dt dt_mi_x_O_fill 15 rfl) rfl ?_
      refine gx_getr hX fl_O_9 sh_x_35 rfl (gx_dt dt_mi_x_O_fill 16 rfl) ?_
      refine gx_iload_n hX (gx_dt dt_mi_x_O_fill 17 rfl) rfl ?_
      refine gx_iload_n hX (gx_dt dt_mi_x_O_fill 18 rfl) rfl ?_
      obtain ⟨r2, e_r2, h⟩ := gx_bd h
      refine gx_callVi hX (gx_dt dt_mi_x_O_fill 19 rfl) ln_O_34_x_M_topOf mo_x_M_topOf mv_x_M_topOf (gx_rmb rfl) sh_x_22 ⟨_, _, rfl⟩ rfl (k_x_M_topOf e_r2) rfl rfl (Nat.le_of_ble_eq_true rfl) ?_
      refine gx_istore hX (ls' := [some (.inr 35), some (.inl b1), some (.inl b2), some (.inl b3), some (.inl (r2.1))]) (gx_dt dt_mi_x_O_fill 20 rfl) (by decide) rfl ?_
      refine gx_aload_n hX (gx_dt dt_mi_x_O_fill 21 rfl) rfl ?_
      refine gx_getr hX fl_O_9 sh_x_35 rfl (gx_dt dt_mi_x_O_fill 22 rfl) ?_
      refine gx_iload_n hX (gx_dt dt_mi_x_O_fill 23 rfl) rfl ?_
      refine gx_iload hX (gx_dt dt_mi_x_O_fill 24 rfl) rfl ?_
      obtain ⟨r3, e_r3, h⟩ := gx_bd h
      refine gx_callVi hX (gx_dt dt_mi_x_O_fill 25 rfl) ln_O_38_x_M_canBear mo_x_M_canBear mv_x_M_canBear (gx_rmb rfl) sh_x_22 ⟨_, _, rfl⟩ rfl (k_x_M_canBear e_r3) rfl rfl (Nat.le_of_ble_eq_true rfl) ?_
      refine gx_if_eq hX (tgt := 64) (gx_dt dt_mi_x_O_fill 26 rfl) (by decide) (fun c4 => ?_) (fun c4 => ?_)
      · have h := gx_ifp c4 h
        refine gx_iconst hX (v := (-1)) (gx_dt dt_mi_x_O_fill 35 rfl) (by decide) ?_
        exact gx_weak (gx_leS (gx_leS (gx_leS (gx_leS gx_le0)))) (t_x_O_fill_65 hX hres hwr hK13 ih _ _ _ _ _ h)
      · have h := gx_ifn c4 h
        refine gx_iconst hX (v := 2) (gx_dt dt_mi_x_O_fill 27 rfl) (by decide) ?_
        refine gx_aload_n hX (gx_dt dt_mi_x_O_fill 28 rfl) rfl ?_
        refine gx_getr hX fl_O_9 sh_x_35 rfl (gx_dt dt_mi_x_O_fill 29 rfl) ?_
        refine gx_iload_n hX (gx_dt dt_mi_x_O_fill 30 rfl) rfl ?_
        refine gx_iload hX (gx_dt dt_mi_x_O_fill 31 rfl) rfl ?_
        obtain ⟨r5, e_r5, h⟩ := gx_bd h
        refine gx_callVi hX (gx_dt dt_mi_x_O_fill 32 rfl) ln_O_42_x_M_mightOf mo_x_M_mightOf mv_x_M_mightOf (gx_rmb rfl) sh_x_22 ⟨_, _, rfl⟩ rfl (k_x_M_mightOf e_r5) rfl rfl (Nat.le_of_ble_eq_true rfl) ?_
        refine gx_imul hX (gx_dt dt_mi_x_O_fill 33 rfl) ?_
        refine gx_goto hX (tgt := 65) (gx_dt dt_mi_x_O_fill 34 rfl) (by decide) ?_
        exact gx_weak (gx_leS (gx_leS (gx_leS (gx_leS gx_le0)))) (t_x_O_fill_65 hX hres hwr hK13 ih _ _ _ _ _ h)
theorem t_x_O_fill_13 {X : gx_X} (hX : gx_Ok X mi_x_O_fill) {R : gx_Wd} (hres : gx_res X = none) (hwr : gx_wr X = R) : ∀ (n : Nat) (b1 : Int32) (b2 : Int32) (w : gx_Wd), x_O_fill_13 n b1 b2 w = some R → gx_G X mi_x_O_fill 13 [some (.inr 35), some (.inl b1), some (.inl b2)] [] w := by
  intro n
  induction n with
  | zero => intro b1 b2 w h; rw [x_O_fill_13] at h; cases h
  | succ n ih =>
    intro b1 b2 w h
    rw [x_O_fill_13] at h
    refine gx_iload_n hX (gx_dt dt_mi_x_O_fill 7 rfl) rfl ?_
    refine gx_iload_n hX (gx_dt dt_mi_x_O_fill 8 rfl) rfl ?_
    refine gx_ic_ge hX (tgt := 95) (gx_dt dt_mi_x_O_fill 9 rfl) (by decide) (fun c1 => ?_) (fun c1 => ?_)
    · have h := gx_ifp c1 h
      exact gx_weak (gx_leS (gx_leS gx_le0)) (t_x_O_fill_95 hX hres hwr _ _ h)
    · have h := gx_ifn c1 h
      refine gx_iconst hX (v := 0) (gx_dt dt_mi_x_O_fill 10 rfl) (by decide) ?_
      refine gx_istore_n hX (ls' := [some (.inr 35), some (.inl b1), some (.inl b2), some (.inl (0))]) (gx_dt dt_mi_x_O_fill 11 rfl) (by decide) rfl ?_
      exact gx_weak (gx_leS (gx_leS (gx_leS (gx_leS gx_le0)))) (t_x_O_fill_20 hX hres hwr ih _ _ _ _ _ h)
theorem k_x_O_fill {w : gx_Wd} {R : gx_Wd} (h : x_O_fill w = some R) : gx_MT mi_x_O_fill [.inr 35] w none R := by
  refine gx_met (by decide +kernel) (Nat.le_of_ble_eq_true rfl) (fun X hX hres hwr => ?_)
  show gx_G X mi_x_O_fill 0 [some (.inr 35)] [] w
  rw [x_O_fill] at h
  refine gx_aload_n hX (gx_dt dt_mi_x_O_fill 0 rfl) rfl ?_
  refine gx_getr hX fl_O_9 sh_x_35 rfl (gx_dt dt_mi_x_O_fill 1 rfl) ?_
  refine gx_getr hX fl_O_22 sh_x_22 rfl (gx_dt dt_mi_x_O_fill 2 rfl) ?_
  refine gx_geti hX fl_O_28 sh_x_1 rfl (gx_dt dt_mi_x_O_fill 3 rfl) ?_
  refine gx_istore_n hX (ls' := [some (.inr 35), some (.inl (w 1 0))]) (gx_dt dt_mi_x_O_fill 4 rfl) (by decide) rfl ?_
  refine gx_iconst hX (v := 0) (gx_dt dt_mi_x_O_fill 5 rfl) (by decide) ?_
  refine gx_istore_n hX (ls' := [some (.inr 35), some (.inl (w 1 0)), some (.inl (0))]) (gx_dt dt_mi_x_O_fill 6 rfl) (by decide) rfl ?_
  exact gx_weak (gx_leS (gx_leS (gx_leS gx_le0))) (t_x_O_fill_13 hX hres hwr _ _ _ _ h)
-- EachBearsPillar$Orders.leastNext(III)I
def x_O_leastNext_51 (K3 : Int32 → Int32 → Int32 → Int32 → gx_Wd → Option (Int32 × gx_Wd)) (b1 : Int32) (b2 : Int32) (b3 : Int32) (b4 : Int32) (s0 : Int32) (w : gx_Wd) : Option (Int32 × gx_Wd) :=
  if s0 ≤ 0 then
    (some (b4 + 1)).bind fun v2 =>
    K3 b1 b2 b3 v2 w
  else
  some (b4, w)
def x_O_leastNext_3 : Nat → Int32 → Int32 → Int32 → Int32 → gx_Wd → Option (Int32 × gx_Wd)
  | 0, _, _, _, _, _ => none
  | n + 1, b1, b2, b3, b4, w =>
  if w 1 0 ≤ b4 then
    some ((-1), w)
  else
  if b1 = 0 then
    (x_O_spotOf (1 <<< (b4 &&& 31)) b4 0 w).bind fun r4 =>
    (x_E_cell 37 r4.1 r4.2).bind fun r5 =>
    x_O_leastNext_51 (x_O_leastNext_3 n) b1 b2 b3 b4 r5.1 r5.2
  else
    (x_O_waysWith b1 b2 b3 b4 w).bind fun r3 =>
    x_O_leastNext_51 (x_O_leastNext_3 n) b1 b2 b3 b4 r3.1 r3.2
def x_O_leastNext (a1 : Int32) (a2 : Int32) (a3 : Int32) (w : gx_Wd) : Option (Int32 × gx_Wd) :=
  x_O_leastNext_3 6000 a1 a2 a3 0 w
theorem t_x_O_leastNext_51 {X : gx_X} (hX : gx_Ok X mi_x_O_leastNext) {R : Int32 × gx_Wd} (hres : gx_res X = some (.inl R.1)) (hwr : gx_wr X = R.2) {K3 : Int32 → Int32 → Int32 → Int32 → gx_Wd → Option (Int32 × gx_Wd)} (hK3 : ∀ (b1 : Int32) (b2 : Int32) (b3 : Int32) (b4 : Int32) (w : gx_Wd), K3 b1 b2 b3 b4 w = some R → gx_G X mi_x_O_leastNext 3 [some (.inr 35), some (.inl b1), some (.inl b2), some (.inl b3), some (.inl b4)] [] w) (b1 : Int32) (b2 : Int32) (b3 : Int32) (b4 : Int32) (s0 : Int32) (w : gx_Wd) (h : x_O_leastNext_51 K3 b1 b2 b3 b4 s0 w = some R) : gx_G X mi_x_O_leastNext 51 [some (.inr 35), some (.inl b1), some (.inl b2), some (.inl b3), some (.inl b4)] [.inl s0] w := by
  rw [x_O_leastNext_51] at h
  refine gx_istore hX (ls' := [some (.inr 35), some (.inl b1), some (.inl b2), some (.inl b3), some (.inl b4), some (.inl s0)]) (gx_dt dt_mi_x_O_leastNext 26 rfl) (by decide) rfl ?_
  refine gx_iload hX (gx_dt dt_mi_x_O_leastNext 27 rfl) rfl ?_
  refine gx_if_le hX (tgt := 61) (gx_dt dt_mi_x_O_leastNext 28 rfl) (by decide) (fun c1 => ?_) (fun c1 => ?_)
  · have h := gx_ifp c1 h
    obtain ⟨v2, e_v2, h⟩ := gx_bd h
    refine gx_iinc hX (v := v2) (ls' := [some (.inr 35), some (.inl b1), some (.inl b2), some (.inl b3), some (.inl v2), some (.inl s0)]) (gx_dt dt_mi_x_O_leastNext 31 rfl) rfl (gx_ii e_v2 (by decide)) (by decide) rfl ?_
    refine gx_goto hX (tgt := 3) (gx_dt dt_mi_x_O_leastNext 32 rfl) (by decide) ?_
    exact gx_weak (gx_leS (gx_leS (gx_leS (gx_leS (gx_leS gx_le0))))) (hK3 _ _ _ _ _ h)
  · have h := gx_ifn c1 h
    refine gx_iload hX (gx_dt dt_mi_x_O_leastNext 29 rfl) rfl ?_
    obtain rfl := Option.some.inj h
    exact gx_iret hX (gx_dt dt_mi_x_O_leastNext 30 rfl) rfl hres hwr
theorem t_x_O_leastNext_3 {X : gx_X} (hX : gx_Ok X mi_x_O_leastNext) {R : Int32 × gx_Wd} (hres : gx_res X = some (.inl R.1)) (hwr : gx_wr X = R.2) : ∀ (n : Nat) (b1 : Int32) (b2 : Int32) (b3 : Int32) (b4 : Int32) (w : gx_Wd), x_O_leastNext_3 n b1 b2 b3 b4 w = some R → gx_G X mi_x_O_leastNext 3 [some (.inr 35), some (.inl b1), some (.inl b2), some (.inl b3), some (.inl b4)] [] w := by
  intro n
  induction n with
  | zero => intro b1 b2 b3 b4 w h; rw [x_O_leastNext_3] at h; cases h
  | succ n ih =>
    intro b1 b2 b3 b4 w h
    rw [x_O_leastNext_3] at h
    refine gx_iload hX (gx_dt dt_mi_x_O_leastNext 2 rfl) rfl ?_
    refine gx_aload_n hX (gx_dt dt_mi_x_O_leastNext 3 rfl) rfl ?_
    refine gx_getr hX fl_O_9 sh_x_35 rfl (gx_dt dt_mi_x_O_leastNext 4 rfl) ?_
    refine gx_getr hX fl_O_22 sh_x_22 rfl (gx_dt dt_mi_x_O_leastNext 5 rfl) ?_
    refine gx_geti hX fl_O_28 sh_x_1 rfl (gx_dt dt_mi_x_O_leastNext 6 rfl) ?_
    refine gx_ic_ge hX (tgt := 67) (gx_dt dt_mi_x_O_leastNext 7 rfl) (by decide) (fun c1 => ?_) (fun c1 => ?_)
    · have h := gx_ifp c1 h
      refine gx_iconst hX (v := (-1)) (gx_dt dt_mi_x_O_leastNext 33 rfl) (by decide) ?_
      obtain rfl := Option.some.inj h
      exact gx_iret hX (gx_dt dt_mi_x_O_leastNext 34 rfl) rfl hres hwr
    · have h := gx_ifn c1 h
      refine gx_iload_n hX (gx_dt dt_mi_x_O_leastNext 8 rfl) rfl ?_
      refine gx_if_ne hX (tgt := 42) (gx_dt dt_mi_x_O_leastNext 9 rfl) (by decide) (fun c2 => ?_) (fun c2 => ?_)
      · have h := gx_ifn c2 h
        refine gx_aload_n hX (gx_dt dt_mi_x_O_leastNext 20 rfl) rfl ?_
        refine gx_iload_n hX (gx_dt dt_mi_x_O_leastNext 21 rfl) rfl ?_
        refine gx_iload_n hX (gx_dt dt_mi_x_O_leastNext 22 rfl) rfl ?_
        refine gx_iload_n hX (gx_dt dt_mi_x_O_leastNext 23 rfl) rfl ?_
        refine gx_iload hX (gx_dt dt_mi_x_O_leastNext 24 rfl) rfl ?_
        obtain ⟨r3, e_r3, h⟩ := gx_bd h
        refine gx_callVi hX (gx_dt dt_mi_x_O_leastNext 25 rfl) ln_O_70_x_O_waysWith mo_x_O_waysWith mv_x_O_waysWith (gx_rmb rfl) sh_x_35 ⟨_, _, rfl⟩ rfl (k_x_O_waysWith e_r3) rfl rfl (Nat.le_of_ble_eq_true rfl) ?_
        exact gx_weak (gx_leS (gx_leS (gx_leS (gx_leS (gx_leS gx_le0))))) (t_x_O_leastNext_51 hX hres hwr ih _ _ _ _ _ _ h)
      · have h := gx_ifp c2 h
        refine gx_aload_n hX (gx_dt dt_mi_x_O_leastNext 10 rfl) rfl ?_
        refine gx_getr hX fl_O_19 sh_x_35 rfl (gx_dt dt_mi_x_O_leastNext 11 rfl) ?_
        refine gx_iconst hX (v := 1) (gx_dt dt_mi_x_O_leastNext 12 rfl) (by decide) ?_
        refine gx_iload hX (gx_dt dt_mi_x_O_leastNext 13 rfl) rfl ?_
        refine gx_ishl hX (gx_dt dt_mi_x_O_leastNext 14 rfl) ?_
        refine gx_iload hX (gx_dt dt_mi_x_O_leastNext 15 rfl) rfl ?_
        refine gx_iconst hX (v := 0) (gx_dt dt_mi_x_O_leastNext 16 rfl) (by decide) ?_
        obtain ⟨r4, e_r4, h⟩ := gx_bd h
        refine gx_callSi hX (gx_dt dt_mi_x_O_leastNext 17 rfl) ln_O_49_x_O_spotOf mo_x_O_spotOf ms_x_O_spotOf (gx_rmb rfl) rfl (k_x_O_spotOf e_r4) rfl rfl (Nat.le_of_ble_eq_true rfl) ?_
        obtain ⟨r5, e_r5, h⟩ := gx_bd h
        refine gx_callSi hX (gx_dt dt_mi_x_O_leastNext 18 rfl) ln_O_56_x_E_cell mo_x_E_cell ms_x_E_cell (gx_rmb rfl) rfl (k_x_E_cell e_r5) rfl rfl (Nat.le_of_ble_eq_true rfl) ?_
        refine gx_goto hX (tgt := 51) (gx_dt dt_mi_x_O_leastNext 19 rfl) (by decide) ?_
        exact gx_weak (gx_leS (gx_leS (gx_leS (gx_leS (gx_leS gx_le0))))) (t_x_O_leastNext_51 hX hres hwr ih _ _ _ _ _ _ h)
theorem k_x_O_leastNext {a1 : Int32} {a2 : Int32} {a3 : Int32} {w : gx_Wd} {R : Int32 × gx_Wd} (h : x_O_leastNext a1 a2 a3 w = some R) : gx_MT mi_x_O_leastNext [.inr 35, .inl a1, .inl a2, .inl a3] w (some (.inl R.1)) R.2 := by
  refine gx_met (by decide +kernel) (Nat.le_of_ble_eq_true rfl) (fun X hX hres hwr => ?_)
  show gx_G X mi_x_O_leastNext 0 [some (.inr 35), some (.inl a1), some (.inl a2), some (.inl a3)] [] w
  rw [x_O_leastNext] at h
  refine gx_iconst hX (v := 0) (gx_dt dt_mi_x_O_leastNext 0 rfl) (by decide) ?_
  refine gx_istore hX (ls' := [some (.inr 35), some (.inl a1), some (.inl a2), some (.inl a3), some (.inl (0))]) (gx_dt dt_mi_x_O_leastNext 1 rfl) (by decide) rfl ?_
  exact gx_weak (gx_leS (gx_leS (gx_leS (gx_leS (gx_leS gx_le0))))) (t_x_O_leastNext_3 hX hres hwr _ _ _ _ _ _ h)
-- EachBearsPillar$Orders.firstUnder(I)I
def x_O_firstUnder_71 (K10 : Int32 → Int32 → Int32 → Int32 → Int32 → gx_Wd → Option (Int32 × gx_Wd)) (b1 : Int32) (b2 : Int32) (b5 : Int32) (b6 : Int32) (s0 : Int32) (w : gx_Wd) : Option (Int32 × gx_Wd) :=
  (some (b2 ||| (1 <<< (b6 &&& 31)))).bind fun v1 =>
  (some (b5 + 1)).bind fun v2 =>
  K10 b1 v1 b6 s0 v2 w
def x_O_firstUnder_10 : Nat → Int32 → Int32 → Int32 → Int32 → Int32 → gx_Wd → Option (Int32 × gx_Wd)
  | 0, _, _, _, _, _, _ => none
  | n + 1, b1, b2, b3, b4, b5, w =>
  if b1 < b5 then
    some (b3, w)
  else
  if w 1 0 ≤ b5 then
    some (b3, w)
  else
  (x_O_leastNext b2 b3 b4 w).bind fun r3 =>
  if 0 ≤ r3.1 then
    if b5 ≤ 0 then
      x_O_firstUnder_71 (x_O_firstUnder_10 n) b1 b2 b5 r3.1 0 r3.2
    else
    (x_O_mostOf b3 (b5 - 1) r3.2).bind fun r6 =>
    if r6.1 < 0 then
      x_O_firstUnder_71 (x_O_firstUnder_10 n) b1 b2 b5 r3.1 0 r6.2
    else
    x_O_firstUnder_71 (x_O_firstUnder_10 n) b1 b2 b5 r3.1 1 r6.2
  else
  some ((-9), r3.2)
def x_O_firstUnder (a1 : Int32) (w : gx_Wd) : Option (Int32 × gx_Wd) :=
  x_O_firstUnder_10 6000 a1 0 (-1) 0 0 w
theorem t_x_O_firstUnder_71 {X : gx_X} (hX : gx_Ok X mi_x_O_firstUnder) {R : Int32 × gx_Wd} (hres : gx_res X = some (.inl R.1)) (hwr : gx_wr X = R.2) {K10 : Int32 → Int32 → Int32 → Int32 → Int32 → gx_Wd → Option (Int32 × gx_Wd)} (hK10 : ∀ (b1 : Int32) (b2 : Int32) (b3 : Int32) (b4 : Int32) (b5 : Int32) (w : gx_Wd), K10 b1 b2 b3 b4 b5 w = some R → gx_G X mi_x_O_firstUnder 10 [some (.inr 35), some (.inl b1), some (.inl b2), some (.inl b3), some (.inl b4), some (.inl b5)] [] w) (b1 : Int32) (b2 : Int32) (b5 : Int32) (b6 : Int32) (s0 : Int32) (w : gx_Wd) (h : x_O_firstUnder_71 K10 b1 b2 b5 b6 s0 w = some R) : gx_G X mi_x_O_firstUnder 71 [some (.inr 35), some (.inl b1), some (.inl b2), none, none, some (.inl b5), some (.inl b6)] [.inl s0] w := by
  rw [x_O_firstUnder_71] at h
  refine gx_istore hX (ls' := [some (.inr 35), some (.inl b1), some (.inl b2), none, some (.inl s0), some (.inl b5), some (.inl b6)]) (gx_dt dt_mi_x_O_firstUnder 39 rfl) (by decide) rfl ?_
  refine gx_iload_n hX (gx_dt dt_mi_x_O_firstUnder 40 rfl) rfl ?_
  refine gx_iconst hX (v := 1) (gx_dt dt_mi_x_O_firstUnder 41 rfl) (by decide) ?_
  refine gx_iload hX (gx_dt dt_mi_x_O_firstUnder 42 rfl) rfl ?_
  refine gx_ishl hX (gx_dt dt_mi_x_O_firstUnder 43 rfl) ?_
  refine gx_ior hX (gx_dt dt_mi_x_O_firstUnder 44 rfl) ?_
  obtain ⟨v1, e_v1, h⟩ := gx_bd h
  refine gx_top e_v1 ?_
  refine gx_istore_n hX (ls' := [some (.inr 35), some (.inl b1), some (.inl v1), none, some (.inl s0), some (.inl b5), some (.inl b6)]) (gx_dt dt_mi_x_O_firstUnder 45 rfl) (by decide) rfl ?_
  refine gx_iload hX (gx_dt dt_mi_x_O_firstUnder 46 rfl) rfl ?_
  refine gx_istore_n hX (ls' := [some (.inr 35), some (.inl b1), some (.inl v1), some (.inl b6), some (.inl s0), some (.inl b5), some (.inl b6)]) (gx_dt dt_mi_x_O_firstUnder 47 rfl) (by decide) rfl ?_
  obtain ⟨v2, e_v2, h⟩ := gx_bd h
  refine gx_iinc hX (v := v2) (ls' := [some (.inr 35), some (.inl b1), some (.inl v1), some (.inl b6), some (.inl s0), some (.inl v2), some (.inl b6)]) (gx_dt dt_mi_x_O_firstUnder 48 rfl) rfl (gx_ii e_v2 (by decide)) (by decide) rfl ?_
  refine gx_goto hX (tgt := 10) (gx_dt dt_mi_x_O_firstUnder 49 rfl) (by decide) ?_
  exact gx_weak (gx_leS (gx_leS (gx_leS (gx_leS (gx_leS (gx_leS gx_le0)))))) (hK10 _ _ _ _ _ _ h)
theorem t_x_O_firstUnder_10 {X : gx_X} (hX : gx_Ok X mi_x_O_firstUnder) {R : Int32 × gx_Wd} (hres : gx_res X = some (.inl R.1)) (hwr : gx_wr X = R.2) : ∀ (n : Nat) (b1 : Int32) (b2 : Int32) (b3 : Int32) (b4 : Int32) (b5 : Int32) (w : gx_Wd), x_O_firstUnder_10 n b1 b2 b3 b4 b5 w = some R → gx_G X mi_x_O_firstUnder 10 [some (.inr 35), some (.inl b1), some (.inl b2), some (.inl b3), some (.inl b4), some (.inl b5)] [] w := by
  intro n
  induction n with
  | zero => intro b1 b2 b3 b4 b5 w h; rw [x_O_firstUnder_10] at h; cases h
  | succ n ih =>
    intro b1 b2 b3 b4 b5 w h
    rw [x_O_firstUnder_10] at h
    refine gx_iload hX (gx_dt dt_mi_x_O_firstUnder 8 rfl) rfl ?_
    refine gx_iload_n hX (gx_dt dt_mi_x_O_firstUnder 9 rfl) rfl ?_
    refine gx_ic_gt hX (tgt := 89) (gx_dt dt_mi_x_O_firstUnder 10 rfl) (by decide) (fun c1 => ?_) (fun c1 => ?_)
    · have h := gx_ifp c1 h
      refine gx_iload_n hX (gx_dt dt_mi_x_O_firstUnder 50 rfl) rfl ?_
      obtain rfl := Option.some.inj h
      exact gx_iret hX (gx_dt dt_mi_x_O_firstUnder 51 rfl) rfl hres hwr
    · have h := gx_ifn c1 h
      refine gx_iload hX (gx_dt dt_mi_x_O_firstUnder 11 rfl) rfl ?_
      refine gx_aload_n hX (gx_dt dt_mi_x_O_firstUnder 12 rfl) rfl ?_
      refine gx_getr hX fl_O_9 sh_x_35 rfl (gx_dt dt_mi_x_O_firstUnder 13 rfl) ?_
      refine gx_getr hX fl_O_22 sh_x_22 rfl (gx_dt dt_mi_x_O_firstUnder 14 rfl) ?_
      refine gx_geti hX fl_O_28 sh_x_1 rfl (gx_dt dt_mi_x_O_firstUnder 15 rfl) ?_
      refine gx_ic_ge hX (tgt := 89) (gx_dt dt_mi_x_O_firstUnder 16 rfl) (by decide) (fun c2 => ?_) (fun c2 => ?_)
      · have h := gx_ifp c2 h
        refine gx_iload_n hX (gx_dt dt_mi_x_O_firstUnder 50 rfl) rfl ?_
        obtain rfl := Option.some.inj h
        exact gx_iret hX (gx_dt dt_mi_x_O_firstUnder 51 rfl) rfl hres hwr
      · have h := gx_ifn c2 h
        refine gx_aload_n hX (gx_dt dt_mi_x_O_firstUnder 17 rfl) rfl ?_
        refine gx_iload_n hX (gx_dt dt_mi_x_O_firstUnder 18 rfl) rfl ?_
        refine gx_iload_n hX (gx_dt dt_mi_x_O_firstUnder 19 rfl) rfl ?_
        refine gx_iload hX (gx_dt dt_mi_x_O_firstUnder 20 rfl) rfl ?_
        obtain ⟨r3, e_r3, h⟩ := gx_bd h
        refine gx_callVi hX (gx_dt dt_mi_x_O_firstUnder 21 rfl) ln_O_80_x_O_leastNext mo_x_O_leastNext mv_x_O_leastNext (gx_rmb rfl) sh_x_35 ⟨_, _, rfl⟩ rfl (k_x_O_leastNext e_r3) rfl rfl (Nat.le_of_ble_eq_true rfl) ?_
        refine gx_istore hX (ls' := [some (.inr 35), some (.inl b1), some (.inl b2), some (.inl b3), some (.inl b4), some (.inl b5), some (.inl (r3.1))]) (gx_dt dt_mi_x_O_firstUnder 22 rfl) (by decide) rfl ?_
        refine gx_iload hX (gx_dt dt_mi_x_O_firstUnder 23 rfl) rfl ?_
        refine gx_if_ge hX (tgt := 49) (gx_dt dt_mi_x_O_firstUnder 24 rfl) (by decide) (fun c4 => ?_) (fun c4 => ?_)
        · have h := gx_ifp c4 h
          refine gx_iload hX (gx_dt dt_mi_x_O_firstUnder 27 rfl) rfl ?_
          refine gx_if_le hX (tgt := 70) (gx_dt dt_mi_x_O_firstUnder 28 rfl) (by decide) (fun c5 => ?_) (fun c5 => ?_)
          · have h := gx_ifp c5 h
            refine gx_iconst hX (v := 0) (gx_dt dt_mi_x_O_firstUnder 38 rfl) (by decide) ?_
            exact gx_weak (gx_leS (gx_leS (gx_leS (gx_leN (gx_leN (gx_leS (gx_leS gx_le0))))))) (t_x_O_firstUnder_71 hX hres hwr ih _ _ _ _ _ _ h)
          · have h := gx_ifn c5 h
            refine gx_aload_n hX (gx_dt dt_mi_x_O_firstUnder 29 rfl) rfl ?_
            refine gx_iload_n hX (gx_dt dt_mi_x_O_firstUnder 30 rfl) rfl ?_
            refine gx_iload hX (gx_dt dt_mi_x_O_firstUnder 31 rfl) rfl ?_
            refine gx_iconst hX (v := 1) (gx_dt dt_mi_x_O_firstUnder 32 rfl) (by decide) ?_
            refine gx_isub hX (gx_dt dt_mi_x_O_firstUnder 33 rfl) ?_
            obtain ⟨r6, e_r6, h⟩ := gx_bd h
            refine gx_callVi hX (gx_dt dt_mi_x_O_firstUnder 34 rfl) ln_O_77_x_O_mostOf mo_x_O_mostOf mv_x_O_mostOf (gx_rmb rfl) sh_x_35 ⟨_, _, rfl⟩ rfl (k_x_O_mostOf e_r6) rfl rfl (Nat.le_of_ble_eq_true rfl) ?_
            refine gx_if_lt hX (tgt := 70) (gx_dt dt_mi_x_O_firstUnder 35 rfl) (by decide) (fun c7 => ?_) (fun c7 => ?_)
            · have h := gx_ifp c7 h
              refine gx_iconst hX (v := 0) (gx_dt dt_mi_x_O_firstUnder 38 rfl) (by decide) ?_
              exact gx_weak (gx_leS (gx_leS (gx_leS (gx_leN (gx_leN (gx_leS (gx_leS gx_le0))))))) (t_x_O_firstUnder_71 hX hres hwr ih _ _ _ _ _ _ h)
            · have h := gx_ifn c7 h
              refine gx_iconst hX (v := 1) (gx_dt dt_mi_x_O_firstUnder 36 rfl) (by decide) ?_
              refine gx_goto hX (tgt := 71) (gx_dt dt_mi_x_O_firstUnder 37 rfl) (by decide) ?_
              exact gx_weak (gx_leS (gx_leS (gx_leS (gx_leN (gx_leN (gx_leS (gx_leS gx_le0))))))) (t_x_O_firstUnder_71 hX hres hwr ih _ _ _ _ _ _ h)
        · have h := gx_ifn c4 h
          refine gx_bipush hX (v := (-9)) (gx_dt dt_mi_x_O_firstUnder 25 rfl) (by decide) ?_
          obtain rfl := Option.some.inj h
          exact gx_iret hX (gx_dt dt_mi_x_O_firstUnder 26 rfl) rfl hres hwr
theorem k_x_O_firstUnder {a1 : Int32} {w : gx_Wd} {R : Int32 × gx_Wd} (h : x_O_firstUnder a1 w = some R) : gx_MT mi_x_O_firstUnder [.inr 35, .inl a1] w (some (.inl R.1)) R.2 := by
  refine gx_met (by decide +kernel) (Nat.le_of_ble_eq_true rfl) (fun X hX hres hwr => ?_)
  show gx_G X mi_x_O_firstUnder 0 [some (.inr 35), some (.inl a1)] [] w
  rw [x_O_firstUnder] at h
  refine gx_iconst hX (v := 0) (gx_dt dt_mi_x_O_firstUnder 0 rfl) (by decide) ?_
  refine gx_istore_n hX (ls' := [some (.inr 35), some (.inl a1), some (.inl (0))]) (gx_dt dt_mi_x_O_firstUnder 1 rfl) (by decide) rfl ?_
  refine gx_iconst hX (v := (-1)) (gx_dt dt_mi_x_O_firstUnder 2 rfl) (by decide) ?_
  refine gx_istore_n hX (ls' := [some (.inr 35), some (.inl a1), some (.inl (0)), some (.inl ((-1)))]) (gx_dt dt_mi_x_O_firstUnder 3 rfl) (by decide) rfl ?_
  refine gx_iconst hX (v := 0) (gx_dt dt_mi_x_O_firstUnder 4 rfl) (by decide) ?_
  refine gx_istore hX (ls' := [some (.inr 35), some (.inl a1), some (.inl (0)), some (.inl ((-1))), some (.inl (0))]) (gx_dt dt_mi_x_O_firstUnder 5 rfl) (by decide) rfl ?_
  refine gx_iconst hX (v := 0) (gx_dt dt_mi_x_O_firstUnder 6 rfl) (by decide) ?_
  refine gx_istore hX (ls' := [some (.inr 35), some (.inl a1), some (.inl (0)), some (.inl ((-1))), some (.inl (0)), some (.inl (0))]) (gx_dt dt_mi_x_O_firstUnder 7 rfl) (by decide) rfl ?_
  exact gx_weak (gx_leS (gx_leS (gx_leS (gx_leS (gx_leS (gx_leS gx_le0)))))) (t_x_O_firstUnder_10 hX hres hwr _ _ _ _ _ _ _ h)
-- EachBearsPillar$Orders.total()I
def x_O_total_19 : Nat → Int32 → Int32 → gx_Wd → Option (Int32 × gx_Wd)
  | 0, _, _, _ => none
  | n + 1, b1, b2, w =>
  if w 1 0 ≤ b2 then
    some (b1, w)
  else
  (x_O_spotOf (1 <<< (b2 &&& 31)) b2 0 w).bind fun r2 =>
  (x_E_cell 37 r2.1 r2.2).bind fun r3 =>
  (some (b1 + r3.1)).bind fun v4 =>
  (some (b2 + 1)).bind fun v5 =>
  (x_O_total_19 n) v4 v5 r3.2
def x_O_total (w : gx_Wd) : Option (Int32 × gx_Wd) :=
  if w 1 0 = 0 then
    some (1, w)
  else
    x_O_total_19 6000 0 0 w
theorem t_x_O_total_19 {X : gx_X} (hX : gx_Ok X mi_x_O_total) {R : Int32 × gx_Wd} (hres : gx_res X = some (.inl R.1)) (hwr : gx_wr X = R.2) : ∀ (n : Nat) (b1 : Int32) (b2 : Int32) (w : gx_Wd), x_O_total_19 n b1 b2 w = some R → gx_G X mi_x_O_total 19 [some (.inr 35), some (.inl b1), some (.inl b2)] [] w := by
  intro n
  induction n with
  | zero => intro b1 b2 w h; rw [x_O_total_19] at h; cases h
  | succ n ih =>
    intro b1 b2 w h
    rw [x_O_total_19] at h
    refine gx_iload_n hX (gx_dt dt_mi_x_O_total 11 rfl) rfl ?_
    refine gx_aload_n hX (gx_dt dt_mi_x_O_total 12 rfl) rfl ?_
    refine gx_getr hX fl_O_9 sh_x_35 rfl (gx_dt dt_mi_x_O_total 13 rfl) ?_
    refine gx_getr hX fl_O_22 sh_x_22 rfl (gx_dt dt_mi_x_O_total 14 rfl) ?_
    refine gx_geti hX fl_O_28 sh_x_1 rfl (gx_dt dt_mi_x_O_total 15 rfl) ?_
    refine gx_ic_ge hX (tgt := 57) (gx_dt dt_mi_x_O_total 16 rfl) (by decide) (fun c1 => ?_) (fun c1 => ?_)
    · have h := gx_ifp c1 h
      refine gx_iload_n hX (gx_dt dt_mi_x_O_total 31 rfl) rfl ?_
      obtain rfl := Option.some.inj h
      exact gx_iret hX (gx_dt dt_mi_x_O_total 32 rfl) rfl hres hwr
    · have h := gx_ifn c1 h
      refine gx_iload_n hX (gx_dt dt_mi_x_O_total 17 rfl) rfl ?_
      refine gx_aload_n hX (gx_dt dt_mi_x_O_total 18 rfl) rfl ?_
      refine gx_getr hX fl_O_19 sh_x_35 rfl (gx_dt dt_mi_x_O_total 19 rfl) ?_
      refine gx_iconst hX (v := 1) (gx_dt dt_mi_x_O_total 20 rfl) (by decide) ?_
      refine gx_iload_n hX (gx_dt dt_mi_x_O_total 21 rfl) rfl ?_
      refine gx_ishl hX (gx_dt dt_mi_x_O_total 22 rfl) ?_
      refine gx_iload_n hX (gx_dt dt_mi_x_O_total 23 rfl) rfl ?_
      refine gx_iconst hX (v := 0) (gx_dt dt_mi_x_O_total 24 rfl) (by decide) ?_
      obtain ⟨r2, e_r2, h⟩ := gx_bd h
      refine gx_callSi hX (gx_dt dt_mi_x_O_total 25 rfl) ln_O_49_x_O_spotOf mo_x_O_spotOf ms_x_O_spotOf (gx_rmb rfl) rfl (k_x_O_spotOf e_r2) rfl rfl (Nat.le_of_ble_eq_true rfl) ?_
      obtain ⟨r3, e_r3, h⟩ := gx_bd h
      refine gx_callSi hX (gx_dt dt_mi_x_O_total 26 rfl) ln_O_56_x_E_cell mo_x_E_cell ms_x_E_cell (gx_rmb rfl) rfl (k_x_E_cell e_r3) rfl rfl (Nat.le_of_ble_eq_true rfl) ?_
      refine gx_iadd hX (gx_dt dt_mi_x_O_total 27 rfl) ?_
      obtain ⟨v4, e_v4, h⟩ := gx_bd h
      refine gx_top e_v4 ?_
      refine gx_istore_n hX (ls' := [some (.inr 35), some (.inl v4), some (.inl b2)]) (gx_dt dt_mi_x_O_total 28 rfl) (by decide) rfl ?_
      obtain ⟨v5, e_v5, h⟩ := gx_bd h
      refine gx_iinc hX (v := v5) (ls' := [some (.inr 35), some (.inl v4), some (.inl v5)]) (gx_dt dt_mi_x_O_total 29 rfl) rfl (gx_ii e_v5 (by decide)) (by decide) rfl ?_
      refine gx_goto hX (tgt := 19) (gx_dt dt_mi_x_O_total 30 rfl) (by decide) ?_
      exact gx_weak (gx_leS (gx_leS (gx_leS gx_le0))) (ih _ _ _ h)
theorem k_x_O_total {w : gx_Wd} {R : Int32 × gx_Wd} (h : x_O_total w = some R) : gx_MT mi_x_O_total [.inr 35] w (some (.inl R.1)) R.2 := by
  refine gx_met (by decide +kernel) (Nat.le_of_ble_eq_true rfl) (fun X hX hres hwr => ?_)
  show gx_G X mi_x_O_total 0 [some (.inr 35)] [] w
  rw [x_O_total] at h
  refine gx_aload_n hX (gx_dt dt_mi_x_O_total 0 rfl) rfl ?_
  refine gx_getr hX fl_O_9 sh_x_35 rfl (gx_dt dt_mi_x_O_total 1 rfl) ?_
  refine gx_getr hX fl_O_22 sh_x_22 rfl (gx_dt dt_mi_x_O_total 2 rfl) ?_
  refine gx_geti hX fl_O_28 sh_x_1 rfl (gx_dt dt_mi_x_O_total 3 rfl) ?_
  refine gx_if_ne hX (tgt := 15) (gx_dt dt_mi_x_O_total 4 rfl) (by decide) (fun c1 => ?_) (fun c1 => ?_)
  · have h := gx_ifn c1 h
    refine gx_iconst hX (v := 0) (gx_dt dt_mi_x_O_total 7 rfl) (by decide) ?_
    refine gx_istore_n hX (ls' := [some (.inr 35), some (.inl (0))]) (gx_dt dt_mi_x_O_total 8 rfl) (by decide) rfl ?_
    refine gx_iconst hX (v := 0) (gx_dt dt_mi_x_O_total 9 rfl) (by decide) ?_
    refine gx_istore_n hX (ls' := [some (.inr 35), some (.inl (0)), some (.inl (0))]) (gx_dt dt_mi_x_O_total 10 rfl) (by decide) rfl ?_
    exact gx_weak (gx_leS (gx_leS (gx_leS gx_le0))) (t_x_O_total_19 hX hres hwr _ _ _ _ h)
  · have h := gx_ifp c1 h
    refine gx_iconst hX (v := 1) (gx_dt dt_mi_x_O_total 5 rfl) (by decide) ?_
    obtain rfl := Option.some.inj h
    exact gx_iret hX (gx_dt dt_mi_x_O_total 6 rfl) rfl hres hwr
-- EachBearsPillar.orders(I)I
def x_E_orders (a1 : Int32) (w : gx_Wd) : Option (Int32 × gx_Wd) :=
  if a1 < (-1) then
    (x_E_refuse (-1) w).bind fun r2 =>
    some (r2.1, r2.2)
  else
  if a1 < w 1 0 then
    (x_M_asTold w).bind fun r4 =>
    (x_O_fill r4).bind fun r5 =>
    if a1 = (-1) then
      (x_O_total r5).bind fun r8 =>
      some (r8.1, r8.2)
    else
      (x_O_firstUnder a1 r5).bind fun r7 =>
      some (r7.1, r7.2)
  else
  (x_E_refuse (-1) w).bind fun r9 =>
  some (r9.1, r9.2)
theorem k_x_E_orders {a1 : Int32} {w : gx_Wd} {R : Int32 × gx_Wd} (h : x_E_orders a1 w = some R) : gx_MT mi_x_E_orders [.inr 0, .inl a1] w (some (.inl R.1)) R.2 := by
  refine gx_met (by decide +kernel) (Nat.le_of_ble_eq_true rfl) (fun X hX hres hwr => ?_)
  show gx_G X mi_x_E_orders 0 [some (.inr 0), some (.inl a1)] [] w
  rw [x_E_orders] at h
  refine gx_iload_n hX (gx_dt dt_mi_x_E_orders 0 rfl) rfl ?_
  refine gx_iconst hX (v := (-1)) (gx_dt dt_mi_x_E_orders 1 rfl) (by decide) ?_
  refine gx_ic_lt hX (tgt := 16) (gx_dt dt_mi_x_E_orders 2 rfl) (by decide) (fun c1 => ?_) (fun c1 => ?_)
  · have h := gx_ifp c1 h
    refine gx_aload_n hX (gx_dt dt_mi_x_E_orders 8 rfl) rfl ?_
    refine gx_iconst hX (v := (-1)) (gx_dt dt_mi_x_E_orders 9 rfl) (by decide) ?_
    obtain ⟨r2, e_r2, h⟩ := gx_bd h
    refine gx_callVi hX (gx_dt dt_mi_x_E_orders 10 rfl) ln_E_69_x_E_refuse mo_x_E_refuse mv_x_E_refuse (gx_rmb rfl) sh_x_0 ⟨_, _, rfl⟩ rfl (k_x_E_refuse e_r2) rfl rfl (Nat.le_of_ble_eq_true rfl) ?_
    obtain rfl := Option.some.inj h
    exact gx_iret hX (gx_dt dt_mi_x_E_orders 11 rfl) rfl hres hwr
  · have h := gx_ifn c1 h
    refine gx_iload_n hX (gx_dt dt_mi_x_E_orders 3 rfl) rfl ?_
    refine gx_aload_n hX (gx_dt dt_mi_x_E_orders 4 rfl) rfl ?_
    refine gx_getr hX fl_E_10 sh_x_0 rfl (gx_dt dt_mi_x_E_orders 5 rfl) ?_
    refine gx_geti hX fl_E_158 sh_x_1 rfl (gx_dt dt_mi_x_E_orders 6 rfl) ?_
    refine gx_ic_lt hX (tgt := 22) (gx_dt dt_mi_x_E_orders 7 rfl) (by decide) (fun c3 => ?_) (fun c3 => ?_)
    · have h := gx_ifp c3 h
      refine gx_aload_n hX (gx_dt dt_mi_x_E_orders 12 rfl) rfl ?_
      refine gx_getr hX fl_E_31 sh_x_0 rfl (gx_dt dt_mi_x_E_orders 13 rfl) ?_
      obtain ⟨r4, e_r4, h⟩ := gx_bd h
      refine gx_callVv hX (gx_dt dt_mi_x_E_orders 14 rfl) ln_E_115_x_M_asTold mo_x_M_asTold mv_x_M_asTold (gx_rmb rfl) sh_x_22 ⟨_, _, rfl⟩ rfl (k_x_M_asTold e_r4) rfl rfl (Nat.le_of_ble_eq_true rfl) ?_
      refine gx_aload_n hX (gx_dt dt_mi_x_E_orders 15 rfl) rfl ?_
      refine gx_getr hX fl_E_54 sh_x_0 rfl (gx_dt dt_mi_x_E_orders 16 rfl) ?_
      obtain ⟨r5, e_r5, h⟩ := gx_bd h
      refine gx_callVv hX (gx_dt dt_mi_x_E_orders 17 rfl) ln_E_178_x_O_fill mo_x_O_fill mv_x_O_fill (gx_rmb rfl) sh_x_35 ⟨_, _, rfl⟩ rfl (k_x_O_fill e_r5) rfl rfl (Nat.le_of_ble_eq_true rfl) ?_
      refine gx_iload_n hX (gx_dt dt_mi_x_E_orders 18 rfl) rfl ?_
      refine gx_iconst hX (v := (-1)) (gx_dt dt_mi_x_E_orders 19 rfl) (by decide) ?_
      refine gx_ic_ne hX (tgt := 51) (gx_dt dt_mi_x_E_orders 20 rfl) (by decide) (fun c6 => ?_) (fun c6 => ?_)
      · have h := gx_ifn c6 h
        refine gx_aload_n hX (gx_dt dt_mi_x_E_orders 25 rfl) rfl ?_
        refine gx_getr hX fl_E_54 sh_x_0 rfl (gx_dt dt_mi_x_E_orders 26 rfl) ?_
        refine gx_iload_n hX (gx_dt dt_mi_x_E_orders 27 rfl) rfl ?_
        obtain ⟨r7, e_r7, h⟩ := gx_bd h
        refine gx_callVi hX (gx_dt dt_mi_x_E_orders 28 rfl) ln_E_184_x_O_firstUnder mo_x_O_firstUnder mv_x_O_firstUnder (gx_rmb rfl) sh_x_35 ⟨_, _, rfl⟩ rfl (k_x_O_firstUnder e_r7) rfl rfl (Nat.le_of_ble_eq_true rfl) ?_
        obtain rfl := Option.some.inj h
        exact gx_iret hX (gx_dt dt_mi_x_E_orders 29 rfl) rfl hres hwr
      · have h := gx_ifp c6 h
        refine gx_aload_n hX (gx_dt dt_mi_x_E_orders 21 rfl) rfl ?_
        refine gx_getr hX fl_E_54 sh_x_0 rfl (gx_dt dt_mi_x_E_orders 22 rfl) ?_
        obtain ⟨r8, e_r8, h⟩ := gx_bd h
        refine gx_callVi hX (gx_dt dt_mi_x_E_orders 23 rfl) ln_E_181_x_O_total mo_x_O_total mv_x_O_total (gx_rmb rfl) sh_x_35 ⟨_, _, rfl⟩ rfl (k_x_O_total e_r8) rfl rfl (Nat.le_of_ble_eq_true rfl) ?_
        refine gx_goto hX (tgt := 59) (gx_dt dt_mi_x_E_orders 24 rfl) (by decide) ?_
        obtain rfl := Option.some.inj h
        exact gx_iret hX (gx_dt dt_mi_x_E_orders 29 rfl) rfl hres hwr
    · have h := gx_ifn c3 h
      refine gx_aload_n hX (gx_dt dt_mi_x_E_orders 8 rfl) rfl ?_
      refine gx_iconst hX (v := (-1)) (gx_dt dt_mi_x_E_orders 9 rfl) (by decide) ?_
      obtain ⟨r9, e_r9, h⟩ := gx_bd h
      refine gx_callVi hX (gx_dt dt_mi_x_E_orders 10 rfl) ln_E_69_x_E_refuse mo_x_E_refuse mv_x_E_refuse (gx_rmb rfl) sh_x_0 ⟨_, _, rfl⟩ rfl (k_x_E_refuse e_r9) rfl rfl (Nat.le_of_ble_eq_true rfl) ?_
      obtain rfl := Option.some.inj h
      exact gx_iret hX (gx_dt dt_mi_x_E_orders 11 rfl) rfl hres hwr
