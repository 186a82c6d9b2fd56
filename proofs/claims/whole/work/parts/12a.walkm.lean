-- EachBearsPillarModel.no(I)I
def m_no (a1 : Int32) (w : gx_Wd) : Option (Int32 × gx_Wd) :=
  (gx_ald sh_m w 9 (-a1)).bind fun v1 =>
  (gx_ast sh_m w 9 (-a1) (v1 + 1)).bind fun w2 =>
  some (a1, w2)
theorem k_m_no {a1 : Int32} {w : gx_Wd} {R : Int32 × gx_Wd} (h : m_no a1 w = some R) : gx_MT mi_m_no [.inr 0, .inl a1] w (some (.inl R.1)) R.2 := by
  refine gx_met (by decide +kernel) (Nat.le_of_ble_eq_true rfl) (fun X hX hres hwr => ?_)
  show gx_G X mi_m_no 0 [some (.inr 0), some (.inl a1)] [] w
  rw [m_no] at h
  refine gx_aload_n hX (gx_dt dt_mi_m_no 0 rfl) rfl ?_
  refine gx_getr hX fl_D_50 sh_m_0 rfl (gx_dt dt_mi_m_no 1 rfl) ?_
  refine gx_iload_n hX (gx_dt dt_mi_m_no 2 rfl) rfl ?_
  refine gx_ineg hX (gx_dt dt_mi_m_no 3 rfl) ?_
  refine gx_dup2 hX (gx_dt dt_mi_m_no 4 rfl) ?_
  obtain ⟨v1, e_v1, h⟩ := gx_bd h
  refine gx_iald hX e_v1 (gx_dt dt_mi_m_no 5 rfl) ?_
  refine gx_iconst hX (v := 1) (gx_dt dt_mi_m_no 6 rfl) (by decide) ?_
  refine gx_iadd hX (gx_dt dt_mi_m_no 7 rfl) ?_
  obtain ⟨w2, e_w2, h⟩ := gx_bd h
  refine gx_iast hX e_w2 (gx_dt dt_mi_m_no 8 rfl) ?_
  refine gx_iload_n hX (gx_dt dt_mi_m_no 9 rfl) rfl ?_
  obtain rfl := Option.some.inj h
  exact gx_iret hX (gx_dt dt_mi_m_no 10 rfl) rfl hres hwr
-- EachBearsPillarModel.letter(I)I
def m_letter (a1 : Int32) (w : gx_Wd) : Option (Int32 × gx_Wd) :=
  if 0 ≤ a1 then
    if 255 < a1 then
      (m_no (-6) w).bind fun r3 =>
      some (r3.1, r3.2)
    else
    if w 0 3 = 96 then
      (m_no (-6) w).bind fun r7 =>
      some (r7.1, r7.2)
    else
      (gx_ast sh_m w 7 (w 0 3) a1).bind fun w5 =>
      (gx_put w5 0 3 ((w5 0 3) + 1)).bind fun w6 =>
      some (w6 0 3, w6)
  else
  (m_no (-4) w).bind fun r8 =>
  some (r8.1, r8.2)
theorem k_m_letter {a1 : Int32} {w : gx_Wd} {R : Int32 × gx_Wd} (h : m_letter a1 w = some R) : gx_MT mi_m_letter [.inr 0, .inl a1] w (some (.inl R.1)) R.2 := by
  refine gx_met (by decide +kernel) (Nat.le_of_ble_eq_true rfl) (fun X hX hres hwr => ?_)
  show gx_G X mi_m_letter 0 [some (.inr 0), some (.inl a1)] [] w
  rw [m_letter] at h
  refine gx_iload_n hX (gx_dt dt_mi_m_letter 0 rfl) rfl ?_
  refine gx_if_ge hX (tgt := 11) (gx_dt dt_mi_m_letter 1 rfl) (by decide) (fun c1 => ?_) (fun c1 => ?_)
  · have h := gx_ifp c1 h
    refine gx_iload_n hX (gx_dt dt_mi_m_letter 6 rfl) rfl ?_
    refine gx_sipush hX (v := 255) (gx_dt dt_mi_m_letter 7 rfl) (by decide) ?_
    refine gx_ic_gt hX (tgt := 27) (gx_dt dt_mi_m_letter 8 rfl) (by decide) (fun c2 => ?_) (fun c2 => ?_)
    · have h := gx_ifp c2 h
      refine gx_aload_n hX (gx_dt dt_mi_m_letter 13 rfl) rfl ?_
      refine gx_bipush hX (v := (-6)) (gx_dt dt_mi_m_letter 14 rfl) (by decide) ?_
      obtain ⟨r3, e_r3, h⟩ := gx_bd h
      refine gx_callVi hX (gx_dt dt_mi_m_letter 15 rfl) ln_D_121_m_no mo_m_no mv_m_no (gx_rmb rfl) sh_m_0 ⟨_, _, rfl⟩ rfl (k_m_no e_r3) rfl rfl (Nat.le_of_ble_eq_true rfl) ?_
      obtain rfl := Option.some.inj h
      exact gx_iret hX (gx_dt dt_mi_m_letter 16 rfl) rfl hres hwr
    · have h := gx_ifn c2 h
      refine gx_aload_n hX (gx_dt dt_mi_m_letter 9 rfl) rfl ?_
      refine gx_geti hX fl_D_19 sh_m_0 rfl (gx_dt dt_mi_m_letter 10 rfl) ?_
      refine gx_bipush hX (v := 96) (gx_dt dt_mi_m_letter 11 rfl) (by decide) ?_
      refine gx_ic_ne hX (tgt := 34) (gx_dt dt_mi_m_letter 12 rfl) (by decide) (fun c4 => ?_) (fun c4 => ?_)
      · have h := gx_ifn c4 h
        refine gx_aload_n hX (gx_dt dt_mi_m_letter 17 rfl) rfl ?_
        refine gx_getr hX fl_D_44 sh_m_0 rfl (gx_dt dt_mi_m_letter 18 rfl) ?_
        refine gx_aload_n hX (gx_dt dt_mi_m_letter 19 rfl) rfl ?_
        refine gx_geti hX fl_D_19 sh_m_0 rfl (gx_dt dt_mi_m_letter 20 rfl) ?_
        refine gx_iload_n hX (gx_dt dt_mi_m_letter 21 rfl) rfl ?_
        obtain ⟨w5, e_w5, h⟩ := gx_bd h
        refine gx_iast hX e_w5 (gx_dt dt_mi_m_letter 22 rfl) ?_
        refine gx_aload_n hX (gx_dt dt_mi_m_letter 23 rfl) rfl ?_
        refine gx_dup hX (gx_dt dt_mi_m_letter 24 rfl) ?_
        refine gx_geti hX fl_D_19 sh_m_0 rfl (gx_dt dt_mi_m_letter 25 rfl) ?_
        refine gx_iconst hX (v := 1) (gx_dt dt_mi_m_letter 26 rfl) (by decide) ?_
        refine gx_iadd hX (gx_dt dt_mi_m_letter 27 rfl) ?_
        obtain ⟨w6, e_w6, h⟩ := gx_bd h
        refine gx_putp hX fl_D_19 (pf_D_3 _) sh_m_0 rfl e_w6 (gx_dt dt_mi_m_letter 28 rfl) ?_
        refine gx_aload_n hX (gx_dt dt_mi_m_letter 29 rfl) rfl ?_
        refine gx_geti hX fl_D_19 sh_m_0 rfl (gx_dt dt_mi_m_letter 30 rfl) ?_
        obtain rfl := Option.some.inj h
        exact gx_iret hX (gx_dt dt_mi_m_letter 31 rfl) rfl hres hwr
      · have h := gx_ifp c4 h
        refine gx_aload_n hX (gx_dt dt_mi_m_letter 13 rfl) rfl ?_
        refine gx_bipush hX (v := (-6)) (gx_dt dt_mi_m_letter 14 rfl) (by decide) ?_
        obtain ⟨r7, e_r7, h⟩ := gx_bd h
        refine gx_callVi hX (gx_dt dt_mi_m_letter 15 rfl) ln_D_121_m_no mo_m_no mv_m_no (gx_rmb rfl) sh_m_0 ⟨_, _, rfl⟩ rfl (k_m_no e_r7) rfl rfl (Nat.le_of_ble_eq_true rfl) ?_
        obtain rfl := Option.some.inj h
        exact gx_iret hX (gx_dt dt_mi_m_letter 16 rfl) rfl hres hwr
  · have h := gx_ifn c1 h
    refine gx_aload_n hX (gx_dt dt_mi_m_letter 2 rfl) rfl ?_
    refine gx_bipush hX (v := (-4)) (gx_dt dt_mi_m_letter 3 rfl) (by decide) ?_
    obtain ⟨r8, e_r8, h⟩ := gx_bd h
    refine gx_callVi hX (gx_dt dt_mi_m_letter 4 rfl) ln_D_121_m_no mo_m_no mv_m_no (gx_rmb rfl) sh_m_0 ⟨_, _, rfl⟩ rfl (k_m_no e_r8) rfl rfl (Nat.le_of_ble_eq_true rfl) ?_
    obtain rfl := Option.some.inj h
    exact gx_iret hX (gx_dt dt_mi_m_letter 5 rfl) rfl hres hwr
-- EachBearsPillarModel.next()I
def m_next (w : gx_Wd) : Option (Int32 × gx_Wd) :=
  if w 0 3 ≤ w 0 14 then
    some ((-1), w)
  else
  (gx_ald sh_m w 7 (w 0 14)).bind fun v2 =>
  some (v2, w)
theorem k_m_next {w : gx_Wd} {R : Int32 × gx_Wd} (h : m_next w = some R) : gx_MT mi_m_next [.inr 0] w (some (.inl R.1)) R.2 := by
  refine gx_met (by decide +kernel) (Nat.le_of_ble_eq_true rfl) (fun X hX hres hwr => ?_)
  show gx_G X mi_m_next 0 [some (.inr 0)] [] w
  rw [m_next] at h
  refine gx_aload_n hX (gx_dt dt_mi_m_next 0 rfl) rfl ?_
  refine gx_geti hX fl_D_53 sh_m_0 rfl (gx_dt dt_mi_m_next 1 rfl) ?_
  refine gx_aload_n hX (gx_dt dt_mi_m_next 2 rfl) rfl ?_
  refine gx_geti hX fl_D_19 sh_m_0 rfl (gx_dt dt_mi_m_next 3 rfl) ?_
  refine gx_ic_ge hX (tgt := 23) (gx_dt dt_mi_m_next 4 rfl) (by decide) (fun c1 => ?_) (fun c1 => ?_)
  · have h := gx_ifp c1 h
    refine gx_iconst hX (v := (-1)) (gx_dt dt_mi_m_next 11 rfl) (by decide) ?_
    obtain rfl := Option.some.inj h
    exact gx_iret hX (gx_dt dt_mi_m_next 12 rfl) rfl hres hwr
  · have h := gx_ifn c1 h
    refine gx_aload_n hX (gx_dt dt_mi_m_next 5 rfl) rfl ?_
    refine gx_getr hX fl_D_44 sh_m_0 rfl (gx_dt dt_mi_m_next 6 rfl) ?_
    refine gx_aload_n hX (gx_dt dt_mi_m_next 7 rfl) rfl ?_
    refine gx_geti hX fl_D_53 sh_m_0 rfl (gx_dt dt_mi_m_next 8 rfl) ?_
    obtain ⟨v2, e_v2, h⟩ := gx_bd h
    refine gx_iald hX e_v2 (gx_dt dt_mi_m_next 9 rfl) ?_
    refine gx_goto hX (tgt := 24) (gx_dt dt_mi_m_next 10 rfl) (by decide) ?_
    obtain rfl := Option.some.inj h
    exact gx_iret hX (gx_dt dt_mi_m_next 12 rfl) rfl hres hwr
-- EachBearsPillarModel.kindOf(I)I
def m_kindOf (a1 : Int32) (w : gx_Wd) : Option (Int32 × gx_Wd) :=
  if a1 = 98 then
    some (0, w)
  else
  if a1 = 99 then
    some (1, w)
  else
  if a1 = 104 then
    some (5, w)
  else
  if a1 = 108 then
    some (4, w)
  else
  if a1 = 115 then
    some (3, w)
  else
  if a1 = 116 then
    some (2, w)
  else
  some ((-1), w)
theorem k_m_kindOf {a1 : Int32} {w : gx_Wd} {R : Int32 × gx_Wd} (h : m_kindOf a1 w = some R) : gx_MT mi_m_kindOf [.inr 0, .inl a1] w (some (.inl R.1)) R.2 := by
  refine gx_met (by decide +kernel) (Nat.le_of_ble_eq_true rfl) (fun X hX hres hwr => ?_)
  show gx_G X mi_m_kindOf 0 [some (.inr 0), some (.inl a1)] [] w
  rw [m_kindOf] at h
  refine gx_iload_n hX (gx_dt dt_mi_m_kindOf 0 rfl) rfl ?_
  by_cases c1 : a1 = 98
  · have h := gx_ifp c1 h
    refine gx_tabIn hX (off := 91) (tgt := 92) (gx_dt dt_mi_m_kindOf 1 rfl) (by rw [c1]; decide) (by rw [c1]; decide) (by rw [c1]; rfl) (by decide) ?_
    refine gx_iconst hX (v := 0) (gx_dt dt_mi_m_kindOf 2 rfl) (by decide) ?_
    obtain rfl := Option.some.inj h
    exact gx_iret hX (gx_dt dt_mi_m_kindOf 3 rfl) rfl hres hwr
  have h := gx_ifn c1 h
  by_cases c2 : a1 = 99
  · have h := gx_ifp c2 h
    refine gx_tabIn hX (off := 93) (tgt := 94) (gx_dt dt_mi_m_kindOf 1 rfl) (by rw [c2]; decide) (by rw [c2]; decide) (by rw [c2]; rfl) (by decide) ?_
    refine gx_iconst hX (v := 1) (gx_dt dt_mi_m_kindOf 4 rfl) (by decide) ?_
    obtain rfl := Option.some.inj h
    exact gx_iret hX (gx_dt dt_mi_m_kindOf 5 rfl) rfl hres hwr
  have h := gx_ifn c2 h
  by_cases c3 : a1 = 104
  · have h := gx_ifp c3 h
    refine gx_tabIn hX (off := 101) (tgt := 102) (gx_dt dt_mi_m_kindOf 1 rfl) (by rw [c3]; decide) (by rw [c3]; decide) (by rw [c3]; rfl) (by decide) ?_
    refine gx_iconst hX (v := 5) (gx_dt dt_mi_m_kindOf 12 rfl) (by decide) ?_
    obtain rfl := Option.some.inj h
    exact gx_iret hX (gx_dt dt_mi_m_kindOf 13 rfl) rfl hres hwr
  have h := gx_ifn c3 h
  by_cases c4 : a1 = 108
  · have h := gx_ifp c4 h
    refine gx_tabIn hX (off := 99) (tgt := 100) (gx_dt dt_mi_m_kindOf 1 rfl) (by rw [c4]; decide) (by rw [c4]; decide) (by rw [c4]; rfl) (by decide) ?_
    refine gx_iconst hX (v := 4) (gx_dt dt_mi_m_kindOf 10 rfl) (by decide) ?_
    obtain rfl := Option.some.inj h
    exact gx_iret hX (gx_dt dt_mi_m_kindOf 11 rfl) rfl hres hwr
  have h := gx_ifn c4 h
  by_cases c5 : a1 = 115
  · have h := gx_ifp c5 h
    refine gx_tabIn hX (off := 97) (tgt := 98) (gx_dt dt_mi_m_kindOf 1 rfl) (by rw [c5]; decide) (by rw [c5]; decide) (by rw [c5]; rfl) (by decide) ?_
    refine gx_iconst hX (v := 3) (gx_dt dt_mi_m_kindOf 8 rfl) (by decide) ?_
    obtain rfl := Option.some.inj h
    exact gx_iret hX (gx_dt dt_mi_m_kindOf 9 rfl) rfl hres hwr
  have h := gx_ifn c5 h
  by_cases c6 : a1 = 116
  · have h := gx_ifp c6 h
    refine gx_tabIn hX (off := 95) (tgt := 96) (gx_dt dt_mi_m_kindOf 1 rfl) (by rw [c6]; decide) (by rw [c6]; decide) (by rw [c6]; rfl) (by decide) ?_
    refine gx_iconst hX (v := 2) (gx_dt dt_mi_m_kindOf 6 rfl) (by decide) ?_
    obtain rfl := Option.some.inj h
    exact gx_iret hX (gx_dt dt_mi_m_kindOf 7 rfl) rfl hres hwr
  have h := gx_ifn c6 h
  refine gx_tabD hX (tgt := 104) (gx_dt dt_mi_m_kindOf 1 rfl) (gx_tdC (Or.inr (lv_neT c1 rfl)) (gx_tdC (Or.inr (lv_neT c2 rfl)) (gx_tdC (Or.inl rfl) (gx_tdC (Or.inl rfl) (gx_tdC (Or.inl rfl) (gx_tdC (Or.inl rfl) (gx_tdC (Or.inr (lv_neT c3 rfl)) (gx_tdC (Or.inl rfl) (gx_tdC (Or.inl rfl) (gx_tdC (Or.inl rfl) (gx_tdC (Or.inr (lv_neT c4 rfl)) (gx_tdC (Or.inl rfl) (gx_tdC (Or.inl rfl) (gx_tdC (Or.inl rfl) (gx_tdC (Or.inl rfl) (gx_tdC (Or.inl rfl) (gx_tdC (Or.inl rfl) (gx_tdC (Or.inr (lv_neT c5 rfl)) (gx_tdC (Or.inr (lv_neT c6 rfl)) gx_td0))))))))))))))))))) (by decide) (by decide) ?_
  refine gx_iconst hX (v := (-1)) (gx_dt dt_mi_m_kindOf 14 rfl) (by decide) ?_
  obtain rfl := Option.some.inj h
  exact gx_iret hX (gx_dt dt_mi_m_kindOf 15 rfl) rfl hres hwr
-- EachBearsPillarModel.takesKind()Z
def m_takesKind (w : gx_Wd) : Option (Int32 × gx_Wd) :=
  (m_next w).bind fun r1 =>
  (m_kindOf r1.1 r1.2).bind fun r2 =>
  (gx_put r2.2 0 17 r2.1).bind fun w3 =>
  if 0 ≤ w3 0 17 then
    (gx_put w3 0 14 ((w3 0 14) + 1)).bind fun w5 =>
    some (1, w5)
  else
  some (0, w3)
theorem k_m_takesKind {w : gx_Wd} {R : Int32 × gx_Wd} (h : m_takesKind w = some R) : gx_MT mi_m_takesKind [.inr 0] w (some (.inl R.1)) R.2 := by
  refine gx_met (by decide +kernel) (Nat.le_of_ble_eq_true rfl) (fun X hX hres hwr => ?_)
  show gx_G X mi_m_takesKind 0 [some (.inr 0)] [] w
  rw [m_takesKind] at h
  refine gx_aload_n hX (gx_dt dt_mi_m_takesKind 0 rfl) rfl ?_
  refine gx_aload_n hX (gx_dt dt_mi_m_takesKind 1 rfl) rfl ?_
  refine gx_aload_n hX (gx_dt dt_mi_m_takesKind 2 rfl) rfl ?_
  obtain ⟨r1, e_r1, h⟩ := gx_bd h
  refine gx_callVi hX (gx_dt dt_mi_m_takesKind 3 rfl) ln_D_125_m_next mo_m_next mv_m_next (gx_rmb rfl) sh_m_0 ⟨_, _, rfl⟩ rfl (k_m_next e_r1) rfl rfl (Nat.le_of_ble_eq_true rfl) ?_
  obtain ⟨r2, e_r2, h⟩ := gx_bd h
  refine gx_callVi hX (gx_dt dt_mi_m_takesKind 4 rfl) ln_D_133_m_kindOf mo_m_kindOf mv_m_kindOf (gx_rmb rfl) sh_m_0 ⟨_, _, rfl⟩ rfl (k_m_kindOf e_r2) rfl rfl (Nat.le_of_ble_eq_true rfl) ?_
  obtain ⟨w3, e_w3, h⟩ := gx_bd h
  refine gx_putp hX fl_D_62 (pf_D_17 _) sh_m_0 rfl e_w3 (gx_dt dt_mi_m_takesKind 5 rfl) ?_
  refine gx_aload_n hX (gx_dt dt_mi_m_takesKind 6 rfl) rfl ?_
  refine gx_geti hX fl_D_62 sh_m_0 rfl (gx_dt dt_mi_m_takesKind 7 rfl) ?_
  refine gx_if_ge hX (tgt := 21) (gx_dt dt_mi_m_takesKind 8 rfl) (by decide) (fun c4 => ?_) (fun c4 => ?_)
  · have h := gx_ifp c4 h
    refine gx_aload_n hX (gx_dt dt_mi_m_takesKind 11 rfl) rfl ?_
    refine gx_dup hX (gx_dt dt_mi_m_takesKind 12 rfl) ?_
    refine gx_geti hX fl_D_53 sh_m_0 rfl (gx_dt dt_mi_m_takesKind 13 rfl) ?_
    refine gx_iconst hX (v := 1) (gx_dt dt_mi_m_takesKind 14 rfl) (by decide) ?_
    refine gx_iadd hX (gx_dt dt_mi_m_takesKind 15 rfl) ?_
    obtain ⟨w5, e_w5, h⟩ := gx_bd h
    refine gx_putp hX fl_D_53 (pf_D_14 _) sh_m_0 rfl e_w5 (gx_dt dt_mi_m_takesKind 16 rfl) ?_
    refine gx_iconst hX (v := 1) (gx_dt dt_mi_m_takesKind 17 rfl) (by decide) ?_
    obtain rfl := Option.some.inj h
    exact gx_zret hX (gx_dt dt_mi_m_takesKind 18 rfl) rfl rfl hres hwr
  · have h := gx_ifn c4 h
    refine gx_iconst hX (v := 0) (gx_dt dt_mi_m_takesKind 9 rfl) (by decide) ?_
    obtain rfl := Option.some.inj h
    exact gx_zret hX (gx_dt dt_mi_m_takesKind 10 rfl) rfl rfl hres hwr
-- EachBearsPillarModel.in(III)Z
def m_in (a1 : Int32) (a2 : Int32) (a3 : Int32) (w : gx_Wd) : Option (Int32 × gx_Wd) :=
  if a1 < a2 then
    some (0, w)
  else
  if a3 < a1 then
    some (0, w)
  else
  some (1, w)
theorem k_m_in {a1 : Int32} {a2 : Int32} {a3 : Int32} {w : gx_Wd} {R : Int32 × gx_Wd} (h : m_in a1 a2 a3 w = some R) : gx_MT mi_m_in [.inr 0, .inl a1, .inl a2, .inl a3] w (some (.inl R.1)) R.2 := by
  refine gx_met (by decide +kernel) (Nat.le_of_ble_eq_true rfl) (fun X hX hres hwr => ?_)
  show gx_G X mi_m_in 0 [some (.inr 0), some (.inl a1), some (.inl a2), some (.inl a3)] [] w
  rw [m_in] at h
  refine gx_iload_n hX (gx_dt dt_mi_m_in 0 rfl) rfl ?_
  refine gx_iload_n hX (gx_dt dt_mi_m_in 1 rfl) rfl ?_
  refine gx_ic_lt hX (tgt := 14) (gx_dt dt_mi_m_in 2 rfl) (by decide) (fun c1 => ?_) (fun c1 => ?_)
  · have h := gx_ifp c1 h
    refine gx_iconst hX (v := 0) (gx_dt dt_mi_m_in 8 rfl) (by decide) ?_
    obtain rfl := Option.some.inj h
    exact gx_zret hX (gx_dt dt_mi_m_in 9 rfl) rfl rfl hres hwr
  · have h := gx_ifn c1 h
    refine gx_iload_n hX (gx_dt dt_mi_m_in 3 rfl) rfl ?_
    refine gx_iload_n hX (gx_dt dt_mi_m_in 4 rfl) rfl ?_
    refine gx_ic_gt hX (tgt := 14) (gx_dt dt_mi_m_in 5 rfl) (by decide) (fun c2 => ?_) (fun c2 => ?_)
    · have h := gx_ifp c2 h
      refine gx_iconst hX (v := 0) (gx_dt dt_mi_m_in 8 rfl) (by decide) ?_
      obtain rfl := Option.some.inj h
      exact gx_zret hX (gx_dt dt_mi_m_in 9 rfl) rfl rfl hres hwr
    · have h := gx_ifn c2 h
      refine gx_iconst hX (v := 1) (gx_dt dt_mi_m_in 6 rfl) (by decide) ?_
      refine gx_goto hX (tgt := 15) (gx_dt dt_mi_m_in 7 rfl) (by decide) ?_
      obtain rfl := Option.some.inj h
      exact gx_zret hX (gx_dt dt_mi_m_in 9 rfl) rfl rfl hres hwr
-- EachBearsPillarModel.isDigit()Z
def m_isDigit (w : gx_Wd) : Option (Int32 × gx_Wd) :=
  (m_next w).bind fun r1 =>
  (m_in r1.1 48 57 r1.2).bind fun r2 =>
  if r2.1 = 0 ∨ r2.1 = 1 then some (r2.1, r2.2) else none
theorem k_m_isDigit {w : gx_Wd} {R : Int32 × gx_Wd} (h : m_isDigit w = some R) : gx_MT mi_m_isDigit [.inr 0] w (some (.inl R.1)) R.2 := by
  refine gx_met (by decide +kernel) (Nat.le_of_ble_eq_true rfl) (fun X hX hres hwr => ?_)
  show gx_G X mi_m_isDigit 0 [some (.inr 0)] [] w
  rw [m_isDigit] at h
  refine gx_aload_n hX (gx_dt dt_mi_m_isDigit 0 rfl) rfl ?_
  refine gx_aload_n hX (gx_dt dt_mi_m_isDigit 1 rfl) rfl ?_
  obtain ⟨r1, e_r1, h⟩ := gx_bd h
  refine gx_callVi hX (gx_dt dt_mi_m_isDigit 2 rfl) ln_D_125_m_next mo_m_next mv_m_next (gx_rmb rfl) sh_m_0 ⟨_, _, rfl⟩ rfl (k_m_next e_r1) rfl rfl (Nat.le_of_ble_eq_true rfl) ?_
  refine gx_bipush hX (v := 48) (gx_dt dt_mi_m_isDigit 3 rfl) (by decide) ?_
  refine gx_bipush hX (v := 57) (gx_dt dt_mi_m_isDigit 4 rfl) (by decide) ?_
  obtain ⟨r2, e_r2, h⟩ := gx_bd h
  refine gx_callVi hX (gx_dt dt_mi_m_isDigit 5 rfl) ln_D_117_m_in mo_m_in mv_m_in (gx_rmb rfl) sh_m_0 ⟨_, _, rfl⟩ rfl (k_m_in e_r2) rfl rfl (Nat.le_of_ble_eq_true rfl) ?_
  obtain ⟨c, h⟩ := gx_01 h
  obtain rfl := Option.some.inj h
  exact gx_zret hX (gx_dt dt_mi_m_isDigit 6 rfl) rfl (gx_nar c) hres hwr
-- EachBearsPillarModel.number(I)I
def m_number_13 : Nat → Int32 → Int32 → Int32 → gx_Wd → Option (Int32 × gx_Wd)
  | 0, _, _, _, _ => none
  | n + 1, b1, b2, b3, w =>
  if b1 ≤ b3 then
    some (b2, w)
  else
  (m_isDigit w).bind fun r2 =>
  if r2.1 = 0 then
    some (b2, r2.2)
  else
  (gx_ald sh_m r2.2 7 (r2.2 0 14)).bind fun v4 =>
  (some (((10 * b2) + v4) - 48)).bind fun v5 =>
  (gx_put r2.2 0 14 ((r2.2 0 14) + 1)).bind fun w6 =>
  (some (b3 + 1)).bind fun v7 =>
  (m_number_13 n) b1 v5 v7 w6
def m_number (a1 : Int32) (w : gx_Wd) : Option (Int32 × gx_Wd) :=
  (m_isDigit w).bind fun r1 =>
  if r1.1 = 0 then
    some ((-1), r1.2)
  else
    m_number_13 6000 a1 0 0 r1.2
theorem t_m_number_13 {X : gx_X} (hX : gx_Ok X mi_m_number) {R : Int32 × gx_Wd} (hres : gx_res X = some (.inl R.1)) (hwr : gx_wr X = R.2) : ∀ (n : Nat) (b1 : Int32) (b2 : Int32) (b3 : Int32) (w : gx_Wd), m_number_13 n b1 b2 b3 w = some R → gx_G X mi_m_number 13 [some (.inr 0), some (.inl b1), some (.inl b2), some (.inl b3)] [] w := by
  intro n
  induction n with
  | zero => intro b1 b2 b3 w h; rw [m_number_13] at h; cases h
  | succ n ih =>
    intro b1 b2 b3 w h
    rw [m_number_13] at h
    refine gx_iload_n hX (gx_dt dt_mi_m_number 9 rfl) rfl ?_
    refine gx_iload_n hX (gx_dt dt_mi_m_number 10 rfl) rfl ?_
    refine gx_ic_ge hX (tgt := 59) (gx_dt dt_mi_m_number 11 rfl) (by decide) (fun c1 => ?_) (fun c1 => ?_)
    · have h := gx_ifp c1 h
      refine gx_iload_n hX (gx_dt dt_mi_m_number 35 rfl) rfl ?_
      obtain rfl := Option.some.inj h
      exact gx_iret hX (gx_dt dt_mi_m_number 36 rfl) rfl hres hwr
    · have h := gx_ifn c1 h
      refine gx_aload_n hX (gx_dt dt_mi_m_number 12 rfl) rfl ?_
      obtain ⟨r2, e_r2, h⟩ := gx_bd h
      refine gx_callVi hX (gx_dt dt_mi_m_number 13 rfl) ln_D_129_m_isDigit mo_m_isDigit mv_m_isDigit (gx_rmb rfl) sh_m_0 ⟨_, _, rfl⟩ rfl (k_m_isDigit e_r2) rfl rfl (Nat.le_of_ble_eq_true rfl) ?_
      refine gx_if_eq hX (tgt := 59) (gx_dt dt_mi_m_number 14 rfl) (by decide) (fun c3 => ?_) (fun c3 => ?_)
      · have h := gx_ifp c3 h
        refine gx_iload_n hX (gx_dt dt_mi_m_number 35 rfl) rfl ?_
        obtain rfl := Option.some.inj h
        exact gx_iret hX (gx_dt dt_mi_m_number 36 rfl) rfl hres hwr
      · have h := gx_ifn c3 h
        refine gx_bipush hX (v := 10) (gx_dt dt_mi_m_number 15 rfl) (by decide) ?_
        refine gx_iload_n hX (gx_dt dt_mi_m_number 16 rfl) rfl ?_
        refine gx_imul hX (gx_dt dt_mi_m_number 17 rfl) ?_
        refine gx_aload_n hX (gx_dt dt_mi_m_number 18 rfl) rfl ?_
        refine gx_getr hX fl_D_44 sh_m_0 rfl (gx_dt dt_mi_m_number 19 rfl) ?_
        refine gx_aload_n hX (gx_dt dt_mi_m_number 20 rfl) rfl ?_
        refine gx_geti hX fl_D_53 sh_m_0 rfl (gx_dt dt_mi_m_number 21 rfl) ?_
        obtain ⟨v4, e_v4, h⟩ := gx_bd h
        refine gx_iald hX e_v4 (gx_dt dt_mi_m_number 22 rfl) ?_
        refine gx_iadd hX (gx_dt dt_mi_m_number 23 rfl) ?_
        refine gx_bipush hX (v := 48) (gx_dt dt_mi_m_number 24 rfl) (by decide) ?_
        refine gx_isub hX (gx_dt dt_mi_m_number 25 rfl) ?_
        obtain ⟨v5, e_v5, h⟩ := gx_bd h
        refine gx_top e_v5 ?_
        refine gx_istore_n hX (ls' := [some (.inr 0), some (.inl b1), some (.inl v5), some (.inl b3)]) (gx_dt dt_mi_m_number 26 rfl) (by decide) rfl ?_
        refine gx_aload_n hX (gx_dt dt_mi_m_number 27 rfl) rfl ?_
        refine gx_dup hX (gx_dt dt_mi_m_number 28 rfl) ?_
        refine gx_geti hX fl_D_53 sh_m_0 rfl (gx_dt dt_mi_m_number 29 rfl) ?_
        refine gx_iconst hX (v := 1) (gx_dt dt_mi_m_number 30 rfl) (by decide) ?_
        refine gx_iadd hX (gx_dt dt_mi_m_number 31 rfl) ?_
        obtain ⟨w6, e_w6, h⟩ := gx_bd h
        refine gx_putp hX fl_D_53 (pf_D_14 _) sh_m_0 rfl e_w6 (gx_dt dt_mi_m_number 32 rfl) ?_
        obtain ⟨v7, e_v7, h⟩ := gx_bd h
        refine gx_iinc hX (v := v7) (ls' := [some (.inr 0), some (.inl b1), some (.inl v5), some (.inl v7)]) (gx_dt dt_mi_m_number 33 rfl) rfl (gx_ii e_v7 (by decide)) (by decide) rfl ?_
        refine gx_goto hX (tgt := 13) (gx_dt dt_mi_m_number 34 rfl) (by decide) ?_
        exact gx_weak (gx_leS (gx_leS (gx_leS (gx_leS gx_le0)))) (ih _ _ _ _ h)
theorem k_m_number {a1 : Int32} {w : gx_Wd} {R : Int32 × gx_Wd} (h : m_number a1 w = some R) : gx_MT mi_m_number [.inr 0, .inl a1] w (some (.inl R.1)) R.2 := by
  refine gx_met (by decide +kernel) (Nat.le_of_ble_eq_true rfl) (fun X hX hres hwr => ?_)
  show gx_G X mi_m_number 0 [some (.inr 0), some (.inl a1)] [] w
  rw [m_number] at h
  refine gx_aload_n hX (gx_dt dt_mi_m_number 0 rfl) rfl ?_
  obtain ⟨r1, e_r1, h⟩ := gx_bd h
  refine gx_callVi hX (gx_dt dt_mi_m_number 1 rfl) ln_D_129_m_isDigit mo_m_isDigit mv_m_isDigit (gx_rmb rfl) sh_m_0 ⟨_, _, rfl⟩ rfl (k_m_isDigit e_r1) rfl rfl (Nat.le_of_ble_eq_true rfl) ?_
  refine gx_if_ne hX (tgt := 9) (gx_dt dt_mi_m_number 2 rfl) (by decide) (fun c2 => ?_) (fun c2 => ?_)
  · have h := gx_ifn c2 h
    refine gx_iconst hX (v := 0) (gx_dt dt_mi_m_number 5 rfl) (by decide) ?_
    refine gx_istore_n hX (ls' := [some (.inr 0), some (.inl a1), some (.inl (0))]) (gx_dt dt_mi_m_number 6 rfl) (by decide) rfl ?_
    refine gx_iconst hX (v := 0) (gx_dt dt_mi_m_number 7 rfl) (by decide) ?_
    refine gx_istore_n hX (ls' := [some (.inr 0), some (.inl a1), some (.inl (0)), some (.inl (0))]) (gx_dt dt_mi_m_number 8 rfl) (by decide) rfl ?_
    exact gx_weak (gx_leS (gx_leS (gx_leS (gx_leS gx_le0)))) (t_m_number_13 hX hres hwr _ _ _ _ _ h)
  · have h := gx_ifp c2 h
    refine gx_iconst hX (v := (-1)) (gx_dt dt_mi_m_number 3 rfl) (by decide) ?_
    obtain rfl := Option.some.inj h
    exact gx_iret hX (gx_dt dt_mi_m_number 4 rfl) rfl hres hwr
-- EachBearsPillarModel.takes(I)Z
def m_takes (a1 : Int32) (w : gx_Wd) : Option (Int32 × gx_Wd) :=
  (m_next w).bind fun r1 =>
  if r1.1 = a1 then
    (gx_put r1.2 0 14 ((r1.2 0 14) + 1)).bind fun w3 =>
    some (1, w3)
  else
  some (0, r1.2)
theorem k_m_takes {a1 : Int32} {w : gx_Wd} {R : Int32 × gx_Wd} (h : m_takes a1 w = some R) : gx_MT mi_m_takes [.inr 0, .inl a1] w (some (.inl R.1)) R.2 := by
  refine gx_met (by decide +kernel) (Nat.le_of_ble_eq_true rfl) (fun X hX hres hwr => ?_)
  show gx_G X mi_m_takes 0 [some (.inr 0), some (.inl a1)] [] w
  rw [m_takes] at h
  refine gx_aload_n hX (gx_dt dt_mi_m_takes 0 rfl) rfl ?_
  obtain ⟨r1, e_r1, h⟩ := gx_bd h
  refine gx_callVi hX (gx_dt dt_mi_m_takes 1 rfl) ln_D_125_m_next mo_m_next mv_m_next (gx_rmb rfl) sh_m_0 ⟨_, _, rfl⟩ rfl (k_m_next e_r1) rfl rfl (Nat.le_of_ble_eq_true rfl) ?_
  refine gx_iload_n hX (gx_dt dt_mi_m_takes 2 rfl) rfl ?_
  refine gx_ic_eq hX (tgt := 10) (gx_dt dt_mi_m_takes 3 rfl) (by decide) (fun c2 => ?_) (fun c2 => ?_)
  · have h := gx_ifp c2 h
    refine gx_aload_n hX (gx_dt dt_mi_m_takes 6 rfl) rfl ?_
    refine gx_dup hX (gx_dt dt_mi_m_takes 7 rfl) ?_
    refine gx_geti hX fl_D_53 sh_m_0 rfl (gx_dt dt_mi_m_takes 8 rfl) ?_
    refine gx_iconst hX (v := 1) (gx_dt dt_mi_m_takes 9 rfl) (by decide) ?_
    refine gx_iadd hX (gx_dt dt_mi_m_takes 10 rfl) ?_
    obtain ⟨w3, e_w3, h⟩ := gx_bd h
    refine gx_putp hX fl_D_53 (pf_D_14 _) sh_m_0 rfl e_w3 (gx_dt dt_mi_m_takes 11 rfl) ?_
    refine gx_iconst hX (v := 1) (gx_dt dt_mi_m_takes 12 rfl) (by decide) ?_
    obtain rfl := Option.some.inj h
    exact gx_zret hX (gx_dt dt_mi_m_takes 13 rfl) rfl rfl hres hwr
  · have h := gx_ifn c2 h
    refine gx_iconst hX (v := 0) (gx_dt dt_mi_m_takes 4 rfl) (by decide) ?_
    obtain rfl := Option.some.inj h
    exact gx_zret hX (gx_dt dt_mi_m_takes 5 rfl) rfl rfl hres hwr
-- EachBearsPillarModel.takesTwo(II)Z
def m_takesTwo (a1 : Int32) (a2 : Int32) (w : gx_Wd) : Option (Int32 × gx_Wd) :=
  (m_number a1 w).bind fun r1 =>
  (gx_put r1.2 0 15 r1.1).bind fun w2 =>
  if w2 0 15 < 0 then
    some (0, w2)
  else
  (m_takes 44 w2).bind fun r4 =>
  if r4.1 = 0 then
    some (0, r4.2)
  else
    (m_number a2 r4.2).bind fun r6 =>
    (gx_put r6.2 0 16 r6.1).bind fun w7 =>
    if w7 0 16 < 0 then
      some (0, w7)
    else
    some (1, w7)
theorem k_m_takesTwo {a1 : Int32} {a2 : Int32} {w : gx_Wd} {R : Int32 × gx_Wd} (h : m_takesTwo a1 a2 w = some R) : gx_MT mi_m_takesTwo [.inr 0, .inl a1, .inl a2] w (some (.inl R.1)) R.2 := by
  refine gx_met (by decide +kernel) (Nat.le_of_ble_eq_true rfl) (fun X hX hres hwr => ?_)
  show gx_G X mi_m_takesTwo 0 [some (.inr 0), some (.inl a1), some (.inl a2)] [] w
  rw [m_takesTwo] at h
  refine gx_aload_n hX (gx_dt dt_mi_m_takesTwo 0 rfl) rfl ?_
  refine gx_aload_n hX (gx_dt dt_mi_m_takesTwo 1 rfl) rfl ?_
  refine gx_iload_n hX (gx_dt dt_mi_m_takesTwo 2 rfl) rfl ?_
  obtain ⟨r1, e_r1, h⟩ := gx_bd h
  refine gx_callVi hX (gx_dt dt_mi_m_takesTwo 3 rfl) ln_D_136_m_number mo_m_number mv_m_number (gx_rmb rfl) sh_m_0 ⟨_, _, rfl⟩ rfl (k_m_number e_r1) rfl rfl (Nat.le_of_ble_eq_true rfl) ?_
  obtain ⟨w2, e_w2, h⟩ := gx_bd h
  refine gx_putp hX fl_D_56 (pf_D_15 _) sh_m_0 rfl e_w2 (gx_dt dt_mi_m_takesTwo 4 rfl) ?_
  refine gx_aload_n hX (gx_dt dt_mi_m_takesTwo 5 rfl) rfl ?_
  refine gx_geti hX fl_D_56 sh_m_0 rfl (gx_dt dt_mi_m_takesTwo 6 rfl) ?_
  refine gx_if_lt hX (tgt := 25) (gx_dt dt_mi_m_takesTwo 7 rfl) (by decide) (fun c3 => ?_) (fun c3 => ?_)
  · have h := gx_ifp c3 h
    refine gx_iconst hX (v := 0) (gx_dt dt_mi_m_takesTwo 12 rfl) (by decide) ?_
    obtain rfl := Option.some.inj h
    exact gx_zret hX (gx_dt dt_mi_m_takesTwo 13 rfl) rfl rfl hres hwr
  · have h := gx_ifn c3 h
    refine gx_aload_n hX (gx_dt dt_mi_m_takesTwo 8 rfl) rfl ?_
    refine gx_bipush hX (v := 44) (gx_dt dt_mi_m_takesTwo 9 rfl) (by decide) ?_
    obtain ⟨r4, e_r4, h⟩ := gx_bd h
    refine gx_callVi hX (gx_dt dt_mi_m_takesTwo 10 rfl) ln_D_139_m_takes mo_m_takes mv_m_takes (gx_rmb rfl) sh_m_0 ⟨_, _, rfl⟩ rfl (k_m_takes e_r4) rfl rfl (Nat.le_of_ble_eq_true rfl) ?_
    refine gx_if_ne hX (tgt := 27) (gx_dt dt_mi_m_takesTwo 11 rfl) (by decide) (fun c5 => ?_) (fun c5 => ?_)
    · have h := gx_ifn c5 h
      refine gx_aload_n hX (gx_dt dt_mi_m_takesTwo 14 rfl) rfl ?_
      refine gx_aload_n hX (gx_dt dt_mi_m_takesTwo 15 rfl) rfl ?_
      refine gx_iload_n hX (gx_dt dt_mi_m_takesTwo 16 rfl) rfl ?_
      obtain ⟨r6, e_r6, h⟩ := gx_bd h
      refine gx_callVi hX (gx_dt dt_mi_m_takesTwo 17 rfl) ln_D_136_m_number mo_m_number mv_m_number (gx_rmb rfl) sh_m_0 ⟨_, _, rfl⟩ rfl (k_m_number e_r6) rfl rfl (Nat.le_of_ble_eq_true rfl) ?_
      obtain ⟨w7, e_w7, h⟩ := gx_bd h
      refine gx_putp hX fl_D_59 (pf_D_16 _) sh_m_0 rfl e_w7 (gx_dt dt_mi_m_takesTwo 18 rfl) ?_
      refine gx_aload_n hX (gx_dt dt_mi_m_takesTwo 19 rfl) rfl ?_
      refine gx_geti hX fl_D_59 sh_m_0 rfl (gx_dt dt_mi_m_takesTwo 20 rfl) ?_
      refine gx_if_lt hX (tgt := 47) (gx_dt dt_mi_m_takesTwo 21 rfl) (by decide) (fun c8 => ?_) (fun c8 => ?_)
      · have h := gx_ifp c8 h
        refine gx_iconst hX (v := 0) (gx_dt dt_mi_m_takesTwo 24 rfl) (by decide) ?_
        obtain rfl := Option.some.inj h
        exact gx_zret hX (gx_dt dt_mi_m_takesTwo 25 rfl) rfl rfl hres hwr
      · have h := gx_ifn c8 h
        refine gx_iconst hX (v := 1) (gx_dt dt_mi_m_takesTwo 22 rfl) (by decide) ?_
        refine gx_goto hX (tgt := 48) (gx_dt dt_mi_m_takesTwo 23 rfl) (by decide) ?_
        obtain rfl := Option.some.inj h
        exact gx_zret hX (gx_dt dt_mi_m_takesTwo 25 rfl) rfl rfl hres hwr
    · have h := gx_ifp c5 h
      refine gx_iconst hX (v := 0) (gx_dt dt_mi_m_takesTwo 12 rfl) (by decide) ?_
      obtain rfl := Option.some.inj h
      exact gx_zret hX (gx_dt dt_mi_m_takesTwo 13 rfl) rfl rfl hres hwr
-- EachBearsPillarModel.takesRest(I)Z
def m_takesRest (a1 : Int32) (w : gx_Wd) : Option (Int32 × gx_Wd) :=
  if a1 = 98 then
    (m_takesKind w).bind fun r2 =>
    if r2.1 = 0 then
      some (0, r2.2)
    else
    (m_takesTwo 2 1 r2.2).bind fun r4 =>
    if r4.1 = 0 then
      some (0, r4.2)
    else
    some (1, r4.2)
  else
  if a1 = 103 then
    (m_takesTwo 2 1 w).bind fun r7 =>
    if r7.1 = 0 ∨ r7.1 = 1 then some (r7.1, r7.2) else none
  else
  if a1 = 107 then
    (m_takesTwo 1 1 w).bind fun r9 =>
    if r9.1 = 0 ∨ r9.1 = 1 then some (r9.1, r9.2) else none
  else
  if a1 = 115 then
    (m_takesTwo 1 2 w).bind fun r11 =>
    if r11.1 = 0 ∨ r11.1 = 1 then some (r11.1, r11.2) else none
  else
  (m_number 2 w).bind fun r12 =>
  (gx_put r12.2 0 15 r12.1).bind fun w13 =>
  if w13 0 15 < 0 then
    some (0, w13)
  else
  some (1, w13)
theorem k_m_takesRest {a1 : Int32} {w : gx_Wd} {R : Int32 × gx_Wd} (h : m_takesRest a1 w = some R) : gx_MT mi_m_takesRest [.inr 0, .inl a1] w (some (.inl R.1)) R.2 := by
  refine gx_met (by decide +kernel) (Nat.le_of_ble_eq_true rfl) (fun X hX hres hwr => ?_)
  show gx_G X mi_m_takesRest 0 [some (.inr 0), some (.inl a1)] [] w
  rw [m_takesRest] at h
  refine gx_iload_n hX (gx_dt dt_mi_m_takesRest 0 rfl) rfl ?_
  by_cases c1 : a1 = 98
  · have h := gx_ifp c1 h
    refine gx_lookup hX (off := 43) (tgt := 44) (gx_dt dt_mi_m_takesRest 1 rfl) (by decide) (by rw [c1]; rfl) (by decide) ?_
    refine gx_aload_n hX (gx_dt dt_mi_m_takesRest 2 rfl) rfl ?_
    obtain ⟨r2, e_r2, h⟩ := gx_bd h
    refine gx_callVi hX (gx_dt dt_mi_m_takesRest 3 rfl) ln_D_143_m_takesKind mo_m_takesKind mv_m_takesKind (gx_rmb rfl) sh_m_0 ⟨_, _, rfl⟩ rfl (k_m_takesKind e_r2) rfl rfl (Nat.le_of_ble_eq_true rfl) ?_
    refine gx_if_eq hX (tgt := 64) (gx_dt dt_mi_m_takesRest 4 rfl) (by decide) (fun c3 => ?_) (fun c3 => ?_)
    · have h := gx_ifp c3 h
      refine gx_iconst hX (v := 0) (gx_dt dt_mi_m_takesRest 12 rfl) (by decide) ?_
      obtain rfl := Option.some.inj h
      exact gx_zret hX (gx_dt dt_mi_m_takesRest 13 rfl) rfl rfl hres hwr
    · have h := gx_ifn c3 h
      refine gx_aload_n hX (gx_dt dt_mi_m_takesRest 5 rfl) rfl ?_
      refine gx_iconst hX (v := 2) (gx_dt dt_mi_m_takesRest 6 rfl) (by decide) ?_
      refine gx_iconst hX (v := 1) (gx_dt dt_mi_m_takesRest 7 rfl) (by decide) ?_
      obtain ⟨r4, e_r4, h⟩ := gx_bd h
      refine gx_callVi hX (gx_dt dt_mi_m_takesRest 8 rfl) ln_D_146_m_takesTwo mo_m_takesTwo mv_m_takesTwo (gx_rmb rfl) sh_m_0 ⟨_, _, rfl⟩ rfl (k_m_takesTwo e_r4) rfl rfl (Nat.le_of_ble_eq_true rfl) ?_
      refine gx_if_eq hX (tgt := 64) (gx_dt dt_mi_m_takesRest 9 rfl) (by decide) (fun c5 => ?_) (fun c5 => ?_)
      · have h := gx_ifp c5 h
        refine gx_iconst hX (v := 0) (gx_dt dt_mi_m_takesRest 12 rfl) (by decide) ?_
        obtain rfl := Option.some.inj h
        exact gx_zret hX (gx_dt dt_mi_m_takesRest 13 rfl) rfl rfl hres hwr
      · have h := gx_ifn c5 h
        refine gx_iconst hX (v := 1) (gx_dt dt_mi_m_takesRest 10 rfl) (by decide) ?_
        refine gx_goto hX (tgt := 65) (gx_dt dt_mi_m_takesRest 11 rfl) (by decide) ?_
        obtain rfl := Option.some.inj h
        exact gx_zret hX (gx_dt dt_mi_m_takesRest 13 rfl) rfl rfl hres hwr
  have h := gx_ifn c1 h
  by_cases c6 : a1 = 103
  · have h := gx_ifp c6 h
    refine gx_lookup hX (off := 72) (tgt := 73) (gx_dt dt_mi_m_takesRest 1 rfl) (by decide) (by rw [c6]; rfl) (by decide) ?_
    refine gx_aload_n hX (gx_dt dt_mi_m_takesRest 19 rfl) rfl ?_
    refine gx_iconst hX (v := 2) (gx_dt dt_mi_m_takesRest 20 rfl) (by decide) ?_
    refine gx_iconst hX (v := 1) (gx_dt dt_mi_m_takesRest 21 rfl) (by decide) ?_
    obtain ⟨r7, e_r7, h⟩ := gx_bd h
    refine gx_callVi hX (gx_dt dt_mi_m_takesRest 22 rfl) ln_D_146_m_takesTwo mo_m_takesTwo mv_m_takesTwo (gx_rmb rfl) sh_m_0 ⟨_, _, rfl⟩ rfl (k_m_takesTwo e_r7) rfl rfl (Nat.le_of_ble_eq_true rfl) ?_
    obtain ⟨c, h⟩ := gx_01 h
    obtain rfl := Option.some.inj h
    exact gx_zret hX (gx_dt dt_mi_m_takesRest 23 rfl) rfl (gx_nar c) hres hwr
  have h := gx_ifn c6 h
  by_cases c8 : a1 = 107
  · have h := gx_ifp c8 h
    refine gx_lookup hX (off := 79) (tgt := 80) (gx_dt dt_mi_m_takesRest 1 rfl) (by decide) (by rw [c8]; rfl) (by decide) ?_
    refine gx_aload_n hX (gx_dt dt_mi_m_takesRest 24 rfl) rfl ?_
    refine gx_iconst hX (v := 1) (gx_dt dt_mi_m_takesRest 25 rfl) (by decide) ?_
    refine gx_iconst hX (v := 1) (gx_dt dt_mi_m_takesRest 26 rfl) (by decide) ?_
    obtain ⟨r9, e_r9, h⟩ := gx_bd h
    refine gx_callVi hX (gx_dt dt_mi_m_takesRest 27 rfl) ln_D_146_m_takesTwo mo_m_takesTwo mv_m_takesTwo (gx_rmb rfl) sh_m_0 ⟨_, _, rfl⟩ rfl (k_m_takesTwo e_r9) rfl rfl (Nat.le_of_ble_eq_true rfl) ?_
    obtain ⟨c, h⟩ := gx_01 h
    obtain rfl := Option.some.inj h
    exact gx_zret hX (gx_dt dt_mi_m_takesRest 28 rfl) rfl (gx_nar c) hres hwr
  have h := gx_ifn c8 h
  by_cases c10 : a1 = 115
  · have h := gx_ifp c10 h
    refine gx_lookup hX (off := 65) (tgt := 66) (gx_dt dt_mi_m_takesRest 1 rfl) (by decide) (by rw [c10]; rfl) (by decide) ?_
    refine gx_aload_n hX (gx_dt dt_mi_m_takesRest 14 rfl) rfl ?_
    refine gx_iconst hX (v := 1) (gx_dt dt_mi_m_takesRest 15 rfl) (by decide) ?_
    refine gx_iconst hX (v := 2) (gx_dt dt_mi_m_takesRest 16 rfl) (by decide) ?_
    obtain ⟨r11, e_r11, h⟩ := gx_bd h
    refine gx_callVi hX (gx_dt dt_mi_m_takesRest 17 rfl) ln_D_146_m_takesTwo mo_m_takesTwo mv_m_takesTwo (gx_rmb rfl) sh_m_0 ⟨_, _, rfl⟩ rfl (k_m_takesTwo e_r11) rfl rfl (Nat.le_of_ble_eq_true rfl) ?_
    obtain ⟨c, h⟩ := gx_01 h
    obtain rfl := Option.some.inj h
    exact gx_zret hX (gx_dt dt_mi_m_takesRest 18 rfl) rfl (gx_nar c) hres hwr
  have h := gx_ifn c10 h
  refine gx_lookup hX (off := 86) (tgt := 87) (gx_dt dt_mi_m_takesRest 1 rfl) (by decide) (by show Op.lookupswitch.offset [(98, 43), (103, 72), (107, 79), (115, 65)] _ _ = _; rw [lv_osw (a := 98) c1 rfl, lv_osw (a := 103) c6 rfl, lv_osw (a := 107) c8 rfl, lv_osw (a := 115) c10 rfl]; rfl) (by decide) ?_
  refine gx_aload_n hX (gx_dt dt_mi_m_takesRest 29 rfl) rfl ?_
  refine gx_aload_n hX (gx_dt dt_mi_m_takesRest 30 rfl) rfl ?_
  refine gx_iconst hX (v := 2) (gx_dt dt_mi_m_takesRest 31 rfl) (by decide) ?_
  obtain ⟨r12, e_r12, h⟩ := gx_bd h
  refine gx_callVi hX (gx_dt dt_mi_m_takesRest 32 rfl) ln_D_136_m_number mo_m_number mv_m_number (gx_rmb rfl) sh_m_0 ⟨_, _, rfl⟩ rfl (k_m_number e_r12) rfl rfl (Nat.le_of_ble_eq_true rfl) ?_
  obtain ⟨w13, e_w13, h⟩ := gx_bd h
  refine gx_putp hX fl_D_56 (pf_D_15 _) sh_m_0 rfl e_w13 (gx_dt dt_mi_m_takesRest 33 rfl) ?_
  refine gx_aload_n hX (gx_dt dt_mi_m_takesRest 34 rfl) rfl ?_
  refine gx_geti hX fl_D_56 sh_m_0 rfl (gx_dt dt_mi_m_takesRest 35 rfl) ?_
  refine gx_if_lt hX (tgt := 107) (gx_dt dt_mi_m_takesRest 36 rfl) (by decide) (fun c14 => ?_) (fun c14 => ?_)
  · have h := gx_ifp c14 h
    refine gx_iconst hX (v := 0) (gx_dt dt_mi_m_takesRest 39 rfl) (by decide) ?_
    obtain rfl := Option.some.inj h
    exact gx_zret hX (gx_dt dt_mi_m_takesRest 40 rfl) rfl rfl hres hwr
  · have h := gx_ifn c14 h
    refine gx_iconst hX (v := 1) (gx_dt dt_mi_m_takesRest 37 rfl) (by decide) ?_
    refine gx_goto hX (tgt := 108) (gx_dt dt_mi_m_takesRest 38 rfl) (by decide) ?_
    obtain rfl := Option.some.inj h
    exact gx_zret hX (gx_dt dt_mi_m_takesRest 40 rfl) rfl rfl hres hwr
-- EachBearsPillarModel.takesStatement()Z
def m_takesStatement_37 (b1 : Int32) (w : gx_Wd) : Option (Int32 × gx_Wd) :=
  (gx_put w 0 14 ((w 0 14) + 1)).bind fun w1 =>
  (m_takesRest b1 w1).bind fun r2 =>
  if r2.1 = 0 then
    some (0, r2.2)
  else
  (m_takes 59 r2.2).bind fun r4 =>
  if r4.1 = 0 then
    some (0, r4.2)
  else
  some (1, r4.2)
def m_takesStatement (w : gx_Wd) : Option (Int32 × gx_Wd) :=
  (m_next w).bind fun r1 =>
  if r1.1 = 98 then
    m_takesStatement_37 r1.1 r1.2
  else
  if r1.1 = 115 then
    m_takesStatement_37 r1.1 r1.2
  else
  if r1.1 = 103 then
    m_takesStatement_37 r1.1 r1.2
  else
  if r1.1 = 108 then
    m_takesStatement_37 r1.1 r1.2
  else
  if r1.1 = 107 then
    m_takesStatement_37 r1.1 r1.2
  else
  some (0, r1.2)
theorem t_m_takesStatement_37 {X : gx_X} (hX : gx_Ok X mi_m_takesStatement) {R : Int32 × gx_Wd} (hres : gx_res X = some (.inl R.1)) (hwr : gx_wr X = R.2) (b1 : Int32) (w : gx_Wd) (h : m_takesStatement_37 b1 w = some R) : gx_G X mi_m_takesStatement 37 [some (.inr 0), some (.inl b1)] [] w := by
  rw [m_takesStatement_37] at h
  refine gx_aload_n hX (gx_dt dt_mi_m_takesStatement 20 rfl) rfl ?_
  refine gx_dup hX (gx_dt dt_mi_m_takesStatement 21 rfl) ?_
  refine gx_geti hX fl_D_53 sh_m_0 rfl (gx_dt dt_mi_m_takesStatement 22 rfl) ?_
  refine gx_iconst hX (v := 1) (gx_dt dt_mi_m_takesStatement 23 rfl) (by decide) ?_
  refine gx_iadd hX (gx_dt dt_mi_m_takesStatement 24 rfl) ?_
  obtain ⟨w1, e_w1, h⟩ := gx_bd h
  refine gx_putp hX fl_D_53 (pf_D_14 _) sh_m_0 rfl e_w1 (gx_dt dt_mi_m_takesStatement 25 rfl) ?_
  refine gx_aload_n hX (gx_dt dt_mi_m_takesStatement 26 rfl) rfl ?_
  refine gx_iload_n hX (gx_dt dt_mi_m_takesStatement 27 rfl) rfl ?_
  obtain ⟨r2, e_r2, h⟩ := gx_bd h
  refine gx_callVi hX (gx_dt dt_mi_m_takesStatement 28 rfl) ln_D_150_m_takesRest mo_m_takesRest mv_m_takesRest (gx_rmb rfl) sh_m_0 ⟨_, _, rfl⟩ rfl (k_m_takesRest e_r2) rfl rfl (Nat.le_of_ble_eq_true rfl) ?_
  refine gx_if_eq hX (tgt := 68) (gx_dt dt_mi_m_takesStatement 29 rfl) (by decide) (fun c3 => ?_) (fun c3 => ?_)
  · have h := gx_ifp c3 h
    refine gx_iconst hX (v := 0) (gx_dt dt_mi_m_takesStatement 36 rfl) (by decide) ?_
    obtain rfl := Option.some.inj h
    exact gx_zret hX (gx_dt dt_mi_m_takesStatement 37 rfl) rfl rfl hres hwr
  · have h := gx_ifn c3 h
    refine gx_aload_n hX (gx_dt dt_mi_m_takesStatement 30 rfl) rfl ?_
    refine gx_bipush hX (v := 59) (gx_dt dt_mi_m_takesStatement 31 rfl) (by decide) ?_
    obtain ⟨r4, e_r4, h⟩ := gx_bd h
    refine gx_callVi hX (gx_dt dt_mi_m_takesStatement 32 rfl) ln_D_139_m_takes mo_m_takes mv_m_takes (gx_rmb rfl) sh_m_0 ⟨_, _, rfl⟩ rfl (k_m_takes e_r4) rfl rfl (Nat.le_of_ble_eq_true rfl) ?_
    refine gx_if_eq hX (tgt := 68) (gx_dt dt_mi_m_takesStatement 33 rfl) (by decide) (fun c5 => ?_) (fun c5 => ?_)
    · have h := gx_ifp c5 h
      refine gx_iconst hX (v := 0) (gx_dt dt_mi_m_takesStatement 36 rfl) (by decide) ?_
      obtain rfl := Option.some.inj h
      exact gx_zret hX (gx_dt dt_mi_m_takesStatement 37 rfl) rfl rfl hres hwr
    · have h := gx_ifn c5 h
      refine gx_iconst hX (v := 1) (gx_dt dt_mi_m_takesStatement 34 rfl) (by decide) ?_
      refine gx_goto hX (tgt := 69) (gx_dt dt_mi_m_takesStatement 35 rfl) (by decide) ?_
      obtain rfl := Option.some.inj h
      exact gx_zret hX (gx_dt dt_mi_m_takesStatement 37 rfl) rfl rfl hres hwr
theorem k_m_takesStatement {w : gx_Wd} {R : Int32 × gx_Wd} (h : m_takesStatement w = some R) : gx_MT mi_m_takesStatement [.inr 0] w (some (.inl R.1)) R.2 := by
  refine gx_met (by decide +kernel) (Nat.le_of_ble_eq_true rfl) (fun X hX hres hwr => ?_)
  show gx_G X mi_m_takesStatement 0 [some (.inr 0)] [] w
  rw [m_takesStatement] at h
  refine gx_aload_n hX (gx_dt dt_mi_m_takesStatement 0 rfl) rfl ?_
  obtain ⟨r1, e_r1, h⟩ := gx_bd h
  refine gx_callVi hX (gx_dt dt_mi_m_takesStatement 1 rfl) ln_D_125_m_next mo_m_next mv_m_next (gx_rmb rfl) sh_m_0 ⟨_, _, rfl⟩ rfl (k_m_next e_r1) rfl rfl (Nat.le_of_ble_eq_true rfl) ?_
  refine gx_istore_n hX (ls' := [some (.inr 0), some (.inl (r1.1))]) (gx_dt dt_mi_m_takesStatement 2 rfl) (by decide) rfl ?_
  refine gx_iload_n hX (gx_dt dt_mi_m_takesStatement 3 rfl) rfl ?_
  refine gx_bipush hX (v := 98) (gx_dt dt_mi_m_takesStatement 4 rfl) (by decide) ?_
  refine gx_ic_eq hX (tgt := 37) (gx_dt dt_mi_m_takesStatement 5 rfl) (by decide) (fun c2 => ?_) (fun c2 => ?_)
  · have h := gx_ifp c2 h
    exact gx_weak (gx_leS (gx_leS gx_le0)) (t_m_takesStatement_37 hX hres hwr _ _ h)
  · have h := gx_ifn c2 h
    refine gx_iload_n hX (gx_dt dt_mi_m_takesStatement 6 rfl) rfl ?_
    refine gx_bipush hX (v := 115) (gx_dt dt_mi_m_takesStatement 7 rfl) (by decide) ?_
    refine gx_ic_eq hX (tgt := 37) (gx_dt dt_mi_m_takesStatement 8 rfl) (by decide) (fun c3 => ?_) (fun c3 => ?_)
    · have h := gx_ifp c3 h
      exact gx_weak (gx_leS (gx_leS gx_le0)) (t_m_takesStatement_37 hX hres hwr _ _ h)
    · have h := gx_ifn c3 h
      refine gx_iload_n hX (gx_dt dt_mi_m_takesStatement 9 rfl) rfl ?_
      refine gx_bipush hX (v := 103) (gx_dt dt_mi_m_takesStatement 10 rfl) (by decide) ?_
      refine gx_ic_eq hX (tgt := 37) (gx_dt dt_mi_m_takesStatement 11 rfl) (by decide) (fun c4 => ?_) (fun c4 => ?_)
      · have h := gx_ifp c4 h
        exact gx_weak (gx_leS (gx_leS gx_le0)) (t_m_takesStatement_37 hX hres hwr _ _ h)
      · have h := gx_ifn c4 h
        refine gx_iload_n hX (gx_dt dt_mi_m_takesStatement 12 rfl) rfl ?_
        refine gx_bipush hX (v := 108) (gx_dt dt_mi_m_takesStatement 13 rfl) (by decide) ?_
        refine gx_ic_eq hX (tgt := 37) (gx_dt dt_mi_m_takesStatement 14 rfl) (by decide) (fun c5 => ?_) (fun c5 => ?_)
        · have h := gx_ifp c5 h
          exact gx_weak (gx_leS (gx_leS gx_le0)) (t_m_takesStatement_37 hX hres hwr _ _ h)
        · have h := gx_ifn c5 h
          refine gx_iload_n hX (gx_dt dt_mi_m_takesStatement 15 rfl) rfl ?_
          refine gx_bipush hX (v := 107) (gx_dt dt_mi_m_takesStatement 16 rfl) (by decide) ?_
          refine gx_ic_eq hX (tgt := 37) (gx_dt dt_mi_m_takesStatement 17 rfl) (by decide) (fun c6 => ?_) (fun c6 => ?_)
          · have h := gx_ifp c6 h
            exact gx_weak (gx_leS (gx_leS gx_le0)) (t_m_takesStatement_37 hX hres hwr _ _ h)
          · have h := gx_ifn c6 h
            refine gx_iconst hX (v := 0) (gx_dt dt_mi_m_takesStatement 18 rfl) (by decide) ?_
            obtain rfl := Option.some.inj h
            exact gx_zret hX (gx_dt dt_mi_m_takesStatement 19 rfl) rfl rfl hres hwr
-- EachBearsPillarModel.isText()Z
def m_isText_10 : Nat → Int32 → gx_Wd → Option (Int32 × gx_Wd)
  | 0, _, _ => none
  | n + 1, b1, w =>
  if b1 = 0 then
    if b1 = 0 ∨ b1 = 1 then some (b1, w) else none
  else
  if w 0 3 ≤ w 0 14 then
    if b1 = 0 ∨ b1 = 1 then some (b1, w) else none
  else
  (m_takesStatement w).bind fun r3 =>
  (m_isText_10 n) r3.1 r3.2
def m_isText (w : gx_Wd) : Option (Int32 × gx_Wd) :=
  (gx_put w 0 14 0).bind fun w1 =>
  (m_takesStatement w1).bind fun r2 =>
  m_isText_10 6000 r2.1 r2.2
theorem t_m_isText_10 {X : gx_X} (hX : gx_Ok X mi_m_isText) {R : Int32 × gx_Wd} (hres : gx_res X = some (.inl R.1)) (hwr : gx_wr X = R.2) : ∀ (n : Nat) (b1 : Int32) (w : gx_Wd), m_isText_10 n b1 w = some R → gx_G X mi_m_isText 10 [some (.inr 0), some (.inl b1)] [] w := by
  intro n
  induction n with
  | zero => intro b1 w h; rw [m_isText_10] at h; cases h
  | succ n ih =>
    intro b1 w h
    rw [m_isText_10] at h
    refine gx_iload_n hX (gx_dt dt_mi_m_isText 6 rfl) rfl ?_
    refine gx_if_eq hX (tgt := 33) (gx_dt dt_mi_m_isText 7 rfl) (by decide) (fun c1 => ?_) (fun c1 => ?_)
    · have h := gx_ifp c1 h
      refine gx_iload_n hX (gx_dt dt_mi_m_isText 17 rfl) rfl ?_
      obtain ⟨c, h⟩ := gx_01 h
      obtain rfl := Option.some.inj h
      exact gx_zret hX (gx_dt dt_mi_m_isText 18 rfl) rfl (gx_nar c) hres hwr
    · have h := gx_ifn c1 h
      refine gx_aload_n hX (gx_dt dt_mi_m_isText 8 rfl) rfl ?_
      refine gx_geti hX fl_D_53 sh_m_0 rfl (gx_dt dt_mi_m_isText 9 rfl) ?_
      refine gx_aload_n hX (gx_dt dt_mi_m_isText 10 rfl) rfl ?_
      refine gx_geti hX fl_D_19 sh_m_0 rfl (gx_dt dt_mi_m_isText 11 rfl) ?_
      refine gx_ic_ge hX (tgt := 33) (gx_dt dt_mi_m_isText 12 rfl) (by decide) (fun c2 => ?_) (fun c2 => ?_)
      · have h := gx_ifp c2 h
        refine gx_iload_n hX (gx_dt dt_mi_m_isText 17 rfl) rfl ?_
        obtain ⟨c, h⟩ := gx_01 h
        obtain rfl := Option.some.inj h
        exact gx_zret hX (gx_dt dt_mi_m_isText 18 rfl) rfl (gx_nar c) hres hwr
      · have h := gx_ifn c2 h
        refine gx_aload_n hX (gx_dt dt_mi_m_isText 13 rfl) rfl ?_
        obtain ⟨r3, e_r3, h⟩ := gx_bd h
        refine gx_callVi hX (gx_dt dt_mi_m_isText 14 rfl) ln_D_153_m_takesStatement mo_m_takesStatement mv_m_takesStatement (gx_rmb rfl) sh_m_0 ⟨_, _, rfl⟩ rfl (k_m_takesStatement e_r3) rfl rfl (Nat.le_of_ble_eq_true rfl) ?_
        refine gx_istore_n hX (ls' := [some (.inr 0), some (.inl (r3.1))]) (gx_dt dt_mi_m_isText 15 rfl) (by decide) rfl ?_
        refine gx_goto hX (tgt := 10) (gx_dt dt_mi_m_isText 16 rfl) (by decide) ?_
        exact gx_weak (gx_leS (gx_leS gx_le0)) (ih _ _ h)
theorem k_m_isText {w : gx_Wd} {R : Int32 × gx_Wd} (h : m_isText w = some R) : gx_MT mi_m_isText [.inr 0] w (some (.inl R.1)) R.2 := by
  refine gx_met (by decide +kernel) (Nat.le_of_ble_eq_true rfl) (fun X hX hres hwr => ?_)
  show gx_G X mi_m_isText 0 [some (.inr 0)] [] w
  rw [m_isText] at h
  refine gx_aload_n hX (gx_dt dt_mi_m_isText 0 rfl) rfl ?_
  refine gx_iconst hX (v := 0) (gx_dt dt_mi_m_isText 1 rfl) (by decide) ?_
  obtain ⟨w1, e_w1, h⟩ := gx_bd h
  refine gx_putp hX fl_D_53 (pf_D_14 _) sh_m_0 rfl e_w1 (gx_dt dt_mi_m_isText 2 rfl) ?_
  refine gx_aload_n hX (gx_dt dt_mi_m_isText 3 rfl) rfl ?_
  obtain ⟨r2, e_r2, h⟩ := gx_bd h
  refine gx_callVi hX (gx_dt dt_mi_m_isText 4 rfl) ln_D_153_m_takesStatement mo_m_takesStatement mv_m_takesStatement (gx_rmb rfl) sh_m_0 ⟨_, _, rfl⟩ rfl (k_m_takesStatement e_r2) rfl rfl (Nat.le_of_ble_eq_true rfl) ?_
  refine gx_istore_n hX (ls' := [some (.inr 0), some (.inl (r2.1))]) (gx_dt dt_mi_m_isText 5 rfl) (by decide) rfl ?_
  exact gx_weak (gx_leS (gx_leS gx_le0)) (t_m_isText_10 hX hres hwr _ _ _ h)
-- EachBearsPillarModel.isGood(II)Z
def m_isGood (a1 : Int32) (a2 : Int32) (w : gx_Wd) : Option (Int32 × gx_Wd) :=
  if a1 = 98 then
    if w 0 15 ≤ 0 then
      some (0, w)
    else
    if 7 ≤ a2 then
      some (0, w)
    else
    if 16 ≤ (w 0 1) + a2 then
      some (0, w)
    else
    some (1, w)
  else
  if a1 = 103 then
    if 16 ≤ w 0 15 then
      some (0, w)
    else
    some (1, w)
  else
  if a1 = 108 then
    if 28 ≤ w 0 15 then
      some (0, w)
    else
    some (1, w)
  else
  if a1 = 115 then
    if 6 ≤ w 0 15 then
      some (0, w)
    else
    some (1, w)
  else
  if a2 ≤ w 0 15 then
    some (0, w)
  else
  some (1, w)
theorem k_m_isGood {a1 : Int32} {a2 : Int32} {w : gx_Wd} {R : Int32 × gx_Wd} (h : m_isGood a1 a2 w = some R) : gx_MT mi_m_isGood [.inr 0, .inl a1, .inl a2] w (some (.inl R.1)) R.2 := by
  refine gx_met (by decide +kernel) (Nat.le_of_ble_eq_true rfl) (fun X hX hres hwr => ?_)
  show gx_G X mi_m_isGood 0 [some (.inr 0), some (.inl a1), some (.inl a2)] [] w
  rw [m_isGood] at h
  refine gx_iload_n hX (gx_dt dt_mi_m_isGood 0 rfl) rfl ?_
  by_cases c1 : a1 = 98
  · have h := gx_ifp c1 h
    refine gx_lookup hX (off := 43) (tgt := 44) (gx_dt dt_mi_m_isGood 1 rfl) (by decide) (by rw [c1]; rfl) (by decide) ?_
    refine gx_aload_n hX (gx_dt dt_mi_m_isGood 2 rfl) rfl ?_
    refine gx_geti hX fl_D_56 sh_m_0 rfl (gx_dt dt_mi_m_isGood 3 rfl) ?_
    refine gx_if_le hX (tgt := 72) (gx_dt dt_mi_m_isGood 4 rfl) (by decide) (fun c2 => ?_) (fun c2 => ?_)
    · have h := gx_ifp c2 h
      refine gx_iconst hX (v := 0) (gx_dt dt_mi_m_isGood 16 rfl) (by decide) ?_
      obtain rfl := Option.some.inj h
      exact gx_zret hX (gx_dt dt_mi_m_isGood 17 rfl) rfl rfl hres hwr
    · have h := gx_ifn c2 h
      refine gx_iload_n hX (gx_dt dt_mi_m_isGood 5 rfl) rfl ?_
      refine gx_bipush hX (v := 7) (gx_dt dt_mi_m_isGood 6 rfl) (by decide) ?_
      refine gx_ic_ge hX (tgt := 72) (gx_dt dt_mi_m_isGood 7 rfl) (by decide) (fun c3 => ?_) (fun c3 => ?_)
      · have h := gx_ifp c3 h
        refine gx_iconst hX (v := 0) (gx_dt dt_mi_m_isGood 16 rfl) (by decide) ?_
        obtain rfl := Option.some.inj h
        exact gx_zret hX (gx_dt dt_mi_m_isGood 17 rfl) rfl rfl hres hwr
      · have h := gx_ifn c3 h
        refine gx_aload_n hX (gx_dt dt_mi_m_isGood 8 rfl) rfl ?_
        refine gx_geti hX fl_D_13 sh_m_0 rfl (gx_dt dt_mi_m_isGood 9 rfl) ?_
        refine gx_iload_n hX (gx_dt dt_mi_m_isGood 10 rfl) rfl ?_
        refine gx_iadd hX (gx_dt dt_mi_m_isGood 11 rfl) ?_
        refine gx_bipush hX (v := 16) (gx_dt dt_mi_m_isGood 12 rfl) (by decide) ?_
        refine gx_ic_ge hX (tgt := 72) (gx_dt dt_mi_m_isGood 13 rfl) (by decide) (fun c4 => ?_) (fun c4 => ?_)
        · have h := gx_ifp c4 h
          refine gx_iconst hX (v := 0) (gx_dt dt_mi_m_isGood 16 rfl) (by decide) ?_
          obtain rfl := Option.some.inj h
          exact gx_zret hX (gx_dt dt_mi_m_isGood 17 rfl) rfl rfl hres hwr
        · have h := gx_ifn c4 h
          refine gx_iconst hX (v := 1) (gx_dt dt_mi_m_isGood 14 rfl) (by decide) ?_
          refine gx_goto hX (tgt := 73) (gx_dt dt_mi_m_isGood 15 rfl) (by decide) ?_
          obtain rfl := Option.some.inj h
          exact gx_zret hX (gx_dt dt_mi_m_isGood 17 rfl) rfl rfl hres hwr
  have h := gx_ifn c1 h
  by_cases c5 : a1 = 103
  · have h := gx_ifp c5 h
    refine gx_lookup hX (off := 88) (tgt := 89) (gx_dt dt_mi_m_isGood 1 rfl) (by decide) (by rw [c5]; rfl) (by decide) ?_
    refine gx_aload_n hX (gx_dt dt_mi_m_isGood 26 rfl) rfl ?_
    refine gx_geti hX fl_D_56 sh_m_0 rfl (gx_dt dt_mi_m_isGood 27 rfl) ?_
    refine gx_bipush hX (v := 16) (gx_dt dt_mi_m_isGood 28 rfl) (by decide) ?_
    refine gx_ic_ge hX (tgt := 102) (gx_dt dt_mi_m_isGood 29 rfl) (by decide) (fun c6 => ?_) (fun c6 => ?_)
    · have h := gx_ifp c6 h
      refine gx_iconst hX (v := 0) (gx_dt dt_mi_m_isGood 32 rfl) (by decide) ?_
      obtain rfl := Option.some.inj h
      exact gx_zret hX (gx_dt dt_mi_m_isGood 33 rfl) rfl rfl hres hwr
    · have h := gx_ifn c6 h
      refine gx_iconst hX (v := 1) (gx_dt dt_mi_m_isGood 30 rfl) (by decide) ?_
      refine gx_goto hX (tgt := 103) (gx_dt dt_mi_m_isGood 31 rfl) (by decide) ?_
      obtain rfl := Option.some.inj h
      exact gx_zret hX (gx_dt dt_mi_m_isGood 33 rfl) rfl rfl hres hwr
  have h := gx_ifn c5 h
  by_cases c7 : a1 = 108
  · have h := gx_ifp c7 h
    refine gx_lookup hX (off := 103) (tgt := 104) (gx_dt dt_mi_m_isGood 1 rfl) (by decide) (by rw [c7]; rfl) (by decide) ?_
    refine gx_aload_n hX (gx_dt dt_mi_m_isGood 34 rfl) rfl ?_
    refine gx_geti hX fl_D_56 sh_m_0 rfl (gx_dt dt_mi_m_isGood 35 rfl) ?_
    refine gx_bipush hX (v := 28) (gx_dt dt_mi_m_isGood 36 rfl) (by decide) ?_
    refine gx_ic_ge hX (tgt := 117) (gx_dt dt_mi_m_isGood 37 rfl) (by decide) (fun c8 => ?_) (fun c8 => ?_)
    · have h := gx_ifp c8 h
      refine gx_iconst hX (v := 0) (gx_dt dt_mi_m_isGood 40 rfl) (by decide) ?_
      obtain rfl := Option.some.inj h
      exact gx_zret hX (gx_dt dt_mi_m_isGood 41 rfl) rfl rfl hres hwr
    · have h := gx_ifn c8 h
      refine gx_iconst hX (v := 1) (gx_dt dt_mi_m_isGood 38 rfl) (by decide) ?_
      refine gx_goto hX (tgt := 118) (gx_dt dt_mi_m_isGood 39 rfl) (by decide) ?_
      obtain rfl := Option.some.inj h
      exact gx_zret hX (gx_dt dt_mi_m_isGood 41 rfl) rfl rfl hres hwr
  have h := gx_ifn c7 h
  by_cases c9 : a1 = 115
  · have h := gx_ifp c9 h
    refine gx_lookup hX (off := 73) (tgt := 74) (gx_dt dt_mi_m_isGood 1 rfl) (by decide) (by rw [c9]; rfl) (by decide) ?_
    refine gx_aload_n hX (gx_dt dt_mi_m_isGood 18 rfl) rfl ?_
    refine gx_geti hX fl_D_56 sh_m_0 rfl (gx_dt dt_mi_m_isGood 19 rfl) ?_
    refine gx_bipush hX (v := 6) (gx_dt dt_mi_m_isGood 20 rfl) (by decide) ?_
    refine gx_ic_ge hX (tgt := 87) (gx_dt dt_mi_m_isGood 21 rfl) (by decide) (fun c10 => ?_) (fun c10 => ?_)
    · have h := gx_ifp c10 h
      refine gx_iconst hX (v := 0) (gx_dt dt_mi_m_isGood 24 rfl) (by decide) ?_
      obtain rfl := Option.some.inj h
      exact gx_zret hX (gx_dt dt_mi_m_isGood 25 rfl) rfl rfl hres hwr
    · have h := gx_ifn c10 h
      refine gx_iconst hX (v := 1) (gx_dt dt_mi_m_isGood 22 rfl) (by decide) ?_
      refine gx_goto hX (tgt := 88) (gx_dt dt_mi_m_isGood 23 rfl) (by decide) ?_
      obtain rfl := Option.some.inj h
      exact gx_zret hX (gx_dt dt_mi_m_isGood 25 rfl) rfl rfl hres hwr
  have h := gx_ifn c9 h
  refine gx_lookup hX (off := 118) (tgt := 119) (gx_dt dt_mi_m_isGood 1 rfl) (by decide) (by show Op.lookupswitch.offset [(98, 43), (103, 88), (108, 103), (115, 73)] _ _ = _; rw [lv_osw (a := 98) c1 rfl, lv_osw (a := 103) c5 rfl, lv_osw (a := 108) c7 rfl, lv_osw (a := 115) c9 rfl]; rfl) (by decide) ?_
  refine gx_aload_n hX (gx_dt dt_mi_m_isGood 42 rfl) rfl ?_
  refine gx_geti hX fl_D_56 sh_m_0 rfl (gx_dt dt_mi_m_isGood 43 rfl) ?_
  refine gx_iload_n hX (gx_dt dt_mi_m_isGood 44 rfl) rfl ?_
  refine gx_ic_ge hX (tgt := 131) (gx_dt dt_mi_m_isGood 45 rfl) (by decide) (fun c11 => ?_) (fun c11 => ?_)
  · have h := gx_ifp c11 h
    refine gx_iconst hX (v := 0) (gx_dt dt_mi_m_isGood 48 rfl) (by decide) ?_
    obtain rfl := Option.some.inj h
    exact gx_zret hX (gx_dt dt_mi_m_isGood 49 rfl) rfl rfl hres hwr
  · have h := gx_ifn c11 h
    refine gx_iconst hX (v := 1) (gx_dt dt_mi_m_isGood 46 rfl) (by decide) ?_
    refine gx_goto hX (tgt := 132) (gx_dt dt_mi_m_isGood 47 rfl) (by decide) ?_
    obtain rfl := Option.some.inj h
    exact gx_zret hX (gx_dt dt_mi_m_isGood 49 rfl) rfl rfl hres hwr
-- EachBearsPillarModel.wrongPlace()I
def m_wrongPlace_64 (K10 : Int32 → gx_Wd → Option (Int32 × gx_Wd)) (s0 : Int32) (s1 : Int32) (w : gx_Wd) : Option (Int32 × gx_Wd) :=
  (some (s1 + s0)).bind fun v1 =>
  K10 v1 w
def m_wrongPlace_10 : Nat → Int32 → gx_Wd → Option (Int32 × gx_Wd)
  | 0, _, _ => none
  | n + 1, b1, w =>
  if w 0 3 ≤ w 0 14 then
    some ((-1), w)
  else
  (m_takesStatement w).bind fun r2 =>
  (gx_ald sh_m r2.2 7 (w 0 14)).bind fun v3 =>
  (m_isGood v3 b1 r2.2).bind fun r4 =>
  if r4.1 = 0 then
    some (w 0 14, r4.2)
  else
    (gx_ald sh_m r4.2 7 (w 0 14)).bind fun v6 =>
    if v6 = 98 then
      m_wrongPlace_64 (m_wrongPlace_10 n) 1 b1 r4.2
    else
      m_wrongPlace_64 (m_wrongPlace_10 n) 0 b1 r4.2
def m_wrongPlace (w : gx_Wd) : Option (Int32 × gx_Wd) :=
  (gx_put w 0 14 0).bind fun w1 =>
  m_wrongPlace_10 6000 (w1 0 0) w1
theorem t_m_wrongPlace_64 {X : gx_X} (hX : gx_Ok X mi_m_wrongPlace) {R : Int32 × gx_Wd} (hres : gx_res X = some (.inl R.1)) (hwr : gx_wr X = R.2) {K10 : Int32 → gx_Wd → Option (Int32 × gx_Wd)} (hK10 : ∀ (b1 : Int32) (w : gx_Wd), K10 b1 w = some R → gx_G X mi_m_wrongPlace 10 [some (.inr 0), some (.inl b1)] [] w) (s0 : Int32) (s1 : Int32) (w : gx_Wd) (h : m_wrongPlace_64 K10 s0 s1 w = some R) : gx_G X mi_m_wrongPlace 64 [some (.inr 0)] [.inl s0, .inl s1] w := by
  rw [m_wrongPlace_64] at h
  refine gx_iadd hX (gx_dt dt_mi_m_wrongPlace 37 rfl) ?_
  obtain ⟨v1, e_v1, h⟩ := gx_bd h
  refine gx_top e_v1 ?_
  refine gx_istore_n hX (ls' := [some (.inr 0), some (.inl v1)]) (gx_dt dt_mi_m_wrongPlace 38 rfl) (by decide) rfl ?_
  refine gx_goto hX (tgt := 10) (gx_dt dt_mi_m_wrongPlace 39 rfl) (by decide) ?_
  exact gx_weak (gx_leS (gx_leS gx_le0)) (hK10 _ _ h)
theorem t_m_wrongPlace_10 {X : gx_X} (hX : gx_Ok X mi_m_wrongPlace) {R : Int32 × gx_Wd} (hres : gx_res X = some (.inl R.1)) (hwr : gx_wr X = R.2) : ∀ (n : Nat) (b1 : Int32) (w : gx_Wd), m_wrongPlace_10 n b1 w = some R → gx_G X mi_m_wrongPlace 10 [some (.inr 0), some (.inl b1)] [] w := by
  intro n
  induction n with
  | zero => intro b1 w h; rw [m_wrongPlace_10] at h; cases h
  | succ n ih =>
    intro b1 w h
    rw [m_wrongPlace_10] at h
    refine gx_aload_n hX (gx_dt dt_mi_m_wrongPlace 6 rfl) rfl ?_
    refine gx_geti hX fl_D_53 sh_m_0 rfl (gx_dt dt_mi_m_wrongPlace 7 rfl) ?_
    refine gx_aload_n hX (gx_dt dt_mi_m_wrongPlace 8 rfl) rfl ?_
    refine gx_geti hX fl_D_19 sh_m_0 rfl (gx_dt dt_mi_m_wrongPlace 9 rfl) ?_
    refine gx_ic_ge hX (tgt := 69) (gx_dt dt_mi_m_wrongPlace 10 rfl) (by decide) (fun c1 => ?_) (fun c1 => ?_)
    · have h := gx_ifp c1 h
      refine gx_iconst hX (v := (-1)) (gx_dt dt_mi_m_wrongPlace 40 rfl) (by decide) ?_
      obtain rfl := Option.some.inj h
      exact gx_iret hX (gx_dt dt_mi_m_wrongPlace 41 rfl) rfl hres hwr
    · have h := gx_ifn c1 h
      refine gx_aload_n hX (gx_dt dt_mi_m_wrongPlace 11 rfl) rfl ?_
      refine gx_geti hX fl_D_53 sh_m_0 rfl (gx_dt dt_mi_m_wrongPlace 12 rfl) ?_
      refine gx_istore_n hX (ls' := [some (.inr 0), some (.inl b1), some (.inl (w 0 14))]) (gx_dt dt_mi_m_wrongPlace 13 rfl) (by decide) rfl ?_
      refine gx_aload_n hX (gx_dt dt_mi_m_wrongPlace 14 rfl) rfl ?_
      obtain ⟨r2, e_r2, h⟩ := gx_bd h
      refine gx_callVi hX (gx_dt dt_mi_m_wrongPlace 15 rfl) ln_D_153_m_takesStatement mo_m_takesStatement mv_m_takesStatement (gx_rmb rfl) sh_m_0 ⟨_, _, rfl⟩ rfl (k_m_takesStatement e_r2) rfl rfl (Nat.le_of_ble_eq_true rfl) ?_
      refine gx_istore_n hX (ls' := [some (.inr 0), some (.inl b1), some (.inl (w 0 14)), some (.inl (r2.1))]) (gx_dt dt_mi_m_wrongPlace 16 rfl) (by decide) rfl ?_
      refine gx_aload_n hX (gx_dt dt_mi_m_wrongPlace 17 rfl) rfl ?_
      refine gx_aload_n hX (gx_dt dt_mi_m_wrongPlace 18 rfl) rfl ?_
      refine gx_getr hX fl_D_44 sh_m_0 rfl (gx_dt dt_mi_m_wrongPlace 19 rfl) ?_
      refine gx_iload_n hX (gx_dt dt_mi_m_wrongPlace 20 rfl) rfl ?_
      obtain ⟨v3, e_v3, h⟩ := gx_bd h
      refine gx_iald hX e_v3 (gx_dt dt_mi_m_wrongPlace 21 rfl) ?_
      refine gx_iload_n hX (gx_dt dt_mi_m_wrongPlace 22 rfl) rfl ?_
      obtain ⟨r4, e_r4, h⟩ := gx_bd h
      refine gx_callVi hX (gx_dt dt_mi_m_wrongPlace 23 rfl) ln_D_156_m_isGood mo_m_isGood mv_m_isGood (gx_rmb rfl) sh_m_0 ⟨_, _, rfl⟩ rfl (k_m_isGood e_r4) rfl rfl (Nat.le_of_ble_eq_true rfl) ?_
      refine gx_if_ne hX (tgt := 47) (gx_dt dt_mi_m_wrongPlace 24 rfl) (by decide) (fun c5 => ?_) (fun c5 => ?_)
      · have h := gx_ifn c5 h
        refine gx_iload_n hX (gx_dt dt_mi_m_wrongPlace 27 rfl) rfl ?_
        refine gx_aload_n hX (gx_dt dt_mi_m_wrongPlace 28 rfl) rfl ?_
        refine gx_getr hX fl_D_44 sh_m_0 rfl (gx_dt dt_mi_m_wrongPlace 29 rfl) ?_
        refine gx_iload_n hX (gx_dt dt_mi_m_wrongPlace 30 rfl) rfl ?_
        obtain ⟨v6, e_v6, h⟩ := gx_bd h
        refine gx_iald hX e_v6 (gx_dt dt_mi_m_wrongPlace 31 rfl) ?_
        refine gx_bipush hX (v := 98) (gx_dt dt_mi_m_wrongPlace 32 rfl) (by decide) ?_
        refine gx_ic_ne hX (tgt := 63) (gx_dt dt_mi_m_wrongPlace 33 rfl) (by decide) (fun c7 => ?_) (fun c7 => ?_)
        · have h := gx_ifn c7 h
          refine gx_iconst hX (v := 0) (gx_dt dt_mi_m_wrongPlace 36 rfl) (by decide) ?_
          exact gx_weak (gx_leS gx_le0) (t_m_wrongPlace_64 hX hres hwr ih _ _ _ h)
        · have h := gx_ifp c7 h
          refine gx_iconst hX (v := 1) (gx_dt dt_mi_m_wrongPlace 34 rfl) (by decide) ?_
          refine gx_goto hX (tgt := 64) (gx_dt dt_mi_m_wrongPlace 35 rfl) (by decide) ?_
          exact gx_weak (gx_leS gx_le0) (t_m_wrongPlace_64 hX hres hwr ih _ _ _ h)
      · have h := gx_ifp c5 h
        refine gx_iload_n hX (gx_dt dt_mi_m_wrongPlace 25 rfl) rfl ?_
        obtain rfl := Option.some.inj h
        exact gx_iret hX (gx_dt dt_mi_m_wrongPlace 26 rfl) rfl hres hwr
theorem k_m_wrongPlace {w : gx_Wd} {R : Int32 × gx_Wd} (h : m_wrongPlace w = some R) : gx_MT mi_m_wrongPlace [.inr 0] w (some (.inl R.1)) R.2 := by
  refine gx_met (by decide +kernel) (Nat.le_of_ble_eq_true rfl) (fun X hX hres hwr => ?_)
  show gx_G X mi_m_wrongPlace 0 [some (.inr 0)] [] w
  rw [m_wrongPlace] at h
  refine gx_aload_n hX (gx_dt dt_mi_m_wrongPlace 0 rfl) rfl ?_
  refine gx_iconst hX (v := 0) (gx_dt dt_mi_m_wrongPlace 1 rfl) (by decide) ?_
  obtain ⟨w1, e_w1, h⟩ := gx_bd h
  refine gx_putp hX fl_D_53 (pf_D_14 _) sh_m_0 rfl e_w1 (gx_dt dt_mi_m_wrongPlace 2 rfl) ?_
  refine gx_aload_n hX (gx_dt dt_mi_m_wrongPlace 3 rfl) rfl ?_
  refine gx_geti hX fl_D_7 sh_m_0 rfl (gx_dt dt_mi_m_wrongPlace 4 rfl) ?_
  refine gx_istore_n hX (ls' := [some (.inr 0), some (.inl (w1 0 0))]) (gx_dt dt_mi_m_wrongPlace 5 rfl) (by decide) rfl ?_
  exact gx_weak (gx_leS (gx_leS gx_le0)) (t_m_wrongPlace_10 hX hres hwr _ _ _ h)
-- EachBearsPillarModel.comes(I)V
def m_comes (a1 : Int32) (w : gx_Wd) : Option (gx_Wd) :=
  if a1 = 98 then
    (gx_ast sh_m w 1 (w 0 0) (w 0 17)).bind fun w2 =>
    (gx_ast sh_m w2 2 (w2 0 0) (w2 0 15)).bind fun w3 =>
    (gx_ast sh_m w3 3 (w3 0 0) (w3 0 16)).bind fun w4 =>
    (gx_ast sh_m w4 4 (w4 0 0) 0).bind fun w5 =>
    (gx_put w5 0 0 ((w5 0 0) + 1)).bind fun w6 =>
    some w6
  else
  if a1 = 103 then
    (gx_ast sh_m w 6 (w 0 15) (w 0 16)).bind fun w8 =>
    some w8
  else
  if a1 = 108 then
    (gx_put w 0 2 (w 0 15)).bind fun w10 =>
    some w10
  else
  if a1 = 115 then
    (gx_ast sh_m w 5 (w 0 15) (w 0 16)).bind fun w12 =>
    some w12
  else
  (gx_ast sh_m w 4 (w 0 15) (w 0 16)).bind fun w13 =>
  some w13
theorem k_m_comes {a1 : Int32} {w : gx_Wd} {R : gx_Wd} (h : m_comes a1 w = some R) : gx_MT mi_m_comes [.inr 0, .inl a1] w none R := by
  refine gx_met (by decide +kernel) (Nat.le_of_ble_eq_true rfl) (fun X hX hres hwr => ?_)
  show gx_G X mi_m_comes 0 [some (.inr 0), some (.inl a1)] [] w
  rw [m_comes] at h
  refine gx_iload_n hX (gx_dt dt_mi_m_comes 0 rfl) rfl ?_
  by_cases c1 : a1 = 98
  · have h := gx_ifp c1 h
    refine gx_lookup hX (off := 43) (tgt := 44) (gx_dt dt_mi_m_comes 1 rfl) (by decide) (by rw [c1]; rfl) (by decide) ?_
    refine gx_aload_n hX (gx_dt dt_mi_m_comes 2 rfl) rfl ?_
    refine gx_getr hX fl_D_25 sh_m_0 rfl (gx_dt dt_mi_m_comes 3 rfl) ?_
    refine gx_aload_n hX (gx_dt dt_mi_m_comes 4 rfl) rfl ?_
    refine gx_geti hX fl_D_7 sh_m_0 rfl (gx_dt dt_mi_m_comes 5 rfl) ?_
    refine gx_aload_n hX (gx_dt dt_mi_m_comes 6 rfl) rfl ?_
    refine gx_geti hX fl_D_62 sh_m_0 rfl (gx_dt dt_mi_m_comes 7 rfl) ?_
    obtain ⟨w2, e_w2, h⟩ := gx_bd h
    refine gx_iast hX e_w2 (gx_dt dt_mi_m_comes 8 rfl) ?_
    refine gx_aload_n hX (gx_dt dt_mi_m_comes 9 rfl) rfl ?_
    refine gx_getr hX fl_D_29 sh_m_0 rfl (gx_dt dt_mi_m_comes 10 rfl) ?_
    refine gx_aload_n hX (gx_dt dt_mi_m_comes 11 rfl) rfl ?_
    refine gx_geti hX fl_D_7 sh_m_0 rfl (gx_dt dt_mi_m_comes 12 rfl) ?_
    refine gx_aload_n hX (gx_dt dt_mi_m_comes 13 rfl) rfl ?_
    refine gx_geti hX fl_D_56 sh_m_0 rfl (gx_dt dt_mi_m_comes 14 rfl) ?_
    obtain ⟨w3, e_w3, h⟩ := gx_bd h
    refine gx_iast hX e_w3 (gx_dt dt_mi_m_comes 15 rfl) ?_
    refine gx_aload_n hX (gx_dt dt_mi_m_comes 16 rfl) rfl ?_
    refine gx_getr hX fl_D_32 sh_m_0 rfl (gx_dt dt_mi_m_comes 17 rfl) ?_
    refine gx_aload_n hX (gx_dt dt_mi_m_comes 18 rfl) rfl ?_
    refine gx_geti hX fl_D_7 sh_m_0 rfl (gx_dt dt_mi_m_comes 19 rfl) ?_
    refine gx_aload_n hX (gx_dt dt_mi_m_comes 20 rfl) rfl ?_
    refine gx_geti hX fl_D_59 sh_m_0 rfl (gx_dt dt_mi_m_comes 21 rfl) ?_
    obtain ⟨w4, e_w4, h⟩ := gx_bd h
    refine gx_iast hX e_w4 (gx_dt dt_mi_m_comes 22 rfl) ?_
    refine gx_aload_n hX (gx_dt dt_mi_m_comes 23 rfl) rfl ?_
    refine gx_getr hX fl_D_35 sh_m_0 rfl (gx_dt dt_mi_m_comes 24 rfl) ?_
    refine gx_aload_n hX (gx_dt dt_mi_m_comes 25 rfl) rfl ?_
    refine gx_geti hX fl_D_7 sh_m_0 rfl (gx_dt dt_mi_m_comes 26 rfl) ?_
    refine gx_iconst hX (v := 0) (gx_dt dt_mi_m_comes 27 rfl) (by decide) ?_
    obtain ⟨w5, e_w5, h⟩ := gx_bd h
    refine gx_iast hX e_w5 (gx_dt dt_mi_m_comes 28 rfl) ?_
    refine gx_aload_n hX (gx_dt dt_mi_m_comes 29 rfl) rfl ?_
    refine gx_dup hX (gx_dt dt_mi_m_comes 30 rfl) ?_
    refine gx_geti hX fl_D_7 sh_m_0 rfl (gx_dt dt_mi_m_comes 31 rfl) ?_
    refine gx_iconst hX (v := 1) (gx_dt dt_mi_m_comes 32 rfl) (by decide) ?_
    refine gx_iadd hX (gx_dt dt_mi_m_comes 33 rfl) ?_
    obtain ⟨w6, e_w6, h⟩ := gx_bd h
    refine gx_putp hX fl_D_7 (pf_D_0 _) sh_m_0 rfl e_w6 (gx_dt dt_mi_m_comes 34 rfl) ?_
    refine gx_goto hX (tgt := 162) (gx_dt dt_mi_m_comes 35 rfl) (by decide) ?_
    obtain rfl := Option.some.inj h
    exact gx_vret hX (gx_dt dt_mi_m_comes 64 rfl) rfl hres hwr
  have h := gx_ifn c1 h
  by_cases c7 : a1 = 103
  · have h := gx_ifp c7 h
    refine gx_lookup hX (off := 121) (tgt := 122) (gx_dt dt_mi_m_comes 1 rfl) (by decide) (by rw [c7]; rfl) (by decide) ?_
    refine gx_aload_n hX (gx_dt dt_mi_m_comes 44 rfl) rfl ?_
    refine gx_getr hX fl_D_41 sh_m_0 rfl (gx_dt dt_mi_m_comes 45 rfl) ?_
    refine gx_aload_n hX (gx_dt dt_mi_m_comes 46 rfl) rfl ?_
    refine gx_geti hX fl_D_56 sh_m_0 rfl (gx_dt dt_mi_m_comes 47 rfl) ?_
    refine gx_aload_n hX (gx_dt dt_mi_m_comes 48 rfl) rfl ?_
    refine gx_geti hX fl_D_59 sh_m_0 rfl (gx_dt dt_mi_m_comes 49 rfl) ?_
    obtain ⟨w8, e_w8, h⟩ := gx_bd h
    refine gx_iast hX e_w8 (gx_dt dt_mi_m_comes 50 rfl) ?_
    refine gx_goto hX (tgt := 162) (gx_dt dt_mi_m_comes 51 rfl) (by decide) ?_
    obtain rfl := Option.some.inj h
    exact gx_vret hX (gx_dt dt_mi_m_comes 64 rfl) rfl hres hwr
  have h := gx_ifn c7 h
  by_cases c9 : a1 = 108
  · have h := gx_ifp c9 h
    refine gx_lookup hX (off := 137) (tgt := 138) (gx_dt dt_mi_m_comes 1 rfl) (by decide) (by rw [c9]; rfl) (by decide) ?_
    refine gx_aload_n hX (gx_dt dt_mi_m_comes 52 rfl) rfl ?_
    refine gx_aload_n hX (gx_dt dt_mi_m_comes 53 rfl) rfl ?_
    refine gx_geti hX fl_D_56 sh_m_0 rfl (gx_dt dt_mi_m_comes 54 rfl) ?_
    obtain ⟨w10, e_w10, h⟩ := gx_bd h
    refine gx_putp hX fl_D_16 (pf_D_2 _) sh_m_0 rfl e_w10 (gx_dt dt_mi_m_comes 55 rfl) ?_
    refine gx_goto hX (tgt := 162) (gx_dt dt_mi_m_comes 56 rfl) (by decide) ?_
    obtain rfl := Option.some.inj h
    exact gx_vret hX (gx_dt dt_mi_m_comes 64 rfl) rfl hres hwr
  have h := gx_ifn c9 h
  by_cases c11 : a1 = 115
  · have h := gx_ifp c11 h
    refine gx_lookup hX (off := 105) (tgt := 106) (gx_dt dt_mi_m_comes 1 rfl) (by decide) (by rw [c11]; rfl) (by decide) ?_
    refine gx_aload_n hX (gx_dt dt_mi_m_comes 36 rfl) rfl ?_
    refine gx_getr hX fl_D_38 sh_m_0 rfl (gx_dt dt_mi_m_comes 37 rfl) ?_
    refine gx_aload_n hX (gx_dt dt_mi_m_comes 38 rfl) rfl ?_
    refine gx_geti hX fl_D_56 sh_m_0 rfl (gx_dt dt_mi_m_comes 39 rfl) ?_
    refine gx_aload_n hX (gx_dt dt_mi_m_comes 40 rfl) rfl ?_
    refine gx_geti hX fl_D_59 sh_m_0 rfl (gx_dt dt_mi_m_comes 41 rfl) ?_
    obtain ⟨w12, e_w12, h⟩ := gx_bd h
    refine gx_iast hX e_w12 (gx_dt dt_mi_m_comes 42 rfl) ?_
    refine gx_goto hX (tgt := 162) (gx_dt dt_mi_m_comes 43 rfl) (by decide) ?_
    obtain rfl := Option.some.inj h
    exact gx_vret hX (gx_dt dt_mi_m_comes 64 rfl) rfl hres hwr
  have h := gx_ifn c11 h
  refine gx_lookup hX (off := 148) (tgt := 149) (gx_dt dt_mi_m_comes 1 rfl) (by decide) (by show Op.lookupswitch.offset [(98, 43), (103, 121), (108, 137), (115, 105)] _ _ = _; rw [lv_osw (a := 98) c1 rfl, lv_osw (a := 103) c7 rfl, lv_osw (a := 108) c9 rfl, lv_osw (a := 115) c11 rfl]; rfl) (by decide) ?_
  refine gx_aload_n hX (gx_dt dt_mi_m_comes 57 rfl) rfl ?_
  refine gx_getr hX fl_D_35 sh_m_0 rfl (gx_dt dt_mi_m_comes 58 rfl) ?_
  refine gx_aload_n hX (gx_dt dt_mi_m_comes 59 rfl) rfl ?_
  refine gx_geti hX fl_D_56 sh_m_0 rfl (gx_dt dt_mi_m_comes 60 rfl) ?_
  refine gx_aload_n hX (gx_dt dt_mi_m_comes 61 rfl) rfl ?_
  refine gx_geti hX fl_D_59 sh_m_0 rfl (gx_dt dt_mi_m_comes 62 rfl) ?_
  obtain ⟨w13, e_w13, h⟩ := gx_bd h
  refine gx_iast hX e_w13 (gx_dt dt_mi_m_comes 63 rfl) ?_
  obtain rfl := Option.some.inj h
  exact gx_vret hX (gx_dt dt_mi_m_comes 64 rfl) rfl hres hwr
