-- EachBearsPillar$Roof.addBearer(III)Z
def x_R_addBearer_8 (a1 : Int32) (a2 : Int32) (a3 : Int32) (w : gx_Wd) : Option (Int32 × gx_Wd) :=
  if a2 < 1 then
    some (0, w)
  else
  if 7 ≤ w 8 0 then
    some (0, w)
  else
  if (w 8 1) + (w 8 0) < 16 then
    (x_E_setCell 9 (w 8 0) a1 w).bind fun r4 =>
    (x_E_setCell 10 (r4.2 8 0) a2 r4.2).bind fun r5 =>
    (x_E_setCell 11 (r5.2 8 0) a3 r5.2).bind fun r6 =>
    (x_E_setCell 12 (r6.2 8 0) 0 r6.2).bind fun r7 =>
    (gx_put r7.2 8 0 ((r7.2 8 0) + 1)).bind fun w8 =>
    some (1, w8)
  else
  some (0, w)
theorem k_x_R_addBearer_8 {a1 : Int32} {a2 : Int32} {a3 : Int32} {w : gx_Wd} {R : Int32 × gx_Wd} (h : x_R_addBearer_8 a1 a2 a3 w = some R) : gx_MT mi_x_R_addBearer_8 [.inr 8, .inl a1, .inl a2, .inl a3] w (some (.inl R.1)) R.2 := by
  refine gx_met (by decide +kernel) (Nat.le_of_ble_eq_true rfl) (fun X hX hres hwr => ?_)
  show gx_G X mi_x_R_addBearer_8 0 [some (.inr 8), some (.inl a1), some (.inl a2), some (.inl a3)] [] w
  rw [x_R_addBearer_8] at h
  refine gx_iload_n hX (gx_dt dt_mi_x_R_addBearer_8 0 rfl) rfl ?_
  refine gx_iconst hX (v := 1) (gx_dt dt_mi_x_R_addBearer_8 1 rfl) (by decide) ?_
  refine gx_ic_lt hX (tgt := 28) (gx_dt dt_mi_x_R_addBearer_8 2 rfl) (by decide) (fun c1 => ?_) (fun c1 => ?_)
  · have h := gx_ifp c1 h
    refine gx_iconst hX (v := 0) (gx_dt dt_mi_x_R_addBearer_8 14 rfl) (by decide) ?_
    obtain rfl := Option.some.inj h
    exact gx_zret hX (gx_dt dt_mi_x_R_addBearer_8 15 rfl) rfl rfl hres hwr
  · have h := gx_ifn c1 h
    refine gx_aload_n hX (gx_dt dt_mi_x_R_addBearer_8 3 rfl) rfl ?_
    refine gx_geti hX fl_R_9 sh_x_8 rfl (gx_dt dt_mi_x_R_addBearer_8 4 rfl) ?_
    refine gx_bipush hX (v := 7) (gx_dt dt_mi_x_R_addBearer_8 5 rfl) (by decide) ?_
    refine gx_ic_ge hX (tgt := 28) (gx_dt dt_mi_x_R_addBearer_8 6 rfl) (by decide) (fun c2 => ?_) (fun c2 => ?_)
    · have h := gx_ifp c2 h
      refine gx_iconst hX (v := 0) (gx_dt dt_mi_x_R_addBearer_8 14 rfl) (by decide) ?_
      obtain rfl := Option.some.inj h
      exact gx_zret hX (gx_dt dt_mi_x_R_addBearer_8 15 rfl) rfl rfl hres hwr
    · have h := gx_ifn c2 h
      refine gx_aload_n hX (gx_dt dt_mi_x_R_addBearer_8 7 rfl) rfl ?_
      refine gx_geti hX fl_R_15 sh_x_8 rfl (gx_dt dt_mi_x_R_addBearer_8 8 rfl) ?_
      refine gx_aload_n hX (gx_dt dt_mi_x_R_addBearer_8 9 rfl) rfl ?_
      refine gx_geti hX fl_R_9 sh_x_8 rfl (gx_dt dt_mi_x_R_addBearer_8 10 rfl) ?_
      refine gx_iadd hX (gx_dt dt_mi_x_R_addBearer_8 11 rfl) ?_
      refine gx_bipush hX (v := 16) (gx_dt dt_mi_x_R_addBearer_8 12 rfl) (by decide) ?_
      refine gx_ic_lt hX (tgt := 30) (gx_dt dt_mi_x_R_addBearer_8 13 rfl) (by decide) (fun c3 => ?_) (fun c3 => ?_)
      · have h := gx_ifp c3 h
        refine gx_aload_n hX (gx_dt dt_mi_x_R_addBearer_8 16 rfl) rfl ?_
        refine gx_getr hX fl_R_21 sh_x_8 rfl (gx_dt dt_mi_x_R_addBearer_8 17 rfl) ?_
        refine gx_aload_n hX (gx_dt dt_mi_x_R_addBearer_8 18 rfl) rfl ?_
        refine gx_geti hX fl_R_9 sh_x_8 rfl (gx_dt dt_mi_x_R_addBearer_8 19 rfl) ?_
        refine gx_iload_n hX (gx_dt dt_mi_x_R_addBearer_8 20 rfl) rfl ?_
        obtain ⟨r4, e_r4, h⟩ := gx_bd h
        refine gx_callSi hX (gx_dt dt_mi_x_R_addBearer_8 21 rfl) ln_R_44_x_E_setCell mo_x_E_setCell ms_x_E_setCell (gx_rmb rfl) rfl (k_x_E_setCell e_r4) rfl rfl (Nat.le_of_ble_eq_true rfl) ?_
        refine gx_pop hX (gx_dt dt_mi_x_R_addBearer_8 22 rfl) ?_
        refine gx_aload_n hX (gx_dt dt_mi_x_R_addBearer_8 23 rfl) rfl ?_
        refine gx_getr hX fl_R_25 sh_x_8 rfl (gx_dt dt_mi_x_R_addBearer_8 24 rfl) ?_
        refine gx_aload_n hX (gx_dt dt_mi_x_R_addBearer_8 25 rfl) rfl ?_
        refine gx_geti hX fl_R_9 sh_x_8 rfl (gx_dt dt_mi_x_R_addBearer_8 26 rfl) ?_
        refine gx_iload_n hX (gx_dt dt_mi_x_R_addBearer_8 27 rfl) rfl ?_
        obtain ⟨r5, e_r5, h⟩ := gx_bd h
        refine gx_callSi hX (gx_dt dt_mi_x_R_addBearer_8 28 rfl) ln_R_44_x_E_setCell mo_x_E_setCell ms_x_E_setCell (gx_rmb rfl) rfl (k_x_E_setCell e_r5) rfl rfl (Nat.le_of_ble_eq_true rfl) ?_
        refine gx_pop hX (gx_dt dt_mi_x_R_addBearer_8 29 rfl) ?_
        refine gx_aload_n hX (gx_dt dt_mi_x_R_addBearer_8 30 rfl) rfl ?_
        refine gx_getr hX fl_R_28 sh_x_8 rfl (gx_dt dt_mi_x_R_addBearer_8 31 rfl) ?_
        refine gx_aload_n hX (gx_dt dt_mi_x_R_addBearer_8 32 rfl) rfl ?_
        refine gx_geti hX fl_R_9 sh_x_8 rfl (gx_dt dt_mi_x_R_addBearer_8 33 rfl) ?_
        refine gx_iload_n hX (gx_dt dt_mi_x_R_addBearer_8 34 rfl) rfl ?_
        obtain ⟨r6, e_r6, h⟩ := gx_bd h
        refine gx_callSi hX (gx_dt dt_mi_x_R_addBearer_8 35 rfl) ln_R_44_x_E_setCell mo_x_E_setCell ms_x_E_setCell (gx_rmb rfl) rfl (k_x_E_setCell e_r6) rfl rfl (Nat.le_of_ble_eq_true rfl) ?_
        refine gx_pop hX (gx_dt dt_mi_x_R_addBearer_8 36 rfl) ?_
        refine gx_aload_n hX (gx_dt dt_mi_x_R_addBearer_8 37 rfl) rfl ?_
        refine gx_getr hX fl_R_31 sh_x_8 rfl (gx_dt dt_mi_x_R_addBearer_8 38 rfl) ?_
        refine gx_aload_n hX (gx_dt dt_mi_x_R_addBearer_8 39 rfl) rfl ?_
        refine gx_geti hX fl_R_9 sh_x_8 rfl (gx_dt dt_mi_x_R_addBearer_8 40 rfl) ?_
        refine gx_iconst hX (v := 0) (gx_dt dt_mi_x_R_addBearer_8 41 rfl) (by decide) ?_
        obtain ⟨r7, e_r7, h⟩ := gx_bd h
        refine gx_callSi hX (gx_dt dt_mi_x_R_addBearer_8 42 rfl) ln_R_44_x_E_setCell mo_x_E_setCell ms_x_E_setCell (gx_rmb rfl) rfl (k_x_E_setCell e_r7) rfl rfl (Nat.le_of_ble_eq_true rfl) ?_
        refine gx_pop hX (gx_dt dt_mi_x_R_addBearer_8 43 rfl) ?_
        refine gx_aload_n hX (gx_dt dt_mi_x_R_addBearer_8 44 rfl) rfl ?_
        refine gx_dup hX (gx_dt dt_mi_x_R_addBearer_8 45 rfl) ?_
        refine gx_geti hX fl_R_9 sh_x_8 rfl (gx_dt dt_mi_x_R_addBearer_8 46 rfl) ?_
        refine gx_iconst hX (v := 1) (gx_dt dt_mi_x_R_addBearer_8 47 rfl) (by decide) ?_
        refine gx_iadd hX (gx_dt dt_mi_x_R_addBearer_8 48 rfl) ?_
        obtain ⟨w8, e_w8, h⟩ := gx_bd h
        refine gx_putp hX fl_R_9 (pf_R_0 _) sh_x_8 rfl e_w8 (gx_dt dt_mi_x_R_addBearer_8 49 rfl) ?_
        refine gx_iconst hX (v := 1) (gx_dt dt_mi_x_R_addBearer_8 50 rfl) (by decide) ?_
        obtain rfl := Option.some.inj h
        exact gx_zret hX (gx_dt dt_mi_x_R_addBearer_8 51 rfl) rfl rfl hres hwr
      · have h := gx_ifn c3 h
        refine gx_iconst hX (v := 0) (gx_dt dt_mi_x_R_addBearer_8 14 rfl) (by decide) ?_
        obtain rfl := Option.some.inj h
        exact gx_zret hX (gx_dt dt_mi_x_R_addBearer_8 15 rfl) rfl rfl hres hwr
-- EachBearsPillar$Roof.hasBearer(I)Z
def x_R_hasBearer_8 (a1 : Int32) (w : gx_Wd) : Option (Int32 × gx_Wd) :=
  if a1 < 0 then
    some (0, w)
  else
  if w 8 0 ≤ a1 then
    some (0, w)
  else
  some (1, w)
theorem k_x_R_hasBearer_8 {a1 : Int32} {w : gx_Wd} {R : Int32 × gx_Wd} (h : x_R_hasBearer_8 a1 w = some R) : gx_MT mi_x_R_hasBearer_8 [.inr 8, .inl a1] w (some (.inl R.1)) R.2 := by
  refine gx_met (by decide +kernel) (Nat.le_of_ble_eq_true rfl) (fun X hX hres hwr => ?_)
  show gx_G X mi_x_R_hasBearer_8 0 [some (.inr 8), some (.inl a1)] [] w
  rw [x_R_hasBearer_8] at h
  refine gx_iload_n hX (gx_dt dt_mi_x_R_hasBearer_8 0 rfl) rfl ?_
  refine gx_if_lt hX (tgt := 16) (gx_dt dt_mi_x_R_hasBearer_8 1 rfl) (by decide) (fun c1 => ?_) (fun c1 => ?_)
  · have h := gx_ifp c1 h
    refine gx_iconst hX (v := 0) (gx_dt dt_mi_x_R_hasBearer_8 8 rfl) (by decide) ?_
    obtain rfl := Option.some.inj h
    exact gx_zret hX (gx_dt dt_mi_x_R_hasBearer_8 9 rfl) rfl rfl hres hwr
  · have h := gx_ifn c1 h
    refine gx_iload_n hX (gx_dt dt_mi_x_R_hasBearer_8 2 rfl) rfl ?_
    refine gx_aload_n hX (gx_dt dt_mi_x_R_hasBearer_8 3 rfl) rfl ?_
    refine gx_geti hX fl_R_9 sh_x_8 rfl (gx_dt dt_mi_x_R_hasBearer_8 4 rfl) ?_
    refine gx_ic_ge hX (tgt := 16) (gx_dt dt_mi_x_R_hasBearer_8 5 rfl) (by decide) (fun c2 => ?_) (fun c2 => ?_)
    · have h := gx_ifp c2 h
      refine gx_iconst hX (v := 0) (gx_dt dt_mi_x_R_hasBearer_8 8 rfl) (by decide) ?_
      obtain rfl := Option.some.inj h
      exact gx_zret hX (gx_dt dt_mi_x_R_hasBearer_8 9 rfl) rfl rfl hres hwr
    · have h := gx_ifn c2 h
      refine gx_iconst hX (v := 1) (gx_dt dt_mi_x_R_hasBearer_8 6 rfl) (by decide) ?_
      refine gx_goto hX (tgt := 17) (gx_dt dt_mi_x_R_hasBearer_8 7 rfl) (by decide) ?_
      obtain rfl := Option.some.inj h
      exact gx_zret hX (gx_dt dt_mi_x_R_hasBearer_8 9 rfl) rfl rfl hres hwr
-- EachBearsPillar.isSpan(I)Z
def x_E_isSpan (a0 : Int32) (w : gx_Wd) : Option (Int32 × gx_Wd) :=
  if a0 < 0 then
    some (0, w)
  else
  if 6 ≤ a0 then
    some (0, w)
  else
  some (1, w)
theorem k_x_E_isSpan {a0 : Int32} {w : gx_Wd} {R : Int32 × gx_Wd} (h : x_E_isSpan a0 w = some R) : gx_MT mi_x_E_isSpan [.inl a0] w (some (.inl R.1)) R.2 := by
  refine gx_met (by decide +kernel) (Nat.le_of_ble_eq_true rfl) (fun X hX hres hwr => ?_)
  show gx_G X mi_x_E_isSpan 0 [some (.inl a0)] [] w
  rw [x_E_isSpan] at h
  refine gx_iload_n hX (gx_dt dt_mi_x_E_isSpan 0 rfl) rfl ?_
  refine gx_if_lt hX (tgt := 14) (gx_dt dt_mi_x_E_isSpan 1 rfl) (by decide) (fun c1 => ?_) (fun c1 => ?_)
  · have h := gx_ifp c1 h
    refine gx_iconst hX (v := 0) (gx_dt dt_mi_x_E_isSpan 7 rfl) (by decide) ?_
    obtain rfl := Option.some.inj h
    exact gx_zret hX (gx_dt dt_mi_x_E_isSpan 8 rfl) rfl rfl hres hwr
  · have h := gx_ifn c1 h
    refine gx_iload_n hX (gx_dt dt_mi_x_E_isSpan 2 rfl) rfl ?_
    refine gx_bipush hX (v := 6) (gx_dt dt_mi_x_E_isSpan 3 rfl) (by decide) ?_
    refine gx_ic_ge hX (tgt := 14) (gx_dt dt_mi_x_E_isSpan 4 rfl) (by decide) (fun c2 => ?_) (fun c2 => ?_)
    · have h := gx_ifp c2 h
      refine gx_iconst hX (v := 0) (gx_dt dt_mi_x_E_isSpan 7 rfl) (by decide) ?_
      obtain rfl := Option.some.inj h
      exact gx_zret hX (gx_dt dt_mi_x_E_isSpan 8 rfl) rfl rfl hres hwr
    · have h := gx_ifn c2 h
      refine gx_iconst hX (v := 1) (gx_dt dt_mi_x_E_isSpan 5 rfl) (by decide) ?_
      refine gx_goto hX (tgt := 15) (gx_dt dt_mi_x_E_isSpan 6 rfl) (by decide) ?_
      obtain rfl := Option.some.inj h
      exact gx_zret hX (gx_dt dt_mi_x_E_isSpan 8 rfl) rfl rfl hres hwr
-- EachBearsPillar.enterStatement()Z
def x_E_enterStatement_177 (b1 : Int32) (s0 : Int32) (w : gx_Wd) : Option (Int32 × gx_Wd) :=
  (gx_put w 8 2 s0).bind fun w1 =>
  if 28 ≤ b1 then
    some (0, w1)
  else
  some (1, w1)
def x_E_enterStatement (w : gx_Wd) : Option (Int32 × gx_Wd) :=
  (x_E_cell 31 0 w).bind fun r1 =>
  (x_E_cell 31 1 r1.2).bind fun r2 =>
  if r2.2 29 3 = 98 then
    (x_E_cell 31 2 r2.2).bind fun r4 =>
    (x_R_addBearer_8 r1.1 r2.1 r4.1 r4.2).bind fun r5 =>
    if r5.1 = 0 ∨ r5.1 = 1 then some (r5.1, r5.2) else none
  else
  if r2.2 29 3 = 103 then
    if 16 ≤ r1.1 then
      some (0, r2.2)
    else
    (x_E_setCell 14 r1.1 r2.1 r2.2).bind fun r8 =>
    if r8.1 = 0 then
      some (0, r8.2)
    else
    some (1, r8.2)
  else
  if r2.2 29 3 = 107 then
    (x_R_hasBearer_8 r1.1 r2.2).bind fun r11 =>
    if r11.1 = 0 then
      some (0, r11.2)
    else
    (x_E_setCell 12 r1.1 r2.1 r11.2).bind fun r13 =>
    if r13.1 = 0 then
      some (0, r13.2)
    else
    some (1, r13.2)
  else
  if r2.2 29 3 = 108 then
    if 28 ≤ r1.1 then
      x_E_enterStatement_177 r1.1 (r2.2 8 2) r2.2
    else
    x_E_enterStatement_177 r1.1 r1.1 r2.2
  else
  if r2.2 29 3 = 115 then
    (x_E_isSpan r1.1 r2.2).bind fun r18 =>
    if r18.1 = 0 then
      some (0, r18.2)
    else
    (x_E_setCell 13 r1.1 r2.1 r18.2).bind fun r20 =>
    if r20.1 = 0 then
      some (0, r20.2)
    else
    some (1, r20.2)
  else
  some (0, r2.2)
theorem t_x_E_enterStatement_177 {X : gx_X} (hX : gx_Ok X mi_x_E_enterStatement) {R : Int32 × gx_Wd} (hres : gx_res X = some (.inl R.1)) (hwr : gx_wr X = R.2) (b1 : Int32) (s0 : Int32) (w : gx_Wd) (h : x_E_enterStatement_177 b1 s0 w = some R) : gx_G X mi_x_E_enterStatement 177 [none, some (.inl b1)] [.inl s0, .inr 8] w := by
  rw [x_E_enterStatement_177] at h
  obtain ⟨w1, e_w1, h⟩ := gx_bd h
  refine gx_putp hX fl_E_100 (pf_R_2 _) sh_x_8 rfl e_w1 (gx_dt dt_mi_x_E_enterStatement 65 rfl) ?_
  refine gx_iload_n hX (gx_dt dt_mi_x_E_enterStatement 66 rfl) rfl ?_
  refine gx_bipush hX (v := 28) (gx_dt dt_mi_x_E_enterStatement 67 rfl) (by decide) ?_
  refine gx_ic_ge hX (tgt := 190) (gx_dt dt_mi_x_E_enterStatement 68 rfl) (by decide) (fun c2 => ?_) (fun c2 => ?_)
  · have h := gx_ifp c2 h
    refine gx_iconst hX (v := 0) (gx_dt dt_mi_x_E_enterStatement 71 rfl) (by decide) ?_
    obtain rfl := Option.some.inj h
    exact gx_zret hX (gx_dt dt_mi_x_E_enterStatement 72 rfl) rfl rfl hres hwr
  · have h := gx_ifn c2 h
    refine gx_iconst hX (v := 1) (gx_dt dt_mi_x_E_enterStatement 69 rfl) (by decide) ?_
    refine gx_goto hX (tgt := 191) (gx_dt dt_mi_x_E_enterStatement 70 rfl) (by decide) ?_
    obtain rfl := Option.some.inj h
    exact gx_zret hX (gx_dt dt_mi_x_E_enterStatement 72 rfl) rfl rfl hres hwr
theorem k_x_E_enterStatement {w : gx_Wd} {R : Int32 × gx_Wd} (h : x_E_enterStatement w = some R) : gx_MT mi_x_E_enterStatement [.inr 0] w (some (.inl R.1)) R.2 := by
  refine gx_met (by decide +kernel) (Nat.le_of_ble_eq_true rfl) (fun X hX hres hwr => ?_)
  show gx_G X mi_x_E_enterStatement 0 [some (.inr 0)] [] w
  rw [x_E_enterStatement] at h
  refine gx_aload_n hX (gx_dt dt_mi_x_E_enterStatement 0 rfl) rfl ?_
  refine gx_getr hX fl_E_38 sh_x_0 rfl (gx_dt dt_mi_x_E_enterStatement 1 rfl) ?_
  refine gx_getr hX fl_E_238 sh_x_29 rfl (gx_dt dt_mi_x_E_enterStatement 2 rfl) ?_
  refine gx_iconst hX (v := 0) (gx_dt dt_mi_x_E_enterStatement 3 rfl) (by decide) ?_
  obtain ⟨r1, e_r1, h⟩ := gx_bd h
  refine gx_callSi hX (gx_dt dt_mi_x_E_enterStatement 4 rfl) ln_E_125_x_E_cell mo_x_E_cell ms_x_E_cell (gx_rmb rfl) rfl (k_x_E_cell e_r1) rfl rfl (Nat.le_of_ble_eq_true rfl) ?_
  refine gx_istore_n hX (ls' := [some (.inr 0), some (.inl (r1.1))]) (gx_dt dt_mi_x_E_enterStatement 5 rfl) (by decide) rfl ?_
  refine gx_aload_n hX (gx_dt dt_mi_x_E_enterStatement 6 rfl) rfl ?_
  refine gx_getr hX fl_E_38 sh_x_0 rfl (gx_dt dt_mi_x_E_enterStatement 7 rfl) ?_
  refine gx_getr hX fl_E_238 sh_x_29 rfl (gx_dt dt_mi_x_E_enterStatement 8 rfl) ?_
  refine gx_iconst hX (v := 1) (gx_dt dt_mi_x_E_enterStatement 9 rfl) (by decide) ?_
  obtain ⟨r2, e_r2, h⟩ := gx_bd h
  refine gx_callSi hX (gx_dt dt_mi_x_E_enterStatement 10 rfl) ln_E_125_x_E_cell mo_x_E_cell ms_x_E_cell (gx_rmb rfl) rfl (k_x_E_cell e_r2) rfl rfl (Nat.le_of_ble_eq_true rfl) ?_
  refine gx_istore_n hX (ls' := [some (.inr 0), some (.inl (r1.1)), some (.inl (r2.1))]) (gx_dt dt_mi_x_E_enterStatement 11 rfl) (by decide) rfl ?_
  refine gx_aload_n hX (gx_dt dt_mi_x_E_enterStatement 12 rfl) rfl ?_
  refine gx_getr hX fl_E_38 sh_x_0 rfl (gx_dt dt_mi_x_E_enterStatement 13 rfl) ?_
  refine gx_geti hX fl_E_241 sh_x_29 rfl (gx_dt dt_mi_x_E_enterStatement 14 rfl) ?_
  by_cases c3 : r2.2 29 3 = 98
  · have h := gx_ifp c3 h
    refine gx_lookup hX (off := 49) (tgt := 80) (gx_dt dt_mi_x_E_enterStatement 15 rfl) (by decide) (by rw [c3]; rfl) (by decide) ?_
    refine gx_aload_n hX (gx_dt dt_mi_x_E_enterStatement 16 rfl) rfl ?_
    refine gx_getr hX fl_E_16 sh_x_0 rfl (gx_dt dt_mi_x_E_enterStatement 17 rfl) ?_
    refine gx_iload_n hX (gx_dt dt_mi_x_E_enterStatement 18 rfl) rfl ?_
    refine gx_iload_n hX (gx_dt dt_mi_x_E_enterStatement 19 rfl) rfl ?_
    refine gx_aload_n hX (gx_dt dt_mi_x_E_enterStatement 20 rfl) rfl ?_
    refine gx_getr hX fl_E_38 sh_x_0 rfl (gx_dt dt_mi_x_E_enterStatement 21 rfl) ?_
    refine gx_getr hX fl_E_238 sh_x_29 rfl (gx_dt dt_mi_x_E_enterStatement 22 rfl) ?_
    refine gx_iconst hX (v := 2) (gx_dt dt_mi_x_E_enterStatement 23 rfl) (by decide) ?_
    obtain ⟨r4, e_r4, h⟩ := gx_bd h
    refine gx_callSi hX (gx_dt dt_mi_x_E_enterStatement 24 rfl) ln_E_125_x_E_cell mo_x_E_cell ms_x_E_cell (gx_rmb rfl) rfl (k_x_E_cell e_r4) rfl rfl (Nat.le_of_ble_eq_true rfl) ?_
    obtain ⟨r5, e_r5, h⟩ := gx_bd h
    refine gx_callVi hX (gx_dt dt_mi_x_E_enterStatement 25 rfl) ln_E_244_x_R_addBearer_8 mo_x_R_addBearer_8 mv_x_R_addBearer_8 (gx_rmb rfl) sh_x_8 ⟨_, _, rfl⟩ rfl (k_x_R_addBearer_8 e_r5) rfl rfl (Nat.le_of_ble_eq_true rfl) ?_
    obtain ⟨c, h⟩ := gx_01 h
    obtain rfl := Option.some.inj h
    exact gx_zret hX (gx_dt dt_mi_x_E_enterStatement 26 rfl) rfl (gx_nar c) hres hwr
  have h := gx_ifn c3 h
  by_cases c6 : r2.2 29 3 = 103
  · have h := gx_ifp c6 h
    refine gx_lookup hX (off := 98) (tgt := 129) (gx_dt dt_mi_x_E_enterStatement 15 rfl) (by decide) (by rw [c6]; rfl) (by decide) ?_
    refine gx_iload_n hX (gx_dt dt_mi_x_E_enterStatement 41 rfl) rfl ?_
    refine gx_bipush hX (v := 16) (gx_dt dt_mi_x_E_enterStatement 42 rfl) (by decide) ?_
    refine gx_ic_ge hX (tgt := 154) (gx_dt dt_mi_x_E_enterStatement 43 rfl) (by decide) (fun c7 => ?_) (fun c7 => ?_)
    · have h := gx_ifp c7 h
      refine gx_iconst hX (v := 0) (gx_dt dt_mi_x_E_enterStatement 53 rfl) (by decide) ?_
      obtain rfl := Option.some.inj h
      exact gx_zret hX (gx_dt dt_mi_x_E_enterStatement 54 rfl) rfl rfl hres hwr
    · have h := gx_ifn c7 h
      refine gx_aload_n hX (gx_dt dt_mi_x_E_enterStatement 44 rfl) rfl ?_
      refine gx_getr hX fl_E_16 sh_x_0 rfl (gx_dt dt_mi_x_E_enterStatement 45 rfl) ?_
      refine gx_getr hX fl_E_97 sh_x_8 rfl (gx_dt dt_mi_x_E_enterStatement 46 rfl) ?_
      refine gx_iload_n hX (gx_dt dt_mi_x_E_enterStatement 47 rfl) rfl ?_
      refine gx_iload_n hX (gx_dt dt_mi_x_E_enterStatement 48 rfl) rfl ?_
      obtain ⟨r8, e_r8, h⟩ := gx_bd h
      refine gx_callSi hX (gx_dt dt_mi_x_E_enterStatement 49 rfl) ln_E_174_x_E_setCell mo_x_E_setCell ms_x_E_setCell (gx_rmb rfl) rfl (k_x_E_setCell e_r8) rfl rfl (Nat.le_of_ble_eq_true rfl) ?_
      refine gx_if_eq hX (tgt := 154) (gx_dt dt_mi_x_E_enterStatement 50 rfl) (by decide) (fun c9 => ?_) (fun c9 => ?_)
      · have h := gx_ifp c9 h
        refine gx_iconst hX (v := 0) (gx_dt dt_mi_x_E_enterStatement 53 rfl) (by decide) ?_
        obtain rfl := Option.some.inj h
        exact gx_zret hX (gx_dt dt_mi_x_E_enterStatement 54 rfl) rfl rfl hres hwr
      · have h := gx_ifn c9 h
        refine gx_iconst hX (v := 1) (gx_dt dt_mi_x_E_enterStatement 51 rfl) (by decide) ?_
        refine gx_goto hX (tgt := 155) (gx_dt dt_mi_x_E_enterStatement 52 rfl) (by decide) ?_
        obtain rfl := Option.some.inj h
        exact gx_zret hX (gx_dt dt_mi_x_E_enterStatement 54 rfl) rfl rfl hres hwr
  have h := gx_ifn c6 h
  by_cases c10 : r2.2 29 3 = 107
  · have h := gx_ifp c10 h
    refine gx_lookup hX (off := 161) (tgt := 192) (gx_dt dt_mi_x_E_enterStatement 15 rfl) (by decide) (by rw [c10]; rfl) (by decide) ?_
    refine gx_aload_n hX (gx_dt dt_mi_x_E_enterStatement 73 rfl) rfl ?_
    refine gx_getr hX fl_E_16 sh_x_0 rfl (gx_dt dt_mi_x_E_enterStatement 74 rfl) ?_
    refine gx_iload_n hX (gx_dt dt_mi_x_E_enterStatement 75 rfl) rfl ?_
    obtain ⟨r11, e_r11, h⟩ := gx_bd h
    refine gx_callVi hX (gx_dt dt_mi_x_E_enterStatement 76 rfl) ln_E_103_x_R_hasBearer_8 mo_x_R_hasBearer_8 mv_x_R_hasBearer_8 (gx_rmb rfl) sh_x_8 ⟨_, _, rfl⟩ rfl (k_x_R_hasBearer_8 e_r11) rfl rfl (Nat.le_of_ble_eq_true rfl) ?_
    refine gx_if_eq hX (tgt := 222) (gx_dt dt_mi_x_E_enterStatement 77 rfl) (by decide) (fun c12 => ?_) (fun c12 => ?_)
    · have h := gx_ifp c12 h
      refine gx_iconst hX (v := 0) (gx_dt dt_mi_x_E_enterStatement 87 rfl) (by decide) ?_
      obtain rfl := Option.some.inj h
      exact gx_zret hX (gx_dt dt_mi_x_E_enterStatement 88 rfl) rfl rfl hres hwr
    · have h := gx_ifn c12 h
      refine gx_aload_n hX (gx_dt dt_mi_x_E_enterStatement 78 rfl) rfl ?_
      refine gx_getr hX fl_E_16 sh_x_0 rfl (gx_dt dt_mi_x_E_enterStatement 79 rfl) ?_
      refine gx_getr hX fl_E_106 sh_x_8 rfl (gx_dt dt_mi_x_E_enterStatement 80 rfl) ?_
      refine gx_iload_n hX (gx_dt dt_mi_x_E_enterStatement 81 rfl) rfl ?_
      refine gx_iload_n hX (gx_dt dt_mi_x_E_enterStatement 82 rfl) rfl ?_
      obtain ⟨r13, e_r13, h⟩ := gx_bd h
      refine gx_callSi hX (gx_dt dt_mi_x_E_enterStatement 83 rfl) ln_E_174_x_E_setCell mo_x_E_setCell ms_x_E_setCell (gx_rmb rfl) rfl (k_x_E_setCell e_r13) rfl rfl (Nat.le_of_ble_eq_true rfl) ?_
      refine gx_if_eq hX (tgt := 222) (gx_dt dt_mi_x_E_enterStatement 84 rfl) (by decide) (fun c14 => ?_) (fun c14 => ?_)
      · have h := gx_ifp c14 h
        refine gx_iconst hX (v := 0) (gx_dt dt_mi_x_E_enterStatement 87 rfl) (by decide) ?_
        obtain rfl := Option.some.inj h
        exact gx_zret hX (gx_dt dt_mi_x_E_enterStatement 88 rfl) rfl rfl hres hwr
      · have h := gx_ifn c14 h
        refine gx_iconst hX (v := 1) (gx_dt dt_mi_x_E_enterStatement 85 rfl) (by decide) ?_
        refine gx_goto hX (tgt := 223) (gx_dt dt_mi_x_E_enterStatement 86 rfl) (by decide) ?_
        obtain rfl := Option.some.inj h
        exact gx_zret hX (gx_dt dt_mi_x_E_enterStatement 88 rfl) rfl rfl hres hwr
  have h := gx_ifn c10 h
  by_cases c15 : r2.2 29 3 = 108
  · have h := gx_ifp c15 h
    refine gx_lookup hX (off := 125) (tgt := 156) (gx_dt dt_mi_x_E_enterStatement 15 rfl) (by decide) (by rw [c15]; rfl) (by decide) ?_
    refine gx_aload_n hX (gx_dt dt_mi_x_E_enterStatement 55 rfl) rfl ?_
    refine gx_getr hX fl_E_16 sh_x_0 rfl (gx_dt dt_mi_x_E_enterStatement 56 rfl) ?_
    refine gx_iload_n hX (gx_dt dt_mi_x_E_enterStatement 57 rfl) rfl ?_
    refine gx_bipush hX (v := 28) (gx_dt dt_mi_x_E_enterStatement 58 rfl) (by decide) ?_
    refine gx_ic_ge hX (tgt := 170) (gx_dt dt_mi_x_E_enterStatement 59 rfl) (by decide) (fun c16 => ?_) (fun c16 => ?_)
    · have h := gx_ifp c16 h
      refine gx_aload_n hX (gx_dt dt_mi_x_E_enterStatement 62 rfl) rfl ?_
      refine gx_getr hX fl_E_16 sh_x_0 rfl (gx_dt dt_mi_x_E_enterStatement 63 rfl) ?_
      refine gx_geti hX fl_E_100 sh_x_8 rfl (gx_dt dt_mi_x_E_enterStatement 64 rfl) ?_
      exact gx_weak (gx_leN (gx_leS gx_le0)) (t_x_E_enterStatement_177 hX hres hwr _ _ _ h)
    · have h := gx_ifn c16 h
      refine gx_iload_n hX (gx_dt dt_mi_x_E_enterStatement 60 rfl) rfl ?_
      refine gx_goto hX (tgt := 177) (gx_dt dt_mi_x_E_enterStatement 61 rfl) (by decide) ?_
      exact gx_weak (gx_leN (gx_leS gx_le0)) (t_x_E_enterStatement_177 hX hres hwr _ _ _ h)
  have h := gx_ifn c15 h
  by_cases c17 : r2.2 29 3 = 115
  · have h := gx_ifp c17 h
    refine gx_lookup hX (off := 70) (tgt := 101) (gx_dt dt_mi_x_E_enterStatement 15 rfl) (by decide) (by rw [c17]; rfl) (by decide) ?_
    refine gx_iload_n hX (gx_dt dt_mi_x_E_enterStatement 27 rfl) rfl ?_
    obtain ⟨r18, e_r18, h⟩ := gx_bd h
    refine gx_callSi hX (gx_dt dt_mi_x_E_enterStatement 28 rfl) ln_E_86_x_E_isSpan mo_x_E_isSpan ms_x_E_isSpan (gx_rmb rfl) rfl (k_x_E_isSpan e_r18) rfl rfl (Nat.le_of_ble_eq_true rfl) ?_
    refine gx_if_eq hX (tgt := 127) (gx_dt dt_mi_x_E_enterStatement 29 rfl) (by decide) (fun c19 => ?_) (fun c19 => ?_)
    · have h := gx_ifp c19 h
      refine gx_iconst hX (v := 0) (gx_dt dt_mi_x_E_enterStatement 39 rfl) (by decide) ?_
      obtain rfl := Option.some.inj h
      exact gx_zret hX (gx_dt dt_mi_x_E_enterStatement 40 rfl) rfl rfl hres hwr
    · have h := gx_ifn c19 h
      refine gx_aload_n hX (gx_dt dt_mi_x_E_enterStatement 30 rfl) rfl ?_
      refine gx_getr hX fl_E_16 sh_x_0 rfl (gx_dt dt_mi_x_E_enterStatement 31 rfl) ?_
      refine gx_getr hX fl_E_90 sh_x_8 rfl (gx_dt dt_mi_x_E_enterStatement 32 rfl) ?_
      refine gx_iload_n hX (gx_dt dt_mi_x_E_enterStatement 33 rfl) rfl ?_
      refine gx_iload_n hX (gx_dt dt_mi_x_E_enterStatement 34 rfl) rfl ?_
      obtain ⟨r20, e_r20, h⟩ := gx_bd h
      refine gx_callSi hX (gx_dt dt_mi_x_E_enterStatement 35 rfl) ln_E_174_x_E_setCell mo_x_E_setCell ms_x_E_setCell (gx_rmb rfl) rfl (k_x_E_setCell e_r20) rfl rfl (Nat.le_of_ble_eq_true rfl) ?_
      refine gx_if_eq hX (tgt := 127) (gx_dt dt_mi_x_E_enterStatement 36 rfl) (by decide) (fun c21 => ?_) (fun c21 => ?_)
      · have h := gx_ifp c21 h
        refine gx_iconst hX (v := 0) (gx_dt dt_mi_x_E_enterStatement 39 rfl) (by decide) ?_
        obtain rfl := Option.some.inj h
        exact gx_zret hX (gx_dt dt_mi_x_E_enterStatement 40 rfl) rfl rfl hres hwr
      · have h := gx_ifn c21 h
        refine gx_iconst hX (v := 1) (gx_dt dt_mi_x_E_enterStatement 37 rfl) (by decide) ?_
        refine gx_goto hX (tgt := 128) (gx_dt dt_mi_x_E_enterStatement 38 rfl) (by decide) ?_
        obtain rfl := Option.some.inj h
        exact gx_zret hX (gx_dt dt_mi_x_E_enterStatement 40 rfl) rfl rfl hres hwr
  have h := gx_ifn c17 h
  refine gx_lookup hX (off := 193) (tgt := 224) (gx_dt dt_mi_x_E_enterStatement 15 rfl) (by decide) (by show Op.lookupswitch.offset [(98, 49), (103, 98), (107, 161), (108, 125), (115, 70)] _ _ = _; rw [lv_osw (a := 98) c3 rfl, lv_osw (a := 103) c6 rfl, lv_osw (a := 107) c10 rfl, lv_osw (a := 108) c15 rfl, lv_osw (a := 115) c17 rfl]; rfl) (by decide) ?_
  refine gx_iconst hX (v := 0) (gx_dt dt_mi_x_E_enterStatement 89 rfl) (by decide) ?_
  obtain rfl := Option.some.inj h
  exact gx_zret hX (gx_dt dt_mi_x_E_enterStatement 90 rfl) rfl rfl hres hwr
-- EachBearsPillar.enterStatements()I
def x_E_enterStatements_85 (b1 : Int32) (w : gx_Wd) : Option (Int32 × gx_Wd) :=
  (x_R_become_1_8 w).bind fun r1 =>
  some (b1, r1)
def x_E_enterStatements_22 : Nat → Int32 → Int32 → gx_Wd → Option (Int32 × gx_Wd)
  | 0, _, _, _ => none
  | n + 1, b1, b2, w =>
  if 96 ≤ b2 then
    x_E_enterStatements_85 b1 w
  else
  if w 29 1 ≤ w 29 2 then
    x_E_enterStatements_85 b1 w
  else
  (x_T_readStatement w).bind fun r3 =>
  if r3.1 = 0 then
    some ((-2000) - (w 29 2), r3.2)
  else
  (x_E_enterStatement r3.2).bind fun r5 =>
  if r5.1 = 0 then
    some ((-2000) - (w 29 2), r5.2)
  else
    (some (b1 + 1)).bind fun v7 =>
    (some (b2 + 1)).bind fun v8 =>
    (x_E_enterStatements_22 n) v7 v8 r5.2
def x_E_enterStatements (w : gx_Wd) : Option (Int32 × gx_Wd) :=
  (x_R_become_8_1 w).bind fun r1 =>
  (x_T_rewind r1).bind fun r2 =>
  x_E_enterStatements_22 6000 0 0 r2
theorem t_x_E_enterStatements_85 {X : gx_X} (hX : gx_Ok X mi_x_E_enterStatements) {R : Int32 × gx_Wd} (hres : gx_res X = some (.inl R.1)) (hwr : gx_wr X = R.2) (b1 : Int32) (w : gx_Wd) (h : x_E_enterStatements_85 b1 w = some R) : gx_G X mi_x_E_enterStatements 85 [some (.inr 0), some (.inl b1)] [] w := by
  rw [x_E_enterStatements_85] at h
  refine gx_aload_n hX (gx_dt dt_mi_x_E_enterStatements 40 rfl) rfl ?_
  refine gx_getr hX fl_E_10 sh_x_0 rfl (gx_dt dt_mi_x_E_enterStatements 41 rfl) ?_
  refine gx_aload_n hX (gx_dt dt_mi_x_E_enterStatements 42 rfl) rfl ?_
  refine gx_getr hX fl_E_16 sh_x_0 rfl (gx_dt dt_mi_x_E_enterStatements 43 rfl) ?_
  obtain ⟨r1, e_r1, h⟩ := gx_bd h
  refine gx_callVv hX (gx_dt dt_mi_x_E_enterStatements 44 rfl) ln_E_223_x_R_become_1_8 mo_x_R_become_1_8 mv_x_R_become_1_8 (gx_rmb rfl) sh_x_1 ⟨_, _, rfl⟩ rfl (k_x_R_become_1_8 e_r1) rfl rfl (Nat.le_of_ble_eq_true rfl) ?_
  refine gx_iload_n hX (gx_dt dt_mi_x_E_enterStatements 45 rfl) rfl ?_
  obtain rfl := Option.some.inj h
  exact gx_iret hX (gx_dt dt_mi_x_E_enterStatements 46 rfl) rfl hres hwr
theorem t_x_E_enterStatements_22 {X : gx_X} (hX : gx_Ok X mi_x_E_enterStatements) {R : Int32 × gx_Wd} (hres : gx_res X = some (.inl R.1)) (hwr : gx_wr X = R.2) : ∀ (n : Nat) (b1 : Int32) (b2 : Int32) (w : gx_Wd), x_E_enterStatements_22 n b1 b2 w = some R → gx_G X mi_x_E_enterStatements 22 [some (.inr 0), some (.inl b1), some (.inl b2)] [] w := by
  intro n
  induction n with
  | zero => intro b1 b2 w h; rw [x_E_enterStatements_22] at h; cases h
  | succ n ih =>
    intro b1 b2 w h
    rw [x_E_enterStatements_22] at h
    refine gx_iload_n hX (gx_dt dt_mi_x_E_enterStatements 12 rfl) rfl ?_
    refine gx_bipush hX (v := 96) (gx_dt dt_mi_x_E_enterStatements 13 rfl) (by decide) ?_
    refine gx_ic_ge hX (tgt := 85) (gx_dt dt_mi_x_E_enterStatements 14 rfl) (by decide) (fun c1 => ?_) (fun c1 => ?_)
    · have h := gx_ifp c1 h
      exact gx_weak (gx_leS (gx_leS gx_le0)) (t_x_E_enterStatements_85 hX hres hwr _ _ h)
    · have h := gx_ifn c1 h
      refine gx_aload_n hX (gx_dt dt_mi_x_E_enterStatements 15 rfl) rfl ?_
      refine gx_getr hX fl_E_38 sh_x_0 rfl (gx_dt dt_mi_x_E_enterStatements 16 rfl) ?_
      refine gx_geti hX fl_E_229 sh_x_29 rfl (gx_dt dt_mi_x_E_enterStatements 17 rfl) ?_
      refine gx_aload_n hX (gx_dt dt_mi_x_E_enterStatements 18 rfl) rfl ?_
      refine gx_getr hX fl_E_38 sh_x_0 rfl (gx_dt dt_mi_x_E_enterStatements 19 rfl) ?_
      refine gx_geti hX fl_E_73 sh_x_29 rfl (gx_dt dt_mi_x_E_enterStatements 20 rfl) ?_
      refine gx_ic_ge hX (tgt := 85) (gx_dt dt_mi_x_E_enterStatements 21 rfl) (by decide) (fun c2 => ?_) (fun c2 => ?_)
      · have h := gx_ifp c2 h
        exact gx_weak (gx_leS (gx_leS gx_le0)) (t_x_E_enterStatements_85 hX hres hwr _ _ h)
      · have h := gx_ifn c2 h
        refine gx_aload_n hX (gx_dt dt_mi_x_E_enterStatements 22 rfl) rfl ?_
        refine gx_getr hX fl_E_38 sh_x_0 rfl (gx_dt dt_mi_x_E_enterStatements 23 rfl) ?_
        refine gx_geti hX fl_E_229 sh_x_29 rfl (gx_dt dt_mi_x_E_enterStatements 24 rfl) ?_
        refine gx_istore_n hX (ls' := [some (.inr 0), some (.inl b1), some (.inl b2), some (.inl (w 29 2))]) (gx_dt dt_mi_x_E_enterStatements 25 rfl) (by decide) rfl ?_
        refine gx_aload_n hX (gx_dt dt_mi_x_E_enterStatements 26 rfl) rfl ?_
        refine gx_getr hX fl_E_38 sh_x_0 rfl (gx_dt dt_mi_x_E_enterStatements 27 rfl) ?_
        obtain ⟨r3, e_r3, h⟩ := gx_bd h
        refine gx_callVi hX (gx_dt dt_mi_x_E_enterStatements 28 rfl) ln_E_232_x_T_readStatement mo_x_T_readStatement mv_x_T_readStatement (gx_rmb rfl) sh_x_29 ⟨_, _, rfl⟩ rfl (k_x_T_readStatement e_r3) rfl rfl (Nat.le_of_ble_eq_true rfl) ?_
        refine gx_if_eq hX (tgt := 70) (gx_dt dt_mi_x_E_enterStatements 29 rfl) (by decide) (fun c4 => ?_) (fun c4 => ?_)
        · have h := gx_ifp c4 h
          refine gx_sipush hX (v := (-2000)) (gx_dt dt_mi_x_E_enterStatements 33 rfl) (by decide) ?_
          refine gx_iload_n hX (gx_dt dt_mi_x_E_enterStatements 34 rfl) rfl ?_
          refine gx_isub hX (gx_dt dt_mi_x_E_enterStatements 35 rfl) ?_
          obtain rfl := Option.some.inj h
          exact gx_iret hX (gx_dt dt_mi_x_E_enterStatements 36 rfl) rfl hres hwr
        · have h := gx_ifn c4 h
          refine gx_aload_n hX (gx_dt dt_mi_x_E_enterStatements 30 rfl) rfl ?_
          obtain ⟨r5, e_r5, h⟩ := gx_bd h
          refine gx_callVi hX (gx_dt dt_mi_x_E_enterStatements 31 rfl) ln_E_235_x_E_enterStatement mo_x_E_enterStatement mv_x_E_enterStatement (gx_rmb rfl) sh_x_0 ⟨_, _, rfl⟩ rfl (k_x_E_enterStatement e_r5) rfl rfl (Nat.le_of_ble_eq_true rfl) ?_
          refine gx_if_ne hX (tgt := 76) (gx_dt dt_mi_x_E_enterStatements 32 rfl) (by decide) (fun c6 => ?_) (fun c6 => ?_)
          · have h := gx_ifn c6 h
            obtain ⟨v7, e_v7, h⟩ := gx_bd h
            refine gx_iinc hX (v := v7) (ls' := [some (.inr 0), some (.inl v7), some (.inl b2), some (.inl (w 29 2))]) (gx_dt dt_mi_x_E_enterStatements 37 rfl) rfl (gx_ii e_v7 (by decide)) (by decide) rfl ?_
            obtain ⟨v8, e_v8, h⟩ := gx_bd h
            refine gx_iinc hX (v := v8) (ls' := [some (.inr 0), some (.inl v7), some (.inl v8), some (.inl (w 29 2))]) (gx_dt dt_mi_x_E_enterStatements 38 rfl) rfl (gx_ii e_v8 (by decide)) (by decide) rfl ?_
            refine gx_goto hX (tgt := 22) (gx_dt dt_mi_x_E_enterStatements 39 rfl) (by decide) ?_
            exact gx_weak (gx_leS (gx_leS (gx_leS gx_le0))) (ih _ _ _ h)
          · have h := gx_ifp c6 h
            refine gx_sipush hX (v := (-2000)) (gx_dt dt_mi_x_E_enterStatements 33 rfl) (by decide) ?_
            refine gx_iload_n hX (gx_dt dt_mi_x_E_enterStatements 34 rfl) rfl ?_
            refine gx_isub hX (gx_dt dt_mi_x_E_enterStatements 35 rfl) ?_
            obtain rfl := Option.some.inj h
            exact gx_iret hX (gx_dt dt_mi_x_E_enterStatements 36 rfl) rfl hres hwr
theorem k_x_E_enterStatements {w : gx_Wd} {R : Int32 × gx_Wd} (h : x_E_enterStatements w = some R) : gx_MT mi_x_E_enterStatements [.inr 0] w (some (.inl R.1)) R.2 := by
  refine gx_met (by decide +kernel) (Nat.le_of_ble_eq_true rfl) (fun X hX hres hwr => ?_)
  show gx_G X mi_x_E_enterStatements 0 [some (.inr 0)] [] w
  rw [x_E_enterStatements] at h
  refine gx_aload_n hX (gx_dt dt_mi_x_E_enterStatements 0 rfl) rfl ?_
  refine gx_getr hX fl_E_16 sh_x_0 rfl (gx_dt dt_mi_x_E_enterStatements 1 rfl) ?_
  refine gx_aload_n hX (gx_dt dt_mi_x_E_enterStatements 2 rfl) rfl ?_
  refine gx_getr hX fl_E_10 sh_x_0 rfl (gx_dt dt_mi_x_E_enterStatements 3 rfl) ?_
  obtain ⟨r1, e_r1, h⟩ := gx_bd h
  refine gx_callVv hX (gx_dt dt_mi_x_E_enterStatements 4 rfl) ln_E_223_x_R_become_8_1 mo_x_R_become_8_1 mv_x_R_become_8_1 (gx_rmb rfl) sh_x_8 ⟨_, _, rfl⟩ rfl (k_x_R_become_8_1 e_r1) rfl rfl (Nat.le_of_ble_eq_true rfl) ?_
  refine gx_aload_n hX (gx_dt dt_mi_x_E_enterStatements 5 rfl) rfl ?_
  refine gx_getr hX fl_E_38 sh_x_0 rfl (gx_dt dt_mi_x_E_enterStatements 6 rfl) ?_
  obtain ⟨r2, e_r2, h⟩ := gx_bd h
  refine gx_callVv hX (gx_dt dt_mi_x_E_enterStatements 7 rfl) ln_E_226_x_T_rewind mo_x_T_rewind mv_x_T_rewind (gx_rmb rfl) sh_x_29 ⟨_, _, rfl⟩ rfl (k_x_T_rewind e_r2) rfl rfl (Nat.le_of_ble_eq_true rfl) ?_
  refine gx_iconst hX (v := 0) (gx_dt dt_mi_x_E_enterStatements 8 rfl) (by decide) ?_
  refine gx_istore_n hX (ls' := [some (.inr 0), some (.inl (0))]) (gx_dt dt_mi_x_E_enterStatements 9 rfl) (by decide) rfl ?_
  refine gx_iconst hX (v := 0) (gx_dt dt_mi_x_E_enterStatements 10 rfl) (by decide) ?_
  refine gx_istore_n hX (ls' := [some (.inr 0), some (.inl (0)), some (.inl (0))]) (gx_dt dt_mi_x_E_enterStatements 11 rfl) (by decide) rfl ?_
  exact gx_weak (gx_leS (gx_leS (gx_leS gx_le0))) (t_x_E_enterStatements_22 hX hres hwr _ _ _ _ h)
-- EachBearsPillar.roof()I
def x_E_roof_17 (b1 : Int32) (w : gx_Wd) : Option (Int32 × gx_Wd) :=
  (gx_put w 29 1 0).bind fun w1 =>
  some (b1, w1)
def x_E_roof (w : gx_Wd) : Option (Int32 × gx_Wd) :=
  (x_T_faultOfForm w).bind fun r1 =>
  if r1.1 = 0 then
    (x_E_enterStatements r1.2).bind fun r3 =>
    x_E_roof_17 r3.1 r3.2
  else
    x_E_roof_17 r1.1 r1.2
theorem t_x_E_roof_17 {X : gx_X} (hX : gx_Ok X mi_x_E_roof) {R : Int32 × gx_Wd} (hres : gx_res X = some (.inl R.1)) (hwr : gx_wr X = R.2) (b1 : Int32) (w : gx_Wd) (h : x_E_roof_17 b1 w = some R) : gx_G X mi_x_E_roof 17 [some (.inr 0), some (.inl b1)] [] w := by
  rw [x_E_roof_17] at h
  refine gx_aload_n hX (gx_dt dt_mi_x_E_roof 9 rfl) rfl ?_
  refine gx_getr hX fl_E_38 sh_x_0 rfl (gx_dt dt_mi_x_E_roof 10 rfl) ?_
  refine gx_iconst hX (v := 0) (gx_dt dt_mi_x_E_roof 11 rfl) (by decide) ?_
  obtain ⟨w1, e_w1, h⟩ := gx_bd h
  refine gx_putp hX fl_E_73 (pf_T_1 _) sh_x_29 rfl e_w1 (gx_dt dt_mi_x_E_roof 12 rfl) ?_
  refine gx_iload_n hX (gx_dt dt_mi_x_E_roof 13 rfl) rfl ?_
  obtain rfl := Option.some.inj h
  exact gx_iret hX (gx_dt dt_mi_x_E_roof 14 rfl) rfl hres hwr
theorem k_x_E_roof {w : gx_Wd} {R : Int32 × gx_Wd} (h : x_E_roof w = some R) : gx_MT mi_x_E_roof [.inr 0] w (some (.inl R.1)) R.2 := by
  refine gx_met (by decide +kernel) (Nat.le_of_ble_eq_true rfl) (fun X hX hres hwr => ?_)
  show gx_G X mi_x_E_roof 0 [some (.inr 0)] [] w
  rw [x_E_roof] at h
  refine gx_aload_n hX (gx_dt dt_mi_x_E_roof 0 rfl) rfl ?_
  refine gx_getr hX fl_E_38 sh_x_0 rfl (gx_dt dt_mi_x_E_roof 1 rfl) ?_
  obtain ⟨r1, e_r1, h⟩ := gx_bd h
  refine gx_callVi hX (gx_dt dt_mi_x_E_roof 2 rfl) ln_E_79_x_T_faultOfForm mo_x_T_faultOfForm mv_x_T_faultOfForm (gx_rmb rfl) sh_x_29 ⟨_, _, rfl⟩ rfl (k_x_T_faultOfForm e_r1) rfl rfl (Nat.le_of_ble_eq_true rfl) ?_
  refine gx_istore_n hX (ls' := [some (.inr 0), some (.inl (r1.1))]) (gx_dt dt_mi_x_E_roof 3 rfl) (by decide) rfl ?_
  refine gx_iload_n hX (gx_dt dt_mi_x_E_roof 4 rfl) rfl ?_
  refine gx_if_ne hX (tgt := 17) (gx_dt dt_mi_x_E_roof 5 rfl) (by decide) (fun c2 => ?_) (fun c2 => ?_)
  · have h := gx_ifn c2 h
    exact gx_weak (gx_leS (gx_leS gx_le0)) (t_x_E_roof_17 hX hres hwr _ _ h)
  · have h := gx_ifp c2 h
    refine gx_aload_n hX (gx_dt dt_mi_x_E_roof 6 rfl) rfl ?_
    obtain ⟨r3, e_r3, h⟩ := gx_bd h
    refine gx_callVi hX (gx_dt dt_mi_x_E_roof 7 rfl) ln_E_83_x_E_enterStatements mo_x_E_enterStatements mv_x_E_enterStatements (gx_rmb rfl) sh_x_0 ⟨_, _, rfl⟩ rfl (k_x_E_enterStatements e_r3) rfl rfl (Nat.le_of_ble_eq_true rfl) ?_
    refine gx_istore_n hX (ls' := [some (.inr 0), some (.inl (r3.1))]) (gx_dt dt_mi_x_E_roof 8 rfl) (by decide) rfl ?_
    exact gx_weak (gx_leS (gx_leS gx_le0)) (t_x_E_roof_17 hX hres hwr _ _ h)
-- EachBearsPillar.exchange([III)I
def x_E_exchange (o0 : Nat) (a1 : Int32) (a2 : Int32) (w : gx_Wd) : Option (Int32 × gx_Wd) :=
  (x_E_cell o0 a1 w).bind fun r1 =>
  (x_E_setCell o0 a1 a2 r1.2).bind fun r2 =>
  some (r1.1, r2.2)
theorem k_x_E_exchange {o0 : Nat} {a1 : Int32} {a2 : Int32} {w : gx_Wd} {R : Int32 × gx_Wd} (h : x_E_exchange o0 a1 a2 w = some R) : gx_MT mi_x_E_exchange [.inr o0, .inl a1, .inl a2] w (some (.inl R.1)) R.2 := by
  refine gx_met (by decide +kernel) (Nat.le_of_ble_eq_true rfl) (fun X hX hres hwr => ?_)
  show gx_G X mi_x_E_exchange 0 [some (.inr o0), some (.inl a1), some (.inl a2)] [] w
  rw [x_E_exchange] at h
  refine gx_aload_n hX (gx_dt dt_mi_x_E_exchange 0 rfl) rfl ?_
  refine gx_iload_n hX (gx_dt dt_mi_x_E_exchange 1 rfl) rfl ?_
  obtain ⟨r1, e_r1, h⟩ := gx_bd h
  refine gx_callSi hX (gx_dt dt_mi_x_E_exchange 2 rfl) ln_E_125_x_E_cell mo_x_E_cell ms_x_E_cell (gx_rmb rfl) rfl (k_x_E_cell e_r1) rfl rfl (Nat.le_of_ble_eq_true rfl) ?_
  refine gx_istore_n hX (ls' := [some (.inr o0), some (.inl a1), some (.inl a2), some (.inl (r1.1))]) (gx_dt dt_mi_x_E_exchange 3 rfl) (by decide) rfl ?_
  refine gx_aload_n hX (gx_dt dt_mi_x_E_exchange 4 rfl) rfl ?_
  refine gx_iload_n hX (gx_dt dt_mi_x_E_exchange 5 rfl) rfl ?_
  refine gx_iload_n hX (gx_dt dt_mi_x_E_exchange 6 rfl) rfl ?_
  obtain ⟨r2, e_r2, h⟩ := gx_bd h
  refine gx_callSi hX (gx_dt dt_mi_x_E_exchange 7 rfl) ln_E_174_x_E_setCell mo_x_E_setCell ms_x_E_setCell (gx_rmb rfl) rfl (k_x_E_setCell e_r2) rfl rfl (Nat.le_of_ble_eq_true rfl) ?_
  refine gx_pop hX (gx_dt dt_mi_x_E_exchange 8 rfl) ?_
  refine gx_iload_n hX (gx_dt dt_mi_x_E_exchange 9 rfl) rfl ?_
  obtain rfl := Option.some.inj h
  exact gx_iret hX (gx_dt dt_mi_x_E_exchange 10 rfl) rfl hres hwr
-- EachBearsPillar.span(II)I
def x_E_span (a1 : Int32) (a2 : Int32) (w : gx_Wd) : Option (Int32 × gx_Wd) :=
  (x_E_isSpan a1 w).bind fun r1 =>
  if r1.1 = 0 then
    (x_E_refuse (-1) r1.2).bind fun r8 =>
    some (r8.1, r8.2)
  else
    if 0 ≤ a2 then
      if a2 ≤ 99 then
        (x_E_exchange 6 a1 a2 r1.2).bind fun r5 =>
        some (r5.1, r5.2)
      else
      (x_E_refuse (-6) r1.2).bind fun r6 =>
      some (r6.1, r6.2)
    else
    (x_E_refuse (-4) r1.2).bind fun r7 =>
    some (r7.1, r7.2)
theorem k_x_E_span {a1 : Int32} {a2 : Int32} {w : gx_Wd} {R : Int32 × gx_Wd} (h : x_E_span a1 a2 w = some R) : gx_MT mi_x_E_span [.inr 0, .inl a1, .inl a2] w (some (.inl R.1)) R.2 := by
  refine gx_met (by decide +kernel) (Nat.le_of_ble_eq_true rfl) (fun X hX hres hwr => ?_)
  show gx_G X mi_x_E_span 0 [some (.inr 0), some (.inl a1), some (.inl a2)] [] w
  rw [x_E_span] at h
  refine gx_iload_n hX (gx_dt dt_mi_x_E_span 0 rfl) rfl ?_
  obtain ⟨r1, e_r1, h⟩ := gx_bd h
  refine gx_callSi hX (gx_dt dt_mi_x_E_span 1 rfl) ln_E_86_x_E_isSpan mo_x_E_isSpan ms_x_E_isSpan (gx_rmb rfl) rfl (k_x_E_isSpan e_r1) rfl rfl (Nat.le_of_ble_eq_true rfl) ?_
  refine gx_if_ne hX (tgt := 13) (gx_dt dt_mi_x_E_span 2 rfl) (by decide) (fun c2 => ?_) (fun c2 => ?_)
  · have h := gx_ifn c2 h
    refine gx_iload_n hX (gx_dt dt_mi_x_E_span 7 rfl) rfl ?_
    refine gx_if_ge hX (tgt := 24) (gx_dt dt_mi_x_E_span 8 rfl) (by decide) (fun c3 => ?_) (fun c3 => ?_)
    · have h := gx_ifp c3 h
      refine gx_iload_n hX (gx_dt dt_mi_x_E_span 13 rfl) rfl ?_
      refine gx_bipush hX (v := 99) (gx_dt dt_mi_x_E_span 14 rfl) (by decide) ?_
      refine gx_ic_le hX (tgt := 37) (gx_dt dt_mi_x_E_span 15 rfl) (by decide) (fun c4 => ?_) (fun c4 => ?_)
      · have h := gx_ifp c4 h
        refine gx_aload_n hX (gx_dt dt_mi_x_E_span 20 rfl) rfl ?_
        refine gx_getr hX fl_E_10 sh_x_0 rfl (gx_dt dt_mi_x_E_span 21 rfl) ?_
        refine gx_getr hX fl_E_90 sh_x_1 rfl (gx_dt dt_mi_x_E_span 22 rfl) ?_
        refine gx_iload_n hX (gx_dt dt_mi_x_E_span 23 rfl) rfl ?_
        refine gx_iload_n hX (gx_dt dt_mi_x_E_span 24 rfl) rfl ?_
        obtain ⟨r5, e_r5, h⟩ := gx_bd h
        refine gx_callSi hX (gx_dt dt_mi_x_E_span 25 rfl) ln_E_93_x_E_exchange mo_x_E_exchange ms_x_E_exchange (gx_rmb rfl) rfl (k_x_E_exchange e_r5) rfl rfl (Nat.le_of_ble_eq_true rfl) ?_
        obtain rfl := Option.some.inj h
        exact gx_iret hX (gx_dt dt_mi_x_E_span 26 rfl) rfl hres hwr
      · have h := gx_ifn c4 h
        refine gx_aload_n hX (gx_dt dt_mi_x_E_span 16 rfl) rfl ?_
        refine gx_bipush hX (v := (-6)) (gx_dt dt_mi_x_E_span 17 rfl) (by decide) ?_
        obtain ⟨r6, e_r6, h⟩ := gx_bd h
        refine gx_callVi hX (gx_dt dt_mi_x_E_span 18 rfl) ln_E_69_x_E_refuse mo_x_E_refuse mv_x_E_refuse (gx_rmb rfl) sh_x_0 ⟨_, _, rfl⟩ rfl (k_x_E_refuse e_r6) rfl rfl (Nat.le_of_ble_eq_true rfl) ?_
        obtain rfl := Option.some.inj h
        exact gx_iret hX (gx_dt dt_mi_x_E_span 19 rfl) rfl hres hwr
    · have h := gx_ifn c3 h
      refine gx_aload_n hX (gx_dt dt_mi_x_E_span 9 rfl) rfl ?_
      refine gx_bipush hX (v := (-4)) (gx_dt dt_mi_x_E_span 10 rfl) (by decide) ?_
      obtain ⟨r7, e_r7, h⟩ := gx_bd h
      refine gx_callVi hX (gx_dt dt_mi_x_E_span 11 rfl) ln_E_69_x_E_refuse mo_x_E_refuse mv_x_E_refuse (gx_rmb rfl) sh_x_0 ⟨_, _, rfl⟩ rfl (k_x_E_refuse e_r7) rfl rfl (Nat.le_of_ble_eq_true rfl) ?_
      obtain rfl := Option.some.inj h
      exact gx_iret hX (gx_dt dt_mi_x_E_span 12 rfl) rfl hres hwr
  · have h := gx_ifp c2 h
    refine gx_aload_n hX (gx_dt dt_mi_x_E_span 3 rfl) rfl ?_
    refine gx_iconst hX (v := (-1)) (gx_dt dt_mi_x_E_span 4 rfl) (by decide) ?_
    obtain ⟨r8, e_r8, h⟩ := gx_bd h
    refine gx_callVi hX (gx_dt dt_mi_x_E_span 5 rfl) ln_E_69_x_E_refuse mo_x_E_refuse mv_x_E_refuse (gx_rmb rfl) sh_x_0 ⟨_, _, rfl⟩ rfl (k_x_E_refuse e_r8) rfl rfl (Nat.le_of_ble_eq_true rfl) ?_
    obtain rfl := Option.some.inj h
    exact gx_iret hX (gx_dt dt_mi_x_E_span 6 rfl) rfl hres hwr
-- EachBearsPillar.ground(II)I
def x_E_ground (a1 : Int32) (a2 : Int32) (w : gx_Wd) : Option (Int32 × gx_Wd) :=
  if a1 < 0 then
    (x_E_refuse (-1) w).bind fun r2 =>
    some (r2.1, r2.2)
  else
  if a1 < 16 then
    if 0 ≤ a2 then
      if a2 ≤ 9 then
        (x_E_exchange 7 a1 a2 w).bind fun r6 =>
        some (r6.1, r6.2)
      else
      (x_E_refuse (-6) w).bind fun r7 =>
      some (r7.1, r7.2)
    else
    (x_E_refuse (-4) w).bind fun r8 =>
    some (r8.1, r8.2)
  else
  (x_E_refuse (-1) w).bind fun r9 =>
  some (r9.1, r9.2)
theorem k_x_E_ground {a1 : Int32} {a2 : Int32} {w : gx_Wd} {R : Int32 × gx_Wd} (h : x_E_ground a1 a2 w = some R) : gx_MT mi_x_E_ground [.inr 0, .inl a1, .inl a2] w (some (.inl R.1)) R.2 := by
  refine gx_met (by decide +kernel) (Nat.le_of_ble_eq_true rfl) (fun X hX hres hwr => ?_)
  show gx_G X mi_x_E_ground 0 [some (.inr 0), some (.inl a1), some (.inl a2)] [] w
  rw [x_E_ground] at h
  refine gx_iload_n hX (gx_dt dt_mi_x_E_ground 0 rfl) rfl ?_
  refine gx_if_lt hX (tgt := 10) (gx_dt dt_mi_x_E_ground 1 rfl) (by decide) (fun c1 => ?_) (fun c1 => ?_)
  · have h := gx_ifp c1 h
    refine gx_aload_n hX (gx_dt dt_mi_x_E_ground 5 rfl) rfl ?_
    refine gx_iconst hX (v := (-1)) (gx_dt dt_mi_x_E_ground 6 rfl) (by decide) ?_
    obtain ⟨r2, e_r2, h⟩ := gx_bd h
    refine gx_callVi hX (gx_dt dt_mi_x_E_ground 7 rfl) ln_E_69_x_E_refuse mo_x_E_refuse mv_x_E_refuse (gx_rmb rfl) sh_x_0 ⟨_, _, rfl⟩ rfl (k_x_E_refuse e_r2) rfl rfl (Nat.le_of_ble_eq_true rfl) ?_
    obtain rfl := Option.some.inj h
    exact gx_iret hX (gx_dt dt_mi_x_E_ground 8 rfl) rfl hres hwr
  · have h := gx_ifn c1 h
    refine gx_iload_n hX (gx_dt dt_mi_x_E_ground 2 rfl) rfl ?_
    refine gx_bipush hX (v := 16) (gx_dt dt_mi_x_E_ground 3 rfl) (by decide) ?_
    refine gx_ic_lt hX (tgt := 16) (gx_dt dt_mi_x_E_ground 4 rfl) (by decide) (fun c3 => ?_) (fun c3 => ?_)
    · have h := gx_ifp c3 h
      refine gx_iload_n hX (gx_dt dt_mi_x_E_ground 9 rfl) rfl ?_
      refine gx_if_ge hX (tgt := 27) (gx_dt dt_mi_x_E_ground 10 rfl) (by decide) (fun c4 => ?_) (fun c4 => ?_)
      · have h := gx_ifp c4 h
        refine gx_iload_n hX (gx_dt dt_mi_x_E_ground 15 rfl) rfl ?_
        refine gx_bipush hX (v := 9) (gx_dt dt_mi_x_E_ground 16 rfl) (by decide) ?_
        refine gx_ic_le hX (tgt := 40) (gx_dt dt_mi_x_E_ground 17 rfl) (by decide) (fun c5 => ?_) (fun c5 => ?_)
        · have h := gx_ifp c5 h
          refine gx_aload_n hX (gx_dt dt_mi_x_E_ground 22 rfl) rfl ?_
          refine gx_getr hX fl_E_10 sh_x_0 rfl (gx_dt dt_mi_x_E_ground 23 rfl) ?_
          refine gx_getr hX fl_E_97 sh_x_1 rfl (gx_dt dt_mi_x_E_ground 24 rfl) ?_
          refine gx_iload_n hX (gx_dt dt_mi_x_E_ground 25 rfl) rfl ?_
          refine gx_iload_n hX (gx_dt dt_mi_x_E_ground 26 rfl) rfl ?_
          obtain ⟨r6, e_r6, h⟩ := gx_bd h
          refine gx_callSi hX (gx_dt dt_mi_x_E_ground 27 rfl) ln_E_93_x_E_exchange mo_x_E_exchange ms_x_E_exchange (gx_rmb rfl) rfl (k_x_E_exchange e_r6) rfl rfl (Nat.le_of_ble_eq_true rfl) ?_
          obtain rfl := Option.some.inj h
          exact gx_iret hX (gx_dt dt_mi_x_E_ground 28 rfl) rfl hres hwr
        · have h := gx_ifn c5 h
          refine gx_aload_n hX (gx_dt dt_mi_x_E_ground 18 rfl) rfl ?_
          refine gx_bipush hX (v := (-6)) (gx_dt dt_mi_x_E_ground 19 rfl) (by decide) ?_
          obtain ⟨r7, e_r7, h⟩ := gx_bd h
          refine gx_callVi hX (gx_dt dt_mi_x_E_ground 20 rfl) ln_E_69_x_E_refuse mo_x_E_refuse mv_x_E_refuse (gx_rmb rfl) sh_x_0 ⟨_, _, rfl⟩ rfl (k_x_E_refuse e_r7) rfl rfl (Nat.le_of_ble_eq_true rfl) ?_
          obtain rfl := Option.some.inj h
          exact gx_iret hX (gx_dt dt_mi_x_E_ground 21 rfl) rfl hres hwr
      · have h := gx_ifn c4 h
        refine gx_aload_n hX (gx_dt dt_mi_x_E_ground 11 rfl) rfl ?_
        refine gx_bipush hX (v := (-4)) (gx_dt dt_mi_x_E_ground 12 rfl) (by decide) ?_
        obtain ⟨r8, e_r8, h⟩ := gx_bd h
        refine gx_callVi hX (gx_dt dt_mi_x_E_ground 13 rfl) ln_E_69_x_E_refuse mo_x_E_refuse mv_x_E_refuse (gx_rmb rfl) sh_x_0 ⟨_, _, rfl⟩ rfl (k_x_E_refuse e_r8) rfl rfl (Nat.le_of_ble_eq_true rfl) ?_
        obtain rfl := Option.some.inj h
        exact gx_iret hX (gx_dt dt_mi_x_E_ground 14 rfl) rfl hres hwr
    · have h := gx_ifn c3 h
      refine gx_aload_n hX (gx_dt dt_mi_x_E_ground 5 rfl) rfl ?_
      refine gx_iconst hX (v := (-1)) (gx_dt dt_mi_x_E_ground 6 rfl) (by decide) ?_
      obtain ⟨r9, e_r9, h⟩ := gx_bd h
      refine gx_callVi hX (gx_dt dt_mi_x_E_ground 7 rfl) ln_E_69_x_E_refuse mo_x_E_refuse mv_x_E_refuse (gx_rmb rfl) sh_x_0 ⟨_, _, rfl⟩ rfl (k_x_E_refuse e_r9) rfl rfl (Nat.le_of_ble_eq_true rfl) ?_
      obtain rfl := Option.some.inj h
      exact gx_iret hX (gx_dt dt_mi_x_E_ground 8 rfl) rfl hres hwr
-- EachBearsPillar.level(I)I
def x_E_level (a1 : Int32) (w : gx_Wd) : Option (Int32 × gx_Wd) :=
  if 0 ≤ a1 then
    if a1 < 28 then
      (gx_put w 1 2 a1).bind fun w3 =>
      some (w 1 2, w3)
    else
    (x_E_refuse (-6) w).bind fun r4 =>
    some (r4.1, r4.2)
  else
  (x_E_refuse (-4) w).bind fun r5 =>
  some (r5.1, r5.2)
theorem k_x_E_level {a1 : Int32} {w : gx_Wd} {R : Int32 × gx_Wd} (h : x_E_level a1 w = some R) : gx_MT mi_x_E_level [.inr 0, .inl a1] w (some (.inl R.1)) R.2 := by
  refine gx_met (by decide +kernel) (Nat.le_of_ble_eq_true rfl) (fun X hX hres hwr => ?_)
  show gx_G X mi_x_E_level 0 [some (.inr 0), some (.inl a1)] [] w
  rw [x_E_level] at h
  refine gx_iload_n hX (gx_dt dt_mi_x_E_level 0 rfl) rfl ?_
  refine gx_if_ge hX (tgt := 11) (gx_dt dt_mi_x_E_level 1 rfl) (by decide) (fun c1 => ?_) (fun c1 => ?_)
  · have h := gx_ifp c1 h
    refine gx_iload_n hX (gx_dt dt_mi_x_E_level 6 rfl) rfl ?_
    refine gx_bipush hX (v := 28) (gx_dt dt_mi_x_E_level 7 rfl) (by decide) ?_
    refine gx_ic_lt hX (tgt := 24) (gx_dt dt_mi_x_E_level 8 rfl) (by decide) (fun c2 => ?_) (fun c2 => ?_)
    · have h := gx_ifp c2 h
      refine gx_aload_n hX (gx_dt dt_mi_x_E_level 13 rfl) rfl ?_
      refine gx_getr hX fl_E_10 sh_x_0 rfl (gx_dt dt_mi_x_E_level 14 rfl) ?_
      refine gx_geti hX fl_E_100 sh_x_1 rfl (gx_dt dt_mi_x_E_level 15 rfl) ?_
      refine gx_istore_n hX (ls' := [some (.inr 0), some (.inl a1), some (.inl (w 1 2))]) (gx_dt dt_mi_x_E_level 16 rfl) (by decide) rfl ?_
      refine gx_aload_n hX (gx_dt dt_mi_x_E_level 17 rfl) rfl ?_
      refine gx_getr hX fl_E_10 sh_x_0 rfl (gx_dt dt_mi_x_E_level 18 rfl) ?_
      refine gx_iload_n hX (gx_dt dt_mi_x_E_level 19 rfl) rfl ?_
      obtain ⟨w3, e_w3, h⟩ := gx_bd h
      refine gx_putp hX fl_E_100 (pf_R_2 _) sh_x_1 rfl e_w3 (gx_dt dt_mi_x_E_level 20 rfl) ?_
      refine gx_iload_n hX (gx_dt dt_mi_x_E_level 21 rfl) rfl ?_
      obtain rfl := Option.some.inj h
      exact gx_iret hX (gx_dt dt_mi_x_E_level 22 rfl) rfl hres hwr
    · have h := gx_ifn c2 h
      refine gx_aload_n hX (gx_dt dt_mi_x_E_level 9 rfl) rfl ?_
      refine gx_bipush hX (v := (-6)) (gx_dt dt_mi_x_E_level 10 rfl) (by decide) ?_
      obtain ⟨r4, e_r4, h⟩ := gx_bd h
      refine gx_callVi hX (gx_dt dt_mi_x_E_level 11 rfl) ln_E_69_x_E_refuse mo_x_E_refuse mv_x_E_refuse (gx_rmb rfl) sh_x_0 ⟨_, _, rfl⟩ rfl (k_x_E_refuse e_r4) rfl rfl (Nat.le_of_ble_eq_true rfl) ?_
      obtain rfl := Option.some.inj h
      exact gx_iret hX (gx_dt dt_mi_x_E_level 12 rfl) rfl hres hwr
  · have h := gx_ifn c1 h
    refine gx_aload_n hX (gx_dt dt_mi_x_E_level 2 rfl) rfl ?_
    refine gx_bipush hX (v := (-4)) (gx_dt dt_mi_x_E_level 3 rfl) (by decide) ?_
    obtain ⟨r5, e_r5, h⟩ := gx_bd h
    refine gx_callVi hX (gx_dt dt_mi_x_E_level 4 rfl) ln_E_69_x_E_refuse mo_x_E_refuse mv_x_E_refuse (gx_rmb rfl) sh_x_0 ⟨_, _, rfl⟩ rfl (k_x_E_refuse e_r5) rfl rfl (Nat.le_of_ble_eq_true rfl) ?_
    obtain rfl := Option.some.inj h
    exact gx_iret hX (gx_dt dt_mi_x_E_level 5 rfl) rfl hres hwr
-- EachBearsPillar$Roof.hasBearer(I)Z
def x_R_hasBearer_1 (a1 : Int32) (w : gx_Wd) : Option (Int32 × gx_Wd) :=
  if a1 < 0 then
    some (0, w)
  else
  if w 1 0 ≤ a1 then
    some (0, w)
  else
  some (1, w)
theorem k_x_R_hasBearer_1 {a1 : Int32} {w : gx_Wd} {R : Int32 × gx_Wd} (h : x_R_hasBearer_1 a1 w = some R) : gx_MT mi_x_R_hasBearer_1 [.inr 1, .inl a1] w (some (.inl R.1)) R.2 := by
  refine gx_met (by decide +kernel) (Nat.le_of_ble_eq_true rfl) (fun X hX hres hwr => ?_)
  show gx_G X mi_x_R_hasBearer_1 0 [some (.inr 1), some (.inl a1)] [] w
  rw [x_R_hasBearer_1] at h
  refine gx_iload_n hX (gx_dt dt_mi_x_R_hasBearer_1 0 rfl) rfl ?_
  refine gx_if_lt hX (tgt := 16) (gx_dt dt_mi_x_R_hasBearer_1 1 rfl) (by decide) (fun c1 => ?_) (fun c1 => ?_)
  · have h := gx_ifp c1 h
    refine gx_iconst hX (v := 0) (gx_dt dt_mi_x_R_hasBearer_1 8 rfl) (by decide) ?_
    obtain rfl := Option.some.inj h
    exact gx_zret hX (gx_dt dt_mi_x_R_hasBearer_1 9 rfl) rfl rfl hres hwr
  · have h := gx_ifn c1 h
    refine gx_iload_n hX (gx_dt dt_mi_x_R_hasBearer_1 2 rfl) rfl ?_
    refine gx_aload_n hX (gx_dt dt_mi_x_R_hasBearer_1 3 rfl) rfl ?_
    refine gx_geti hX fl_R_9 sh_x_1 rfl (gx_dt dt_mi_x_R_hasBearer_1 4 rfl) ?_
    refine gx_ic_ge hX (tgt := 16) (gx_dt dt_mi_x_R_hasBearer_1 5 rfl) (by decide) (fun c2 => ?_) (fun c2 => ?_)
    · have h := gx_ifp c2 h
      refine gx_iconst hX (v := 0) (gx_dt dt_mi_x_R_hasBearer_1 8 rfl) (by decide) ?_
      obtain rfl := Option.some.inj h
      exact gx_zret hX (gx_dt dt_mi_x_R_hasBearer_1 9 rfl) rfl rfl hres hwr
    · have h := gx_ifn c2 h
      refine gx_iconst hX (v := 1) (gx_dt dt_mi_x_R_hasBearer_1 6 rfl) (by decide) ?_
      refine gx_goto hX (tgt := 17) (gx_dt dt_mi_x_R_hasBearer_1 7 rfl) (by decide) ?_
      obtain rfl := Option.some.inj h
      exact gx_zret hX (gx_dt dt_mi_x_R_hasBearer_1 9 rfl) rfl rfl hres hwr
-- EachBearsPillar.block(II)I
def x_E_block (a1 : Int32) (a2 : Int32) (w : gx_Wd) : Option (Int32 × gx_Wd) :=
  (x_R_hasBearer_1 a1 w).bind fun r1 =>
  if r1.1 = 0 then
    (x_E_refuse (-1) r1.2).bind fun r8 =>
    some (r8.1, r8.2)
  else
    if 0 ≤ a2 then
      if a2 ≤ 9 then
        (x_E_exchange 5 a1 a2 r1.2).bind fun r5 =>
        some (r5.1, r5.2)
      else
      (x_E_refuse (-6) r1.2).bind fun r6 =>
      some (r6.1, r6.2)
    else
    (x_E_refuse (-4) r1.2).bind fun r7 =>
    some (r7.1, r7.2)
theorem k_x_E_block {a1 : Int32} {a2 : Int32} {w : gx_Wd} {R : Int32 × gx_Wd} (h : x_E_block a1 a2 w = some R) : gx_MT mi_x_E_block [.inr 0, .inl a1, .inl a2] w (some (.inl R.1)) R.2 := by
  refine gx_met (by decide +kernel) (Nat.le_of_ble_eq_true rfl) (fun X hX hres hwr => ?_)
  show gx_G X mi_x_E_block 0 [some (.inr 0), some (.inl a1), some (.inl a2)] [] w
  rw [x_E_block] at h
  refine gx_aload_n hX (gx_dt dt_mi_x_E_block 0 rfl) rfl ?_
  refine gx_getr hX fl_E_10 sh_x_0 rfl (gx_dt dt_mi_x_E_block 1 rfl) ?_
  refine gx_iload_n hX (gx_dt dt_mi_x_E_block 2 rfl) rfl ?_
  obtain ⟨r1, e_r1, h⟩ := gx_bd h
  refine gx_callVi hX (gx_dt dt_mi_x_E_block 3 rfl) ln_E_103_x_R_hasBearer_1 mo_x_R_hasBearer_1 mv_x_R_hasBearer_1 (gx_rmb rfl) sh_x_1 ⟨_, _, rfl⟩ rfl (k_x_R_hasBearer_1 e_r1) rfl rfl (Nat.le_of_ble_eq_true rfl) ?_
  refine gx_if_ne hX (tgt := 17) (gx_dt dt_mi_x_E_block 4 rfl) (by decide) (fun c2 => ?_) (fun c2 => ?_)
  · have h := gx_ifn c2 h
    refine gx_iload_n hX (gx_dt dt_mi_x_E_block 9 rfl) rfl ?_
    refine gx_if_ge hX (tgt := 28) (gx_dt dt_mi_x_E_block 10 rfl) (by decide) (fun c3 => ?_) (fun c3 => ?_)
    · have h := gx_ifp c3 h
      refine gx_iload_n hX (gx_dt dt_mi_x_E_block 15 rfl) rfl ?_
      refine gx_bipush hX (v := 9) (gx_dt dt_mi_x_E_block 16 rfl) (by decide) ?_
      refine gx_ic_le hX (tgt := 41) (gx_dt dt_mi_x_E_block 17 rfl) (by decide) (fun c4 => ?_) (fun c4 => ?_)
      · have h := gx_ifp c4 h
        refine gx_aload_n hX (gx_dt dt_mi_x_E_block 22 rfl) rfl ?_
        refine gx_getr hX fl_E_10 sh_x_0 rfl (gx_dt dt_mi_x_E_block 23 rfl) ?_
        refine gx_getr hX fl_E_106 sh_x_1 rfl (gx_dt dt_mi_x_E_block 24 rfl) ?_
        refine gx_iload_n hX (gx_dt dt_mi_x_E_block 25 rfl) rfl ?_
        refine gx_iload_n hX (gx_dt dt_mi_x_E_block 26 rfl) rfl ?_
        obtain ⟨r5, e_r5, h⟩ := gx_bd h
        refine gx_callSi hX (gx_dt dt_mi_x_E_block 27 rfl) ln_E_93_x_E_exchange mo_x_E_exchange ms_x_E_exchange (gx_rmb rfl) rfl (k_x_E_exchange e_r5) rfl rfl (Nat.le_of_ble_eq_true rfl) ?_
        obtain rfl := Option.some.inj h
        exact gx_iret hX (gx_dt dt_mi_x_E_block 28 rfl) rfl hres hwr
      · have h := gx_ifn c4 h
        refine gx_aload_n hX (gx_dt dt_mi_x_E_block 18 rfl) rfl ?_
        refine gx_bipush hX (v := (-6)) (gx_dt dt_mi_x_E_block 19 rfl) (by decide) ?_
        obtain ⟨r6, e_r6, h⟩ := gx_bd h
        refine gx_callVi hX (gx_dt dt_mi_x_E_block 20 rfl) ln_E_69_x_E_refuse mo_x_E_refuse mv_x_E_refuse (gx_rmb rfl) sh_x_0 ⟨_, _, rfl⟩ rfl (k_x_E_refuse e_r6) rfl rfl (Nat.le_of_ble_eq_true rfl) ?_
        obtain rfl := Option.some.inj h
        exact gx_iret hX (gx_dt dt_mi_x_E_block 21 rfl) rfl hres hwr
    · have h := gx_ifn c3 h
      refine gx_aload_n hX (gx_dt dt_mi_x_E_block 11 rfl) rfl ?_
      refine gx_bipush hX (v := (-4)) (gx_dt dt_mi_x_E_block 12 rfl) (by decide) ?_
      obtain ⟨r7, e_r7, h⟩ := gx_bd h
      refine gx_callVi hX (gx_dt dt_mi_x_E_block 13 rfl) ln_E_69_x_E_refuse mo_x_E_refuse mv_x_E_refuse (gx_rmb rfl) sh_x_0 ⟨_, _, rfl⟩ rfl (k_x_E_refuse e_r7) rfl rfl (Nat.le_of_ble_eq_true rfl) ?_
      obtain rfl := Option.some.inj h
      exact gx_iret hX (gx_dt dt_mi_x_E_block 14 rfl) rfl hres hwr
  · have h := gx_ifp c2 h
    refine gx_aload_n hX (gx_dt dt_mi_x_E_block 5 rfl) rfl ?_
    refine gx_iconst hX (v := (-1)) (gx_dt dt_mi_x_E_block 6 rfl) (by decide) ?_
    obtain ⟨r8, e_r8, h⟩ := gx_bd h
    refine gx_callVi hX (gx_dt dt_mi_x_E_block 7 rfl) ln_E_69_x_E_refuse mo_x_E_refuse mv_x_E_refuse (gx_rmb rfl) sh_x_0 ⟨_, _, rfl⟩ rfl (k_x_E_refuse e_r8) rfl rfl (Nat.le_of_ble_eq_true rfl) ?_
    obtain rfl := Option.some.inj h
    exact gx_iret hX (gx_dt dt_mi_x_E_block 8 rfl) rfl hres hwr
-- EachBearsPillar$Roof.lastAt()I
def x_R_lastAt_1 (w : gx_Wd) : Option (Int32 × gx_Wd) :=
  if w 1 0 ≤ 1 then
    some (15, w)
  else
  some (16 - (w 1 0), w)
theorem k_x_R_lastAt_1 {w : gx_Wd} {R : Int32 × gx_Wd} (h : x_R_lastAt_1 w = some R) : gx_MT mi_x_R_lastAt_1 [.inr 1] w (some (.inl R.1)) R.2 := by
  refine gx_met (by decide +kernel) (Nat.le_of_ble_eq_true rfl) (fun X hX hres hwr => ?_)
  show gx_G X mi_x_R_lastAt_1 0 [some (.inr 1)] [] w
  rw [x_R_lastAt_1] at h
  refine gx_aload_n hX (gx_dt dt_mi_x_R_lastAt_1 0 rfl) rfl ?_
  refine gx_geti hX fl_R_9 sh_x_1 rfl (gx_dt dt_mi_x_R_lastAt_1 1 rfl) ?_
  refine gx_iconst hX (v := 1) (gx_dt dt_mi_x_R_lastAt_1 2 rfl) (by decide) ?_
  refine gx_ic_le hX (tgt := 18) (gx_dt dt_mi_x_R_lastAt_1 3 rfl) (by decide) (fun c1 => ?_) (fun c1 => ?_)
  · have h := gx_ifp c1 h
    refine gx_bipush hX (v := 15) (gx_dt dt_mi_x_R_lastAt_1 9 rfl) (by decide) ?_
    obtain rfl := Option.some.inj h
    exact gx_iret hX (gx_dt dt_mi_x_R_lastAt_1 10 rfl) rfl hres hwr
  · have h := gx_ifn c1 h
    refine gx_bipush hX (v := 16) (gx_dt dt_mi_x_R_lastAt_1 4 rfl) (by decide) ?_
    refine gx_aload_n hX (gx_dt dt_mi_x_R_lastAt_1 5 rfl) rfl ?_
    refine gx_geti hX fl_R_9 sh_x_1 rfl (gx_dt dt_mi_x_R_lastAt_1 6 rfl) ?_
    refine gx_isub hX (gx_dt dt_mi_x_R_lastAt_1 7 rfl) ?_
    refine gx_goto hX (tgt := 20) (gx_dt dt_mi_x_R_lastAt_1 8 rfl) (by decide) ?_
    obtain rfl := Option.some.inj h
    exact gx_iret hX (gx_dt dt_mi_x_R_lastAt_1 10 rfl) rfl hres hwr
-- EachBearsPillar.at(I)I
def x_E_at (a1 : Int32) (w : gx_Wd) : Option (Int32 × gx_Wd) :=
  if 0 ≤ a1 then
    (x_R_lastAt_1 w).bind fun r2 =>
    if a1 ≤ r2.1 then
      (gx_put r2.2 1 1 a1).bind fun w4 =>
      some (r2.2 1 1, w4)
    else
    (x_E_refuse (-6) r2.2).bind fun r5 =>
    some (r5.1, r5.2)
  else
  (x_E_refuse (-4) w).bind fun r6 =>
  some (r6.1, r6.2)
theorem k_x_E_at {a1 : Int32} {w : gx_Wd} {R : Int32 × gx_Wd} (h : x_E_at a1 w = some R) : gx_MT mi_x_E_at [.inr 0, .inl a1] w (some (.inl R.1)) R.2 := by
  refine gx_met (by decide +kernel) (Nat.le_of_ble_eq_true rfl) (fun X hX hres hwr => ?_)
  show gx_G X mi_x_E_at 0 [some (.inr 0), some (.inl a1)] [] w
  rw [x_E_at] at h
  refine gx_iload_n hX (gx_dt dt_mi_x_E_at 0 rfl) rfl ?_
  refine gx_if_ge hX (tgt := 11) (gx_dt dt_mi_x_E_at 1 rfl) (by decide) (fun c1 => ?_) (fun c1 => ?_)
  · have h := gx_ifp c1 h
    refine gx_iload_n hX (gx_dt dt_mi_x_E_at 6 rfl) rfl ?_
    refine gx_aload_n hX (gx_dt dt_mi_x_E_at 7 rfl) rfl ?_
    refine gx_getr hX fl_E_10 sh_x_0 rfl (gx_dt dt_mi_x_E_at 8 rfl) ?_
    obtain ⟨r2, e_r2, h⟩ := gx_bd h
    refine gx_callVi hX (gx_dt dt_mi_x_E_at 9 rfl) ln_E_109_x_R_lastAt_1 mo_x_R_lastAt_1 mv_x_R_lastAt_1 (gx_rmb rfl) sh_x_1 ⟨_, _, rfl⟩ rfl (k_x_R_lastAt_1 e_r2) rfl rfl (Nat.le_of_ble_eq_true rfl) ?_
    refine gx_ic_le hX (tgt := 29) (gx_dt dt_mi_x_E_at 10 rfl) (by decide) (fun c3 => ?_) (fun c3 => ?_)
    · have h := gx_ifp c3 h
      refine gx_aload_n hX (gx_dt dt_mi_x_E_at 15 rfl) rfl ?_
      refine gx_getr hX fl_E_10 sh_x_0 rfl (gx_dt dt_mi_x_E_at 16 rfl) ?_
      refine gx_geti hX fl_E_112 sh_x_1 rfl (gx_dt dt_mi_x_E_at 17 rfl) ?_
      refine gx_istore_n hX (ls' := [some (.inr 0), some (.inl a1), some (.inl (r2.2 1 1))]) (gx_dt dt_mi_x_E_at 18 rfl) (by decide) rfl ?_
      refine gx_aload_n hX (gx_dt dt_mi_x_E_at 19 rfl) rfl ?_
      refine gx_getr hX fl_E_10 sh_x_0 rfl (gx_dt dt_mi_x_E_at 20 rfl) ?_
      refine gx_iload_n hX (gx_dt dt_mi_x_E_at 21 rfl) rfl ?_
      obtain ⟨w4, e_w4, h⟩ := gx_bd h
      refine gx_putp hX fl_E_112 (pf_R_1 _) sh_x_1 rfl e_w4 (gx_dt dt_mi_x_E_at 22 rfl) ?_
      refine gx_iload_n hX (gx_dt dt_mi_x_E_at 23 rfl) rfl ?_
      obtain rfl := Option.some.inj h
      exact gx_iret hX (gx_dt dt_mi_x_E_at 24 rfl) rfl hres hwr
    · have h := gx_ifn c3 h
      refine gx_aload_n hX (gx_dt dt_mi_x_E_at 11 rfl) rfl ?_
      refine gx_bipush hX (v := (-6)) (gx_dt dt_mi_x_E_at 12 rfl) (by decide) ?_
      obtain ⟨r5, e_r5, h⟩ := gx_bd h
      refine gx_callVi hX (gx_dt dt_mi_x_E_at 13 rfl) ln_E_69_x_E_refuse mo_x_E_refuse mv_x_E_refuse (gx_rmb rfl) sh_x_0 ⟨_, _, rfl⟩ rfl (k_x_E_refuse e_r5) rfl rfl (Nat.le_of_ble_eq_true rfl) ?_
      obtain rfl := Option.some.inj h
      exact gx_iret hX (gx_dt dt_mi_x_E_at 14 rfl) rfl hres hwr
  · have h := gx_ifn c1 h
    refine gx_aload_n hX (gx_dt dt_mi_x_E_at 2 rfl) rfl ?_
    refine gx_bipush hX (v := (-4)) (gx_dt dt_mi_x_E_at 3 rfl) (by decide) ?_
    obtain ⟨r6, e_r6, h⟩ := gx_bd h
    refine gx_callVi hX (gx_dt dt_mi_x_E_at 4 rfl) ln_E_69_x_E_refuse mo_x_E_refuse mv_x_E_refuse (gx_rmb rfl) sh_x_0 ⟨_, _, rfl⟩ rfl (k_x_E_refuse e_r6) rfl rfl (Nat.le_of_ble_eq_true rfl) ?_
    obtain rfl := Option.some.inj h
    exact gx_iret hX (gx_dt dt_mi_x_E_at 5 rfl) rfl hres hwr
-- EachBearsPillar$Mind.asTold()V
def x_M_asTold_61 (w : gx_Wd) : Option (gx_Wd) :=
  (x_E_copyCells 6 25 w).bind fun r1 =>
  some r1
def x_M_asTold_29 : Nat → Int32 → gx_Wd → Option (gx_Wd)
  | 0, _, _ => none
  | n + 1, b1, w =>
  if 7 ≤ b1 then
    x_M_asTold_61 w
  else
  (x_E_setCell 23 b1 b1 w).bind fun r2 =>
  (x_E_setCell 24 b1 0 r2.2).bind fun r3 =>
  (some (b1 + 1)).bind fun v4 =>
  (x_M_asTold_29 n) v4 r3.2
def x_M_asTold (w : gx_Wd) : Option (gx_Wd) :=
  (gx_put w 22 1 (w 1 1)).bind fun w1 =>
  (gx_put w1 22 2 (w1 1 2)).bind fun w2 =>
  (gx_put w2 22 3 0).bind fun w3 =>
  x_M_asTold_29 6000 0 w3
theorem t_x_M_asTold_61 {X : gx_X} (hX : gx_Ok X mi_x_M_asTold) {R : gx_Wd} (hres : gx_res X = none) (hwr : gx_wr X = R) (w : gx_Wd) (h : x_M_asTold_61 w = some R) : gx_G X mi_x_M_asTold 61 [some (.inr 22)] [] w := by
  rw [x_M_asTold_61] at h
  refine gx_aload_n hX (gx_dt dt_mi_x_M_asTold 32 rfl) rfl ?_
  refine gx_getr hX fl_M_9 sh_x_22 rfl (gx_dt dt_mi_x_M_asTold 33 rfl) ?_
  refine gx_getr hX fl_M_52 sh_x_1 rfl (gx_dt dt_mi_x_M_asTold 34 rfl) ?_
  refine gx_aload_n hX (gx_dt dt_mi_x_M_asTold 35 rfl) rfl ?_
  refine gx_getr hX fl_M_32 sh_x_22 rfl (gx_dt dt_mi_x_M_asTold 36 rfl) ?_
  obtain ⟨r1, e_r1, h⟩ := gx_bd h
  refine gx_callSv hX (gx_dt dt_mi_x_M_asTold 37 rfl) ln_M_53_x_E_copyCells mo_x_E_copyCells ms_x_E_copyCells (gx_rmb rfl) rfl (k_x_E_copyCells e_r1) rfl rfl (Nat.le_of_ble_eq_true rfl) ?_
  obtain rfl := Option.some.inj h
  exact gx_vret hX (gx_dt dt_mi_x_M_asTold 38 rfl) rfl hres hwr
theorem t_x_M_asTold_29 {X : gx_X} (hX : gx_Ok X mi_x_M_asTold) {R : gx_Wd} (hres : gx_res X = none) (hwr : gx_wr X = R) : ∀ (n : Nat) (b1 : Int32) (w : gx_Wd), x_M_asTold_29 n b1 w = some R → gx_G X mi_x_M_asTold 29 [some (.inr 22), some (.inl b1)] [] w := by
  intro n
  induction n with
  | zero => intro b1 w h; rw [x_M_asTold_29] at h; cases h
  | succ n ih =>
    intro b1 w h
    rw [x_M_asTold_29] at h
    refine gx_iload_n hX (gx_dt dt_mi_x_M_asTold 15 rfl) rfl ?_
    refine gx_bipush hX (v := 7) (gx_dt dt_mi_x_M_asTold 16 rfl) (by decide) ?_
    refine gx_ic_ge hX (tgt := 61) (gx_dt dt_mi_x_M_asTold 17 rfl) (by decide) (fun c1 => ?_) (fun c1 => ?_)
    · have h := gx_ifp c1 h
      exact gx_weak (gx_leS gx_le0) (t_x_M_asTold_61 hX hres hwr _ h)
    · have h := gx_ifn c1 h
      refine gx_aload_n hX (gx_dt dt_mi_x_M_asTold 18 rfl) rfl ?_
      refine gx_getr hX fl_M_25 sh_x_22 rfl (gx_dt dt_mi_x_M_asTold 19 rfl) ?_
      refine gx_iload_n hX (gx_dt dt_mi_x_M_asTold 20 rfl) rfl ?_
      refine gx_iload_n hX (gx_dt dt_mi_x_M_asTold 21 rfl) rfl ?_
      obtain ⟨r2, e_r2, h⟩ := gx_bd h
      refine gx_callSi hX (gx_dt dt_mi_x_M_asTold 22 rfl) ln_M_48_x_E_setCell mo_x_E_setCell ms_x_E_setCell (gx_rmb rfl) rfl (k_x_E_setCell e_r2) rfl rfl (Nat.le_of_ble_eq_true rfl) ?_
      refine gx_pop hX (gx_dt dt_mi_x_M_asTold 23 rfl) ?_
      refine gx_aload_n hX (gx_dt dt_mi_x_M_asTold 24 rfl) rfl ?_
      refine gx_getr hX fl_M_29 sh_x_22 rfl (gx_dt dt_mi_x_M_asTold 25 rfl) ?_
      refine gx_iload_n hX (gx_dt dt_mi_x_M_asTold 26 rfl) rfl ?_
      refine gx_iconst hX (v := 0) (gx_dt dt_mi_x_M_asTold 27 rfl) (by decide) ?_
      obtain ⟨r3, e_r3, h⟩ := gx_bd h
      refine gx_callSi hX (gx_dt dt_mi_x_M_asTold 28 rfl) ln_M_48_x_E_setCell mo_x_E_setCell ms_x_E_setCell (gx_rmb rfl) rfl (k_x_E_setCell e_r3) rfl rfl (Nat.le_of_ble_eq_true rfl) ?_
      refine gx_pop hX (gx_dt dt_mi_x_M_asTold 29 rfl) ?_
      obtain ⟨v4, e_v4, h⟩ := gx_bd h
      refine gx_iinc hX (v := v4) (ls' := [some (.inr 22), some (.inl v4)]) (gx_dt dt_mi_x_M_asTold 30 rfl) rfl (gx_ii e_v4 (by decide)) (by decide) rfl ?_
      refine gx_goto hX (tgt := 29) (gx_dt dt_mi_x_M_asTold 31 rfl) (by decide) ?_
      exact gx_weak (gx_leS (gx_leS gx_le0)) (ih _ _ h)
theorem k_x_M_asTold {w : gx_Wd} {R : gx_Wd} (h : x_M_asTold w = some R) : gx_MT mi_x_M_asTold [.inr 22] w none R := by
  refine gx_met (by decide +kernel) (Nat.le_of_ble_eq_true rfl) (fun X hX hres hwr => ?_)
  show gx_G X mi_x_M_asTold 0 [some (.inr 22)] [] w
  rw [x_M_asTold] at h
  refine gx_aload_n hX (gx_dt dt_mi_x_M_asTold 0 rfl) rfl ?_
  refine gx_aload_n hX (gx_dt dt_mi_x_M_asTold 1 rfl) rfl ?_
  refine gx_getr hX fl_M_9 sh_x_22 rfl (gx_dt dt_mi_x_M_asTold 2 rfl) ?_
  refine gx_geti hX fl_M_44 sh_x_1 rfl (gx_dt dt_mi_x_M_asTold 3 rfl) ?_
  obtain ⟨w1, e_w1, h⟩ := gx_bd h
  refine gx_putp hX fl_M_15 (pf_M_1 _) sh_x_22 rfl e_w1 (gx_dt dt_mi_x_M_asTold 4 rfl) ?_
  refine gx_aload_n hX (gx_dt dt_mi_x_M_asTold 5 rfl) rfl ?_
  refine gx_aload_n hX (gx_dt dt_mi_x_M_asTold 6 rfl) rfl ?_
  refine gx_getr hX fl_M_9 sh_x_22 rfl (gx_dt dt_mi_x_M_asTold 7 rfl) ?_
  refine gx_geti hX fl_M_47 sh_x_1 rfl (gx_dt dt_mi_x_M_asTold 8 rfl) ?_
  obtain ⟨w2, e_w2, h⟩ := gx_bd h
  refine gx_putp hX fl_M_19 (pf_M_2 _) sh_x_22 rfl e_w2 (gx_dt dt_mi_x_M_asTold 9 rfl) ?_
  refine gx_aload_n hX (gx_dt dt_mi_x_M_asTold 10 rfl) rfl ?_
  refine gx_iconst hX (v := 0) (gx_dt dt_mi_x_M_asTold 11 rfl) (by decide) ?_
  obtain ⟨w3, e_w3, h⟩ := gx_bd h
  refine gx_putp hX fl_M_22 (pf_M_3 _) sh_x_22 rfl e_w3 (gx_dt dt_mi_x_M_asTold 12 rfl) ?_
  refine gx_iconst hX (v := 0) (gx_dt dt_mi_x_M_asTold 13 rfl) (by decide) ?_
  refine gx_istore_n hX (ls' := [some (.inr 22), some (.inl (0))]) (gx_dt dt_mi_x_M_asTold 14 rfl) (by decide) rfl ?_
  exact gx_weak (gx_leS (gx_leS gx_le0)) (t_x_M_asTold_29 hX hres hwr _ _ _ h)
-- EachBearsPillar$Mind.topOf(II)I
def x_M_topOf (a1 : Int32) (a2 : Int32) (w : gx_Wd) : Option (Int32 × gx_Wd) :=
  (x_E_cell 7 ((w 22 1) + a2) w).bind fun r1 =>
  (x_E_cell 4 a1 r1.2).bind fun r2 =>
  (x_E_cell 5 a1 r2.2).bind fun r3 =>
  (x_E_cell 24 a1 r3.2).bind fun r4 =>
  some (((r1.1 + r2.1) + r3.1) + r4.1, r4.2)
theorem k_x_M_topOf {a1 : Int32} {a2 : Int32} {w : gx_Wd} {R : Int32 × gx_Wd} (h : x_M_topOf a1 a2 w = some R) : gx_MT mi_x_M_topOf [.inr 22, .inl a1, .inl a2] w (some (.inl R.1)) R.2 := by
  refine gx_met (by decide +kernel) (Nat.le_of_ble_eq_true rfl) (fun X hX hres hwr => ?_)
  show gx_G X mi_x_M_topOf 0 [some (.inr 22), some (.inl a1), some (.inl a2)] [] w
  rw [x_M_topOf] at h
  refine gx_aload_n hX (gx_dt dt_mi_x_M_topOf 0 rfl) rfl ?_
  refine gx_getr hX fl_M_9 sh_x_22 rfl (gx_dt dt_mi_x_M_topOf 1 rfl) ?_
  refine gx_getr hX fl_M_57 sh_x_1 rfl (gx_dt dt_mi_x_M_topOf 2 rfl) ?_
  refine gx_aload_n hX (gx_dt dt_mi_x_M_topOf 3 rfl) rfl ?_
  refine gx_geti hX fl_M_15 sh_x_22 rfl (gx_dt dt_mi_x_M_topOf 4 rfl) ?_
  refine gx_iload_n hX (gx_dt dt_mi_x_M_topOf 5 rfl) rfl ?_
  refine gx_iadd hX (gx_dt dt_mi_x_M_topOf 6 rfl) ?_
  obtain ⟨r1, e_r1, h⟩ := gx_bd h
  refine gx_callSi hX (gx_dt dt_mi_x_M_topOf 7 rfl) ln_M_60_x_E_cell mo_x_E_cell ms_x_E_cell (gx_rmb rfl) rfl (k_x_E_cell e_r1) rfl rfl (Nat.le_of_ble_eq_true rfl) ?_
  refine gx_aload_n hX (gx_dt dt_mi_x_M_topOf 8 rfl) rfl ?_
  refine gx_getr hX fl_M_9 sh_x_22 rfl (gx_dt dt_mi_x_M_topOf 9 rfl) ?_
  refine gx_getr hX fl_M_64 sh_x_1 rfl (gx_dt dt_mi_x_M_topOf 10 rfl) ?_
  refine gx_iload_n hX (gx_dt dt_mi_x_M_topOf 11 rfl) rfl ?_
  obtain ⟨r2, e_r2, h⟩ := gx_bd h
  refine gx_callSi hX (gx_dt dt_mi_x_M_topOf 12 rfl) ln_M_60_x_E_cell mo_x_E_cell ms_x_E_cell (gx_rmb rfl) rfl (k_x_E_cell e_r2) rfl rfl (Nat.le_of_ble_eq_true rfl) ?_
  refine gx_iadd hX (gx_dt dt_mi_x_M_topOf 13 rfl) ?_
  refine gx_aload_n hX (gx_dt dt_mi_x_M_topOf 14 rfl) rfl ?_
  refine gx_getr hX fl_M_9 sh_x_22 rfl (gx_dt dt_mi_x_M_topOf 15 rfl) ?_
  refine gx_getr hX fl_M_67 sh_x_1 rfl (gx_dt dt_mi_x_M_topOf 16 rfl) ?_
  refine gx_iload_n hX (gx_dt dt_mi_x_M_topOf 17 rfl) rfl ?_
  obtain ⟨r3, e_r3, h⟩ := gx_bd h
  refine gx_callSi hX (gx_dt dt_mi_x_M_topOf 18 rfl) ln_M_60_x_E_cell mo_x_E_cell ms_x_E_cell (gx_rmb rfl) rfl (k_x_E_cell e_r3) rfl rfl (Nat.le_of_ble_eq_true rfl) ?_
  refine gx_iadd hX (gx_dt dt_mi_x_M_topOf 19 rfl) ?_
  refine gx_aload_n hX (gx_dt dt_mi_x_M_topOf 20 rfl) rfl ?_
  refine gx_getr hX fl_M_29 sh_x_22 rfl (gx_dt dt_mi_x_M_topOf 21 rfl) ?_
  refine gx_iload_n hX (gx_dt dt_mi_x_M_topOf 22 rfl) rfl ?_
  obtain ⟨r4, e_r4, h⟩ := gx_bd h
  refine gx_callSi hX (gx_dt dt_mi_x_M_topOf 23 rfl) ln_M_60_x_E_cell mo_x_E_cell ms_x_E_cell (gx_rmb rfl) rfl (k_x_E_cell e_r4) rfl rfl (Nat.le_of_ble_eq_true rfl) ?_
  refine gx_iadd hX (gx_dt dt_mi_x_M_topOf 24 rfl) ?_
  obtain rfl := Option.some.inj h
  exact gx_iret hX (gx_dt dt_mi_x_M_topOf 25 rfl) rfl hres hwr
