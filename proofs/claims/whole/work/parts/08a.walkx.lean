-- EachBearsPillar.cell([II)I
def x_E_cell (o0 : Nat) (a1 : Int32) (w : gx_Wd) : Option (Int32 × gx_Wd) :=
  if a1 < 0 then
    some (0, w)
  else
  (gx_aln sh_x o0).bind fun v2 =>
  if v2 ≤ a1 then
    some (0, w)
  else
  (gx_ald sh_x w o0 a1).bind fun v4 =>
  some (v4, w)
theorem k_x_E_cell {o0 : Nat} {a1 : Int32} {w : gx_Wd} {R : Int32 × gx_Wd} (h : x_E_cell o0 a1 w = some R) : gx_MT mi_x_E_cell [.inr o0, .inl a1] w (some (.inl R.1)) R.2 := by
  refine gx_met (by decide +kernel) (Nat.le_of_ble_eq_true rfl) (fun X hX hres hwr => ?_)
  show gx_G X mi_x_E_cell 0 [some (.inr o0), some (.inl a1)] [] w
  rw [x_E_cell] at h
  refine gx_aload_n hX (gx_dt dt_mi_x_E_cell 0 rfl) rfl ?_
  refine gx_ifnull hX (gx_dt dt_mi_x_E_cell 1 rfl) ?_
  refine gx_iload_n hX (gx_dt dt_mi_x_E_cell 2 rfl) rfl ?_
  refine gx_if_lt hX (tgt := 20) (gx_dt dt_mi_x_E_cell 3 rfl) (by decide) (fun c1 => ?_) (fun c1 => ?_)
  · have h := gx_ifp c1 h
    refine gx_iconst hX (v := 0) (gx_dt dt_mi_x_E_cell 12 rfl) (by decide) ?_
    obtain rfl := Option.some.inj h
    exact gx_iret hX (gx_dt dt_mi_x_E_cell 13 rfl) rfl hres hwr
  · have h := gx_ifn c1 h
    refine gx_iload_n hX (gx_dt dt_mi_x_E_cell 4 rfl) rfl ?_
    refine gx_aload_n hX (gx_dt dt_mi_x_E_cell 5 rfl) rfl ?_
    obtain ⟨v2, e_v2, h⟩ := gx_bd h
    refine gx_alen hX e_v2 (gx_dt dt_mi_x_E_cell 6 rfl) ?_
    refine gx_ic_ge hX (tgt := 20) (gx_dt dt_mi_x_E_cell 7 rfl) (by decide) (fun c3 => ?_) (fun c3 => ?_)
    · have h := gx_ifp c3 h
      refine gx_iconst hX (v := 0) (gx_dt dt_mi_x_E_cell 12 rfl) (by decide) ?_
      obtain rfl := Option.some.inj h
      exact gx_iret hX (gx_dt dt_mi_x_E_cell 13 rfl) rfl hres hwr
    · have h := gx_ifn c3 h
      refine gx_aload_n hX (gx_dt dt_mi_x_E_cell 8 rfl) rfl ?_
      refine gx_iload_n hX (gx_dt dt_mi_x_E_cell 9 rfl) rfl ?_
      obtain ⟨v4, e_v4, h⟩ := gx_bd h
      refine gx_iald hX e_v4 (gx_dt dt_mi_x_E_cell 10 rfl) ?_
      refine gx_goto hX (tgt := 21) (gx_dt dt_mi_x_E_cell 11 rfl) (by decide) ?_
      obtain rfl := Option.some.inj h
      exact gx_iret hX (gx_dt dt_mi_x_E_cell 13 rfl) rfl hres hwr
-- EachBearsPillar.setCell([III)Z
def x_E_setCell (o0 : Nat) (a1 : Int32) (a2 : Int32) (w : gx_Wd) : Option (Int32 × gx_Wd) :=
  if a1 < 0 then
    some (0, w)
  else
  (gx_aln sh_x o0).bind fun v2 =>
  if a1 < v2 then
    (gx_ast sh_x w o0 a1 a2).bind fun w4 =>
    some (1, w4)
  else
  some (0, w)
theorem k_x_E_setCell {o0 : Nat} {a1 : Int32} {a2 : Int32} {w : gx_Wd} {R : Int32 × gx_Wd} (h : x_E_setCell o0 a1 a2 w = some R) : gx_MT mi_x_E_setCell [.inr o0, .inl a1, .inl a2] w (some (.inl R.1)) R.2 := by
  refine gx_met (by decide +kernel) (Nat.le_of_ble_eq_true rfl) (fun X hX hres hwr => ?_)
  show gx_G X mi_x_E_setCell 0 [some (.inr o0), some (.inl a1), some (.inl a2)] [] w
  rw [x_E_setCell] at h
  refine gx_aload_n hX (gx_dt dt_mi_x_E_setCell 0 rfl) rfl ?_
  refine gx_ifnull hX (gx_dt dt_mi_x_E_setCell 1 rfl) ?_
  refine gx_iload_n hX (gx_dt dt_mi_x_E_setCell 2 rfl) rfl ?_
  refine gx_if_lt hX (tgt := 14) (gx_dt dt_mi_x_E_setCell 3 rfl) (by decide) (fun c1 => ?_) (fun c1 => ?_)
  · have h := gx_ifp c1 h
    refine gx_iconst hX (v := 0) (gx_dt dt_mi_x_E_setCell 8 rfl) (by decide) ?_
    obtain rfl := Option.some.inj h
    exact gx_zret hX (gx_dt dt_mi_x_E_setCell 9 rfl) rfl rfl hres hwr
  · have h := gx_ifn c1 h
    refine gx_iload_n hX (gx_dt dt_mi_x_E_setCell 4 rfl) rfl ?_
    refine gx_aload_n hX (gx_dt dt_mi_x_E_setCell 5 rfl) rfl ?_
    obtain ⟨v2, e_v2, h⟩ := gx_bd h
    refine gx_alen hX e_v2 (gx_dt dt_mi_x_E_setCell 6 rfl) ?_
    refine gx_ic_lt hX (tgt := 16) (gx_dt dt_mi_x_E_setCell 7 rfl) (by decide) (fun c3 => ?_) (fun c3 => ?_)
    · have h := gx_ifp c3 h
      refine gx_aload_n hX (gx_dt dt_mi_x_E_setCell 10 rfl) rfl ?_
      refine gx_iload_n hX (gx_dt dt_mi_x_E_setCell 11 rfl) rfl ?_
      refine gx_iload_n hX (gx_dt dt_mi_x_E_setCell 12 rfl) rfl ?_
      obtain ⟨w4, e_w4, h⟩ := gx_bd h
      refine gx_iast hX e_w4 (gx_dt dt_mi_x_E_setCell 13 rfl) ?_
      refine gx_iconst hX (v := 1) (gx_dt dt_mi_x_E_setCell 14 rfl) (by decide) ?_
      obtain rfl := Option.some.inj h
      exact gx_zret hX (gx_dt dt_mi_x_E_setCell 15 rfl) rfl rfl hres hwr
    · have h := gx_ifn c3 h
      refine gx_iconst hX (v := 0) (gx_dt dt_mi_x_E_setCell 8 rfl) (by decide) ?_
      obtain rfl := Option.some.inj h
      exact gx_zret hX (gx_dt dt_mi_x_E_setCell 9 rfl) rfl rfl hres hwr
-- EachBearsPillar.refuse(I)I
def x_E_refuse (a1 : Int32) (w : gx_Wd) : Option (Int32 × gx_Wd) :=
  (x_E_cell 39 (-a1) w).bind fun r1 =>
  (x_E_setCell 39 (-a1) (r1.1 + 1) r1.2).bind fun r2 =>
  some (a1, r2.2)
theorem k_x_E_refuse {a1 : Int32} {w : gx_Wd} {R : Int32 × gx_Wd} (h : x_E_refuse a1 w = some R) : gx_MT mi_x_E_refuse [.inr 0, .inl a1] w (some (.inl R.1)) R.2 := by
  refine gx_met (by decide +kernel) (Nat.le_of_ble_eq_true rfl) (fun X hX hres hwr => ?_)
  show gx_G X mi_x_E_refuse 0 [some (.inr 0), some (.inl a1)] [] w
  rw [x_E_refuse] at h
  refine gx_aload_n hX (gx_dt dt_mi_x_E_refuse 0 rfl) rfl ?_
  refine gx_getr hX fl_E_66 sh_x_0 rfl (gx_dt dt_mi_x_E_refuse 1 rfl) ?_
  refine gx_iload_n hX (gx_dt dt_mi_x_E_refuse 2 rfl) rfl ?_
  refine gx_ineg hX (gx_dt dt_mi_x_E_refuse 3 rfl) ?_
  refine gx_aload_n hX (gx_dt dt_mi_x_E_refuse 4 rfl) rfl ?_
  refine gx_getr hX fl_E_66 sh_x_0 rfl (gx_dt dt_mi_x_E_refuse 5 rfl) ?_
  refine gx_iload_n hX (gx_dt dt_mi_x_E_refuse 6 rfl) rfl ?_
  refine gx_ineg hX (gx_dt dt_mi_x_E_refuse 7 rfl) ?_
  obtain ⟨r1, e_r1, h⟩ := gx_bd h
  refine gx_callSi hX (gx_dt dt_mi_x_E_refuse 8 rfl) ln_E_125_x_E_cell mo_x_E_cell ms_x_E_cell (gx_rmb rfl) rfl (k_x_E_cell e_r1) rfl rfl (Nat.le_of_ble_eq_true rfl) ?_
  refine gx_iconst hX (v := 1) (gx_dt dt_mi_x_E_refuse 9 rfl) (by decide) ?_
  refine gx_iadd hX (gx_dt dt_mi_x_E_refuse 10 rfl) ?_
  obtain ⟨r2, e_r2, h⟩ := gx_bd h
  refine gx_callSi hX (gx_dt dt_mi_x_E_refuse 11 rfl) ln_E_174_x_E_setCell mo_x_E_setCell ms_x_E_setCell (gx_rmb rfl) rfl (k_x_E_setCell e_r2) rfl rfl (Nat.le_of_ble_eq_true rfl) ?_
  refine gx_pop hX (gx_dt dt_mi_x_E_refuse 12 rfl) ?_
  refine gx_iload_n hX (gx_dt dt_mi_x_E_refuse 13 rfl) rfl ?_
  obtain rfl := Option.some.inj h
  exact gx_iret hX (gx_dt dt_mi_x_E_refuse 14 rfl) rfl hres hwr
-- EachBearsPillar$Text.append(I)I
def x_T_append (a1 : Int32) (w : gx_Wd) : Option (Int32 × gx_Wd) :=
  (x_E_setCell 30 (w 29 1) a1 w).bind fun r1 =>
  if r1.1 = 0 then
    some (r1.2 29 1, r1.2)
  else
  (gx_put r1.2 29 1 ((r1.2 29 1) + 1)).bind fun w3 =>
  some (w3 29 1, w3)
theorem k_x_T_append {a1 : Int32} {w : gx_Wd} {R : Int32 × gx_Wd} (h : x_T_append a1 w = some R) : gx_MT mi_x_T_append [.inr 29, .inl a1] w (some (.inl R.1)) R.2 := by
  refine gx_met (by decide +kernel) (Nat.le_of_ble_eq_true rfl) (fun X hX hres hwr => ?_)
  show gx_G X mi_x_T_append 0 [some (.inr 29), some (.inl a1)] [] w
  rw [x_T_append] at h
  refine gx_aload_n hX (gx_dt dt_mi_x_T_append 0 rfl) rfl ?_
  refine gx_getr hX fl_T_9 sh_x_29 rfl (gx_dt dt_mi_x_T_append 1 rfl) ?_
  refine gx_aload_n hX (gx_dt dt_mi_x_T_append 2 rfl) rfl ?_
  refine gx_geti hX fl_T_15 sh_x_29 rfl (gx_dt dt_mi_x_T_append 3 rfl) ?_
  refine gx_iload_n hX (gx_dt dt_mi_x_T_append 4 rfl) rfl ?_
  obtain ⟨r1, e_r1, h⟩ := gx_bd h
  refine gx_callSi hX (gx_dt dt_mi_x_T_append 5 rfl) ln_T_31_x_E_setCell mo_x_E_setCell ms_x_E_setCell (gx_rmb rfl) rfl (k_x_E_setCell e_r1) rfl rfl (Nat.le_of_ble_eq_true rfl) ?_
  refine gx_if_eq hX (tgt := 25) (gx_dt dt_mi_x_T_append 6 rfl) (by decide) (fun c2 => ?_) (fun c2 => ?_)
  · have h := gx_ifp c2 h
    refine gx_aload_n hX (gx_dt dt_mi_x_T_append 13 rfl) rfl ?_
    refine gx_geti hX fl_T_15 sh_x_29 rfl (gx_dt dt_mi_x_T_append 14 rfl) ?_
    obtain rfl := Option.some.inj h
    exact gx_iret hX (gx_dt dt_mi_x_T_append 15 rfl) rfl hres hwr
  · have h := gx_ifn c2 h
    refine gx_aload_n hX (gx_dt dt_mi_x_T_append 7 rfl) rfl ?_
    refine gx_dup hX (gx_dt dt_mi_x_T_append 8 rfl) ?_
    refine gx_geti hX fl_T_15 sh_x_29 rfl (gx_dt dt_mi_x_T_append 9 rfl) ?_
    refine gx_iconst hX (v := 1) (gx_dt dt_mi_x_T_append 10 rfl) (by decide) ?_
    refine gx_iadd hX (gx_dt dt_mi_x_T_append 11 rfl) ?_
    obtain ⟨w3, e_w3, h⟩ := gx_bd h
    refine gx_putp hX fl_T_15 (pf_T_1 _) sh_x_29 rfl e_w3 (gx_dt dt_mi_x_T_append 12 rfl) ?_
    refine gx_aload_n hX (gx_dt dt_mi_x_T_append 13 rfl) rfl ?_
    refine gx_geti hX fl_T_15 sh_x_29 rfl (gx_dt dt_mi_x_T_append 14 rfl) ?_
    obtain rfl := Option.some.inj h
    exact gx_iret hX (gx_dt dt_mi_x_T_append 15 rfl) rfl hres hwr
-- EachBearsPillar.letter(I)I
def x_E_letter (a1 : Int32) (w : gx_Wd) : Option (Int32 × gx_Wd) :=
  if 0 ≤ a1 then
    if 255 < a1 then
      (x_E_refuse (-6) w).bind fun r3 =>
      some (r3.1, r3.2)
    else
    if w 29 1 < 96 then
      (x_T_append a1 w).bind fun r5 =>
      some (r5.1, r5.2)
    else
    (x_E_refuse (-6) w).bind fun r6 =>
    some (r6.1, r6.2)
  else
  (x_E_refuse (-4) w).bind fun r7 =>
  some (r7.1, r7.2)
theorem k_x_E_letter {a1 : Int32} {w : gx_Wd} {R : Int32 × gx_Wd} (h : x_E_letter a1 w = some R) : gx_MT mi_x_E_letter [.inr 0, .inl a1] w (some (.inl R.1)) R.2 := by
  refine gx_met (by decide +kernel) (Nat.le_of_ble_eq_true rfl) (fun X hX hres hwr => ?_)
  show gx_G X mi_x_E_letter 0 [some (.inr 0), some (.inl a1)] [] w
  rw [x_E_letter] at h
  refine gx_iload_n hX (gx_dt dt_mi_x_E_letter 0 rfl) rfl ?_
  refine gx_if_ge hX (tgt := 11) (gx_dt dt_mi_x_E_letter 1 rfl) (by decide) (fun c1 => ?_) (fun c1 => ?_)
  · have h := gx_ifp c1 h
    refine gx_iload_n hX (gx_dt dt_mi_x_E_letter 6 rfl) rfl ?_
    refine gx_sipush hX (v := 255) (gx_dt dt_mi_x_E_letter 7 rfl) (by decide) ?_
    refine gx_ic_gt hX (tgt := 30) (gx_dt dt_mi_x_E_letter 8 rfl) (by decide) (fun c2 => ?_) (fun c2 => ?_)
    · have h := gx_ifp c2 h
      refine gx_aload_n hX (gx_dt dt_mi_x_E_letter 14 rfl) rfl ?_
      refine gx_bipush hX (v := (-6)) (gx_dt dt_mi_x_E_letter 15 rfl) (by decide) ?_
      obtain ⟨r3, e_r3, h⟩ := gx_bd h
      refine gx_callVi hX (gx_dt dt_mi_x_E_letter 16 rfl) ln_E_69_x_E_refuse mo_x_E_refuse mv_x_E_refuse (gx_rmb rfl) sh_x_0 ⟨_, _, rfl⟩ rfl (k_x_E_refuse e_r3) rfl rfl (Nat.le_of_ble_eq_true rfl) ?_
      obtain rfl := Option.some.inj h
      exact gx_iret hX (gx_dt dt_mi_x_E_letter 17 rfl) rfl hres hwr
    · have h := gx_ifn c2 h
      refine gx_aload_n hX (gx_dt dt_mi_x_E_letter 9 rfl) rfl ?_
      refine gx_getr hX fl_E_38 sh_x_0 rfl (gx_dt dt_mi_x_E_letter 10 rfl) ?_
      refine gx_geti hX fl_E_73 sh_x_29 rfl (gx_dt dt_mi_x_E_letter 11 rfl) ?_
      refine gx_bipush hX (v := 96) (gx_dt dt_mi_x_E_letter 12 rfl) (by decide) ?_
      refine gx_ic_lt hX (tgt := 37) (gx_dt dt_mi_x_E_letter 13 rfl) (by decide) (fun c4 => ?_) (fun c4 => ?_)
      · have h := gx_ifp c4 h
        refine gx_aload_n hX (gx_dt dt_mi_x_E_letter 18 rfl) rfl ?_
        refine gx_getr hX fl_E_38 sh_x_0 rfl (gx_dt dt_mi_x_E_letter 19 rfl) ?_
        refine gx_iload_n hX (gx_dt dt_mi_x_E_letter 20 rfl) rfl ?_
        obtain ⟨r5, e_r5, h⟩ := gx_bd h
        refine gx_callVi hX (gx_dt dt_mi_x_E_letter 21 rfl) ln_E_76_x_T_append mo_x_T_append mv_x_T_append (gx_rmb rfl) sh_x_29 ⟨_, _, rfl⟩ rfl (k_x_T_append e_r5) rfl rfl (Nat.le_of_ble_eq_true rfl) ?_
        obtain rfl := Option.some.inj h
        exact gx_iret hX (gx_dt dt_mi_x_E_letter 22 rfl) rfl hres hwr
      · have h := gx_ifn c4 h
        refine gx_aload_n hX (gx_dt dt_mi_x_E_letter 14 rfl) rfl ?_
        refine gx_bipush hX (v := (-6)) (gx_dt dt_mi_x_E_letter 15 rfl) (by decide) ?_
        obtain ⟨r6, e_r6, h⟩ := gx_bd h
        refine gx_callVi hX (gx_dt dt_mi_x_E_letter 16 rfl) ln_E_69_x_E_refuse mo_x_E_refuse mv_x_E_refuse (gx_rmb rfl) sh_x_0 ⟨_, _, rfl⟩ rfl (k_x_E_refuse e_r6) rfl rfl (Nat.le_of_ble_eq_true rfl) ?_
        obtain rfl := Option.some.inj h
        exact gx_iret hX (gx_dt dt_mi_x_E_letter 17 rfl) rfl hres hwr
  · have h := gx_ifn c1 h
    refine gx_aload_n hX (gx_dt dt_mi_x_E_letter 2 rfl) rfl ?_
    refine gx_bipush hX (v := (-4)) (gx_dt dt_mi_x_E_letter 3 rfl) (by decide) ?_
    obtain ⟨r7, e_r7, h⟩ := gx_bd h
    refine gx_callVi hX (gx_dt dt_mi_x_E_letter 4 rfl) ln_E_69_x_E_refuse mo_x_E_refuse mv_x_E_refuse (gx_rmb rfl) sh_x_0 ⟨_, _, rfl⟩ rfl (k_x_E_refuse e_r7) rfl rfl (Nat.le_of_ble_eq_true rfl) ?_
    obtain rfl := Option.some.inj h
    exact gx_iret hX (gx_dt dt_mi_x_E_letter 5 rfl) rfl hres hwr
-- EachBearsPillar$Text.rewind()V
def x_T_rewind (w : gx_Wd) : Option (gx_Wd) :=
  (gx_put w 29 2 0).bind fun w1 =>
  some w1
theorem k_x_T_rewind {w : gx_Wd} {R : gx_Wd} (h : x_T_rewind w = some R) : gx_MT mi_x_T_rewind [.inr 29] w none R := by
  refine gx_met (by decide +kernel) (Nat.le_of_ble_eq_true rfl) (fun X hX hres hwr => ?_)
  show gx_G X mi_x_T_rewind 0 [some (.inr 29)] [] w
  rw [x_T_rewind] at h
  refine gx_aload_n hX (gx_dt dt_mi_x_T_rewind 0 rfl) rfl ?_
  refine gx_iconst hX (v := 0) (gx_dt dt_mi_x_T_rewind 1 rfl) (by decide) ?_
  obtain ⟨w1, e_w1, h⟩ := gx_bd h
  refine gx_putp hX fl_T_19 (pf_T_2 _) sh_x_29 rfl e_w1 (gx_dt dt_mi_x_T_rewind 2 rfl) ?_
  obtain rfl := Option.some.inj h
  exact gx_vret hX (gx_dt dt_mi_x_T_rewind 3 rfl) rfl hres hwr
-- EachBearsPillar$Text.here()I
def x_T_here (w : gx_Wd) : Option (Int32 × gx_Wd) :=
  if w 29 1 ≤ w 29 2 then
    some ((-1), w)
  else
  (x_E_cell 30 (w 29 2) w).bind fun r2 =>
  some (r2.1, r2.2)
theorem k_x_T_here {w : gx_Wd} {R : Int32 × gx_Wd} (h : x_T_here w = some R) : gx_MT mi_x_T_here [.inr 29] w (some (.inl R.1)) R.2 := by
  refine gx_met (by decide +kernel) (Nat.le_of_ble_eq_true rfl) (fun X hX hres hwr => ?_)
  show gx_G X mi_x_T_here 0 [some (.inr 29)] [] w
  rw [x_T_here] at h
  refine gx_aload_n hX (gx_dt dt_mi_x_T_here 0 rfl) rfl ?_
  refine gx_geti hX fl_T_19 sh_x_29 rfl (gx_dt dt_mi_x_T_here 1 rfl) ?_
  refine gx_aload_n hX (gx_dt dt_mi_x_T_here 2 rfl) rfl ?_
  refine gx_geti hX fl_T_15 sh_x_29 rfl (gx_dt dt_mi_x_T_here 3 rfl) ?_
  refine gx_ic_ge hX (tgt := 25) (gx_dt dt_mi_x_T_here 4 rfl) (by decide) (fun c1 => ?_) (fun c1 => ?_)
  · have h := gx_ifp c1 h
    refine gx_iconst hX (v := (-1)) (gx_dt dt_mi_x_T_here 11 rfl) (by decide) ?_
    obtain rfl := Option.some.inj h
    exact gx_iret hX (gx_dt dt_mi_x_T_here 12 rfl) rfl hres hwr
  · have h := gx_ifn c1 h
    refine gx_aload_n hX (gx_dt dt_mi_x_T_here 5 rfl) rfl ?_
    refine gx_getr hX fl_T_9 sh_x_29 rfl (gx_dt dt_mi_x_T_here 6 rfl) ?_
    refine gx_aload_n hX (gx_dt dt_mi_x_T_here 7 rfl) rfl ?_
    refine gx_geti hX fl_T_19 sh_x_29 rfl (gx_dt dt_mi_x_T_here 8 rfl) ?_
    obtain ⟨r2, e_r2, h⟩ := gx_bd h
    refine gx_callSi hX (gx_dt dt_mi_x_T_here 9 rfl) ln_T_90_x_E_cell mo_x_E_cell ms_x_E_cell (gx_rmb rfl) rfl (k_x_E_cell e_r2) rfl rfl (Nat.le_of_ble_eq_true rfl) ?_
    refine gx_goto hX (tgt := 26) (gx_dt dt_mi_x_T_here 10 rfl) (by decide) ?_
    obtain rfl := Option.some.inj h
    exact gx_iret hX (gx_dt dt_mi_x_T_here 12 rfl) rfl hres hwr
-- EachBearsPillar$Text.formOf(I)Ljava/lang/String;
def x_T_formOf (a0 : Int32) (w : gx_Wd) : Option (Nat × gx_Wd) :=
  if a0 = 98 then
    some (1000, w)
  else
  if a0 = 103 then
    some (1002, w)
  else
  if a0 = 107 then
    some (1004, w)
  else
  if a0 = 108 then
    some (1003, w)
  else
  if a0 = 115 then
    some (1001, w)
  else
  some (1005, w)
theorem k_x_T_formOf {a0 : Int32} {w : gx_Wd} {R : Nat × gx_Wd} (h : x_T_formOf a0 w = some R) : gx_MT mi_x_T_formOf [.inl a0] w (some (.inr R.1)) R.2 := by
  refine gx_met (by decide +kernel) (Nat.le_of_ble_eq_true rfl) (fun X hX hres hwr => ?_)
  show gx_G X mi_x_T_formOf 0 [some (.inl a0)] [] w
  rw [x_T_formOf] at h
  refine gx_iload_n hX (gx_dt dt_mi_x_T_formOf 0 rfl) rfl ?_
  by_cases c1 : a0 = 98
  · have h := gx_ifp c1 h
    refine gx_lookup hX (off := 51) (tgt := 52) (gx_dt dt_mi_x_T_formOf 1 rfl) (by decide) (by rw [c1]; rfl) (by decide) ?_
    refine gx_ldcs hX (i := 0) rfl (by decide) rfl (gx_dt dt_mi_x_T_formOf 2 rfl) ?_
    obtain rfl := Option.some.inj h
    exact gx_aret hX (gx_dt dt_mi_x_T_formOf 3 rfl) rfl ⟨_, rfl⟩ hres hwr
  have h := gx_ifn c1 h
  by_cases c2 : a0 = 103
  · have h := gx_ifp c2 h
    refine gx_lookup hX (off := 57) (tgt := 58) (gx_dt dt_mi_x_T_formOf 1 rfl) (by decide) (by rw [c2]; rfl) (by decide) ?_
    refine gx_ldcs hX (i := 2) rfl (by decide) rfl (gx_dt dt_mi_x_T_formOf 6 rfl) ?_
    obtain rfl := Option.some.inj h
    exact gx_aret hX (gx_dt dt_mi_x_T_formOf 7 rfl) rfl ⟨_, rfl⟩ hres hwr
  have h := gx_ifn c2 h
  by_cases c3 : a0 = 107
  · have h := gx_ifp c3 h
    refine gx_lookup hX (off := 63) (tgt := 64) (gx_dt dt_mi_x_T_formOf 1 rfl) (by decide) (by rw [c3]; rfl) (by decide) ?_
    refine gx_ldcs hX (i := 4) rfl (by decide) rfl (gx_dt dt_mi_x_T_formOf 10 rfl) ?_
    obtain rfl := Option.some.inj h
    exact gx_aret hX (gx_dt dt_mi_x_T_formOf 11 rfl) rfl ⟨_, rfl⟩ hres hwr
  have h := gx_ifn c3 h
  by_cases c4 : a0 = 108
  · have h := gx_ifp c4 h
    refine gx_lookup hX (off := 60) (tgt := 61) (gx_dt dt_mi_x_T_formOf 1 rfl) (by decide) (by rw [c4]; rfl) (by decide) ?_
    refine gx_ldcs hX (i := 3) rfl (by decide) rfl (gx_dt dt_mi_x_T_formOf 8 rfl) ?_
    obtain rfl := Option.some.inj h
    exact gx_aret hX (gx_dt dt_mi_x_T_formOf 9 rfl) rfl ⟨_, rfl⟩ hres hwr
  have h := gx_ifn c4 h
  by_cases c5 : a0 = 115
  · have h := gx_ifp c5 h
    refine gx_lookup hX (off := 54) (tgt := 55) (gx_dt dt_mi_x_T_formOf 1 rfl) (by decide) (by rw [c5]; rfl) (by decide) ?_
    refine gx_ldcs hX (i := 1) rfl (by decide) rfl (gx_dt dt_mi_x_T_formOf 4 rfl) ?_
    obtain rfl := Option.some.inj h
    exact gx_aret hX (gx_dt dt_mi_x_T_formOf 5 rfl) rfl ⟨_, rfl⟩ hres hwr
  have h := gx_ifn c5 h
  refine gx_lookup hX (off := 66) (tgt := 67) (gx_dt dt_mi_x_T_formOf 1 rfl) (by decide) (by show Op.lookupswitch.offset [(98, 51), (103, 57), (107, 63), (108, 60), (115, 54)] _ _ = _; rw [lv_osw (a := 98) c1 rfl, lv_osw (a := 103) c2 rfl, lv_osw (a := 107) c3 rfl, lv_osw (a := 108) c4 rfl, lv_osw (a := 115) c5 rfl]; rfl) (by decide) ?_
  refine gx_ldcs hX (i := 5) rfl (by decide) rfl (gx_dt dt_mi_x_T_formOf 12 rfl) ?_
  obtain rfl := Option.some.inj h
  exact gx_aret hX (gx_dt dt_mi_x_T_formOf 13 rfl) rfl ⟨_, rfl⟩ hres hwr
-- EachBearsPillar$Text.keepNumber(I)V
def x_T_keepNumber (a1 : Int32) (w : gx_Wd) : Option (gx_Wd) :=
  (x_E_setCell 31 (w 29 5) a1 w).bind fun r1 =>
  (gx_put r1.2 29 5 ((r1.2 29 5) + 1)).bind fun w2 =>
  some w2
theorem k_x_T_keepNumber {a1 : Int32} {w : gx_Wd} {R : gx_Wd} (h : x_T_keepNumber a1 w = some R) : gx_MT mi_x_T_keepNumber [.inr 29, .inl a1] w none R := by
  refine gx_met (by decide +kernel) (Nat.le_of_ble_eq_true rfl) (fun X hX hres hwr => ?_)
  show gx_G X mi_x_T_keepNumber 0 [some (.inr 29), some (.inl a1)] [] w
  rw [x_T_keepNumber] at h
  refine gx_aload_n hX (gx_dt dt_mi_x_T_keepNumber 0 rfl) rfl ?_
  refine gx_getr hX fl_T_25 sh_x_29 rfl (gx_dt dt_mi_x_T_keepNumber 1 rfl) ?_
  refine gx_aload_n hX (gx_dt dt_mi_x_T_keepNumber 2 rfl) rfl ?_
  refine gx_geti hX fl_T_28 sh_x_29 rfl (gx_dt dt_mi_x_T_keepNumber 3 rfl) ?_
  refine gx_iload_n hX (gx_dt dt_mi_x_T_keepNumber 4 rfl) rfl ?_
  obtain ⟨r1, e_r1, h⟩ := gx_bd h
  refine gx_callSi hX (gx_dt dt_mi_x_T_keepNumber 5 rfl) ln_T_31_x_E_setCell mo_x_E_setCell ms_x_E_setCell (gx_rmb rfl) rfl (k_x_E_setCell e_r1) rfl rfl (Nat.le_of_ble_eq_true rfl) ?_
  refine gx_pop hX (gx_dt dt_mi_x_T_keepNumber 6 rfl) ?_
  refine gx_aload_n hX (gx_dt dt_mi_x_T_keepNumber 7 rfl) rfl ?_
  refine gx_dup hX (gx_dt dt_mi_x_T_keepNumber 8 rfl) ?_
  refine gx_geti hX fl_T_28 sh_x_29 rfl (gx_dt dt_mi_x_T_keepNumber 9 rfl) ?_
  refine gx_iconst hX (v := 1) (gx_dt dt_mi_x_T_keepNumber 10 rfl) (by decide) ?_
  refine gx_iadd hX (gx_dt dt_mi_x_T_keepNumber 11 rfl) ?_
  obtain ⟨w2, e_w2, h⟩ := gx_bd h
  refine gx_putp hX fl_T_28 (pf_T_5 _) sh_x_29 rfl e_w2 (gx_dt dt_mi_x_T_keepNumber 12 rfl) ?_
  obtain rfl := Option.some.inj h
  exact gx_vret hX (gx_dt dt_mi_x_T_keepNumber 13 rfl) rfl hres hwr
-- EachBearsPillar$Text.readNumber(I)Z
def x_T_readNumber_56 (b2 : Int32) (b3 : Int32) (w : gx_Wd) : Option (Int32 × gx_Wd) :=
  (x_T_keepNumber b2 w).bind fun r1 =>
  if b3 ≤ 0 then
    some (0, r1)
  else
  some (1, r1)
def x_T_readNumber_4 : Nat → Int32 → Int32 → Int32 → gx_Wd → Option (Int32 × gx_Wd)
  | 0, _, _, _, _ => none
  | n + 1, b1, b2, b3, w =>
  if b1 ≤ b3 then
    x_T_readNumber_56 b2 b3 w
  else
  (x_T_here w).bind fun r2 =>
  if r2.1 < 48 then
    x_T_readNumber_56 b2 b3 r2.2
  else
  (x_T_here r2.2).bind fun r4 =>
  if 57 < r4.1 then
    x_T_readNumber_56 b2 b3 r4.2
  else
  (x_T_here r4.2).bind fun r6 =>
  (some (((10 * b2) + r6.1) - 48)).bind fun v7 =>
  (gx_put r6.2 29 2 ((r6.2 29 2) + 1)).bind fun w8 =>
  (some (b3 + 1)).bind fun v9 =>
  (x_T_readNumber_4 n) b1 v7 v9 w8
def x_T_readNumber (a1 : Int32) (w : gx_Wd) : Option (Int32 × gx_Wd) :=
  x_T_readNumber_4 6000 a1 0 0 w
theorem t_x_T_readNumber_56 {X : gx_X} (hX : gx_Ok X mi_x_T_readNumber) {R : Int32 × gx_Wd} (hres : gx_res X = some (.inl R.1)) (hwr : gx_wr X = R.2) (b2 : Int32) (b3 : Int32) (w : gx_Wd) (h : x_T_readNumber_56 b2 b3 w = some R) : gx_G X mi_x_T_readNumber 56 [some (.inr 29), none, some (.inl b2), some (.inl b3)] [] w := by
  rw [x_T_readNumber_56] at h
  refine gx_aload_n hX (gx_dt dt_mi_x_T_readNumber 32 rfl) rfl ?_
  refine gx_iload_n hX (gx_dt dt_mi_x_T_readNumber 33 rfl) rfl ?_
  obtain ⟨r1, e_r1, h⟩ := gx_bd h
  refine gx_callVv hX (gx_dt dt_mi_x_T_readNumber 34 rfl) ln_T_86_x_T_keepNumber mo_x_T_keepNumber mv_x_T_keepNumber (gx_rmb rfl) sh_x_29 ⟨_, _, rfl⟩ rfl (k_x_T_keepNumber e_r1) rfl rfl (Nat.le_of_ble_eq_true rfl) ?_
  refine gx_iload_n hX (gx_dt dt_mi_x_T_readNumber 35 rfl) rfl ?_
  refine gx_if_le hX (tgt := 69) (gx_dt dt_mi_x_T_readNumber 36 rfl) (by decide) (fun c2 => ?_) (fun c2 => ?_)
  · have h := gx_ifp c2 h
    refine gx_iconst hX (v := 0) (gx_dt dt_mi_x_T_readNumber 39 rfl) (by decide) ?_
    obtain rfl := Option.some.inj h
    exact gx_zret hX (gx_dt dt_mi_x_T_readNumber 40 rfl) rfl rfl hres hwr
  · have h := gx_ifn c2 h
    refine gx_iconst hX (v := 1) (gx_dt dt_mi_x_T_readNumber 37 rfl) (by decide) ?_
    refine gx_goto hX (tgt := 70) (gx_dt dt_mi_x_T_readNumber 38 rfl) (by decide) ?_
    obtain rfl := Option.some.inj h
    exact gx_zret hX (gx_dt dt_mi_x_T_readNumber 40 rfl) rfl rfl hres hwr
theorem t_x_T_readNumber_4 {X : gx_X} (hX : gx_Ok X mi_x_T_readNumber) {R : Int32 × gx_Wd} (hres : gx_res X = some (.inl R.1)) (hwr : gx_wr X = R.2) : ∀ (n : Nat) (b1 : Int32) (b2 : Int32) (b3 : Int32) (w : gx_Wd), x_T_readNumber_4 n b1 b2 b3 w = some R → gx_G X mi_x_T_readNumber 4 [some (.inr 29), some (.inl b1), some (.inl b2), some (.inl b3)] [] w := by
  intro n
  induction n with
  | zero => intro b1 b2 b3 w h; rw [x_T_readNumber_4] at h; cases h
  | succ n ih =>
    intro b1 b2 b3 w h
    rw [x_T_readNumber_4] at h
    refine gx_iload_n hX (gx_dt dt_mi_x_T_readNumber 4 rfl) rfl ?_
    refine gx_iload_n hX (gx_dt dt_mi_x_T_readNumber 5 rfl) rfl ?_
    refine gx_ic_ge hX (tgt := 56) (gx_dt dt_mi_x_T_readNumber 6 rfl) (by decide) (fun c1 => ?_) (fun c1 => ?_)
    · have h := gx_ifp c1 h
      exact gx_weak (gx_leS (gx_leN (gx_leS (gx_leS gx_le0)))) (t_x_T_readNumber_56 hX hres hwr _ _ _ h)
    · have h := gx_ifn c1 h
      refine gx_aload_n hX (gx_dt dt_mi_x_T_readNumber 7 rfl) rfl ?_
      obtain ⟨r2, e_r2, h⟩ := gx_bd h
      refine gx_callVi hX (gx_dt dt_mi_x_T_readNumber 8 rfl) ln_T_42_x_T_here mo_x_T_here mv_x_T_here (gx_rmb rfl) sh_x_29 ⟨_, _, rfl⟩ rfl (k_x_T_here e_r2) rfl rfl (Nat.le_of_ble_eq_true rfl) ?_
      refine gx_bipush hX (v := 48) (gx_dt dt_mi_x_T_readNumber 9 rfl) (by decide) ?_
      refine gx_ic_lt hX (tgt := 56) (gx_dt dt_mi_x_T_readNumber 10 rfl) (by decide) (fun c3 => ?_) (fun c3 => ?_)
      · have h := gx_ifp c3 h
        exact gx_weak (gx_leS (gx_leN (gx_leS (gx_leS gx_le0)))) (t_x_T_readNumber_56 hX hres hwr _ _ _ h)
      · have h := gx_ifn c3 h
        refine gx_aload_n hX (gx_dt dt_mi_x_T_readNumber 11 rfl) rfl ?_
        obtain ⟨r4, e_r4, h⟩ := gx_bd h
        refine gx_callVi hX (gx_dt dt_mi_x_T_readNumber 12 rfl) ln_T_42_x_T_here mo_x_T_here mv_x_T_here (gx_rmb rfl) sh_x_29 ⟨_, _, rfl⟩ rfl (k_x_T_here e_r4) rfl rfl (Nat.le_of_ble_eq_true rfl) ?_
        refine gx_bipush hX (v := 57) (gx_dt dt_mi_x_T_readNumber 13 rfl) (by decide) ?_
        refine gx_ic_gt hX (tgt := 56) (gx_dt dt_mi_x_T_readNumber 14 rfl) (by decide) (fun c5 => ?_) (fun c5 => ?_)
        · have h := gx_ifp c5 h
          exact gx_weak (gx_leS (gx_leN (gx_leS (gx_leS gx_le0)))) (t_x_T_readNumber_56 hX hres hwr _ _ _ h)
        · have h := gx_ifn c5 h
          refine gx_bipush hX (v := 10) (gx_dt dt_mi_x_T_readNumber 15 rfl) (by decide) ?_
          refine gx_iload_n hX (gx_dt dt_mi_x_T_readNumber 16 rfl) rfl ?_
          refine gx_imul hX (gx_dt dt_mi_x_T_readNumber 17 rfl) ?_
          refine gx_aload_n hX (gx_dt dt_mi_x_T_readNumber 18 rfl) rfl ?_
          obtain ⟨r6, e_r6, h⟩ := gx_bd h
          refine gx_callVi hX (gx_dt dt_mi_x_T_readNumber 19 rfl) ln_T_42_x_T_here mo_x_T_here mv_x_T_here (gx_rmb rfl) sh_x_29 ⟨_, _, rfl⟩ rfl (k_x_T_here e_r6) rfl rfl (Nat.le_of_ble_eq_true rfl) ?_
          refine gx_iadd hX (gx_dt dt_mi_x_T_readNumber 20 rfl) ?_
          refine gx_bipush hX (v := 48) (gx_dt dt_mi_x_T_readNumber 21 rfl) (by decide) ?_
          refine gx_isub hX (gx_dt dt_mi_x_T_readNumber 22 rfl) ?_
          obtain ⟨v7, e_v7, h⟩ := gx_bd h
          refine gx_top e_v7 ?_
          refine gx_istore_n hX (ls' := [some (.inr 29), some (.inl b1), some (.inl v7), some (.inl b3)]) (gx_dt dt_mi_x_T_readNumber 23 rfl) (by decide) rfl ?_
          refine gx_aload_n hX (gx_dt dt_mi_x_T_readNumber 24 rfl) rfl ?_
          refine gx_dup hX (gx_dt dt_mi_x_T_readNumber 25 rfl) ?_
          refine gx_geti hX fl_T_19 sh_x_29 rfl (gx_dt dt_mi_x_T_readNumber 26 rfl) ?_
          refine gx_iconst hX (v := 1) (gx_dt dt_mi_x_T_readNumber 27 rfl) (by decide) ?_
          refine gx_iadd hX (gx_dt dt_mi_x_T_readNumber 28 rfl) ?_
          obtain ⟨w8, e_w8, h⟩ := gx_bd h
          refine gx_putp hX fl_T_19 (pf_T_2 _) sh_x_29 rfl e_w8 (gx_dt dt_mi_x_T_readNumber 29 rfl) ?_
          obtain ⟨v9, e_v9, h⟩ := gx_bd h
          refine gx_iinc hX (v := v9) (ls' := [some (.inr 29), some (.inl b1), some (.inl v7), some (.inl v9)]) (gx_dt dt_mi_x_T_readNumber 30 rfl) rfl (gx_ii e_v9 (by decide)) (by decide) rfl ?_
          refine gx_goto hX (tgt := 4) (gx_dt dt_mi_x_T_readNumber 31 rfl) (by decide) ?_
          exact gx_weak (gx_leS (gx_leS (gx_leS (gx_leS gx_le0)))) (ih _ _ _ _ h)
theorem k_x_T_readNumber {a1 : Int32} {w : gx_Wd} {R : Int32 × gx_Wd} (h : x_T_readNumber a1 w = some R) : gx_MT mi_x_T_readNumber [.inr 29, .inl a1] w (some (.inl R.1)) R.2 := by
  refine gx_met (by decide +kernel) (Nat.le_of_ble_eq_true rfl) (fun X hX hres hwr => ?_)
  show gx_G X mi_x_T_readNumber 0 [some (.inr 29), some (.inl a1)] [] w
  rw [x_T_readNumber] at h
  refine gx_iconst hX (v := 0) (gx_dt dt_mi_x_T_readNumber 0 rfl) (by decide) ?_
  refine gx_istore_n hX (ls' := [some (.inr 29), some (.inl a1), some (.inl (0))]) (gx_dt dt_mi_x_T_readNumber 1 rfl) (by decide) rfl ?_
  refine gx_iconst hX (v := 0) (gx_dt dt_mi_x_T_readNumber 2 rfl) (by decide) ?_
  refine gx_istore_n hX (ls' := [some (.inr 29), some (.inl a1), some (.inl (0)), some (.inl (0))]) (gx_dt dt_mi_x_T_readNumber 3 rfl) (by decide) rfl ?_
  exact gx_weak (gx_leS (gx_leS (gx_leS (gx_leS gx_le0)))) (t_x_T_readNumber_4 hX hres hwr _ _ _ _ _ h)
-- EachBearsPillar$Text.readKind()Z
def x_T_readKind_26 (b2 : Int32) (w : gx_Wd) : Option (Int32 × gx_Wd) :=
  (gx_put w 29 2 ((w 29 2) + 1)).bind fun w1 =>
  (x_T_keepNumber b2 w1).bind fun r2 =>
  some (1, r2)
def x_T_readKind_7 : Nat → Int32 → Int32 → gx_Wd → Option (Int32 × gx_Wd)
  | 0, _, _, _ => none
  | n + 1, b1, b2, w =>
  (x_S_length 1006 w).bind fun r1 =>
  if r1.1 ≤ b2 then
    some (0, r1.2)
  else
  (x_S_charAt 1006 b2 r1.2).bind fun r3 =>
  if r3.1 = b1 then
    x_T_readKind_26 b2 r3.2
  else
    (some (b2 + 1)).bind fun v5 =>
    (x_T_readKind_7 n) b1 v5 r3.2
def x_T_readKind (w : gx_Wd) : Option (Int32 × gx_Wd) :=
  (x_T_here w).bind fun r1 =>
  x_T_readKind_7 6000 r1.1 0 r1.2
theorem t_x_T_readKind_26 {X : gx_X} (hX : gx_Ok X mi_x_T_readKind) {R : Int32 × gx_Wd} (hres : gx_res X = some (.inl R.1)) (hwr : gx_wr X = R.2) (b2 : Int32) (w : gx_Wd) (h : x_T_readKind_26 b2 w = some R) : gx_G X mi_x_T_readKind 26 [some (.inr 29), none, some (.inl b2)] [] w := by
  rw [x_T_readKind_26] at h
  refine gx_aload_n hX (gx_dt dt_mi_x_T_readKind 14 rfl) rfl ?_
  refine gx_dup hX (gx_dt dt_mi_x_T_readKind 15 rfl) ?_
  refine gx_geti hX fl_T_19 sh_x_29 rfl (gx_dt dt_mi_x_T_readKind 16 rfl) ?_
  refine gx_iconst hX (v := 1) (gx_dt dt_mi_x_T_readKind 17 rfl) (by decide) ?_
  refine gx_iadd hX (gx_dt dt_mi_x_T_readKind 18 rfl) ?_
  obtain ⟨w1, e_w1, h⟩ := gx_bd h
  refine gx_putp hX fl_T_19 (pf_T_2 _) sh_x_29 rfl e_w1 (gx_dt dt_mi_x_T_readKind 19 rfl) ?_
  refine gx_aload_n hX (gx_dt dt_mi_x_T_readKind 20 rfl) rfl ?_
  refine gx_iload_n hX (gx_dt dt_mi_x_T_readKind 21 rfl) rfl ?_
  obtain ⟨r2, e_r2, h⟩ := gx_bd h
  refine gx_callVv hX (gx_dt dt_mi_x_T_readKind 22 rfl) ln_T_86_x_T_keepNumber mo_x_T_keepNumber mv_x_T_keepNumber (gx_rmb rfl) sh_x_29 ⟨_, _, rfl⟩ rfl (k_x_T_keepNumber e_r2) rfl rfl (Nat.le_of_ble_eq_true rfl) ?_
  refine gx_iconst hX (v := 1) (gx_dt dt_mi_x_T_readKind 23 rfl) (by decide) ?_
  obtain rfl := Option.some.inj h
  exact gx_zret hX (gx_dt dt_mi_x_T_readKind 24 rfl) rfl rfl hres hwr
theorem t_x_T_readKind_7 {X : gx_X} (hX : gx_Ok X mi_x_T_readKind) {R : Int32 × gx_Wd} (hres : gx_res X = some (.inl R.1)) (hwr : gx_wr X = R.2) : ∀ (n : Nat) (b1 : Int32) (b2 : Int32) (w : gx_Wd), x_T_readKind_7 n b1 b2 w = some R → gx_G X mi_x_T_readKind 7 [some (.inr 29), some (.inl b1), some (.inl b2)] [] w := by
  intro n
  induction n with
  | zero => intro b1 b2 w h; rw [x_T_readKind_7] at h; cases h
  | succ n ih =>
    intro b1 b2 w h
    rw [x_T_readKind_7] at h
    refine gx_iload_n hX (gx_dt dt_mi_x_T_readKind 5 rfl) rfl ?_
    refine gx_ldcs hX (i := 6) rfl (by decide) rfl (gx_dt dt_mi_x_T_readKind 6 rfl) ?_
    obtain ⟨r1, e_r1, h⟩ := gx_bd h
    refine gx_callTi hX (gx_dt dt_mi_x_T_readKind 7 rfl) ln_T_55_x_S_length mo_x_S_length mv_x_S_length (gx_rmb rfl) rfl rfl (gx_so_length e_r1) (k_x_S_length e_r1) rfl rfl (Nat.le_of_ble_eq_true rfl) ?_
    refine gx_ic_ge hX (tgt := 49) (gx_dt dt_mi_x_T_readKind 8 rfl) (by decide) (fun c2 => ?_) (fun c2 => ?_)
    · have h := gx_ifp c2 h
      refine gx_iconst hX (v := 0) (gx_dt dt_mi_x_T_readKind 27 rfl) (by decide) ?_
      obtain rfl := Option.some.inj h
      exact gx_zret hX (gx_dt dt_mi_x_T_readKind 28 rfl) rfl rfl hres hwr
    · have h := gx_ifn c2 h
      refine gx_ldcs hX (i := 6) rfl (by decide) rfl (gx_dt dt_mi_x_T_readKind 9 rfl) ?_
      refine gx_iload_n hX (gx_dt dt_mi_x_T_readKind 10 rfl) rfl ?_
      obtain ⟨r3, e_r3, h⟩ := gx_bd h
      refine gx_callTi hX (gx_dt dt_mi_x_T_readKind 11 rfl) ln_T_57_x_S_charAt mo_x_S_charAt mv_x_S_charAt (gx_rmb rfl) rfl rfl (gx_so_charAt e_r3) (k_x_S_charAt e_r3) rfl rfl (Nat.le_of_ble_eq_true rfl) ?_
      refine gx_iload_n hX (gx_dt dt_mi_x_T_readKind 12 rfl) rfl ?_
      refine gx_ic_ne hX (tgt := 43) (gx_dt dt_mi_x_T_readKind 13 rfl) (by decide) (fun c4 => ?_) (fun c4 => ?_)
      · have h := gx_ifn c4 h
        obtain ⟨v5, e_v5, h⟩ := gx_bd h
        refine gx_iinc hX (v := v5) (ls' := [some (.inr 29), some (.inl b1), some (.inl v5)]) (gx_dt dt_mi_x_T_readKind 25 rfl) rfl (gx_ii e_v5 (by decide)) (by decide) rfl ?_
        refine gx_goto hX (tgt := 7) (gx_dt dt_mi_x_T_readKind 26 rfl) (by decide) ?_
        exact gx_weak (gx_leS (gx_leS (gx_leS gx_le0))) (ih _ _ _ h)
      · have h := gx_ifp c4 h
        exact gx_weak (gx_leS (gx_leN (gx_leS gx_le0))) (t_x_T_readKind_26 hX hres hwr _ _ h)
theorem k_x_T_readKind {w : gx_Wd} {R : Int32 × gx_Wd} (h : x_T_readKind w = some R) : gx_MT mi_x_T_readKind [.inr 29] w (some (.inl R.1)) R.2 := by
  refine gx_met (by decide +kernel) (Nat.le_of_ble_eq_true rfl) (fun X hX hres hwr => ?_)
  show gx_G X mi_x_T_readKind 0 [some (.inr 29)] [] w
  rw [x_T_readKind] at h
  refine gx_aload_n hX (gx_dt dt_mi_x_T_readKind 0 rfl) rfl ?_
  obtain ⟨r1, e_r1, h⟩ := gx_bd h
  refine gx_callVi hX (gx_dt dt_mi_x_T_readKind 1 rfl) ln_T_42_x_T_here mo_x_T_here mv_x_T_here (gx_rmb rfl) sh_x_29 ⟨_, _, rfl⟩ rfl (k_x_T_here e_r1) rfl rfl (Nat.le_of_ble_eq_true rfl) ?_
  refine gx_istore_n hX (ls' := [some (.inr 29), some (.inl (r1.1))]) (gx_dt dt_mi_x_T_readKind 2 rfl) (by decide) rfl ?_
  refine gx_iconst hX (v := 0) (gx_dt dt_mi_x_T_readKind 3 rfl) (by decide) ?_
  refine gx_istore_n hX (ls' := [some (.inr 29), some (.inl (r1.1)), some (.inl (0))]) (gx_dt dt_mi_x_T_readKind 4 rfl) (by decide) rfl ?_
  exact gx_weak (gx_leS (gx_leS (gx_leS gx_le0))) (t_x_T_readKind_7 hX hres hwr _ _ _ _ h)
-- EachBearsPillar$Text.readPart(C)Z
def x_T_readPart (a1 : Int32) (w : gx_Wd) : Option (Int32 × gx_Wd) :=
  if a1 = 68 then
    (x_T_readNumber 1 w).bind fun r2 =>
    if r2.1 = 0 ∨ r2.1 = 1 then some (r2.1, r2.2) else none
  else
  if a1 = 75 then
    (x_T_readKind w).bind fun r4 =>
    if r4.1 = 0 ∨ r4.1 = 1 then some (r4.1, r4.2) else none
  else
  if a1 = 78 then
    (x_T_readNumber 2 w).bind fun r6 =>
    if r6.1 = 0 ∨ r6.1 = 1 then some (r6.1, r6.2) else none
  else
  (x_T_here w).bind fun r7 =>
  if r7.1 = a1 then
    (gx_put r7.2 29 2 ((r7.2 29 2) + 1)).bind fun w9 =>
    some (1, w9)
  else
  some (0, r7.2)
theorem k_x_T_readPart {a1 : Int32} {w : gx_Wd} {R : Int32 × gx_Wd} (h : x_T_readPart a1 w = some R) : gx_MT mi_x_T_readPart [.inr 29, .inl a1] w (some (.inl R.1)) R.2 := by
  refine gx_met (by decide +kernel) (Nat.le_of_ble_eq_true rfl) (fun X hX hres hwr => ?_)
  show gx_G X mi_x_T_readPart 0 [some (.inr 29), some (.inl a1)] [] w
  rw [x_T_readPart] at h
  refine gx_iload_n hX (gx_dt dt_mi_x_T_readPart 0 rfl) rfl ?_
  by_cases c1 : a1 = 68
  · have h := gx_ifp c1 h
    refine gx_lookup hX (off := 40) (tgt := 41) (gx_dt dt_mi_x_T_readPart 1 rfl) (by decide) (by rw [c1]; rfl) (by decide) ?_
    refine gx_aload_n hX (gx_dt dt_mi_x_T_readPart 5 rfl) rfl ?_
    refine gx_iconst hX (v := 1) (gx_dt dt_mi_x_T_readPart 6 rfl) (by decide) ?_
    obtain ⟨r2, e_r2, h⟩ := gx_bd h
    refine gx_callVi hX (gx_dt dt_mi_x_T_readPart 7 rfl) ln_T_80_x_T_readNumber mo_x_T_readNumber mv_x_T_readNumber (gx_rmb rfl) sh_x_29 ⟨_, _, rfl⟩ rfl (k_x_T_readNumber e_r2) rfl rfl (Nat.le_of_ble_eq_true rfl) ?_
    obtain ⟨c, h⟩ := gx_01 h
    obtain rfl := Option.some.inj h
    exact gx_zret hX (gx_dt dt_mi_x_T_readPart 8 rfl) rfl (gx_nar c) hres hwr
  have h := gx_ifn c1 h
  by_cases c3 : a1 = 75
  · have h := gx_ifp c3 h
    refine gx_lookup hX (off := 35) (tgt := 36) (gx_dt dt_mi_x_T_readPart 1 rfl) (by decide) (by rw [c3]; rfl) (by decide) ?_
    refine gx_aload_n hX (gx_dt dt_mi_x_T_readPart 2 rfl) rfl ?_
    obtain ⟨r4, e_r4, h⟩ := gx_bd h
    refine gx_callVi hX (gx_dt dt_mi_x_T_readPart 3 rfl) ln_T_77_x_T_readKind mo_x_T_readKind mv_x_T_readKind (gx_rmb rfl) sh_x_29 ⟨_, _, rfl⟩ rfl (k_x_T_readKind e_r4) rfl rfl (Nat.le_of_ble_eq_true rfl) ?_
    obtain ⟨c, h⟩ := gx_01 h
    obtain rfl := Option.some.inj h
    exact gx_zret hX (gx_dt dt_mi_x_T_readPart 4 rfl) rfl (gx_nar c) hres hwr
  have h := gx_ifn c3 h
  by_cases c5 : a1 = 78
  · have h := gx_ifp c5 h
    refine gx_lookup hX (off := 46) (tgt := 47) (gx_dt dt_mi_x_T_readPart 1 rfl) (by decide) (by rw [c5]; rfl) (by decide) ?_
    refine gx_aload_n hX (gx_dt dt_mi_x_T_readPart 9 rfl) rfl ?_
    refine gx_iconst hX (v := 2) (gx_dt dt_mi_x_T_readPart 10 rfl) (by decide) ?_
    obtain ⟨r6, e_r6, h⟩ := gx_bd h
    refine gx_callVi hX (gx_dt dt_mi_x_T_readPart 11 rfl) ln_T_80_x_T_readNumber mo_x_T_readNumber mv_x_T_readNumber (gx_rmb rfl) sh_x_29 ⟨_, _, rfl⟩ rfl (k_x_T_readNumber e_r6) rfl rfl (Nat.le_of_ble_eq_true rfl) ?_
    obtain ⟨c, h⟩ := gx_01 h
    obtain rfl := Option.some.inj h
    exact gx_zret hX (gx_dt dt_mi_x_T_readPart 12 rfl) rfl (gx_nar c) hres hwr
  have h := gx_ifn c5 h
  refine gx_lookup hX (off := 52) (tgt := 53) (gx_dt dt_mi_x_T_readPart 1 rfl) (by decide) (by show Op.lookupswitch.offset [(68, 40), (75, 35), (78, 46)] _ _ = _; rw [lv_osw (a := 68) c1 rfl, lv_osw (a := 75) c3 rfl, lv_osw (a := 78) c5 rfl]; rfl) (by decide) ?_
  refine gx_aload_n hX (gx_dt dt_mi_x_T_readPart 13 rfl) rfl ?_
  obtain ⟨r7, e_r7, h⟩ := gx_bd h
  refine gx_callVi hX (gx_dt dt_mi_x_T_readPart 14 rfl) ln_T_42_x_T_here mo_x_T_here mv_x_T_here (gx_rmb rfl) sh_x_29 ⟨_, _, rfl⟩ rfl (k_x_T_here e_r7) rfl rfl (Nat.le_of_ble_eq_true rfl) ?_
  refine gx_iload_n hX (gx_dt dt_mi_x_T_readPart 15 rfl) rfl ?_
  refine gx_ic_eq hX (tgt := 63) (gx_dt dt_mi_x_T_readPart 16 rfl) (by decide) (fun c8 => ?_) (fun c8 => ?_)
  · have h := gx_ifp c8 h
    refine gx_aload_n hX (gx_dt dt_mi_x_T_readPart 19 rfl) rfl ?_
    refine gx_dup hX (gx_dt dt_mi_x_T_readPart 20 rfl) ?_
    refine gx_geti hX fl_T_19 sh_x_29 rfl (gx_dt dt_mi_x_T_readPart 21 rfl) ?_
    refine gx_iconst hX (v := 1) (gx_dt dt_mi_x_T_readPart 22 rfl) (by decide) ?_
    refine gx_iadd hX (gx_dt dt_mi_x_T_readPart 23 rfl) ?_
    obtain ⟨w9, e_w9, h⟩ := gx_bd h
    refine gx_putp hX fl_T_19 (pf_T_2 _) sh_x_29 rfl e_w9 (gx_dt dt_mi_x_T_readPart 24 rfl) ?_
    refine gx_iconst hX (v := 1) (gx_dt dt_mi_x_T_readPart 25 rfl) (by decide) ?_
    obtain rfl := Option.some.inj h
    exact gx_zret hX (gx_dt dt_mi_x_T_readPart 26 rfl) rfl rfl hres hwr
  · have h := gx_ifn c8 h
    refine gx_iconst hX (v := 0) (gx_dt dt_mi_x_T_readPart 17 rfl) (by decide) ?_
    obtain rfl := Option.some.inj h
    exact gx_zret hX (gx_dt dt_mi_x_T_readPart 18 rfl) rfl rfl hres hwr
-- EachBearsPillar$Text.readStatement()Z
def x_T_readStatement_42 : Nat → Nat → Int32 → gx_Wd → Option (Int32 × gx_Wd)
  | 0, _, _, _ => none
  | n + 1, q1, b2, w =>
  (x_S_length q1 w).bind fun r1 =>
  if r1.1 ≤ b2 then
    some (1, r1.2)
  else
  (x_S_charAt q1 b2 r1.2).bind fun r3 =>
  (x_T_readPart r3.1 r3.2).bind fun r4 =>
  if r4.1 = 0 then
    some (0, r4.2)
  else
    (some (b2 + 1)).bind fun v6 =>
    (x_T_readStatement_42 n) q1 v6 r4.2
def x_T_readStatement (w : gx_Wd) : Option (Int32 × gx_Wd) :=
  (gx_put w 29 5 0).bind fun w1 =>
  (x_T_here w1).bind fun r2 =>
  (gx_put r2.2 29 3 r2.1).bind fun w3 =>
  (x_T_formOf (w3 29 3) w3).bind fun r4 =>
  (x_S_isEmpty r4.1 r4.2).bind fun r5 =>
  if r5.1 = 0 then
    (gx_put r5.2 29 2 ((r5.2 29 2) + 1)).bind fun w7 =>
    x_T_readStatement_42 6000 r4.1 0 w7
  else
  some (0, r5.2)
theorem t_x_T_readStatement_42 {X : gx_X} (hX : gx_Ok X mi_x_T_readStatement) {R : Int32 × gx_Wd} (hres : gx_res X = some (.inl R.1)) (hwr : gx_wr X = R.2) : ∀ (n : Nat) (q1 : Nat) (b2 : Int32) (w : gx_Wd), x_T_readStatement_42 n q1 b2 w = some R → gx_G X mi_x_T_readStatement 42 [some (.inr 29), some (.inr q1), some (.inl b2)] [] w := by
  intro n
  induction n with
  | zero => intro q1 b2 w h; rw [x_T_readStatement_42] at h; cases h
  | succ n ih =>
    intro q1 b2 w h
    rw [x_T_readStatement_42] at h
    refine gx_iload_n hX (gx_dt dt_mi_x_T_readStatement 24 rfl) rfl ?_
    refine gx_aload_n hX (gx_dt dt_mi_x_T_readStatement 25 rfl) rfl ?_
    obtain ⟨r1, e_r1, h⟩ := gx_bd h
    refine gx_callTi hX (gx_dt dt_mi_x_T_readStatement 26 rfl) ln_T_55_x_S_length mo_x_S_length mv_x_S_length (gx_rmb rfl) rfl rfl (gx_so_length e_r1) (k_x_S_length e_r1) rfl rfl (Nat.le_of_ble_eq_true rfl) ?_
    refine gx_ic_ge hX (tgt := 70) (gx_dt dt_mi_x_T_readStatement 27 rfl) (by decide) (fun c2 => ?_) (fun c2 => ?_)
    · have h := gx_ifp c2 h
      refine gx_iconst hX (v := 1) (gx_dt dt_mi_x_T_readStatement 38 rfl) (by decide) ?_
      obtain rfl := Option.some.inj h
      exact gx_zret hX (gx_dt dt_mi_x_T_readStatement 39 rfl) rfl rfl hres hwr
    · have h := gx_ifn c2 h
      refine gx_aload_n hX (gx_dt dt_mi_x_T_readStatement 28 rfl) rfl ?_
      refine gx_aload_n hX (gx_dt dt_mi_x_T_readStatement 29 rfl) rfl ?_
      refine gx_iload_n hX (gx_dt dt_mi_x_T_readStatement 30 rfl) rfl ?_
      obtain ⟨r3, e_r3, h⟩ := gx_bd h
      refine gx_callTi hX (gx_dt dt_mi_x_T_readStatement 31 rfl) ln_T_57_x_S_charAt mo_x_S_charAt mv_x_S_charAt (gx_rmb rfl) rfl rfl (gx_so_charAt e_r3) (k_x_S_charAt e_r3) rfl rfl (Nat.le_of_ble_eq_true rfl) ?_
      obtain ⟨r4, e_r4, h⟩ := gx_bd h
      refine gx_callVi hX (gx_dt dt_mi_x_T_readStatement 32 rfl) ln_T_61_x_T_readPart mo_x_T_readPart mv_x_T_readPart (gx_rmb rfl) sh_x_29 ⟨_, _, rfl⟩ rfl (k_x_T_readPart e_r4) rfl rfl (Nat.le_of_ble_eq_true rfl) ?_
      refine gx_if_ne hX (tgt := 64) (gx_dt dt_mi_x_T_readStatement 33 rfl) (by decide) (fun c5 => ?_) (fun c5 => ?_)
      · have h := gx_ifn c5 h
        obtain ⟨v6, e_v6, h⟩ := gx_bd h
        refine gx_iinc hX (v := v6) (ls' := [some (.inr 29), some (.inr q1), some (.inl v6)]) (gx_dt dt_mi_x_T_readStatement 36 rfl) rfl (gx_ii e_v6 (by decide)) (by decide) rfl ?_
        refine gx_goto hX (tgt := 42) (gx_dt dt_mi_x_T_readStatement 37 rfl) (by decide) ?_
        exact gx_weak (gx_leS (gx_leS (gx_leS gx_le0))) (ih _ _ _ h)
      · have h := gx_ifp c5 h
        refine gx_iconst hX (v := 0) (gx_dt dt_mi_x_T_readStatement 34 rfl) (by decide) ?_
        obtain rfl := Option.some.inj h
        exact gx_zret hX (gx_dt dt_mi_x_T_readStatement 35 rfl) rfl rfl hres hwr
theorem k_x_T_readStatement {w : gx_Wd} {R : Int32 × gx_Wd} (h : x_T_readStatement w = some R) : gx_MT mi_x_T_readStatement [.inr 29] w (some (.inl R.1)) R.2 := by
  refine gx_met (by decide +kernel) (Nat.le_of_ble_eq_true rfl) (fun X hX hres hwr => ?_)
  show gx_G X mi_x_T_readStatement 0 [some (.inr 29)] [] w
  rw [x_T_readStatement] at h
  refine gx_aload_n hX (gx_dt dt_mi_x_T_readStatement 0 rfl) rfl ?_
  refine gx_iconst hX (v := 0) (gx_dt dt_mi_x_T_readStatement 1 rfl) (by decide) ?_
  obtain ⟨w1, e_w1, h⟩ := gx_bd h
  refine gx_putp hX fl_T_28 (pf_T_5 _) sh_x_29 rfl e_w1 (gx_dt dt_mi_x_T_readStatement 2 rfl) ?_
  refine gx_aload_n hX (gx_dt dt_mi_x_T_readStatement 3 rfl) rfl ?_
  refine gx_aload_n hX (gx_dt dt_mi_x_T_readStatement 4 rfl) rfl ?_
  obtain ⟨r2, e_r2, h⟩ := gx_bd h
  refine gx_callVi hX (gx_dt dt_mi_x_T_readStatement 5 rfl) ln_T_42_x_T_here mo_x_T_here mv_x_T_here (gx_rmb rfl) sh_x_29 ⟨_, _, rfl⟩ rfl (k_x_T_here e_r2) rfl rfl (Nat.le_of_ble_eq_true rfl) ?_
  obtain ⟨w3, e_w3, h⟩ := gx_bd h
  refine gx_putp hX fl_T_22 (pf_T_3 _) sh_x_29 rfl e_w3 (gx_dt dt_mi_x_T_readStatement 6 rfl) ?_
  refine gx_aload_n hX (gx_dt dt_mi_x_T_readStatement 7 rfl) rfl ?_
  refine gx_geti hX fl_T_22 sh_x_29 rfl (gx_dt dt_mi_x_T_readStatement 8 rfl) ?_
  obtain ⟨r4, e_r4, h⟩ := gx_bd h
  refine gx_callSr hX (gx_dt dt_mi_x_T_readStatement 9 rfl) ln_T_46_x_T_formOf mo_x_T_formOf ms_x_T_formOf (gx_rmb rfl) rfl (k_x_T_formOf e_r4) rfl rfl (Nat.le_of_ble_eq_true rfl) ?_
  refine gx_astore_n hX (ls' := [some (.inr 29), some (.inr (r4.1))]) (gx_dt dt_mi_x_T_readStatement 10 rfl) (by decide) rfl ?_
  refine gx_aload_n hX (gx_dt dt_mi_x_T_readStatement 11 rfl) rfl ?_
  obtain ⟨r5, e_r5, h⟩ := gx_bd h
  refine gx_callTi hX (gx_dt dt_mi_x_T_readStatement 12 rfl) ln_T_50_x_S_isEmpty mo_x_S_isEmpty mv_x_S_isEmpty (gx_rmb rfl) rfl rfl (gx_so_isEmpty e_r5) (k_x_S_isEmpty e_r5) rfl rfl (Nat.le_of_ble_eq_true rfl) ?_
  refine gx_if_eq hX (tgt := 30) (gx_dt dt_mi_x_T_readStatement 13 rfl) (by decide) (fun c6 => ?_) (fun c6 => ?_)
  · have h := gx_ifp c6 h
    refine gx_aload_n hX (gx_dt dt_mi_x_T_readStatement 16 rfl) rfl ?_
    refine gx_dup hX (gx_dt dt_mi_x_T_readStatement 17 rfl) ?_
    refine gx_geti hX fl_T_19 sh_x_29 rfl (gx_dt dt_mi_x_T_readStatement 18 rfl) ?_
    refine gx_iconst hX (v := 1) (gx_dt dt_mi_x_T_readStatement 19 rfl) (by decide) ?_
    refine gx_iadd hX (gx_dt dt_mi_x_T_readStatement 20 rfl) ?_
    obtain ⟨w7, e_w7, h⟩ := gx_bd h
    refine gx_putp hX fl_T_19 (pf_T_2 _) sh_x_29 rfl e_w7 (gx_dt dt_mi_x_T_readStatement 21 rfl) ?_
    refine gx_iconst hX (v := 0) (gx_dt dt_mi_x_T_readStatement 22 rfl) (by decide) ?_
    refine gx_istore_n hX (ls' := [some (.inr 29), some (.inr (r4.1)), some (.inl (0))]) (gx_dt dt_mi_x_T_readStatement 23 rfl) (by decide) rfl ?_
    exact gx_weak (gx_leS (gx_leS (gx_leS gx_le0))) (t_x_T_readStatement_42 hX hres hwr _ _ _ _ h)
  · have h := gx_ifn c6 h
    refine gx_iconst hX (v := 0) (gx_dt dt_mi_x_T_readStatement 14 rfl) (by decide) ?_
    obtain rfl := Option.some.inj h
    exact gx_zret hX (gx_dt dt_mi_x_T_readStatement 15 rfl) rfl rfl hres hwr
-- EachBearsPillar$Text.faultOfForm()I
def x_T_faultOfForm_17 : Nat → Int32 → gx_Wd → Option (Int32 × gx_Wd)
  | 0, _, _ => none
  | n + 1, b1, w =>
  if 96 ≤ b1 then
    some (0, w)
  else
  if w 29 1 ≤ w 29 2 then
    some (0, w)
  else
  (x_T_readStatement w).bind fun r3 =>
  if r3.1 = 0 then
    some ((-1000) - (r3.2 29 2), r3.2)
  else
    (some (b1 + 1)).bind fun v5 =>
    (x_T_faultOfForm_17 n) v5 r3.2
def x_T_faultOfForm (w : gx_Wd) : Option (Int32 × gx_Wd) :=
  (x_T_rewind w).bind fun r1 =>
  if r1 29 1 = 0 then
    some ((-1000), r1)
  else
    x_T_faultOfForm_17 6000 0 r1
theorem t_x_T_faultOfForm_17 {X : gx_X} (hX : gx_Ok X mi_x_T_faultOfForm) {R : Int32 × gx_Wd} (hres : gx_res X = some (.inl R.1)) (hwr : gx_wr X = R.2) : ∀ (n : Nat) (b1 : Int32) (w : gx_Wd), x_T_faultOfForm_17 n b1 w = some R → gx_G X mi_x_T_faultOfForm 17 [some (.inr 29), some (.inl b1)] [] w := by
  intro n
  induction n with
  | zero => intro b1 w h; rw [x_T_faultOfForm_17] at h; cases h
  | succ n ih =>
    intro b1 w h
    rw [x_T_faultOfForm_17] at h
    refine gx_iload_n hX (gx_dt dt_mi_x_T_faultOfForm 9 rfl) rfl ?_
    refine gx_bipush hX (v := 96) (gx_dt dt_mi_x_T_faultOfForm 10 rfl) (by decide) ?_
    refine gx_ic_ge hX (tgt := 56) (gx_dt dt_mi_x_T_faultOfForm 11 rfl) (by decide) (fun c1 => ?_) (fun c1 => ?_)
    · have h := gx_ifp c1 h
      refine gx_iconst hX (v := 0) (gx_dt dt_mi_x_T_faultOfForm 27 rfl) (by decide) ?_
      obtain rfl := Option.some.inj h
      exact gx_iret hX (gx_dt dt_mi_x_T_faultOfForm 28 rfl) rfl hres hwr
    · have h := gx_ifn c1 h
      refine gx_aload_n hX (gx_dt dt_mi_x_T_faultOfForm 12 rfl) rfl ?_
      refine gx_geti hX fl_T_19 sh_x_29 rfl (gx_dt dt_mi_x_T_faultOfForm 13 rfl) ?_
      refine gx_aload_n hX (gx_dt dt_mi_x_T_faultOfForm 14 rfl) rfl ?_
      refine gx_geti hX fl_T_15 sh_x_29 rfl (gx_dt dt_mi_x_T_faultOfForm 15 rfl) ?_
      refine gx_ic_ge hX (tgt := 56) (gx_dt dt_mi_x_T_faultOfForm 16 rfl) (by decide) (fun c2 => ?_) (fun c2 => ?_)
      · have h := gx_ifp c2 h
        refine gx_iconst hX (v := 0) (gx_dt dt_mi_x_T_faultOfForm 27 rfl) (by decide) ?_
        obtain rfl := Option.some.inj h
        exact gx_iret hX (gx_dt dt_mi_x_T_faultOfForm 28 rfl) rfl hres hwr
      · have h := gx_ifn c2 h
        refine gx_aload_n hX (gx_dt dt_mi_x_T_faultOfForm 17 rfl) rfl ?_
        obtain ⟨r3, e_r3, h⟩ := gx_bd h
        refine gx_callVi hX (gx_dt dt_mi_x_T_faultOfForm 18 rfl) ln_T_38_x_T_readStatement mo_x_T_readStatement mv_x_T_readStatement (gx_rmb rfl) sh_x_29 ⟨_, _, rfl⟩ rfl (k_x_T_readStatement e_r3) rfl rfl (Nat.le_of_ble_eq_true rfl) ?_
        refine gx_if_ne hX (tgt := 50) (gx_dt dt_mi_x_T_faultOfForm 19 rfl) (by decide) (fun c4 => ?_) (fun c4 => ?_)
        · have h := gx_ifn c4 h
          obtain ⟨v5, e_v5, h⟩ := gx_bd h
          refine gx_iinc hX (v := v5) (ls' := [some (.inr 29), some (.inl v5)]) (gx_dt dt_mi_x_T_faultOfForm 25 rfl) rfl (gx_ii e_v5 (by decide)) (by decide) rfl ?_
          refine gx_goto hX (tgt := 17) (gx_dt dt_mi_x_T_faultOfForm 26 rfl) (by decide) ?_
          exact gx_weak (gx_leS (gx_leS gx_le0)) (ih _ _ h)
        · have h := gx_ifp c4 h
          refine gx_sipush hX (v := (-1000)) (gx_dt dt_mi_x_T_faultOfForm 20 rfl) (by decide) ?_
          refine gx_aload_n hX (gx_dt dt_mi_x_T_faultOfForm 21 rfl) rfl ?_
          refine gx_geti hX fl_T_19 sh_x_29 rfl (gx_dt dt_mi_x_T_faultOfForm 22 rfl) ?_
          refine gx_isub hX (gx_dt dt_mi_x_T_faultOfForm 23 rfl) ?_
          obtain rfl := Option.some.inj h
          exact gx_iret hX (gx_dt dt_mi_x_T_faultOfForm 24 rfl) rfl hres hwr
theorem k_x_T_faultOfForm {w : gx_Wd} {R : Int32 × gx_Wd} (h : x_T_faultOfForm w = some R) : gx_MT mi_x_T_faultOfForm [.inr 29] w (some (.inl R.1)) R.2 := by
  refine gx_met (by decide +kernel) (Nat.le_of_ble_eq_true rfl) (fun X hX hres hwr => ?_)
  show gx_G X mi_x_T_faultOfForm 0 [some (.inr 29)] [] w
  rw [x_T_faultOfForm] at h
  refine gx_aload_n hX (gx_dt dt_mi_x_T_faultOfForm 0 rfl) rfl ?_
  obtain ⟨r1, e_r1, h⟩ := gx_bd h
  refine gx_callVv hX (gx_dt dt_mi_x_T_faultOfForm 1 rfl) ln_T_35_x_T_rewind mo_x_T_rewind mv_x_T_rewind (gx_rmb rfl) sh_x_29 ⟨_, _, rfl⟩ rfl (k_x_T_rewind e_r1) rfl rfl (Nat.le_of_ble_eq_true rfl) ?_
  refine gx_aload_n hX (gx_dt dt_mi_x_T_faultOfForm 2 rfl) rfl ?_
  refine gx_geti hX fl_T_15 sh_x_29 rfl (gx_dt dt_mi_x_T_faultOfForm 3 rfl) ?_
  refine gx_if_ne hX (tgt := 15) (gx_dt dt_mi_x_T_faultOfForm 4 rfl) (by decide) (fun c2 => ?_) (fun c2 => ?_)
  · have h := gx_ifn c2 h
    refine gx_iconst hX (v := 0) (gx_dt dt_mi_x_T_faultOfForm 7 rfl) (by decide) ?_
    refine gx_istore_n hX (ls' := [some (.inr 29), some (.inl (0))]) (gx_dt dt_mi_x_T_faultOfForm 8 rfl) (by decide) rfl ?_
    exact gx_weak (gx_leS (gx_leS gx_le0)) (t_x_T_faultOfForm_17 hX hres hwr _ _ _ h)
  · have h := gx_ifp c2 h
    refine gx_sipush hX (v := (-1000)) (gx_dt dt_mi_x_T_faultOfForm 5 rfl) (by decide) ?_
    obtain rfl := Option.some.inj h
    exact gx_iret hX (gx_dt dt_mi_x_T_faultOfForm 6 rfl) rfl hres hwr
-- EachBearsPillar.copyCells([I[I)V
def x_E_copyCells_11 : Nat → Nat → Nat → Int32 → gx_Wd → Option (gx_Wd)
  | 0, _, _, _, _ => none
  | n + 1, q0, q1, b2, w =>
  (gx_aln sh_x q0).bind fun v1 =>
  if v1 ≤ b2 then
    some w
  else
  (gx_aln sh_x q1).bind fun v3 =>
  if v3 ≤ b2 then
    some w
  else
  (gx_ald sh_x w q0 b2).bind fun v5 =>
  (gx_ast sh_x w q1 b2 v5).bind fun w6 =>
  (some (b2 + 1)).bind fun v7 =>
  (x_E_copyCells_11 n) q0 q1 v7 w6
def x_E_copyCells (o0 : Nat) (o1 : Nat) (w : gx_Wd) : Option (gx_Wd) :=
  x_E_copyCells_11 6000 o0 o1 0 w
theorem t_x_E_copyCells_11 {X : gx_X} (hX : gx_Ok X mi_x_E_copyCells) {R : gx_Wd} (hres : gx_res X = none) (hwr : gx_wr X = R) : ∀ (n : Nat) (q0 : Nat) (q1 : Nat) (b2 : Int32) (w : gx_Wd), x_E_copyCells_11 n q0 q1 b2 w = some R → gx_G X mi_x_E_copyCells 11 [some (.inr q0), some (.inr q1), some (.inl b2)] [] w := by
  intro n
  induction n with
  | zero => intro q0 q1 b2 w h; rw [x_E_copyCells_11] at h; cases h
  | succ n ih =>
    intro q0 q1 b2 w h
    rw [x_E_copyCells_11] at h
    refine gx_iload_n hX (gx_dt dt_mi_x_E_copyCells 7 rfl) rfl ?_
    refine gx_aload_n hX (gx_dt dt_mi_x_E_copyCells 8 rfl) rfl ?_
    obtain ⟨v1, e_v1, h⟩ := gx_bd h
    refine gx_alen hX e_v1 (gx_dt dt_mi_x_E_copyCells 9 rfl) ?_
    refine gx_ic_ge hX (tgt := 35) (gx_dt dt_mi_x_E_copyCells 10 rfl) (by decide) (fun c2 => ?_) (fun c2 => ?_)
    · have h := gx_ifp c2 h
      obtain rfl := Option.some.inj h
      exact gx_vret hX (gx_dt dt_mi_x_E_copyCells 23 rfl) rfl hres hwr
    · have h := gx_ifn c2 h
      refine gx_iload_n hX (gx_dt dt_mi_x_E_copyCells 11 rfl) rfl ?_
      refine gx_aload_n hX (gx_dt dt_mi_x_E_copyCells 12 rfl) rfl ?_
      obtain ⟨v3, e_v3, h⟩ := gx_bd h
      refine gx_alen hX e_v3 (gx_dt dt_mi_x_E_copyCells 13 rfl) ?_
      refine gx_ic_ge hX (tgt := 35) (gx_dt dt_mi_x_E_copyCells 14 rfl) (by decide) (fun c4 => ?_) (fun c4 => ?_)
      · have h := gx_ifp c4 h
        obtain rfl := Option.some.inj h
        exact gx_vret hX (gx_dt dt_mi_x_E_copyCells 23 rfl) rfl hres hwr
      · have h := gx_ifn c4 h
        refine gx_aload_n hX (gx_dt dt_mi_x_E_copyCells 15 rfl) rfl ?_
        refine gx_iload_n hX (gx_dt dt_mi_x_E_copyCells 16 rfl) rfl ?_
        refine gx_aload_n hX (gx_dt dt_mi_x_E_copyCells 17 rfl) rfl ?_
        refine gx_iload_n hX (gx_dt dt_mi_x_E_copyCells 18 rfl) rfl ?_
        obtain ⟨v5, e_v5, h⟩ := gx_bd h
        refine gx_iald hX e_v5 (gx_dt dt_mi_x_E_copyCells 19 rfl) ?_
        obtain ⟨w6, e_w6, h⟩ := gx_bd h
        refine gx_iast hX e_w6 (gx_dt dt_mi_x_E_copyCells 20 rfl) ?_
        obtain ⟨v7, e_v7, h⟩ := gx_bd h
        refine gx_iinc hX (v := v7) (ls' := [some (.inr q0), some (.inr q1), some (.inl v7)]) (gx_dt dt_mi_x_E_copyCells 21 rfl) rfl (gx_ii e_v7 (by decide)) (by decide) rfl ?_
        refine gx_goto hX (tgt := 11) (gx_dt dt_mi_x_E_copyCells 22 rfl) (by decide) ?_
        exact gx_weak (gx_leS (gx_leS (gx_leS gx_le0))) (ih _ _ _ _ h)
theorem k_x_E_copyCells {o0 : Nat} {o1 : Nat} {w : gx_Wd} {R : gx_Wd} (h : x_E_copyCells o0 o1 w = some R) : gx_MT mi_x_E_copyCells [.inr o0, .inr o1] w none R := by
  refine gx_met (by decide +kernel) (Nat.le_of_ble_eq_true rfl) (fun X hX hres hwr => ?_)
  show gx_G X mi_x_E_copyCells 0 [some (.inr o0), some (.inr o1)] [] w
  rw [x_E_copyCells] at h
  refine gx_aload_n hX (gx_dt dt_mi_x_E_copyCells 0 rfl) rfl ?_
  refine gx_ifnull hX (gx_dt dt_mi_x_E_copyCells 1 rfl) ?_
  refine gx_aload_n hX (gx_dt dt_mi_x_E_copyCells 2 rfl) rfl ?_
  refine gx_ifnonnull hX (tgt := 9) (gx_dt dt_mi_x_E_copyCells 3 rfl) (by decide) ?_
  refine gx_iconst hX (v := 0) (gx_dt dt_mi_x_E_copyCells 5 rfl) (by decide) ?_
  refine gx_istore_n hX (ls' := [some (.inr o0), some (.inr o1), some (.inl (0))]) (gx_dt dt_mi_x_E_copyCells 6 rfl) (by decide) rfl ?_
  exact gx_weak (gx_leS (gx_leS (gx_leS gx_le0))) (t_x_E_copyCells_11 hX hres hwr _ _ _ _ _ h)
-- EachBearsPillar$Roof.become(LEachBearsPillar$Roof;)V
def x_R_become_8_1 (w : gx_Wd) : Option (gx_Wd) :=
  (gx_put w 8 0 (w 1 0)).bind fun w1 =>
  (gx_put w1 8 1 (w1 1 1)).bind fun w2 =>
  (gx_put w2 8 2 (w2 1 2)).bind fun w3 =>
  (x_E_copyCells 2 9 w3).bind fun r4 =>
  (x_E_copyCells 3 10 r4).bind fun r5 =>
  (x_E_copyCells 4 11 r5).bind fun r6 =>
  (x_E_copyCells 5 12 r6).bind fun r7 =>
  (x_E_copyCells 6 13 r7).bind fun r8 =>
  (x_E_copyCells 7 14 r8).bind fun r9 =>
  some r9
theorem k_x_R_become_8_1 {w : gx_Wd} {R : gx_Wd} (h : x_R_become_8_1 w = some R) : gx_MT mi_x_R_become_8_1 [.inr 8, .inr 1] w none R := by
  refine gx_met (by decide +kernel) (Nat.le_of_ble_eq_true rfl) (fun X hX hres hwr => ?_)
  show gx_G X mi_x_R_become_8_1 0 [some (.inr 8), some (.inr 1)] [] w
  rw [x_R_become_8_1] at h
  refine gx_aload_n hX (gx_dt dt_mi_x_R_become_8_1 0 rfl) rfl ?_
  refine gx_ifnonnull hX (tgt := 5) (gx_dt dt_mi_x_R_become_8_1 1 rfl) (by decide) ?_
  refine gx_aload_n hX (gx_dt dt_mi_x_R_become_8_1 3 rfl) rfl ?_
  refine gx_aload_n hX (gx_dt dt_mi_x_R_become_8_1 4 rfl) rfl ?_
  refine gx_geti hX fl_R_9 sh_x_1 rfl (gx_dt dt_mi_x_R_become_8_1 5 rfl) ?_
  obtain ⟨w1, e_w1, h⟩ := gx_bd h
  refine gx_putp hX fl_R_9 (pf_R_0 _) sh_x_8 rfl e_w1 (gx_dt dt_mi_x_R_become_8_1 6 rfl) ?_
  refine gx_aload_n hX (gx_dt dt_mi_x_R_become_8_1 7 rfl) rfl ?_
  refine gx_aload_n hX (gx_dt dt_mi_x_R_become_8_1 8 rfl) rfl ?_
  refine gx_geti hX fl_R_15 sh_x_1 rfl (gx_dt dt_mi_x_R_become_8_1 9 rfl) ?_
  obtain ⟨w2, e_w2, h⟩ := gx_bd h
  refine gx_putp hX fl_R_15 (pf_R_1 _) sh_x_8 rfl e_w2 (gx_dt dt_mi_x_R_become_8_1 10 rfl) ?_
  refine gx_aload_n hX (gx_dt dt_mi_x_R_become_8_1 11 rfl) rfl ?_
  refine gx_aload_n hX (gx_dt dt_mi_x_R_become_8_1 12 rfl) rfl ?_
  refine gx_geti hX fl_R_18 sh_x_1 rfl (gx_dt dt_mi_x_R_become_8_1 13 rfl) ?_
  obtain ⟨w3, e_w3, h⟩ := gx_bd h
  refine gx_putp hX fl_R_18 (pf_R_2 _) sh_x_8 rfl e_w3 (gx_dt dt_mi_x_R_become_8_1 14 rfl) ?_
  refine gx_aload_n hX (gx_dt dt_mi_x_R_become_8_1 15 rfl) rfl ?_
  refine gx_getr hX fl_R_21 sh_x_1 rfl (gx_dt dt_mi_x_R_become_8_1 16 rfl) ?_
  refine gx_aload_n hX (gx_dt dt_mi_x_R_become_8_1 17 rfl) rfl ?_
  refine gx_getr hX fl_R_21 sh_x_8 rfl (gx_dt dt_mi_x_R_become_8_1 18 rfl) ?_
  obtain ⟨r4, e_r4, h⟩ := gx_bd h
  refine gx_callSv hX (gx_dt dt_mi_x_R_become_8_1 19 rfl) ln_R_40_x_E_copyCells mo_x_E_copyCells ms_x_E_copyCells (gx_rmb rfl) rfl (k_x_E_copyCells e_r4) rfl rfl (Nat.le_of_ble_eq_true rfl) ?_
  refine gx_aload_n hX (gx_dt dt_mi_x_R_become_8_1 20 rfl) rfl ?_
  refine gx_getr hX fl_R_25 sh_x_1 rfl (gx_dt dt_mi_x_R_become_8_1 21 rfl) ?_
  refine gx_aload_n hX (gx_dt dt_mi_x_R_become_8_1 22 rfl) rfl ?_
  refine gx_getr hX fl_R_25 sh_x_8 rfl (gx_dt dt_mi_x_R_become_8_1 23 rfl) ?_
  obtain ⟨r5, e_r5, h⟩ := gx_bd h
  refine gx_callSv hX (gx_dt dt_mi_x_R_become_8_1 24 rfl) ln_R_40_x_E_copyCells mo_x_E_copyCells ms_x_E_copyCells (gx_rmb rfl) rfl (k_x_E_copyCells e_r5) rfl rfl (Nat.le_of_ble_eq_true rfl) ?_
  refine gx_aload_n hX (gx_dt dt_mi_x_R_become_8_1 25 rfl) rfl ?_
  refine gx_getr hX fl_R_28 sh_x_1 rfl (gx_dt dt_mi_x_R_become_8_1 26 rfl) ?_
  refine gx_aload_n hX (gx_dt dt_mi_x_R_become_8_1 27 rfl) rfl ?_
  refine gx_getr hX fl_R_28 sh_x_8 rfl (gx_dt dt_mi_x_R_become_8_1 28 rfl) ?_
  obtain ⟨r6, e_r6, h⟩ := gx_bd h
  refine gx_callSv hX (gx_dt dt_mi_x_R_become_8_1 29 rfl) ln_R_40_x_E_copyCells mo_x_E_copyCells ms_x_E_copyCells (gx_rmb rfl) rfl (k_x_E_copyCells e_r6) rfl rfl (Nat.le_of_ble_eq_true rfl) ?_
  refine gx_aload_n hX (gx_dt dt_mi_x_R_become_8_1 30 rfl) rfl ?_
  refine gx_getr hX fl_R_31 sh_x_1 rfl (gx_dt dt_mi_x_R_become_8_1 31 rfl) ?_
  refine gx_aload_n hX (gx_dt dt_mi_x_R_become_8_1 32 rfl) rfl ?_
  refine gx_getr hX fl_R_31 sh_x_8 rfl (gx_dt dt_mi_x_R_become_8_1 33 rfl) ?_
  obtain ⟨r7, e_r7, h⟩ := gx_bd h
  refine gx_callSv hX (gx_dt dt_mi_x_R_become_8_1 34 rfl) ln_R_40_x_E_copyCells mo_x_E_copyCells ms_x_E_copyCells (gx_rmb rfl) rfl (k_x_E_copyCells e_r7) rfl rfl (Nat.le_of_ble_eq_true rfl) ?_
  refine gx_aload_n hX (gx_dt dt_mi_x_R_become_8_1 35 rfl) rfl ?_
  refine gx_getr hX fl_R_34 sh_x_1 rfl (gx_dt dt_mi_x_R_become_8_1 36 rfl) ?_
  refine gx_aload_n hX (gx_dt dt_mi_x_R_become_8_1 37 rfl) rfl ?_
  refine gx_getr hX fl_R_34 sh_x_8 rfl (gx_dt dt_mi_x_R_become_8_1 38 rfl) ?_
  obtain ⟨r8, e_r8, h⟩ := gx_bd h
  refine gx_callSv hX (gx_dt dt_mi_x_R_become_8_1 39 rfl) ln_R_40_x_E_copyCells mo_x_E_copyCells ms_x_E_copyCells (gx_rmb rfl) rfl (k_x_E_copyCells e_r8) rfl rfl (Nat.le_of_ble_eq_true rfl) ?_
  refine gx_aload_n hX (gx_dt dt_mi_x_R_become_8_1 40 rfl) rfl ?_
  refine gx_getr hX fl_R_37 sh_x_1 rfl (gx_dt dt_mi_x_R_become_8_1 41 rfl) ?_
  refine gx_aload_n hX (gx_dt dt_mi_x_R_become_8_1 42 rfl) rfl ?_
  refine gx_getr hX fl_R_37 sh_x_8 rfl (gx_dt dt_mi_x_R_become_8_1 43 rfl) ?_
  obtain ⟨r9, e_r9, h⟩ := gx_bd h
  refine gx_callSv hX (gx_dt dt_mi_x_R_become_8_1 44 rfl) ln_R_40_x_E_copyCells mo_x_E_copyCells ms_x_E_copyCells (gx_rmb rfl) rfl (k_x_E_copyCells e_r9) rfl rfl (Nat.le_of_ble_eq_true rfl) ?_
  obtain rfl := Option.some.inj h
  exact gx_vret hX (gx_dt dt_mi_x_R_become_8_1 45 rfl) rfl hres hwr
-- EachBearsPillar$Roof.become(LEachBearsPillar$Roof;)V
def x_R_become_1_8 (w : gx_Wd) : Option (gx_Wd) :=
  (gx_put w 1 0 (w 8 0)).bind fun w1 =>
  (gx_put w1 1 1 (w1 8 1)).bind fun w2 =>
  (gx_put w2 1 2 (w2 8 2)).bind fun w3 =>
  (x_E_copyCells 9 2 w3).bind fun r4 =>
  (x_E_copyCells 10 3 r4).bind fun r5 =>
  (x_E_copyCells 11 4 r5).bind fun r6 =>
  (x_E_copyCells 12 5 r6).bind fun r7 =>
  (x_E_copyCells 13 6 r7).bind fun r8 =>
  (x_E_copyCells 14 7 r8).bind fun r9 =>
  some r9
theorem k_x_R_become_1_8 {w : gx_Wd} {R : gx_Wd} (h : x_R_become_1_8 w = some R) : gx_MT mi_x_R_become_1_8 [.inr 1, .inr 8] w none R := by
  refine gx_met (by decide +kernel) (Nat.le_of_ble_eq_true rfl) (fun X hX hres hwr => ?_)
  show gx_G X mi_x_R_become_1_8 0 [some (.inr 1), some (.inr 8)] [] w
  rw [x_R_become_1_8] at h
  refine gx_aload_n hX (gx_dt dt_mi_x_R_become_1_8 0 rfl) rfl ?_
  refine gx_ifnonnull hX (tgt := 5) (gx_dt dt_mi_x_R_become_1_8 1 rfl) (by decide) ?_
  refine gx_aload_n hX (gx_dt dt_mi_x_R_become_1_8 3 rfl) rfl ?_
  refine gx_aload_n hX (gx_dt dt_mi_x_R_become_1_8 4 rfl) rfl ?_
  refine gx_geti hX fl_R_9 sh_x_8 rfl (gx_dt dt_mi_x_R_become_1_8 5 rfl) ?_
  obtain ⟨w1, e_w1, h⟩ := gx_bd h
  refine gx_putp hX fl_R_9 (pf_R_0 _) sh_x_1 rfl e_w1 (gx_dt dt_mi_x_R_become_1_8 6 rfl) ?_
  refine gx_aload_n hX (gx_dt dt_mi_x_R_become_1_8 7 rfl) rfl ?_
  refine gx_aload_n hX (gx_dt dt_mi_x_R_become_1_8 8 rfl) rfl ?_
  refine gx_geti hX fl_R_15 sh_x_8 rfl (gx_dt dt_mi_x_R_become_1_8 9 rfl) ?_
  obtain ⟨w2, e_w2, h⟩ := gx_bd h
  refine gx_putp hX fl_R_15 (pf_R_1 _) sh_x_1 rfl e_w2 (gx_dt dt_mi_x_R_become_1_8 10 rfl) ?_
  refine gx_aload_n hX (gx_dt dt_mi_x_R_become_1_8 11 rfl) rfl ?_
  refine gx_aload_n hX (gx_dt dt_mi_x_R_become_1_8 12 rfl) rfl ?_
  refine gx_geti hX fl_R_18 sh_x_8 rfl (gx_dt dt_mi_x_R_become_1_8 13 rfl) ?_
  obtain ⟨w3, e_w3, h⟩ := gx_bd h
  refine gx_putp hX fl_R_18 (pf_R_2 _) sh_x_1 rfl e_w3 (gx_dt dt_mi_x_R_become_1_8 14 rfl) ?_
  refine gx_aload_n hX (gx_dt dt_mi_x_R_become_1_8 15 rfl) rfl ?_
  refine gx_getr hX fl_R_21 sh_x_8 rfl (gx_dt dt_mi_x_R_become_1_8 16 rfl) ?_
  refine gx_aload_n hX (gx_dt dt_mi_x_R_become_1_8 17 rfl) rfl ?_
  refine gx_getr hX fl_R_21 sh_x_1 rfl (gx_dt dt_mi_x_R_become_1_8 18 rfl) ?_
  obtain ⟨r4, e_r4, h⟩ := gx_bd h
  refine gx_callSv hX (gx_dt dt_mi_x_R_become_1_8 19 rfl) ln_R_40_x_E_copyCells mo_x_E_copyCells ms_x_E_copyCells (gx_rmb rfl) rfl (k_x_E_copyCells e_r4) rfl rfl (Nat.le_of_ble_eq_true rfl) ?_
  refine gx_aload_n hX (gx_dt dt_mi_x_R_become_1_8 20 rfl) rfl ?_
  refine gx_getr hX fl_R_25 sh_x_8 rfl (gx_dt dt_mi_x_R_become_1_8 21 rfl) ?_
  refine gx_aload_n hX (gx_dt dt_mi_x_R_become_1_8 22 rfl) rfl ?_
  refine gx_getr hX fl_R_25 sh_x_1 rfl (gx_dt dt_mi_x_R_become_1_8 23 rfl) ?_
  obtain ⟨r5, e_r5, h⟩ := gx_bd h
  refine gx_callSv hX (gx_dt dt_mi_x_R_become_1_8 24 rfl) ln_R_40_x_E_copyCells mo_x_E_copyCells ms_x_E_copyCells (gx_rmb rfl) rfl (k_x_E_copyCells e_r5) rfl rfl (Nat.le_of_ble_eq_true rfl) ?_
  refine gx_aload_n hX (gx_dt dt_mi_x_R_become_1_8 25 rfl) rfl ?_
  refine gx_getr hX fl_R_28 sh_x_8 rfl (gx_dt dt_mi_x_R_become_1_8 26 rfl) ?_
  refine gx_aload_n hX (gx_dt dt_mi_x_R_become_1_8 27 rfl) rfl ?_
  refine gx_getr hX fl_R_28 sh_x_1 rfl (gx_dt dt_mi_x_R_become_1_8 28 rfl) ?_
  obtain ⟨r6, e_r6, h⟩ := gx_bd h
  refine gx_callSv hX (gx_dt dt_mi_x_R_become_1_8 29 rfl) ln_R_40_x_E_copyCells mo_x_E_copyCells ms_x_E_copyCells (gx_rmb rfl) rfl (k_x_E_copyCells e_r6) rfl rfl (Nat.le_of_ble_eq_true rfl) ?_
  refine gx_aload_n hX (gx_dt dt_mi_x_R_become_1_8 30 rfl) rfl ?_
  refine gx_getr hX fl_R_31 sh_x_8 rfl (gx_dt dt_mi_x_R_become_1_8 31 rfl) ?_
  refine gx_aload_n hX (gx_dt dt_mi_x_R_become_1_8 32 rfl) rfl ?_
  refine gx_getr hX fl_R_31 sh_x_1 rfl (gx_dt dt_mi_x_R_become_1_8 33 rfl) ?_
  obtain ⟨r7, e_r7, h⟩ := gx_bd h
  refine gx_callSv hX (gx_dt dt_mi_x_R_become_1_8 34 rfl) ln_R_40_x_E_copyCells mo_x_E_copyCells ms_x_E_copyCells (gx_rmb rfl) rfl (k_x_E_copyCells e_r7) rfl rfl (Nat.le_of_ble_eq_true rfl) ?_
  refine gx_aload_n hX (gx_dt dt_mi_x_R_become_1_8 35 rfl) rfl ?_
  refine gx_getr hX fl_R_34 sh_x_8 rfl (gx_dt dt_mi_x_R_become_1_8 36 rfl) ?_
  refine gx_aload_n hX (gx_dt dt_mi_x_R_become_1_8 37 rfl) rfl ?_
  refine gx_getr hX fl_R_34 sh_x_1 rfl (gx_dt dt_mi_x_R_become_1_8 38 rfl) ?_
  obtain ⟨r8, e_r8, h⟩ := gx_bd h
  refine gx_callSv hX (gx_dt dt_mi_x_R_become_1_8 39 rfl) ln_R_40_x_E_copyCells mo_x_E_copyCells ms_x_E_copyCells (gx_rmb rfl) rfl (k_x_E_copyCells e_r8) rfl rfl (Nat.le_of_ble_eq_true rfl) ?_
  refine gx_aload_n hX (gx_dt dt_mi_x_R_become_1_8 40 rfl) rfl ?_
  refine gx_getr hX fl_R_37 sh_x_8 rfl (gx_dt dt_mi_x_R_become_1_8 41 rfl) ?_
  refine gx_aload_n hX (gx_dt dt_mi_x_R_become_1_8 42 rfl) rfl ?_
  refine gx_getr hX fl_R_37 sh_x_1 rfl (gx_dt dt_mi_x_R_become_1_8 43 rfl) ?_
  obtain ⟨r9, e_r9, h⟩ := gx_bd h
  refine gx_callSv hX (gx_dt dt_mi_x_R_become_1_8 44 rfl) ln_R_40_x_E_copyCells mo_x_E_copyCells ms_x_E_copyCells (gx_rmb rfl) rfl (k_x_E_copyCells e_r9) rfl rfl (Nat.le_of_ble_eq_true rfl) ?_
  obtain rfl := Option.some.inj h
  exact gx_vret hX (gx_dt dt_mi_x_R_become_1_8 45 rfl) rfl hres hwr
