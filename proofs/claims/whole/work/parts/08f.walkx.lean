-- EachBearsPillar.needed()I
def x_E_needed_60 (K23 : Int32 → Int32 → gx_Wd → Option (Int32 × gx_Wd)) (b1 : Int32) (b2 : Int32) (w : gx_Wd) : Option (Int32 × gx_Wd) :=
  (some (b2 + 1)).bind fun v1 =>
  K23 b1 v1 w
def x_E_needed_23 : Nat → Int32 → Int32 → gx_Wd → Option (Int32 × gx_Wd)
  | 0, _, _, _ => none
  | n + 1, b1, b2, w =>
  if w 1 0 ≤ b2 then
    some (b1, w)
  else
  (gx_put w 22 3 (1 <<< (b2 &&& 31))).bind fun w2 =>
  (x_M_isFirm w2).bind fun r3 =>
  if r3.1 = 0 then
    (some (b1 ||| (1 <<< (b2 &&& 31)))).bind fun v5 =>
    x_E_needed_60 (x_E_needed_23 n) v5 b2 r3.2
  else
    x_E_needed_60 (x_E_needed_23 n) b1 b2 r3.2
def x_E_needed (w : gx_Wd) : Option (Int32 × gx_Wd) :=
  (x_M_asTold w).bind fun r1 =>
  (x_M_isFirm r1).bind fun r2 =>
  if r2.1 = 0 then
    some (0, r2.2)
  else
    x_E_needed_23 6000 0 0 r2.2
theorem t_x_E_needed_60 {X : gx_X} (hX : gx_Ok X mi_x_E_needed) {R : Int32 × gx_Wd} (hres : gx_res X = some (.inl R.1)) (hwr : gx_wr X = R.2) {K23 : Int32 → Int32 → gx_Wd → Option (Int32 × gx_Wd)} (hK23 : ∀ (b1 : Int32) (b2 : Int32) (w : gx_Wd), K23 b1 b2 w = some R → gx_G X mi_x_E_needed 23 [some (.inr 0), some (.inl b1), some (.inl b2)] [] w) (b1 : Int32) (b2 : Int32) (w : gx_Wd) (h : x_E_needed_60 K23 b1 b2 w = some R) : gx_G X mi_x_E_needed 60 [some (.inr 0), some (.inl b1), some (.inl b2)] [] w := by
  rw [x_E_needed_60] at h
  obtain ⟨v1, e_v1, h⟩ := gx_bd h
  refine gx_iinc hX (v := v1) (ls' := [some (.inr 0), some (.inl b1), some (.inl v1)]) (gx_dt dt_mi_x_E_needed 34 rfl) rfl (gx_ii e_v1 (by decide)) (by decide) rfl ?_
  refine gx_goto hX (tgt := 23) (gx_dt dt_mi_x_E_needed 35 rfl) (by decide) ?_
  exact gx_weak (gx_leS (gx_leS (gx_leS gx_le0))) (hK23 _ _ _ h)
theorem t_x_E_needed_23 {X : gx_X} (hX : gx_Ok X mi_x_E_needed) {R : Int32 × gx_Wd} (hres : gx_res X = some (.inl R.1)) (hwr : gx_wr X = R.2) : ∀ (n : Nat) (b1 : Int32) (b2 : Int32) (w : gx_Wd), x_E_needed_23 n b1 b2 w = some R → gx_G X mi_x_E_needed 23 [some (.inr 0), some (.inl b1), some (.inl b2)] [] w := by
  intro n
  induction n with
  | zero => intro b1 b2 w h; rw [x_E_needed_23] at h; cases h
  | succ n ih =>
    intro b1 b2 w h
    rw [x_E_needed_23] at h
    refine gx_iload_n hX (gx_dt dt_mi_x_E_needed 13 rfl) rfl ?_
    refine gx_aload_n hX (gx_dt dt_mi_x_E_needed 14 rfl) rfl ?_
    refine gx_getr hX fl_E_10 sh_x_0 rfl (gx_dt dt_mi_x_E_needed 15 rfl) ?_
    refine gx_geti hX fl_E_158 sh_x_1 rfl (gx_dt dt_mi_x_E_needed 16 rfl) ?_
    refine gx_ic_ge hX (tgt := 66) (gx_dt dt_mi_x_E_needed 17 rfl) (by decide) (fun c1 => ?_) (fun c1 => ?_)
    · have h := gx_ifp c1 h
      refine gx_iload_n hX (gx_dt dt_mi_x_E_needed 36 rfl) rfl ?_
      obtain rfl := Option.some.inj h
      exact gx_iret hX (gx_dt dt_mi_x_E_needed 37 rfl) rfl hres hwr
    · have h := gx_ifn c1 h
      refine gx_aload_n hX (gx_dt dt_mi_x_E_needed 18 rfl) rfl ?_
      refine gx_getr hX fl_E_31 sh_x_0 rfl (gx_dt dt_mi_x_E_needed 19 rfl) ?_
      refine gx_iconst hX (v := 1) (gx_dt dt_mi_x_E_needed 20 rfl) (by decide) ?_
      refine gx_iload_n hX (gx_dt dt_mi_x_E_needed 21 rfl) rfl ?_
      refine gx_ishl hX (gx_dt dt_mi_x_E_needed 22 rfl) ?_
      obtain ⟨w2, e_w2, h⟩ := gx_bd h
      refine gx_putp hX fl_E_187 (pf_M_3 _) sh_x_22 rfl e_w2 (gx_dt dt_mi_x_E_needed 23 rfl) ?_
      refine gx_aload_n hX (gx_dt dt_mi_x_E_needed 24 rfl) rfl ?_
      refine gx_getr hX fl_E_31 sh_x_0 rfl (gx_dt dt_mi_x_E_needed 25 rfl) ?_
      obtain ⟨r3, e_r3, h⟩ := gx_bd h
      refine gx_callVi hX (gx_dt dt_mi_x_E_needed 26 rfl) ln_E_148_x_M_isFirm mo_x_M_isFirm mv_x_M_isFirm (gx_rmb rfl) sh_x_22 ⟨_, _, rfl⟩ rfl (k_x_M_isFirm e_r3) rfl rfl (Nat.le_of_ble_eq_true rfl) ?_
      refine gx_if_ne hX (tgt := 60) (gx_dt dt_mi_x_E_needed 27 rfl) (by decide) (fun c4 => ?_) (fun c4 => ?_)
      · have h := gx_ifn c4 h
        exact gx_weak (gx_leS (gx_leS (gx_leS gx_le0))) (t_x_E_needed_60 hX hres hwr ih _ _ _ h)
      · have h := gx_ifp c4 h
        refine gx_iload_n hX (gx_dt dt_mi_x_E_needed 28 rfl) rfl ?_
        refine gx_iconst hX (v := 1) (gx_dt dt_mi_x_E_needed 29 rfl) (by decide) ?_
        refine gx_iload_n hX (gx_dt dt_mi_x_E_needed 30 rfl) rfl ?_
        refine gx_ishl hX (gx_dt dt_mi_x_E_needed 31 rfl) ?_
        refine gx_ior hX (gx_dt dt_mi_x_E_needed 32 rfl) ?_
        obtain ⟨v5, e_v5, h⟩ := gx_bd h
        refine gx_top e_v5 ?_
        refine gx_istore_n hX (ls' := [some (.inr 0), some (.inl v5), some (.inl b2)]) (gx_dt dt_mi_x_E_needed 33 rfl) (by decide) rfl ?_
        exact gx_weak (gx_leS (gx_leS (gx_leS gx_le0))) (t_x_E_needed_60 hX hres hwr ih _ _ _ h)
theorem k_x_E_needed {w : gx_Wd} {R : Int32 × gx_Wd} (h : x_E_needed w = some R) : gx_MT mi_x_E_needed [.inr 0] w (some (.inl R.1)) R.2 := by
  refine gx_met (by decide +kernel) (Nat.le_of_ble_eq_true rfl) (fun X hX hres hwr => ?_)
  show gx_G X mi_x_E_needed 0 [some (.inr 0)] [] w
  rw [x_E_needed] at h
  refine gx_aload_n hX (gx_dt dt_mi_x_E_needed 0 rfl) rfl ?_
  refine gx_getr hX fl_E_31 sh_x_0 rfl (gx_dt dt_mi_x_E_needed 1 rfl) ?_
  obtain ⟨r1, e_r1, h⟩ := gx_bd h
  refine gx_callVv hX (gx_dt dt_mi_x_E_needed 2 rfl) ln_E_115_x_M_asTold mo_x_M_asTold mv_x_M_asTold (gx_rmb rfl) sh_x_22 ⟨_, _, rfl⟩ rfl (k_x_M_asTold e_r1) rfl rfl (Nat.le_of_ble_eq_true rfl) ?_
  refine gx_aload_n hX (gx_dt dt_mi_x_E_needed 3 rfl) rfl ?_
  refine gx_getr hX fl_E_31 sh_x_0 rfl (gx_dt dt_mi_x_E_needed 4 rfl) ?_
  obtain ⟨r2, e_r2, h⟩ := gx_bd h
  refine gx_callVi hX (gx_dt dt_mi_x_E_needed 5 rfl) ln_E_148_x_M_isFirm mo_x_M_isFirm mv_x_M_isFirm (gx_rmb rfl) sh_x_22 ⟨_, _, rfl⟩ rfl (k_x_M_isFirm e_r2) rfl rfl (Nat.le_of_ble_eq_true rfl) ?_
  refine gx_if_ne hX (tgt := 19) (gx_dt dt_mi_x_E_needed 6 rfl) (by decide) (fun c3 => ?_) (fun c3 => ?_)
  · have h := gx_ifn c3 h
    refine gx_iconst hX (v := 0) (gx_dt dt_mi_x_E_needed 9 rfl) (by decide) ?_
    refine gx_istore_n hX (ls' := [some (.inr 0), some (.inl (0))]) (gx_dt dt_mi_x_E_needed 10 rfl) (by decide) rfl ?_
    refine gx_iconst hX (v := 0) (gx_dt dt_mi_x_E_needed 11 rfl) (by decide) ?_
    refine gx_istore_n hX (ls' := [some (.inr 0), some (.inl (0)), some (.inl (0))]) (gx_dt dt_mi_x_E_needed 12 rfl) (by decide) rfl ?_
    exact gx_weak (gx_leS (gx_leS (gx_leS gx_le0))) (t_x_E_needed_23 hX hres hwr _ _ _ _ h)
  · have h := gx_ifp c3 h
    refine gx_iconst hX (v := 0) (gx_dt dt_mi_x_E_needed 7 rfl) (by decide) ?_
    obtain rfl := Option.some.inj h
    exact gx_iret hX (gx_dt dt_mi_x_E_needed 8 rfl) rfl hres hwr
-- EachBearsPillar.more(I)I
def x_E_more_37 : Nat → Int32 → Int32 → Int32 → gx_Wd → Option (Int32 × gx_Wd)
  | 0, _, _, _, _ => none
  | n + 1, b1, b2, b3, w =>
  if 99 < b3 then
    some (b2, w)
  else
  (x_E_cell 6 b1 w).bind fun r2 =>
  (x_E_setCell 25 b1 (r2.1 + b3) r2.2).bind fun r3 =>
  (x_M_weigh r3.2).bind fun r4 =>
  (x_M_isBorne r4).bind fun r5 =>
  if r5.1 = 0 then
    some (b2, r5.2)
  else
    (some (b3 + 1)).bind fun v7 =>
    (x_E_more_37 n) b1 b3 v7 r5.2
def x_E_more (a1 : Int32) (w : gx_Wd) : Option (Int32 × gx_Wd) :=
  (x_E_isSpan a1 w).bind fun r1 =>
  if r1.1 = 0 then
    (x_E_refuse (-1) r1.2).bind fun r6 =>
    some (r6.1, r6.2)
  else
    (x_M_asTold r1.2).bind fun r3 =>
    (x_M_isFirm r3).bind fun r4 =>
    if r4.1 = 0 then
      some ((-9), r4.2)
    else
      x_E_more_37 6000 a1 0 1 r4.2
theorem t_x_E_more_37 {X : gx_X} (hX : gx_Ok X mi_x_E_more) {R : Int32 × gx_Wd} (hres : gx_res X = some (.inl R.1)) (hwr : gx_wr X = R.2) : ∀ (n : Nat) (b1 : Int32) (b2 : Int32) (b3 : Int32) (w : gx_Wd), x_E_more_37 n b1 b2 b3 w = some R → gx_G X mi_x_E_more 37 [some (.inr 0), some (.inl b1), some (.inl b2), some (.inl b3)] [] w := by
  intro n
  induction n with
  | zero => intro b1 b2 b3 w h; rw [x_E_more_37] at h; cases h
  | succ n ih =>
    intro b1 b2 b3 w h
    rw [x_E_more_37] at h
    refine gx_iload_n hX (gx_dt dt_mi_x_E_more 20 rfl) rfl ?_
    refine gx_bipush hX (v := 99) (gx_dt dt_mi_x_E_more 21 rfl) (by decide) ?_
    refine gx_ic_gt hX (tgt := 95) (gx_dt dt_mi_x_E_more 22 rfl) (by decide) (fun c1 => ?_) (fun c1 => ?_)
    · have h := gx_ifp c1 h
      refine gx_iload_n hX (gx_dt dt_mi_x_E_more 49 rfl) rfl ?_
      obtain rfl := Option.some.inj h
      exact gx_iret hX (gx_dt dt_mi_x_E_more 50 rfl) rfl hres hwr
    · have h := gx_ifn c1 h
      refine gx_aload_n hX (gx_dt dt_mi_x_E_more 23 rfl) rfl ?_
      refine gx_getr hX fl_E_31 sh_x_0 rfl (gx_dt dt_mi_x_E_more 24 rfl) ?_
      refine gx_getr hX fl_E_190 sh_x_22 rfl (gx_dt dt_mi_x_E_more 25 rfl) ?_
      refine gx_iload_n hX (gx_dt dt_mi_x_E_more 26 rfl) rfl ?_
      refine gx_aload_n hX (gx_dt dt_mi_x_E_more 27 rfl) rfl ?_
      refine gx_getr hX fl_E_10 sh_x_0 rfl (gx_dt dt_mi_x_E_more 28 rfl) ?_
      refine gx_getr hX fl_E_90 sh_x_1 rfl (gx_dt dt_mi_x_E_more 29 rfl) ?_
      refine gx_iload_n hX (gx_dt dt_mi_x_E_more 30 rfl) rfl ?_
      obtain ⟨r2, e_r2, h⟩ := gx_bd h
      refine gx_callSi hX (gx_dt dt_mi_x_E_more 31 rfl) ln_E_125_x_E_cell mo_x_E_cell ms_x_E_cell (gx_rmb rfl) rfl (k_x_E_cell e_r2) rfl rfl (Nat.le_of_ble_eq_true rfl) ?_
      refine gx_iload_n hX (gx_dt dt_mi_x_E_more 32 rfl) rfl ?_
      refine gx_iadd hX (gx_dt dt_mi_x_E_more 33 rfl) ?_
      obtain ⟨r3, e_r3, h⟩ := gx_bd h
      refine gx_callSi hX (gx_dt dt_mi_x_E_more 34 rfl) ln_E_174_x_E_setCell mo_x_E_setCell ms_x_E_setCell (gx_rmb rfl) rfl (k_x_E_setCell e_r3) rfl rfl (Nat.le_of_ble_eq_true rfl) ?_
      refine gx_pop hX (gx_dt dt_mi_x_E_more 35 rfl) ?_
      refine gx_aload_n hX (gx_dt dt_mi_x_E_more 36 rfl) rfl ?_
      refine gx_getr hX fl_E_31 sh_x_0 rfl (gx_dt dt_mi_x_E_more 37 rfl) ?_
      obtain ⟨r4, e_r4, h⟩ := gx_bd h
      refine gx_callVv hX (gx_dt dt_mi_x_E_more 38 rfl) ln_E_191_x_M_weigh mo_x_M_weigh mv_x_M_weigh (gx_rmb rfl) sh_x_22 ⟨_, _, rfl⟩ rfl (k_x_M_weigh e_r4) rfl rfl (Nat.le_of_ble_eq_true rfl) ?_
      refine gx_aload_n hX (gx_dt dt_mi_x_E_more 39 rfl) rfl ?_
      refine gx_getr hX fl_E_31 sh_x_0 rfl (gx_dt dt_mi_x_E_more 40 rfl) ?_
      obtain ⟨r5, e_r5, h⟩ := gx_bd h
      refine gx_callVi hX (gx_dt dt_mi_x_E_more 41 rfl) ln_E_194_x_M_isBorne mo_x_M_isBorne mv_x_M_isBorne (gx_rmb rfl) sh_x_22 ⟨_, _, rfl⟩ rfl (k_x_M_isBorne e_r5) rfl rfl (Nat.le_of_ble_eq_true rfl) ?_
      refine gx_if_ne hX (tgt := 87) (gx_dt dt_mi_x_E_more 42 rfl) (by decide) (fun c6 => ?_) (fun c6 => ?_)
      · have h := gx_ifn c6 h
        refine gx_iload_n hX (gx_dt dt_mi_x_E_more 45 rfl) rfl ?_
        refine gx_istore_n hX (ls' := [some (.inr 0), some (.inl b1), some (.inl b3), some (.inl b3)]) (gx_dt dt_mi_x_E_more 46 rfl) (by decide) rfl ?_
        obtain ⟨v7, e_v7, h⟩ := gx_bd h
        refine gx_iinc hX (v := v7) (ls' := [some (.inr 0), some (.inl b1), some (.inl b3), some (.inl v7)]) (gx_dt dt_mi_x_E_more 47 rfl) rfl (gx_ii e_v7 (by decide)) (by decide) rfl ?_
        refine gx_goto hX (tgt := 37) (gx_dt dt_mi_x_E_more 48 rfl) (by decide) ?_
        exact gx_weak (gx_leS (gx_leS (gx_leS (gx_leS gx_le0)))) (ih _ _ _ _ h)
      · have h := gx_ifp c6 h
        refine gx_iload_n hX (gx_dt dt_mi_x_E_more 43 rfl) rfl ?_
        obtain rfl := Option.some.inj h
        exact gx_iret hX (gx_dt dt_mi_x_E_more 44 rfl) rfl hres hwr
theorem k_x_E_more {a1 : Int32} {w : gx_Wd} {R : Int32 × gx_Wd} (h : x_E_more a1 w = some R) : gx_MT mi_x_E_more [.inr 0, .inl a1] w (some (.inl R.1)) R.2 := by
  refine gx_met (by decide +kernel) (Nat.le_of_ble_eq_true rfl) (fun X hX hres hwr => ?_)
  show gx_G X mi_x_E_more 0 [some (.inr 0), some (.inl a1)] [] w
  rw [x_E_more] at h
  refine gx_iload_n hX (gx_dt dt_mi_x_E_more 0 rfl) rfl ?_
  obtain ⟨r1, e_r1, h⟩ := gx_bd h
  refine gx_callSi hX (gx_dt dt_mi_x_E_more 1 rfl) ln_E_86_x_E_isSpan mo_x_E_isSpan ms_x_E_isSpan (gx_rmb rfl) rfl (k_x_E_isSpan e_r1) rfl rfl (Nat.le_of_ble_eq_true rfl) ?_
  refine gx_if_ne hX (tgt := 13) (gx_dt dt_mi_x_E_more 2 rfl) (by decide) (fun c2 => ?_) (fun c2 => ?_)
  · have h := gx_ifn c2 h
    refine gx_aload_n hX (gx_dt dt_mi_x_E_more 7 rfl) rfl ?_
    refine gx_getr hX fl_E_31 sh_x_0 rfl (gx_dt dt_mi_x_E_more 8 rfl) ?_
    obtain ⟨r3, e_r3, h⟩ := gx_bd h
    refine gx_callVv hX (gx_dt dt_mi_x_E_more 9 rfl) ln_E_115_x_M_asTold mo_x_M_asTold mv_x_M_asTold (gx_rmb rfl) sh_x_22 ⟨_, _, rfl⟩ rfl (k_x_M_asTold e_r3) rfl rfl (Nat.le_of_ble_eq_true rfl) ?_
    refine gx_aload_n hX (gx_dt dt_mi_x_E_more 10 rfl) rfl ?_
    refine gx_getr hX fl_E_31 sh_x_0 rfl (gx_dt dt_mi_x_E_more 11 rfl) ?_
    obtain ⟨r4, e_r4, h⟩ := gx_bd h
    refine gx_callVi hX (gx_dt dt_mi_x_E_more 12 rfl) ln_E_148_x_M_isFirm mo_x_M_isFirm mv_x_M_isFirm (gx_rmb rfl) sh_x_22 ⟨_, _, rfl⟩ rfl (k_x_M_isFirm e_r4) rfl rfl (Nat.le_of_ble_eq_true rfl) ?_
    refine gx_if_ne hX (tgt := 33) (gx_dt dt_mi_x_E_more 13 rfl) (by decide) (fun c5 => ?_) (fun c5 => ?_)
    · have h := gx_ifn c5 h
      refine gx_iconst hX (v := 0) (gx_dt dt_mi_x_E_more 16 rfl) (by decide) ?_
      refine gx_istore_n hX (ls' := [some (.inr 0), some (.inl a1), some (.inl (0))]) (gx_dt dt_mi_x_E_more 17 rfl) (by decide) rfl ?_
      refine gx_iconst hX (v := 1) (gx_dt dt_mi_x_E_more 18 rfl) (by decide) ?_
      refine gx_istore_n hX (ls' := [some (.inr 0), some (.inl a1), some (.inl (0)), some (.inl (1))]) (gx_dt dt_mi_x_E_more 19 rfl) (by decide) rfl ?_
      exact gx_weak (gx_leS (gx_leS (gx_leS (gx_leS gx_le0)))) (t_x_E_more_37 hX hres hwr _ _ _ _ _ h)
    · have h := gx_ifp c5 h
      refine gx_bipush hX (v := (-9)) (gx_dt dt_mi_x_E_more 14 rfl) (by decide) ?_
      obtain rfl := Option.some.inj h
      exact gx_iret hX (gx_dt dt_mi_x_E_more 15 rfl) rfl hres hwr
  · have h := gx_ifp c2 h
    refine gx_aload_n hX (gx_dt dt_mi_x_E_more 3 rfl) rfl ?_
    refine gx_iconst hX (v := (-1)) (gx_dt dt_mi_x_E_more 4 rfl) (by decide) ?_
    obtain ⟨r6, e_r6, h⟩ := gx_bd h
    refine gx_callVi hX (gx_dt dt_mi_x_E_more 5 rfl) ln_E_69_x_E_refuse mo_x_E_refuse mv_x_E_refuse (gx_rmb rfl) sh_x_0 ⟨_, _, rfl⟩ rfl (k_x_E_refuse e_r6) rfl rfl (Nat.le_of_ble_eq_true rfl) ?_
    obtain rfl := Option.some.inj h
    exact gx_iret hX (gx_dt dt_mi_x_E_more 6 rfl) rfl hres hwr
-- EachBearsPillar.seeds(II)I
def x_E_seeds_124 (K47 : Int32 → Int32 → Int32 → Int32 → gx_Wd → Option (Int32 × gx_Wd)) (b1 : Int32) (b3 : Int32) (b4 : Int32) (b5 : Int32) (w : gx_Wd) : Option (Int32 × gx_Wd) :=
  (some (b5 + 1)).bind fun v1 =>
  K47 b1 b3 b4 v1 w
def x_E_seeds_104 (K47 : Int32 → Int32 → Int32 → Int32 → gx_Wd → Option (Int32 × gx_Wd)) (b1 : Int32) (b3 : Int32) (b4 : Int32) (b5 : Int32) (w : gx_Wd) : Option (Int32 × gx_Wd) :=
  (x_M_weigh w).bind fun r1 =>
  (x_M_isBorne r1).bind fun r2 =>
  if r2.1 = 0 then
    x_E_seeds_124 K47 b1 b3 b4 b5 r2.2
  else
  (some (b3 + 1)).bind fun v4 =>
  x_E_seeds_124 K47 b1 v4 b4 b5 r2.2
def x_E_seeds_56 (K47 : Int32 → Int32 → Int32 → Int32 → gx_Wd → Option (Int32 × gx_Wd)) : Nat → Int32 → Int32 → Int32 → Int32 → Int32 → gx_Wd → Option (Int32 × gx_Wd)
  | 0, _, _, _, _, _, _ => none
  | n + 1, b1, b3, b4, b5, b6, w =>
  if 6 ≤ b6 then
    x_E_seeds_104 K47 b1 b3 b4 b5 w
  else
  (some ((b4 * 1664525) + 1013904223)).bind fun v2 =>
  (x_E_setCell 25 b6 (((v2 &&& 2147483647) / 256) - ((v2 &&& 2147483647) / 256) / 100 * 100) w).bind fun r3 =>
  (some (b6 + 1)).bind fun v4 =>
  (x_E_seeds_56 K47 n) b1 b3 v2 b5 v4 r3.2
def x_E_seeds_47 : Nat → Int32 → Int32 → Int32 → Int32 → gx_Wd → Option (Int32 × gx_Wd)
  | 0, _, _, _, _, _ => none
  | n + 1, b1, b3, b4, b5, w =>
  if b1 ≤ b5 then
    some (b3, w)
  else
  x_E_seeds_56 (x_E_seeds_47 n) 6000 b1 b3 b4 b5 0 w
def x_E_seeds (a1 : Int32) (a2 : Int32) (w : gx_Wd) : Option (Int32 × gx_Wd) :=
  if 1 ≤ a1 then
    if a1 ≤ 30 then
      (x_M_asTold w).bind fun r3 =>
      (x_M_stand r3).bind fun r4 =>
      x_E_seeds_47 6000 a1 0 a2 0 r4
    else
    (x_E_refuse (-6) w).bind fun r5 =>
    some (r5.1, r5.2)
  else
  (x_E_refuse (-4) w).bind fun r6 =>
  some (r6.1, r6.2)
theorem t_x_E_seeds_124 {X : gx_X} (hX : gx_Ok X mi_x_E_seeds) {R : Int32 × gx_Wd} (hres : gx_res X = some (.inl R.1)) (hwr : gx_wr X = R.2) {K47 : Int32 → Int32 → Int32 → Int32 → gx_Wd → Option (Int32 × gx_Wd)} (hK47 : ∀ (b1 : Int32) (b3 : Int32) (b4 : Int32) (b5 : Int32) (w : gx_Wd), K47 b1 b3 b4 b5 w = some R → gx_G X mi_x_E_seeds 47 [some (.inr 0), some (.inl b1), none, some (.inl b3), some (.inl b4), some (.inl b5)] [] w) (b1 : Int32) (b3 : Int32) (b4 : Int32) (b5 : Int32) (w : gx_Wd) (h : x_E_seeds_124 K47 b1 b3 b4 b5 w = some R) : gx_G X mi_x_E_seeds 124 [some (.inr 0), some (.inl b1), none, some (.inl b3), some (.inl b4), some (.inl b5)] [] w := by
  rw [x_E_seeds_124] at h
  obtain ⟨v1, e_v1, h⟩ := gx_bd h
  refine gx_iinc hX (v := v1) (ls' := [some (.inr 0), some (.inl b1), none, some (.inl b3), some (.inl b4), some (.inl v1)]) (gx_dt dt_mi_x_E_seeds 63 rfl) rfl (gx_ii e_v1 (by decide)) (by decide) rfl ?_
  refine gx_goto hX (tgt := 47) (gx_dt dt_mi_x_E_seeds 64 rfl) (by decide) ?_
  exact gx_weak (gx_leS (gx_leS (gx_leN (gx_leS (gx_leS (gx_leS gx_le0)))))) (hK47 _ _ _ _ _ h)
theorem t_x_E_seeds_104 {X : gx_X} (hX : gx_Ok X mi_x_E_seeds) {R : Int32 × gx_Wd} (hres : gx_res X = some (.inl R.1)) (hwr : gx_wr X = R.2) {K47 : Int32 → Int32 → Int32 → Int32 → gx_Wd → Option (Int32 × gx_Wd)} (hK47 : ∀ (b1 : Int32) (b3 : Int32) (b4 : Int32) (b5 : Int32) (w : gx_Wd), K47 b1 b3 b4 b5 w = some R → gx_G X mi_x_E_seeds 47 [some (.inr 0), some (.inl b1), none, some (.inl b3), some (.inl b4), some (.inl b5)] [] w) (b1 : Int32) (b3 : Int32) (b4 : Int32) (b5 : Int32) (w : gx_Wd) (h : x_E_seeds_104 K47 b1 b3 b4 b5 w = some R) : gx_G X mi_x_E_seeds 104 [some (.inr 0), some (.inl b1), none, some (.inl b3), some (.inl b4), some (.inl b5)] [] w := by
  rw [x_E_seeds_104] at h
  refine gx_aload_n hX (gx_dt dt_mi_x_E_seeds 55 rfl) rfl ?_
  refine gx_getr hX fl_E_31 sh_x_0 rfl (gx_dt dt_mi_x_E_seeds 56 rfl) ?_
  obtain ⟨r1, e_r1, h⟩ := gx_bd h
  refine gx_callVv hX (gx_dt dt_mi_x_E_seeds 57 rfl) ln_E_191_x_M_weigh mo_x_M_weigh mv_x_M_weigh (gx_rmb rfl) sh_x_22 ⟨_, _, rfl⟩ rfl (k_x_M_weigh e_r1) rfl rfl (Nat.le_of_ble_eq_true rfl) ?_
  refine gx_aload_n hX (gx_dt dt_mi_x_E_seeds 58 rfl) rfl ?_
  refine gx_getr hX fl_E_31 sh_x_0 rfl (gx_dt dt_mi_x_E_seeds 59 rfl) ?_
  obtain ⟨r2, e_r2, h⟩ := gx_bd h
  refine gx_callVi hX (gx_dt dt_mi_x_E_seeds 60 rfl) ln_E_194_x_M_isBorne mo_x_M_isBorne mv_x_M_isBorne (gx_rmb rfl) sh_x_22 ⟨_, _, rfl⟩ rfl (k_x_M_isBorne e_r2) rfl rfl (Nat.le_of_ble_eq_true rfl) ?_
  refine gx_if_eq hX (tgt := 124) (gx_dt dt_mi_x_E_seeds 61 rfl) (by decide) (fun c3 => ?_) (fun c3 => ?_)
  · have h := gx_ifp c3 h
    exact gx_weak (gx_leS (gx_leS (gx_leN (gx_leS (gx_leS (gx_leS gx_le0)))))) (t_x_E_seeds_124 hX hres hwr hK47 _ _ _ _ _ h)
  · have h := gx_ifn c3 h
    obtain ⟨v4, e_v4, h⟩ := gx_bd h
    refine gx_iinc hX (v := v4) (ls' := [some (.inr 0), some (.inl b1), none, some (.inl v4), some (.inl b4), some (.inl b5)]) (gx_dt dt_mi_x_E_seeds 62 rfl) rfl (gx_ii e_v4 (by decide)) (by decide) rfl ?_
    exact gx_weak (gx_leS (gx_leS (gx_leN (gx_leS (gx_leS (gx_leS gx_le0)))))) (t_x_E_seeds_124 hX hres hwr hK47 _ _ _ _ _ h)
theorem t_x_E_seeds_56 {X : gx_X} (hX : gx_Ok X mi_x_E_seeds) {R : Int32 × gx_Wd} (hres : gx_res X = some (.inl R.1)) (hwr : gx_wr X = R.2) {K47 : Int32 → Int32 → Int32 → Int32 → gx_Wd → Option (Int32 × gx_Wd)} (hK47 : ∀ (b1 : Int32) (b3 : Int32) (b4 : Int32) (b5 : Int32) (w : gx_Wd), K47 b1 b3 b4 b5 w = some R → gx_G X mi_x_E_seeds 47 [some (.inr 0), some (.inl b1), none, some (.inl b3), some (.inl b4), some (.inl b5)] [] w) : ∀ (n : Nat) (b1 : Int32) (b3 : Int32) (b4 : Int32) (b5 : Int32) (b6 : Int32) (w : gx_Wd), x_E_seeds_56 K47 n b1 b3 b4 b5 b6 w = some R → gx_G X mi_x_E_seeds 56 [some (.inr 0), some (.inl b1), none, some (.inl b3), some (.inl b4), some (.inl b5), some (.inl b6)] [] w := by
  intro n
  induction n with
  | zero => intro b1 b3 b4 b5 b6 w h; rw [x_E_seeds_56] at h; cases h
  | succ n ih =>
    intro b1 b3 b4 b5 b6 w h
    rw [x_E_seeds_56] at h
    refine gx_iload hX (gx_dt dt_mi_x_E_seeds 31 rfl) rfl ?_
    refine gx_bipush hX (v := 6) (gx_dt dt_mi_x_E_seeds 32 rfl) (by decide) ?_
    refine gx_ic_ge hX (tgt := 104) (gx_dt dt_mi_x_E_seeds 33 rfl) (by decide) (fun c1 => ?_) (fun c1 => ?_)
    · have h := gx_ifp c1 h
      exact gx_weak (gx_leS (gx_leS (gx_leN (gx_leS (gx_leS (gx_leS gx_le0)))))) (t_x_E_seeds_104 hX hres hwr hK47 _ _ _ _ _ h)
    · have h := gx_ifn c1 h
      refine gx_iload hX (gx_dt dt_mi_x_E_seeds 34 rfl) rfl ?_
      refine gx_ldci hX (v := 1664525) (gx_dt dt_mi_x_E_seeds 35 rfl) wr_constant_E_200 ?_
      refine gx_imul hX (gx_dt dt_mi_x_E_seeds 36 rfl) ?_
      refine gx_ldci hX (v := 1013904223) (gx_dt dt_mi_x_E_seeds 37 rfl) wr_constant_E_201 ?_
      refine gx_iadd hX (gx_dt dt_mi_x_E_seeds 38 rfl) ?_
      obtain ⟨v2, e_v2, h⟩ := gx_bd h
      refine gx_top e_v2 ?_
      refine gx_istore hX (ls' := [some (.inr 0), some (.inl b1), none, some (.inl b3), some (.inl v2), some (.inl b5), some (.inl b6)]) (gx_dt dt_mi_x_E_seeds 39 rfl) (by decide) rfl ?_
      refine gx_aload_n hX (gx_dt dt_mi_x_E_seeds 40 rfl) rfl ?_
      refine gx_getr hX fl_E_31 sh_x_0 rfl (gx_dt dt_mi_x_E_seeds 41 rfl) ?_
      refine gx_getr hX fl_E_190 sh_x_22 rfl (gx_dt dt_mi_x_E_seeds 42 rfl) ?_
      refine gx_iload hX (gx_dt dt_mi_x_E_seeds 43 rfl) rfl ?_
      refine gx_iload hX (gx_dt dt_mi_x_E_seeds 44 rfl) rfl ?_
      refine gx_ldci hX (v := 2147483647) (gx_dt dt_mi_x_E_seeds 45 rfl) wr_constant_E_202 ?_
      refine gx_iand hX (gx_dt dt_mi_x_E_seeds 46 rfl) ?_
      refine gx_sipush hX (v := 256) (gx_dt dt_mi_x_E_seeds 47 rfl) (by decide) ?_
      refine gx_idiv hX (gx_dt dt_mi_x_E_seeds 48 rfl) (by decide) ?_
      refine gx_bipush hX (v := 100) (gx_dt dt_mi_x_E_seeds 49 rfl) (by decide) ?_
      refine gx_irem hX (gx_dt dt_mi_x_E_seeds 50 rfl) (by decide) ?_
      obtain ⟨r3, e_r3, h⟩ := gx_bd h
      refine gx_callSi hX (gx_dt dt_mi_x_E_seeds 51 rfl) ln_E_174_x_E_setCell mo_x_E_setCell ms_x_E_setCell (gx_rmb rfl) rfl (k_x_E_setCell e_r3) rfl rfl (Nat.le_of_ble_eq_true rfl) ?_
      refine gx_pop hX (gx_dt dt_mi_x_E_seeds 52 rfl) ?_
      obtain ⟨v4, e_v4, h⟩ := gx_bd h
      refine gx_iinc hX (v := v4) (ls' := [some (.inr 0), some (.inl b1), none, some (.inl b3), some (.inl v2), some (.inl b5), some (.inl v4)]) (gx_dt dt_mi_x_E_seeds 53 rfl) rfl (gx_ii e_v4 (by decide)) (by decide) rfl ?_
      refine gx_goto hX (tgt := 56) (gx_dt dt_mi_x_E_seeds 54 rfl) (by decide) ?_
      exact gx_weak (gx_leS (gx_leS (gx_leN (gx_leS (gx_leS (gx_leS (gx_leS gx_le0))))))) (ih _ _ _ _ _ _ h)
theorem t_x_E_seeds_47 {X : gx_X} (hX : gx_Ok X mi_x_E_seeds) {R : Int32 × gx_Wd} (hres : gx_res X = some (.inl R.1)) (hwr : gx_wr X = R.2) : ∀ (n : Nat) (b1 : Int32) (b3 : Int32) (b4 : Int32) (b5 : Int32) (w : gx_Wd), x_E_seeds_47 n b1 b3 b4 b5 w = some R → gx_G X mi_x_E_seeds 47 [some (.inr 0), some (.inl b1), none, some (.inl b3), some (.inl b4), some (.inl b5)] [] w := by
  intro n
  induction n with
  | zero => intro b1 b3 b4 b5 w h; rw [x_E_seeds_47] at h; cases h
  | succ n ih =>
    intro b1 b3 b4 b5 w h
    rw [x_E_seeds_47] at h
    refine gx_iload hX (gx_dt dt_mi_x_E_seeds 26 rfl) rfl ?_
    refine gx_iload_n hX (gx_dt dt_mi_x_E_seeds 27 rfl) rfl ?_
    refine gx_ic_ge hX (tgt := 130) (gx_dt dt_mi_x_E_seeds 28 rfl) (by decide) (fun c1 => ?_) (fun c1 => ?_)
    · have h := gx_ifp c1 h
      refine gx_iload_n hX (gx_dt dt_mi_x_E_seeds 65 rfl) rfl ?_
      obtain rfl := Option.some.inj h
      exact gx_iret hX (gx_dt dt_mi_x_E_seeds 66 rfl) rfl hres hwr
    · have h := gx_ifn c1 h
      refine gx_iconst hX (v := 0) (gx_dt dt_mi_x_E_seeds 29 rfl) (by decide) ?_
      refine gx_istore hX (ls' := [some (.inr 0), some (.inl b1), none, some (.inl b3), some (.inl b4), some (.inl b5), some (.inl (0))]) (gx_dt dt_mi_x_E_seeds 30 rfl) (by decide) rfl ?_
      exact gx_weak (gx_leS (gx_leS (gx_leN (gx_leS (gx_leS (gx_leS (gx_leS gx_le0))))))) (t_x_E_seeds_56 hX hres hwr ih _ _ _ _ _ _ _ h)
theorem k_x_E_seeds {a1 : Int32} {a2 : Int32} {w : gx_Wd} {R : Int32 × gx_Wd} (h : x_E_seeds a1 a2 w = some R) : gx_MT mi_x_E_seeds [.inr 0, .inl a1, .inl a2] w (some (.inl R.1)) R.2 := by
  refine gx_met (by decide +kernel) (Nat.le_of_ble_eq_true rfl) (fun X hX hres hwr => ?_)
  show gx_G X mi_x_E_seeds 0 [some (.inr 0), some (.inl a1), some (.inl a2)] [] w
  rw [x_E_seeds] at h
  refine gx_iload_n hX (gx_dt dt_mi_x_E_seeds 0 rfl) rfl ?_
  refine gx_iconst hX (v := 1) (gx_dt dt_mi_x_E_seeds 1 rfl) (by decide) ?_
  refine gx_ic_ge hX (tgt := 12) (gx_dt dt_mi_x_E_seeds 2 rfl) (by decide) (fun c1 => ?_) (fun c1 => ?_)
  · have h := gx_ifp c1 h
    refine gx_iload_n hX (gx_dt dt_mi_x_E_seeds 7 rfl) rfl ?_
    refine gx_bipush hX (v := 30) (gx_dt dt_mi_x_E_seeds 8 rfl) (by decide) ?_
    refine gx_ic_le hX (tgt := 25) (gx_dt dt_mi_x_E_seeds 9 rfl) (by decide) (fun c2 => ?_) (fun c2 => ?_)
    · have h := gx_ifp c2 h
      refine gx_aload_n hX (gx_dt dt_mi_x_E_seeds 14 rfl) rfl ?_
      refine gx_getr hX fl_E_31 sh_x_0 rfl (gx_dt dt_mi_x_E_seeds 15 rfl) ?_
      obtain ⟨r3, e_r3, h⟩ := gx_bd h
      refine gx_callVv hX (gx_dt dt_mi_x_E_seeds 16 rfl) ln_E_115_x_M_asTold mo_x_M_asTold mv_x_M_asTold (gx_rmb rfl) sh_x_22 ⟨_, _, rfl⟩ rfl (k_x_M_asTold e_r3) rfl rfl (Nat.le_of_ble_eq_true rfl) ?_
      refine gx_aload_n hX (gx_dt dt_mi_x_E_seeds 17 rfl) rfl ?_
      refine gx_getr hX fl_E_31 sh_x_0 rfl (gx_dt dt_mi_x_E_seeds 18 rfl) ?_
      obtain ⟨r4, e_r4, h⟩ := gx_bd h
      refine gx_callVv hX (gx_dt dt_mi_x_E_seeds 19 rfl) ln_E_197_x_M_stand mo_x_M_stand mv_x_M_stand (gx_rmb rfl) sh_x_22 ⟨_, _, rfl⟩ rfl (k_x_M_stand e_r4) rfl rfl (Nat.le_of_ble_eq_true rfl) ?_
      refine gx_iconst hX (v := 0) (gx_dt dt_mi_x_E_seeds 20 rfl) (by decide) ?_
      refine gx_istore_n hX (ls' := [some (.inr 0), some (.inl a1), some (.inl a2), some (.inl (0))]) (gx_dt dt_mi_x_E_seeds 21 rfl) (by decide) rfl ?_
      refine gx_iload_n hX (gx_dt dt_mi_x_E_seeds 22 rfl) rfl ?_
      refine gx_istore hX (ls' := [some (.inr 0), some (.inl a1), some (.inl a2), some (.inl (0)), some (.inl a2)]) (gx_dt dt_mi_x_E_seeds 23 rfl) (by decide) rfl ?_
      refine gx_iconst hX (v := 0) (gx_dt dt_mi_x_E_seeds 24 rfl) (by decide) ?_
      refine gx_istore hX (ls' := [some (.inr 0), some (.inl a1), some (.inl a2), some (.inl (0)), some (.inl a2), some (.inl (0))]) (gx_dt dt_mi_x_E_seeds 25 rfl) (by decide) rfl ?_
      exact gx_weak (gx_leS (gx_leS (gx_leN (gx_leS (gx_leS (gx_leS gx_le0)))))) (t_x_E_seeds_47 hX hres hwr _ _ _ _ _ _ h)
    · have h := gx_ifn c2 h
      refine gx_aload_n hX (gx_dt dt_mi_x_E_seeds 10 rfl) rfl ?_
      refine gx_bipush hX (v := (-6)) (gx_dt dt_mi_x_E_seeds 11 rfl) (by decide) ?_
      obtain ⟨r5, e_r5, h⟩ := gx_bd h
      refine gx_callVi hX (gx_dt dt_mi_x_E_seeds 12 rfl) ln_E_69_x_E_refuse mo_x_E_refuse mv_x_E_refuse (gx_rmb rfl) sh_x_0 ⟨_, _, rfl⟩ rfl (k_x_E_refuse e_r5) rfl rfl (Nat.le_of_ble_eq_true rfl) ?_
      obtain rfl := Option.some.inj h
      exact gx_iret hX (gx_dt dt_mi_x_E_seeds 13 rfl) rfl hres hwr
  · have h := gx_ifn c1 h
    refine gx_aload_n hX (gx_dt dt_mi_x_E_seeds 3 rfl) rfl ?_
    refine gx_bipush hX (v := (-4)) (gx_dt dt_mi_x_E_seeds 4 rfl) (by decide) ?_
    obtain ⟨r6, e_r6, h⟩ := gx_bd h
    refine gx_callVi hX (gx_dt dt_mi_x_E_seeds 5 rfl) ln_E_69_x_E_refuse mo_x_E_refuse mv_x_E_refuse (gx_rmb rfl) sh_x_0 ⟨_, _, rfl⟩ rfl (k_x_E_refuse e_r6) rfl rfl (Nat.le_of_ble_eq_true rfl) ?_
    obtain rfl := Option.some.inj h
    exact gx_iret hX (gx_dt dt_mi_x_E_seeds 6 rfl) rfl hres hwr
-- EachBearsPillar.row(I)I
def x_E_row (a1 : Int32) (w : gx_Wd) : Option (Int32 × gx_Wd) :=
  if 0 ≤ a1 then
    if 400 < a1 then
      (x_E_refuse (-6) w).bind fun r3 =>
      some (r3.1, r3.2)
    else
    if w 0 9 < 7 then
      (x_E_setCell 38 (w 0 9) a1 w).bind fun r5 =>
      (gx_put r5.2 0 9 ((r5.2 0 9) + 1)).bind fun w6 =>
      some (w6 0 9, w6)
    else
    (x_E_refuse (-6) w).bind fun r7 =>
    some (r7.1, r7.2)
  else
  (x_E_refuse (-4) w).bind fun r8 =>
  some (r8.1, r8.2)
theorem k_x_E_row {a1 : Int32} {w : gx_Wd} {R : Int32 × gx_Wd} (h : x_E_row a1 w = some R) : gx_MT mi_x_E_row [.inr 0, .inl a1] w (some (.inl R.1)) R.2 := by
  refine gx_met (by decide +kernel) (Nat.le_of_ble_eq_true rfl) (fun X hX hres hwr => ?_)
  show gx_G X mi_x_E_row 0 [some (.inr 0), some (.inl a1)] [] w
  rw [x_E_row] at h
  refine gx_iload_n hX (gx_dt dt_mi_x_E_row 0 rfl) rfl ?_
  refine gx_if_ge hX (tgt := 11) (gx_dt dt_mi_x_E_row 1 rfl) (by decide) (fun c1 => ?_) (fun c1 => ?_)
  · have h := gx_ifp c1 h
    refine gx_iload_n hX (gx_dt dt_mi_x_E_row 6 rfl) rfl ?_
    refine gx_sipush hX (v := 400) (gx_dt dt_mi_x_E_row 7 rfl) (by decide) ?_
    refine gx_ic_gt hX (tgt := 27) (gx_dt dt_mi_x_E_row 8 rfl) (by decide) (fun c2 => ?_) (fun c2 => ?_)
    · have h := gx_ifp c2 h
      refine gx_aload_n hX (gx_dt dt_mi_x_E_row 13 rfl) rfl ?_
      refine gx_bipush hX (v := (-6)) (gx_dt dt_mi_x_E_row 14 rfl) (by decide) ?_
      obtain ⟨r3, e_r3, h⟩ := gx_bd h
      refine gx_callVi hX (gx_dt dt_mi_x_E_row 15 rfl) ln_E_69_x_E_refuse mo_x_E_refuse mv_x_E_refuse (gx_rmb rfl) sh_x_0 ⟨_, _, rfl⟩ rfl (k_x_E_refuse e_r3) rfl rfl (Nat.le_of_ble_eq_true rfl) ?_
      obtain rfl := Option.some.inj h
      exact gx_iret hX (gx_dt dt_mi_x_E_row 16 rfl) rfl hres hwr
    · have h := gx_ifn c2 h
      refine gx_aload_n hX (gx_dt dt_mi_x_E_row 9 rfl) rfl ?_
      refine gx_geti hX fl_E_62 sh_x_0 rfl (gx_dt dt_mi_x_E_row 10 rfl) ?_
      refine gx_bipush hX (v := 7) (gx_dt dt_mi_x_E_row 11 rfl) (by decide) ?_
      refine gx_ic_lt hX (tgt := 34) (gx_dt dt_mi_x_E_row 12 rfl) (by decide) (fun c4 => ?_) (fun c4 => ?_)
      · have h := gx_ifp c4 h
        refine gx_aload_n hX (gx_dt dt_mi_x_E_row 17 rfl) rfl ?_
        refine gx_getr hX fl_E_58 sh_x_0 rfl (gx_dt dt_mi_x_E_row 18 rfl) ?_
        refine gx_aload_n hX (gx_dt dt_mi_x_E_row 19 rfl) rfl ?_
        refine gx_geti hX fl_E_62 sh_x_0 rfl (gx_dt dt_mi_x_E_row 20 rfl) ?_
        refine gx_iload_n hX (gx_dt dt_mi_x_E_row 21 rfl) rfl ?_
        obtain ⟨r5, e_r5, h⟩ := gx_bd h
        refine gx_callSi hX (gx_dt dt_mi_x_E_row 22 rfl) ln_E_174_x_E_setCell mo_x_E_setCell ms_x_E_setCell (gx_rmb rfl) rfl (k_x_E_setCell e_r5) rfl rfl (Nat.le_of_ble_eq_true rfl) ?_
        refine gx_pop hX (gx_dt dt_mi_x_E_row 23 rfl) ?_
        refine gx_aload_n hX (gx_dt dt_mi_x_E_row 24 rfl) rfl ?_
        refine gx_dup hX (gx_dt dt_mi_x_E_row 25 rfl) ?_
        refine gx_geti hX fl_E_62 sh_x_0 rfl (gx_dt dt_mi_x_E_row 26 rfl) ?_
        refine gx_iconst hX (v := 1) (gx_dt dt_mi_x_E_row 27 rfl) (by decide) ?_
        refine gx_iadd hX (gx_dt dt_mi_x_E_row 28 rfl) ?_
        obtain ⟨w6, e_w6, h⟩ := gx_bd h
        refine gx_putp hX fl_E_62 (pf_E_9 _) sh_x_0 rfl e_w6 (gx_dt dt_mi_x_E_row 29 rfl) ?_
        refine gx_aload_n hX (gx_dt dt_mi_x_E_row 30 rfl) rfl ?_
        refine gx_geti hX fl_E_62 sh_x_0 rfl (gx_dt dt_mi_x_E_row 31 rfl) ?_
        obtain rfl := Option.some.inj h
        exact gx_iret hX (gx_dt dt_mi_x_E_row 32 rfl) rfl hres hwr
      · have h := gx_ifn c4 h
        refine gx_aload_n hX (gx_dt dt_mi_x_E_row 13 rfl) rfl ?_
        refine gx_bipush hX (v := (-6)) (gx_dt dt_mi_x_E_row 14 rfl) (by decide) ?_
        obtain ⟨r7, e_r7, h⟩ := gx_bd h
        refine gx_callVi hX (gx_dt dt_mi_x_E_row 15 rfl) ln_E_69_x_E_refuse mo_x_E_refuse mv_x_E_refuse (gx_rmb rfl) sh_x_0 ⟨_, _, rfl⟩ rfl (k_x_E_refuse e_r7) rfl rfl (Nat.le_of_ble_eq_true rfl) ?_
        obtain rfl := Option.some.inj h
        exact gx_iret hX (gx_dt dt_mi_x_E_row 16 rfl) rfl hres hwr
  · have h := gx_ifn c1 h
    refine gx_aload_n hX (gx_dt dt_mi_x_E_row 2 rfl) rfl ?_
    refine gx_bipush hX (v := (-4)) (gx_dt dt_mi_x_E_row 3 rfl) (by decide) ?_
    obtain ⟨r8, e_r8, h⟩ := gx_bd h
    refine gx_callVi hX (gx_dt dt_mi_x_E_row 4 rfl) ln_E_69_x_E_refuse mo_x_E_refuse mv_x_E_refuse (gx_rmb rfl) sh_x_0 ⟨_, _, rfl⟩ rfl (k_x_E_refuse e_r8) rfl rfl (Nat.le_of_ble_eq_true rfl) ?_
    obtain rfl := Option.some.inj h
    exact gx_iret hX (gx_dt dt_mi_x_E_row 5 rfl) rfl hres hwr
-- EachBearsPillar.firstUntrue()I
def x_E_firstUntrue_9 : Nat → Int32 → gx_Wd → Option (Int32 × gx_Wd)
  | 0, _, _ => none
  | n + 1, b1, w =>
  if w 0 9 ≤ b1 then
    some ((-1), w)
  else
  if w 1 0 ≤ b1 then
    some ((-1), w)
  else
  (x_E_cell 38 b1 w).bind fun r3 =>
  (x_E_cell 28 b1 r3.2).bind fun r4 =>
  if r3.1 = r4.1 then
    (some (b1 + 1)).bind fun v6 =>
    (x_E_firstUntrue_9 n) v6 r4.2
  else
  some (b1, r4.2)
def x_E_firstUntrue (w : gx_Wd) : Option (Int32 × gx_Wd) :=
  (x_M_standAndWeigh w).bind fun r1 =>
  x_E_firstUntrue_9 6000 0 r1
theorem t_x_E_firstUntrue_9 {X : gx_X} (hX : gx_Ok X mi_x_E_firstUntrue) {R : Int32 × gx_Wd} (hres : gx_res X = some (.inl R.1)) (hwr : gx_wr X = R.2) : ∀ (n : Nat) (b1 : Int32) (w : gx_Wd), x_E_firstUntrue_9 n b1 w = some R → gx_G X mi_x_E_firstUntrue 9 [some (.inr 0), some (.inl b1)] [] w := by
  intro n
  induction n with
  | zero => intro b1 w h; rw [x_E_firstUntrue_9] at h; cases h
  | succ n ih =>
    intro b1 w h
    rw [x_E_firstUntrue_9] at h
    refine gx_iload_n hX (gx_dt dt_mi_x_E_firstUntrue 5 rfl) rfl ?_
    refine gx_aload_n hX (gx_dt dt_mi_x_E_firstUntrue 6 rfl) rfl ?_
    refine gx_geti hX fl_E_62 sh_x_0 rfl (gx_dt dt_mi_x_E_firstUntrue 7 rfl) ?_
    refine gx_ic_ge hX (tgt := 58) (gx_dt dt_mi_x_E_firstUntrue 8 rfl) (by decide) (fun c1 => ?_) (fun c1 => ?_)
    · have h := gx_ifp c1 h
      refine gx_iconst hX (v := (-1)) (gx_dt dt_mi_x_E_firstUntrue 28 rfl) (by decide) ?_
      obtain rfl := Option.some.inj h
      exact gx_iret hX (gx_dt dt_mi_x_E_firstUntrue 29 rfl) rfl hres hwr
    · have h := gx_ifn c1 h
      refine gx_iload_n hX (gx_dt dt_mi_x_E_firstUntrue 9 rfl) rfl ?_
      refine gx_aload_n hX (gx_dt dt_mi_x_E_firstUntrue 10 rfl) rfl ?_
      refine gx_getr hX fl_E_10 sh_x_0 rfl (gx_dt dt_mi_x_E_firstUntrue 11 rfl) ?_
      refine gx_geti hX fl_E_158 sh_x_1 rfl (gx_dt dt_mi_x_E_firstUntrue 12 rfl) ?_
      refine gx_ic_ge hX (tgt := 58) (gx_dt dt_mi_x_E_firstUntrue 13 rfl) (by decide) (fun c2 => ?_) (fun c2 => ?_)
      · have h := gx_ifp c2 h
        refine gx_iconst hX (v := (-1)) (gx_dt dt_mi_x_E_firstUntrue 28 rfl) (by decide) ?_
        obtain rfl := Option.some.inj h
        exact gx_iret hX (gx_dt dt_mi_x_E_firstUntrue 29 rfl) rfl hres hwr
      · have h := gx_ifn c2 h
        refine gx_aload_n hX (gx_dt dt_mi_x_E_firstUntrue 14 rfl) rfl ?_
        refine gx_getr hX fl_E_58 sh_x_0 rfl (gx_dt dt_mi_x_E_firstUntrue 15 rfl) ?_
        refine gx_iload_n hX (gx_dt dt_mi_x_E_firstUntrue 16 rfl) rfl ?_
        obtain ⟨r3, e_r3, h⟩ := gx_bd h
        refine gx_callSi hX (gx_dt dt_mi_x_E_firstUntrue 17 rfl) ln_E_125_x_E_cell mo_x_E_cell ms_x_E_cell (gx_rmb rfl) rfl (k_x_E_cell e_r3) rfl rfl (Nat.le_of_ble_eq_true rfl) ?_
        refine gx_aload_n hX (gx_dt dt_mi_x_E_firstUntrue 18 rfl) rfl ?_
        refine gx_getr hX fl_E_31 sh_x_0 rfl (gx_dt dt_mi_x_E_firstUntrue 19 rfl) ?_
        refine gx_getr hX fl_E_145 sh_x_22 rfl (gx_dt dt_mi_x_E_firstUntrue 20 rfl) ?_
        refine gx_iload_n hX (gx_dt dt_mi_x_E_firstUntrue 21 rfl) rfl ?_
        obtain ⟨r4, e_r4, h⟩ := gx_bd h
        refine gx_callSi hX (gx_dt dt_mi_x_E_firstUntrue 22 rfl) ln_E_125_x_E_cell mo_x_E_cell ms_x_E_cell (gx_rmb rfl) rfl (k_x_E_cell e_r4) rfl rfl (Nat.le_of_ble_eq_true rfl) ?_
        refine gx_ic_eq hX (tgt := 52) (gx_dt dt_mi_x_E_firstUntrue 23 rfl) (by decide) (fun c5 => ?_) (fun c5 => ?_)
        · have h := gx_ifp c5 h
          obtain ⟨v6, e_v6, h⟩ := gx_bd h
          refine gx_iinc hX (v := v6) (ls' := [some (.inr 0), some (.inl v6)]) (gx_dt dt_mi_x_E_firstUntrue 26 rfl) rfl (gx_ii e_v6 (by decide)) (by decide) rfl ?_
          refine gx_goto hX (tgt := 9) (gx_dt dt_mi_x_E_firstUntrue 27 rfl) (by decide) ?_
          exact gx_weak (gx_leS (gx_leS gx_le0)) (ih _ _ h)
        · have h := gx_ifn c5 h
          refine gx_iload_n hX (gx_dt dt_mi_x_E_firstUntrue 24 rfl) rfl ?_
          obtain rfl := Option.some.inj h
          exact gx_iret hX (gx_dt dt_mi_x_E_firstUntrue 25 rfl) rfl hres hwr
theorem k_x_E_firstUntrue {w : gx_Wd} {R : Int32 × gx_Wd} (h : x_E_firstUntrue w = some R) : gx_MT mi_x_E_firstUntrue [.inr 0] w (some (.inl R.1)) R.2 := by
  refine gx_met (by decide +kernel) (Nat.le_of_ble_eq_true rfl) (fun X hX hres hwr => ?_)
  show gx_G X mi_x_E_firstUntrue 0 [some (.inr 0)] [] w
  rw [x_E_firstUntrue] at h
  refine gx_aload_n hX (gx_dt dt_mi_x_E_firstUntrue 0 rfl) rfl ?_
  refine gx_getr hX fl_E_31 sh_x_0 rfl (gx_dt dt_mi_x_E_firstUntrue 1 rfl) ?_
  obtain ⟨r1, e_r1, h⟩ := gx_bd h
  refine gx_callVv hX (gx_dt dt_mi_x_E_firstUntrue 2 rfl) ln_E_142_x_M_standAndWeigh mo_x_M_standAndWeigh mv_x_M_standAndWeigh (gx_rmb rfl) sh_x_22 ⟨_, _, rfl⟩ rfl (k_x_M_standAndWeigh e_r1) rfl rfl (Nat.le_of_ble_eq_true rfl) ?_
  refine gx_iconst hX (v := 0) (gx_dt dt_mi_x_E_firstUntrue 3 rfl) (by decide) ?_
  refine gx_istore_n hX (ls' := [some (.inr 0), some (.inl (0))]) (gx_dt dt_mi_x_E_firstUntrue 4 rfl) (by decide) rfl ?_
  exact gx_weak (gx_leS (gx_leS gx_le0)) (t_x_E_firstUntrue_9 hX hres hwr _ _ _ h)
-- EachBearsPillar.slacked()I
def x_E_slacked_79 (K45 : Int32 → Int32 → gx_Wd → Option (Int32 × gx_Wd)) (b1 : Int32) (b2 : Int32) (w : gx_Wd) : Option (Int32 × gx_Wd) :=
  (some (b2 + 1)).bind fun v1 =>
  K45 b1 v1 w
def x_E_slacked_45 : Nat → Int32 → Int32 → gx_Wd → Option (Int32 × gx_Wd)
  | 0, _, _, _ => none
  | n + 1, b1, b2, w =>
  if w 1 0 ≤ b2 then
    some (b1, w)
  else
  (gx_put w 22 3 (1 <<< (b2 &&& 31))).bind fun w2 =>
  (x_E_firstUntrue w2).bind fun r3 =>
  if 0 ≤ r3.1 then
    x_E_slacked_79 (x_E_slacked_45 n) b1 b2 r3.2
  else
  (some (b1 ||| (1 <<< (b2 &&& 31)))).bind fun v5 =>
  x_E_slacked_79 (x_E_slacked_45 n) v5 b2 r3.2
def x_E_slacked_42 (s0 : Int32) (w : gx_Wd) : Option (Int32 × gx_Wd) :=
  x_E_slacked_45 6000 s0 0 w
def x_E_slacked (w : gx_Wd) : Option (Int32 × gx_Wd) :=
  if w 0 9 = w 1 0 then
    (x_M_asTold w).bind fun r2 =>
    (x_E_firstUntrue r2).bind fun r3 =>
    if 0 ≤ r3.1 then
      x_E_slacked_42 0 r3.2
    else
    x_E_slacked_42 128 r3.2
  else
  (x_E_refuse (-3) w).bind fun r5 =>
  some (r5.1, r5.2)
theorem t_x_E_slacked_79 {X : gx_X} (hX : gx_Ok X mi_x_E_slacked) {R : Int32 × gx_Wd} (hres : gx_res X = some (.inl R.1)) (hwr : gx_wr X = R.2) {K45 : Int32 → Int32 → gx_Wd → Option (Int32 × gx_Wd)} (hK45 : ∀ (b1 : Int32) (b2 : Int32) (w : gx_Wd), K45 b1 b2 w = some R → gx_G X mi_x_E_slacked 45 [some (.inr 0), some (.inl b1), some (.inl b2)] [] w) (b1 : Int32) (b2 : Int32) (w : gx_Wd) (h : x_E_slacked_79 K45 b1 b2 w = some R) : gx_G X mi_x_E_slacked 79 [some (.inr 0), some (.inl b1), some (.inl b2)] [] w := by
  rw [x_E_slacked_79] at h
  obtain ⟨v1, e_v1, h⟩ := gx_bd h
  refine gx_iinc hX (v := v1) (ls' := [some (.inr 0), some (.inl b1), some (.inl v1)]) (gx_dt dt_mi_x_E_slacked 42 rfl) rfl (gx_ii e_v1 (by decide)) (by decide) rfl ?_
  refine gx_goto hX (tgt := 45) (gx_dt dt_mi_x_E_slacked 43 rfl) (by decide) ?_
  exact gx_weak (gx_leS (gx_leS (gx_leS gx_le0))) (hK45 _ _ _ h)
theorem t_x_E_slacked_45 {X : gx_X} (hX : gx_Ok X mi_x_E_slacked) {R : Int32 × gx_Wd} (hres : gx_res X = some (.inl R.1)) (hwr : gx_wr X = R.2) : ∀ (n : Nat) (b1 : Int32) (b2 : Int32) (w : gx_Wd), x_E_slacked_45 n b1 b2 w = some R → gx_G X mi_x_E_slacked 45 [some (.inr 0), some (.inl b1), some (.inl b2)] [] w := by
  intro n
  induction n with
  | zero => intro b1 b2 w h; rw [x_E_slacked_45] at h; cases h
  | succ n ih =>
    intro b1 b2 w h
    rw [x_E_slacked_45] at h
    refine gx_iload_n hX (gx_dt dt_mi_x_E_slacked 22 rfl) rfl ?_
    refine gx_aload_n hX (gx_dt dt_mi_x_E_slacked 23 rfl) rfl ?_
    refine gx_getr hX fl_E_10 sh_x_0 rfl (gx_dt dt_mi_x_E_slacked 24 rfl) ?_
    refine gx_geti hX fl_E_158 sh_x_1 rfl (gx_dt dt_mi_x_E_slacked 25 rfl) ?_
    refine gx_ic_ge hX (tgt := 85) (gx_dt dt_mi_x_E_slacked 26 rfl) (by decide) (fun c1 => ?_) (fun c1 => ?_)
    · have h := gx_ifp c1 h
      refine gx_iload_n hX (gx_dt dt_mi_x_E_slacked 44 rfl) rfl ?_
      obtain rfl := Option.some.inj h
      exact gx_iret hX (gx_dt dt_mi_x_E_slacked 45 rfl) rfl hres hwr
    · have h := gx_ifn c1 h
      refine gx_aload_n hX (gx_dt dt_mi_x_E_slacked 27 rfl) rfl ?_
      refine gx_getr hX fl_E_31 sh_x_0 rfl (gx_dt dt_mi_x_E_slacked 28 rfl) ?_
      refine gx_iconst hX (v := 1) (gx_dt dt_mi_x_E_slacked 29 rfl) (by decide) ?_
      refine gx_iload_n hX (gx_dt dt_mi_x_E_slacked 30 rfl) rfl ?_
      refine gx_ishl hX (gx_dt dt_mi_x_E_slacked 31 rfl) ?_
      obtain ⟨w2, e_w2, h⟩ := gx_bd h
      refine gx_putp hX fl_E_187 (pf_M_3 _) sh_x_22 rfl e_w2 (gx_dt dt_mi_x_E_slacked 32 rfl) ?_
      refine gx_aload_n hX (gx_dt dt_mi_x_E_slacked 33 rfl) rfl ?_
      obtain ⟨r3, e_r3, h⟩ := gx_bd h
      refine gx_callVi hX (gx_dt dt_mi_x_E_slacked 34 rfl) ln_E_203_x_E_firstUntrue mo_x_E_firstUntrue mv_x_E_firstUntrue (gx_rmb rfl) sh_x_0 ⟨_, _, rfl⟩ rfl (k_x_E_firstUntrue e_r3) rfl rfl (Nat.le_of_ble_eq_true rfl) ?_
      refine gx_if_ge hX (tgt := 79) (gx_dt dt_mi_x_E_slacked 35 rfl) (by decide) (fun c4 => ?_) (fun c4 => ?_)
      · have h := gx_ifp c4 h
        exact gx_weak (gx_leS (gx_leS (gx_leS gx_le0))) (t_x_E_slacked_79 hX hres hwr ih _ _ _ h)
      · have h := gx_ifn c4 h
        refine gx_iload_n hX (gx_dt dt_mi_x_E_slacked 36 rfl) rfl ?_
        refine gx_iconst hX (v := 1) (gx_dt dt_mi_x_E_slacked 37 rfl) (by decide) ?_
        refine gx_iload_n hX (gx_dt dt_mi_x_E_slacked 38 rfl) rfl ?_
        refine gx_ishl hX (gx_dt dt_mi_x_E_slacked 39 rfl) ?_
        refine gx_ior hX (gx_dt dt_mi_x_E_slacked 40 rfl) ?_
        obtain ⟨v5, e_v5, h⟩ := gx_bd h
        refine gx_top e_v5 ?_
        refine gx_istore_n hX (ls' := [some (.inr 0), some (.inl v5), some (.inl b2)]) (gx_dt dt_mi_x_E_slacked 41 rfl) (by decide) rfl ?_
        exact gx_weak (gx_leS (gx_leS (gx_leS gx_le0))) (t_x_E_slacked_79 hX hres hwr ih _ _ _ h)
theorem t_x_E_slacked_42 {X : gx_X} (hX : gx_Ok X mi_x_E_slacked) {R : Int32 × gx_Wd} (hres : gx_res X = some (.inl R.1)) (hwr : gx_wr X = R.2) (s0 : Int32) (w : gx_Wd) (h : x_E_slacked_42 s0 w = some R) : gx_G X mi_x_E_slacked 42 [some (.inr 0)] [.inl s0] w := by
  rw [x_E_slacked_42] at h
  refine gx_istore_n hX (ls' := [some (.inr 0), some (.inl s0)]) (gx_dt dt_mi_x_E_slacked 19 rfl) (by decide) rfl ?_
  refine gx_iconst hX (v := 0) (gx_dt dt_mi_x_E_slacked 20 rfl) (by decide) ?_
  refine gx_istore_n hX (ls' := [some (.inr 0), some (.inl s0), some (.inl (0))]) (gx_dt dt_mi_x_E_slacked 21 rfl) (by decide) rfl ?_
  exact gx_weak (gx_leS (gx_leS (gx_leS gx_le0))) (t_x_E_slacked_45 hX hres hwr _ _ _ _ h)
theorem k_x_E_slacked {w : gx_Wd} {R : Int32 × gx_Wd} (h : x_E_slacked w = some R) : gx_MT mi_x_E_slacked [.inr 0] w (some (.inl R.1)) R.2 := by
  refine gx_met (by decide +kernel) (Nat.le_of_ble_eq_true rfl) (fun X hX hres hwr => ?_)
  show gx_G X mi_x_E_slacked 0 [some (.inr 0)] [] w
  rw [x_E_slacked] at h
  refine gx_aload_n hX (gx_dt dt_mi_x_E_slacked 0 rfl) rfl ?_
  refine gx_geti hX fl_E_62 sh_x_0 rfl (gx_dt dt_mi_x_E_slacked 1 rfl) ?_
  refine gx_aload_n hX (gx_dt dt_mi_x_E_slacked 2 rfl) rfl ?_
  refine gx_getr hX fl_E_10 sh_x_0 rfl (gx_dt dt_mi_x_E_slacked 3 rfl) ?_
  refine gx_geti hX fl_E_158 sh_x_1 rfl (gx_dt dt_mi_x_E_slacked 4 rfl) ?_
  refine gx_ic_eq hX (tgt := 21) (gx_dt dt_mi_x_E_slacked 5 rfl) (by decide) (fun c1 => ?_) (fun c1 => ?_)
  · have h := gx_ifp c1 h
    refine gx_aload_n hX (gx_dt dt_mi_x_E_slacked 10 rfl) rfl ?_
    refine gx_getr hX fl_E_31 sh_x_0 rfl (gx_dt dt_mi_x_E_slacked 11 rfl) ?_
    obtain ⟨r2, e_r2, h⟩ := gx_bd h
    refine gx_callVv hX (gx_dt dt_mi_x_E_slacked 12 rfl) ln_E_115_x_M_asTold mo_x_M_asTold mv_x_M_asTold (gx_rmb rfl) sh_x_22 ⟨_, _, rfl⟩ rfl (k_x_M_asTold e_r2) rfl rfl (Nat.le_of_ble_eq_true rfl) ?_
    refine gx_aload_n hX (gx_dt dt_mi_x_E_slacked 13 rfl) rfl ?_
    obtain ⟨r3, e_r3, h⟩ := gx_bd h
    refine gx_callVi hX (gx_dt dt_mi_x_E_slacked 14 rfl) ln_E_203_x_E_firstUntrue mo_x_E_firstUntrue mv_x_E_firstUntrue (gx_rmb rfl) sh_x_0 ⟨_, _, rfl⟩ rfl (k_x_E_firstUntrue e_r3) rfl rfl (Nat.le_of_ble_eq_true rfl) ?_
    refine gx_if_ge hX (tgt := 41) (gx_dt dt_mi_x_E_slacked 15 rfl) (by decide) (fun c4 => ?_) (fun c4 => ?_)
    · have h := gx_ifp c4 h
      refine gx_iconst hX (v := 0) (gx_dt dt_mi_x_E_slacked 18 rfl) (by decide) ?_
      exact gx_weak (gx_leS gx_le0) (t_x_E_slacked_42 hX hres hwr _ _ h)
    · have h := gx_ifn c4 h
      refine gx_sipush hX (v := 128) (gx_dt dt_mi_x_E_slacked 16 rfl) (by decide) ?_
      refine gx_goto hX (tgt := 42) (gx_dt dt_mi_x_E_slacked 17 rfl) (by decide) ?_
      exact gx_weak (gx_leS gx_le0) (t_x_E_slacked_42 hX hres hwr _ _ h)
  · have h := gx_ifn c1 h
    refine gx_aload_n hX (gx_dt dt_mi_x_E_slacked 6 rfl) rfl ?_
    refine gx_bipush hX (v := (-3)) (gx_dt dt_mi_x_E_slacked 7 rfl) (by decide) ?_
    obtain ⟨r5, e_r5, h⟩ := gx_bd h
    refine gx_callVi hX (gx_dt dt_mi_x_E_slacked 8 rfl) ln_E_69_x_E_refuse mo_x_E_refuse mv_x_E_refuse (gx_rmb rfl) sh_x_0 ⟨_, _, rfl⟩ rfl (k_x_E_refuse e_r5) rfl rfl (Nat.le_of_ble_eq_true rfl) ?_
    obtain rfl := Option.some.inj h
    exact gx_iret hX (gx_dt dt_mi_x_E_slacked 9 rfl) rfl hres hwr
-- EachBearsPillar.judge()I
def x_E_judge_53 (b2 : Int32) (w : gx_Wd) : Option (Int32 × gx_Wd) :=
  (gx_put w 0 9 0).bind fun w1 =>
  some (b2, w1)
def x_E_judge (w : gx_Wd) : Option (Int32 × gx_Wd) :=
  (x_M_asTold w).bind fun r1 =>
  (x_E_firstUntrue r1).bind fun r2 =>
  if r2.1 < 0 then
    if r2.2 0 9 = r2.2 1 0 then
      x_E_judge_53 (-9) r2.2
    else
    (some (if r2.2 1 0 < r2.2 0 9 then r2.2 1 0 else r2.2 0 9)).bind fun v5 =>
    x_E_judge_53 v5 r2.2
  else
  x_E_judge_53 r2.1 r2.2
theorem t_x_E_judge_53 {X : gx_X} (hX : gx_Ok X mi_x_E_judge) {R : Int32 × gx_Wd} (hres : gx_res X = some (.inl R.1)) (hwr : gx_wr X = R.2) (b2 : Int32) (w : gx_Wd) (h : x_E_judge_53 b2 w = some R) : gx_G X mi_x_E_judge 53 [some (.inr 0), none, some (.inl b2)] [] w := by
  rw [x_E_judge_53] at h
  refine gx_aload_n hX (gx_dt dt_mi_x_E_judge 26 rfl) rfl ?_
  refine gx_iconst hX (v := 0) (gx_dt dt_mi_x_E_judge 27 rfl) (by decide) ?_
  obtain ⟨w1, e_w1, h⟩ := gx_bd h
  refine gx_putp hX fl_E_62 (pf_E_9 _) sh_x_0 rfl e_w1 (gx_dt dt_mi_x_E_judge 28 rfl) ?_
  refine gx_iload_n hX (gx_dt dt_mi_x_E_judge 29 rfl) rfl ?_
  obtain rfl := Option.some.inj h
  exact gx_iret hX (gx_dt dt_mi_x_E_judge 30 rfl) rfl hres hwr
theorem k_x_E_judge {w : gx_Wd} {R : Int32 × gx_Wd} (h : x_E_judge w = some R) : gx_MT mi_x_E_judge [.inr 0] w (some (.inl R.1)) R.2 := by
  refine gx_met (by decide +kernel) (Nat.le_of_ble_eq_true rfl) (fun X hX hres hwr => ?_)
  show gx_G X mi_x_E_judge 0 [some (.inr 0)] [] w
  rw [x_E_judge] at h
  refine gx_aload_n hX (gx_dt dt_mi_x_E_judge 0 rfl) rfl ?_
  refine gx_getr hX fl_E_31 sh_x_0 rfl (gx_dt dt_mi_x_E_judge 1 rfl) ?_
  obtain ⟨r1, e_r1, h⟩ := gx_bd h
  refine gx_callVv hX (gx_dt dt_mi_x_E_judge 2 rfl) ln_E_115_x_M_asTold mo_x_M_asTold mv_x_M_asTold (gx_rmb rfl) sh_x_22 ⟨_, _, rfl⟩ rfl (k_x_M_asTold e_r1) rfl rfl (Nat.le_of_ble_eq_true rfl) ?_
  refine gx_aload_n hX (gx_dt dt_mi_x_E_judge 3 rfl) rfl ?_
  obtain ⟨r2, e_r2, h⟩ := gx_bd h
  refine gx_callVi hX (gx_dt dt_mi_x_E_judge 4 rfl) ln_E_203_x_E_firstUntrue mo_x_E_firstUntrue mv_x_E_firstUntrue (gx_rmb rfl) sh_x_0 ⟨_, _, rfl⟩ rfl (k_x_E_firstUntrue e_r2) rfl rfl (Nat.le_of_ble_eq_true rfl) ?_
  refine gx_istore_n hX (ls' := [some (.inr 0), some (.inl (r2.1))]) (gx_dt dt_mi_x_E_judge 5 rfl) (by decide) rfl ?_
  refine gx_bipush hX (v := (-9)) (gx_dt dt_mi_x_E_judge 6 rfl) (by decide) ?_
  refine gx_istore_n hX (ls' := [some (.inr 0), some (.inl (r2.1)), some (.inl ((-9)))]) (gx_dt dt_mi_x_E_judge 7 rfl) (by decide) rfl ?_
  refine gx_iload_n hX (gx_dt dt_mi_x_E_judge 8 rfl) rfl ?_
  refine gx_if_lt hX (tgt := 24) (gx_dt dt_mi_x_E_judge 9 rfl) (by decide) (fun c3 => ?_) (fun c3 => ?_)
  · have h := gx_ifp c3 h
    refine gx_aload_n hX (gx_dt dt_mi_x_E_judge 13 rfl) rfl ?_
    refine gx_geti hX fl_E_62 sh_x_0 rfl (gx_dt dt_mi_x_E_judge 14 rfl) ?_
    refine gx_aload_n hX (gx_dt dt_mi_x_E_judge 15 rfl) rfl ?_
    refine gx_getr hX fl_E_10 sh_x_0 rfl (gx_dt dt_mi_x_E_judge 16 rfl) ?_
    refine gx_geti hX fl_E_158 sh_x_1 rfl (gx_dt dt_mi_x_E_judge 17 rfl) ?_
    refine gx_ic_eq hX (tgt := 53) (gx_dt dt_mi_x_E_judge 18 rfl) (by decide) (fun c4 => ?_) (fun c4 => ?_)
    · have h := gx_ifp c4 h
      exact gx_weak (gx_leS (gx_leN (gx_leS gx_le0))) (t_x_E_judge_53 hX hres hwr _ _ h)
    · have h := gx_ifn c4 h
      refine gx_aload_n hX (gx_dt dt_mi_x_E_judge 19 rfl) rfl ?_
      refine gx_geti hX fl_E_62 sh_x_0 rfl (gx_dt dt_mi_x_E_judge 20 rfl) ?_
      refine gx_aload_n hX (gx_dt dt_mi_x_E_judge 21 rfl) rfl ?_
      refine gx_getr hX fl_E_10 sh_x_0 rfl (gx_dt dt_mi_x_E_judge 22 rfl) ?_
      refine gx_geti hX fl_E_158 sh_x_1 rfl (gx_dt dt_mi_x_E_judge 23 rfl) ?_
      refine gx_min hX (gx_dt dt_mi_x_E_judge 24 rfl) wr_methodLink_E_206 w_min_static w_math_init w_min_code (Nat.le_of_ble_eq_true rfl) (Nat.le_of_ble_eq_true rfl) ?_
      obtain ⟨v5, e_v5, h⟩ := gx_bd h
      refine gx_top e_v5 ?_
      refine gx_istore_n hX (ls' := [some (.inr 0), some (.inl (r2.1)), some (.inl v5)]) (gx_dt dt_mi_x_E_judge 25 rfl) (by decide) rfl ?_
      exact gx_weak (gx_leS (gx_leN (gx_leS gx_le0))) (t_x_E_judge_53 hX hres hwr _ _ h)
  · have h := gx_ifn c3 h
    refine gx_iload_n hX (gx_dt dt_mi_x_E_judge 10 rfl) rfl ?_
    refine gx_istore_n hX (ls' := [some (.inr 0), some (.inl (r2.1)), some (.inl (r2.1))]) (gx_dt dt_mi_x_E_judge 11 rfl) (by decide) rfl ?_
    refine gx_goto hX (tgt := 53) (gx_dt dt_mi_x_E_judge 12 rfl) (by decide) ?_
    exact gx_weak (gx_leS (gx_leN (gx_leS gx_le0))) (t_x_E_judge_53 hX hres hwr _ _ h)
-- EachBearsPillar$Walk.visit(III)V
def x_W_visit (a1 : Int32) (a2 : Int32) (a3 : Int32) (w : gx_Wd) : Option (gx_Wd) :=
  if a1 < 0 then
    some w
  else
  (x_R_lastAt_1 w).bind fun r2 =>
  if r2.1 < a1 then
    some r2.2
  else
  if a2 < 0 then
    some r2.2
  else
  if a2 < 28 then
    (some ((a1 * 28) + a2)).bind fun v6 =>
    (x_E_cell 33 v6 r2.2).bind fun r7 =>
    if r7.1 < 0 then
      (gx_put r7.2 22 1 a1).bind fun w9 =>
      (gx_put w9 22 2 a2).bind fun w10 =>
      (x_M_isFirm w10).bind fun r11 =>
      if r11.1 = 0 then
        some r11.2
      else
      (x_E_setCell 34 (r11.2 32 3) v6 r11.2).bind fun r13 =>
      if r13.1 = 0 then
        some r13.2
      else
      (x_E_setCell 33 v6 a3 r13.2).bind fun r15 =>
      (gx_put r15.2 32 3 ((r15.2 32 3) + 1)).bind fun w16 =>
      some w16
    else
    some r7.2
  else
  some r2.2
theorem k_x_W_visit {a1 : Int32} {a2 : Int32} {a3 : Int32} {w : gx_Wd} {R : gx_Wd} (h : x_W_visit a1 a2 a3 w = some R) : gx_MT mi_x_W_visit [.inr 32, .inl a1, .inl a2, .inl a3] w none R := by
  refine gx_met (by decide +kernel) (Nat.le_of_ble_eq_true rfl) (fun X hX hres hwr => ?_)
  show gx_G X mi_x_W_visit 0 [some (.inr 32), some (.inl a1), some (.inl a2), some (.inl a3)] [] w
  rw [x_W_visit] at h
  refine gx_iload_n hX (gx_dt dt_mi_x_W_visit 0 rfl) rfl ?_
  refine gx_if_lt hX (tgt := 28) (gx_dt dt_mi_x_W_visit 1 rfl) (by decide) (fun c1 => ?_) (fun c1 => ?_)
  · have h := gx_ifp c1 h
    obtain rfl := Option.some.inj h
    exact gx_vret hX (gx_dt dt_mi_x_W_visit 13 rfl) rfl hres hwr
  · have h := gx_ifn c1 h
    refine gx_iload_n hX (gx_dt dt_mi_x_W_visit 2 rfl) rfl ?_
    refine gx_aload_n hX (gx_dt dt_mi_x_W_visit 3 rfl) rfl ?_
    refine gx_getr hX fl_W_9 sh_x_32 rfl (gx_dt dt_mi_x_W_visit 4 rfl) ?_
    refine gx_getr hX fl_W_30 sh_x_22 rfl (gx_dt dt_mi_x_W_visit 5 rfl) ?_
    obtain ⟨r2, e_r2, h⟩ := gx_bd h
    refine gx_callVi hX (gx_dt dt_mi_x_W_visit 6 rfl) ln_W_52_x_R_lastAt_1 mo_x_R_lastAt_1 mv_x_R_lastAt_1 (gx_rmb rfl) sh_x_1 ⟨_, _, rfl⟩ rfl (k_x_R_lastAt_1 e_r2) rfl rfl (Nat.le_of_ble_eq_true rfl) ?_
    refine gx_ic_gt hX (tgt := 28) (gx_dt dt_mi_x_W_visit 7 rfl) (by decide) (fun c3 => ?_) (fun c3 => ?_)
    · have h := gx_ifp c3 h
      obtain rfl := Option.some.inj h
      exact gx_vret hX (gx_dt dt_mi_x_W_visit 13 rfl) rfl hres hwr
    · have h := gx_ifn c3 h
      refine gx_iload_n hX (gx_dt dt_mi_x_W_visit 8 rfl) rfl ?_
      refine gx_if_lt hX (tgt := 28) (gx_dt dt_mi_x_W_visit 9 rfl) (by decide) (fun c4 => ?_) (fun c4 => ?_)
      · have h := gx_ifp c4 h
        obtain rfl := Option.some.inj h
        exact gx_vret hX (gx_dt dt_mi_x_W_visit 13 rfl) rfl hres hwr
      · have h := gx_ifn c4 h
        refine gx_iload_n hX (gx_dt dt_mi_x_W_visit 10 rfl) rfl ?_
        refine gx_bipush hX (v := 28) (gx_dt dt_mi_x_W_visit 11 rfl) (by decide) ?_
        refine gx_ic_lt hX (tgt := 29) (gx_dt dt_mi_x_W_visit 12 rfl) (by decide) (fun c5 => ?_) (fun c5 => ?_)
        · have h := gx_ifp c5 h
          refine gx_iload_n hX (gx_dt dt_mi_x_W_visit 14 rfl) rfl ?_
          refine gx_bipush hX (v := 28) (gx_dt dt_mi_x_W_visit 15 rfl) (by decide) ?_
          refine gx_imul hX (gx_dt dt_mi_x_W_visit 16 rfl) ?_
          refine gx_iload_n hX (gx_dt dt_mi_x_W_visit 17 rfl) rfl ?_
          refine gx_iadd hX (gx_dt dt_mi_x_W_visit 18 rfl) ?_
          obtain ⟨v6, e_v6, h⟩ := gx_bd h
          refine gx_top e_v6 ?_
          refine gx_istore hX (ls' := [some (.inr 32), some (.inl a1), some (.inl a2), some (.inl a3), some (.inl v6)]) (gx_dt dt_mi_x_W_visit 19 rfl) (by decide) rfl ?_
          refine gx_aload_n hX (gx_dt dt_mi_x_W_visit 20 rfl) rfl ?_
          refine gx_getr hX fl_W_15 sh_x_32 rfl (gx_dt dt_mi_x_W_visit 21 rfl) ?_
          refine gx_iload hX (gx_dt dt_mi_x_W_visit 22 rfl) rfl ?_
          obtain ⟨r7, e_r7, h⟩ := gx_bd h
          refine gx_callSi hX (gx_dt dt_mi_x_W_visit 23 rfl) ln_W_48_x_E_cell mo_x_E_cell ms_x_E_cell (gx_rmb rfl) rfl (k_x_E_cell e_r7) rfl rfl (Nat.le_of_ble_eq_true rfl) ?_
          refine gx_if_lt hX (tgt := 50) (gx_dt dt_mi_x_W_visit 24 rfl) (by decide) (fun c8 => ?_) (fun c8 => ?_)
          · have h := gx_ifp c8 h
            refine gx_aload_n hX (gx_dt dt_mi_x_W_visit 26 rfl) rfl ?_
            refine gx_getr hX fl_W_9 sh_x_32 rfl (gx_dt dt_mi_x_W_visit 27 rfl) ?_
            refine gx_iload_n hX (gx_dt dt_mi_x_W_visit 28 rfl) rfl ?_
            obtain ⟨w9, e_w9, h⟩ := gx_bd h
            refine gx_putp hX fl_W_56 (pf_M_1 _) sh_x_22 rfl e_w9 (gx_dt dt_mi_x_W_visit 29 rfl) ?_
            refine gx_aload_n hX (gx_dt dt_mi_x_W_visit 30 rfl) rfl ?_
            refine gx_getr hX fl_W_9 sh_x_32 rfl (gx_dt dt_mi_x_W_visit 31 rfl) ?_
            refine gx_iload_n hX (gx_dt dt_mi_x_W_visit 32 rfl) rfl ?_
            obtain ⟨w10, e_w10, h⟩ := gx_bd h
            refine gx_putp hX fl_W_57 (pf_M_2 _) sh_x_22 rfl e_w10 (gx_dt dt_mi_x_W_visit 33 rfl) ?_
            refine gx_aload_n hX (gx_dt dt_mi_x_W_visit 34 rfl) rfl ?_
            refine gx_getr hX fl_W_9 sh_x_32 rfl (gx_dt dt_mi_x_W_visit 35 rfl) ?_
            obtain ⟨r11, e_r11, h⟩ := gx_bd h
            refine gx_callVi hX (gx_dt dt_mi_x_W_visit 36 rfl) ln_W_58_x_M_isFirm mo_x_M_isFirm mv_x_M_isFirm (gx_rmb rfl) sh_x_22 ⟨_, _, rfl⟩ rfl (k_x_M_isFirm e_r11) rfl rfl (Nat.le_of_ble_eq_true rfl) ?_
            refine gx_if_eq hX (tgt := 113) (gx_dt dt_mi_x_W_visit 37 rfl) (by decide) (fun c12 => ?_) (fun c12 => ?_)
            · have h := gx_ifp c12 h
              obtain rfl := Option.some.inj h
              exact gx_vret hX (gx_dt dt_mi_x_W_visit 57 rfl) rfl hres hwr
            · have h := gx_ifn c12 h
              refine gx_aload_n hX (gx_dt dt_mi_x_W_visit 38 rfl) rfl ?_
              refine gx_getr hX fl_W_19 sh_x_32 rfl (gx_dt dt_mi_x_W_visit 39 rfl) ?_
              refine gx_aload_n hX (gx_dt dt_mi_x_W_visit 40 rfl) rfl ?_
              refine gx_geti hX fl_W_22 sh_x_32 rfl (gx_dt dt_mi_x_W_visit 41 rfl) ?_
              refine gx_iload hX (gx_dt dt_mi_x_W_visit 42 rfl) rfl ?_
              obtain ⟨r13, e_r13, h⟩ := gx_bd h
              refine gx_callSi hX (gx_dt dt_mi_x_W_visit 43 rfl) ln_W_26_x_E_setCell mo_x_E_setCell ms_x_E_setCell (gx_rmb rfl) rfl (k_x_E_setCell e_r13) rfl rfl (Nat.le_of_ble_eq_true rfl) ?_
              refine gx_if_eq hX (tgt := 113) (gx_dt dt_mi_x_W_visit 44 rfl) (by decide) (fun c14 => ?_) (fun c14 => ?_)
              · have h := gx_ifp c14 h
                obtain rfl := Option.some.inj h
                exact gx_vret hX (gx_dt dt_mi_x_W_visit 57 rfl) rfl hres hwr
              · have h := gx_ifn c14 h
                refine gx_aload_n hX (gx_dt dt_mi_x_W_visit 45 rfl) rfl ?_
                refine gx_getr hX fl_W_15 sh_x_32 rfl (gx_dt dt_mi_x_W_visit 46 rfl) ?_
                refine gx_iload hX (gx_dt dt_mi_x_W_visit 47 rfl) rfl ?_
                refine gx_iload_n hX (gx_dt dt_mi_x_W_visit 48 rfl) rfl ?_
                obtain ⟨r15, e_r15, h⟩ := gx_bd h
                refine gx_callSi hX (gx_dt dt_mi_x_W_visit 49 rfl) ln_W_26_x_E_setCell mo_x_E_setCell ms_x_E_setCell (gx_rmb rfl) rfl (k_x_E_setCell e_r15) rfl rfl (Nat.le_of_ble_eq_true rfl) ?_
                refine gx_pop hX (gx_dt dt_mi_x_W_visit 50 rfl) ?_
                refine gx_aload_n hX (gx_dt dt_mi_x_W_visit 51 rfl) rfl ?_
                refine gx_dup hX (gx_dt dt_mi_x_W_visit 52 rfl) ?_
                refine gx_geti hX fl_W_22 sh_x_32 rfl (gx_dt dt_mi_x_W_visit 53 rfl) ?_
                refine gx_iconst hX (v := 1) (gx_dt dt_mi_x_W_visit 54 rfl) (by decide) ?_
                refine gx_iadd hX (gx_dt dt_mi_x_W_visit 55 rfl) ?_
                obtain ⟨w16, e_w16, h⟩ := gx_bd h
                refine gx_putp hX fl_W_22 (pf_W_3 _) sh_x_32 rfl e_w16 (gx_dt dt_mi_x_W_visit 56 rfl) ?_
                obtain rfl := Option.some.inj h
                exact gx_vret hX (gx_dt dt_mi_x_W_visit 57 rfl) rfl hres hwr
          · have h := gx_ifn c8 h
            obtain rfl := Option.some.inj h
            exact gx_vret hX (gx_dt dt_mi_x_W_visit 25 rfl) rfl hres hwr
        · have h := gx_ifn c5 h
          obtain rfl := Option.some.inj h
          exact gx_vret hX (gx_dt dt_mi_x_W_visit 13 rfl) rfl hres hwr
-- EachBearsPillar$Walk.explore()V
def x_W_explore_60 : Nat → Int32 → gx_Wd → Option (gx_Wd)
  | 0, _, _ => none
  | n + 1, b1, w =>
  if w 32 3 ≤ b1 then
    some w
  else
  if 448 ≤ b1 then
    some w
  else
  (x_E_cell 34 b1 w).bind fun r3 =>
  (some (r3.1 / 28)).bind fun v4 =>
  (some (r3.1 - r3.1 / 28 * 28)).bind fun v5 =>
  (x_E_cell 33 r3.1 r3.2).bind fun r6 =>
  (some (r6.1 + 1)).bind fun v7 =>
  (x_W_visit (v4 - 1) v5 v7 r6.2).bind fun r8 =>
  (x_W_visit (v4 + 1) v5 v7 r8).bind fun r9 =>
  (x_W_visit v4 (v5 - 1) v7 r9).bind fun r10 =>
  (x_W_visit v4 (v5 + 1) v7 r10).bind fun r11 =>
  (some (b1 + 1)).bind fun v12 =>
  (x_W_explore_60 n) v12 r11
def x_W_explore_28 (w : gx_Wd) : Option (gx_Wd) :=
  (gx_put w 32 3 0).bind fun w1 =>
  (x_W_visit (w1 1 1) (w1 1 2) 0 w1).bind fun r2 =>
  x_W_explore_60 6000 0 r2
def x_W_explore_2 : Nat → Int32 → gx_Wd → Option (gx_Wd)
  | 0, _, _ => none
  | n + 1, b1, w =>
  if 448 ≤ b1 then
    x_W_explore_28 w
  else
  (x_E_setCell 33 b1 (-9) w).bind fun r2 =>
  (some (b1 + 1)).bind fun v3 =>
  (x_W_explore_2 n) v3 r2.2
def x_W_explore (w : gx_Wd) : Option (gx_Wd) :=
  x_W_explore_2 6000 0 w
theorem t_x_W_explore_60 {X : gx_X} (hX : gx_Ok X mi_x_W_explore) {R : gx_Wd} (hres : gx_res X = none) (hwr : gx_wr X = R) : ∀ (n : Nat) (b1 : Int32) (w : gx_Wd), x_W_explore_60 n b1 w = some R → gx_G X mi_x_W_explore 60 [some (.inr 32), some (.inl b1)] [] w := by
  intro n
  induction n with
  | zero => intro b1 w h; rw [x_W_explore_60] at h; cases h
  | succ n ih =>
    intro b1 w h
    rw [x_W_explore_60] at h
    refine gx_iload_n hX (gx_dt dt_mi_x_W_explore 31 rfl) rfl ?_
    refine gx_aload_n hX (gx_dt dt_mi_x_W_explore 32 rfl) rfl ?_
    refine gx_geti hX fl_W_22 sh_x_32 rfl (gx_dt dt_mi_x_W_explore 33 rfl) ?_
    refine gx_ic_ge hX (tgt := 159) (gx_dt dt_mi_x_W_explore 34 rfl) (by decide) (fun c1 => ?_) (fun c1 => ?_)
    · have h := gx_ifp c1 h
      obtain rfl := Option.some.inj h
      exact gx_vret hX (gx_dt dt_mi_x_W_explore 90 rfl) rfl hres hwr
    · have h := gx_ifn c1 h
      refine gx_iload_n hX (gx_dt dt_mi_x_W_explore 35 rfl) rfl ?_
      refine gx_aload_n hX (gx_dt dt_mi_x_W_explore 36 rfl) rfl ?_
      refine gx_getr hX fl_W_19 sh_x_32 rfl (gx_dt dt_mi_x_W_explore 37 rfl) ?_
      refine gx_alen hX (v := 448) rfl (gx_dt dt_mi_x_W_explore 38 rfl) ?_
      refine gx_ic_ge hX (tgt := 159) (gx_dt dt_mi_x_W_explore 39 rfl) (by decide) (fun c2 => ?_) (fun c2 => ?_)
      · have h := gx_ifp c2 h
        obtain rfl := Option.some.inj h
        exact gx_vret hX (gx_dt dt_mi_x_W_explore 90 rfl) rfl hres hwr
      · have h := gx_ifn c2 h
        refine gx_aload_n hX (gx_dt dt_mi_x_W_explore 40 rfl) rfl ?_
        refine gx_getr hX fl_W_19 sh_x_32 rfl (gx_dt dt_mi_x_W_explore 41 rfl) ?_
        refine gx_iload_n hX (gx_dt dt_mi_x_W_explore 42 rfl) rfl ?_
        obtain ⟨r3, e_r3, h⟩ := gx_bd h
        refine gx_callSi hX (gx_dt dt_mi_x_W_explore 43 rfl) ln_W_48_x_E_cell mo_x_E_cell ms_x_E_cell (gx_rmb rfl) rfl (k_x_E_cell e_r3) rfl rfl (Nat.le_of_ble_eq_true rfl) ?_
        refine gx_istore_n hX (ls' := [some (.inr 32), some (.inl b1), some (.inl (r3.1))]) (gx_dt dt_mi_x_W_explore 44 rfl) (by decide) rfl ?_
        refine gx_iload_n hX (gx_dt dt_mi_x_W_explore 45 rfl) rfl ?_
        refine gx_bipush hX (v := 28) (gx_dt dt_mi_x_W_explore 46 rfl) (by decide) ?_
        refine gx_idiv hX (gx_dt dt_mi_x_W_explore 47 rfl) (by decide) ?_
        obtain ⟨v4, e_v4, h⟩ := gx_bd h
        refine gx_top e_v4 ?_
        refine gx_istore_n hX (ls' := [some (.inr 32), some (.inl b1), some (.inl (r3.1)), some (.inl v4)]) (gx_dt dt_mi_x_W_explore 48 rfl) (by decide) rfl ?_
        refine gx_iload_n hX (gx_dt dt_mi_x_W_explore 49 rfl) rfl ?_
        refine gx_bipush hX (v := 28) (gx_dt dt_mi_x_W_explore 50 rfl) (by decide) ?_
        refine gx_irem hX (gx_dt dt_mi_x_W_explore 51 rfl) (by decide) ?_
        obtain ⟨v5, e_v5, h⟩ := gx_bd h
        refine gx_top e_v5 ?_
        refine gx_istore hX (ls' := [some (.inr 32), some (.inl b1), some (.inl (r3.1)), some (.inl v4), some (.inl v5)]) (gx_dt dt_mi_x_W_explore 52 rfl) (by decide) rfl ?_
        refine gx_aload_n hX (gx_dt dt_mi_x_W_explore 53 rfl) rfl ?_
        refine gx_getr hX fl_W_15 sh_x_32 rfl (gx_dt dt_mi_x_W_explore 54 rfl) ?_
        refine gx_iload_n hX (gx_dt dt_mi_x_W_explore 55 rfl) rfl ?_
        obtain ⟨r6, e_r6, h⟩ := gx_bd h
        refine gx_callSi hX (gx_dt dt_mi_x_W_explore 56 rfl) ln_W_48_x_E_cell mo_x_E_cell ms_x_E_cell (gx_rmb rfl) rfl (k_x_E_cell e_r6) rfl rfl (Nat.le_of_ble_eq_true rfl) ?_
        refine gx_iconst hX (v := 1) (gx_dt dt_mi_x_W_explore 57 rfl) (by decide) ?_
        refine gx_iadd hX (gx_dt dt_mi_x_W_explore 58 rfl) ?_
        obtain ⟨v7, e_v7, h⟩ := gx_bd h
        refine gx_top e_v7 ?_
        refine gx_istore hX (ls' := [some (.inr 32), some (.inl b1), some (.inl (r3.1)), some (.inl v4), some (.inl v5), some (.inl v7)]) (gx_dt dt_mi_x_W_explore 59 rfl) (by decide) rfl ?_
        refine gx_aload_n hX (gx_dt dt_mi_x_W_explore 60 rfl) rfl ?_
        refine gx_iload_n hX (gx_dt dt_mi_x_W_explore 61 rfl) rfl ?_
        refine gx_iconst hX (v := 1) (gx_dt dt_mi_x_W_explore 62 rfl) (by decide) ?_
        refine gx_isub hX (gx_dt dt_mi_x_W_explore 63 rfl) ?_
        refine gx_iload hX (gx_dt dt_mi_x_W_explore 64 rfl) rfl ?_
        refine gx_iload hX (gx_dt dt_mi_x_W_explore 65 rfl) rfl ?_
        obtain ⟨r8, e_r8, h⟩ := gx_bd h
        refine gx_callVv hX (gx_dt dt_mi_x_W_explore 66 rfl) ln_W_44_x_W_visit mo_x_W_visit mv_x_W_visit (gx_rmb rfl) sh_x_32 ⟨_, _, rfl⟩ rfl (k_x_W_visit e_r8) rfl rfl (Nat.le_of_ble_eq_true rfl) ?_
        refine gx_aload_n hX (gx_dt dt_mi_x_W_explore 67 rfl) rfl ?_
        refine gx_iload_n hX (gx_dt dt_mi_x_W_explore 68 rfl) rfl ?_
        refine gx_iconst hX (v := 1) (gx_dt dt_mi_x_W_explore 69 rfl) (by decide) ?_
        refine gx_iadd hX (gx_dt dt_mi_x_W_explore 70 rfl) ?_
        refine gx_iload hX (gx_dt dt_mi_x_W_explore 71 rfl) rfl ?_
        refine gx_iload hX (gx_dt dt_mi_x_W_explore 72 rfl) rfl ?_
        obtain ⟨r9, e_r9, h⟩ := gx_bd h
        refine gx_callVv hX (gx_dt dt_mi_x_W_explore 73 rfl) ln_W_44_x_W_visit mo_x_W_visit mv_x_W_visit (gx_rmb rfl) sh_x_32 ⟨_, _, rfl⟩ rfl (k_x_W_visit e_r9) rfl rfl (Nat.le_of_ble_eq_true rfl) ?_
        refine gx_aload_n hX (gx_dt dt_mi_x_W_explore 74 rfl) rfl ?_
        refine gx_iload_n hX (gx_dt dt_mi_x_W_explore 75 rfl) rfl ?_
        refine gx_iload hX (gx_dt dt_mi_x_W_explore 76 rfl) rfl ?_
        refine gx_iconst hX (v := 1) (gx_dt dt_mi_x_W_explore 77 rfl) (by decide) ?_
        refine gx_isub hX (gx_dt dt_mi_x_W_explore 78 rfl) ?_
        refine gx_iload hX (gx_dt dt_mi_x_W_explore 79 rfl) rfl ?_
        obtain ⟨r10, e_r10, h⟩ := gx_bd h
        refine gx_callVv hX (gx_dt dt_mi_x_W_explore 80 rfl) ln_W_44_x_W_visit mo_x_W_visit mv_x_W_visit (gx_rmb rfl) sh_x_32 ⟨_, _, rfl⟩ rfl (k_x_W_visit e_r10) rfl rfl (Nat.le_of_ble_eq_true rfl) ?_
        refine gx_aload_n hX (gx_dt dt_mi_x_W_explore 81 rfl) rfl ?_
        refine gx_iload_n hX (gx_dt dt_mi_x_W_explore 82 rfl) rfl ?_
        refine gx_iload hX (gx_dt dt_mi_x_W_explore 83 rfl) rfl ?_
        refine gx_iconst hX (v := 1) (gx_dt dt_mi_x_W_explore 84 rfl) (by decide) ?_
        refine gx_iadd hX (gx_dt dt_mi_x_W_explore 85 rfl) ?_
        refine gx_iload hX (gx_dt dt_mi_x_W_explore 86 rfl) rfl ?_
        obtain ⟨r11, e_r11, h⟩ := gx_bd h
        refine gx_callVv hX (gx_dt dt_mi_x_W_explore 87 rfl) ln_W_44_x_W_visit mo_x_W_visit mv_x_W_visit (gx_rmb rfl) sh_x_32 ⟨_, _, rfl⟩ rfl (k_x_W_visit e_r11) rfl rfl (Nat.le_of_ble_eq_true rfl) ?_
        obtain ⟨v12, e_v12, h⟩ := gx_bd h
        refine gx_iinc hX (v := v12) (ls' := [some (.inr 32), some (.inl v12), some (.inl (r3.1)), some (.inl v4), some (.inl v5), some (.inl v7)]) (gx_dt dt_mi_x_W_explore 88 rfl) rfl (gx_ii e_v12 (by decide)) (by decide) rfl ?_
        refine gx_goto hX (tgt := 60) (gx_dt dt_mi_x_W_explore 89 rfl) (by decide) ?_
        exact gx_weak (gx_leS (gx_leS gx_le0)) (ih _ _ h)
theorem t_x_W_explore_28 {X : gx_X} (hX : gx_Ok X mi_x_W_explore) {R : gx_Wd} (hres : gx_res X = none) (hwr : gx_wr X = R) (w : gx_Wd) (h : x_W_explore_28 w = some R) : gx_G X mi_x_W_explore 28 [some (.inr 32)] [] w := by
  rw [x_W_explore_28] at h
  refine gx_aload_n hX (gx_dt dt_mi_x_W_explore 15 rfl) rfl ?_
  refine gx_iconst hX (v := 0) (gx_dt dt_mi_x_W_explore 16 rfl) (by decide) ?_
  obtain ⟨w1, e_w1, h⟩ := gx_bd h
  refine gx_putp hX fl_W_22 (pf_W_3 _) sh_x_32 rfl e_w1 (gx_dt dt_mi_x_W_explore 17 rfl) ?_
  refine gx_aload_n hX (gx_dt dt_mi_x_W_explore 18 rfl) rfl ?_
  refine gx_aload_n hX (gx_dt dt_mi_x_W_explore 19 rfl) rfl ?_
  refine gx_getr hX fl_W_9 sh_x_32 rfl (gx_dt dt_mi_x_W_explore 20 rfl) ?_
  refine gx_getr hX fl_W_30 sh_x_22 rfl (gx_dt dt_mi_x_W_explore 21 rfl) ?_
  refine gx_geti hX fl_W_36 sh_x_1 rfl (gx_dt dt_mi_x_W_explore 22 rfl) ?_
  refine gx_aload_n hX (gx_dt dt_mi_x_W_explore 23 rfl) rfl ?_
  refine gx_getr hX fl_W_9 sh_x_32 rfl (gx_dt dt_mi_x_W_explore 24 rfl) ?_
  refine gx_getr hX fl_W_30 sh_x_22 rfl (gx_dt dt_mi_x_W_explore 25 rfl) ?_
  refine gx_geti hX fl_W_41 sh_x_1 rfl (gx_dt dt_mi_x_W_explore 26 rfl) ?_
  refine gx_iconst hX (v := 0) (gx_dt dt_mi_x_W_explore 27 rfl) (by decide) ?_
  obtain ⟨r2, e_r2, h⟩ := gx_bd h
  refine gx_callVv hX (gx_dt dt_mi_x_W_explore 28 rfl) ln_W_44_x_W_visit mo_x_W_visit mv_x_W_visit (gx_rmb rfl) sh_x_32 ⟨_, _, rfl⟩ rfl (k_x_W_visit e_r2) rfl rfl (Nat.le_of_ble_eq_true rfl) ?_
  refine gx_iconst hX (v := 0) (gx_dt dt_mi_x_W_explore 29 rfl) (by decide) ?_
  refine gx_istore_n hX (ls' := [some (.inr 32), some (.inl (0))]) (gx_dt dt_mi_x_W_explore 30 rfl) (by decide) rfl ?_
  exact gx_weak (gx_leS (gx_leS gx_le0)) (t_x_W_explore_60 hX hres hwr _ _ _ h)
theorem t_x_W_explore_2 {X : gx_X} (hX : gx_Ok X mi_x_W_explore) {R : gx_Wd} (hres : gx_res X = none) (hwr : gx_wr X = R) : ∀ (n : Nat) (b1 : Int32) (w : gx_Wd), x_W_explore_2 n b1 w = some R → gx_G X mi_x_W_explore 2 [some (.inr 32), some (.inl b1)] [] w := by
  intro n
  induction n with
  | zero => intro b1 w h; rw [x_W_explore_2] at h; cases h
  | succ n ih =>
    intro b1 w h
    rw [x_W_explore_2] at h
    refine gx_iload_n hX (gx_dt dt_mi_x_W_explore 2 rfl) rfl ?_
    refine gx_aload_n hX (gx_dt dt_mi_x_W_explore 3 rfl) rfl ?_
    refine gx_getr hX fl_W_15 sh_x_32 rfl (gx_dt dt_mi_x_W_explore 4 rfl) ?_
    refine gx_alen hX (v := 448) rfl (gx_dt dt_mi_x_W_explore 5 rfl) ?_
    refine gx_ic_ge hX (tgt := 28) (gx_dt dt_mi_x_W_explore 6 rfl) (by decide) (fun c1 => ?_) (fun c1 => ?_)
    · have h := gx_ifp c1 h
      exact gx_weak (gx_leS gx_le0) (t_x_W_explore_28 hX hres hwr _ h)
    · have h := gx_ifn c1 h
      refine gx_aload_n hX (gx_dt dt_mi_x_W_explore 7 rfl) rfl ?_
      refine gx_getr hX fl_W_15 sh_x_32 rfl (gx_dt dt_mi_x_W_explore 8 rfl) ?_
      refine gx_iload_n hX (gx_dt dt_mi_x_W_explore 9 rfl) rfl ?_
      refine gx_bipush hX (v := (-9)) (gx_dt dt_mi_x_W_explore 10 rfl) (by decide) ?_
      obtain ⟨r2, e_r2, h⟩ := gx_bd h
      refine gx_callSi hX (gx_dt dt_mi_x_W_explore 11 rfl) ln_W_26_x_E_setCell mo_x_E_setCell ms_x_E_setCell (gx_rmb rfl) rfl (k_x_E_setCell e_r2) rfl rfl (Nat.le_of_ble_eq_true rfl) ?_
      refine gx_pop hX (gx_dt dt_mi_x_W_explore 12 rfl) ?_
      obtain ⟨v3, e_v3, h⟩ := gx_bd h
      refine gx_iinc hX (v := v3) (ls' := [some (.inr 32), some (.inl v3)]) (gx_dt dt_mi_x_W_explore 13 rfl) rfl (gx_ii e_v3 (by decide)) (by decide) rfl ?_
      refine gx_goto hX (tgt := 2) (gx_dt dt_mi_x_W_explore 14 rfl) (by decide) ?_
      exact gx_weak (gx_leS (gx_leS gx_le0)) (ih _ _ h)
theorem k_x_W_explore {w : gx_Wd} {R : gx_Wd} (h : x_W_explore w = some R) : gx_MT mi_x_W_explore [.inr 32] w none R := by
  refine gx_met (by decide +kernel) (Nat.le_of_ble_eq_true rfl) (fun X hX hres hwr => ?_)
  show gx_G X mi_x_W_explore 0 [some (.inr 32)] [] w
  rw [x_W_explore] at h
  refine gx_iconst hX (v := 0) (gx_dt dt_mi_x_W_explore 0 rfl) (by decide) ?_
  refine gx_istore_n hX (ls' := [some (.inr 32), some (.inl (0))]) (gx_dt dt_mi_x_W_explore 1 rfl) (by decide) rfl ?_
  exact gx_weak (gx_leS (gx_leS gx_le0)) (t_x_W_explore_2 hX hres hwr _ _ _ h)
