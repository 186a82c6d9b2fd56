-- EachBearsPillar$Walk.minutesTo(II)I
def x_W_minutesTo (a1 : Int32) (a2 : Int32) (w : gx_Wd) : Option (Int32 × gx_Wd) :=
  (x_E_cell 33 ((a1 * 28) + a2) w).bind fun r1 =>
  some (r1.1, r1.2)
theorem k_x_W_minutesTo {a1 : Int32} {a2 : Int32} {w : gx_Wd} {R : Int32 × gx_Wd} (h : x_W_minutesTo a1 a2 w = some R) : gx_MT mi_x_W_minutesTo [.inr 32, .inl a1, .inl a2] w (some (.inl R.1)) R.2 := by
  refine gx_met (by decide +kernel) (Nat.le_of_ble_eq_true rfl) (fun X hX hres hwr => ?_)
  show gx_G X mi_x_W_minutesTo 0 [some (.inr 32), some (.inl a1), some (.inl a2)] [] w
  rw [x_W_minutesTo] at h
  refine gx_aload_n hX (gx_dt dt_mi_x_W_minutesTo 0 rfl) rfl ?_
  refine gx_getr hX fl_W_15 sh_x_32 rfl (gx_dt dt_mi_x_W_minutesTo 1 rfl) ?_
  refine gx_iload_n hX (gx_dt dt_mi_x_W_minutesTo 2 rfl) rfl ?_
  refine gx_bipush hX (v := 28) (gx_dt dt_mi_x_W_minutesTo 3 rfl) (by decide) ?_
  refine gx_imul hX (gx_dt dt_mi_x_W_minutesTo 4 rfl) ?_
  refine gx_iload_n hX (gx_dt dt_mi_x_W_minutesTo 5 rfl) rfl ?_
  refine gx_iadd hX (gx_dt dt_mi_x_W_minutesTo 6 rfl) ?_
  obtain ⟨r1, e_r1, h⟩ := gx_bd h
  refine gx_callSi hX (gx_dt dt_mi_x_W_minutesTo 7 rfl) ln_W_48_x_E_cell mo_x_E_cell ms_x_E_cell (gx_rmb rfl) rfl (k_x_E_cell e_r1) rfl rfl (Nat.le_of_ble_eq_true rfl) ?_
  obtain rfl := Option.some.inj h
  exact gx_iret hX (gx_dt dt_mi_x_W_minutesTo 8 rfl) rfl hres hwr
-- EachBearsPillar$Walk.fewestTo(I)I
def x_W_fewestTo_37 (K5 : Int32 → Int32 → Int32 → gx_Wd → Option (Int32 × gx_Wd)) (b1 : Int32) (b2 : Int32) (b3 : Int32) (w : gx_Wd) : Option (Int32 × gx_Wd) :=
  (some (b3 + 1)).bind fun v1 =>
  K5 b1 b2 v1 w
def x_W_fewestTo_34 (K5 : Int32 → Int32 → Int32 → gx_Wd → Option (Int32 × gx_Wd)) (b1 : Int32) (b3 : Int32) (b4 : Int32) (w : gx_Wd) : Option (Int32 × gx_Wd) :=
  x_W_fewestTo_37 K5 b1 b4 b3 w
def x_W_fewestTo_5 : Nat → Int32 → Int32 → Int32 → gx_Wd → Option (Int32 × gx_Wd)
  | 0, _, _, _, _ => none
  | n + 1, b1, b2, b3, w =>
  if 28 ≤ b3 then
    some (b2, w)
  else
  (x_W_minutesTo b1 b3 w).bind fun r2 =>
  if r2.1 < 0 then
    x_W_fewestTo_37 (x_W_fewestTo_5 n) b1 b2 b3 r2.2
  else
  if b2 < 0 then
    x_W_fewestTo_34 (x_W_fewestTo_5 n) b1 b3 r2.1 r2.2
  else
  if b2 ≤ r2.1 then
    x_W_fewestTo_37 (x_W_fewestTo_5 n) b1 b2 b3 r2.2
  else
  x_W_fewestTo_34 (x_W_fewestTo_5 n) b1 b3 r2.1 r2.2
def x_W_fewestTo (a1 : Int32) (w : gx_Wd) : Option (Int32 × gx_Wd) :=
  x_W_fewestTo_5 6000 a1 (-9) 0 w
theorem t_x_W_fewestTo_37 {X : gx_X} (hX : gx_Ok X mi_x_W_fewestTo) {R : Int32 × gx_Wd} (hres : gx_res X = some (.inl R.1)) (hwr : gx_wr X = R.2) {K5 : Int32 → Int32 → Int32 → gx_Wd → Option (Int32 × gx_Wd)} (hK5 : ∀ (b1 : Int32) (b2 : Int32) (b3 : Int32) (w : gx_Wd), K5 b1 b2 b3 w = some R → gx_G X mi_x_W_fewestTo 5 [some (.inr 32), some (.inl b1), some (.inl b2), some (.inl b3)] [] w) (b1 : Int32) (b2 : Int32) (b3 : Int32) (w : gx_Wd) (h : x_W_fewestTo_37 K5 b1 b2 b3 w = some R) : gx_G X mi_x_W_fewestTo 37 [some (.inr 32), some (.inl b1), some (.inl b2), some (.inl b3)] [] w := by
  rw [x_W_fewestTo_37] at h
  obtain ⟨v1, e_v1, h⟩ := gx_bd h
  refine gx_iinc hX (v := v1) (ls' := [some (.inr 32), some (.inl b1), some (.inl b2), some (.inl v1)]) (gx_dt dt_mi_x_W_fewestTo 21 rfl) rfl (gx_ii e_v1 (by decide)) (by decide) rfl ?_
  refine gx_goto hX (tgt := 5) (gx_dt dt_mi_x_W_fewestTo 22 rfl) (by decide) ?_
  exact gx_weak (gx_leS (gx_leS (gx_leS (gx_leS gx_le0)))) (hK5 _ _ _ _ h)
theorem t_x_W_fewestTo_34 {X : gx_X} (hX : gx_Ok X mi_x_W_fewestTo) {R : Int32 × gx_Wd} (hres : gx_res X = some (.inl R.1)) (hwr : gx_wr X = R.2) {K5 : Int32 → Int32 → Int32 → gx_Wd → Option (Int32 × gx_Wd)} (hK5 : ∀ (b1 : Int32) (b2 : Int32) (b3 : Int32) (w : gx_Wd), K5 b1 b2 b3 w = some R → gx_G X mi_x_W_fewestTo 5 [some (.inr 32), some (.inl b1), some (.inl b2), some (.inl b3)] [] w) (b1 : Int32) (b3 : Int32) (b4 : Int32) (w : gx_Wd) (h : x_W_fewestTo_34 K5 b1 b3 b4 w = some R) : gx_G X mi_x_W_fewestTo 34 [some (.inr 32), some (.inl b1), none, some (.inl b3), some (.inl b4)] [] w := by
  rw [x_W_fewestTo_34] at h
  refine gx_iload hX (gx_dt dt_mi_x_W_fewestTo 19 rfl) rfl ?_
  refine gx_istore_n hX (ls' := [some (.inr 32), some (.inl b1), some (.inl b4), some (.inl b3), some (.inl b4)]) (gx_dt dt_mi_x_W_fewestTo 20 rfl) (by decide) rfl ?_
  exact gx_weak (gx_leS (gx_leS (gx_leS (gx_leS gx_le0)))) (t_x_W_fewestTo_37 hX hres hwr hK5 _ _ _ _ h)
theorem t_x_W_fewestTo_5 {X : gx_X} (hX : gx_Ok X mi_x_W_fewestTo) {R : Int32 × gx_Wd} (hres : gx_res X = some (.inl R.1)) (hwr : gx_wr X = R.2) : ∀ (n : Nat) (b1 : Int32) (b2 : Int32) (b3 : Int32) (w : gx_Wd), x_W_fewestTo_5 n b1 b2 b3 w = some R → gx_G X mi_x_W_fewestTo 5 [some (.inr 32), some (.inl b1), some (.inl b2), some (.inl b3)] [] w := by
  intro n
  induction n with
  | zero => intro b1 b2 b3 w h; rw [x_W_fewestTo_5] at h; cases h
  | succ n ih =>
    intro b1 b2 b3 w h
    rw [x_W_fewestTo_5] at h
    refine gx_iload_n hX (gx_dt dt_mi_x_W_fewestTo 4 rfl) rfl ?_
    refine gx_bipush hX (v := 28) (gx_dt dt_mi_x_W_fewestTo 5 rfl) (by decide) ?_
    refine gx_ic_ge hX (tgt := 43) (gx_dt dt_mi_x_W_fewestTo 6 rfl) (by decide) (fun c1 => ?_) (fun c1 => ?_)
    · have h := gx_ifp c1 h
      refine gx_iload_n hX (gx_dt dt_mi_x_W_fewestTo 23 rfl) rfl ?_
      obtain rfl := Option.some.inj h
      exact gx_iret hX (gx_dt dt_mi_x_W_fewestTo 24 rfl) rfl hres hwr
    · have h := gx_ifn c1 h
      refine gx_aload_n hX (gx_dt dt_mi_x_W_fewestTo 7 rfl) rfl ?_
      refine gx_iload_n hX (gx_dt dt_mi_x_W_fewestTo 8 rfl) rfl ?_
      refine gx_iload_n hX (gx_dt dt_mi_x_W_fewestTo 9 rfl) rfl ?_
      obtain ⟨r2, e_r2, h⟩ := gx_bd h
      refine gx_callVi hX (gx_dt dt_mi_x_W_fewestTo 10 rfl) ln_W_62_x_W_minutesTo mo_x_W_minutesTo mv_x_W_minutesTo (gx_rmb rfl) sh_x_32 ⟨_, _, rfl⟩ rfl (k_x_W_minutesTo e_r2) rfl rfl (Nat.le_of_ble_eq_true rfl) ?_
      refine gx_istore hX (ls' := [some (.inr 32), some (.inl b1), some (.inl b2), some (.inl b3), some (.inl (r2.1))]) (gx_dt dt_mi_x_W_fewestTo 11 rfl) (by decide) rfl ?_
      refine gx_iload hX (gx_dt dt_mi_x_W_fewestTo 12 rfl) rfl ?_
      refine gx_if_lt hX (tgt := 37) (gx_dt dt_mi_x_W_fewestTo 13 rfl) (by decide) (fun c3 => ?_) (fun c3 => ?_)
      · have h := gx_ifp c3 h
        exact gx_weak (gx_leS (gx_leS (gx_leS (gx_leS gx_le0)))) (t_x_W_fewestTo_37 hX hres hwr ih _ _ _ _ h)
      · have h := gx_ifn c3 h
        refine gx_iload_n hX (gx_dt dt_mi_x_W_fewestTo 14 rfl) rfl ?_
        refine gx_if_lt hX (tgt := 34) (gx_dt dt_mi_x_W_fewestTo 15 rfl) (by decide) (fun c4 => ?_) (fun c4 => ?_)
        · have h := gx_ifp c4 h
          exact gx_weak (gx_leS (gx_leS (gx_leN (gx_leS (gx_leS gx_le0))))) (t_x_W_fewestTo_34 hX hres hwr ih _ _ _ _ h)
        · have h := gx_ifn c4 h
          refine gx_iload hX (gx_dt dt_mi_x_W_fewestTo 16 rfl) rfl ?_
          refine gx_iload_n hX (gx_dt dt_mi_x_W_fewestTo 17 rfl) rfl ?_
          refine gx_ic_ge hX (tgt := 37) (gx_dt dt_mi_x_W_fewestTo 18 rfl) (by decide) (fun c5 => ?_) (fun c5 => ?_)
          · have h := gx_ifp c5 h
            exact gx_weak (gx_leS (gx_leS (gx_leS (gx_leS gx_le0)))) (t_x_W_fewestTo_37 hX hres hwr ih _ _ _ _ h)
          · have h := gx_ifn c5 h
            exact gx_weak (gx_leS (gx_leS (gx_leN (gx_leS (gx_leS gx_le0))))) (t_x_W_fewestTo_34 hX hres hwr ih _ _ _ _ h)
theorem k_x_W_fewestTo {a1 : Int32} {w : gx_Wd} {R : Int32 × gx_Wd} (h : x_W_fewestTo a1 w = some R) : gx_MT mi_x_W_fewestTo [.inr 32, .inl a1] w (some (.inl R.1)) R.2 := by
  refine gx_met (by decide +kernel) (Nat.le_of_ble_eq_true rfl) (fun X hX hres hwr => ?_)
  show gx_G X mi_x_W_fewestTo 0 [some (.inr 32), some (.inl a1)] [] w
  rw [x_W_fewestTo] at h
  refine gx_bipush hX (v := (-9)) (gx_dt dt_mi_x_W_fewestTo 0 rfl) (by decide) ?_
  refine gx_istore_n hX (ls' := [some (.inr 32), some (.inl a1), some (.inl ((-9)))]) (gx_dt dt_mi_x_W_fewestTo 1 rfl) (by decide) rfl ?_
  refine gx_iconst hX (v := 0) (gx_dt dt_mi_x_W_fewestTo 2 rfl) (by decide) ?_
  refine gx_istore_n hX (ls' := [some (.inr 32), some (.inl a1), some (.inl ((-9))), some (.inl (0))]) (gx_dt dt_mi_x_W_fewestTo 3 rfl) (by decide) rfl ?_
  exact gx_weak (gx_leS (gx_leS (gx_leS (gx_leS gx_le0)))) (t_x_W_fewestTo_5 hX hres hwr _ _ _ _ _ h)
-- EachBearsPillar.way(I)I
def x_E_way (a1 : Int32) (w : gx_Wd) : Option (Int32 × gx_Wd) :=
  if 0 ≤ a1 then
    (x_R_lastAt_1 w).bind fun r2 =>
    if a1 ≤ r2.1 then
      (x_M_asTold r2.2).bind fun r4 =>
      (x_W_explore r4).bind fun r5 =>
      (x_W_fewestTo a1 r5).bind fun r6 =>
      some (r6.1, r6.2)
    else
    (x_E_refuse (-6) r2.2).bind fun r7 =>
    some (r7.1, r7.2)
  else
  (x_E_refuse (-4) w).bind fun r8 =>
  some (r8.1, r8.2)
theorem k_x_E_way {a1 : Int32} {w : gx_Wd} {R : Int32 × gx_Wd} (h : x_E_way a1 w = some R) : gx_MT mi_x_E_way [.inr 0, .inl a1] w (some (.inl R.1)) R.2 := by
  refine gx_met (by decide +kernel) (Nat.le_of_ble_eq_true rfl) (fun X hX hres hwr => ?_)
  show gx_G X mi_x_E_way 0 [some (.inr 0), some (.inl a1)] [] w
  rw [x_E_way] at h
  refine gx_iload_n hX (gx_dt dt_mi_x_E_way 0 rfl) rfl ?_
  refine gx_if_ge hX (tgt := 11) (gx_dt dt_mi_x_E_way 1 rfl) (by decide) (fun c1 => ?_) (fun c1 => ?_)
  · have h := gx_ifp c1 h
    refine gx_iload_n hX (gx_dt dt_mi_x_E_way 6 rfl) rfl ?_
    refine gx_aload_n hX (gx_dt dt_mi_x_E_way 7 rfl) rfl ?_
    refine gx_getr hX fl_E_10 sh_x_0 rfl (gx_dt dt_mi_x_E_way 8 rfl) ?_
    obtain ⟨r2, e_r2, h⟩ := gx_bd h
    refine gx_callVi hX (gx_dt dt_mi_x_E_way 9 rfl) ln_E_109_x_R_lastAt_1 mo_x_R_lastAt_1 mv_x_R_lastAt_1 (gx_rmb rfl) sh_x_1 ⟨_, _, rfl⟩ rfl (k_x_R_lastAt_1 e_r2) rfl rfl (Nat.le_of_ble_eq_true rfl) ?_
    refine gx_ic_le hX (tgt := 29) (gx_dt dt_mi_x_E_way 10 rfl) (by decide) (fun c3 => ?_) (fun c3 => ?_)
    · have h := gx_ifp c3 h
      refine gx_aload_n hX (gx_dt dt_mi_x_E_way 15 rfl) rfl ?_
      refine gx_getr hX fl_E_31 sh_x_0 rfl (gx_dt dt_mi_x_E_way 16 rfl) ?_
      obtain ⟨r4, e_r4, h⟩ := gx_bd h
      refine gx_callVv hX (gx_dt dt_mi_x_E_way 17 rfl) ln_E_115_x_M_asTold mo_x_M_asTold mv_x_M_asTold (gx_rmb rfl) sh_x_22 ⟨_, _, rfl⟩ rfl (k_x_M_asTold e_r4) rfl rfl (Nat.le_of_ble_eq_true rfl) ?_
      refine gx_aload_n hX (gx_dt dt_mi_x_E_way 18 rfl) rfl ?_
      refine gx_getr hX fl_E_47 sh_x_0 rfl (gx_dt dt_mi_x_E_way 19 rfl) ?_
      obtain ⟨r5, e_r5, h⟩ := gx_bd h
      refine gx_callVv hX (gx_dt dt_mi_x_E_way 20 rfl) ln_E_211_x_W_explore mo_x_W_explore mv_x_W_explore (gx_rmb rfl) sh_x_32 ⟨_, _, rfl⟩ rfl (k_x_W_explore e_r5) rfl rfl (Nat.le_of_ble_eq_true rfl) ?_
      refine gx_aload_n hX (gx_dt dt_mi_x_E_way 21 rfl) rfl ?_
      refine gx_getr hX fl_E_47 sh_x_0 rfl (gx_dt dt_mi_x_E_way 22 rfl) ?_
      refine gx_iload_n hX (gx_dt dt_mi_x_E_way 23 rfl) rfl ?_
      obtain ⟨r6, e_r6, h⟩ := gx_bd h
      refine gx_callVi hX (gx_dt dt_mi_x_E_way 24 rfl) ln_E_214_x_W_fewestTo mo_x_W_fewestTo mv_x_W_fewestTo (gx_rmb rfl) sh_x_32 ⟨_, _, rfl⟩ rfl (k_x_W_fewestTo e_r6) rfl rfl (Nat.le_of_ble_eq_true rfl) ?_
      obtain rfl := Option.some.inj h
      exact gx_iret hX (gx_dt dt_mi_x_E_way 25 rfl) rfl hres hwr
    · have h := gx_ifn c3 h
      refine gx_aload_n hX (gx_dt dt_mi_x_E_way 11 rfl) rfl ?_
      refine gx_bipush hX (v := (-6)) (gx_dt dt_mi_x_E_way 12 rfl) (by decide) ?_
      obtain ⟨r7, e_r7, h⟩ := gx_bd h
      refine gx_callVi hX (gx_dt dt_mi_x_E_way 13 rfl) ln_E_69_x_E_refuse mo_x_E_refuse mv_x_E_refuse (gx_rmb rfl) sh_x_0 ⟨_, _, rfl⟩ rfl (k_x_E_refuse e_r7) rfl rfl (Nat.le_of_ble_eq_true rfl) ?_
      obtain rfl := Option.some.inj h
      exact gx_iret hX (gx_dt dt_mi_x_E_way 14 rfl) rfl hres hwr
  · have h := gx_ifn c1 h
    refine gx_aload_n hX (gx_dt dt_mi_x_E_way 2 rfl) rfl ?_
    refine gx_bipush hX (v := (-4)) (gx_dt dt_mi_x_E_way 3 rfl) (by decide) ?_
    obtain ⟨r8, e_r8, h⟩ := gx_bd h
    refine gx_callVi hX (gx_dt dt_mi_x_E_way 4 rfl) ln_E_69_x_E_refuse mo_x_E_refuse mv_x_E_refuse (gx_rmb rfl) sh_x_0 ⟨_, _, rfl⟩ rfl (k_x_E_refuse e_r8) rfl rfl (Nat.le_of_ble_eq_true rfl) ?_
    obtain rfl := Option.some.inj h
    exact gx_iret hX (gx_dt dt_mi_x_E_way 5 rfl) rfl hres hwr
-- EachBearsPillar$Walk.reachedWithin(I)I
def x_W_reachedWithin_34 (K4 : Int32 → Int32 → Int32 → gx_Wd → Option (Int32 × gx_Wd)) (b1 : Int32) (b2 : Int32) (b3 : Int32) (w : gx_Wd) : Option (Int32 × gx_Wd) :=
  (some (b3 + 1)).bind fun v1 =>
  K4 b1 b2 v1 w
def x_W_reachedWithin_4 : Nat → Int32 → Int32 → Int32 → gx_Wd → Option (Int32 × gx_Wd)
  | 0, _, _, _, _ => none
  | n + 1, b1, b2, b3, w =>
  if 16 ≤ b3 then
    some (b2, w)
  else
  (x_W_fewestTo b3 w).bind fun r2 =>
  if r2.1 < 0 then
    x_W_reachedWithin_34 (x_W_reachedWithin_4 n) b1 b2 b3 r2.2
  else
  if b1 < r2.1 then
    x_W_reachedWithin_34 (x_W_reachedWithin_4 n) b1 b2 b3 r2.2
  else
  (some (b2 ||| (1 <<< (b3 &&& 31)))).bind fun v5 =>
  x_W_reachedWithin_34 (x_W_reachedWithin_4 n) b1 v5 b3 r2.2
def x_W_reachedWithin (a1 : Int32) (w : gx_Wd) : Option (Int32 × gx_Wd) :=
  x_W_reachedWithin_4 6000 a1 0 0 w
theorem t_x_W_reachedWithin_34 {X : gx_X} (hX : gx_Ok X mi_x_W_reachedWithin) {R : Int32 × gx_Wd} (hres : gx_res X = some (.inl R.1)) (hwr : gx_wr X = R.2) {K4 : Int32 → Int32 → Int32 → gx_Wd → Option (Int32 × gx_Wd)} (hK4 : ∀ (b1 : Int32) (b2 : Int32) (b3 : Int32) (w : gx_Wd), K4 b1 b2 b3 w = some R → gx_G X mi_x_W_reachedWithin 4 [some (.inr 32), some (.inl b1), some (.inl b2), some (.inl b3)] [] w) (b1 : Int32) (b2 : Int32) (b3 : Int32) (w : gx_Wd) (h : x_W_reachedWithin_34 K4 b1 b2 b3 w = some R) : gx_G X mi_x_W_reachedWithin 34 [some (.inr 32), some (.inl b1), some (.inl b2), some (.inl b3)] [] w := by
  rw [x_W_reachedWithin_34] at h
  obtain ⟨v1, e_v1, h⟩ := gx_bd h
  refine gx_iinc hX (v := v1) (ls' := [some (.inr 32), some (.inl b1), some (.inl b2), some (.inl v1)]) (gx_dt dt_mi_x_W_reachedWithin 22 rfl) rfl (gx_ii e_v1 (by decide)) (by decide) rfl ?_
  refine gx_goto hX (tgt := 4) (gx_dt dt_mi_x_W_reachedWithin 23 rfl) (by decide) ?_
  exact gx_weak (gx_leS (gx_leS (gx_leS (gx_leS gx_le0)))) (hK4 _ _ _ _ h)
theorem t_x_W_reachedWithin_4 {X : gx_X} (hX : gx_Ok X mi_x_W_reachedWithin) {R : Int32 × gx_Wd} (hres : gx_res X = some (.inl R.1)) (hwr : gx_wr X = R.2) : ∀ (n : Nat) (b1 : Int32) (b2 : Int32) (b3 : Int32) (w : gx_Wd), x_W_reachedWithin_4 n b1 b2 b3 w = some R → gx_G X mi_x_W_reachedWithin 4 [some (.inr 32), some (.inl b1), some (.inl b2), some (.inl b3)] [] w := by
  intro n
  induction n with
  | zero => intro b1 b2 b3 w h; rw [x_W_reachedWithin_4] at h; cases h
  | succ n ih =>
    intro b1 b2 b3 w h
    rw [x_W_reachedWithin_4] at h
    refine gx_iload_n hX (gx_dt dt_mi_x_W_reachedWithin 4 rfl) rfl ?_
    refine gx_bipush hX (v := 16) (gx_dt dt_mi_x_W_reachedWithin 5 rfl) (by decide) ?_
    refine gx_ic_ge hX (tgt := 40) (gx_dt dt_mi_x_W_reachedWithin 6 rfl) (by decide) (fun c1 => ?_) (fun c1 => ?_)
    · have h := gx_ifp c1 h
      refine gx_iload_n hX (gx_dt dt_mi_x_W_reachedWithin 24 rfl) rfl ?_
      obtain rfl := Option.some.inj h
      exact gx_iret hX (gx_dt dt_mi_x_W_reachedWithin 25 rfl) rfl hres hwr
    · have h := gx_ifn c1 h
      refine gx_aload_n hX (gx_dt dt_mi_x_W_reachedWithin 7 rfl) rfl ?_
      refine gx_iload_n hX (gx_dt dt_mi_x_W_reachedWithin 8 rfl) rfl ?_
      obtain ⟨r2, e_r2, h⟩ := gx_bd h
      refine gx_callVi hX (gx_dt dt_mi_x_W_reachedWithin 9 rfl) ln_W_66_x_W_fewestTo mo_x_W_fewestTo mv_x_W_fewestTo (gx_rmb rfl) sh_x_32 ⟨_, _, rfl⟩ rfl (k_x_W_fewestTo e_r2) rfl rfl (Nat.le_of_ble_eq_true rfl) ?_
      refine gx_istore hX (ls' := [some (.inr 32), some (.inl b1), some (.inl b2), some (.inl b3), some (.inl (r2.1))]) (gx_dt dt_mi_x_W_reachedWithin 10 rfl) (by decide) rfl ?_
      refine gx_iload hX (gx_dt dt_mi_x_W_reachedWithin 11 rfl) rfl ?_
      refine gx_if_lt hX (tgt := 34) (gx_dt dt_mi_x_W_reachedWithin 12 rfl) (by decide) (fun c3 => ?_) (fun c3 => ?_)
      · have h := gx_ifp c3 h
        exact gx_weak (gx_leS (gx_leS (gx_leS (gx_leS gx_le0)))) (t_x_W_reachedWithin_34 hX hres hwr ih _ _ _ _ h)
      · have h := gx_ifn c3 h
        refine gx_iload hX (gx_dt dt_mi_x_W_reachedWithin 13 rfl) rfl ?_
        refine gx_iload_n hX (gx_dt dt_mi_x_W_reachedWithin 14 rfl) rfl ?_
        refine gx_ic_gt hX (tgt := 34) (gx_dt dt_mi_x_W_reachedWithin 15 rfl) (by decide) (fun c4 => ?_) (fun c4 => ?_)
        · have h := gx_ifp c4 h
          exact gx_weak (gx_leS (gx_leS (gx_leS (gx_leS gx_le0)))) (t_x_W_reachedWithin_34 hX hres hwr ih _ _ _ _ h)
        · have h := gx_ifn c4 h
          refine gx_iload_n hX (gx_dt dt_mi_x_W_reachedWithin 16 rfl) rfl ?_
          refine gx_iconst hX (v := 1) (gx_dt dt_mi_x_W_reachedWithin 17 rfl) (by decide) ?_
          refine gx_iload_n hX (gx_dt dt_mi_x_W_reachedWithin 18 rfl) rfl ?_
          refine gx_ishl hX (gx_dt dt_mi_x_W_reachedWithin 19 rfl) ?_
          refine gx_ior hX (gx_dt dt_mi_x_W_reachedWithin 20 rfl) ?_
          obtain ⟨v5, e_v5, h⟩ := gx_bd h
          refine gx_top e_v5 ?_
          refine gx_istore_n hX (ls' := [some (.inr 32), some (.inl b1), some (.inl v5), some (.inl b3), some (.inl (r2.1))]) (gx_dt dt_mi_x_W_reachedWithin 21 rfl) (by decide) rfl ?_
          exact gx_weak (gx_leS (gx_leS (gx_leS (gx_leS gx_le0)))) (t_x_W_reachedWithin_34 hX hres hwr ih _ _ _ _ h)
theorem k_x_W_reachedWithin {a1 : Int32} {w : gx_Wd} {R : Int32 × gx_Wd} (h : x_W_reachedWithin a1 w = some R) : gx_MT mi_x_W_reachedWithin [.inr 32, .inl a1] w (some (.inl R.1)) R.2 := by
  refine gx_met (by decide +kernel) (Nat.le_of_ble_eq_true rfl) (fun X hX hres hwr => ?_)
  show gx_G X mi_x_W_reachedWithin 0 [some (.inr 32), some (.inl a1)] [] w
  rw [x_W_reachedWithin] at h
  refine gx_iconst hX (v := 0) (gx_dt dt_mi_x_W_reachedWithin 0 rfl) (by decide) ?_
  refine gx_istore_n hX (ls' := [some (.inr 32), some (.inl a1), some (.inl (0))]) (gx_dt dt_mi_x_W_reachedWithin 1 rfl) (by decide) rfl ?_
  refine gx_iconst hX (v := 0) (gx_dt dt_mi_x_W_reachedWithin 2 rfl) (by decide) ?_
  refine gx_istore_n hX (ls' := [some (.inr 32), some (.inl a1), some (.inl (0)), some (.inl (0))]) (gx_dt dt_mi_x_W_reachedWithin 3 rfl) (by decide) rfl ?_
  exact gx_weak (gx_leS (gx_leS (gx_leS (gx_leS gx_le0)))) (t_x_W_reachedWithin_4 hX hres hwr _ _ _ _ _ h)
-- EachBearsPillar.reach(I)I
def x_E_reach (a1 : Int32) (w : gx_Wd) : Option (Int32 × gx_Wd) :=
  if 0 ≤ a1 then
    if a1 ≤ 40 then
      (x_M_asTold w).bind fun r3 =>
      (x_W_explore r3).bind fun r4 =>
      (x_W_reachedWithin a1 r4).bind fun r5 =>
      some (r5.1, r5.2)
    else
    (x_E_refuse (-6) w).bind fun r6 =>
    some (r6.1, r6.2)
  else
  (x_E_refuse (-4) w).bind fun r7 =>
  some (r7.1, r7.2)
theorem k_x_E_reach {a1 : Int32} {w : gx_Wd} {R : Int32 × gx_Wd} (h : x_E_reach a1 w = some R) : gx_MT mi_x_E_reach [.inr 0, .inl a1] w (some (.inl R.1)) R.2 := by
  refine gx_met (by decide +kernel) (Nat.le_of_ble_eq_true rfl) (fun X hX hres hwr => ?_)
  show gx_G X mi_x_E_reach 0 [some (.inr 0), some (.inl a1)] [] w
  rw [x_E_reach] at h
  refine gx_iload_n hX (gx_dt dt_mi_x_E_reach 0 rfl) rfl ?_
  refine gx_if_ge hX (tgt := 11) (gx_dt dt_mi_x_E_reach 1 rfl) (by decide) (fun c1 => ?_) (fun c1 => ?_)
  · have h := gx_ifp c1 h
    refine gx_iload_n hX (gx_dt dt_mi_x_E_reach 6 rfl) rfl ?_
    refine gx_bipush hX (v := 40) (gx_dt dt_mi_x_E_reach 7 rfl) (by decide) ?_
    refine gx_ic_le hX (tgt := 24) (gx_dt dt_mi_x_E_reach 8 rfl) (by decide) (fun c2 => ?_) (fun c2 => ?_)
    · have h := gx_ifp c2 h
      refine gx_aload_n hX (gx_dt dt_mi_x_E_reach 13 rfl) rfl ?_
      refine gx_getr hX fl_E_31 sh_x_0 rfl (gx_dt dt_mi_x_E_reach 14 rfl) ?_
      obtain ⟨r3, e_r3, h⟩ := gx_bd h
      refine gx_callVv hX (gx_dt dt_mi_x_E_reach 15 rfl) ln_E_115_x_M_asTold mo_x_M_asTold mv_x_M_asTold (gx_rmb rfl) sh_x_22 ⟨_, _, rfl⟩ rfl (k_x_M_asTold e_r3) rfl rfl (Nat.le_of_ble_eq_true rfl) ?_
      refine gx_aload_n hX (gx_dt dt_mi_x_E_reach 16 rfl) rfl ?_
      refine gx_getr hX fl_E_47 sh_x_0 rfl (gx_dt dt_mi_x_E_reach 17 rfl) ?_
      obtain ⟨r4, e_r4, h⟩ := gx_bd h
      refine gx_callVv hX (gx_dt dt_mi_x_E_reach 18 rfl) ln_E_211_x_W_explore mo_x_W_explore mv_x_W_explore (gx_rmb rfl) sh_x_32 ⟨_, _, rfl⟩ rfl (k_x_W_explore e_r4) rfl rfl (Nat.le_of_ble_eq_true rfl) ?_
      refine gx_aload_n hX (gx_dt dt_mi_x_E_reach 19 rfl) rfl ?_
      refine gx_getr hX fl_E_47 sh_x_0 rfl (gx_dt dt_mi_x_E_reach 20 rfl) ?_
      refine gx_iload_n hX (gx_dt dt_mi_x_E_reach 21 rfl) rfl ?_
      obtain ⟨r5, e_r5, h⟩ := gx_bd h
      refine gx_callVi hX (gx_dt dt_mi_x_E_reach 22 rfl) ln_E_217_x_W_reachedWithin mo_x_W_reachedWithin mv_x_W_reachedWithin (gx_rmb rfl) sh_x_32 ⟨_, _, rfl⟩ rfl (k_x_W_reachedWithin e_r5) rfl rfl (Nat.le_of_ble_eq_true rfl) ?_
      obtain rfl := Option.some.inj h
      exact gx_iret hX (gx_dt dt_mi_x_E_reach 23 rfl) rfl hres hwr
    · have h := gx_ifn c2 h
      refine gx_aload_n hX (gx_dt dt_mi_x_E_reach 9 rfl) rfl ?_
      refine gx_bipush hX (v := (-6)) (gx_dt dt_mi_x_E_reach 10 rfl) (by decide) ?_
      obtain ⟨r6, e_r6, h⟩ := gx_bd h
      refine gx_callVi hX (gx_dt dt_mi_x_E_reach 11 rfl) ln_E_69_x_E_refuse mo_x_E_refuse mv_x_E_refuse (gx_rmb rfl) sh_x_0 ⟨_, _, rfl⟩ rfl (k_x_E_refuse e_r6) rfl rfl (Nat.le_of_ble_eq_true rfl) ?_
      obtain rfl := Option.some.inj h
      exact gx_iret hX (gx_dt dt_mi_x_E_reach 12 rfl) rfl hres hwr
  · have h := gx_ifn c1 h
    refine gx_aload_n hX (gx_dt dt_mi_x_E_reach 2 rfl) rfl ?_
    refine gx_bipush hX (v := (-4)) (gx_dt dt_mi_x_E_reach 3 rfl) (by decide) ?_
    obtain ⟨r7, e_r7, h⟩ := gx_bd h
    refine gx_callVi hX (gx_dt dt_mi_x_E_reach 4 rfl) ln_E_69_x_E_refuse mo_x_E_refuse mv_x_E_refuse (gx_rmb rfl) sh_x_0 ⟨_, _, rfl⟩ rfl (k_x_E_refuse e_r7) rfl rfl (Nat.le_of_ble_eq_true rfl) ?_
    obtain rfl := Option.some.inj h
    exact gx_iret hX (gx_dt dt_mi_x_E_reach 5 rfl) rfl hres hwr
-- EachBearsPillar$Walk.lowestAt(II)I
def x_W_lowestAt_29 (K2 : Int32 → Int32 → Int32 → gx_Wd → Option (Int32 × gx_Wd)) (b1 : Int32) (b2 : Int32) (b3 : Int32) (w : gx_Wd) : Option (Int32 × gx_Wd) :=
  (some (b3 + 1)).bind fun v1 =>
  K2 b1 b2 v1 w
def x_W_lowestAt_2 : Nat → Int32 → Int32 → Int32 → gx_Wd → Option (Int32 × gx_Wd)
  | 0, _, _, _, _ => none
  | n + 1, b1, b2, b3, w =>
  if 28 ≤ b3 then
    some ((-9), w)
  else
  (x_W_minutesTo b1 b3 w).bind fun r2 =>
  if r2.1 < 0 then
    x_W_lowestAt_29 (x_W_lowestAt_2 n) b1 b2 b3 r2.2
  else
  if b2 < r2.1 then
    x_W_lowestAt_29 (x_W_lowestAt_2 n) b1 b2 b3 r2.2
  else
  some (b3, r2.2)
def x_W_lowestAt (a1 : Int32) (a2 : Int32) (w : gx_Wd) : Option (Int32 × gx_Wd) :=
  x_W_lowestAt_2 6000 a1 a2 0 w
theorem t_x_W_lowestAt_29 {X : gx_X} (hX : gx_Ok X mi_x_W_lowestAt) {R : Int32 × gx_Wd} (hres : gx_res X = some (.inl R.1)) (hwr : gx_wr X = R.2) {K2 : Int32 → Int32 → Int32 → gx_Wd → Option (Int32 × gx_Wd)} (hK2 : ∀ (b1 : Int32) (b2 : Int32) (b3 : Int32) (w : gx_Wd), K2 b1 b2 b3 w = some R → gx_G X mi_x_W_lowestAt 2 [some (.inr 32), some (.inl b1), some (.inl b2), some (.inl b3)] [] w) (b1 : Int32) (b2 : Int32) (b3 : Int32) (w : gx_Wd) (h : x_W_lowestAt_29 K2 b1 b2 b3 w = some R) : gx_G X mi_x_W_lowestAt 29 [some (.inr 32), some (.inl b1), some (.inl b2), some (.inl b3)] [] w := by
  rw [x_W_lowestAt_29] at h
  obtain ⟨v1, e_v1, h⟩ := gx_bd h
  refine gx_iinc hX (v := v1) (ls' := [some (.inr 32), some (.inl b1), some (.inl b2), some (.inl v1)]) (gx_dt dt_mi_x_W_lowestAt 17 rfl) rfl (gx_ii e_v1 (by decide)) (by decide) rfl ?_
  refine gx_goto hX (tgt := 2) (gx_dt dt_mi_x_W_lowestAt 18 rfl) (by decide) ?_
  exact gx_weak (gx_leS (gx_leS (gx_leS (gx_leS gx_le0)))) (hK2 _ _ _ _ h)
theorem t_x_W_lowestAt_2 {X : gx_X} (hX : gx_Ok X mi_x_W_lowestAt) {R : Int32 × gx_Wd} (hres : gx_res X = some (.inl R.1)) (hwr : gx_wr X = R.2) : ∀ (n : Nat) (b1 : Int32) (b2 : Int32) (b3 : Int32) (w : gx_Wd), x_W_lowestAt_2 n b1 b2 b3 w = some R → gx_G X mi_x_W_lowestAt 2 [some (.inr 32), some (.inl b1), some (.inl b2), some (.inl b3)] [] w := by
  intro n
  induction n with
  | zero => intro b1 b2 b3 w h; rw [x_W_lowestAt_2] at h; cases h
  | succ n ih =>
    intro b1 b2 b3 w h
    rw [x_W_lowestAt_2] at h
    refine gx_iload_n hX (gx_dt dt_mi_x_W_lowestAt 2 rfl) rfl ?_
    refine gx_bipush hX (v := 28) (gx_dt dt_mi_x_W_lowestAt 3 rfl) (by decide) ?_
    refine gx_ic_ge hX (tgt := 35) (gx_dt dt_mi_x_W_lowestAt 4 rfl) (by decide) (fun c1 => ?_) (fun c1 => ?_)
    · have h := gx_ifp c1 h
      refine gx_bipush hX (v := (-9)) (gx_dt dt_mi_x_W_lowestAt 19 rfl) (by decide) ?_
      obtain rfl := Option.some.inj h
      exact gx_iret hX (gx_dt dt_mi_x_W_lowestAt 20 rfl) rfl hres hwr
    · have h := gx_ifn c1 h
      refine gx_aload_n hX (gx_dt dt_mi_x_W_lowestAt 5 rfl) rfl ?_
      refine gx_iload_n hX (gx_dt dt_mi_x_W_lowestAt 6 rfl) rfl ?_
      refine gx_iload_n hX (gx_dt dt_mi_x_W_lowestAt 7 rfl) rfl ?_
      obtain ⟨r2, e_r2, h⟩ := gx_bd h
      refine gx_callVi hX (gx_dt dt_mi_x_W_lowestAt 8 rfl) ln_W_62_x_W_minutesTo mo_x_W_minutesTo mv_x_W_minutesTo (gx_rmb rfl) sh_x_32 ⟨_, _, rfl⟩ rfl (k_x_W_minutesTo e_r2) rfl rfl (Nat.le_of_ble_eq_true rfl) ?_
      refine gx_istore hX (ls' := [some (.inr 32), some (.inl b1), some (.inl b2), some (.inl b3), some (.inl (r2.1))]) (gx_dt dt_mi_x_W_lowestAt 9 rfl) (by decide) rfl ?_
      refine gx_iload hX (gx_dt dt_mi_x_W_lowestAt 10 rfl) rfl ?_
      refine gx_if_lt hX (tgt := 29) (gx_dt dt_mi_x_W_lowestAt 11 rfl) (by decide) (fun c3 => ?_) (fun c3 => ?_)
      · have h := gx_ifp c3 h
        exact gx_weak (gx_leS (gx_leS (gx_leS (gx_leS gx_le0)))) (t_x_W_lowestAt_29 hX hres hwr ih _ _ _ _ h)
      · have h := gx_ifn c3 h
        refine gx_iload hX (gx_dt dt_mi_x_W_lowestAt 12 rfl) rfl ?_
        refine gx_iload_n hX (gx_dt dt_mi_x_W_lowestAt 13 rfl) rfl ?_
        refine gx_ic_gt hX (tgt := 29) (gx_dt dt_mi_x_W_lowestAt 14 rfl) (by decide) (fun c4 => ?_) (fun c4 => ?_)
        · have h := gx_ifp c4 h
          exact gx_weak (gx_leS (gx_leS (gx_leS (gx_leS gx_le0)))) (t_x_W_lowestAt_29 hX hres hwr ih _ _ _ _ h)
        · have h := gx_ifn c4 h
          refine gx_iload_n hX (gx_dt dt_mi_x_W_lowestAt 15 rfl) rfl ?_
          obtain rfl := Option.some.inj h
          exact gx_iret hX (gx_dt dt_mi_x_W_lowestAt 16 rfl) rfl hres hwr
theorem k_x_W_lowestAt {a1 : Int32} {a2 : Int32} {w : gx_Wd} {R : Int32 × gx_Wd} (h : x_W_lowestAt a1 a2 w = some R) : gx_MT mi_x_W_lowestAt [.inr 32, .inl a1, .inl a2] w (some (.inl R.1)) R.2 := by
  refine gx_met (by decide +kernel) (Nat.le_of_ble_eq_true rfl) (fun X hX hres hwr => ?_)
  show gx_G X mi_x_W_lowestAt 0 [some (.inr 32), some (.inl a1), some (.inl a2)] [] w
  rw [x_W_lowestAt] at h
  refine gx_iconst hX (v := 0) (gx_dt dt_mi_x_W_lowestAt 0 rfl) (by decide) ?_
  refine gx_istore_n hX (ls' := [some (.inr 32), some (.inl a1), some (.inl a2), some (.inl (0))]) (gx_dt dt_mi_x_W_lowestAt 1 rfl) (by decide) rfl ?_
  exact gx_weak (gx_leS (gx_leS (gx_leS (gx_leS gx_le0)))) (t_x_W_lowestAt_2 hX hres hwr _ _ _ _ _ h)
-- EachBearsPillar.lowest(II)I
def x_E_lowest (a1 : Int32) (a2 : Int32) (w : gx_Wd) : Option (Int32 × gx_Wd) :=
  if a1 < 0 then
    (x_E_refuse (-4) w).bind fun r2 =>
    some (r2.1, r2.2)
  else
  if 0 ≤ a2 then
    (x_R_lastAt_1 w).bind fun r4 =>
    if r4.1 < a1 then
      (x_E_refuse (-6) r4.2).bind fun r6 =>
      some (r6.1, r6.2)
    else
    if a2 ≤ 40 then
      (x_M_asTold r4.2).bind fun r8 =>
      (x_W_explore r8).bind fun r9 =>
      (x_W_lowestAt a1 a2 r9).bind fun r10 =>
      some (r10.1, r10.2)
    else
    (x_E_refuse (-6) r4.2).bind fun r11 =>
    some (r11.1, r11.2)
  else
  (x_E_refuse (-4) w).bind fun r12 =>
  some (r12.1, r12.2)
theorem k_x_E_lowest {a1 : Int32} {a2 : Int32} {w : gx_Wd} {R : Int32 × gx_Wd} (h : x_E_lowest a1 a2 w = some R) : gx_MT mi_x_E_lowest [.inr 0, .inl a1, .inl a2] w (some (.inl R.1)) R.2 := by
  refine gx_met (by decide +kernel) (Nat.le_of_ble_eq_true rfl) (fun X hX hres hwr => ?_)
  show gx_G X mi_x_E_lowest 0 [some (.inr 0), some (.inl a1), some (.inl a2)] [] w
  rw [x_E_lowest] at h
  refine gx_iload_n hX (gx_dt dt_mi_x_E_lowest 0 rfl) rfl ?_
  refine gx_if_lt hX (tgt := 8) (gx_dt dt_mi_x_E_lowest 1 rfl) (by decide) (fun c1 => ?_) (fun c1 => ?_)
  · have h := gx_ifp c1 h
    refine gx_aload_n hX (gx_dt dt_mi_x_E_lowest 4 rfl) rfl ?_
    refine gx_bipush hX (v := (-4)) (gx_dt dt_mi_x_E_lowest 5 rfl) (by decide) ?_
    obtain ⟨r2, e_r2, h⟩ := gx_bd h
    refine gx_callVi hX (gx_dt dt_mi_x_E_lowest 6 rfl) ln_E_69_x_E_refuse mo_x_E_refuse mv_x_E_refuse (gx_rmb rfl) sh_x_0 ⟨_, _, rfl⟩ rfl (k_x_E_refuse e_r2) rfl rfl (Nat.le_of_ble_eq_true rfl) ?_
    obtain rfl := Option.some.inj h
    exact gx_iret hX (gx_dt dt_mi_x_E_lowest 7 rfl) rfl hres hwr
  · have h := gx_ifn c1 h
    refine gx_iload_n hX (gx_dt dt_mi_x_E_lowest 2 rfl) rfl ?_
    refine gx_if_ge hX (tgt := 15) (gx_dt dt_mi_x_E_lowest 3 rfl) (by decide) (fun c3 => ?_) (fun c3 => ?_)
    · have h := gx_ifp c3 h
      refine gx_iload_n hX (gx_dt dt_mi_x_E_lowest 8 rfl) rfl ?_
      refine gx_aload_n hX (gx_dt dt_mi_x_E_lowest 9 rfl) rfl ?_
      refine gx_getr hX fl_E_10 sh_x_0 rfl (gx_dt dt_mi_x_E_lowest 10 rfl) ?_
      obtain ⟨r4, e_r4, h⟩ := gx_bd h
      refine gx_callVi hX (gx_dt dt_mi_x_E_lowest 11 rfl) ln_E_109_x_R_lastAt_1 mo_x_R_lastAt_1 mv_x_R_lastAt_1 (gx_rmb rfl) sh_x_1 ⟨_, _, rfl⟩ rfl (k_x_R_lastAt_1 e_r4) rfl rfl (Nat.le_of_ble_eq_true rfl) ?_
      refine gx_ic_gt hX (tgt := 32) (gx_dt dt_mi_x_E_lowest 12 rfl) (by decide) (fun c5 => ?_) (fun c5 => ?_)
      · have h := gx_ifp c5 h
        refine gx_aload_n hX (gx_dt dt_mi_x_E_lowest 16 rfl) rfl ?_
        refine gx_bipush hX (v := (-6)) (gx_dt dt_mi_x_E_lowest 17 rfl) (by decide) ?_
        obtain ⟨r6, e_r6, h⟩ := gx_bd h
        refine gx_callVi hX (gx_dt dt_mi_x_E_lowest 18 rfl) ln_E_69_x_E_refuse mo_x_E_refuse mv_x_E_refuse (gx_rmb rfl) sh_x_0 ⟨_, _, rfl⟩ rfl (k_x_E_refuse e_r6) rfl rfl (Nat.le_of_ble_eq_true rfl) ?_
        obtain rfl := Option.some.inj h
        exact gx_iret hX (gx_dt dt_mi_x_E_lowest 19 rfl) rfl hres hwr
      · have h := gx_ifn c5 h
        refine gx_iload_n hX (gx_dt dt_mi_x_E_lowest 13 rfl) rfl ?_
        refine gx_bipush hX (v := 40) (gx_dt dt_mi_x_E_lowest 14 rfl) (by decide) ?_
        refine gx_ic_le hX (tgt := 39) (gx_dt dt_mi_x_E_lowest 15 rfl) (by decide) (fun c7 => ?_) (fun c7 => ?_)
        · have h := gx_ifp c7 h
          refine gx_aload_n hX (gx_dt dt_mi_x_E_lowest 20 rfl) rfl ?_
          refine gx_getr hX fl_E_31 sh_x_0 rfl (gx_dt dt_mi_x_E_lowest 21 rfl) ?_
          obtain ⟨r8, e_r8, h⟩ := gx_bd h
          refine gx_callVv hX (gx_dt dt_mi_x_E_lowest 22 rfl) ln_E_115_x_M_asTold mo_x_M_asTold mv_x_M_asTold (gx_rmb rfl) sh_x_22 ⟨_, _, rfl⟩ rfl (k_x_M_asTold e_r8) rfl rfl (Nat.le_of_ble_eq_true rfl) ?_
          refine gx_aload_n hX (gx_dt dt_mi_x_E_lowest 23 rfl) rfl ?_
          refine gx_getr hX fl_E_47 sh_x_0 rfl (gx_dt dt_mi_x_E_lowest 24 rfl) ?_
          obtain ⟨r9, e_r9, h⟩ := gx_bd h
          refine gx_callVv hX (gx_dt dt_mi_x_E_lowest 25 rfl) ln_E_211_x_W_explore mo_x_W_explore mv_x_W_explore (gx_rmb rfl) sh_x_32 ⟨_, _, rfl⟩ rfl (k_x_W_explore e_r9) rfl rfl (Nat.le_of_ble_eq_true rfl) ?_
          refine gx_aload_n hX (gx_dt dt_mi_x_E_lowest 26 rfl) rfl ?_
          refine gx_getr hX fl_E_47 sh_x_0 rfl (gx_dt dt_mi_x_E_lowest 27 rfl) ?_
          refine gx_iload_n hX (gx_dt dt_mi_x_E_lowest 28 rfl) rfl ?_
          refine gx_iload_n hX (gx_dt dt_mi_x_E_lowest 29 rfl) rfl ?_
          obtain ⟨r10, e_r10, h⟩ := gx_bd h
          refine gx_callVi hX (gx_dt dt_mi_x_E_lowest 30 rfl) ln_E_220_x_W_lowestAt mo_x_W_lowestAt mv_x_W_lowestAt (gx_rmb rfl) sh_x_32 ⟨_, _, rfl⟩ rfl (k_x_W_lowestAt e_r10) rfl rfl (Nat.le_of_ble_eq_true rfl) ?_
          obtain rfl := Option.some.inj h
          exact gx_iret hX (gx_dt dt_mi_x_E_lowest 31 rfl) rfl hres hwr
        · have h := gx_ifn c7 h
          refine gx_aload_n hX (gx_dt dt_mi_x_E_lowest 16 rfl) rfl ?_
          refine gx_bipush hX (v := (-6)) (gx_dt dt_mi_x_E_lowest 17 rfl) (by decide) ?_
          obtain ⟨r11, e_r11, h⟩ := gx_bd h
          refine gx_callVi hX (gx_dt dt_mi_x_E_lowest 18 rfl) ln_E_69_x_E_refuse mo_x_E_refuse mv_x_E_refuse (gx_rmb rfl) sh_x_0 ⟨_, _, rfl⟩ rfl (k_x_E_refuse e_r11) rfl rfl (Nat.le_of_ble_eq_true rfl) ?_
          obtain rfl := Option.some.inj h
          exact gx_iret hX (gx_dt dt_mi_x_E_lowest 19 rfl) rfl hres hwr
    · have h := gx_ifn c3 h
      refine gx_aload_n hX (gx_dt dt_mi_x_E_lowest 4 rfl) rfl ?_
      refine gx_bipush hX (v := (-4)) (gx_dt dt_mi_x_E_lowest 5 rfl) (by decide) ?_
      obtain ⟨r12, e_r12, h⟩ := gx_bd h
      refine gx_callVi hX (gx_dt dt_mi_x_E_lowest 6 rfl) ln_E_69_x_E_refuse mo_x_E_refuse mv_x_E_refuse (gx_rmb rfl) sh_x_0 ⟨_, _, rfl⟩ rfl (k_x_E_refuse e_r12) rfl rfl (Nat.le_of_ble_eq_true rfl) ?_
      obtain rfl := Option.some.inj h
      exact gx_iret hX (gx_dt dt_mi_x_E_lowest 7 rfl) rfl hres hwr
-- EachBearsPillar$Roof.become(LEachBearsPillar$Roof;)V
def x_R_become_15_1 (w : gx_Wd) : Option (gx_Wd) :=
  (gx_put w 15 0 (w 1 0)).bind fun w1 =>
  (gx_put w1 15 1 (w1 1 1)).bind fun w2 =>
  (gx_put w2 15 2 (w2 1 2)).bind fun w3 =>
  (x_E_copyCells 2 16 w3).bind fun r4 =>
  (x_E_copyCells 3 17 r4).bind fun r5 =>
  (x_E_copyCells 4 18 r5).bind fun r6 =>
  (x_E_copyCells 5 19 r6).bind fun r7 =>
  (x_E_copyCells 6 20 r7).bind fun r8 =>
  (x_E_copyCells 7 21 r8).bind fun r9 =>
  some r9
theorem k_x_R_become_15_1 {w : gx_Wd} {R : gx_Wd} (h : x_R_become_15_1 w = some R) : gx_MT mi_x_R_become_15_1 [.inr 15, .inr 1] w none R := by
  refine gx_met (by decide +kernel) (Nat.le_of_ble_eq_true rfl) (fun X hX hres hwr => ?_)
  show gx_G X mi_x_R_become_15_1 0 [some (.inr 15), some (.inr 1)] [] w
  rw [x_R_become_15_1] at h
  refine gx_aload_n hX (gx_dt dt_mi_x_R_become_15_1 0 rfl) rfl ?_
  refine gx_ifnonnull hX (tgt := 5) (gx_dt dt_mi_x_R_become_15_1 1 rfl) (by decide) ?_
  refine gx_aload_n hX (gx_dt dt_mi_x_R_become_15_1 3 rfl) rfl ?_
  refine gx_aload_n hX (gx_dt dt_mi_x_R_become_15_1 4 rfl) rfl ?_
  refine gx_geti hX fl_R_9 sh_x_1 rfl (gx_dt dt_mi_x_R_become_15_1 5 rfl) ?_
  obtain ⟨w1, e_w1, h⟩ := gx_bd h
  refine gx_putp hX fl_R_9 (pf_R_0 _) sh_x_15 rfl e_w1 (gx_dt dt_mi_x_R_become_15_1 6 rfl) ?_
  refine gx_aload_n hX (gx_dt dt_mi_x_R_become_15_1 7 rfl) rfl ?_
  refine gx_aload_n hX (gx_dt dt_mi_x_R_become_15_1 8 rfl) rfl ?_
  refine gx_geti hX fl_R_15 sh_x_1 rfl (gx_dt dt_mi_x_R_become_15_1 9 rfl) ?_
  obtain ⟨w2, e_w2, h⟩ := gx_bd h
  refine gx_putp hX fl_R_15 (pf_R_1 _) sh_x_15 rfl e_w2 (gx_dt dt_mi_x_R_become_15_1 10 rfl) ?_
  refine gx_aload_n hX (gx_dt dt_mi_x_R_become_15_1 11 rfl) rfl ?_
  refine gx_aload_n hX (gx_dt dt_mi_x_R_become_15_1 12 rfl) rfl ?_
  refine gx_geti hX fl_R_18 sh_x_1 rfl (gx_dt dt_mi_x_R_become_15_1 13 rfl) ?_
  obtain ⟨w3, e_w3, h⟩ := gx_bd h
  refine gx_putp hX fl_R_18 (pf_R_2 _) sh_x_15 rfl e_w3 (gx_dt dt_mi_x_R_become_15_1 14 rfl) ?_
  refine gx_aload_n hX (gx_dt dt_mi_x_R_become_15_1 15 rfl) rfl ?_
  refine gx_getr hX fl_R_21 sh_x_1 rfl (gx_dt dt_mi_x_R_become_15_1 16 rfl) ?_
  refine gx_aload_n hX (gx_dt dt_mi_x_R_become_15_1 17 rfl) rfl ?_
  refine gx_getr hX fl_R_21 sh_x_15 rfl (gx_dt dt_mi_x_R_become_15_1 18 rfl) ?_
  obtain ⟨r4, e_r4, h⟩ := gx_bd h
  refine gx_callSv hX (gx_dt dt_mi_x_R_become_15_1 19 rfl) ln_R_40_x_E_copyCells mo_x_E_copyCells ms_x_E_copyCells (gx_rmb rfl) rfl (k_x_E_copyCells e_r4) rfl rfl (Nat.le_of_ble_eq_true rfl) ?_
  refine gx_aload_n hX (gx_dt dt_mi_x_R_become_15_1 20 rfl) rfl ?_
  refine gx_getr hX fl_R_25 sh_x_1 rfl (gx_dt dt_mi_x_R_become_15_1 21 rfl) ?_
  refine gx_aload_n hX (gx_dt dt_mi_x_R_become_15_1 22 rfl) rfl ?_
  refine gx_getr hX fl_R_25 sh_x_15 rfl (gx_dt dt_mi_x_R_become_15_1 23 rfl) ?_
  obtain ⟨r5, e_r5, h⟩ := gx_bd h
  refine gx_callSv hX (gx_dt dt_mi_x_R_become_15_1 24 rfl) ln_R_40_x_E_copyCells mo_x_E_copyCells ms_x_E_copyCells (gx_rmb rfl) rfl (k_x_E_copyCells e_r5) rfl rfl (Nat.le_of_ble_eq_true rfl) ?_
  refine gx_aload_n hX (gx_dt dt_mi_x_R_become_15_1 25 rfl) rfl ?_
  refine gx_getr hX fl_R_28 sh_x_1 rfl (gx_dt dt_mi_x_R_become_15_1 26 rfl) ?_
  refine gx_aload_n hX (gx_dt dt_mi_x_R_become_15_1 27 rfl) rfl ?_
  refine gx_getr hX fl_R_28 sh_x_15 rfl (gx_dt dt_mi_x_R_become_15_1 28 rfl) ?_
  obtain ⟨r6, e_r6, h⟩ := gx_bd h
  refine gx_callSv hX (gx_dt dt_mi_x_R_become_15_1 29 rfl) ln_R_40_x_E_copyCells mo_x_E_copyCells ms_x_E_copyCells (gx_rmb rfl) rfl (k_x_E_copyCells e_r6) rfl rfl (Nat.le_of_ble_eq_true rfl) ?_
  refine gx_aload_n hX (gx_dt dt_mi_x_R_become_15_1 30 rfl) rfl ?_
  refine gx_getr hX fl_R_31 sh_x_1 rfl (gx_dt dt_mi_x_R_become_15_1 31 rfl) ?_
  refine gx_aload_n hX (gx_dt dt_mi_x_R_become_15_1 32 rfl) rfl ?_
  refine gx_getr hX fl_R_31 sh_x_15 rfl (gx_dt dt_mi_x_R_become_15_1 33 rfl) ?_
  obtain ⟨r7, e_r7, h⟩ := gx_bd h
  refine gx_callSv hX (gx_dt dt_mi_x_R_become_15_1 34 rfl) ln_R_40_x_E_copyCells mo_x_E_copyCells ms_x_E_copyCells (gx_rmb rfl) rfl (k_x_E_copyCells e_r7) rfl rfl (Nat.le_of_ble_eq_true rfl) ?_
  refine gx_aload_n hX (gx_dt dt_mi_x_R_become_15_1 35 rfl) rfl ?_
  refine gx_getr hX fl_R_34 sh_x_1 rfl (gx_dt dt_mi_x_R_become_15_1 36 rfl) ?_
  refine gx_aload_n hX (gx_dt dt_mi_x_R_become_15_1 37 rfl) rfl ?_
  refine gx_getr hX fl_R_34 sh_x_15 rfl (gx_dt dt_mi_x_R_become_15_1 38 rfl) ?_
  obtain ⟨r8, e_r8, h⟩ := gx_bd h
  refine gx_callSv hX (gx_dt dt_mi_x_R_become_15_1 39 rfl) ln_R_40_x_E_copyCells mo_x_E_copyCells ms_x_E_copyCells (gx_rmb rfl) rfl (k_x_E_copyCells e_r8) rfl rfl (Nat.le_of_ble_eq_true rfl) ?_
  refine gx_aload_n hX (gx_dt dt_mi_x_R_become_15_1 40 rfl) rfl ?_
  refine gx_getr hX fl_R_37 sh_x_1 rfl (gx_dt dt_mi_x_R_become_15_1 41 rfl) ?_
  refine gx_aload_n hX (gx_dt dt_mi_x_R_become_15_1 42 rfl) rfl ?_
  refine gx_getr hX fl_R_37 sh_x_15 rfl (gx_dt dt_mi_x_R_become_15_1 43 rfl) ?_
  obtain ⟨r9, e_r9, h⟩ := gx_bd h
  refine gx_callSv hX (gx_dt dt_mi_x_R_become_15_1 44 rfl) ln_R_40_x_E_copyCells mo_x_E_copyCells ms_x_E_copyCells (gx_rmb rfl) rfl (k_x_E_copyCells e_r9) rfl rfl (Nat.le_of_ble_eq_true rfl) ?_
  obtain rfl := Option.some.inj h
  exact gx_vret hX (gx_dt dt_mi_x_R_become_15_1 45 rfl) rfl hres hwr
-- EachBearsPillar.image()I
def x_E_image (w : gx_Wd) : Option (Int32 × gx_Wd) :=
  (x_R_become_15_1 w).bind fun r1 =>
  (gx_put r1 0 3 1).bind fun w2 =>
  some (w2 1 0, w2)
theorem k_x_E_image {w : gx_Wd} {R : Int32 × gx_Wd} (h : x_E_image w = some R) : gx_MT mi_x_E_image [.inr 0] w (some (.inl R.1)) R.2 := by
  refine gx_met (by decide +kernel) (Nat.le_of_ble_eq_true rfl) (fun X hX hres hwr => ?_)
  show gx_G X mi_x_E_image 0 [some (.inr 0)] [] w
  rw [x_E_image] at h
  refine gx_aload_n hX (gx_dt dt_mi_x_E_image 0 rfl) rfl ?_
  refine gx_getr hX fl_E_19 sh_x_0 rfl (gx_dt dt_mi_x_E_image 1 rfl) ?_
  refine gx_aload_n hX (gx_dt dt_mi_x_E_image 2 rfl) rfl ?_
  refine gx_getr hX fl_E_10 sh_x_0 rfl (gx_dt dt_mi_x_E_image 3 rfl) ?_
  obtain ⟨r1, e_r1, h⟩ := gx_bd h
  refine gx_callVv hX (gx_dt dt_mi_x_E_image 4 rfl) ln_E_223_x_R_become_15_1 mo_x_R_become_15_1 mv_x_R_become_15_1 (gx_rmb rfl) sh_x_15 ⟨_, _, rfl⟩ rfl (k_x_R_become_15_1 e_r1) rfl rfl (Nat.le_of_ble_eq_true rfl) ?_
  refine gx_aload_n hX (gx_dt dt_mi_x_E_image 5 rfl) rfl ?_
  refine gx_iconst hX (v := 1) (gx_dt dt_mi_x_E_image 6 rfl) (by decide) ?_
  obtain ⟨w2, e_w2, h⟩ := gx_bd h
  refine gx_putp hX fl_E_22 pf_E_3_1 sh_x_0 rfl e_w2 (gx_dt dt_mi_x_E_image 7 rfl) ?_
  refine gx_aload_n hX (gx_dt dt_mi_x_E_image 8 rfl) rfl ?_
  refine gx_getr hX fl_E_10 sh_x_0 rfl (gx_dt dt_mi_x_E_image 9 rfl) ?_
  refine gx_geti hX fl_E_158 sh_x_1 rfl (gx_dt dt_mi_x_E_image 10 rfl) ?_
  obtain rfl := Option.some.inj h
  exact gx_iret hX (gx_dt dt_mi_x_E_image 11 rfl) rfl hres hwr
-- EachBearsPillar$Roof.become(LEachBearsPillar$Roof;)V
def x_R_become_1_15 (w : gx_Wd) : Option (gx_Wd) :=
  (gx_put w 1 0 (w 15 0)).bind fun w1 =>
  (gx_put w1 1 1 (w1 15 1)).bind fun w2 =>
  (gx_put w2 1 2 (w2 15 2)).bind fun w3 =>
  (x_E_copyCells 16 2 w3).bind fun r4 =>
  (x_E_copyCells 17 3 r4).bind fun r5 =>
  (x_E_copyCells 18 4 r5).bind fun r6 =>
  (x_E_copyCells 19 5 r6).bind fun r7 =>
  (x_E_copyCells 20 6 r7).bind fun r8 =>
  (x_E_copyCells 21 7 r8).bind fun r9 =>
  some r9
theorem k_x_R_become_1_15 {w : gx_Wd} {R : gx_Wd} (h : x_R_become_1_15 w = some R) : gx_MT mi_x_R_become_1_15 [.inr 1, .inr 15] w none R := by
  refine gx_met (by decide +kernel) (Nat.le_of_ble_eq_true rfl) (fun X hX hres hwr => ?_)
  show gx_G X mi_x_R_become_1_15 0 [some (.inr 1), some (.inr 15)] [] w
  rw [x_R_become_1_15] at h
  refine gx_aload_n hX (gx_dt dt_mi_x_R_become_1_15 0 rfl) rfl ?_
  refine gx_ifnonnull hX (tgt := 5) (gx_dt dt_mi_x_R_become_1_15 1 rfl) (by decide) ?_
  refine gx_aload_n hX (gx_dt dt_mi_x_R_become_1_15 3 rfl) rfl ?_
  refine gx_aload_n hX (gx_dt dt_mi_x_R_become_1_15 4 rfl) rfl ?_
  refine gx_geti hX fl_R_9 sh_x_15 rfl (gx_dt dt_mi_x_R_become_1_15 5 rfl) ?_
  obtain ⟨w1, e_w1, h⟩ := gx_bd h
  refine gx_putp hX fl_R_9 (pf_R_0 _) sh_x_1 rfl e_w1 (gx_dt dt_mi_x_R_become_1_15 6 rfl) ?_
  refine gx_aload_n hX (gx_dt dt_mi_x_R_become_1_15 7 rfl) rfl ?_
  refine gx_aload_n hX (gx_dt dt_mi_x_R_become_1_15 8 rfl) rfl ?_
  refine gx_geti hX fl_R_15 sh_x_15 rfl (gx_dt dt_mi_x_R_become_1_15 9 rfl) ?_
  obtain ⟨w2, e_w2, h⟩ := gx_bd h
  refine gx_putp hX fl_R_15 (pf_R_1 _) sh_x_1 rfl e_w2 (gx_dt dt_mi_x_R_become_1_15 10 rfl) ?_
  refine gx_aload_n hX (gx_dt dt_mi_x_R_become_1_15 11 rfl) rfl ?_
  refine gx_aload_n hX (gx_dt dt_mi_x_R_become_1_15 12 rfl) rfl ?_
  refine gx_geti hX fl_R_18 sh_x_15 rfl (gx_dt dt_mi_x_R_become_1_15 13 rfl) ?_
  obtain ⟨w3, e_w3, h⟩ := gx_bd h
  refine gx_putp hX fl_R_18 (pf_R_2 _) sh_x_1 rfl e_w3 (gx_dt dt_mi_x_R_become_1_15 14 rfl) ?_
  refine gx_aload_n hX (gx_dt dt_mi_x_R_become_1_15 15 rfl) rfl ?_
  refine gx_getr hX fl_R_21 sh_x_15 rfl (gx_dt dt_mi_x_R_become_1_15 16 rfl) ?_
  refine gx_aload_n hX (gx_dt dt_mi_x_R_become_1_15 17 rfl) rfl ?_
  refine gx_getr hX fl_R_21 sh_x_1 rfl (gx_dt dt_mi_x_R_become_1_15 18 rfl) ?_
  obtain ⟨r4, e_r4, h⟩ := gx_bd h
  refine gx_callSv hX (gx_dt dt_mi_x_R_become_1_15 19 rfl) ln_R_40_x_E_copyCells mo_x_E_copyCells ms_x_E_copyCells (gx_rmb rfl) rfl (k_x_E_copyCells e_r4) rfl rfl (Nat.le_of_ble_eq_true rfl) ?_
  refine gx_aload_n hX (gx_dt dt_mi_x_R_become_1_15 20 rfl) rfl ?_
  refine gx_getr hX fl_R_25 sh_x_15 rfl (gx_dt dt_mi_x_R_become_1_15 21 rfl) ?_
  refine gx_aload_n hX (gx_dt dt_mi_x_R_become_1_15 22 rfl) rfl ?_
  refine gx_getr hX fl_R_25 sh_x_1 rfl (gx_dt dt_mi_x_R_become_1_15 23 rfl) ?_
  obtain ⟨r5, e_r5, h⟩ := gx_bd h
  refine gx_callSv hX (gx_dt dt_mi_x_R_become_1_15 24 rfl) ln_R_40_x_E_copyCells mo_x_E_copyCells ms_x_E_copyCells (gx_rmb rfl) rfl (k_x_E_copyCells e_r5) rfl rfl (Nat.le_of_ble_eq_true rfl) ?_
  refine gx_aload_n hX (gx_dt dt_mi_x_R_become_1_15 25 rfl) rfl ?_
  refine gx_getr hX fl_R_28 sh_x_15 rfl (gx_dt dt_mi_x_R_become_1_15 26 rfl) ?_
  refine gx_aload_n hX (gx_dt dt_mi_x_R_become_1_15 27 rfl) rfl ?_
  refine gx_getr hX fl_R_28 sh_x_1 rfl (gx_dt dt_mi_x_R_become_1_15 28 rfl) ?_
  obtain ⟨r6, e_r6, h⟩ := gx_bd h
  refine gx_callSv hX (gx_dt dt_mi_x_R_become_1_15 29 rfl) ln_R_40_x_E_copyCells mo_x_E_copyCells ms_x_E_copyCells (gx_rmb rfl) rfl (k_x_E_copyCells e_r6) rfl rfl (Nat.le_of_ble_eq_true rfl) ?_
  refine gx_aload_n hX (gx_dt dt_mi_x_R_become_1_15 30 rfl) rfl ?_
  refine gx_getr hX fl_R_31 sh_x_15 rfl (gx_dt dt_mi_x_R_become_1_15 31 rfl) ?_
  refine gx_aload_n hX (gx_dt dt_mi_x_R_become_1_15 32 rfl) rfl ?_
  refine gx_getr hX fl_R_31 sh_x_1 rfl (gx_dt dt_mi_x_R_become_1_15 33 rfl) ?_
  obtain ⟨r7, e_r7, h⟩ := gx_bd h
  refine gx_callSv hX (gx_dt dt_mi_x_R_become_1_15 34 rfl) ln_R_40_x_E_copyCells mo_x_E_copyCells ms_x_E_copyCells (gx_rmb rfl) rfl (k_x_E_copyCells e_r7) rfl rfl (Nat.le_of_ble_eq_true rfl) ?_
  refine gx_aload_n hX (gx_dt dt_mi_x_R_become_1_15 35 rfl) rfl ?_
  refine gx_getr hX fl_R_34 sh_x_15 rfl (gx_dt dt_mi_x_R_become_1_15 36 rfl) ?_
  refine gx_aload_n hX (gx_dt dt_mi_x_R_become_1_15 37 rfl) rfl ?_
  refine gx_getr hX fl_R_34 sh_x_1 rfl (gx_dt dt_mi_x_R_become_1_15 38 rfl) ?_
  obtain ⟨r8, e_r8, h⟩ := gx_bd h
  refine gx_callSv hX (gx_dt dt_mi_x_R_become_1_15 39 rfl) ln_R_40_x_E_copyCells mo_x_E_copyCells ms_x_E_copyCells (gx_rmb rfl) rfl (k_x_E_copyCells e_r8) rfl rfl (Nat.le_of_ble_eq_true rfl) ?_
  refine gx_aload_n hX (gx_dt dt_mi_x_R_become_1_15 40 rfl) rfl ?_
  refine gx_getr hX fl_R_37 sh_x_15 rfl (gx_dt dt_mi_x_R_become_1_15 41 rfl) ?_
  refine gx_aload_n hX (gx_dt dt_mi_x_R_become_1_15 42 rfl) rfl ?_
  refine gx_getr hX fl_R_37 sh_x_1 rfl (gx_dt dt_mi_x_R_become_1_15 43 rfl) ?_
  obtain ⟨r9, e_r9, h⟩ := gx_bd h
  refine gx_callSv hX (gx_dt dt_mi_x_R_become_1_15 44 rfl) ln_R_40_x_E_copyCells mo_x_E_copyCells ms_x_E_copyCells (gx_rmb rfl) rfl (k_x_E_copyCells e_r9) rfl rfl (Nat.le_of_ble_eq_true rfl) ?_
  obtain rfl := Option.some.inj h
  exact gx_vret hX (gx_dt dt_mi_x_R_become_1_15 45 rfl) rfl hres hwr
-- EachBearsPillar.on()I
def x_E_on (w : gx_Wd) : Option (Int32 × gx_Wd) :=
  if w 0 3 = 0 then
    (x_E_refuse (-3) w).bind fun r3 =>
    some (r3.1, r3.2)
  else
    (x_R_become_1_15 w).bind fun r2 =>
    some (r2 1 0, r2)
theorem k_x_E_on {w : gx_Wd} {R : Int32 × gx_Wd} (h : x_E_on w = some R) : gx_MT mi_x_E_on [.inr 0] w (some (.inl R.1)) R.2 := by
  refine gx_met (by decide +kernel) (Nat.le_of_ble_eq_true rfl) (fun X hX hres hwr => ?_)
  show gx_G X mi_x_E_on 0 [some (.inr 0)] [] w
  rw [x_E_on] at h
  refine gx_aload_n hX (gx_dt dt_mi_x_E_on 0 rfl) rfl ?_
  refine gx_geti hX fl_E_22 sh_x_0 rfl (gx_dt dt_mi_x_E_on 1 rfl) ?_
  refine gx_if_ne hX (tgt := 14) (gx_dt dt_mi_x_E_on 2 rfl) (by decide) (fun c1 => ?_) (fun c1 => ?_)
  · have h := gx_ifn c1 h
    refine gx_aload_n hX (gx_dt dt_mi_x_E_on 7 rfl) rfl ?_
    refine gx_getr hX fl_E_10 sh_x_0 rfl (gx_dt dt_mi_x_E_on 8 rfl) ?_
    refine gx_aload_n hX (gx_dt dt_mi_x_E_on 9 rfl) rfl ?_
    refine gx_getr hX fl_E_19 sh_x_0 rfl (gx_dt dt_mi_x_E_on 10 rfl) ?_
    obtain ⟨r2, e_r2, h⟩ := gx_bd h
    refine gx_callVv hX (gx_dt dt_mi_x_E_on 11 rfl) ln_E_223_x_R_become_1_15 mo_x_R_become_1_15 mv_x_R_become_1_15 (gx_rmb rfl) sh_x_1 ⟨_, _, rfl⟩ rfl (k_x_R_become_1_15 e_r2) rfl rfl (Nat.le_of_ble_eq_true rfl) ?_
    refine gx_aload_n hX (gx_dt dt_mi_x_E_on 12 rfl) rfl ?_
    refine gx_getr hX fl_E_10 sh_x_0 rfl (gx_dt dt_mi_x_E_on 13 rfl) ?_
    refine gx_geti hX fl_E_158 sh_x_1 rfl (gx_dt dt_mi_x_E_on 14 rfl) ?_
    obtain rfl := Option.some.inj h
    exact gx_iret hX (gx_dt dt_mi_x_E_on 15 rfl) rfl hres hwr
  · have h := gx_ifp c1 h
    refine gx_aload_n hX (gx_dt dt_mi_x_E_on 3 rfl) rfl ?_
    refine gx_bipush hX (v := (-3)) (gx_dt dt_mi_x_E_on 4 rfl) (by decide) ?_
    obtain ⟨r3, e_r3, h⟩ := gx_bd h
    refine gx_callVi hX (gx_dt dt_mi_x_E_on 5 rfl) ln_E_69_x_E_refuse mo_x_E_refuse mv_x_E_refuse (gx_rmb rfl) sh_x_0 ⟨_, _, rfl⟩ rfl (k_x_E_refuse e_r3) rfl rfl (Nat.le_of_ble_eq_true rfl) ?_
    obtain rfl := Option.some.inj h
    exact gx_iret hX (gx_dt dt_mi_x_E_on 6 rfl) rfl hres hwr
