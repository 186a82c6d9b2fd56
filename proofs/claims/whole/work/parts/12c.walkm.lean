-- EachBearsPillarModel.sagNow()I
def m_sagNow_35 : Nat → Int32 → gx_Wd → Option (Int32 × gx_Wd)
  | 0, _, _ => none
  | n + 1, b1, w =>
  if 6 ≤ b1 then
    some ((-9), w)
  else
  (m_falls b1 w).bind fun r2 =>
  if r2.1 = 0 then
    (some (b1 + 1)).bind fun v4 =>
    (m_sagNow_35 n) v4 r2.2
  else
  some (10 + b1, r2.2)
def m_sagNow_33 (w : gx_Wd) : Option (Int32 × gx_Wd) :=
  m_sagNow_35 6000 0 w
def m_sagNow_2 : Nat → Int32 → gx_Wd → Option (Int32 × gx_Wd)
  | 0, _, _ => none
  | n + 1, b1, w =>
  if w 0 0 ≤ b1 then
    m_sagNow_33 w
  else
  (m_loadOf b1 w).bind fun r2 =>
  (m_mightOf b1 r2.2).bind fun r3 =>
  if r2.1 ≤ 2 * r3.1 then
    (some (b1 + 1)).bind fun v5 =>
    (m_sagNow_2 n) v5 r3.2
  else
  some (b1, r3.2)
def m_sagNow (w : gx_Wd) : Option (Int32 × gx_Wd) :=
  m_sagNow_2 6000 0 w
theorem t_m_sagNow_35 {X : gx_X} (hX : gx_Ok X mi_m_sagNow) {R : Int32 × gx_Wd} (hres : gx_res X = some (.inl R.1)) (hwr : gx_wr X = R.2) : ∀ (n : Nat) (b1 : Int32) (w : gx_Wd), m_sagNow_35 n b1 w = some R → gx_G X mi_m_sagNow 35 [some (.inr 0), some (.inl b1)] [] w := by
  intro n
  induction n with
  | zero => intro b1 w h; rw [m_sagNow_35] at h; cases h
  | succ n ih =>
    intro b1 w h
    rw [m_sagNow_35] at h
    refine gx_iload_n hX (gx_dt dt_mi_m_sagNow 21 rfl) rfl ?_
    refine gx_bipush hX (v := 6) (gx_dt dt_mi_m_sagNow 22 rfl) (by decide) ?_
    refine gx_ic_ge hX (tgt := 60) (gx_dt dt_mi_m_sagNow 23 rfl) (by decide) (fun c1 => ?_) (fun c1 => ?_)
    · have h := gx_ifp c1 h
      refine gx_bipush hX (v := (-9)) (gx_dt dt_mi_m_sagNow 34 rfl) (by decide) ?_
      obtain rfl := Option.some.inj h
      exact gx_iret hX (gx_dt dt_mi_m_sagNow 35 rfl) rfl hres hwr
    · have h := gx_ifn c1 h
      refine gx_aload_n hX (gx_dt dt_mi_m_sagNow 24 rfl) rfl ?_
      refine gx_iload_n hX (gx_dt dt_mi_m_sagNow 25 rfl) rfl ?_
      obtain ⟨r2, e_r2, h⟩ := gx_bd h
      refine gx_callVi hX (gx_dt dt_mi_m_sagNow 26 rfl) ln_D_191_m_falls mo_m_falls mv_m_falls (gx_rmb rfl) sh_m_0 ⟨_, _, rfl⟩ rfl (k_m_falls e_r2) rfl rfl (Nat.le_of_ble_eq_true rfl) ?_
      refine gx_if_eq hX (tgt := 54) (gx_dt dt_mi_m_sagNow 27 rfl) (by decide) (fun c3 => ?_) (fun c3 => ?_)
      · have h := gx_ifp c3 h
        obtain ⟨v4, e_v4, h⟩ := gx_bd h
        refine gx_iinc hX (v := v4) (ls' := [some (.inr 0), some (.inl v4)]) (gx_dt dt_mi_m_sagNow 32 rfl) rfl (gx_ii e_v4 (by decide)) (by decide) rfl ?_
        refine gx_goto hX (tgt := 35) (gx_dt dt_mi_m_sagNow 33 rfl) (by decide) ?_
        exact gx_weak (gx_leS (gx_leS gx_le0)) (ih _ _ h)
      · have h := gx_ifn c3 h
        refine gx_bipush hX (v := 10) (gx_dt dt_mi_m_sagNow 28 rfl) (by decide) ?_
        refine gx_iload_n hX (gx_dt dt_mi_m_sagNow 29 rfl) rfl ?_
        refine gx_iadd hX (gx_dt dt_mi_m_sagNow 30 rfl) ?_
        obtain rfl := Option.some.inj h
        exact gx_iret hX (gx_dt dt_mi_m_sagNow 31 rfl) rfl hres hwr
theorem t_m_sagNow_33 {X : gx_X} (hX : gx_Ok X mi_m_sagNow) {R : Int32 × gx_Wd} (hres : gx_res X = some (.inl R.1)) (hwr : gx_wr X = R.2) (w : gx_Wd) (h : m_sagNow_33 w = some R) : gx_G X mi_m_sagNow 33 [some (.inr 0)] [] w := by
  rw [m_sagNow_33] at h
  refine gx_iconst hX (v := 0) (gx_dt dt_mi_m_sagNow 19 rfl) (by decide) ?_
  refine gx_istore_n hX (ls' := [some (.inr 0), some (.inl (0))]) (gx_dt dt_mi_m_sagNow 20 rfl) (by decide) rfl ?_
  exact gx_weak (gx_leS (gx_leS gx_le0)) (t_m_sagNow_35 hX hres hwr _ _ _ h)
theorem t_m_sagNow_2 {X : gx_X} (hX : gx_Ok X mi_m_sagNow) {R : Int32 × gx_Wd} (hres : gx_res X = some (.inl R.1)) (hwr : gx_wr X = R.2) : ∀ (n : Nat) (b1 : Int32) (w : gx_Wd), m_sagNow_2 n b1 w = some R → gx_G X mi_m_sagNow 2 [some (.inr 0), some (.inl b1)] [] w := by
  intro n
  induction n with
  | zero => intro b1 w h; rw [m_sagNow_2] at h; cases h
  | succ n ih =>
    intro b1 w h
    rw [m_sagNow_2] at h
    refine gx_iload_n hX (gx_dt dt_mi_m_sagNow 2 rfl) rfl ?_
    refine gx_aload_n hX (gx_dt dt_mi_m_sagNow 3 rfl) rfl ?_
    refine gx_geti hX fl_D_7 sh_m_0 rfl (gx_dt dt_mi_m_sagNow 4 rfl) ?_
    refine gx_ic_ge hX (tgt := 33) (gx_dt dt_mi_m_sagNow 5 rfl) (by decide) (fun c1 => ?_) (fun c1 => ?_)
    · have h := gx_ifp c1 h
      exact gx_weak (gx_leS gx_le0) (t_m_sagNow_33 hX hres hwr _ h)
    · have h := gx_ifn c1 h
      refine gx_aload_n hX (gx_dt dt_mi_m_sagNow 6 rfl) rfl ?_
      refine gx_iload_n hX (gx_dt dt_mi_m_sagNow 7 rfl) rfl ?_
      obtain ⟨r2, e_r2, h⟩ := gx_bd h
      refine gx_callVi hX (gx_dt dt_mi_m_sagNow 8 rfl) ln_D_185_m_loadOf mo_m_loadOf mv_m_loadOf (gx_rmb rfl) sh_m_0 ⟨_, _, rfl⟩ rfl (k_m_loadOf e_r2) rfl rfl (Nat.le_of_ble_eq_true rfl) ?_
      refine gx_iconst hX (v := 2) (gx_dt dt_mi_m_sagNow 9 rfl) (by decide) ?_
      refine gx_aload_n hX (gx_dt dt_mi_m_sagNow 10 rfl) rfl ?_
      refine gx_iload_n hX (gx_dt dt_mi_m_sagNow 11 rfl) rfl ?_
      obtain ⟨r3, e_r3, h⟩ := gx_bd h
      refine gx_callVi hX (gx_dt dt_mi_m_sagNow 12 rfl) ln_D_188_m_mightOf mo_m_mightOf mv_m_mightOf (gx_rmb rfl) sh_m_0 ⟨_, _, rfl⟩ rfl (k_m_mightOf e_r3) rfl rfl (Nat.le_of_ble_eq_true rfl) ?_
      refine gx_imul hX (gx_dt dt_mi_m_sagNow 13 rfl) ?_
      refine gx_ic_le hX (tgt := 27) (gx_dt dt_mi_m_sagNow 14 rfl) (by decide) (fun c4 => ?_) (fun c4 => ?_)
      · have h := gx_ifp c4 h
        obtain ⟨v5, e_v5, h⟩ := gx_bd h
        refine gx_iinc hX (v := v5) (ls' := [some (.inr 0), some (.inl v5)]) (gx_dt dt_mi_m_sagNow 17 rfl) rfl (gx_ii e_v5 (by decide)) (by decide) rfl ?_
        refine gx_goto hX (tgt := 2) (gx_dt dt_mi_m_sagNow 18 rfl) (by decide) ?_
        exact gx_weak (gx_leS (gx_leS gx_le0)) (ih _ _ h)
      · have h := gx_ifn c4 h
        refine gx_iload_n hX (gx_dt dt_mi_m_sagNow 15 rfl) rfl ?_
        obtain rfl := Option.some.inj h
        exact gx_iret hX (gx_dt dt_mi_m_sagNow 16 rfl) rfl hres hwr
theorem k_m_sagNow {w : gx_Wd} {R : Int32 × gx_Wd} (h : m_sagNow w = some R) : gx_MT mi_m_sagNow [.inr 0] w (some (.inl R.1)) R.2 := by
  refine gx_met (by decide +kernel) (Nat.le_of_ble_eq_true rfl) (fun X hX hres hwr => ?_)
  show gx_G X mi_m_sagNow 0 [some (.inr 0)] [] w
  rw [m_sagNow] at h
  refine gx_iconst hX (v := 0) (gx_dt dt_mi_m_sagNow 0 rfl) (by decide) ?_
  refine gx_istore_n hX (ls' := [some (.inr 0), some (.inl (0))]) (gx_dt dt_mi_m_sagNow 1 rfl) (by decide) rfl ?_
  exact gx_weak (gx_leS (gx_leS gx_le0)) (t_m_sagNow_2 hX hres hwr _ _ _ h)
-- EachBearsPillarModel.isHeld()Z
def m_isHeld (w : gx_Wd) : Option (Int32 × gx_Wd) :=
  (m_sagNow w).bind fun r1 =>
  if r1.1 = (-9) then
    some (1, r1.2)
  else
    some (0, r1.2)
theorem k_m_isHeld {w : gx_Wd} {R : Int32 × gx_Wd} (h : m_isHeld w = some R) : gx_MT mi_m_isHeld [.inr 0] w (some (.inl R.1)) R.2 := by
  refine gx_met (by decide +kernel) (Nat.le_of_ble_eq_true rfl) (fun X hX hres hwr => ?_)
  show gx_G X mi_m_isHeld 0 [some (.inr 0)] [] w
  rw [m_isHeld] at h
  refine gx_aload_n hX (gx_dt dt_mi_m_isHeld 0 rfl) rfl ?_
  obtain ⟨r1, e_r1, h⟩ := gx_bd h
  refine gx_callVi hX (gx_dt dt_mi_m_isHeld 1 rfl) ln_D_194_m_sagNow mo_m_sagNow mv_m_sagNow (gx_rmb rfl) sh_m_0 ⟨_, _, rfl⟩ rfl (k_m_sagNow e_r1) rfl rfl (Nat.le_of_ble_eq_true rfl) ?_
  refine gx_bipush hX (v := (-9)) (gx_dt dt_mi_m_isHeld 2 rfl) (by decide) ?_
  refine gx_ic_ne hX (tgt := 13) (gx_dt dt_mi_m_isHeld 3 rfl) (by decide) (fun c2 => ?_) (fun c2 => ?_)
  · have h := gx_ifn c2 h
    refine gx_iconst hX (v := 0) (gx_dt dt_mi_m_isHeld 6 rfl) (by decide) ?_
    obtain rfl := Option.some.inj h
    exact gx_zret hX (gx_dt dt_mi_m_isHeld 7 rfl) rfl rfl hres hwr
  · have h := gx_ifp c2 h
    refine gx_iconst hX (v := 1) (gx_dt dt_mi_m_isHeld 4 rfl) (by decide) ?_
    refine gx_goto hX (tgt := 14) (gx_dt dt_mi_m_isHeld 5 rfl) (by decide) ?_
    obtain rfl := Option.some.inj h
    exact gx_zret hX (gx_dt dt_mi_m_isHeld 7 rfl) rfl rfl hres hwr
-- EachBearsPillarModel.holds()I
def m_holds (w : gx_Wd) : Option (Int32 × gx_Wd) :=
  (m_isHeld w).bind fun r1 =>
  if r1.1 = 0 then
    some (0, r1.2)
  else
  some (1, r1.2)
theorem k_m_holds {w : gx_Wd} {R : Int32 × gx_Wd} (h : m_holds w = some R) : gx_MT mi_m_holds [.inr 0] w (some (.inl R.1)) R.2 := by
  refine gx_met (by decide +kernel) (Nat.le_of_ble_eq_true rfl) (fun X hX hres hwr => ?_)
  show gx_G X mi_m_holds 0 [some (.inr 0)] [] w
  rw [m_holds] at h
  refine gx_aload_n hX (gx_dt dt_mi_m_holds 0 rfl) rfl ?_
  obtain ⟨r1, e_r1, h⟩ := gx_bd h
  refine gx_callVi hX (gx_dt dt_mi_m_holds 1 rfl) ln_D_203_m_isHeld mo_m_isHeld mv_m_isHeld (gx_rmb rfl) sh_m_0 ⟨_, _, rfl⟩ rfl (k_m_isHeld e_r1) rfl rfl (Nat.le_of_ble_eq_true rfl) ?_
  refine gx_if_eq hX (tgt := 11) (gx_dt dt_mi_m_holds 2 rfl) (by decide) (fun c2 => ?_) (fun c2 => ?_)
  · have h := gx_ifp c2 h
    refine gx_iconst hX (v := 0) (gx_dt dt_mi_m_holds 5 rfl) (by decide) ?_
    obtain rfl := Option.some.inj h
    exact gx_iret hX (gx_dt dt_mi_m_holds 6 rfl) rfl hres hwr
  · have h := gx_ifn c2 h
    refine gx_iconst hX (v := 1) (gx_dt dt_mi_m_holds 3 rfl) (by decide) ?_
    refine gx_goto hX (tgt := 12) (gx_dt dt_mi_m_holds 4 rfl) (by decide) ?_
    obtain rfl := Option.some.inj h
    exact gx_iret hX (gx_dt dt_mi_m_holds 6 rfl) rfl hres hwr
-- EachBearsPillarModel.sag()I
def m_sag (w : gx_Wd) : Option (Int32 × gx_Wd) :=
  (m_sagNow w).bind fun r1 =>
  some (r1.1, r1.2)
theorem k_m_sag {w : gx_Wd} {R : Int32 × gx_Wd} (h : m_sag w = some R) : gx_MT mi_m_sag [.inr 0] w (some (.inl R.1)) R.2 := by
  refine gx_met (by decide +kernel) (Nat.le_of_ble_eq_true rfl) (fun X hX hres hwr => ?_)
  show gx_G X mi_m_sag 0 [some (.inr 0)] [] w
  rw [m_sag] at h
  refine gx_aload_n hX (gx_dt dt_mi_m_sag 0 rfl) rfl ?_
  obtain ⟨r1, e_r1, h⟩ := gx_bd h
  refine gx_callVi hX (gx_dt dt_mi_m_sag 1 rfl) ln_D_194_m_sagNow mo_m_sagNow mv_m_sagNow (gx_rmb rfl) sh_m_0 ⟨_, _, rfl⟩ rfl (k_m_sagNow e_r1) rfl rfl (Nat.le_of_ble_eq_true rfl) ?_
  obtain rfl := Option.some.inj h
  exact gx_iret hX (gx_dt dt_mi_m_sag 2 rfl) rfl hres hwr
-- EachBearsPillarModel.levels()I
def m_levels_43 (b1 : Int32) (b2 : Int32) (w : gx_Wd) : Option (Int32 × gx_Wd) :=
  (gx_put w 0 2 b1).bind fun w1 =>
  some (b2, w1)
def m_levels_35 (K9 : Int32 → Int32 → Int32 → gx_Wd → Option (Int32 × gx_Wd)) (b1 : Int32) (b3 : Int32) (s0 : Int32) (s1 : Int32) (w : gx_Wd) : Option (Int32 × gx_Wd) :=
  (some (s1 ||| s0)).bind fun v1 =>
  (some (b3 + 1)).bind fun v2 =>
  K9 b1 v1 v2 w
def m_levels_9 : Nat → Int32 → Int32 → Int32 → gx_Wd → Option (Int32 × gx_Wd)
  | 0, _, _, _, _ => none
  | n + 1, b1, b2, b3, w =>
  if 28 ≤ b3 then
    m_levels_43 b1 b2 w
  else
  (gx_put w 0 2 b3).bind fun w2 =>
  (m_isHeld w2).bind fun r3 =>
  if r3.1 = 0 then
    m_levels_35 (m_levels_9 n) b1 b3 0 b2 r3.2
  else
  m_levels_35 (m_levels_9 n) b1 b3 (1 <<< (b3 &&& 31)) b2 r3.2
def m_levels (w : gx_Wd) : Option (Int32 × gx_Wd) :=
  m_levels_9 6000 (w 0 2) 0 0 w
theorem t_m_levels_43 {X : gx_X} (hX : gx_Ok X mi_m_levels) {R : Int32 × gx_Wd} (hres : gx_res X = some (.inl R.1)) (hwr : gx_wr X = R.2) (b1 : Int32) (b2 : Int32) (w : gx_Wd) (h : m_levels_43 b1 b2 w = some R) : gx_G X mi_m_levels 43 [some (.inr 0), some (.inl b1), some (.inl b2)] [] w := by
  rw [m_levels_43] at h
  refine gx_aload_n hX (gx_dt dt_mi_m_levels 26 rfl) rfl ?_
  refine gx_iload_n hX (gx_dt dt_mi_m_levels 27 rfl) rfl ?_
  obtain ⟨w1, e_w1, h⟩ := gx_bd h
  refine gx_putp hX fl_D_16 (pf_D_2 _) sh_m_0 rfl e_w1 (gx_dt dt_mi_m_levels 28 rfl) ?_
  refine gx_iload_n hX (gx_dt dt_mi_m_levels 29 rfl) rfl ?_
  obtain rfl := Option.some.inj h
  exact gx_iret hX (gx_dt dt_mi_m_levels 30 rfl) rfl hres hwr
theorem t_m_levels_35 {X : gx_X} (hX : gx_Ok X mi_m_levels) {R : Int32 × gx_Wd} (hres : gx_res X = some (.inl R.1)) (hwr : gx_wr X = R.2) {K9 : Int32 → Int32 → Int32 → gx_Wd → Option (Int32 × gx_Wd)} (hK9 : ∀ (b1 : Int32) (b2 : Int32) (b3 : Int32) (w : gx_Wd), K9 b1 b2 b3 w = some R → gx_G X mi_m_levels 9 [some (.inr 0), some (.inl b1), some (.inl b2), some (.inl b3)] [] w) (b1 : Int32) (b3 : Int32) (s0 : Int32) (s1 : Int32) (w : gx_Wd) (h : m_levels_35 K9 b1 b3 s0 s1 w = some R) : gx_G X mi_m_levels 35 [some (.inr 0), some (.inl b1), none, some (.inl b3)] [.inl s0, .inl s1] w := by
  rw [m_levels_35] at h
  refine gx_ior hX (gx_dt dt_mi_m_levels 22 rfl) ?_
  obtain ⟨v1, e_v1, h⟩ := gx_bd h
  refine gx_top e_v1 ?_
  refine gx_istore_n hX (ls' := [some (.inr 0), some (.inl b1), some (.inl v1), some (.inl b3)]) (gx_dt dt_mi_m_levels 23 rfl) (by decide) rfl ?_
  obtain ⟨v2, e_v2, h⟩ := gx_bd h
  refine gx_iinc hX (v := v2) (ls' := [some (.inr 0), some (.inl b1), some (.inl v1), some (.inl v2)]) (gx_dt dt_mi_m_levels 24 rfl) rfl (gx_ii e_v2 (by decide)) (by decide) rfl ?_
  refine gx_goto hX (tgt := 9) (gx_dt dt_mi_m_levels 25 rfl) (by decide) ?_
  exact gx_weak (gx_leS (gx_leS (gx_leS (gx_leS gx_le0)))) (hK9 _ _ _ _ h)
theorem t_m_levels_9 {X : gx_X} (hX : gx_Ok X mi_m_levels) {R : Int32 × gx_Wd} (hres : gx_res X = some (.inl R.1)) (hwr : gx_wr X = R.2) : ∀ (n : Nat) (b1 : Int32) (b2 : Int32) (b3 : Int32) (w : gx_Wd), m_levels_9 n b1 b2 b3 w = some R → gx_G X mi_m_levels 9 [some (.inr 0), some (.inl b1), some (.inl b2), some (.inl b3)] [] w := by
  intro n
  induction n with
  | zero => intro b1 b2 b3 w h; rw [m_levels_9] at h; cases h
  | succ n ih =>
    intro b1 b2 b3 w h
    rw [m_levels_9] at h
    refine gx_iload_n hX (gx_dt dt_mi_m_levels 7 rfl) rfl ?_
    refine gx_bipush hX (v := 28) (gx_dt dt_mi_m_levels 8 rfl) (by decide) ?_
    refine gx_ic_ge hX (tgt := 43) (gx_dt dt_mi_m_levels 9 rfl) (by decide) (fun c1 => ?_) (fun c1 => ?_)
    · have h := gx_ifp c1 h
      exact gx_weak (gx_leS (gx_leS (gx_leS gx_le0))) (t_m_levels_43 hX hres hwr _ _ _ h)
    · have h := gx_ifn c1 h
      refine gx_aload_n hX (gx_dt dt_mi_m_levels 10 rfl) rfl ?_
      refine gx_iload_n hX (gx_dt dt_mi_m_levels 11 rfl) rfl ?_
      obtain ⟨w2, e_w2, h⟩ := gx_bd h
      refine gx_putp hX fl_D_16 (pf_D_2 _) sh_m_0 rfl e_w2 (gx_dt dt_mi_m_levels 12 rfl) ?_
      refine gx_iload_n hX (gx_dt dt_mi_m_levels 13 rfl) rfl ?_
      refine gx_aload_n hX (gx_dt dt_mi_m_levels 14 rfl) rfl ?_
      obtain ⟨r3, e_r3, h⟩ := gx_bd h
      refine gx_callVi hX (gx_dt dt_mi_m_levels 15 rfl) ln_D_203_m_isHeld mo_m_isHeld mv_m_isHeld (gx_rmb rfl) sh_m_0 ⟨_, _, rfl⟩ rfl (k_m_isHeld e_r3) rfl rfl (Nat.le_of_ble_eq_true rfl) ?_
      refine gx_if_eq hX (tgt := 34) (gx_dt dt_mi_m_levels 16 rfl) (by decide) (fun c4 => ?_) (fun c4 => ?_)
      · have h := gx_ifp c4 h
        refine gx_iconst hX (v := 0) (gx_dt dt_mi_m_levels 21 rfl) (by decide) ?_
        exact gx_weak (gx_leS (gx_leS (gx_leN (gx_leS gx_le0)))) (t_m_levels_35 hX hres hwr ih _ _ _ _ _ h)
      · have h := gx_ifn c4 h
        refine gx_iconst hX (v := 1) (gx_dt dt_mi_m_levels 17 rfl) (by decide) ?_
        refine gx_iload_n hX (gx_dt dt_mi_m_levels 18 rfl) rfl ?_
        refine gx_ishl hX (gx_dt dt_mi_m_levels 19 rfl) ?_
        refine gx_goto hX (tgt := 35) (gx_dt dt_mi_m_levels 20 rfl) (by decide) ?_
        exact gx_weak (gx_leS (gx_leS (gx_leN (gx_leS gx_le0)))) (t_m_levels_35 hX hres hwr ih _ _ _ _ _ h)
theorem k_m_levels {w : gx_Wd} {R : Int32 × gx_Wd} (h : m_levels w = some R) : gx_MT mi_m_levels [.inr 0] w (some (.inl R.1)) R.2 := by
  refine gx_met (by decide +kernel) (Nat.le_of_ble_eq_true rfl) (fun X hX hres hwr => ?_)
  show gx_G X mi_m_levels 0 [some (.inr 0)] [] w
  rw [m_levels] at h
  refine gx_aload_n hX (gx_dt dt_mi_m_levels 0 rfl) rfl ?_
  refine gx_geti hX fl_D_16 sh_m_0 rfl (gx_dt dt_mi_m_levels 1 rfl) ?_
  refine gx_istore_n hX (ls' := [some (.inr 0), some (.inl (w 0 2))]) (gx_dt dt_mi_m_levels 2 rfl) (by decide) rfl ?_
  refine gx_iconst hX (v := 0) (gx_dt dt_mi_m_levels 3 rfl) (by decide) ?_
  refine gx_istore_n hX (ls' := [some (.inr 0), some (.inl (w 0 2)), some (.inl (0))]) (gx_dt dt_mi_m_levels 4 rfl) (by decide) rfl ?_
  refine gx_iconst hX (v := 0) (gx_dt dt_mi_m_levels 5 rfl) (by decide) ?_
  refine gx_istore_n hX (ls' := [some (.inr 0), some (.inl (w 0 2)), some (.inl (0)), some (.inl (0))]) (gx_dt dt_mi_m_levels 6 rfl) (by decide) rfl ?_
  exact gx_weak (gx_leS (gx_leS (gx_leS (gx_leS gx_le0)))) (t_m_levels_9 hX hres hwr _ _ _ _ _ h)
-- EachBearsPillarModel.blocksFor(III)I
def m_blocksFor_126 (b1 : Int32) (b2 : Int32) (b4 : Int32) (b5 : Int32) (b6 : Int32) (w : gx_Wd) : Option (Int32 × gx_Wd) :=
  (gx_ast sh_m w 4 b2 b5).bind fun w1 =>
  (gx_ast sh_m w1 4 b1 b4).bind fun w2 =>
  some (b6, w2)
def m_blocksFor_120 (K22 : Int32 → Int32 → Int32 → Int32 → Int32 → Int32 → gx_Wd → Option (Int32 × gx_Wd)) (b1 : Int32) (b2 : Int32) (b4 : Int32) (b5 : Int32) (b6 : Int32) (b7 : Int32) (w : gx_Wd) : Option (Int32 × gx_Wd) :=
  (some (b7 + 1)).bind fun v1 =>
  K22 b1 b2 b4 b5 b6 v1 w
def m_blocksFor_114 (K22 : Int32 → Int32 → Int32 → Int32 → Int32 → Int32 → gx_Wd → Option (Int32 × gx_Wd)) (K35 : Int32 → Int32 → Int32 → Int32 → Int32 → Int32 → Int32 → gx_Wd → Option (Int32 × gx_Wd)) (b1 : Int32) (b2 : Int32) (b4 : Int32) (b5 : Int32) (b6 : Int32) (b7 : Int32) (b8 : Int32) (w : gx_Wd) : Option (Int32 × gx_Wd) :=
  (some (b8 + 1)).bind fun v1 =>
  K35 b1 b2 b4 b5 b6 b7 v1 w
def m_blocksFor_112 (K22 : Int32 → Int32 → Int32 → Int32 → Int32 → Int32 → gx_Wd → Option (Int32 × gx_Wd)) (K35 : Int32 → Int32 → Int32 → Int32 → Int32 → Int32 → Int32 → gx_Wd → Option (Int32 × gx_Wd)) (b1 : Int32) (b2 : Int32) (b4 : Int32) (b5 : Int32) (b7 : Int32) (b8 : Int32) (s0 : Int32) (w : gx_Wd) : Option (Int32 × gx_Wd) :=
  m_blocksFor_114 K22 K35 b1 b2 b4 b5 s0 b7 b8 w
def m_blocksFor_95 (K22 : Int32 → Int32 → Int32 → Int32 → Int32 → Int32 → gx_Wd → Option (Int32 × gx_Wd)) (K35 : Int32 → Int32 → Int32 → Int32 → Int32 → Int32 → Int32 → gx_Wd → Option (Int32 × gx_Wd)) (b1 : Int32) (b2 : Int32) (b4 : Int32) (b5 : Int32) (b6 : Int32) (b7 : Int32) (b8 : Int32) (w : gx_Wd) : Option (Int32 × gx_Wd) :=
  (m_isHeld w).bind fun r1 =>
  if r1.1 = 0 then
    m_blocksFor_112 K22 K35 b1 b2 b4 b5 b7 b8 b6 r1.2
  else
  m_blocksFor_112 K22 K35 b1 b2 b4 b5 b7 b8 (b7 + b8) r1.2
def m_blocksFor_68 (K22 : Int32 → Int32 → Int32 → Int32 → Int32 → Int32 → gx_Wd → Option (Int32 × gx_Wd)) (K35 : Int32 → Int32 → Int32 → Int32 → Int32 → Int32 → Int32 → gx_Wd → Option (Int32 × gx_Wd)) (b1 : Int32) (b2 : Int32) (b4 : Int32) (b5 : Int32) (b6 : Int32) (b7 : Int32) (b8 : Int32) (w : gx_Wd) : Option (Int32 × gx_Wd) :=
  (gx_ast sh_m w 4 b1 (b4 + b7)).bind fun w1 =>
  if b1 = b2 then
    m_blocksFor_95 K22 K35 b1 b2 b4 b5 b6 b7 b8 w1
  else
  (gx_ast sh_m w1 4 b2 (b5 + b8)).bind fun w3 =>
  m_blocksFor_95 K22 K35 b1 b2 b4 b5 b6 b7 b8 w3
def m_blocksFor_35 (K22 : Int32 → Int32 → Int32 → Int32 → Int32 → Int32 → gx_Wd → Option (Int32 × gx_Wd)) : Nat → Int32 → Int32 → Int32 → Int32 → Int32 → Int32 → Int32 → gx_Wd → Option (Int32 × gx_Wd)
  | 0, _, _, _, _, _, _, _, _ => none
  | n + 1, b1, b2, b4, b5, b6, b7, b8, w =>
  if 10 ≤ b5 + b8 then
    m_blocksFor_120 K22 b1 b2 b4 b5 b6 b7 w
  else
  if b6 ≤ b7 + b8 then
    m_blocksFor_120 K22 b1 b2 b4 b5 b6 b7 w
  else
  if b1 = b2 then
    if b8 ≤ 0 then
      m_blocksFor_68 K22 (m_blocksFor_35 K22 n) b1 b2 b4 b5 b6 b7 b8 w
    else
    m_blocksFor_114 K22 (m_blocksFor_35 K22 n) b1 b2 b4 b5 b6 b7 b8 w
  else
    m_blocksFor_68 K22 (m_blocksFor_35 K22 n) b1 b2 b4 b5 b6 b7 b8 w
def m_blocksFor_22 : Nat → Int32 → Int32 → Int32 → Int32 → Int32 → Int32 → gx_Wd → Option (Int32 × gx_Wd)
  | 0, _, _, _, _, _, _, _ => none
  | n + 1, b1, b2, b4, b5, b6, b7, w =>
  if 10 ≤ b4 + b7 then
    m_blocksFor_126 b1 b2 b4 b5 b6 w
  else
  m_blocksFor_35 (m_blocksFor_22 n) 6000 b1 b2 b4 b5 b6 b7 0 w
def m_blocksFor (a1 : Int32) (a2 : Int32) (a3 : Int32) (w : gx_Wd) : Option (Int32 × gx_Wd) :=
  (gx_ald sh_m w 4 a1).bind fun v1 =>
  (gx_ald sh_m w 4 a2).bind fun v2 =>
  m_blocksFor_22 6000 a1 a2 v1 v2 a3 0 w
theorem t_m_blocksFor_126 {X : gx_X} (hX : gx_Ok X mi_m_blocksFor) {R : Int32 × gx_Wd} (hres : gx_res X = some (.inl R.1)) (hwr : gx_wr X = R.2) (b1 : Int32) (b2 : Int32) (b4 : Int32) (b5 : Int32) (b6 : Int32) (w : gx_Wd) (h : m_blocksFor_126 b1 b2 b4 b5 b6 w = some R) : gx_G X mi_m_blocksFor 126 [some (.inr 0), some (.inl b1), some (.inl b2), none, some (.inl b4), some (.inl b5), some (.inl b6)] [] w := by
  rw [m_blocksFor_126] at h
  refine gx_aload_n hX (gx_dt dt_mi_m_blocksFor 67 rfl) rfl ?_
  refine gx_getr hX fl_D_35 sh_m_0 rfl (gx_dt dt_mi_m_blocksFor 68 rfl) ?_
  refine gx_iload_n hX (gx_dt dt_mi_m_blocksFor 69 rfl) rfl ?_
  refine gx_iload hX (gx_dt dt_mi_m_blocksFor 70 rfl) rfl ?_
  obtain ⟨w1, e_w1, h⟩ := gx_bd h
  refine gx_iast hX e_w1 (gx_dt dt_mi_m_blocksFor 71 rfl) ?_
  refine gx_aload_n hX (gx_dt dt_mi_m_blocksFor 72 rfl) rfl ?_
  refine gx_getr hX fl_D_35 sh_m_0 rfl (gx_dt dt_mi_m_blocksFor 73 rfl) ?_
  refine gx_iload_n hX (gx_dt dt_mi_m_blocksFor 74 rfl) rfl ?_
  refine gx_iload hX (gx_dt dt_mi_m_blocksFor 75 rfl) rfl ?_
  obtain ⟨w2, e_w2, h⟩ := gx_bd h
  refine gx_iast hX e_w2 (gx_dt dt_mi_m_blocksFor 76 rfl) ?_
  refine gx_iload hX (gx_dt dt_mi_m_blocksFor 77 rfl) rfl ?_
  obtain rfl := Option.some.inj h
  exact gx_iret hX (gx_dt dt_mi_m_blocksFor 78 rfl) rfl hres hwr
theorem t_m_blocksFor_120 {X : gx_X} (hX : gx_Ok X mi_m_blocksFor) {R : Int32 × gx_Wd} (hres : gx_res X = some (.inl R.1)) (hwr : gx_wr X = R.2) {K22 : Int32 → Int32 → Int32 → Int32 → Int32 → Int32 → gx_Wd → Option (Int32 × gx_Wd)} (hK22 : ∀ (b1 : Int32) (b2 : Int32) (b4 : Int32) (b5 : Int32) (b6 : Int32) (b7 : Int32) (w : gx_Wd), K22 b1 b2 b4 b5 b6 b7 w = some R → gx_G X mi_m_blocksFor 22 [some (.inr 0), some (.inl b1), some (.inl b2), none, some (.inl b4), some (.inl b5), some (.inl b6), some (.inl b7)] [] w) (b1 : Int32) (b2 : Int32) (b4 : Int32) (b5 : Int32) (b6 : Int32) (b7 : Int32) (w : gx_Wd) (h : m_blocksFor_120 K22 b1 b2 b4 b5 b6 b7 w = some R) : gx_G X mi_m_blocksFor 120 [some (.inr 0), some (.inl b1), some (.inl b2), none, some (.inl b4), some (.inl b5), some (.inl b6), some (.inl b7)] [] w := by
  rw [m_blocksFor_120] at h
  obtain ⟨v1, e_v1, h⟩ := gx_bd h
  refine gx_iinc hX (v := v1) (ls' := [some (.inr 0), some (.inl b1), some (.inl b2), none, some (.inl b4), some (.inl b5), some (.inl b6), some (.inl v1)]) (gx_dt dt_mi_m_blocksFor 65 rfl) rfl (gx_ii e_v1 (by decide)) (by decide) rfl ?_
  refine gx_goto hX (tgt := 22) (gx_dt dt_mi_m_blocksFor 66 rfl) (by decide) ?_
  exact gx_weak (gx_leS (gx_leS (gx_leS (gx_leN (gx_leS (gx_leS (gx_leS (gx_leS gx_le0)))))))) (hK22 _ _ _ _ _ _ _ h)
theorem t_m_blocksFor_114 {X : gx_X} (hX : gx_Ok X mi_m_blocksFor) {R : Int32 × gx_Wd} (hres : gx_res X = some (.inl R.1)) (hwr : gx_wr X = R.2) {K22 : Int32 → Int32 → Int32 → Int32 → Int32 → Int32 → gx_Wd → Option (Int32 × gx_Wd)} (hK22 : ∀ (b1 : Int32) (b2 : Int32) (b4 : Int32) (b5 : Int32) (b6 : Int32) (b7 : Int32) (w : gx_Wd), K22 b1 b2 b4 b5 b6 b7 w = some R → gx_G X mi_m_blocksFor 22 [some (.inr 0), some (.inl b1), some (.inl b2), none, some (.inl b4), some (.inl b5), some (.inl b6), some (.inl b7)] [] w) {K35 : Int32 → Int32 → Int32 → Int32 → Int32 → Int32 → Int32 → gx_Wd → Option (Int32 × gx_Wd)} (hK35 : ∀ (b1 : Int32) (b2 : Int32) (b4 : Int32) (b5 : Int32) (b6 : Int32) (b7 : Int32) (b8 : Int32) (w : gx_Wd), K35 b1 b2 b4 b5 b6 b7 b8 w = some R → gx_G X mi_m_blocksFor 35 [some (.inr 0), some (.inl b1), some (.inl b2), none, some (.inl b4), some (.inl b5), some (.inl b6), some (.inl b7), some (.inl b8)] [] w) (b1 : Int32) (b2 : Int32) (b4 : Int32) (b5 : Int32) (b6 : Int32) (b7 : Int32) (b8 : Int32) (w : gx_Wd) (h : m_blocksFor_114 K22 K35 b1 b2 b4 b5 b6 b7 b8 w = some R) : gx_G X mi_m_blocksFor 114 [some (.inr 0), some (.inl b1), some (.inl b2), none, some (.inl b4), some (.inl b5), some (.inl b6), some (.inl b7), some (.inl b8)] [] w := by
  rw [m_blocksFor_114] at h
  obtain ⟨v1, e_v1, h⟩ := gx_bd h
  refine gx_iinc hX (v := v1) (ls' := [some (.inr 0), some (.inl b1), some (.inl b2), none, some (.inl b4), some (.inl b5), some (.inl b6), some (.inl b7), some (.inl v1)]) (gx_dt dt_mi_m_blocksFor 63 rfl) rfl (gx_ii e_v1 (by decide)) (by decide) rfl ?_
  refine gx_goto hX (tgt := 35) (gx_dt dt_mi_m_blocksFor 64 rfl) (by decide) ?_
  exact gx_weak (gx_leS (gx_leS (gx_leS (gx_leN (gx_leS (gx_leS (gx_leS (gx_leS (gx_leS gx_le0))))))))) (hK35 _ _ _ _ _ _ _ _ h)
theorem t_m_blocksFor_112 {X : gx_X} (hX : gx_Ok X mi_m_blocksFor) {R : Int32 × gx_Wd} (hres : gx_res X = some (.inl R.1)) (hwr : gx_wr X = R.2) {K22 : Int32 → Int32 → Int32 → Int32 → Int32 → Int32 → gx_Wd → Option (Int32 × gx_Wd)} (hK22 : ∀ (b1 : Int32) (b2 : Int32) (b4 : Int32) (b5 : Int32) (b6 : Int32) (b7 : Int32) (w : gx_Wd), K22 b1 b2 b4 b5 b6 b7 w = some R → gx_G X mi_m_blocksFor 22 [some (.inr 0), some (.inl b1), some (.inl b2), none, some (.inl b4), some (.inl b5), some (.inl b6), some (.inl b7)] [] w) {K35 : Int32 → Int32 → Int32 → Int32 → Int32 → Int32 → Int32 → gx_Wd → Option (Int32 × gx_Wd)} (hK35 : ∀ (b1 : Int32) (b2 : Int32) (b4 : Int32) (b5 : Int32) (b6 : Int32) (b7 : Int32) (b8 : Int32) (w : gx_Wd), K35 b1 b2 b4 b5 b6 b7 b8 w = some R → gx_G X mi_m_blocksFor 35 [some (.inr 0), some (.inl b1), some (.inl b2), none, some (.inl b4), some (.inl b5), some (.inl b6), some (.inl b7), some (.inl b8)] [] w) (b1 : Int32) (b2 : Int32) (b4 : Int32) (b5 : Int32) (b7 : Int32) (b8 : Int32) (s0 : Int32) (w : gx_Wd) (h : m_blocksFor_112 K22 K35 b1 b2 b4 b5 b7 b8 s0 w = some R) : gx_G X mi_m_blocksFor 112 [some (.inr 0), some (.inl b1), some (.inl b2), none, some (.inl b4), some (.inl b5), none, some (.inl b7), some (.inl b8)] [.inl s0] w := by
  rw [m_blocksFor_112] at h
  refine gx_istore hX (ls' := [some (.inr 0), some (.inl b1), some (.inl b2), none, some (.inl b4), some (.inl b5), some (.inl s0), some (.inl b7), some (.inl b8)]) (gx_dt dt_mi_m_blocksFor 62 rfl) (by decide) rfl ?_
  exact gx_weak (gx_leS (gx_leS (gx_leS (gx_leN (gx_leS (gx_leS (gx_leS (gx_leS (gx_leS gx_le0))))))))) (t_m_blocksFor_114 hX hres hwr hK22 hK35 _ _ _ _ _ _ _ _ h)
theorem t_m_blocksFor_95 {X : gx_X} (hX : gx_Ok X mi_m_blocksFor) {R : Int32 × gx_Wd} (hres : gx_res X = some (.inl R.1)) (hwr : gx_wr X = R.2) {K22 : Int32 → Int32 → Int32 → Int32 → Int32 → Int32 → gx_Wd → Option (Int32 × gx_Wd)} (hK22 : ∀ (b1 : Int32) (b2 : Int32) (b4 : Int32) (b5 : Int32) (b6 : Int32) (b7 : Int32) (w : gx_Wd), K22 b1 b2 b4 b5 b6 b7 w = some R → gx_G X mi_m_blocksFor 22 [some (.inr 0), some (.inl b1), some (.inl b2), none, some (.inl b4), some (.inl b5), some (.inl b6), some (.inl b7)] [] w) {K35 : Int32 → Int32 → Int32 → Int32 → Int32 → Int32 → Int32 → gx_Wd → Option (Int32 × gx_Wd)} (hK35 : ∀ (b1 : Int32) (b2 : Int32) (b4 : Int32) (b5 : Int32) (b6 : Int32) (b7 : Int32) (b8 : Int32) (w : gx_Wd), K35 b1 b2 b4 b5 b6 b7 b8 w = some R → gx_G X mi_m_blocksFor 35 [some (.inr 0), some (.inl b1), some (.inl b2), none, some (.inl b4), some (.inl b5), some (.inl b6), some (.inl b7), some (.inl b8)] [] w) (b1 : Int32) (b2 : Int32) (b4 : Int32) (b5 : Int32) (b6 : Int32) (b7 : Int32) (b8 : Int32) (w : gx_Wd) (h : m_blocksFor_95 K22 K35 b1 b2 b4 b5 b6 b7 b8 w = some R) : gx_G X mi_m_blocksFor 95 [some (.inr 0), some (.inl b1), some (.inl b2), none, some (.inl b4), some (.inl b5), some (.inl b6), some (.inl b7), some (.inl b8)] [] w := by
  rw [m_blocksFor_95] at h
  refine gx_aload_n hX (gx_dt dt_mi_m_blocksFor 54 rfl) rfl ?_
  obtain ⟨r1, e_r1, h⟩ := gx_bd h
  refine gx_callVi hX (gx_dt dt_mi_m_blocksFor 55 rfl) ln_D_203_m_isHeld mo_m_isHeld mv_m_isHeld (gx_rmb rfl) sh_m_0 ⟨_, _, rfl⟩ rfl (k_m_isHeld e_r1) rfl rfl (Nat.le_of_ble_eq_true rfl) ?_
  refine gx_if_eq hX (tgt := 110) (gx_dt dt_mi_m_blocksFor 56 rfl) (by decide) (fun c2 => ?_) (fun c2 => ?_)
  · have h := gx_ifp c2 h
    refine gx_iload hX (gx_dt dt_mi_m_blocksFor 61 rfl) rfl ?_
    exact gx_weak (gx_leS (gx_leS (gx_leS (gx_leN (gx_leS (gx_leS (gx_leN (gx_leS (gx_leS gx_le0))))))))) (t_m_blocksFor_112 hX hres hwr hK22 hK35 _ _ _ _ _ _ _ _ h)
  · have h := gx_ifn c2 h
    refine gx_iload hX (gx_dt dt_mi_m_blocksFor 57 rfl) rfl ?_
    refine gx_iload hX (gx_dt dt_mi_m_blocksFor 58 rfl) rfl ?_
    refine gx_iadd hX (gx_dt dt_mi_m_blocksFor 59 rfl) ?_
    refine gx_goto hX (tgt := 112) (gx_dt dt_mi_m_blocksFor 60 rfl) (by decide) ?_
    exact gx_weak (gx_leS (gx_leS (gx_leS (gx_leN (gx_leS (gx_leS (gx_leN (gx_leS (gx_leS gx_le0))))))))) (t_m_blocksFor_112 hX hres hwr hK22 hK35 _ _ _ _ _ _ _ _ h)
theorem t_m_blocksFor_68 {X : gx_X} (hX : gx_Ok X mi_m_blocksFor) {R : Int32 × gx_Wd} (hres : gx_res X = some (.inl R.1)) (hwr : gx_wr X = R.2) {K22 : Int32 → Int32 → Int32 → Int32 → Int32 → Int32 → gx_Wd → Option (Int32 × gx_Wd)} (hK22 : ∀ (b1 : Int32) (b2 : Int32) (b4 : Int32) (b5 : Int32) (b6 : Int32) (b7 : Int32) (w : gx_Wd), K22 b1 b2 b4 b5 b6 b7 w = some R → gx_G X mi_m_blocksFor 22 [some (.inr 0), some (.inl b1), some (.inl b2), none, some (.inl b4), some (.inl b5), some (.inl b6), some (.inl b7)] [] w) {K35 : Int32 → Int32 → Int32 → Int32 → Int32 → Int32 → Int32 → gx_Wd → Option (Int32 × gx_Wd)} (hK35 : ∀ (b1 : Int32) (b2 : Int32) (b4 : Int32) (b5 : Int32) (b6 : Int32) (b7 : Int32) (b8 : Int32) (w : gx_Wd), K35 b1 b2 b4 b5 b6 b7 b8 w = some R → gx_G X mi_m_blocksFor 35 [some (.inr 0), some (.inl b1), some (.inl b2), none, some (.inl b4), some (.inl b5), some (.inl b6), some (.inl b7), some (.inl b8)] [] w) (b1 : Int32) (b2 : Int32) (b4 : Int32) (b5 : Int32) (b6 : Int32) (b7 : Int32) (b8 : Int32) (w : gx_Wd) (h : m_blocksFor_68 K22 K35 b1 b2 b4 b5 b6 b7 b8 w = some R) : gx_G X mi_m_blocksFor 68 [some (.inr 0), some (.inl b1), some (.inl b2), none, some (.inl b4), some (.inl b5), some (.inl b6), some (.inl b7), some (.inl b8)] [] w := by
  rw [m_blocksFor_68] at h
  refine gx_aload_n hX (gx_dt dt_mi_m_blocksFor 37 rfl) rfl ?_
  refine gx_getr hX fl_D_35 sh_m_0 rfl (gx_dt dt_mi_m_blocksFor 38 rfl) ?_
  refine gx_iload_n hX (gx_dt dt_mi_m_blocksFor 39 rfl) rfl ?_
  refine gx_iload hX (gx_dt dt_mi_m_blocksFor 40 rfl) rfl ?_
  refine gx_iload hX (gx_dt dt_mi_m_blocksFor 41 rfl) rfl ?_
  refine gx_iadd hX (gx_dt dt_mi_m_blocksFor 42 rfl) ?_
  obtain ⟨w1, e_w1, h⟩ := gx_bd h
  refine gx_iast hX e_w1 (gx_dt dt_mi_m_blocksFor 43 rfl) ?_
  refine gx_iload_n hX (gx_dt dt_mi_m_blocksFor 44 rfl) rfl ?_
  refine gx_iload_n hX (gx_dt dt_mi_m_blocksFor 45 rfl) rfl ?_
  refine gx_ic_eq hX (tgt := 95) (gx_dt dt_mi_m_blocksFor 46 rfl) (by decide) (fun c2 => ?_) (fun c2 => ?_)
  · have h := gx_ifp c2 h
    exact gx_weak (gx_leS (gx_leS (gx_leS (gx_leN (gx_leS (gx_leS (gx_leS (gx_leS (gx_leS gx_le0))))))))) (t_m_blocksFor_95 hX hres hwr hK22 hK35 _ _ _ _ _ _ _ _ h)
  · have h := gx_ifn c2 h
    refine gx_aload_n hX (gx_dt dt_mi_m_blocksFor 47 rfl) rfl ?_
    refine gx_getr hX fl_D_35 sh_m_0 rfl (gx_dt dt_mi_m_blocksFor 48 rfl) ?_
    refine gx_iload_n hX (gx_dt dt_mi_m_blocksFor 49 rfl) rfl ?_
    refine gx_iload hX (gx_dt dt_mi_m_blocksFor 50 rfl) rfl ?_
    refine gx_iload hX (gx_dt dt_mi_m_blocksFor 51 rfl) rfl ?_
    refine gx_iadd hX (gx_dt dt_mi_m_blocksFor 52 rfl) ?_
    obtain ⟨w3, e_w3, h⟩ := gx_bd h
    refine gx_iast hX e_w3 (gx_dt dt_mi_m_blocksFor 53 rfl) ?_
    exact gx_weak (gx_leS (gx_leS (gx_leS (gx_leN (gx_leS (gx_leS (gx_leS (gx_leS (gx_leS gx_le0))))))))) (t_m_blocksFor_95 hX hres hwr hK22 hK35 _ _ _ _ _ _ _ _ h)
theorem t_m_blocksFor_35 {X : gx_X} (hX : gx_Ok X mi_m_blocksFor) {R : Int32 × gx_Wd} (hres : gx_res X = some (.inl R.1)) (hwr : gx_wr X = R.2) {K22 : Int32 → Int32 → Int32 → Int32 → Int32 → Int32 → gx_Wd → Option (Int32 × gx_Wd)} (hK22 : ∀ (b1 : Int32) (b2 : Int32) (b4 : Int32) (b5 : Int32) (b6 : Int32) (b7 : Int32) (w : gx_Wd), K22 b1 b2 b4 b5 b6 b7 w = some R → gx_G X mi_m_blocksFor 22 [some (.inr 0), some (.inl b1), some (.inl b2), none, some (.inl b4), some (.inl b5), some (.inl b6), some (.inl b7)] [] w) : ∀ (n : Nat) (b1 : Int32) (b2 : Int32) (b4 : Int32) (b5 : Int32) (b6 : Int32) (b7 : Int32) (b8 : Int32) (w : gx_Wd), m_blocksFor_35 K22 n b1 b2 b4 b5 b6 b7 b8 w = some R → gx_G X mi_m_blocksFor 35 [some (.inr 0), some (.inl b1), some (.inl b2), none, some (.inl b4), some (.inl b5), some (.inl b6), some (.inl b7), some (.inl b8)] [] w := by
  intro n
  induction n with
  | zero => intro b1 b2 b4 b5 b6 b7 b8 w h; rw [m_blocksFor_35] at h; cases h
  | succ n ih =>
    intro b1 b2 b4 b5 b6 b7 b8 w h
    rw [m_blocksFor_35] at h
    refine gx_iload hX (gx_dt dt_mi_m_blocksFor 21 rfl) rfl ?_
    refine gx_iload hX (gx_dt dt_mi_m_blocksFor 22 rfl) rfl ?_
    refine gx_iadd hX (gx_dt dt_mi_m_blocksFor 23 rfl) ?_
    refine gx_bipush hX (v := 10) (gx_dt dt_mi_m_blocksFor 24 rfl) (by decide) ?_
    refine gx_ic_ge hX (tgt := 120) (gx_dt dt_mi_m_blocksFor 25 rfl) (by decide) (fun c1 => ?_) (fun c1 => ?_)
    · have h := gx_ifp c1 h
      exact gx_weak (gx_leS (gx_leS (gx_leS (gx_leN (gx_leS (gx_leS (gx_leS (gx_leS gx_le0)))))))) (t_m_blocksFor_120 hX hres hwr hK22 _ _ _ _ _ _ _ h)
    · have h := gx_ifn c1 h
      refine gx_iload hX (gx_dt dt_mi_m_blocksFor 26 rfl) rfl ?_
      refine gx_iload hX (gx_dt dt_mi_m_blocksFor 27 rfl) rfl ?_
      refine gx_iadd hX (gx_dt dt_mi_m_blocksFor 28 rfl) ?_
      refine gx_iload hX (gx_dt dt_mi_m_blocksFor 29 rfl) rfl ?_
      refine gx_ic_ge hX (tgt := 120) (gx_dt dt_mi_m_blocksFor 30 rfl) (by decide) (fun c2 => ?_) (fun c2 => ?_)
      · have h := gx_ifp c2 h
        exact gx_weak (gx_leS (gx_leS (gx_leS (gx_leN (gx_leS (gx_leS (gx_leS (gx_leS gx_le0)))))))) (t_m_blocksFor_120 hX hres hwr hK22 _ _ _ _ _ _ _ h)
      · have h := gx_ifn c2 h
        refine gx_iload_n hX (gx_dt dt_mi_m_blocksFor 31 rfl) rfl ?_
        refine gx_iload_n hX (gx_dt dt_mi_m_blocksFor 32 rfl) rfl ?_
        refine gx_ic_ne hX (tgt := 68) (gx_dt dt_mi_m_blocksFor 33 rfl) (by decide) (fun c3 => ?_) (fun c3 => ?_)
        · have h := gx_ifn c3 h
          exact gx_weak (gx_leS (gx_leS (gx_leS (gx_leN (gx_leS (gx_leS (gx_leS (gx_leS (gx_leS gx_le0))))))))) (t_m_blocksFor_68 hX hres hwr hK22 ih _ _ _ _ _ _ _ _ h)
        · have h := gx_ifp c3 h
          refine gx_iload hX (gx_dt dt_mi_m_blocksFor 34 rfl) rfl ?_
          refine gx_if_le hX (tgt := 68) (gx_dt dt_mi_m_blocksFor 35 rfl) (by decide) (fun c4 => ?_) (fun c4 => ?_)
          · have h := gx_ifp c4 h
            exact gx_weak (gx_leS (gx_leS (gx_leS (gx_leN (gx_leS (gx_leS (gx_leS (gx_leS (gx_leS gx_le0))))))))) (t_m_blocksFor_68 hX hres hwr hK22 ih _ _ _ _ _ _ _ _ h)
          · have h := gx_ifn c4 h
            refine gx_goto hX (tgt := 114) (gx_dt dt_mi_m_blocksFor 36 rfl) (by decide) ?_
            exact gx_weak (gx_leS (gx_leS (gx_leS (gx_leN (gx_leS (gx_leS (gx_leS (gx_leS (gx_leS gx_le0))))))))) (t_m_blocksFor_114 hX hres hwr hK22 ih _ _ _ _ _ _ _ _ h)
theorem t_m_blocksFor_22 {X : gx_X} (hX : gx_Ok X mi_m_blocksFor) {R : Int32 × gx_Wd} (hres : gx_res X = some (.inl R.1)) (hwr : gx_wr X = R.2) : ∀ (n : Nat) (b1 : Int32) (b2 : Int32) (b4 : Int32) (b5 : Int32) (b6 : Int32) (b7 : Int32) (w : gx_Wd), m_blocksFor_22 n b1 b2 b4 b5 b6 b7 w = some R → gx_G X mi_m_blocksFor 22 [some (.inr 0), some (.inl b1), some (.inl b2), none, some (.inl b4), some (.inl b5), some (.inl b6), some (.inl b7)] [] w := by
  intro n
  induction n with
  | zero => intro b1 b2 b4 b5 b6 b7 w h; rw [m_blocksFor_22] at h; cases h
  | succ n ih =>
    intro b1 b2 b4 b5 b6 b7 w h
    rw [m_blocksFor_22] at h
    refine gx_iload hX (gx_dt dt_mi_m_blocksFor 14 rfl) rfl ?_
    refine gx_iload hX (gx_dt dt_mi_m_blocksFor 15 rfl) rfl ?_
    refine gx_iadd hX (gx_dt dt_mi_m_blocksFor 16 rfl) ?_
    refine gx_bipush hX (v := 10) (gx_dt dt_mi_m_blocksFor 17 rfl) (by decide) ?_
    refine gx_ic_ge hX (tgt := 126) (gx_dt dt_mi_m_blocksFor 18 rfl) (by decide) (fun c1 => ?_) (fun c1 => ?_)
    · have h := gx_ifp c1 h
      exact gx_weak (gx_leS (gx_leS (gx_leS (gx_leN (gx_leS (gx_leS (gx_leS gx_le0))))))) (t_m_blocksFor_126 hX hres hwr _ _ _ _ _ _ h)
    · have h := gx_ifn c1 h
      refine gx_iconst hX (v := 0) (gx_dt dt_mi_m_blocksFor 19 rfl) (by decide) ?_
      refine gx_istore hX (ls' := [some (.inr 0), some (.inl b1), some (.inl b2), none, some (.inl b4), some (.inl b5), some (.inl b6), some (.inl b7), some (.inl (0))]) (gx_dt dt_mi_m_blocksFor 20 rfl) (by decide) rfl ?_
      exact gx_weak (gx_leS (gx_leS (gx_leS (gx_leN (gx_leS (gx_leS (gx_leS (gx_leS (gx_leS gx_le0))))))))) (t_m_blocksFor_35 hX hres hwr ih _ _ _ _ _ _ _ _ _ h)
theorem k_m_blocksFor {a1 : Int32} {a2 : Int32} {a3 : Int32} {w : gx_Wd} {R : Int32 × gx_Wd} (h : m_blocksFor a1 a2 a3 w = some R) : gx_MT mi_m_blocksFor [.inr 0, .inl a1, .inl a2, .inl a3] w (some (.inl R.1)) R.2 := by
  refine gx_met (by decide +kernel) (Nat.le_of_ble_eq_true rfl) (fun X hX hres hwr => ?_)
  show gx_G X mi_m_blocksFor 0 [some (.inr 0), some (.inl a1), some (.inl a2), some (.inl a3)] [] w
  rw [m_blocksFor] at h
  refine gx_aload_n hX (gx_dt dt_mi_m_blocksFor 0 rfl) rfl ?_
  refine gx_getr hX fl_D_35 sh_m_0 rfl (gx_dt dt_mi_m_blocksFor 1 rfl) ?_
  refine gx_iload_n hX (gx_dt dt_mi_m_blocksFor 2 rfl) rfl ?_
  obtain ⟨v1, e_v1, h⟩ := gx_bd h
  refine gx_iald hX e_v1 (gx_dt dt_mi_m_blocksFor 3 rfl) ?_
  refine gx_istore hX (ls' := [some (.inr 0), some (.inl a1), some (.inl a2), some (.inl a3), some (.inl v1)]) (gx_dt dt_mi_m_blocksFor 4 rfl) (by decide) rfl ?_
  refine gx_aload_n hX (gx_dt dt_mi_m_blocksFor 5 rfl) rfl ?_
  refine gx_getr hX fl_D_35 sh_m_0 rfl (gx_dt dt_mi_m_blocksFor 6 rfl) ?_
  refine gx_iload_n hX (gx_dt dt_mi_m_blocksFor 7 rfl) rfl ?_
  obtain ⟨v2, e_v2, h⟩ := gx_bd h
  refine gx_iald hX e_v2 (gx_dt dt_mi_m_blocksFor 8 rfl) ?_
  refine gx_istore hX (ls' := [some (.inr 0), some (.inl a1), some (.inl a2), some (.inl a3), some (.inl v1), some (.inl v2)]) (gx_dt dt_mi_m_blocksFor 9 rfl) (by decide) rfl ?_
  refine gx_iload_n hX (gx_dt dt_mi_m_blocksFor 10 rfl) rfl ?_
  refine gx_istore hX (ls' := [some (.inr 0), some (.inl a1), some (.inl a2), some (.inl a3), some (.inl v1), some (.inl v2), some (.inl a3)]) (gx_dt dt_mi_m_blocksFor 11 rfl) (by decide) rfl ?_
  refine gx_iconst hX (v := 0) (gx_dt dt_mi_m_blocksFor 12 rfl) (by decide) ?_
  refine gx_istore hX (ls' := [some (.inr 0), some (.inl a1), some (.inl a2), some (.inl a3), some (.inl v1), some (.inl v2), some (.inl a3), some (.inl (0))]) (gx_dt dt_mi_m_blocksFor 13 rfl) (by decide) rfl ?_
  exact gx_weak (gx_leS (gx_leS (gx_leS (gx_leN (gx_leS (gx_leS (gx_leS (gx_leS gx_le0)))))))) (t_m_blocksFor_22 hX hres hwr _ _ _ _ _ _ _ _ h)
-- EachBearsPillarModel.blocks()I
def m_blocks_52 (b1 : Int32) (w : gx_Wd) : Option (Int32 × gx_Wd) :=
  if b1 = 99 then
    some ((-9), w)
  else
    some (b1, w)
def m_blocks_46 (K14 : Int32 → Int32 → gx_Wd → Option (Int32 × gx_Wd)) (b1 : Int32) (b2 : Int32) (w : gx_Wd) : Option (Int32 × gx_Wd) :=
  (some (b2 + 1)).bind fun v1 =>
  K14 b1 v1 w
def m_blocks_24 (K14 : Int32 → Int32 → gx_Wd → Option (Int32 × gx_Wd)) : Nat → Int32 → Int32 → Int32 → gx_Wd → Option (Int32 × gx_Wd)
  | 0, _, _, _, _ => none
  | n + 1, b1, b2, b3, w =>
  if w 0 0 ≤ b3 then
    m_blocks_46 K14 b1 b2 w
  else
  (m_blocksFor b2 b3 b1 w).bind fun r2 =>
  (some (b3 + 1)).bind fun v3 =>
  (m_blocks_24 K14 n) r2.1 b2 v3 r2.2
def m_blocks_14 : Nat → Int32 → Int32 → gx_Wd → Option (Int32 × gx_Wd)
  | 0, _, _, _ => none
  | n + 1, b1, b2, w =>
  if w 0 0 ≤ b2 then
    m_blocks_52 b1 w
  else
  m_blocks_24 (m_blocks_14 n) 6000 b1 b2 b2 w
def m_blocks (w : gx_Wd) : Option (Int32 × gx_Wd) :=
  (m_isHeld w).bind fun r1 =>
  if r1.1 = 0 then
    m_blocks_14 6000 99 0 r1.2
  else
  some (0, r1.2)
theorem t_m_blocks_52 {X : gx_X} (hX : gx_Ok X mi_m_blocks) {R : Int32 × gx_Wd} (hres : gx_res X = some (.inl R.1)) (hwr : gx_wr X = R.2) (b1 : Int32) (w : gx_Wd) (h : m_blocks_52 b1 w = some R) : gx_G X mi_m_blocks 52 [none, some (.inl b1)] [] w := by
  rw [m_blocks_52] at h
  refine gx_iload_n hX (gx_dt dt_mi_m_blocks 29 rfl) rfl ?_
  refine gx_bipush hX (v := 99) (gx_dt dt_mi_m_blocks 30 rfl) (by decide) ?_
  refine gx_ic_ne hX (tgt := 63) (gx_dt dt_mi_m_blocks 31 rfl) (by decide) (fun c1 => ?_) (fun c1 => ?_)
  · have h := gx_ifn c1 h
    refine gx_iload_n hX (gx_dt dt_mi_m_blocks 34 rfl) rfl ?_
    obtain rfl := Option.some.inj h
    exact gx_iret hX (gx_dt dt_mi_m_blocks 35 rfl) rfl hres hwr
  · have h := gx_ifp c1 h
    refine gx_bipush hX (v := (-9)) (gx_dt dt_mi_m_blocks 32 rfl) (by decide) ?_
    refine gx_goto hX (tgt := 64) (gx_dt dt_mi_m_blocks 33 rfl) (by decide) ?_
    obtain rfl := Option.some.inj h
    exact gx_iret hX (gx_dt dt_mi_m_blocks 35 rfl) rfl hres hwr
theorem t_m_blocks_46 {X : gx_X} (hX : gx_Ok X mi_m_blocks) {R : Int32 × gx_Wd} (hres : gx_res X = some (.inl R.1)) (hwr : gx_wr X = R.2) {K14 : Int32 → Int32 → gx_Wd → Option (Int32 × gx_Wd)} (hK14 : ∀ (b1 : Int32) (b2 : Int32) (w : gx_Wd), K14 b1 b2 w = some R → gx_G X mi_m_blocks 14 [some (.inr 0), some (.inl b1), some (.inl b2)] [] w) (b1 : Int32) (b2 : Int32) (w : gx_Wd) (h : m_blocks_46 K14 b1 b2 w = some R) : gx_G X mi_m_blocks 46 [some (.inr 0), some (.inl b1), some (.inl b2)] [] w := by
  rw [m_blocks_46] at h
  obtain ⟨v1, e_v1, h⟩ := gx_bd h
  refine gx_iinc hX (v := v1) (ls' := [some (.inr 0), some (.inl b1), some (.inl v1)]) (gx_dt dt_mi_m_blocks 27 rfl) rfl (gx_ii e_v1 (by decide)) (by decide) rfl ?_
  refine gx_goto hX (tgt := 14) (gx_dt dt_mi_m_blocks 28 rfl) (by decide) ?_
  exact gx_weak (gx_leS (gx_leS (gx_leS gx_le0))) (hK14 _ _ _ h)
theorem t_m_blocks_24 {X : gx_X} (hX : gx_Ok X mi_m_blocks) {R : Int32 × gx_Wd} (hres : gx_res X = some (.inl R.1)) (hwr : gx_wr X = R.2) {K14 : Int32 → Int32 → gx_Wd → Option (Int32 × gx_Wd)} (hK14 : ∀ (b1 : Int32) (b2 : Int32) (w : gx_Wd), K14 b1 b2 w = some R → gx_G X mi_m_blocks 14 [some (.inr 0), some (.inl b1), some (.inl b2)] [] w) : ∀ (n : Nat) (b1 : Int32) (b2 : Int32) (b3 : Int32) (w : gx_Wd), m_blocks_24 K14 n b1 b2 b3 w = some R → gx_G X mi_m_blocks 24 [some (.inr 0), some (.inl b1), some (.inl b2), some (.inl b3)] [] w := by
  intro n
  induction n with
  | zero => intro b1 b2 b3 w h; rw [m_blocks_24] at h; cases h
  | succ n ih =>
    intro b1 b2 b3 w h
    rw [m_blocks_24] at h
    refine gx_iload_n hX (gx_dt dt_mi_m_blocks 15 rfl) rfl ?_
    refine gx_aload_n hX (gx_dt dt_mi_m_blocks 16 rfl) rfl ?_
    refine gx_geti hX fl_D_7 sh_m_0 rfl (gx_dt dt_mi_m_blocks 17 rfl) ?_
    refine gx_ic_ge hX (tgt := 46) (gx_dt dt_mi_m_blocks 18 rfl) (by decide) (fun c1 => ?_) (fun c1 => ?_)
    · have h := gx_ifp c1 h
      exact gx_weak (gx_leS (gx_leS (gx_leS gx_le0))) (t_m_blocks_46 hX hres hwr hK14 _ _ _ h)
    · have h := gx_ifn c1 h
      refine gx_aload_n hX (gx_dt dt_mi_m_blocks 19 rfl) rfl ?_
      refine gx_iload_n hX (gx_dt dt_mi_m_blocks 20 rfl) rfl ?_
      refine gx_iload_n hX (gx_dt dt_mi_m_blocks 21 rfl) rfl ?_
      refine gx_iload_n hX (gx_dt dt_mi_m_blocks 22 rfl) rfl ?_
      obtain ⟨r2, e_r2, h⟩ := gx_bd h
      refine gx_callVi hX (gx_dt dt_mi_m_blocks 23 rfl) ln_D_206_m_blocksFor mo_m_blocksFor mv_m_blocksFor (gx_rmb rfl) sh_m_0 ⟨_, _, rfl⟩ rfl (k_m_blocksFor e_r2) rfl rfl (Nat.le_of_ble_eq_true rfl) ?_
      refine gx_istore_n hX (ls' := [some (.inr 0), some (.inl (r2.1)), some (.inl b2), some (.inl b3)]) (gx_dt dt_mi_m_blocks 24 rfl) (by decide) rfl ?_
      obtain ⟨v3, e_v3, h⟩ := gx_bd h
      refine gx_iinc hX (v := v3) (ls' := [some (.inr 0), some (.inl (r2.1)), some (.inl b2), some (.inl v3)]) (gx_dt dt_mi_m_blocks 25 rfl) rfl (gx_ii e_v3 (by decide)) (by decide) rfl ?_
      refine gx_goto hX (tgt := 24) (gx_dt dt_mi_m_blocks 26 rfl) (by decide) ?_
      exact gx_weak (gx_leS (gx_leS (gx_leS (gx_leS gx_le0)))) (ih _ _ _ _ h)
theorem t_m_blocks_14 {X : gx_X} (hX : gx_Ok X mi_m_blocks) {R : Int32 × gx_Wd} (hres : gx_res X = some (.inl R.1)) (hwr : gx_wr X = R.2) : ∀ (n : Nat) (b1 : Int32) (b2 : Int32) (w : gx_Wd), m_blocks_14 n b1 b2 w = some R → gx_G X mi_m_blocks 14 [some (.inr 0), some (.inl b1), some (.inl b2)] [] w := by
  intro n
  induction n with
  | zero => intro b1 b2 w h; rw [m_blocks_14] at h; cases h
  | succ n ih =>
    intro b1 b2 w h
    rw [m_blocks_14] at h
    refine gx_iload_n hX (gx_dt dt_mi_m_blocks 9 rfl) rfl ?_
    refine gx_aload_n hX (gx_dt dt_mi_m_blocks 10 rfl) rfl ?_
    refine gx_geti hX fl_D_7 sh_m_0 rfl (gx_dt dt_mi_m_blocks 11 rfl) ?_
    refine gx_ic_ge hX (tgt := 52) (gx_dt dt_mi_m_blocks 12 rfl) (by decide) (fun c1 => ?_) (fun c1 => ?_)
    · have h := gx_ifp c1 h
      exact gx_weak (gx_leN (gx_leS gx_le0)) (t_m_blocks_52 hX hres hwr _ _ h)
    · have h := gx_ifn c1 h
      refine gx_iload_n hX (gx_dt dt_mi_m_blocks 13 rfl) rfl ?_
      refine gx_istore_n hX (ls' := [some (.inr 0), some (.inl b1), some (.inl b2), some (.inl b2)]) (gx_dt dt_mi_m_blocks 14 rfl) (by decide) rfl ?_
      exact gx_weak (gx_leS (gx_leS (gx_leS (gx_leS gx_le0)))) (t_m_blocks_24 hX hres hwr ih _ _ _ _ _ h)
theorem k_m_blocks {w : gx_Wd} {R : Int32 × gx_Wd} (h : m_blocks w = some R) : gx_MT mi_m_blocks [.inr 0] w (some (.inl R.1)) R.2 := by
  refine gx_met (by decide +kernel) (Nat.le_of_ble_eq_true rfl) (fun X hX hres hwr => ?_)
  show gx_G X mi_m_blocks 0 [some (.inr 0)] [] w
  rw [m_blocks] at h
  refine gx_aload_n hX (gx_dt dt_mi_m_blocks 0 rfl) rfl ?_
  obtain ⟨r1, e_r1, h⟩ := gx_bd h
  refine gx_callVi hX (gx_dt dt_mi_m_blocks 1 rfl) ln_D_203_m_isHeld mo_m_isHeld mv_m_isHeld (gx_rmb rfl) sh_m_0 ⟨_, _, rfl⟩ rfl (k_m_isHeld e_r1) rfl rfl (Nat.le_of_ble_eq_true rfl) ?_
  refine gx_if_eq hX (tgt := 9) (gx_dt dt_mi_m_blocks 2 rfl) (by decide) (fun c2 => ?_) (fun c2 => ?_)
  · have h := gx_ifp c2 h
    refine gx_bipush hX (v := 99) (gx_dt dt_mi_m_blocks 5 rfl) (by decide) ?_
    refine gx_istore_n hX (ls' := [some (.inr 0), some (.inl (99))]) (gx_dt dt_mi_m_blocks 6 rfl) (by decide) rfl ?_
    refine gx_iconst hX (v := 0) (gx_dt dt_mi_m_blocks 7 rfl) (by decide) ?_
    refine gx_istore_n hX (ls' := [some (.inr 0), some (.inl (99)), some (.inl (0))]) (gx_dt dt_mi_m_blocks 8 rfl) (by decide) rfl ?_
    exact gx_weak (gx_leS (gx_leS (gx_leS gx_le0))) (t_m_blocks_14 hX hres hwr _ _ _ _ h)
  · have h := gx_ifn c2 h
    refine gx_iconst hX (v := 0) (gx_dt dt_mi_m_blocks 3 rfl) (by decide) ?_
    obtain rfl := Option.some.inj h
    exact gx_iret hX (gx_dt dt_mi_m_blocks 4 rfl) rfl hres hwr
-- EachBearsPillarModel.changes(II)V
def m_changes (a1 : Int32) (a2 : Int32) (w : gx_Wd) : Option (gx_Wd) :=
  (gx_ald sh_m w 10 a1).bind fun v1 =>
  (gx_ald sh_m w 10 a2).bind fun v2 =>
  (gx_ast sh_m w 10 a1 v2).bind fun w3 =>
  (gx_ast sh_m w3 10 a2 v1).bind fun w4 =>
  some w4
theorem k_m_changes {a1 : Int32} {a2 : Int32} {w : gx_Wd} {R : gx_Wd} (h : m_changes a1 a2 w = some R) : gx_MT mi_m_changes [.inr 0, .inl a1, .inl a2] w none R := by
  refine gx_met (by decide +kernel) (Nat.le_of_ble_eq_true rfl) (fun X hX hres hwr => ?_)
  show gx_G X mi_m_changes 0 [some (.inr 0), some (.inl a1), some (.inl a2)] [] w
  rw [m_changes] at h
  refine gx_aload_n hX (gx_dt dt_mi_m_changes 0 rfl) rfl ?_
  refine gx_getr hX fl_D_65 sh_m_0 rfl (gx_dt dt_mi_m_changes 1 rfl) ?_
  refine gx_iload_n hX (gx_dt dt_mi_m_changes 2 rfl) rfl ?_
  obtain ⟨v1, e_v1, h⟩ := gx_bd h
  refine gx_iald hX e_v1 (gx_dt dt_mi_m_changes 3 rfl) ?_
  refine gx_istore_n hX (ls' := [some (.inr 0), some (.inl a1), some (.inl a2), some (.inl v1)]) (gx_dt dt_mi_m_changes 4 rfl) (by decide) rfl ?_
  refine gx_aload_n hX (gx_dt dt_mi_m_changes 5 rfl) rfl ?_
  refine gx_getr hX fl_D_65 sh_m_0 rfl (gx_dt dt_mi_m_changes 6 rfl) ?_
  refine gx_iload_n hX (gx_dt dt_mi_m_changes 7 rfl) rfl ?_
  refine gx_aload_n hX (gx_dt dt_mi_m_changes 8 rfl) rfl ?_
  refine gx_getr hX fl_D_65 sh_m_0 rfl (gx_dt dt_mi_m_changes 9 rfl) ?_
  refine gx_iload_n hX (gx_dt dt_mi_m_changes 10 rfl) rfl ?_
  obtain ⟨v2, e_v2, h⟩ := gx_bd h
  refine gx_iald hX e_v2 (gx_dt dt_mi_m_changes 11 rfl) ?_
  obtain ⟨w3, e_w3, h⟩ := gx_bd h
  refine gx_iast hX e_w3 (gx_dt dt_mi_m_changes 12 rfl) ?_
  refine gx_aload_n hX (gx_dt dt_mi_m_changes 13 rfl) rfl ?_
  refine gx_getr hX fl_D_65 sh_m_0 rfl (gx_dt dt_mi_m_changes 14 rfl) ?_
  refine gx_iload_n hX (gx_dt dt_mi_m_changes 15 rfl) rfl ?_
  refine gx_iload_n hX (gx_dt dt_mi_m_changes 16 rfl) rfl ?_
  obtain ⟨w4, e_w4, h⟩ := gx_bd h
  refine gx_iast hX e_w4 (gx_dt dt_mi_m_changes 17 rfl) ?_
  obtain rfl := Option.some.inj h
  exact gx_vret hX (gx_dt dt_mi_m_changes 18 rfl) rfl hres hwr
-- EachBearsPillarModel.swap()I
def m_swap_66 (K5 : Int32 → Int32 → gx_Wd → Option (Int32 × gx_Wd)) (b1 : Int32) (b2 : Int32) (w : gx_Wd) : Option (Int32 × gx_Wd) :=
  (some (b2 + 1)).bind fun v1 =>
  K5 b1 v1 w
def m_swap_53 (K5 : Int32 → Int32 → gx_Wd → Option (Int32 × gx_Wd)) (K17 : Int32 → Int32 → Int32 → gx_Wd → Option (Int32 × gx_Wd)) (b2 : Int32) (b3 : Int32) (s0 : Int32) (w : gx_Wd) : Option (Int32 × gx_Wd) :=
  (m_changes b2 b3 w).bind fun r1 =>
  (some (b3 + 1)).bind fun v2 =>
  K17 s0 b2 v2 r1
def m_swap_17 (K5 : Int32 → Int32 → gx_Wd → Option (Int32 × gx_Wd)) : Nat → Int32 → Int32 → Int32 → gx_Wd → Option (Int32 × gx_Wd)
  | 0, _, _, _, _ => none
  | n + 1, b1, b2, b3, w =>
  if w 0 0 ≤ b3 then
    m_swap_66 K5 b1 b2 w
  else
  if 0 ≤ b1 then
    m_swap_66 K5 b1 b2 w
  else
  (m_changes b2 b3 w).bind fun r3 =>
  (m_isHeld r3).bind fun r4 =>
  if r4.1 = 0 then
    m_swap_53 K5 (m_swap_17 K5 n) b2 b3 (-9) r4.2
  else
  m_swap_53 K5 (m_swap_17 K5 n) b2 b3 ((10 * b2) + b3) r4.2
def m_swap_5 : Nat → Int32 → Int32 → gx_Wd → Option (Int32 × gx_Wd)
  | 0, _, _, _ => none
  | n + 1, b1, b2, w =>
  if w 0 0 ≤ b2 then
    some (b1, w)
  else
  (some (b2 + 1)).bind fun v2 =>
  m_swap_17 (m_swap_5 n) 6000 b1 b2 v2 w
def m_swap (w : gx_Wd) : Option (Int32 × gx_Wd) :=
  m_swap_5 6000 (-9) 0 w
theorem t_m_swap_66 {X : gx_X} (hX : gx_Ok X mi_m_swap) {R : Int32 × gx_Wd} (hres : gx_res X = some (.inl R.1)) (hwr : gx_wr X = R.2) {K5 : Int32 → Int32 → gx_Wd → Option (Int32 × gx_Wd)} (hK5 : ∀ (b1 : Int32) (b2 : Int32) (w : gx_Wd), K5 b1 b2 w = some R → gx_G X mi_m_swap 5 [some (.inr 0), some (.inl b1), some (.inl b2)] [] w) (b1 : Int32) (b2 : Int32) (w : gx_Wd) (h : m_swap_66 K5 b1 b2 w = some R) : gx_G X mi_m_swap 66 [some (.inr 0), some (.inl b1), some (.inl b2)] [] w := by
  rw [m_swap_66] at h
  obtain ⟨v1, e_v1, h⟩ := gx_bd h
  refine gx_iinc hX (v := v1) (ls' := [some (.inr 0), some (.inl b1), some (.inl v1)]) (gx_dt dt_mi_m_swap 39 rfl) rfl (gx_ii e_v1 (by decide)) (by decide) rfl ?_
  refine gx_goto hX (tgt := 5) (gx_dt dt_mi_m_swap 40 rfl) (by decide) ?_
  exact gx_weak (gx_leS (gx_leS (gx_leS gx_le0))) (hK5 _ _ _ h)
theorem t_m_swap_53 {X : gx_X} (hX : gx_Ok X mi_m_swap) {R : Int32 × gx_Wd} (hres : gx_res X = some (.inl R.1)) (hwr : gx_wr X = R.2) {K5 : Int32 → Int32 → gx_Wd → Option (Int32 × gx_Wd)} (hK5 : ∀ (b1 : Int32) (b2 : Int32) (w : gx_Wd), K5 b1 b2 w = some R → gx_G X mi_m_swap 5 [some (.inr 0), some (.inl b1), some (.inl b2)] [] w) {K17 : Int32 → Int32 → Int32 → gx_Wd → Option (Int32 × gx_Wd)} (hK17 : ∀ (b1 : Int32) (b2 : Int32) (b3 : Int32) (w : gx_Wd), K17 b1 b2 b3 w = some R → gx_G X mi_m_swap 17 [some (.inr 0), some (.inl b1), some (.inl b2), some (.inl b3)] [] w) (b2 : Int32) (b3 : Int32) (s0 : Int32) (w : gx_Wd) (h : m_swap_53 K5 K17 b2 b3 s0 w = some R) : gx_G X mi_m_swap 53 [some (.inr 0), none, some (.inl b2), some (.inl b3)] [.inl s0] w := by
  rw [m_swap_53] at h
  refine gx_istore_n hX (ls' := [some (.inr 0), some (.inl s0), some (.inl b2), some (.inl b3)]) (gx_dt dt_mi_m_swap 32 rfl) (by decide) rfl ?_
  refine gx_aload_n hX (gx_dt dt_mi_m_swap 33 rfl) rfl ?_
  refine gx_iload_n hX (gx_dt dt_mi_m_swap 34 rfl) rfl ?_
  refine gx_iload_n hX (gx_dt dt_mi_m_swap 35 rfl) rfl ?_
  obtain ⟨r1, e_r1, h⟩ := gx_bd h
  refine gx_callVv hX (gx_dt dt_mi_m_swap 36 rfl) ln_D_209_m_changes mo_m_changes mv_m_changes (gx_rmb rfl) sh_m_0 ⟨_, _, rfl⟩ rfl (k_m_changes e_r1) rfl rfl (Nat.le_of_ble_eq_true rfl) ?_
  obtain ⟨v2, e_v2, h⟩ := gx_bd h
  refine gx_iinc hX (v := v2) (ls' := [some (.inr 0), some (.inl s0), some (.inl b2), some (.inl v2)]) (gx_dt dt_mi_m_swap 37 rfl) rfl (gx_ii e_v2 (by decide)) (by decide) rfl ?_
  refine gx_goto hX (tgt := 17) (gx_dt dt_mi_m_swap 38 rfl) (by decide) ?_
  exact gx_weak (gx_leS (gx_leS (gx_leS (gx_leS gx_le0)))) (hK17 _ _ _ _ h)
theorem t_m_swap_17 {X : gx_X} (hX : gx_Ok X mi_m_swap) {R : Int32 × gx_Wd} (hres : gx_res X = some (.inl R.1)) (hwr : gx_wr X = R.2) {K5 : Int32 → Int32 → gx_Wd → Option (Int32 × gx_Wd)} (hK5 : ∀ (b1 : Int32) (b2 : Int32) (w : gx_Wd), K5 b1 b2 w = some R → gx_G X mi_m_swap 5 [some (.inr 0), some (.inl b1), some (.inl b2)] [] w) : ∀ (n : Nat) (b1 : Int32) (b2 : Int32) (b3 : Int32) (w : gx_Wd), m_swap_17 K5 n b1 b2 b3 w = some R → gx_G X mi_m_swap 17 [some (.inr 0), some (.inl b1), some (.inl b2), some (.inl b3)] [] w := by
  intro n
  induction n with
  | zero => intro b1 b2 b3 w h; rw [m_swap_17] at h; cases h
  | succ n ih =>
    intro b1 b2 b3 w h
    rw [m_swap_17] at h
    refine gx_iload_n hX (gx_dt dt_mi_m_swap 12 rfl) rfl ?_
    refine gx_aload_n hX (gx_dt dt_mi_m_swap 13 rfl) rfl ?_
    refine gx_geti hX fl_D_7 sh_m_0 rfl (gx_dt dt_mi_m_swap 14 rfl) ?_
    refine gx_ic_ge hX (tgt := 66) (gx_dt dt_mi_m_swap 15 rfl) (by decide) (fun c1 => ?_) (fun c1 => ?_)
    · have h := gx_ifp c1 h
      exact gx_weak (gx_leS (gx_leS (gx_leS gx_le0))) (t_m_swap_66 hX hres hwr hK5 _ _ _ h)
    · have h := gx_ifn c1 h
      refine gx_iload_n hX (gx_dt dt_mi_m_swap 16 rfl) rfl ?_
      refine gx_if_ge hX (tgt := 66) (gx_dt dt_mi_m_swap 17 rfl) (by decide) (fun c2 => ?_) (fun c2 => ?_)
      · have h := gx_ifp c2 h
        exact gx_weak (gx_leS (gx_leS (gx_leS gx_le0))) (t_m_swap_66 hX hres hwr hK5 _ _ _ h)
      · have h := gx_ifn c2 h
        refine gx_aload_n hX (gx_dt dt_mi_m_swap 18 rfl) rfl ?_
        refine gx_iload_n hX (gx_dt dt_mi_m_swap 19 rfl) rfl ?_
        refine gx_iload_n hX (gx_dt dt_mi_m_swap 20 rfl) rfl ?_
        obtain ⟨r3, e_r3, h⟩ := gx_bd h
        refine gx_callVv hX (gx_dt dt_mi_m_swap 21 rfl) ln_D_209_m_changes mo_m_changes mv_m_changes (gx_rmb rfl) sh_m_0 ⟨_, _, rfl⟩ rfl (k_m_changes e_r3) rfl rfl (Nat.le_of_ble_eq_true rfl) ?_
        refine gx_aload_n hX (gx_dt dt_mi_m_swap 22 rfl) rfl ?_
        obtain ⟨r4, e_r4, h⟩ := gx_bd h
        refine gx_callVi hX (gx_dt dt_mi_m_swap 23 rfl) ln_D_203_m_isHeld mo_m_isHeld mv_m_isHeld (gx_rmb rfl) sh_m_0 ⟨_, _, rfl⟩ rfl (k_m_isHeld e_r4) rfl rfl (Nat.le_of_ble_eq_true rfl) ?_
        refine gx_if_eq hX (tgt := 51) (gx_dt dt_mi_m_swap 24 rfl) (by decide) (fun c5 => ?_) (fun c5 => ?_)
        · have h := gx_ifp c5 h
          refine gx_bipush hX (v := (-9)) (gx_dt dt_mi_m_swap 31 rfl) (by decide) ?_
          exact gx_weak (gx_leS (gx_leN (gx_leS (gx_leS gx_le0)))) (t_m_swap_53 hX hres hwr hK5 ih _ _ _ _ h)
        · have h := gx_ifn c5 h
          refine gx_bipush hX (v := 10) (gx_dt dt_mi_m_swap 25 rfl) (by decide) ?_
          refine gx_iload_n hX (gx_dt dt_mi_m_swap 26 rfl) rfl ?_
          refine gx_imul hX (gx_dt dt_mi_m_swap 27 rfl) ?_
          refine gx_iload_n hX (gx_dt dt_mi_m_swap 28 rfl) rfl ?_
          refine gx_iadd hX (gx_dt dt_mi_m_swap 29 rfl) ?_
          refine gx_goto hX (tgt := 53) (gx_dt dt_mi_m_swap 30 rfl) (by decide) ?_
          exact gx_weak (gx_leS (gx_leN (gx_leS (gx_leS gx_le0)))) (t_m_swap_53 hX hres hwr hK5 ih _ _ _ _ h)
theorem t_m_swap_5 {X : gx_X} (hX : gx_Ok X mi_m_swap) {R : Int32 × gx_Wd} (hres : gx_res X = some (.inl R.1)) (hwr : gx_wr X = R.2) : ∀ (n : Nat) (b1 : Int32) (b2 : Int32) (w : gx_Wd), m_swap_5 n b1 b2 w = some R → gx_G X mi_m_swap 5 [some (.inr 0), some (.inl b1), some (.inl b2)] [] w := by
  intro n
  induction n with
  | zero => intro b1 b2 w h; rw [m_swap_5] at h; cases h
  | succ n ih =>
    intro b1 b2 w h
    rw [m_swap_5] at h
    refine gx_iload_n hX (gx_dt dt_mi_m_swap 4 rfl) rfl ?_
    refine gx_aload_n hX (gx_dt dt_mi_m_swap 5 rfl) rfl ?_
    refine gx_geti hX fl_D_7 sh_m_0 rfl (gx_dt dt_mi_m_swap 6 rfl) ?_
    refine gx_ic_ge hX (tgt := 72) (gx_dt dt_mi_m_swap 7 rfl) (by decide) (fun c1 => ?_) (fun c1 => ?_)
    · have h := gx_ifp c1 h
      refine gx_iload_n hX (gx_dt dt_mi_m_swap 41 rfl) rfl ?_
      obtain rfl := Option.some.inj h
      exact gx_iret hX (gx_dt dt_mi_m_swap 42 rfl) rfl hres hwr
    · have h := gx_ifn c1 h
      refine gx_iload_n hX (gx_dt dt_mi_m_swap 8 rfl) rfl ?_
      refine gx_iconst hX (v := 1) (gx_dt dt_mi_m_swap 9 rfl) (by decide) ?_
      refine gx_iadd hX (gx_dt dt_mi_m_swap 10 rfl) ?_
      obtain ⟨v2, e_v2, h⟩ := gx_bd h
      refine gx_top e_v2 ?_
      refine gx_istore_n hX (ls' := [some (.inr 0), some (.inl b1), some (.inl b2), some (.inl v2)]) (gx_dt dt_mi_m_swap 11 rfl) (by decide) rfl ?_
      exact gx_weak (gx_leS (gx_leS (gx_leS (gx_leS gx_le0)))) (t_m_swap_17 hX hres hwr ih _ _ _ _ _ h)
theorem k_m_swap {w : gx_Wd} {R : Int32 × gx_Wd} (h : m_swap w = some R) : gx_MT mi_m_swap [.inr 0] w (some (.inl R.1)) R.2 := by
  refine gx_met (by decide +kernel) (Nat.le_of_ble_eq_true rfl) (fun X hX hres hwr => ?_)
  show gx_G X mi_m_swap 0 [some (.inr 0)] [] w
  rw [m_swap] at h
  refine gx_bipush hX (v := (-9)) (gx_dt dt_mi_m_swap 0 rfl) (by decide) ?_
  refine gx_istore_n hX (ls' := [some (.inr 0), some (.inl ((-9)))]) (gx_dt dt_mi_m_swap 1 rfl) (by decide) rfl ?_
  refine gx_iconst hX (v := 0) (gx_dt dt_mi_m_swap 2 rfl) (by decide) ?_
  refine gx_istore_n hX (ls' := [some (.inr 0), some (.inl ((-9))), some (.inl (0))]) (gx_dt dt_mi_m_swap 3 rfl) (by decide) rfl ?_
  exact gx_weak (gx_leS (gx_leS (gx_leS gx_le0))) (t_m_swap_5 hX hres hwr _ _ _ _ h)
-- EachBearsPillarModel.has(II)Z
def m_has (a1 : Int32) (a2 : Int32) (w : gx_Wd) : Option (Int32 × gx_Wd) :=
  if (a1 >>> (a2 &&& 31)) &&& 1 = 1 then
    some (1, w)
  else
    some (0, w)
theorem k_m_has {a1 : Int32} {a2 : Int32} {w : gx_Wd} {R : Int32 × gx_Wd} (h : m_has a1 a2 w = some R) : gx_MT mi_m_has [.inr 0, .inl a1, .inl a2] w (some (.inl R.1)) R.2 := by
  refine gx_met (by decide +kernel) (Nat.le_of_ble_eq_true rfl) (fun X hX hres hwr => ?_)
  show gx_G X mi_m_has 0 [some (.inr 0), some (.inl a1), some (.inl a2)] [] w
  rw [m_has] at h
  refine gx_iload_n hX (gx_dt dt_mi_m_has 0 rfl) rfl ?_
  refine gx_iload_n hX (gx_dt dt_mi_m_has 1 rfl) rfl ?_
  refine gx_ishr hX (gx_dt dt_mi_m_has 2 rfl) ?_
  refine gx_iconst hX (v := 1) (gx_dt dt_mi_m_has 3 rfl) (by decide) ?_
  refine gx_iand hX (gx_dt dt_mi_m_has 4 rfl) ?_
  refine gx_iconst hX (v := 1) (gx_dt dt_mi_m_has 5 rfl) (by decide) ?_
  refine gx_ic_ne hX (tgt := 13) (gx_dt dt_mi_m_has 6 rfl) (by decide) (fun c1 => ?_) (fun c1 => ?_)
  · have h := gx_ifn c1 h
    refine gx_iconst hX (v := 0) (gx_dt dt_mi_m_has 9 rfl) (by decide) ?_
    obtain rfl := Option.some.inj h
    exact gx_zret hX (gx_dt dt_mi_m_has 10 rfl) rfl rfl hres hwr
  · have h := gx_ifp c1 h
    refine gx_iconst hX (v := 1) (gx_dt dt_mi_m_has 7 rfl) (by decide) ?_
    refine gx_goto hX (tgt := 14) (gx_dt dt_mi_m_has 8 rfl) (by decide) ?_
    obtain rfl := Option.some.inj h
    exact gx_zret hX (gx_dt dt_mi_m_has 10 rfl) rfl rfl hres hwr
