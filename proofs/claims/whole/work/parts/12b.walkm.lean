-- EachBearsPillarModel.comesAll()I
def m_comesAll_7 : Nat → Int32 → gx_Wd → Option (Int32 × gx_Wd)
  | 0, _, _ => none
  | n + 1, b1, w =>
  if w 0 3 ≤ w 0 14 then
    some (b1, w)
  else
  (m_next w).bind fun r2 =>
  (m_takesStatement r2.2).bind fun r3 =>
  (m_comes r2.1 r3.2).bind fun r4 =>
  (some (b1 + 1)).bind fun v5 =>
  (m_comesAll_7 n) v5 r4
def m_comesAll (w : gx_Wd) : Option (Int32 × gx_Wd) :=
  (gx_put w 0 14 0).bind fun w1 =>
  m_comesAll_7 6000 0 w1
theorem t_m_comesAll_7 {X : gx_X} (hX : gx_Ok X mi_m_comesAll) {R : Int32 × gx_Wd} (hres : gx_res X = some (.inl R.1)) (hwr : gx_wr X = R.2) : ∀ (n : Nat) (b1 : Int32) (w : gx_Wd), m_comesAll_7 n b1 w = some R → gx_G X mi_m_comesAll 7 [some (.inr 0), some (.inl b1)] [] w := by
  intro n
  induction n with
  | zero => intro b1 w h; rw [m_comesAll_7] at h; cases h
  | succ n ih =>
    intro b1 w h
    rw [m_comesAll_7] at h
    refine gx_aload_n hX (gx_dt dt_mi_m_comesAll 5 rfl) rfl ?_
    refine gx_geti hX fl_D_53 sh_m_0 rfl (gx_dt dt_mi_m_comesAll 6 rfl) ?_
    refine gx_aload_n hX (gx_dt dt_mi_m_comesAll 7 rfl) rfl ?_
    refine gx_geti hX fl_D_19 sh_m_0 rfl (gx_dt dt_mi_m_comesAll 8 rfl) ?_
    refine gx_ic_ge hX (tgt := 39) (gx_dt dt_mi_m_comesAll 9 rfl) (by decide) (fun c1 => ?_) (fun c1 => ?_)
    · have h := gx_ifp c1 h
      refine gx_iload_n hX (gx_dt dt_mi_m_comesAll 21 rfl) rfl ?_
      obtain rfl := Option.some.inj h
      exact gx_iret hX (gx_dt dt_mi_m_comesAll 22 rfl) rfl hres hwr
    · have h := gx_ifn c1 h
      refine gx_aload_n hX (gx_dt dt_mi_m_comesAll 10 rfl) rfl ?_
      obtain ⟨r2, e_r2, h⟩ := gx_bd h
      refine gx_callVi hX (gx_dt dt_mi_m_comesAll 11 rfl) ln_D_125_m_next mo_m_next mv_m_next (gx_rmb rfl) sh_m_0 ⟨_, _, rfl⟩ rfl (k_m_next e_r2) rfl rfl (Nat.le_of_ble_eq_true rfl) ?_
      refine gx_istore_n hX (ls' := [some (.inr 0), some (.inl b1), some (.inl (r2.1))]) (gx_dt dt_mi_m_comesAll 12 rfl) (by decide) rfl ?_
      refine gx_aload_n hX (gx_dt dt_mi_m_comesAll 13 rfl) rfl ?_
      obtain ⟨r3, e_r3, h⟩ := gx_bd h
      refine gx_callVi hX (gx_dt dt_mi_m_comesAll 14 rfl) ln_D_153_m_takesStatement mo_m_takesStatement mv_m_takesStatement (gx_rmb rfl) sh_m_0 ⟨_, _, rfl⟩ rfl (k_m_takesStatement e_r3) rfl rfl (Nat.le_of_ble_eq_true rfl) ?_
      refine gx_istore_n hX (ls' := [some (.inr 0), some (.inl b1), some (.inl (r2.1)), some (.inl (r3.1))]) (gx_dt dt_mi_m_comesAll 15 rfl) (by decide) rfl ?_
      refine gx_aload_n hX (gx_dt dt_mi_m_comesAll 16 rfl) rfl ?_
      refine gx_iload_n hX (gx_dt dt_mi_m_comesAll 17 rfl) rfl ?_
      obtain ⟨r4, e_r4, h⟩ := gx_bd h
      refine gx_callVv hX (gx_dt dt_mi_m_comesAll 18 rfl) ln_D_159_m_comes mo_m_comes mv_m_comes (gx_rmb rfl) sh_m_0 ⟨_, _, rfl⟩ rfl (k_m_comes e_r4) rfl rfl (Nat.le_of_ble_eq_true rfl) ?_
      obtain ⟨v5, e_v5, h⟩ := gx_bd h
      refine gx_iinc hX (v := v5) (ls' := [some (.inr 0), some (.inl v5), some (.inl (r2.1)), some (.inl (r3.1))]) (gx_dt dt_mi_m_comesAll 19 rfl) rfl (gx_ii e_v5 (by decide)) (by decide) rfl ?_
      refine gx_goto hX (tgt := 7) (gx_dt dt_mi_m_comesAll 20 rfl) (by decide) ?_
      exact gx_weak (gx_leS (gx_leS gx_le0)) (ih _ _ h)
theorem k_m_comesAll {w : gx_Wd} {R : Int32 × gx_Wd} (h : m_comesAll w = some R) : gx_MT mi_m_comesAll [.inr 0] w (some (.inl R.1)) R.2 := by
  refine gx_met (by decide +kernel) (Nat.le_of_ble_eq_true rfl) (fun X hX hres hwr => ?_)
  show gx_G X mi_m_comesAll 0 [some (.inr 0)] [] w
  rw [m_comesAll] at h
  refine gx_aload_n hX (gx_dt dt_mi_m_comesAll 0 rfl) rfl ?_
  refine gx_iconst hX (v := 0) (gx_dt dt_mi_m_comesAll 1 rfl) (by decide) ?_
  obtain ⟨w1, e_w1, h⟩ := gx_bd h
  refine gx_putp hX fl_D_53 (pf_D_14 _) sh_m_0 rfl e_w1 (gx_dt dt_mi_m_comesAll 2 rfl) ?_
  refine gx_iconst hX (v := 0) (gx_dt dt_mi_m_comesAll 3 rfl) (by decide) ?_
  refine gx_istore_n hX (ls' := [some (.inr 0), some (.inl (0))]) (gx_dt dt_mi_m_comesAll 4 rfl) (by decide) rfl ?_
  exact gx_weak (gx_leS (gx_leS gx_le0)) (t_m_comesAll_7 hX hres hwr _ _ _ h)
-- EachBearsPillarModel.roof()I
def m_roof_46 (b1 : Int32) (w : gx_Wd) : Option (Int32 × gx_Wd) :=
  (gx_put w 0 3 0).bind fun w1 =>
  some (b1, w1)
def m_roof_45 (s0 : Int32) (w : gx_Wd) : Option (Int32 × gx_Wd) :=
  m_roof_46 s0 w
def m_roof_19 (s0 : Int32) (w : gx_Wd) : Option (Int32 × gx_Wd) :=
  if s0 = 0 then
    (m_wrongPlace w).bind fun r2 =>
    if 0 ≤ r2.1 then
      m_roof_45 ((-2000) - r2.1) r2.2
    else
    (m_comesAll r2.2).bind fun r4 =>
    m_roof_45 r4.1 r4.2
  else
    m_roof_46 s0 w
def m_roof (w : gx_Wd) : Option (Int32 × gx_Wd) :=
  (m_isText w).bind fun r1 =>
  if r1.1 = 0 then
    m_roof_19 ((-1000) - (r1.2 0 14)) r1.2
  else
  m_roof_19 0 r1.2
theorem t_m_roof_46 {X : gx_X} (hX : gx_Ok X mi_m_roof) {R : Int32 × gx_Wd} (hres : gx_res X = some (.inl R.1)) (hwr : gx_wr X = R.2) (b1 : Int32) (w : gx_Wd) (h : m_roof_46 b1 w = some R) : gx_G X mi_m_roof 46 [some (.inr 0), some (.inl b1)] [] w := by
  rw [m_roof_46] at h
  refine gx_aload_n hX (gx_dt dt_mi_m_roof 24 rfl) rfl ?_
  refine gx_iconst hX (v := 0) (gx_dt dt_mi_m_roof 25 rfl) (by decide) ?_
  obtain ⟨w1, e_w1, h⟩ := gx_bd h
  refine gx_putp hX fl_D_19 (pf_D_3 _) sh_m_0 rfl e_w1 (gx_dt dt_mi_m_roof 26 rfl) ?_
  refine gx_iload_n hX (gx_dt dt_mi_m_roof 27 rfl) rfl ?_
  obtain rfl := Option.some.inj h
  exact gx_iret hX (gx_dt dt_mi_m_roof 28 rfl) rfl hres hwr
theorem t_m_roof_45 {X : gx_X} (hX : gx_Ok X mi_m_roof) {R : Int32 × gx_Wd} (hres : gx_res X = some (.inl R.1)) (hwr : gx_wr X = R.2) (s0 : Int32) (w : gx_Wd) (h : m_roof_45 s0 w = some R) : gx_G X mi_m_roof 45 [some (.inr 0)] [.inl s0] w := by
  rw [m_roof_45] at h
  refine gx_istore_n hX (ls' := [some (.inr 0), some (.inl s0)]) (gx_dt dt_mi_m_roof 23 rfl) (by decide) rfl ?_
  exact gx_weak (gx_leS (gx_leS gx_le0)) (t_m_roof_46 hX hres hwr _ _ h)
theorem t_m_roof_19 {X : gx_X} (hX : gx_Ok X mi_m_roof) {R : Int32 × gx_Wd} (hres : gx_res X = some (.inl R.1)) (hwr : gx_wr X = R.2) (s0 : Int32) (w : gx_Wd) (h : m_roof_19 s0 w = some R) : gx_G X mi_m_roof 19 [some (.inr 0)] [.inl s0] w := by
  rw [m_roof_19] at h
  refine gx_istore_n hX (ls' := [some (.inr 0), some (.inl s0)]) (gx_dt dt_mi_m_roof 9 rfl) (by decide) rfl ?_
  refine gx_iload_n hX (gx_dt dt_mi_m_roof 10 rfl) rfl ?_
  refine gx_if_ne hX (tgt := 46) (gx_dt dt_mi_m_roof 11 rfl) (by decide) (fun c1 => ?_) (fun c1 => ?_)
  · have h := gx_ifn c1 h
    exact gx_weak (gx_leS (gx_leS gx_le0)) (t_m_roof_46 hX hres hwr _ _ h)
  · have h := gx_ifp c1 h
    refine gx_aload_n hX (gx_dt dt_mi_m_roof 12 rfl) rfl ?_
    obtain ⟨r2, e_r2, h⟩ := gx_bd h
    refine gx_callVi hX (gx_dt dt_mi_m_roof 13 rfl) ln_D_166_m_wrongPlace mo_m_wrongPlace mv_m_wrongPlace (gx_rmb rfl) sh_m_0 ⟨_, _, rfl⟩ rfl (k_m_wrongPlace e_r2) rfl rfl (Nat.le_of_ble_eq_true rfl) ?_
    refine gx_istore_n hX (ls' := [some (.inr 0), some (.inl s0), some (.inl (r2.1))]) (gx_dt dt_mi_m_roof 14 rfl) (by decide) rfl ?_
    refine gx_iload_n hX (gx_dt dt_mi_m_roof 15 rfl) rfl ?_
    refine gx_if_ge hX (tgt := 40) (gx_dt dt_mi_m_roof 16 rfl) (by decide) (fun c3 => ?_) (fun c3 => ?_)
    · have h := gx_ifp c3 h
      refine gx_sipush hX (v := (-2000)) (gx_dt dt_mi_m_roof 20 rfl) (by decide) ?_
      refine gx_iload_n hX (gx_dt dt_mi_m_roof 21 rfl) rfl ?_
      refine gx_isub hX (gx_dt dt_mi_m_roof 22 rfl) ?_
      exact gx_weak (gx_leS gx_le0) (t_m_roof_45 hX hres hwr _ _ h)
    · have h := gx_ifn c3 h
      refine gx_aload_n hX (gx_dt dt_mi_m_roof 17 rfl) rfl ?_
      obtain ⟨r4, e_r4, h⟩ := gx_bd h
      refine gx_callVi hX (gx_dt dt_mi_m_roof 18 rfl) ln_D_169_m_comesAll mo_m_comesAll mv_m_comesAll (gx_rmb rfl) sh_m_0 ⟨_, _, rfl⟩ rfl (k_m_comesAll e_r4) rfl rfl (Nat.le_of_ble_eq_true rfl) ?_
      refine gx_goto hX (tgt := 45) (gx_dt dt_mi_m_roof 19 rfl) (by decide) ?_
      exact gx_weak (gx_leS gx_le0) (t_m_roof_45 hX hres hwr _ _ h)
theorem k_m_roof {w : gx_Wd} {R : Int32 × gx_Wd} (h : m_roof w = some R) : gx_MT mi_m_roof [.inr 0] w (some (.inl R.1)) R.2 := by
  refine gx_met (by decide +kernel) (Nat.le_of_ble_eq_true rfl) (fun X hX hres hwr => ?_)
  show gx_G X mi_m_roof 0 [some (.inr 0)] [] w
  rw [m_roof] at h
  refine gx_aload_n hX (gx_dt dt_mi_m_roof 0 rfl) rfl ?_
  obtain ⟨r1, e_r1, h⟩ := gx_bd h
  refine gx_callVi hX (gx_dt dt_mi_m_roof 1 rfl) ln_D_163_m_isText mo_m_isText mv_m_isText (gx_rmb rfl) sh_m_0 ⟨_, _, rfl⟩ rfl (k_m_isText e_r1) rfl rfl (Nat.le_of_ble_eq_true rfl) ?_
  refine gx_if_eq hX (tgt := 11) (gx_dt dt_mi_m_roof 2 rfl) (by decide) (fun c2 => ?_) (fun c2 => ?_)
  · have h := gx_ifp c2 h
    refine gx_sipush hX (v := (-1000)) (gx_dt dt_mi_m_roof 5 rfl) (by decide) ?_
    refine gx_aload_n hX (gx_dt dt_mi_m_roof 6 rfl) rfl ?_
    refine gx_geti hX fl_D_53 sh_m_0 rfl (gx_dt dt_mi_m_roof 7 rfl) ?_
    refine gx_isub hX (gx_dt dt_mi_m_roof 8 rfl) ?_
    exact gx_weak (gx_leS gx_le0) (t_m_roof_19 hX hres hwr _ _ h)
  · have h := gx_ifn c2 h
    refine gx_iconst hX (v := 0) (gx_dt dt_mi_m_roof 3 rfl) (by decide) ?_
    refine gx_goto hX (tgt := 19) (gx_dt dt_mi_m_roof 4 rfl) (by decide) ?_
    exact gx_weak (gx_leS gx_le0) (t_m_roof_19 hX hres hwr _ _ h)
-- EachBearsPillarModel.isBearer(I)Z
def m_isBearer (a1 : Int32) (w : gx_Wd) : Option (Int32 × gx_Wd) :=
  (m_in a1 0 ((w 0 0) - 1) w).bind fun r1 =>
  if r1.1 = 0 ∨ r1.1 = 1 then some (r1.1, r1.2) else none
theorem k_m_isBearer {a1 : Int32} {w : gx_Wd} {R : Int32 × gx_Wd} (h : m_isBearer a1 w = some R) : gx_MT mi_m_isBearer [.inr 0, .inl a1] w (some (.inl R.1)) R.2 := by
  refine gx_met (by decide +kernel) (Nat.le_of_ble_eq_true rfl) (fun X hX hres hwr => ?_)
  show gx_G X mi_m_isBearer 0 [some (.inr 0), some (.inl a1)] [] w
  rw [m_isBearer] at h
  refine gx_aload_n hX (gx_dt dt_mi_m_isBearer 0 rfl) rfl ?_
  refine gx_iload_n hX (gx_dt dt_mi_m_isBearer 1 rfl) rfl ?_
  refine gx_iconst hX (v := 0) (gx_dt dt_mi_m_isBearer 2 rfl) (by decide) ?_
  refine gx_aload_n hX (gx_dt dt_mi_m_isBearer 3 rfl) rfl ?_
  refine gx_geti hX fl_D_7 sh_m_0 rfl (gx_dt dt_mi_m_isBearer 4 rfl) ?_
  refine gx_iconst hX (v := 1) (gx_dt dt_mi_m_isBearer 5 rfl) (by decide) ?_
  refine gx_isub hX (gx_dt dt_mi_m_isBearer 6 rfl) ?_
  obtain ⟨r1, e_r1, h⟩ := gx_bd h
  refine gx_callVi hX (gx_dt dt_mi_m_isBearer 7 rfl) ln_D_117_m_in mo_m_in mv_m_in (gx_rmb rfl) sh_m_0 ⟨_, _, rfl⟩ rfl (k_m_in e_r1) rfl rfl (Nat.le_of_ble_eq_true rfl) ?_
  obtain ⟨c, h⟩ := gx_01 h
  obtain rfl := Option.some.inj h
  exact gx_zret hX (gx_dt dt_mi_m_isBearer 8 rfl) rfl (gx_nar c) hres hwr
-- EachBearsPillarModel.topOf(I)I
def m_topOf (a1 : Int32) (w : gx_Wd) : Option (Int32 × gx_Wd) :=
  (gx_ald sh_m w 6 ((w 0 1) + a1)).bind fun v1 =>
  (gx_ald sh_m w 10 a1).bind fun v2 =>
  (gx_ald sh_m w 3 v2).bind fun v3 =>
  (gx_ald sh_m w 10 a1).bind fun v4 =>
  (gx_ald sh_m w 4 v4).bind fun v5 =>
  some ((v1 + v3) + v5, w)
theorem k_m_topOf {a1 : Int32} {w : gx_Wd} {R : Int32 × gx_Wd} (h : m_topOf a1 w = some R) : gx_MT mi_m_topOf [.inr 0, .inl a1] w (some (.inl R.1)) R.2 := by
  refine gx_met (by decide +kernel) (Nat.le_of_ble_eq_true rfl) (fun X hX hres hwr => ?_)
  show gx_G X mi_m_topOf 0 [some (.inr 0), some (.inl a1)] [] w
  rw [m_topOf] at h
  refine gx_aload_n hX (gx_dt dt_mi_m_topOf 0 rfl) rfl ?_
  refine gx_getr hX fl_D_41 sh_m_0 rfl (gx_dt dt_mi_m_topOf 1 rfl) ?_
  refine gx_aload_n hX (gx_dt dt_mi_m_topOf 2 rfl) rfl ?_
  refine gx_geti hX fl_D_13 sh_m_0 rfl (gx_dt dt_mi_m_topOf 3 rfl) ?_
  refine gx_iload_n hX (gx_dt dt_mi_m_topOf 4 rfl) rfl ?_
  refine gx_iadd hX (gx_dt dt_mi_m_topOf 5 rfl) ?_
  obtain ⟨v1, e_v1, h⟩ := gx_bd h
  refine gx_iald hX e_v1 (gx_dt dt_mi_m_topOf 6 rfl) ?_
  refine gx_aload_n hX (gx_dt dt_mi_m_topOf 7 rfl) rfl ?_
  refine gx_getr hX fl_D_32 sh_m_0 rfl (gx_dt dt_mi_m_topOf 8 rfl) ?_
  refine gx_aload_n hX (gx_dt dt_mi_m_topOf 9 rfl) rfl ?_
  refine gx_getr hX fl_D_65 sh_m_0 rfl (gx_dt dt_mi_m_topOf 10 rfl) ?_
  refine gx_iload_n hX (gx_dt dt_mi_m_topOf 11 rfl) rfl ?_
  obtain ⟨v2, e_v2, h⟩ := gx_bd h
  refine gx_iald hX e_v2 (gx_dt dt_mi_m_topOf 12 rfl) ?_
  obtain ⟨v3, e_v3, h⟩ := gx_bd h
  refine gx_iald hX e_v3 (gx_dt dt_mi_m_topOf 13 rfl) ?_
  refine gx_iadd hX (gx_dt dt_mi_m_topOf 14 rfl) ?_
  refine gx_aload_n hX (gx_dt dt_mi_m_topOf 15 rfl) rfl ?_
  refine gx_getr hX fl_D_35 sh_m_0 rfl (gx_dt dt_mi_m_topOf 16 rfl) ?_
  refine gx_aload_n hX (gx_dt dt_mi_m_topOf 17 rfl) rfl ?_
  refine gx_getr hX fl_D_65 sh_m_0 rfl (gx_dt dt_mi_m_topOf 18 rfl) ?_
  refine gx_iload_n hX (gx_dt dt_mi_m_topOf 19 rfl) rfl ?_
  obtain ⟨v4, e_v4, h⟩ := gx_bd h
  refine gx_iald hX e_v4 (gx_dt dt_mi_m_topOf 20 rfl) ?_
  obtain ⟨v5, e_v5, h⟩ := gx_bd h
  refine gx_iald hX e_v5 (gx_dt dt_mi_m_topOf 21 rfl) ?_
  refine gx_iadd hX (gx_dt dt_mi_m_topOf 22 rfl) ?_
  obtain rfl := Option.some.inj h
  exact gx_iret hX (gx_dt dt_mi_m_topOf 23 rfl) rfl hres hwr
-- EachBearsPillarModel.bears(I)Z
def m_bears (a1 : Int32) (w : gx_Wd) : Option (Int32 × gx_Wd) :=
  (gx_ald sh_m w 10 a1).bind fun v1 =>
  (gx_ald sh_m w 1 v1).bind fun v2 =>
  if v2 = 3 then
    some (0, w)
  else
  (gx_ald sh_m w 10 a1).bind fun v4 =>
  if v4 = w 0 19 then
    some (0, w)
  else
  (m_topOf a1 w).bind fun r6 =>
  if r6.1 < r6.2 0 2 then
    some (0, r6.2)
  else
  some (1, r6.2)
theorem k_m_bears {a1 : Int32} {w : gx_Wd} {R : Int32 × gx_Wd} (h : m_bears a1 w = some R) : gx_MT mi_m_bears [.inr 0, .inl a1] w (some (.inl R.1)) R.2 := by
  refine gx_met (by decide +kernel) (Nat.le_of_ble_eq_true rfl) (fun X hX hres hwr => ?_)
  show gx_G X mi_m_bears 0 [some (.inr 0), some (.inl a1)] [] w
  rw [m_bears] at h
  refine gx_aload_n hX (gx_dt dt_mi_m_bears 0 rfl) rfl ?_
  refine gx_getr hX fl_D_25 sh_m_0 rfl (gx_dt dt_mi_m_bears 1 rfl) ?_
  refine gx_aload_n hX (gx_dt dt_mi_m_bears 2 rfl) rfl ?_
  refine gx_getr hX fl_D_65 sh_m_0 rfl (gx_dt dt_mi_m_bears 3 rfl) ?_
  refine gx_iload_n hX (gx_dt dt_mi_m_bears 4 rfl) rfl ?_
  obtain ⟨v1, e_v1, h⟩ := gx_bd h
  refine gx_iald hX e_v1 (gx_dt dt_mi_m_bears 5 rfl) ?_
  obtain ⟨v2, e_v2, h⟩ := gx_bd h
  refine gx_iald hX e_v2 (gx_dt dt_mi_m_bears 6 rfl) ?_
  refine gx_iconst hX (v := 3) (gx_dt dt_mi_m_bears 7 rfl) (by decide) ?_
  refine gx_ic_eq hX (tgt := 44) (gx_dt dt_mi_m_bears 8 rfl) (by decide) (fun c3 => ?_) (fun c3 => ?_)
  · have h := gx_ifp c3 h
    refine gx_iconst hX (v := 0) (gx_dt dt_mi_m_bears 24 rfl) (by decide) ?_
    obtain rfl := Option.some.inj h
    exact gx_zret hX (gx_dt dt_mi_m_bears 25 rfl) rfl rfl hres hwr
  · have h := gx_ifn c3 h
    refine gx_aload_n hX (gx_dt dt_mi_m_bears 9 rfl) rfl ?_
    refine gx_getr hX fl_D_65 sh_m_0 rfl (gx_dt dt_mi_m_bears 10 rfl) ?_
    refine gx_iload_n hX (gx_dt dt_mi_m_bears 11 rfl) rfl ?_
    obtain ⟨v4, e_v4, h⟩ := gx_bd h
    refine gx_iald hX e_v4 (gx_dt dt_mi_m_bears 12 rfl) ?_
    refine gx_aload_n hX (gx_dt dt_mi_m_bears 13 rfl) rfl ?_
    refine gx_geti hX fl_D_68 sh_m_0 rfl (gx_dt dt_mi_m_bears 14 rfl) ?_
    refine gx_ic_eq hX (tgt := 44) (gx_dt dt_mi_m_bears 15 rfl) (by decide) (fun c5 => ?_) (fun c5 => ?_)
    · have h := gx_ifp c5 h
      refine gx_iconst hX (v := 0) (gx_dt dt_mi_m_bears 24 rfl) (by decide) ?_
      obtain rfl := Option.some.inj h
      exact gx_zret hX (gx_dt dt_mi_m_bears 25 rfl) rfl rfl hres hwr
    · have h := gx_ifn c5 h
      refine gx_aload_n hX (gx_dt dt_mi_m_bears 16 rfl) rfl ?_
      refine gx_iload_n hX (gx_dt dt_mi_m_bears 17 rfl) rfl ?_
      obtain ⟨r6, e_r6, h⟩ := gx_bd h
      refine gx_callVi hX (gx_dt dt_mi_m_bears 18 rfl) ln_D_172_m_topOf mo_m_topOf mv_m_topOf (gx_rmb rfl) sh_m_0 ⟨_, _, rfl⟩ rfl (k_m_topOf e_r6) rfl rfl (Nat.le_of_ble_eq_true rfl) ?_
      refine gx_aload_n hX (gx_dt dt_mi_m_bears 19 rfl) rfl ?_
      refine gx_geti hX fl_D_16 sh_m_0 rfl (gx_dt dt_mi_m_bears 20 rfl) ?_
      refine gx_ic_lt hX (tgt := 44) (gx_dt dt_mi_m_bears 21 rfl) (by decide) (fun c7 => ?_) (fun c7 => ?_)
      · have h := gx_ifp c7 h
        refine gx_iconst hX (v := 0) (gx_dt dt_mi_m_bears 24 rfl) (by decide) ?_
        obtain rfl := Option.some.inj h
        exact gx_zret hX (gx_dt dt_mi_m_bears 25 rfl) rfl rfl hres hwr
      · have h := gx_ifn c7 h
        refine gx_iconst hX (v := 1) (gx_dt dt_mi_m_bears 22 rfl) (by decide) ?_
        refine gx_goto hX (tgt := 45) (gx_dt dt_mi_m_bears 23 rfl) (by decide) ?_
        obtain rfl := Option.some.inj h
        exact gx_zret hX (gx_dt dt_mi_m_bears 25 rfl) rfl rfl hres hwr
-- EachBearsPillarModel.mightOf(I)I
def m_mightOf_31 (b1 : Int32) (b2 : Int32) (s0 : Int32) (w : gx_Wd) : Option (Int32 × gx_Wd) :=
  (gx_ald sh_m w 10 b1).bind fun v1 =>
  (gx_ald sh_m w 1 v1).bind fun v2 =>
  if v2 = 1 then
    some (s0 / 2, w)
  else
  if v2 = 2 then
    some (s0 * 2, w)
  else
  if v2 = 4 then
    if 3 ≤ s0 then
      some (s0 - 3, w)
    else
    some (0, w)
  else
  if v2 = 5 then
    some (b2 * 2, w)
  else
  some (s0, w)
def m_mightOf (a1 : Int32) (w : gx_Wd) : Option (Int32 × gx_Wd) :=
  (gx_ald sh_m w 10 a1).bind fun v1 =>
  (gx_ald sh_m w 2 v1).bind fun v2 =>
  (m_topOf a1 w).bind fun r3 =>
  if r3.1 ≤ r3.2 0 2 then
    m_mightOf_31 a1 v2 v2 r3.2
  else
  m_mightOf_31 a1 v2 (v2 / 2) r3.2
theorem t_m_mightOf_31 {X : gx_X} (hX : gx_Ok X mi_m_mightOf) {R : Int32 × gx_Wd} (hres : gx_res X = some (.inl R.1)) (hwr : gx_wr X = R.2) (b1 : Int32) (b2 : Int32) (s0 : Int32) (w : gx_Wd) (h : m_mightOf_31 b1 b2 s0 w = some R) : gx_G X mi_m_mightOf 31 [some (.inr 0), some (.inl b1), some (.inl b2)] [.inl s0] w := by
  rw [m_mightOf_31] at h
  refine gx_istore_n hX (ls' := [some (.inr 0), some (.inl b1), some (.inl b2), some (.inl s0)]) (gx_dt dt_mi_m_mightOf 19 rfl) (by decide) rfl ?_
  refine gx_aload_n hX (gx_dt dt_mi_m_mightOf 20 rfl) rfl ?_
  refine gx_getr hX fl_D_25 sh_m_0 rfl (gx_dt dt_mi_m_mightOf 21 rfl) ?_
  refine gx_aload_n hX (gx_dt dt_mi_m_mightOf 22 rfl) rfl ?_
  refine gx_getr hX fl_D_65 sh_m_0 rfl (gx_dt dt_mi_m_mightOf 23 rfl) ?_
  refine gx_iload_n hX (gx_dt dt_mi_m_mightOf 24 rfl) rfl ?_
  obtain ⟨v1, e_v1, h⟩ := gx_bd h
  refine gx_iald hX e_v1 (gx_dt dt_mi_m_mightOf 25 rfl) ?_
  obtain ⟨v2, e_v2, h⟩ := gx_bd h
  refine gx_iald hX e_v2 (gx_dt dt_mi_m_mightOf 26 rfl) ?_
  by_cases c3 : v2 = 1
  · have h := gx_ifp c3 h
    refine gx_tabIn hX (off := 33) (tgt := 76) (gx_dt dt_mi_m_mightOf 27 rfl) (by rw [c3]; decide) (by rw [c3]; decide) (by rw [c3]; rfl) (by decide) ?_
    refine gx_iload_n hX (gx_dt dt_mi_m_mightOf 28 rfl) rfl ?_
    refine gx_iconst hX (v := 2) (gx_dt dt_mi_m_mightOf 29 rfl) (by decide) ?_
    refine gx_idiv hX (gx_dt dt_mi_m_mightOf 30 rfl) (by decide) ?_
    obtain rfl := Option.some.inj h
    exact gx_iret hX (gx_dt dt_mi_m_mightOf 31 rfl) rfl hres hwr
  have h := gx_ifn c3 h
  by_cases c4 : v2 = 2
  · have h := gx_ifp c4 h
    refine gx_tabIn hX (off := 37) (tgt := 80) (gx_dt dt_mi_m_mightOf 27 rfl) (by rw [c4]; decide) (by rw [c4]; decide) (by rw [c4]; rfl) (by decide) ?_
    refine gx_iload_n hX (gx_dt dt_mi_m_mightOf 32 rfl) rfl ?_
    refine gx_iconst hX (v := 2) (gx_dt dt_mi_m_mightOf 33 rfl) (by decide) ?_
    refine gx_imul hX (gx_dt dt_mi_m_mightOf 34 rfl) ?_
    obtain rfl := Option.some.inj h
    exact gx_iret hX (gx_dt dt_mi_m_mightOf 35 rfl) rfl hres hwr
  have h := gx_ifn c4 h
  by_cases c5 : v2 = 4
  · have h := gx_ifp c5 h
    refine gx_tabIn hX (off := 41) (tgt := 84) (gx_dt dt_mi_m_mightOf 27 rfl) (by rw [c5]; decide) (by rw [c5]; decide) (by rw [c5]; rfl) (by decide) ?_
    refine gx_iload_n hX (gx_dt dt_mi_m_mightOf 36 rfl) rfl ?_
    refine gx_iconst hX (v := 3) (gx_dt dt_mi_m_mightOf 37 rfl) (by decide) ?_
    refine gx_ic_ge hX (tgt := 93) (gx_dt dt_mi_m_mightOf 38 rfl) (by decide) (fun c6 => ?_) (fun c6 => ?_)
    · have h := gx_ifp c6 h
      refine gx_iload_n hX (gx_dt dt_mi_m_mightOf 41 rfl) rfl ?_
      refine gx_iconst hX (v := 3) (gx_dt dt_mi_m_mightOf 42 rfl) (by decide) ?_
      refine gx_isub hX (gx_dt dt_mi_m_mightOf 43 rfl) ?_
      obtain rfl := Option.some.inj h
      exact gx_iret hX (gx_dt dt_mi_m_mightOf 44 rfl) rfl hres hwr
    · have h := gx_ifn c6 h
      refine gx_iconst hX (v := 0) (gx_dt dt_mi_m_mightOf 39 rfl) (by decide) ?_
      refine gx_goto hX (tgt := 96) (gx_dt dt_mi_m_mightOf 40 rfl) (by decide) ?_
      obtain rfl := Option.some.inj h
      exact gx_iret hX (gx_dt dt_mi_m_mightOf 44 rfl) rfl hres hwr
  have h := gx_ifn c5 h
  by_cases c7 : v2 = 5
  · have h := gx_ifp c7 h
    refine gx_tabIn hX (off := 54) (tgt := 97) (gx_dt dt_mi_m_mightOf 27 rfl) (by rw [c7]; decide) (by rw [c7]; decide) (by rw [c7]; rfl) (by decide) ?_
    refine gx_iload_n hX (gx_dt dt_mi_m_mightOf 45 rfl) rfl ?_
    refine gx_iconst hX (v := 2) (gx_dt dt_mi_m_mightOf 46 rfl) (by decide) ?_
    refine gx_imul hX (gx_dt dt_mi_m_mightOf 47 rfl) ?_
    obtain rfl := Option.some.inj h
    exact gx_iret hX (gx_dt dt_mi_m_mightOf 48 rfl) rfl hres hwr
  have h := gx_ifn c7 h
  refine gx_tabD hX (tgt := 101) (gx_dt dt_mi_m_mightOf 27 rfl) (gx_tdC (Or.inr (lv_neT c3 rfl)) (gx_tdC (Or.inr (lv_neT c4 rfl)) (gx_tdC (Or.inl rfl) (gx_tdC (Or.inr (lv_neT c5 rfl)) (gx_tdC (Or.inr (lv_neT c7 rfl)) gx_td0))))) (by decide) (by decide) ?_
  refine gx_iload_n hX (gx_dt dt_mi_m_mightOf 49 rfl) rfl ?_
  obtain rfl := Option.some.inj h
  exact gx_iret hX (gx_dt dt_mi_m_mightOf 50 rfl) rfl hres hwr
theorem k_m_mightOf {a1 : Int32} {w : gx_Wd} {R : Int32 × gx_Wd} (h : m_mightOf a1 w = some R) : gx_MT mi_m_mightOf [.inr 0, .inl a1] w (some (.inl R.1)) R.2 := by
  refine gx_met (by decide +kernel) (Nat.le_of_ble_eq_true rfl) (fun X hX hres hwr => ?_)
  show gx_G X mi_m_mightOf 0 [some (.inr 0), some (.inl a1)] [] w
  rw [m_mightOf] at h
  refine gx_aload_n hX (gx_dt dt_mi_m_mightOf 0 rfl) rfl ?_
  refine gx_getr hX fl_D_29 sh_m_0 rfl (gx_dt dt_mi_m_mightOf 1 rfl) ?_
  refine gx_aload_n hX (gx_dt dt_mi_m_mightOf 2 rfl) rfl ?_
  refine gx_getr hX fl_D_65 sh_m_0 rfl (gx_dt dt_mi_m_mightOf 3 rfl) ?_
  refine gx_iload_n hX (gx_dt dt_mi_m_mightOf 4 rfl) rfl ?_
  obtain ⟨v1, e_v1, h⟩ := gx_bd h
  refine gx_iald hX e_v1 (gx_dt dt_mi_m_mightOf 5 rfl) ?_
  obtain ⟨v2, e_v2, h⟩ := gx_bd h
  refine gx_iald hX e_v2 (gx_dt dt_mi_m_mightOf 6 rfl) ?_
  refine gx_istore_n hX (ls' := [some (.inr 0), some (.inl a1), some (.inl v2)]) (gx_dt dt_mi_m_mightOf 7 rfl) (by decide) rfl ?_
  refine gx_aload_n hX (gx_dt dt_mi_m_mightOf 8 rfl) rfl ?_
  refine gx_iload_n hX (gx_dt dt_mi_m_mightOf 9 rfl) rfl ?_
  obtain ⟨r3, e_r3, h⟩ := gx_bd h
  refine gx_callVi hX (gx_dt dt_mi_m_mightOf 10 rfl) ln_D_172_m_topOf mo_m_topOf mv_m_topOf (gx_rmb rfl) sh_m_0 ⟨_, _, rfl⟩ rfl (k_m_topOf e_r3) rfl rfl (Nat.le_of_ble_eq_true rfl) ?_
  refine gx_aload_n hX (gx_dt dt_mi_m_mightOf 11 rfl) rfl ?_
  refine gx_geti hX fl_D_16 sh_m_0 rfl (gx_dt dt_mi_m_mightOf 12 rfl) ?_
  refine gx_ic_le hX (tgt := 30) (gx_dt dt_mi_m_mightOf 13 rfl) (by decide) (fun c4 => ?_) (fun c4 => ?_)
  · have h := gx_ifp c4 h
    refine gx_iload_n hX (gx_dt dt_mi_m_mightOf 18 rfl) rfl ?_
    exact gx_weak (gx_leS (gx_leS (gx_leS gx_le0))) (t_m_mightOf_31 hX hres hwr _ _ _ _ h)
  · have h := gx_ifn c4 h
    refine gx_iload_n hX (gx_dt dt_mi_m_mightOf 14 rfl) rfl ?_
    refine gx_iconst hX (v := 2) (gx_dt dt_mi_m_mightOf 15 rfl) (by decide) ?_
    refine gx_idiv hX (gx_dt dt_mi_m_mightOf 16 rfl) (by decide) ?_
    refine gx_goto hX (tgt := 31) (gx_dt dt_mi_m_mightOf 17 rfl) (by decide) ?_
    exact gx_weak (gx_leS (gx_leS (gx_leS gx_le0))) (t_m_mightOf_31 hX hres hwr _ _ _ _ h)
-- EachBearsPillarModel.bearer(II)I
def m_bearer (a1 : Int32) (a2 : Int32) (w : gx_Wd) : Option (Int32 × gx_Wd) :=
  (m_isBearer a1 w).bind fun r1 =>
  if r1.1 = 0 then
    (m_no (-1) r1.2).bind fun r24 =>
    some (r24.1, r24.2)
  else
    if a2 = 0 then
      (gx_ald sh_m r1.2 1 a1).bind fun v4 =>
      some (v4, r1.2)
    else
    if a2 = 1 then
      (gx_ald sh_m r1.2 2 a1).bind fun v6 =>
      some (v6, r1.2)
    else
    if a2 = 2 then
      (gx_ald sh_m r1.2 3 a1).bind fun v8 =>
      some (v8, r1.2)
    else
    if a2 = 3 then
      (gx_ald sh_m r1.2 4 a1).bind fun v10 =>
      some (v10, r1.2)
    else
    if a2 = 4 then
      (m_topOf a1 r1.2).bind fun r12 =>
      some (r12.1, r12.2)
    else
    if a2 = 5 then
      (m_bears a1 r1.2).bind fun r14 =>
      if r14.1 = 0 then
        some (0, r14.2)
      else
      some (1, r14.2)
    else
    if a2 = 6 then
      (m_bears a1 r1.2).bind fun r17 =>
      if r17.1 = 0 then
        some (0, r17.2)
      else
      (m_topOf a1 r17.2).bind fun r19 =>
      if r19.1 ≤ r19.2 0 2 then
        some (0, r19.2)
      else
      some (1, r19.2)
    else
    if a2 = 7 then
      (m_mightOf a1 r1.2).bind fun r22 =>
      some (r22.1, r22.2)
    else
    (m_no (-2) r1.2).bind fun r23 =>
    some (r23.1, r23.2)
theorem k_m_bearer {a1 : Int32} {a2 : Int32} {w : gx_Wd} {R : Int32 × gx_Wd} (h : m_bearer a1 a2 w = some R) : gx_MT mi_m_bearer [.inr 0, .inl a1, .inl a2] w (some (.inl R.1)) R.2 := by
  refine gx_met (by decide +kernel) (Nat.le_of_ble_eq_true rfl) (fun X hX hres hwr => ?_)
  show gx_G X mi_m_bearer 0 [some (.inr 0), some (.inl a1), some (.inl a2)] [] w
  rw [m_bearer] at h
  refine gx_aload_n hX (gx_dt dt_mi_m_bearer 0 rfl) rfl ?_
  refine gx_iload_n hX (gx_dt dt_mi_m_bearer 1 rfl) rfl ?_
  obtain ⟨r1, e_r1, h⟩ := gx_bd h
  refine gx_callVi hX (gx_dt dt_mi_m_bearer 2 rfl) ln_D_197_m_isBearer mo_m_isBearer mv_m_isBearer (gx_rmb rfl) sh_m_0 ⟨_, _, rfl⟩ rfl (k_m_isBearer e_r1) rfl rfl (Nat.le_of_ble_eq_true rfl) ?_
  refine gx_if_ne hX (tgt := 14) (gx_dt dt_mi_m_bearer 3 rfl) (by decide) (fun c2 => ?_) (fun c2 => ?_)
  · have h := gx_ifn c2 h
    refine gx_iload_n hX (gx_dt dt_mi_m_bearer 8 rfl) rfl ?_
    by_cases c3 : a2 = 0
    · have h := gx_ifp c3 h
      refine gx_tabIn hX (off := 45) (tgt := 60) (gx_dt dt_mi_m_bearer 9 rfl) (by rw [c3]; decide) (by rw [c3]; decide) (by rw [c3]; rfl) (by decide) ?_
      refine gx_aload_n hX (gx_dt dt_mi_m_bearer 10 rfl) rfl ?_
      refine gx_getr hX fl_D_25 sh_m_0 rfl (gx_dt dt_mi_m_bearer 11 rfl) ?_
      refine gx_iload_n hX (gx_dt dt_mi_m_bearer 12 rfl) rfl ?_
      obtain ⟨v4, e_v4, h⟩ := gx_bd h
      refine gx_iald hX e_v4 (gx_dt dt_mi_m_bearer 13 rfl) ?_
      obtain rfl := Option.some.inj h
      exact gx_iret hX (gx_dt dt_mi_m_bearer 14 rfl) rfl hres hwr
    have h := gx_ifn c3 h
    by_cases c5 : a2 = 1
    · have h := gx_ifp c5 h
      refine gx_tabIn hX (off := 52) (tgt := 67) (gx_dt dt_mi_m_bearer 9 rfl) (by rw [c5]; decide) (by rw [c5]; decide) (by rw [c5]; rfl) (by decide) ?_
      refine gx_aload_n hX (gx_dt dt_mi_m_bearer 15 rfl) rfl ?_
      refine gx_getr hX fl_D_29 sh_m_0 rfl (gx_dt dt_mi_m_bearer 16 rfl) ?_
      refine gx_iload_n hX (gx_dt dt_mi_m_bearer 17 rfl) rfl ?_
      obtain ⟨v6, e_v6, h⟩ := gx_bd h
      refine gx_iald hX e_v6 (gx_dt dt_mi_m_bearer 18 rfl) ?_
      obtain rfl := Option.some.inj h
      exact gx_iret hX (gx_dt dt_mi_m_bearer 19 rfl) rfl hres hwr
    have h := gx_ifn c5 h
    by_cases c7 : a2 = 2
    · have h := gx_ifp c7 h
      refine gx_tabIn hX (off := 59) (tgt := 74) (gx_dt dt_mi_m_bearer 9 rfl) (by rw [c7]; decide) (by rw [c7]; decide) (by rw [c7]; rfl) (by decide) ?_
      refine gx_aload_n hX (gx_dt dt_mi_m_bearer 20 rfl) rfl ?_
      refine gx_getr hX fl_D_32 sh_m_0 rfl (gx_dt dt_mi_m_bearer 21 rfl) ?_
      refine gx_iload_n hX (gx_dt dt_mi_m_bearer 22 rfl) rfl ?_
      obtain ⟨v8, e_v8, h⟩ := gx_bd h
      refine gx_iald hX e_v8 (gx_dt dt_mi_m_bearer 23 rfl) ?_
      obtain rfl := Option.some.inj h
      exact gx_iret hX (gx_dt dt_mi_m_bearer 24 rfl) rfl hres hwr
    have h := gx_ifn c7 h
    by_cases c9 : a2 = 3
    · have h := gx_ifp c9 h
      refine gx_tabIn hX (off := 66) (tgt := 81) (gx_dt dt_mi_m_bearer 9 rfl) (by rw [c9]; decide) (by rw [c9]; decide) (by rw [c9]; rfl) (by decide) ?_
      refine gx_aload_n hX (gx_dt dt_mi_m_bearer 25 rfl) rfl ?_
      refine gx_getr hX fl_D_35 sh_m_0 rfl (gx_dt dt_mi_m_bearer 26 rfl) ?_
      refine gx_iload_n hX (gx_dt dt_mi_m_bearer 27 rfl) rfl ?_
      obtain ⟨v10, e_v10, h⟩ := gx_bd h
      refine gx_iald hX e_v10 (gx_dt dt_mi_m_bearer 28 rfl) ?_
      obtain rfl := Option.some.inj h
      exact gx_iret hX (gx_dt dt_mi_m_bearer 29 rfl) rfl hres hwr
    have h := gx_ifn c9 h
    by_cases c11 : a2 = 4
    · have h := gx_ifp c11 h
      refine gx_tabIn hX (off := 73) (tgt := 88) (gx_dt dt_mi_m_bearer 9 rfl) (by rw [c11]; decide) (by rw [c11]; decide) (by rw [c11]; rfl) (by decide) ?_
      refine gx_aload_n hX (gx_dt dt_mi_m_bearer 30 rfl) rfl ?_
      refine gx_iload_n hX (gx_dt dt_mi_m_bearer 31 rfl) rfl ?_
      obtain ⟨r12, e_r12, h⟩ := gx_bd h
      refine gx_callVi hX (gx_dt dt_mi_m_bearer 32 rfl) ln_D_172_m_topOf mo_m_topOf mv_m_topOf (gx_rmb rfl) sh_m_0 ⟨_, _, rfl⟩ rfl (k_m_topOf e_r12) rfl rfl (Nat.le_of_ble_eq_true rfl) ?_
      obtain rfl := Option.some.inj h
      exact gx_iret hX (gx_dt dt_mi_m_bearer 33 rfl) rfl hres hwr
    have h := gx_ifn c11 h
    by_cases c13 : a2 = 5
    · have h := gx_ifp c13 h
      refine gx_tabIn hX (off := 79) (tgt := 94) (gx_dt dt_mi_m_bearer 9 rfl) (by rw [c13]; decide) (by rw [c13]; decide) (by rw [c13]; rfl) (by decide) ?_
      refine gx_aload_n hX (gx_dt dt_mi_m_bearer 34 rfl) rfl ?_
      refine gx_iload_n hX (gx_dt dt_mi_m_bearer 35 rfl) rfl ?_
      obtain ⟨r14, e_r14, h⟩ := gx_bd h
      refine gx_callVi hX (gx_dt dt_mi_m_bearer 36 rfl) ln_D_178_m_bears mo_m_bears mv_m_bears (gx_rmb rfl) sh_m_0 ⟨_, _, rfl⟩ rfl (k_m_bears e_r14) rfl rfl (Nat.le_of_ble_eq_true rfl) ?_
      refine gx_if_eq hX (tgt := 106) (gx_dt dt_mi_m_bearer 37 rfl) (by decide) (fun c15 => ?_) (fun c15 => ?_)
      · have h := gx_ifp c15 h
        refine gx_iconst hX (v := 0) (gx_dt dt_mi_m_bearer 40 rfl) (by decide) ?_
        obtain rfl := Option.some.inj h
        exact gx_iret hX (gx_dt dt_mi_m_bearer 41 rfl) rfl hres hwr
      · have h := gx_ifn c15 h
        refine gx_iconst hX (v := 1) (gx_dt dt_mi_m_bearer 38 rfl) (by decide) ?_
        refine gx_goto hX (tgt := 107) (gx_dt dt_mi_m_bearer 39 rfl) (by decide) ?_
        obtain rfl := Option.some.inj h
        exact gx_iret hX (gx_dt dt_mi_m_bearer 41 rfl) rfl hres hwr
    have h := gx_ifn c13 h
    by_cases c16 : a2 = 6
    · have h := gx_ifp c16 h
      refine gx_tabIn hX (off := 93) (tgt := 108) (gx_dt dt_mi_m_bearer 9 rfl) (by rw [c16]; decide) (by rw [c16]; decide) (by rw [c16]; rfl) (by decide) ?_
      refine gx_aload_n hX (gx_dt dt_mi_m_bearer 42 rfl) rfl ?_
      refine gx_iload_n hX (gx_dt dt_mi_m_bearer 43 rfl) rfl ?_
      obtain ⟨r17, e_r17, h⟩ := gx_bd h
      refine gx_callVi hX (gx_dt dt_mi_m_bearer 44 rfl) ln_D_178_m_bears mo_m_bears mv_m_bears (gx_rmb rfl) sh_m_0 ⟨_, _, rfl⟩ rfl (k_m_bears e_r17) rfl rfl (Nat.le_of_ble_eq_true rfl) ?_
      refine gx_if_eq hX (tgt := 132) (gx_dt dt_mi_m_bearer 45 rfl) (by decide) (fun c18 => ?_) (fun c18 => ?_)
      · have h := gx_ifp c18 h
        refine gx_iconst hX (v := 0) (gx_dt dt_mi_m_bearer 54 rfl) (by decide) ?_
        obtain rfl := Option.some.inj h
        exact gx_iret hX (gx_dt dt_mi_m_bearer 55 rfl) rfl hres hwr
      · have h := gx_ifn c18 h
        refine gx_aload_n hX (gx_dt dt_mi_m_bearer 46 rfl) rfl ?_
        refine gx_iload_n hX (gx_dt dt_mi_m_bearer 47 rfl) rfl ?_
        obtain ⟨r19, e_r19, h⟩ := gx_bd h
        refine gx_callVi hX (gx_dt dt_mi_m_bearer 48 rfl) ln_D_172_m_topOf mo_m_topOf mv_m_topOf (gx_rmb rfl) sh_m_0 ⟨_, _, rfl⟩ rfl (k_m_topOf e_r19) rfl rfl (Nat.le_of_ble_eq_true rfl) ?_
        refine gx_aload_n hX (gx_dt dt_mi_m_bearer 49 rfl) rfl ?_
        refine gx_geti hX fl_D_16 sh_m_0 rfl (gx_dt dt_mi_m_bearer 50 rfl) ?_
        refine gx_ic_le hX (tgt := 132) (gx_dt dt_mi_m_bearer 51 rfl) (by decide) (fun c20 => ?_) (fun c20 => ?_)
        · have h := gx_ifp c20 h
          refine gx_iconst hX (v := 0) (gx_dt dt_mi_m_bearer 54 rfl) (by decide) ?_
          obtain rfl := Option.some.inj h
          exact gx_iret hX (gx_dt dt_mi_m_bearer 55 rfl) rfl hres hwr
        · have h := gx_ifn c20 h
          refine gx_iconst hX (v := 1) (gx_dt dt_mi_m_bearer 52 rfl) (by decide) ?_
          refine gx_goto hX (tgt := 133) (gx_dt dt_mi_m_bearer 53 rfl) (by decide) ?_
          obtain rfl := Option.some.inj h
          exact gx_iret hX (gx_dt dt_mi_m_bearer 55 rfl) rfl hres hwr
    have h := gx_ifn c16 h
    by_cases c21 : a2 = 7
    · have h := gx_ifp c21 h
      refine gx_tabIn hX (off := 119) (tgt := 134) (gx_dt dt_mi_m_bearer 9 rfl) (by rw [c21]; decide) (by rw [c21]; decide) (by rw [c21]; rfl) (by decide) ?_
      refine gx_aload_n hX (gx_dt dt_mi_m_bearer 56 rfl) rfl ?_
      refine gx_iload_n hX (gx_dt dt_mi_m_bearer 57 rfl) rfl ?_
      obtain ⟨r22, e_r22, h⟩ := gx_bd h
      refine gx_callVi hX (gx_dt dt_mi_m_bearer 58 rfl) ln_D_188_m_mightOf mo_m_mightOf mv_m_mightOf (gx_rmb rfl) sh_m_0 ⟨_, _, rfl⟩ rfl (k_m_mightOf e_r22) rfl rfl (Nat.le_of_ble_eq_true rfl) ?_
      obtain rfl := Option.some.inj h
      exact gx_iret hX (gx_dt dt_mi_m_bearer 59 rfl) rfl hres hwr
    have h := gx_ifn c21 h
    refine gx_tabD hX (tgt := 140) (gx_dt dt_mi_m_bearer 9 rfl) (gx_tdC (Or.inr (lv_neT c3 rfl)) (gx_tdC (Or.inr (lv_neT c5 rfl)) (gx_tdC (Or.inr (lv_neT c7 rfl)) (gx_tdC (Or.inr (lv_neT c9 rfl)) (gx_tdC (Or.inr (lv_neT c11 rfl)) (gx_tdC (Or.inr (lv_neT c13 rfl)) (gx_tdC (Or.inr (lv_neT c16 rfl)) (gx_tdC (Or.inr (lv_neT c21 rfl)) gx_td0)))))))) (by decide) (by decide) ?_
    refine gx_aload_n hX (gx_dt dt_mi_m_bearer 60 rfl) rfl ?_
    refine gx_bipush hX (v := (-2)) (gx_dt dt_mi_m_bearer 61 rfl) (by decide) ?_
    obtain ⟨r23, e_r23, h⟩ := gx_bd h
    refine gx_callVi hX (gx_dt dt_mi_m_bearer 62 rfl) ln_D_121_m_no mo_m_no mv_m_no (gx_rmb rfl) sh_m_0 ⟨_, _, rfl⟩ rfl (k_m_no e_r23) rfl rfl (Nat.le_of_ble_eq_true rfl) ?_
    obtain rfl := Option.some.inj h
    exact gx_iret hX (gx_dt dt_mi_m_bearer 63 rfl) rfl hres hwr
  · have h := gx_ifp c2 h
    refine gx_aload_n hX (gx_dt dt_mi_m_bearer 4 rfl) rfl ?_
    refine gx_iconst hX (v := (-1)) (gx_dt dt_mi_m_bearer 5 rfl) (by decide) ?_
    obtain ⟨r24, e_r24, h⟩ := gx_bd h
    refine gx_callVi hX (gx_dt dt_mi_m_bearer 6 rfl) ln_D_121_m_no mo_m_no mv_m_no (gx_rmb rfl) sh_m_0 ⟨_, _, rfl⟩ rfl (k_m_no e_r24) rfl rfl (Nat.le_of_ble_eq_true rfl) ?_
    obtain rfl := Option.some.inj h
    exact gx_iret hX (gx_dt dt_mi_m_bearer 7 rfl) rfl hres hwr
-- EachBearsPillarModel.span(II)I
def m_span (a1 : Int32) (a2 : Int32) (w : gx_Wd) : Option (Int32 × gx_Wd) :=
  (m_in a1 0 5 w).bind fun r1 =>
  if r1.1 = 0 then
    (m_no (-1) r1.2).bind fun r9 =>
    some (r9.1, r9.2)
  else
    if 0 ≤ a2 then
      if a2 ≤ 99 then
        (gx_ald sh_m r1.2 5 a1).bind fun v5 =>
        (gx_ast sh_m r1.2 5 a1 a2).bind fun w6 =>
        some (v5, w6)
      else
      (m_no (-6) r1.2).bind fun r7 =>
      some (r7.1, r7.2)
    else
    (m_no (-4) r1.2).bind fun r8 =>
    some (r8.1, r8.2)
theorem k_m_span {a1 : Int32} {a2 : Int32} {w : gx_Wd} {R : Int32 × gx_Wd} (h : m_span a1 a2 w = some R) : gx_MT mi_m_span [.inr 0, .inl a1, .inl a2] w (some (.inl R.1)) R.2 := by
  refine gx_met (by decide +kernel) (Nat.le_of_ble_eq_true rfl) (fun X hX hres hwr => ?_)
  show gx_G X mi_m_span 0 [some (.inr 0), some (.inl a1), some (.inl a2)] [] w
  rw [m_span] at h
  refine gx_aload_n hX (gx_dt dt_mi_m_span 0 rfl) rfl ?_
  refine gx_iload_n hX (gx_dt dt_mi_m_span 1 rfl) rfl ?_
  refine gx_iconst hX (v := 0) (gx_dt dt_mi_m_span 2 rfl) (by decide) ?_
  refine gx_iconst hX (v := 5) (gx_dt dt_mi_m_span 3 rfl) (by decide) ?_
  obtain ⟨r1, e_r1, h⟩ := gx_bd h
  refine gx_callVi hX (gx_dt dt_mi_m_span 4 rfl) ln_D_117_m_in mo_m_in mv_m_in (gx_rmb rfl) sh_m_0 ⟨_, _, rfl⟩ rfl (k_m_in e_r1) rfl rfl (Nat.le_of_ble_eq_true rfl) ?_
  refine gx_if_ne hX (tgt := 16) (gx_dt dt_mi_m_span 5 rfl) (by decide) (fun c2 => ?_) (fun c2 => ?_)
  · have h := gx_ifn c2 h
    refine gx_iload_n hX (gx_dt dt_mi_m_span 10 rfl) rfl ?_
    refine gx_if_ge hX (tgt := 27) (gx_dt dt_mi_m_span 11 rfl) (by decide) (fun c3 => ?_) (fun c3 => ?_)
    · have h := gx_ifp c3 h
      refine gx_iload_n hX (gx_dt dt_mi_m_span 16 rfl) rfl ?_
      refine gx_bipush hX (v := 99) (gx_dt dt_mi_m_span 17 rfl) (by decide) ?_
      refine gx_ic_le hX (tgt := 40) (gx_dt dt_mi_m_span 18 rfl) (by decide) (fun c4 => ?_) (fun c4 => ?_)
      · have h := gx_ifp c4 h
        refine gx_aload_n hX (gx_dt dt_mi_m_span 23 rfl) rfl ?_
        refine gx_getr hX fl_D_38 sh_m_0 rfl (gx_dt dt_mi_m_span 24 rfl) ?_
        refine gx_iload_n hX (gx_dt dt_mi_m_span 25 rfl) rfl ?_
        obtain ⟨v5, e_v5, h⟩ := gx_bd h
        refine gx_iald hX e_v5 (gx_dt dt_mi_m_span 26 rfl) ?_
        refine gx_istore_n hX (ls' := [some (.inr 0), some (.inl a1), some (.inl a2), some (.inl v5)]) (gx_dt dt_mi_m_span 27 rfl) (by decide) rfl ?_
        refine gx_aload_n hX (gx_dt dt_mi_m_span 28 rfl) rfl ?_
        refine gx_getr hX fl_D_38 sh_m_0 rfl (gx_dt dt_mi_m_span 29 rfl) ?_
        refine gx_iload_n hX (gx_dt dt_mi_m_span 30 rfl) rfl ?_
        refine gx_iload_n hX (gx_dt dt_mi_m_span 31 rfl) rfl ?_
        obtain ⟨w6, e_w6, h⟩ := gx_bd h
        refine gx_iast hX e_w6 (gx_dt dt_mi_m_span 32 rfl) ?_
        refine gx_iload_n hX (gx_dt dt_mi_m_span 33 rfl) rfl ?_
        obtain rfl := Option.some.inj h
        exact gx_iret hX (gx_dt dt_mi_m_span 34 rfl) rfl hres hwr
      · have h := gx_ifn c4 h
        refine gx_aload_n hX (gx_dt dt_mi_m_span 19 rfl) rfl ?_
        refine gx_bipush hX (v := (-6)) (gx_dt dt_mi_m_span 20 rfl) (by decide) ?_
        obtain ⟨r7, e_r7, h⟩ := gx_bd h
        refine gx_callVi hX (gx_dt dt_mi_m_span 21 rfl) ln_D_121_m_no mo_m_no mv_m_no (gx_rmb rfl) sh_m_0 ⟨_, _, rfl⟩ rfl (k_m_no e_r7) rfl rfl (Nat.le_of_ble_eq_true rfl) ?_
        obtain rfl := Option.some.inj h
        exact gx_iret hX (gx_dt dt_mi_m_span 22 rfl) rfl hres hwr
    · have h := gx_ifn c3 h
      refine gx_aload_n hX (gx_dt dt_mi_m_span 12 rfl) rfl ?_
      refine gx_bipush hX (v := (-4)) (gx_dt dt_mi_m_span 13 rfl) (by decide) ?_
      obtain ⟨r8, e_r8, h⟩ := gx_bd h
      refine gx_callVi hX (gx_dt dt_mi_m_span 14 rfl) ln_D_121_m_no mo_m_no mv_m_no (gx_rmb rfl) sh_m_0 ⟨_, _, rfl⟩ rfl (k_m_no e_r8) rfl rfl (Nat.le_of_ble_eq_true rfl) ?_
      obtain rfl := Option.some.inj h
      exact gx_iret hX (gx_dt dt_mi_m_span 15 rfl) rfl hres hwr
  · have h := gx_ifp c2 h
    refine gx_aload_n hX (gx_dt dt_mi_m_span 6 rfl) rfl ?_
    refine gx_iconst hX (v := (-1)) (gx_dt dt_mi_m_span 7 rfl) (by decide) ?_
    obtain ⟨r9, e_r9, h⟩ := gx_bd h
    refine gx_callVi hX (gx_dt dt_mi_m_span 8 rfl) ln_D_121_m_no mo_m_no mv_m_no (gx_rmb rfl) sh_m_0 ⟨_, _, rfl⟩ rfl (k_m_no e_r9) rfl rfl (Nat.le_of_ble_eq_true rfl) ?_
    obtain rfl := Option.some.inj h
    exact gx_iret hX (gx_dt dt_mi_m_span 9 rfl) rfl hres hwr
-- EachBearsPillarModel.ground(II)I
def m_ground (a1 : Int32) (a2 : Int32) (w : gx_Wd) : Option (Int32 × gx_Wd) :=
  (m_in a1 0 15 w).bind fun r1 =>
  if r1.1 = 0 then
    (m_no (-1) r1.2).bind fun r9 =>
    some (r9.1, r9.2)
  else
    if 0 ≤ a2 then
      if a2 ≤ 9 then
        (gx_ald sh_m r1.2 6 a1).bind fun v5 =>
        (gx_ast sh_m r1.2 6 a1 a2).bind fun w6 =>
        some (v5, w6)
      else
      (m_no (-6) r1.2).bind fun r7 =>
      some (r7.1, r7.2)
    else
    (m_no (-4) r1.2).bind fun r8 =>
    some (r8.1, r8.2)
theorem k_m_ground {a1 : Int32} {a2 : Int32} {w : gx_Wd} {R : Int32 × gx_Wd} (h : m_ground a1 a2 w = some R) : gx_MT mi_m_ground [.inr 0, .inl a1, .inl a2] w (some (.inl R.1)) R.2 := by
  refine gx_met (by decide +kernel) (Nat.le_of_ble_eq_true rfl) (fun X hX hres hwr => ?_)
  show gx_G X mi_m_ground 0 [some (.inr 0), some (.inl a1), some (.inl a2)] [] w
  rw [m_ground] at h
  refine gx_aload_n hX (gx_dt dt_mi_m_ground 0 rfl) rfl ?_
  refine gx_iload_n hX (gx_dt dt_mi_m_ground 1 rfl) rfl ?_
  refine gx_iconst hX (v := 0) (gx_dt dt_mi_m_ground 2 rfl) (by decide) ?_
  refine gx_bipush hX (v := 15) (gx_dt dt_mi_m_ground 3 rfl) (by decide) ?_
  obtain ⟨r1, e_r1, h⟩ := gx_bd h
  refine gx_callVi hX (gx_dt dt_mi_m_ground 4 rfl) ln_D_117_m_in mo_m_in mv_m_in (gx_rmb rfl) sh_m_0 ⟨_, _, rfl⟩ rfl (k_m_in e_r1) rfl rfl (Nat.le_of_ble_eq_true rfl) ?_
  refine gx_if_ne hX (tgt := 17) (gx_dt dt_mi_m_ground 5 rfl) (by decide) (fun c2 => ?_) (fun c2 => ?_)
  · have h := gx_ifn c2 h
    refine gx_iload_n hX (gx_dt dt_mi_m_ground 10 rfl) rfl ?_
    refine gx_if_ge hX (tgt := 28) (gx_dt dt_mi_m_ground 11 rfl) (by decide) (fun c3 => ?_) (fun c3 => ?_)
    · have h := gx_ifp c3 h
      refine gx_iload_n hX (gx_dt dt_mi_m_ground 16 rfl) rfl ?_
      refine gx_bipush hX (v := 9) (gx_dt dt_mi_m_ground 17 rfl) (by decide) ?_
      refine gx_ic_le hX (tgt := 41) (gx_dt dt_mi_m_ground 18 rfl) (by decide) (fun c4 => ?_) (fun c4 => ?_)
      · have h := gx_ifp c4 h
        refine gx_aload_n hX (gx_dt dt_mi_m_ground 23 rfl) rfl ?_
        refine gx_getr hX fl_D_41 sh_m_0 rfl (gx_dt dt_mi_m_ground 24 rfl) ?_
        refine gx_iload_n hX (gx_dt dt_mi_m_ground 25 rfl) rfl ?_
        obtain ⟨v5, e_v5, h⟩ := gx_bd h
        refine gx_iald hX e_v5 (gx_dt dt_mi_m_ground 26 rfl) ?_
        refine gx_istore_n hX (ls' := [some (.inr 0), some (.inl a1), some (.inl a2), some (.inl v5)]) (gx_dt dt_mi_m_ground 27 rfl) (by decide) rfl ?_
        refine gx_aload_n hX (gx_dt dt_mi_m_ground 28 rfl) rfl ?_
        refine gx_getr hX fl_D_41 sh_m_0 rfl (gx_dt dt_mi_m_ground 29 rfl) ?_
        refine gx_iload_n hX (gx_dt dt_mi_m_ground 30 rfl) rfl ?_
        refine gx_iload_n hX (gx_dt dt_mi_m_ground 31 rfl) rfl ?_
        obtain ⟨w6, e_w6, h⟩ := gx_bd h
        refine gx_iast hX e_w6 (gx_dt dt_mi_m_ground 32 rfl) ?_
        refine gx_iload_n hX (gx_dt dt_mi_m_ground 33 rfl) rfl ?_
        obtain rfl := Option.some.inj h
        exact gx_iret hX (gx_dt dt_mi_m_ground 34 rfl) rfl hres hwr
      · have h := gx_ifn c4 h
        refine gx_aload_n hX (gx_dt dt_mi_m_ground 19 rfl) rfl ?_
        refine gx_bipush hX (v := (-6)) (gx_dt dt_mi_m_ground 20 rfl) (by decide) ?_
        obtain ⟨r7, e_r7, h⟩ := gx_bd h
        refine gx_callVi hX (gx_dt dt_mi_m_ground 21 rfl) ln_D_121_m_no mo_m_no mv_m_no (gx_rmb rfl) sh_m_0 ⟨_, _, rfl⟩ rfl (k_m_no e_r7) rfl rfl (Nat.le_of_ble_eq_true rfl) ?_
        obtain rfl := Option.some.inj h
        exact gx_iret hX (gx_dt dt_mi_m_ground 22 rfl) rfl hres hwr
    · have h := gx_ifn c3 h
      refine gx_aload_n hX (gx_dt dt_mi_m_ground 12 rfl) rfl ?_
      refine gx_bipush hX (v := (-4)) (gx_dt dt_mi_m_ground 13 rfl) (by decide) ?_
      obtain ⟨r8, e_r8, h⟩ := gx_bd h
      refine gx_callVi hX (gx_dt dt_mi_m_ground 14 rfl) ln_D_121_m_no mo_m_no mv_m_no (gx_rmb rfl) sh_m_0 ⟨_, _, rfl⟩ rfl (k_m_no e_r8) rfl rfl (Nat.le_of_ble_eq_true rfl) ?_
      obtain rfl := Option.some.inj h
      exact gx_iret hX (gx_dt dt_mi_m_ground 15 rfl) rfl hres hwr
  · have h := gx_ifp c2 h
    refine gx_aload_n hX (gx_dt dt_mi_m_ground 6 rfl) rfl ?_
    refine gx_iconst hX (v := (-1)) (gx_dt dt_mi_m_ground 7 rfl) (by decide) ?_
    obtain ⟨r9, e_r9, h⟩ := gx_bd h
    refine gx_callVi hX (gx_dt dt_mi_m_ground 8 rfl) ln_D_121_m_no mo_m_no mv_m_no (gx_rmb rfl) sh_m_0 ⟨_, _, rfl⟩ rfl (k_m_no e_r9) rfl rfl (Nat.le_of_ble_eq_true rfl) ?_
    obtain rfl := Option.some.inj h
    exact gx_iret hX (gx_dt dt_mi_m_ground 9 rfl) rfl hres hwr
-- EachBearsPillarModel.level(I)I
def m_level (a1 : Int32) (w : gx_Wd) : Option (Int32 × gx_Wd) :=
  if 0 ≤ a1 then
    if a1 ≤ 27 then
      (gx_put w 0 2 a1).bind fun w3 =>
      some (w 0 2, w3)
    else
    (m_no (-6) w).bind fun r4 =>
    some (r4.1, r4.2)
  else
  (m_no (-4) w).bind fun r5 =>
  some (r5.1, r5.2)
theorem k_m_level {a1 : Int32} {w : gx_Wd} {R : Int32 × gx_Wd} (h : m_level a1 w = some R) : gx_MT mi_m_level [.inr 0, .inl a1] w (some (.inl R.1)) R.2 := by
  refine gx_met (by decide +kernel) (Nat.le_of_ble_eq_true rfl) (fun X hX hres hwr => ?_)
  show gx_G X mi_m_level 0 [some (.inr 0), some (.inl a1)] [] w
  rw [m_level] at h
  refine gx_iload_n hX (gx_dt dt_mi_m_level 0 rfl) rfl ?_
  refine gx_if_ge hX (tgt := 11) (gx_dt dt_mi_m_level 1 rfl) (by decide) (fun c1 => ?_) (fun c1 => ?_)
  · have h := gx_ifp c1 h
    refine gx_iload_n hX (gx_dt dt_mi_m_level 6 rfl) rfl ?_
    refine gx_bipush hX (v := 27) (gx_dt dt_mi_m_level 7 rfl) (by decide) ?_
    refine gx_ic_le hX (tgt := 24) (gx_dt dt_mi_m_level 8 rfl) (by decide) (fun c2 => ?_) (fun c2 => ?_)
    · have h := gx_ifp c2 h
      refine gx_aload_n hX (gx_dt dt_mi_m_level 13 rfl) rfl ?_
      refine gx_geti hX fl_D_16 sh_m_0 rfl (gx_dt dt_mi_m_level 14 rfl) ?_
      refine gx_istore_n hX (ls' := [some (.inr 0), some (.inl a1), some (.inl (w 0 2))]) (gx_dt dt_mi_m_level 15 rfl) (by decide) rfl ?_
      refine gx_aload_n hX (gx_dt dt_mi_m_level 16 rfl) rfl ?_
      refine gx_iload_n hX (gx_dt dt_mi_m_level 17 rfl) rfl ?_
      obtain ⟨w3, e_w3, h⟩ := gx_bd h
      refine gx_putp hX fl_D_16 (pf_D_2 _) sh_m_0 rfl e_w3 (gx_dt dt_mi_m_level 18 rfl) ?_
      refine gx_iload_n hX (gx_dt dt_mi_m_level 19 rfl) rfl ?_
      obtain rfl := Option.some.inj h
      exact gx_iret hX (gx_dt dt_mi_m_level 20 rfl) rfl hres hwr
    · have h := gx_ifn c2 h
      refine gx_aload_n hX (gx_dt dt_mi_m_level 9 rfl) rfl ?_
      refine gx_bipush hX (v := (-6)) (gx_dt dt_mi_m_level 10 rfl) (by decide) ?_
      obtain ⟨r4, e_r4, h⟩ := gx_bd h
      refine gx_callVi hX (gx_dt dt_mi_m_level 11 rfl) ln_D_121_m_no mo_m_no mv_m_no (gx_rmb rfl) sh_m_0 ⟨_, _, rfl⟩ rfl (k_m_no e_r4) rfl rfl (Nat.le_of_ble_eq_true rfl) ?_
      obtain rfl := Option.some.inj h
      exact gx_iret hX (gx_dt dt_mi_m_level 12 rfl) rfl hres hwr
  · have h := gx_ifn c1 h
    refine gx_aload_n hX (gx_dt dt_mi_m_level 2 rfl) rfl ?_
    refine gx_bipush hX (v := (-4)) (gx_dt dt_mi_m_level 3 rfl) (by decide) ?_
    obtain ⟨r5, e_r5, h⟩ := gx_bd h
    refine gx_callVi hX (gx_dt dt_mi_m_level 4 rfl) ln_D_121_m_no mo_m_no mv_m_no (gx_rmb rfl) sh_m_0 ⟨_, _, rfl⟩ rfl (k_m_no e_r5) rfl rfl (Nat.le_of_ble_eq_true rfl) ?_
    obtain rfl := Option.some.inj h
    exact gx_iret hX (gx_dt dt_mi_m_level 5 rfl) rfl hres hwr
-- EachBearsPillarModel.block(II)I
def m_block (a1 : Int32) (a2 : Int32) (w : gx_Wd) : Option (Int32 × gx_Wd) :=
  (m_isBearer a1 w).bind fun r1 =>
  if r1.1 = 0 then
    (m_no (-1) r1.2).bind fun r9 =>
    some (r9.1, r9.2)
  else
    if 0 ≤ a2 then
      if a2 ≤ 9 then
        (gx_ald sh_m r1.2 4 a1).bind fun v5 =>
        (gx_ast sh_m r1.2 4 a1 a2).bind fun w6 =>
        some (v5, w6)
      else
      (m_no (-6) r1.2).bind fun r7 =>
      some (r7.1, r7.2)
    else
    (m_no (-4) r1.2).bind fun r8 =>
    some (r8.1, r8.2)
theorem k_m_block {a1 : Int32} {a2 : Int32} {w : gx_Wd} {R : Int32 × gx_Wd} (h : m_block a1 a2 w = some R) : gx_MT mi_m_block [.inr 0, .inl a1, .inl a2] w (some (.inl R.1)) R.2 := by
  refine gx_met (by decide +kernel) (Nat.le_of_ble_eq_true rfl) (fun X hX hres hwr => ?_)
  show gx_G X mi_m_block 0 [some (.inr 0), some (.inl a1), some (.inl a2)] [] w
  rw [m_block] at h
  refine gx_aload_n hX (gx_dt dt_mi_m_block 0 rfl) rfl ?_
  refine gx_iload_n hX (gx_dt dt_mi_m_block 1 rfl) rfl ?_
  obtain ⟨r1, e_r1, h⟩ := gx_bd h
  refine gx_callVi hX (gx_dt dt_mi_m_block 2 rfl) ln_D_197_m_isBearer mo_m_isBearer mv_m_isBearer (gx_rmb rfl) sh_m_0 ⟨_, _, rfl⟩ rfl (k_m_isBearer e_r1) rfl rfl (Nat.le_of_ble_eq_true rfl) ?_
  refine gx_if_ne hX (tgt := 14) (gx_dt dt_mi_m_block 3 rfl) (by decide) (fun c2 => ?_) (fun c2 => ?_)
  · have h := gx_ifn c2 h
    refine gx_iload_n hX (gx_dt dt_mi_m_block 8 rfl) rfl ?_
    refine gx_if_ge hX (tgt := 25) (gx_dt dt_mi_m_block 9 rfl) (by decide) (fun c3 => ?_) (fun c3 => ?_)
    · have h := gx_ifp c3 h
      refine gx_iload_n hX (gx_dt dt_mi_m_block 14 rfl) rfl ?_
      refine gx_bipush hX (v := 9) (gx_dt dt_mi_m_block 15 rfl) (by decide) ?_
      refine gx_ic_le hX (tgt := 38) (gx_dt dt_mi_m_block 16 rfl) (by decide) (fun c4 => ?_) (fun c4 => ?_)
      · have h := gx_ifp c4 h
        refine gx_aload_n hX (gx_dt dt_mi_m_block 21 rfl) rfl ?_
        refine gx_getr hX fl_D_35 sh_m_0 rfl (gx_dt dt_mi_m_block 22 rfl) ?_
        refine gx_iload_n hX (gx_dt dt_mi_m_block 23 rfl) rfl ?_
        obtain ⟨v5, e_v5, h⟩ := gx_bd h
        refine gx_iald hX e_v5 (gx_dt dt_mi_m_block 24 rfl) ?_
        refine gx_istore_n hX (ls' := [some (.inr 0), some (.inl a1), some (.inl a2), some (.inl v5)]) (gx_dt dt_mi_m_block 25 rfl) (by decide) rfl ?_
        refine gx_aload_n hX (gx_dt dt_mi_m_block 26 rfl) rfl ?_
        refine gx_getr hX fl_D_35 sh_m_0 rfl (gx_dt dt_mi_m_block 27 rfl) ?_
        refine gx_iload_n hX (gx_dt dt_mi_m_block 28 rfl) rfl ?_
        refine gx_iload_n hX (gx_dt dt_mi_m_block 29 rfl) rfl ?_
        obtain ⟨w6, e_w6, h⟩ := gx_bd h
        refine gx_iast hX e_w6 (gx_dt dt_mi_m_block 30 rfl) ?_
        refine gx_iload_n hX (gx_dt dt_mi_m_block 31 rfl) rfl ?_
        obtain rfl := Option.some.inj h
        exact gx_iret hX (gx_dt dt_mi_m_block 32 rfl) rfl hres hwr
      · have h := gx_ifn c4 h
        refine gx_aload_n hX (gx_dt dt_mi_m_block 17 rfl) rfl ?_
        refine gx_bipush hX (v := (-6)) (gx_dt dt_mi_m_block 18 rfl) (by decide) ?_
        obtain ⟨r7, e_r7, h⟩ := gx_bd h
        refine gx_callVi hX (gx_dt dt_mi_m_block 19 rfl) ln_D_121_m_no mo_m_no mv_m_no (gx_rmb rfl) sh_m_0 ⟨_, _, rfl⟩ rfl (k_m_no e_r7) rfl rfl (Nat.le_of_ble_eq_true rfl) ?_
        obtain rfl := Option.some.inj h
        exact gx_iret hX (gx_dt dt_mi_m_block 20 rfl) rfl hres hwr
    · have h := gx_ifn c3 h
      refine gx_aload_n hX (gx_dt dt_mi_m_block 10 rfl) rfl ?_
      refine gx_bipush hX (v := (-4)) (gx_dt dt_mi_m_block 11 rfl) (by decide) ?_
      obtain ⟨r8, e_r8, h⟩ := gx_bd h
      refine gx_callVi hX (gx_dt dt_mi_m_block 12 rfl) ln_D_121_m_no mo_m_no mv_m_no (gx_rmb rfl) sh_m_0 ⟨_, _, rfl⟩ rfl (k_m_no e_r8) rfl rfl (Nat.le_of_ble_eq_true rfl) ?_
      obtain rfl := Option.some.inj h
      exact gx_iret hX (gx_dt dt_mi_m_block 13 rfl) rfl hres hwr
  · have h := gx_ifp c2 h
    refine gx_aload_n hX (gx_dt dt_mi_m_block 4 rfl) rfl ?_
    refine gx_iconst hX (v := (-1)) (gx_dt dt_mi_m_block 5 rfl) (by decide) ?_
    obtain ⟨r9, e_r9, h⟩ := gx_bd h
    refine gx_callVi hX (gx_dt dt_mi_m_block 6 rfl) ln_D_121_m_no mo_m_no mv_m_no (gx_rmb rfl) sh_m_0 ⟨_, _, rfl⟩ rfl (k_m_no e_r9) rfl rfl (Nat.le_of_ble_eq_true rfl) ?_
    obtain rfl := Option.some.inj h
    exact gx_iret hX (gx_dt dt_mi_m_block 7 rfl) rfl hres hwr
-- EachBearsPillarModel.lastAt()I
def m_lastAt (w : gx_Wd) : Option (Int32 × gx_Wd) :=
  if w 0 0 = 0 then
    some (15, w)
  else
    some (16 - (w 0 0), w)
theorem k_m_lastAt {w : gx_Wd} {R : Int32 × gx_Wd} (h : m_lastAt w = some R) : gx_MT mi_m_lastAt [.inr 0] w (some (.inl R.1)) R.2 := by
  refine gx_met (by decide +kernel) (Nat.le_of_ble_eq_true rfl) (fun X hX hres hwr => ?_)
  show gx_G X mi_m_lastAt 0 [some (.inr 0)] [] w
  rw [m_lastAt] at h
  refine gx_aload_n hX (gx_dt dt_mi_m_lastAt 0 rfl) rfl ?_
  refine gx_geti hX fl_D_7 sh_m_0 rfl (gx_dt dt_mi_m_lastAt 1 rfl) ?_
  refine gx_if_ne hX (tgt := 12) (gx_dt dt_mi_m_lastAt 2 rfl) (by decide) (fun c1 => ?_) (fun c1 => ?_)
  · have h := gx_ifn c1 h
    refine gx_bipush hX (v := 16) (gx_dt dt_mi_m_lastAt 5 rfl) (by decide) ?_
    refine gx_aload_n hX (gx_dt dt_mi_m_lastAt 6 rfl) rfl ?_
    refine gx_geti hX fl_D_7 sh_m_0 rfl (gx_dt dt_mi_m_lastAt 7 rfl) ?_
    refine gx_isub hX (gx_dt dt_mi_m_lastAt 8 rfl) ?_
    obtain rfl := Option.some.inj h
    exact gx_iret hX (gx_dt dt_mi_m_lastAt 9 rfl) rfl hres hwr
  · have h := gx_ifp c1 h
    refine gx_bipush hX (v := 15) (gx_dt dt_mi_m_lastAt 3 rfl) (by decide) ?_
    refine gx_goto hX (tgt := 19) (gx_dt dt_mi_m_lastAt 4 rfl) (by decide) ?_
    obtain rfl := Option.some.inj h
    exact gx_iret hX (gx_dt dt_mi_m_lastAt 9 rfl) rfl hres hwr
-- EachBearsPillarModel.at(I)I
def m_at (a1 : Int32) (w : gx_Wd) : Option (Int32 × gx_Wd) :=
  if 0 ≤ a1 then
    (m_lastAt w).bind fun r2 =>
    if a1 ≤ r2.1 then
      (gx_put r2.2 0 1 a1).bind fun w4 =>
      some (r2.2 0 1, w4)
    else
    (m_no (-6) r2.2).bind fun r5 =>
    some (r5.1, r5.2)
  else
  (m_no (-4) w).bind fun r6 =>
  some (r6.1, r6.2)
theorem k_m_at {a1 : Int32} {w : gx_Wd} {R : Int32 × gx_Wd} (h : m_at a1 w = some R) : gx_MT mi_m_at [.inr 0, .inl a1] w (some (.inl R.1)) R.2 := by
  refine gx_met (by decide +kernel) (Nat.le_of_ble_eq_true rfl) (fun X hX hres hwr => ?_)
  show gx_G X mi_m_at 0 [some (.inr 0), some (.inl a1)] [] w
  rw [m_at] at h
  refine gx_iload_n hX (gx_dt dt_mi_m_at 0 rfl) rfl ?_
  refine gx_if_ge hX (tgt := 11) (gx_dt dt_mi_m_at 1 rfl) (by decide) (fun c1 => ?_) (fun c1 => ?_)
  · have h := gx_ifp c1 h
    refine gx_iload_n hX (gx_dt dt_mi_m_at 6 rfl) rfl ?_
    refine gx_aload_n hX (gx_dt dt_mi_m_at 7 rfl) rfl ?_
    obtain ⟨r2, e_r2, h⟩ := gx_bd h
    refine gx_callVi hX (gx_dt dt_mi_m_at 8 rfl) ln_D_200_m_lastAt mo_m_lastAt mv_m_lastAt (gx_rmb rfl) sh_m_0 ⟨_, _, rfl⟩ rfl (k_m_lastAt e_r2) rfl rfl (Nat.le_of_ble_eq_true rfl) ?_
    refine gx_ic_le hX (tgt := 26) (gx_dt dt_mi_m_at 9 rfl) (by decide) (fun c3 => ?_) (fun c3 => ?_)
    · have h := gx_ifp c3 h
      refine gx_aload_n hX (gx_dt dt_mi_m_at 14 rfl) rfl ?_
      refine gx_geti hX fl_D_13 sh_m_0 rfl (gx_dt dt_mi_m_at 15 rfl) ?_
      refine gx_istore_n hX (ls' := [some (.inr 0), some (.inl a1), some (.inl (r2.2 0 1))]) (gx_dt dt_mi_m_at 16 rfl) (by decide) rfl ?_
      refine gx_aload_n hX (gx_dt dt_mi_m_at 17 rfl) rfl ?_
      refine gx_iload_n hX (gx_dt dt_mi_m_at 18 rfl) rfl ?_
      obtain ⟨w4, e_w4, h⟩ := gx_bd h
      refine gx_putp hX fl_D_13 (pf_D_1 _) sh_m_0 rfl e_w4 (gx_dt dt_mi_m_at 19 rfl) ?_
      refine gx_iload_n hX (gx_dt dt_mi_m_at 20 rfl) rfl ?_
      obtain rfl := Option.some.inj h
      exact gx_iret hX (gx_dt dt_mi_m_at 21 rfl) rfl hres hwr
    · have h := gx_ifn c3 h
      refine gx_aload_n hX (gx_dt dt_mi_m_at 10 rfl) rfl ?_
      refine gx_bipush hX (v := (-6)) (gx_dt dt_mi_m_at 11 rfl) (by decide) ?_
      obtain ⟨r5, e_r5, h⟩ := gx_bd h
      refine gx_callVi hX (gx_dt dt_mi_m_at 12 rfl) ln_D_121_m_no mo_m_no mv_m_no (gx_rmb rfl) sh_m_0 ⟨_, _, rfl⟩ rfl (k_m_no e_r5) rfl rfl (Nat.le_of_ble_eq_true rfl) ?_
      obtain rfl := Option.some.inj h
      exact gx_iret hX (gx_dt dt_mi_m_at 13 rfl) rfl hres hwr
  · have h := gx_ifn c1 h
    refine gx_aload_n hX (gx_dt dt_mi_m_at 2 rfl) rfl ?_
    refine gx_bipush hX (v := (-4)) (gx_dt dt_mi_m_at 3 rfl) (by decide) ?_
    obtain ⟨r6, e_r6, h⟩ := gx_bd h
    refine gx_callVi hX (gx_dt dt_mi_m_at 4 rfl) ln_D_121_m_no mo_m_no mv_m_no (gx_rmb rfl) sh_m_0 ⟨_, _, rfl⟩ rfl (k_m_no e_r6) rfl rfl (Nat.le_of_ble_eq_true rfl) ?_
    obtain rfl := Option.some.inj h
    exact gx_iret hX (gx_dt dt_mi_m_at 5 rfl) rfl hres hwr
-- EachBearsPillarModel.hasEnds(I)Z
def m_hasEnds (a1 : Int32) (w : gx_Wd) : Option (Int32 × gx_Wd) :=
  if a1 < 0 then
    some (0, w)
  else
  if w 0 0 ≤ a1 + 1 then
    some (0, w)
  else
  some (1, w)
theorem k_m_hasEnds {a1 : Int32} {w : gx_Wd} {R : Int32 × gx_Wd} (h : m_hasEnds a1 w = some R) : gx_MT mi_m_hasEnds [.inr 0, .inl a1] w (some (.inl R.1)) R.2 := by
  refine gx_met (by decide +kernel) (Nat.le_of_ble_eq_true rfl) (fun X hX hres hwr => ?_)
  show gx_G X mi_m_hasEnds 0 [some (.inr 0), some (.inl a1)] [] w
  rw [m_hasEnds] at h
  refine gx_iload_n hX (gx_dt dt_mi_m_hasEnds 0 rfl) rfl ?_
  refine gx_if_lt hX (tgt := 18) (gx_dt dt_mi_m_hasEnds 1 rfl) (by decide) (fun c1 => ?_) (fun c1 => ?_)
  · have h := gx_ifp c1 h
    refine gx_iconst hX (v := 0) (gx_dt dt_mi_m_hasEnds 10 rfl) (by decide) ?_
    obtain rfl := Option.some.inj h
    exact gx_zret hX (gx_dt dt_mi_m_hasEnds 11 rfl) rfl rfl hres hwr
  · have h := gx_ifn c1 h
    refine gx_iload_n hX (gx_dt dt_mi_m_hasEnds 2 rfl) rfl ?_
    refine gx_iconst hX (v := 1) (gx_dt dt_mi_m_hasEnds 3 rfl) (by decide) ?_
    refine gx_iadd hX (gx_dt dt_mi_m_hasEnds 4 rfl) ?_
    refine gx_aload_n hX (gx_dt dt_mi_m_hasEnds 5 rfl) rfl ?_
    refine gx_geti hX fl_D_7 sh_m_0 rfl (gx_dt dt_mi_m_hasEnds 6 rfl) ?_
    refine gx_ic_ge hX (tgt := 18) (gx_dt dt_mi_m_hasEnds 7 rfl) (by decide) (fun c2 => ?_) (fun c2 => ?_)
    · have h := gx_ifp c2 h
      refine gx_iconst hX (v := 0) (gx_dt dt_mi_m_hasEnds 10 rfl) (by decide) ?_
      obtain rfl := Option.some.inj h
      exact gx_zret hX (gx_dt dt_mi_m_hasEnds 11 rfl) rfl rfl hres hwr
    · have h := gx_ifn c2 h
      refine gx_iconst hX (v := 1) (gx_dt dt_mi_m_hasEnds 8 rfl) (by decide) ?_
      refine gx_goto hX (tgt := 19) (gx_dt dt_mi_m_hasEnds 9 rfl) (by decide) ?_
      obtain rfl := Option.some.inj h
      exact gx_zret hX (gx_dt dt_mi_m_hasEnds 11 rfl) rfl rfl hres hwr
-- EachBearsPillarModel.loadBy(III)I
def m_loadBy (a1 : Int32) (a2 : Int32) (a3 : Int32) (w : gx_Wd) : Option (Int32 × gx_Wd) :=
  (m_hasEnds a2 w).bind fun r1 =>
  if r1.1 = 0 then
    some (0, r1.2)
  else
  (m_bears a1 r1.2).bind fun r3 =>
  if r3.1 = 0 then
    some (0, r3.2)
  else
    (m_bears a3 r3.2).bind fun r5 =>
    if r5.1 = 0 then
      (gx_ald sh_m r5.2 5 a2).bind fun v7 =>
      some (2 * v7, r5.2)
    else
    (gx_ald sh_m r5.2 5 a2).bind fun v8 =>
    some (v8, r5.2)
theorem k_m_loadBy {a1 : Int32} {a2 : Int32} {a3 : Int32} {w : gx_Wd} {R : Int32 × gx_Wd} (h : m_loadBy a1 a2 a3 w = some R) : gx_MT mi_m_loadBy [.inr 0, .inl a1, .inl a2, .inl a3] w (some (.inl R.1)) R.2 := by
  refine gx_met (by decide +kernel) (Nat.le_of_ble_eq_true rfl) (fun X hX hres hwr => ?_)
  show gx_G X mi_m_loadBy 0 [some (.inr 0), some (.inl a1), some (.inl a2), some (.inl a3)] [] w
  rw [m_loadBy] at h
  refine gx_aload_n hX (gx_dt dt_mi_m_loadBy 0 rfl) rfl ?_
  refine gx_iload_n hX (gx_dt dt_mi_m_loadBy 1 rfl) rfl ?_
  obtain ⟨r1, e_r1, h⟩ := gx_bd h
  refine gx_callVi hX (gx_dt dt_mi_m_loadBy 2 rfl) ln_D_175_m_hasEnds mo_m_hasEnds mv_m_hasEnds (gx_rmb rfl) sh_m_0 ⟨_, _, rfl⟩ rfl (k_m_hasEnds e_r1) rfl rfl (Nat.le_of_ble_eq_true rfl) ?_
  refine gx_if_eq hX (tgt := 16) (gx_dt dt_mi_m_loadBy 3 rfl) (by decide) (fun c2 => ?_) (fun c2 => ?_)
  · have h := gx_ifp c2 h
    refine gx_iconst hX (v := 0) (gx_dt dt_mi_m_loadBy 8 rfl) (by decide) ?_
    refine gx_goto hX (tgt := 45) (gx_dt dt_mi_m_loadBy 9 rfl) (by decide) ?_
    obtain rfl := Option.some.inj h
    exact gx_iret hX (gx_dt dt_mi_m_loadBy 25 rfl) rfl hres hwr
  · have h := gx_ifn c2 h
    refine gx_aload_n hX (gx_dt dt_mi_m_loadBy 4 rfl) rfl ?_
    refine gx_iload_n hX (gx_dt dt_mi_m_loadBy 5 rfl) rfl ?_
    obtain ⟨r3, e_r3, h⟩ := gx_bd h
    refine gx_callVi hX (gx_dt dt_mi_m_loadBy 6 rfl) ln_D_178_m_bears mo_m_bears mv_m_bears (gx_rmb rfl) sh_m_0 ⟨_, _, rfl⟩ rfl (k_m_bears e_r3) rfl rfl (Nat.le_of_ble_eq_true rfl) ?_
    refine gx_if_ne hX (tgt := 20) (gx_dt dt_mi_m_loadBy 7 rfl) (by decide) (fun c4 => ?_) (fun c4 => ?_)
    · have h := gx_ifn c4 h
      refine gx_aload_n hX (gx_dt dt_mi_m_loadBy 10 rfl) rfl ?_
      refine gx_iload_n hX (gx_dt dt_mi_m_loadBy 11 rfl) rfl ?_
      obtain ⟨r5, e_r5, h⟩ := gx_bd h
      refine gx_callVi hX (gx_dt dt_mi_m_loadBy 12 rfl) ln_D_178_m_bears mo_m_bears mv_m_bears (gx_rmb rfl) sh_m_0 ⟨_, _, rfl⟩ rfl (k_m_bears e_r5) rfl rfl (Nat.le_of_ble_eq_true rfl) ?_
      refine gx_if_eq hX (tgt := 37) (gx_dt dt_mi_m_loadBy 13 rfl) (by decide) (fun c6 => ?_) (fun c6 => ?_)
      · have h := gx_ifp c6 h
        refine gx_iconst hX (v := 2) (gx_dt dt_mi_m_loadBy 19 rfl) (by decide) ?_
        refine gx_aload_n hX (gx_dt dt_mi_m_loadBy 20 rfl) rfl ?_
        refine gx_getr hX fl_D_38 sh_m_0 rfl (gx_dt dt_mi_m_loadBy 21 rfl) ?_
        refine gx_iload_n hX (gx_dt dt_mi_m_loadBy 22 rfl) rfl ?_
        obtain ⟨v7, e_v7, h⟩ := gx_bd h
        refine gx_iald hX e_v7 (gx_dt dt_mi_m_loadBy 23 rfl) ?_
        refine gx_imul hX (gx_dt dt_mi_m_loadBy 24 rfl) ?_
        obtain rfl := Option.some.inj h
        exact gx_iret hX (gx_dt dt_mi_m_loadBy 25 rfl) rfl hres hwr
      · have h := gx_ifn c6 h
        refine gx_aload_n hX (gx_dt dt_mi_m_loadBy 14 rfl) rfl ?_
        refine gx_getr hX fl_D_38 sh_m_0 rfl (gx_dt dt_mi_m_loadBy 15 rfl) ?_
        refine gx_iload_n hX (gx_dt dt_mi_m_loadBy 16 rfl) rfl ?_
        obtain ⟨v8, e_v8, h⟩ := gx_bd h
        refine gx_iald hX e_v8 (gx_dt dt_mi_m_loadBy 17 rfl) ?_
        refine gx_goto hX (tgt := 45) (gx_dt dt_mi_m_loadBy 18 rfl) (by decide) ?_
        obtain rfl := Option.some.inj h
        exact gx_iret hX (gx_dt dt_mi_m_loadBy 25 rfl) rfl hres hwr
    · have h := gx_ifp c4 h
      refine gx_iconst hX (v := 0) (gx_dt dt_mi_m_loadBy 8 rfl) (by decide) ?_
      refine gx_goto hX (tgt := 45) (gx_dt dt_mi_m_loadBy 9 rfl) (by decide) ?_
      obtain rfl := Option.some.inj h
      exact gx_iret hX (gx_dt dt_mi_m_loadBy 25 rfl) rfl hres hwr
-- EachBearsPillarModel.loadOf(I)I
def m_loadOf (a1 : Int32) (w : gx_Wd) : Option (Int32 × gx_Wd) :=
  (m_loadBy a1 (a1 - 1) (a1 - 1) w).bind fun r1 =>
  (m_loadBy a1 a1 (a1 + 1) r1.2).bind fun r2 =>
  some (r1.1 + r2.1, r2.2)
theorem k_m_loadOf {a1 : Int32} {w : gx_Wd} {R : Int32 × gx_Wd} (h : m_loadOf a1 w = some R) : gx_MT mi_m_loadOf [.inr 0, .inl a1] w (some (.inl R.1)) R.2 := by
  refine gx_met (by decide +kernel) (Nat.le_of_ble_eq_true rfl) (fun X hX hres hwr => ?_)
  show gx_G X mi_m_loadOf 0 [some (.inr 0), some (.inl a1)] [] w
  rw [m_loadOf] at h
  refine gx_aload_n hX (gx_dt dt_mi_m_loadOf 0 rfl) rfl ?_
  refine gx_iload_n hX (gx_dt dt_mi_m_loadOf 1 rfl) rfl ?_
  refine gx_iload_n hX (gx_dt dt_mi_m_loadOf 2 rfl) rfl ?_
  refine gx_iconst hX (v := 1) (gx_dt dt_mi_m_loadOf 3 rfl) (by decide) ?_
  refine gx_isub hX (gx_dt dt_mi_m_loadOf 4 rfl) ?_
  refine gx_iload_n hX (gx_dt dt_mi_m_loadOf 5 rfl) rfl ?_
  refine gx_iconst hX (v := 1) (gx_dt dt_mi_m_loadOf 6 rfl) (by decide) ?_
  refine gx_isub hX (gx_dt dt_mi_m_loadOf 7 rfl) ?_
  obtain ⟨r1, e_r1, h⟩ := gx_bd h
  refine gx_callVi hX (gx_dt dt_mi_m_loadOf 8 rfl) ln_D_181_m_loadBy mo_m_loadBy mv_m_loadBy (gx_rmb rfl) sh_m_0 ⟨_, _, rfl⟩ rfl (k_m_loadBy e_r1) rfl rfl (Nat.le_of_ble_eq_true rfl) ?_
  refine gx_aload_n hX (gx_dt dt_mi_m_loadOf 9 rfl) rfl ?_
  refine gx_iload_n hX (gx_dt dt_mi_m_loadOf 10 rfl) rfl ?_
  refine gx_iload_n hX (gx_dt dt_mi_m_loadOf 11 rfl) rfl ?_
  refine gx_iload_n hX (gx_dt dt_mi_m_loadOf 12 rfl) rfl ?_
  refine gx_iconst hX (v := 1) (gx_dt dt_mi_m_loadOf 13 rfl) (by decide) ?_
  refine gx_iadd hX (gx_dt dt_mi_m_loadOf 14 rfl) ?_
  obtain ⟨r2, e_r2, h⟩ := gx_bd h
  refine gx_callVi hX (gx_dt dt_mi_m_loadOf 15 rfl) ln_D_181_m_loadBy mo_m_loadBy mv_m_loadBy (gx_rmb rfl) sh_m_0 ⟨_, _, rfl⟩ rfl (k_m_loadBy e_r2) rfl rfl (Nat.le_of_ble_eq_true rfl) ?_
  refine gx_iadd hX (gx_dt dt_mi_m_loadOf 16 rfl) ?_
  obtain rfl := Option.some.inj h
  exact gx_iret hX (gx_dt dt_mi_m_loadOf 17 rfl) rfl hres hwr
-- EachBearsPillarModel.load(I)I
def m_load (a1 : Int32) (w : gx_Wd) : Option (Int32 × gx_Wd) :=
  (m_isBearer a1 w).bind fun r1 =>
  if r1.1 = 0 then
    (m_no (-1) r1.2).bind fun r3 =>
    some (r3.1, r3.2)
  else
  (m_loadOf a1 r1.2).bind fun r4 =>
  some (r4.1, r4.2)
theorem k_m_load {a1 : Int32} {w : gx_Wd} {R : Int32 × gx_Wd} (h : m_load a1 w = some R) : gx_MT mi_m_load [.inr 0, .inl a1] w (some (.inl R.1)) R.2 := by
  refine gx_met (by decide +kernel) (Nat.le_of_ble_eq_true rfl) (fun X hX hres hwr => ?_)
  show gx_G X mi_m_load 0 [some (.inr 0), some (.inl a1)] [] w
  rw [m_load] at h
  refine gx_aload_n hX (gx_dt dt_mi_m_load 0 rfl) rfl ?_
  refine gx_iload_n hX (gx_dt dt_mi_m_load 1 rfl) rfl ?_
  obtain ⟨r1, e_r1, h⟩ := gx_bd h
  refine gx_callVi hX (gx_dt dt_mi_m_load 2 rfl) ln_D_197_m_isBearer mo_m_isBearer mv_m_isBearer (gx_rmb rfl) sh_m_0 ⟨_, _, rfl⟩ rfl (k_m_isBearer e_r1) rfl rfl (Nat.le_of_ble_eq_true rfl) ?_
  refine gx_if_eq hX (tgt := 16) (gx_dt dt_mi_m_load 3 rfl) (by decide) (fun c2 => ?_) (fun c2 => ?_)
  · have h := gx_ifp c2 h
    refine gx_aload_n hX (gx_dt dt_mi_m_load 8 rfl) rfl ?_
    refine gx_iconst hX (v := (-1)) (gx_dt dt_mi_m_load 9 rfl) (by decide) ?_
    obtain ⟨r3, e_r3, h⟩ := gx_bd h
    refine gx_callVi hX (gx_dt dt_mi_m_load 10 rfl) ln_D_121_m_no mo_m_no mv_m_no (gx_rmb rfl) sh_m_0 ⟨_, _, rfl⟩ rfl (k_m_no e_r3) rfl rfl (Nat.le_of_ble_eq_true rfl) ?_
    obtain rfl := Option.some.inj h
    exact gx_iret hX (gx_dt dt_mi_m_load 11 rfl) rfl hres hwr
  · have h := gx_ifn c2 h
    refine gx_aload_n hX (gx_dt dt_mi_m_load 4 rfl) rfl ?_
    refine gx_iload_n hX (gx_dt dt_mi_m_load 5 rfl) rfl ?_
    obtain ⟨r4, e_r4, h⟩ := gx_bd h
    refine gx_callVi hX (gx_dt dt_mi_m_load 6 rfl) ln_D_185_m_loadOf mo_m_loadOf mv_m_loadOf (gx_rmb rfl) sh_m_0 ⟨_, _, rfl⟩ rfl (k_m_loadOf e_r4) rfl rfl (Nat.le_of_ble_eq_true rfl) ?_
    refine gx_goto hX (tgt := 21) (gx_dt dt_mi_m_load 7 rfl) (by decide) ?_
    obtain rfl := Option.some.inj h
    exact gx_iret hX (gx_dt dt_mi_m_load 11 rfl) rfl hres hwr
-- EachBearsPillarModel.falls(I)Z
def m_falls (a1 : Int32) (w : gx_Wd) : Option (Int32 × gx_Wd) :=
  (m_hasEnds a1 w).bind fun r1 =>
  if r1.1 = 0 then
    some (0, r1.2)
  else
  (gx_ald sh_m r1.2 5 a1).bind fun v3 =>
  if v3 ≤ 0 then
    some (0, r1.2)
  else
  (m_bears a1 r1.2).bind fun r5 =>
  if r5.1 = 0 then
    (m_bears (a1 + 1) r5.2).bind fun r7 =>
    if r7.1 = 0 then
      some (1, r7.2)
    else
      some (0, r7.2)
  else
    some (0, r5.2)
theorem k_m_falls {a1 : Int32} {w : gx_Wd} {R : Int32 × gx_Wd} (h : m_falls a1 w = some R) : gx_MT mi_m_falls [.inr 0, .inl a1] w (some (.inl R.1)) R.2 := by
  refine gx_met (by decide +kernel) (Nat.le_of_ble_eq_true rfl) (fun X hX hres hwr => ?_)
  show gx_G X mi_m_falls 0 [some (.inr 0), some (.inl a1)] [] w
  rw [m_falls] at h
  refine gx_aload_n hX (gx_dt dt_mi_m_falls 0 rfl) rfl ?_
  refine gx_iload_n hX (gx_dt dt_mi_m_falls 1 rfl) rfl ?_
  obtain ⟨r1, e_r1, h⟩ := gx_bd h
  refine gx_callVi hX (gx_dt dt_mi_m_falls 2 rfl) ln_D_175_m_hasEnds mo_m_hasEnds mv_m_hasEnds (gx_rmb rfl) sh_m_0 ⟨_, _, rfl⟩ rfl (k_m_hasEnds e_r1) rfl rfl (Nat.le_of_ble_eq_true rfl) ?_
  refine gx_if_eq hX (tgt := 39) (gx_dt dt_mi_m_falls 3 rfl) (by decide) (fun c2 => ?_) (fun c2 => ?_)
  · have h := gx_ifp c2 h
    refine gx_iconst hX (v := 0) (gx_dt dt_mi_m_falls 21 rfl) (by decide) ?_
    obtain rfl := Option.some.inj h
    exact gx_zret hX (gx_dt dt_mi_m_falls 22 rfl) rfl rfl hres hwr
  · have h := gx_ifn c2 h
    refine gx_aload_n hX (gx_dt dt_mi_m_falls 4 rfl) rfl ?_
    refine gx_getr hX fl_D_38 sh_m_0 rfl (gx_dt dt_mi_m_falls 5 rfl) ?_
    refine gx_iload_n hX (gx_dt dt_mi_m_falls 6 rfl) rfl ?_
    obtain ⟨v3, e_v3, h⟩ := gx_bd h
    refine gx_iald hX e_v3 (gx_dt dt_mi_m_falls 7 rfl) ?_
    refine gx_if_le hX (tgt := 39) (gx_dt dt_mi_m_falls 8 rfl) (by decide) (fun c4 => ?_) (fun c4 => ?_)
    · have h := gx_ifp c4 h
      refine gx_iconst hX (v := 0) (gx_dt dt_mi_m_falls 21 rfl) (by decide) ?_
      obtain rfl := Option.some.inj h
      exact gx_zret hX (gx_dt dt_mi_m_falls 22 rfl) rfl rfl hres hwr
    · have h := gx_ifn c4 h
      refine gx_aload_n hX (gx_dt dt_mi_m_falls 9 rfl) rfl ?_
      refine gx_iload_n hX (gx_dt dt_mi_m_falls 10 rfl) rfl ?_
      obtain ⟨r5, e_r5, h⟩ := gx_bd h
      refine gx_callVi hX (gx_dt dt_mi_m_falls 11 rfl) ln_D_178_m_bears mo_m_bears mv_m_bears (gx_rmb rfl) sh_m_0 ⟨_, _, rfl⟩ rfl (k_m_bears e_r5) rfl rfl (Nat.le_of_ble_eq_true rfl) ?_
      refine gx_if_ne hX (tgt := 39) (gx_dt dt_mi_m_falls 12 rfl) (by decide) (fun c6 => ?_) (fun c6 => ?_)
      · have h := gx_ifn c6 h
        refine gx_iconst hX (v := 0) (gx_dt dt_mi_m_falls 21 rfl) (by decide) ?_
        obtain rfl := Option.some.inj h
        exact gx_zret hX (gx_dt dt_mi_m_falls 22 rfl) rfl rfl hres hwr
      · have h := gx_ifp c6 h
        refine gx_aload_n hX (gx_dt dt_mi_m_falls 13 rfl) rfl ?_
        refine gx_iload_n hX (gx_dt dt_mi_m_falls 14 rfl) rfl ?_
        refine gx_iconst hX (v := 1) (gx_dt dt_mi_m_falls 15 rfl) (by decide) ?_
        refine gx_iadd hX (gx_dt dt_mi_m_falls 16 rfl) ?_
        obtain ⟨r7, e_r7, h⟩ := gx_bd h
        refine gx_callVi hX (gx_dt dt_mi_m_falls 17 rfl) ln_D_178_m_bears mo_m_bears mv_m_bears (gx_rmb rfl) sh_m_0 ⟨_, _, rfl⟩ rfl (k_m_bears e_r7) rfl rfl (Nat.le_of_ble_eq_true rfl) ?_
        refine gx_if_ne hX (tgt := 39) (gx_dt dt_mi_m_falls 18 rfl) (by decide) (fun c8 => ?_) (fun c8 => ?_)
        · have h := gx_ifn c8 h
          refine gx_iconst hX (v := 0) (gx_dt dt_mi_m_falls 21 rfl) (by decide) ?_
          obtain rfl := Option.some.inj h
          exact gx_zret hX (gx_dt dt_mi_m_falls 22 rfl) rfl rfl hres hwr
        · have h := gx_ifp c8 h
          refine gx_iconst hX (v := 1) (gx_dt dt_mi_m_falls 19 rfl) (by decide) ?_
          refine gx_goto hX (tgt := 40) (gx_dt dt_mi_m_falls 20 rfl) (by decide) ?_
          obtain rfl := Option.some.inj h
          exact gx_zret hX (gx_dt dt_mi_m_falls 22 rfl) rfl rfl hres hwr
