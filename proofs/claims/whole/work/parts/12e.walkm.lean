-- EachBearsPillarModel.judge()I
def m_judge (w : gx_Wd) : Option (Int32 × gx_Wd) :=
  (m_judged w).bind fun r1 =>
  (gx_put r1.2 0 4 0).bind fun w2 =>
  some (r1.1, w2)
theorem k_m_judge {w : gx_Wd} {R : Int32 × gx_Wd} (h : m_judge w = some R) : gx_MT mi_m_judge [.inr 0] w (some (.inl R.1)) R.2 := by
  refine gx_met (by decide +kernel) (Nat.le_of_ble_eq_true rfl) (fun X hX hres hwr => ?_)
  show gx_G X mi_m_judge 0 [some (.inr 0)] [] w
  rw [m_judge] at h
  refine gx_aload_n hX (gx_dt dt_mi_m_judge 0 rfl) rfl ?_
  obtain ⟨r1, e_r1, h⟩ := gx_bd h
  refine gx_callVi hX (gx_dt dt_mi_m_judge 1 rfl) ln_D_222_m_judged mo_m_judged mv_m_judged (gx_rmb rfl) sh_m_0 ⟨_, _, rfl⟩ rfl (k_m_judged e_r1) rfl rfl (Nat.le_of_ble_eq_true rfl) ?_
  refine gx_istore_n hX (ls' := [some (.inr 0), some (.inl (r1.1))]) (gx_dt dt_mi_m_judge 2 rfl) (by decide) rfl ?_
  refine gx_aload_n hX (gx_dt dt_mi_m_judge 3 rfl) rfl ?_
  refine gx_iconst hX (v := 0) (gx_dt dt_mi_m_judge 4 rfl) (by decide) ?_
  obtain ⟨w2, e_w2, h⟩ := gx_bd h
  refine gx_putp hX fl_D_22 (pf_D_4 _) sh_m_0 rfl e_w2 (gx_dt dt_mi_m_judge 5 rfl) ?_
  refine gx_iload_n hX (gx_dt dt_mi_m_judge 6 rfl) rfl ?_
  obtain rfl := Option.some.inj h
  exact gx_iret hX (gx_dt dt_mi_m_judge 7 rfl) rfl hres hwr
-- EachBearsPillarModel.isHeldAt(II)Z
def m_isHeldAt (a1 : Int32) (a2 : Int32) (w : gx_Wd) : Option (Int32 × gx_Wd) :=
  (gx_put w 0 1 a1).bind fun w1 =>
  (gx_put w1 0 2 a2).bind fun w2 =>
  (m_isHeld w2).bind fun r3 =>
  (gx_put r3.2 0 1 (w 0 1)).bind fun w4 =>
  (gx_put w4 0 2 (w 0 2)).bind fun w5 =>
  if r3.1 = 0 ∨ r3.1 = 1 then some (r3.1, w5) else none
theorem k_m_isHeldAt {a1 : Int32} {a2 : Int32} {w : gx_Wd} {R : Int32 × gx_Wd} (h : m_isHeldAt a1 a2 w = some R) : gx_MT mi_m_isHeldAt [.inr 0, .inl a1, .inl a2] w (some (.inl R.1)) R.2 := by
  refine gx_met (by decide +kernel) (Nat.le_of_ble_eq_true rfl) (fun X hX hres hwr => ?_)
  show gx_G X mi_m_isHeldAt 0 [some (.inr 0), some (.inl a1), some (.inl a2)] [] w
  rw [m_isHeldAt] at h
  refine gx_aload_n hX (gx_dt dt_mi_m_isHeldAt 0 rfl) rfl ?_
  refine gx_geti hX fl_D_13 sh_m_0 rfl (gx_dt dt_mi_m_isHeldAt 1 rfl) ?_
  refine gx_istore_n hX (ls' := [some (.inr 0), some (.inl a1), some (.inl a2), some (.inl (w 0 1))]) (gx_dt dt_mi_m_isHeldAt 2 rfl) (by decide) rfl ?_
  refine gx_aload_n hX (gx_dt dt_mi_m_isHeldAt 3 rfl) rfl ?_
  refine gx_geti hX fl_D_16 sh_m_0 rfl (gx_dt dt_mi_m_isHeldAt 4 rfl) ?_
  refine gx_istore hX (ls' := [some (.inr 0), some (.inl a1), some (.inl a2), some (.inl (w 0 1)), some (.inl (w 0 2))]) (gx_dt dt_mi_m_isHeldAt 5 rfl) (by decide) rfl ?_
  refine gx_aload_n hX (gx_dt dt_mi_m_isHeldAt 6 rfl) rfl ?_
  refine gx_iload_n hX (gx_dt dt_mi_m_isHeldAt 7 rfl) rfl ?_
  obtain ⟨w1, e_w1, h⟩ := gx_bd h
  refine gx_putp hX fl_D_13 (pf_D_1 _) sh_m_0 rfl e_w1 (gx_dt dt_mi_m_isHeldAt 8 rfl) ?_
  refine gx_aload_n hX (gx_dt dt_mi_m_isHeldAt 9 rfl) rfl ?_
  refine gx_iload_n hX (gx_dt dt_mi_m_isHeldAt 10 rfl) rfl ?_
  obtain ⟨w2, e_w2, h⟩ := gx_bd h
  refine gx_putp hX fl_D_16 (pf_D_2 _) sh_m_0 rfl e_w2 (gx_dt dt_mi_m_isHeldAt 11 rfl) ?_
  refine gx_aload_n hX (gx_dt dt_mi_m_isHeldAt 12 rfl) rfl ?_
  obtain ⟨r3, e_r3, h⟩ := gx_bd h
  refine gx_callVi hX (gx_dt dt_mi_m_isHeldAt 13 rfl) ln_D_203_m_isHeld mo_m_isHeld mv_m_isHeld (gx_rmb rfl) sh_m_0 ⟨_, _, rfl⟩ rfl (k_m_isHeld e_r3) rfl rfl (Nat.le_of_ble_eq_true rfl) ?_
  refine gx_istore hX (ls' := [some (.inr 0), some (.inl a1), some (.inl a2), some (.inl (w 0 1)), some (.inl (w 0 2)), some (.inl (r3.1))]) (gx_dt dt_mi_m_isHeldAt 14 rfl) (by decide) rfl ?_
  refine gx_aload_n hX (gx_dt dt_mi_m_isHeldAt 15 rfl) rfl ?_
  refine gx_iload_n hX (gx_dt dt_mi_m_isHeldAt 16 rfl) rfl ?_
  obtain ⟨w4, e_w4, h⟩ := gx_bd h
  refine gx_putp hX fl_D_13 (pf_D_1 _) sh_m_0 rfl e_w4 (gx_dt dt_mi_m_isHeldAt 17 rfl) ?_
  refine gx_aload_n hX (gx_dt dt_mi_m_isHeldAt 18 rfl) rfl ?_
  refine gx_iload hX (gx_dt dt_mi_m_isHeldAt 19 rfl) rfl ?_
  obtain ⟨w5, e_w5, h⟩ := gx_bd h
  refine gx_putp hX fl_D_16 (pf_D_2 _) sh_m_0 rfl e_w5 (gx_dt dt_mi_m_isHeldAt 20 rfl) ?_
  refine gx_iload hX (gx_dt dt_mi_m_isHeldAt 21 rfl) rfl ?_
  obtain ⟨c, h⟩ := gx_01 h
  obtain rfl := Option.some.inj h
  exact gx_zret hX (gx_dt dt_mi_m_isHeldAt 22 rfl) rfl (gx_nar c) hres hwr
-- EachBearsPillarModel.reaches(III)V
def m_reaches (a1 : Int32) (a2 : Int32) (a3 : Int32) (w : gx_Wd) : Option (gx_Wd) :=
  (m_lastAt w).bind fun r1 =>
  (m_in a1 0 r1.1 r1.2).bind fun r2 =>
  if r2.1 = 0 then
    some r2.2
  else
  (m_in a2 0 27 r2.2).bind fun r4 =>
  if r4.1 = 0 then
    some r4.2
  else
  (gx_ald sh_m r4.2 11 ((28 * a1) + a2)).bind fun v6 =>
  if 0 ≤ v6 then
    some r4.2
  else
  (m_isHeldAt a1 a2 r4.2).bind fun r8 =>
  if r8.1 = 0 then
    some r8.2
  else
    (gx_ast sh_m r8.2 11 ((28 * a1) + a2) a3).bind fun w10 =>
    (gx_ast sh_m w10 12 (w10 0 22) ((28 * a1) + a2)).bind fun w11 =>
    (gx_put w11 0 22 ((w11 0 22) + 1)).bind fun w12 =>
    some w12
theorem k_m_reaches {a1 : Int32} {a2 : Int32} {a3 : Int32} {w : gx_Wd} {R : gx_Wd} (h : m_reaches a1 a2 a3 w = some R) : gx_MT mi_m_reaches [.inr 0, .inl a1, .inl a2, .inl a3] w none R := by
  refine gx_met (by decide +kernel) (Nat.le_of_ble_eq_true rfl) (fun X hX hres hwr => ?_)
  show gx_G X mi_m_reaches 0 [some (.inr 0), some (.inl a1), some (.inl a2), some (.inl a3)] [] w
  rw [m_reaches] at h
  refine gx_aload_n hX (gx_dt dt_mi_m_reaches 0 rfl) rfl ?_
  refine gx_iload_n hX (gx_dt dt_mi_m_reaches 1 rfl) rfl ?_
  refine gx_iconst hX (v := 0) (gx_dt dt_mi_m_reaches 2 rfl) (by decide) ?_
  refine gx_aload_n hX (gx_dt dt_mi_m_reaches 3 rfl) rfl ?_
  obtain ⟨r1, e_r1, h⟩ := gx_bd h
  refine gx_callVi hX (gx_dt dt_mi_m_reaches 4 rfl) ln_D_200_m_lastAt mo_m_lastAt mv_m_lastAt (gx_rmb rfl) sh_m_0 ⟨_, _, rfl⟩ rfl (k_m_lastAt e_r1) rfl rfl (Nat.le_of_ble_eq_true rfl) ?_
  obtain ⟨r2, e_r2, h⟩ := gx_bd h
  refine gx_callVi hX (gx_dt dt_mi_m_reaches 5 rfl) ln_D_117_m_in mo_m_in mv_m_in (gx_rmb rfl) sh_m_0 ⟨_, _, rfl⟩ rfl (k_m_in e_r2) rfl rfl (Nat.le_of_ble_eq_true rfl) ?_
  refine gx_if_eq hX (tgt := 47) (gx_dt dt_mi_m_reaches 6 rfl) (by decide) (fun c3 => ?_) (fun c3 => ?_)
  · have h := gx_ifp c3 h
    obtain rfl := Option.some.inj h
    exact gx_vret hX (gx_dt dt_mi_m_reaches 27 rfl) rfl hres hwr
  · have h := gx_ifn c3 h
    refine gx_aload_n hX (gx_dt dt_mi_m_reaches 7 rfl) rfl ?_
    refine gx_iload_n hX (gx_dt dt_mi_m_reaches 8 rfl) rfl ?_
    refine gx_iconst hX (v := 0) (gx_dt dt_mi_m_reaches 9 rfl) (by decide) ?_
    refine gx_bipush hX (v := 27) (gx_dt dt_mi_m_reaches 10 rfl) (by decide) ?_
    obtain ⟨r4, e_r4, h⟩ := gx_bd h
    refine gx_callVi hX (gx_dt dt_mi_m_reaches 11 rfl) ln_D_117_m_in mo_m_in mv_m_in (gx_rmb rfl) sh_m_0 ⟨_, _, rfl⟩ rfl (k_m_in e_r4) rfl rfl (Nat.le_of_ble_eq_true rfl) ?_
    refine gx_if_eq hX (tgt := 47) (gx_dt dt_mi_m_reaches 12 rfl) (by decide) (fun c5 => ?_) (fun c5 => ?_)
    · have h := gx_ifp c5 h
      obtain rfl := Option.some.inj h
      exact gx_vret hX (gx_dt dt_mi_m_reaches 27 rfl) rfl hres hwr
    · have h := gx_ifn c5 h
      refine gx_aload_n hX (gx_dt dt_mi_m_reaches 13 rfl) rfl ?_
      refine gx_getr hX fl_D_71 sh_m_0 rfl (gx_dt dt_mi_m_reaches 14 rfl) ?_
      refine gx_bipush hX (v := 28) (gx_dt dt_mi_m_reaches 15 rfl) (by decide) ?_
      refine gx_iload_n hX (gx_dt dt_mi_m_reaches 16 rfl) rfl ?_
      refine gx_imul hX (gx_dt dt_mi_m_reaches 17 rfl) ?_
      refine gx_iload_n hX (gx_dt dt_mi_m_reaches 18 rfl) rfl ?_
      refine gx_iadd hX (gx_dt dt_mi_m_reaches 19 rfl) ?_
      obtain ⟨v6, e_v6, h⟩ := gx_bd h
      refine gx_iald hX e_v6 (gx_dt dt_mi_m_reaches 20 rfl) ?_
      refine gx_if_ge hX (tgt := 47) (gx_dt dt_mi_m_reaches 21 rfl) (by decide) (fun c7 => ?_) (fun c7 => ?_)
      · have h := gx_ifp c7 h
        obtain rfl := Option.some.inj h
        exact gx_vret hX (gx_dt dt_mi_m_reaches 27 rfl) rfl hres hwr
      · have h := gx_ifn c7 h
        refine gx_aload_n hX (gx_dt dt_mi_m_reaches 22 rfl) rfl ?_
        refine gx_iload_n hX (gx_dt dt_mi_m_reaches 23 rfl) rfl ?_
        refine gx_iload_n hX (gx_dt dt_mi_m_reaches 24 rfl) rfl ?_
        obtain ⟨r8, e_r8, h⟩ := gx_bd h
        refine gx_callVi hX (gx_dt dt_mi_m_reaches 25 rfl) ln_D_225_m_isHeldAt mo_m_isHeldAt mv_m_isHeldAt (gx_rmb rfl) sh_m_0 ⟨_, _, rfl⟩ rfl (k_m_isHeldAt e_r8) rfl rfl (Nat.le_of_ble_eq_true rfl) ?_
        refine gx_if_ne hX (tgt := 48) (gx_dt dt_mi_m_reaches 26 rfl) (by decide) (fun c9 => ?_) (fun c9 => ?_)
        · have h := gx_ifn c9 h
          refine gx_aload_n hX (gx_dt dt_mi_m_reaches 28 rfl) rfl ?_
          refine gx_getr hX fl_D_71 sh_m_0 rfl (gx_dt dt_mi_m_reaches 29 rfl) ?_
          refine gx_bipush hX (v := 28) (gx_dt dt_mi_m_reaches 30 rfl) (by decide) ?_
          refine gx_iload_n hX (gx_dt dt_mi_m_reaches 31 rfl) rfl ?_
          refine gx_imul hX (gx_dt dt_mi_m_reaches 32 rfl) ?_
          refine gx_iload_n hX (gx_dt dt_mi_m_reaches 33 rfl) rfl ?_
          refine gx_iadd hX (gx_dt dt_mi_m_reaches 34 rfl) ?_
          refine gx_iload_n hX (gx_dt dt_mi_m_reaches 35 rfl) rfl ?_
          obtain ⟨w10, e_w10, h⟩ := gx_bd h
          refine gx_iast hX e_w10 (gx_dt dt_mi_m_reaches 36 rfl) ?_
          refine gx_aload_n hX (gx_dt dt_mi_m_reaches 37 rfl) rfl ?_
          refine gx_getr hX fl_D_74 sh_m_0 rfl (gx_dt dt_mi_m_reaches 38 rfl) ?_
          refine gx_aload_n hX (gx_dt dt_mi_m_reaches 39 rfl) rfl ?_
          refine gx_geti hX fl_D_77 sh_m_0 rfl (gx_dt dt_mi_m_reaches 40 rfl) ?_
          refine gx_bipush hX (v := 28) (gx_dt dt_mi_m_reaches 41 rfl) (by decide) ?_
          refine gx_iload_n hX (gx_dt dt_mi_m_reaches 42 rfl) rfl ?_
          refine gx_imul hX (gx_dt dt_mi_m_reaches 43 rfl) ?_
          refine gx_iload_n hX (gx_dt dt_mi_m_reaches 44 rfl) rfl ?_
          refine gx_iadd hX (gx_dt dt_mi_m_reaches 45 rfl) ?_
          obtain ⟨w11, e_w11, h⟩ := gx_bd h
          refine gx_iast hX e_w11 (gx_dt dt_mi_m_reaches 46 rfl) ?_
          refine gx_aload_n hX (gx_dt dt_mi_m_reaches 47 rfl) rfl ?_
          refine gx_dup hX (gx_dt dt_mi_m_reaches 48 rfl) ?_
          refine gx_geti hX fl_D_77 sh_m_0 rfl (gx_dt dt_mi_m_reaches 49 rfl) ?_
          refine gx_iconst hX (v := 1) (gx_dt dt_mi_m_reaches 50 rfl) (by decide) ?_
          refine gx_iadd hX (gx_dt dt_mi_m_reaches 51 rfl) ?_
          obtain ⟨w12, e_w12, h⟩ := gx_bd h
          refine gx_putp hX fl_D_77 (pf_D_22 _) sh_m_0 rfl e_w12 (gx_dt dt_mi_m_reaches 52 rfl) ?_
          obtain rfl := Option.some.inj h
          exact gx_vret hX (gx_dt dt_mi_m_reaches 53 rfl) rfl hres hwr
        · have h := gx_ifp c9 h
          obtain rfl := Option.some.inj h
          exact gx_vret hX (gx_dt dt_mi_m_reaches 27 rfl) rfl hres hwr
-- EachBearsPillarModel.layWays()V
def m_layWays_42 : Nat → Int32 → gx_Wd → Option (gx_Wd)
  | 0, _, _ => none
  | n + 1, b1, w =>
  if w 0 22 ≤ b1 then
    some w
  else
  (gx_ald sh_m w 12 b1).bind fun v2 =>
  (some (v2 / 28)).bind fun v3 =>
  (gx_ald sh_m w 12 b1).bind fun v4 =>
  (some (v4 - v4 / 28 * 28)).bind fun v5 =>
  (gx_ald sh_m w 12 b1).bind fun v6 =>
  (gx_ald sh_m w 11 v6).bind fun v7 =>
  (some (v7 + 1)).bind fun v8 =>
  (m_reaches (v3 + 1) v5 v8 w).bind fun r9 =>
  (m_reaches (v3 - 1) v5 v8 r9).bind fun r10 =>
  (m_reaches v3 (v5 + 1) v8 r10).bind fun r11 =>
  (m_reaches v3 (v5 - 1) v8 r11).bind fun r12 =>
  (some (b1 + 1)).bind fun v13 =>
  (m_layWays_42 n) v13 r12
def m_layWays_22 (w : gx_Wd) : Option (gx_Wd) :=
  (gx_put w 0 22 0).bind fun w1 =>
  (m_reaches (w1 0 1) (w1 0 2) 0 w1).bind fun r2 =>
  m_layWays_42 6000 0 r2
def m_layWays_2 : Nat → Int32 → gx_Wd → Option (gx_Wd)
  | 0, _, _ => none
  | n + 1, b1, w =>
  if 448 ≤ b1 then
    m_layWays_22 w
  else
  (gx_ast sh_m w 11 b1 (-1)).bind fun w2 =>
  (some (b1 + 1)).bind fun v3 =>
  (m_layWays_2 n) v3 w2
def m_layWays (w : gx_Wd) : Option (gx_Wd) :=
  m_layWays_2 6000 0 w
theorem t_m_layWays_42 {X : gx_X} (hX : gx_Ok X mi_m_layWays) {R : gx_Wd} (hres : gx_res X = none) (hwr : gx_wr X = R) : ∀ (n : Nat) (b1 : Int32) (w : gx_Wd), m_layWays_42 n b1 w = some R → gx_G X mi_m_layWays 42 [some (.inr 0), some (.inl b1)] [] w := by
  intro n
  induction n with
  | zero => intro b1 w h; rw [m_layWays_42] at h; cases h
  | succ n ih =>
    intro b1 w h
    rw [m_layWays_42] at h
    refine gx_iload_n hX (gx_dt dt_mi_m_layWays 24 rfl) rfl ?_
    refine gx_aload_n hX (gx_dt dt_mi_m_layWays 25 rfl) rfl ?_
    refine gx_geti hX fl_D_77 sh_m_0 rfl (gx_dt dt_mi_m_layWays 26 rfl) ?_
    refine gx_ic_ge hX (tgt := 131) (gx_dt dt_mi_m_layWays 27 rfl) (by decide) (fun c1 => ?_) (fun c1 => ?_)
    · have h := gx_ifp c1 h
      obtain rfl := Option.some.inj h
      exact gx_vret hX (gx_dt dt_mi_m_layWays 82 rfl) rfl hres hwr
    · have h := gx_ifn c1 h
      refine gx_aload_n hX (gx_dt dt_mi_m_layWays 28 rfl) rfl ?_
      refine gx_getr hX fl_D_74 sh_m_0 rfl (gx_dt dt_mi_m_layWays 29 rfl) ?_
      refine gx_iload_n hX (gx_dt dt_mi_m_layWays 30 rfl) rfl ?_
      obtain ⟨v2, e_v2, h⟩ := gx_bd h
      refine gx_iald hX e_v2 (gx_dt dt_mi_m_layWays 31 rfl) ?_
      refine gx_bipush hX (v := 28) (gx_dt dt_mi_m_layWays 32 rfl) (by decide) ?_
      refine gx_idiv hX (gx_dt dt_mi_m_layWays 33 rfl) (by decide) ?_
      obtain ⟨v3, e_v3, h⟩ := gx_bd h
      refine gx_top e_v3 ?_
      refine gx_istore_n hX (ls' := [some (.inr 0), some (.inl b1), some (.inl v3)]) (gx_dt dt_mi_m_layWays 34 rfl) (by decide) rfl ?_
      refine gx_aload_n hX (gx_dt dt_mi_m_layWays 35 rfl) rfl ?_
      refine gx_getr hX fl_D_74 sh_m_0 rfl (gx_dt dt_mi_m_layWays 36 rfl) ?_
      refine gx_iload_n hX (gx_dt dt_mi_m_layWays 37 rfl) rfl ?_
      obtain ⟨v4, e_v4, h⟩ := gx_bd h
      refine gx_iald hX e_v4 (gx_dt dt_mi_m_layWays 38 rfl) ?_
      refine gx_bipush hX (v := 28) (gx_dt dt_mi_m_layWays 39 rfl) (by decide) ?_
      refine gx_irem hX (gx_dt dt_mi_m_layWays 40 rfl) (by decide) ?_
      obtain ⟨v5, e_v5, h⟩ := gx_bd h
      refine gx_top e_v5 ?_
      refine gx_istore_n hX (ls' := [some (.inr 0), some (.inl b1), some (.inl v3), some (.inl v5)]) (gx_dt dt_mi_m_layWays 41 rfl) (by decide) rfl ?_
      refine gx_aload_n hX (gx_dt dt_mi_m_layWays 42 rfl) rfl ?_
      refine gx_getr hX fl_D_71 sh_m_0 rfl (gx_dt dt_mi_m_layWays 43 rfl) ?_
      refine gx_aload_n hX (gx_dt dt_mi_m_layWays 44 rfl) rfl ?_
      refine gx_getr hX fl_D_74 sh_m_0 rfl (gx_dt dt_mi_m_layWays 45 rfl) ?_
      refine gx_iload_n hX (gx_dt dt_mi_m_layWays 46 rfl) rfl ?_
      obtain ⟨v6, e_v6, h⟩ := gx_bd h
      refine gx_iald hX e_v6 (gx_dt dt_mi_m_layWays 47 rfl) ?_
      obtain ⟨v7, e_v7, h⟩ := gx_bd h
      refine gx_iald hX e_v7 (gx_dt dt_mi_m_layWays 48 rfl) ?_
      refine gx_iconst hX (v := 1) (gx_dt dt_mi_m_layWays 49 rfl) (by decide) ?_
      refine gx_iadd hX (gx_dt dt_mi_m_layWays 50 rfl) ?_
      obtain ⟨v8, e_v8, h⟩ := gx_bd h
      refine gx_top e_v8 ?_
      refine gx_istore hX (ls' := [some (.inr 0), some (.inl b1), some (.inl v3), some (.inl v5), some (.inl v8)]) (gx_dt dt_mi_m_layWays 51 rfl) (by decide) rfl ?_
      refine gx_aload_n hX (gx_dt dt_mi_m_layWays 52 rfl) rfl ?_
      refine gx_iload_n hX (gx_dt dt_mi_m_layWays 53 rfl) rfl ?_
      refine gx_iconst hX (v := 1) (gx_dt dt_mi_m_layWays 54 rfl) (by decide) ?_
      refine gx_iadd hX (gx_dt dt_mi_m_layWays 55 rfl) ?_
      refine gx_iload_n hX (gx_dt dt_mi_m_layWays 56 rfl) rfl ?_
      refine gx_iload hX (gx_dt dt_mi_m_layWays 57 rfl) rfl ?_
      obtain ⟨r9, e_r9, h⟩ := gx_bd h
      refine gx_callVv hX (gx_dt dt_mi_m_layWays 58 rfl) ln_D_228_m_reaches mo_m_reaches mv_m_reaches (gx_rmb rfl) sh_m_0 ⟨_, _, rfl⟩ rfl (k_m_reaches e_r9) rfl rfl (Nat.le_of_ble_eq_true rfl) ?_
      refine gx_aload_n hX (gx_dt dt_mi_m_layWays 59 rfl) rfl ?_
      refine gx_iload_n hX (gx_dt dt_mi_m_layWays 60 rfl) rfl ?_
      refine gx_iconst hX (v := 1) (gx_dt dt_mi_m_layWays 61 rfl) (by decide) ?_
      refine gx_isub hX (gx_dt dt_mi_m_layWays 62 rfl) ?_
      refine gx_iload_n hX (gx_dt dt_mi_m_layWays 63 rfl) rfl ?_
      refine gx_iload hX (gx_dt dt_mi_m_layWays 64 rfl) rfl ?_
      obtain ⟨r10, e_r10, h⟩ := gx_bd h
      refine gx_callVv hX (gx_dt dt_mi_m_layWays 65 rfl) ln_D_228_m_reaches mo_m_reaches mv_m_reaches (gx_rmb rfl) sh_m_0 ⟨_, _, rfl⟩ rfl (k_m_reaches e_r10) rfl rfl (Nat.le_of_ble_eq_true rfl) ?_
      refine gx_aload_n hX (gx_dt dt_mi_m_layWays 66 rfl) rfl ?_
      refine gx_iload_n hX (gx_dt dt_mi_m_layWays 67 rfl) rfl ?_
      refine gx_iload_n hX (gx_dt dt_mi_m_layWays 68 rfl) rfl ?_
      refine gx_iconst hX (v := 1) (gx_dt dt_mi_m_layWays 69 rfl) (by decide) ?_
      refine gx_iadd hX (gx_dt dt_mi_m_layWays 70 rfl) ?_
      refine gx_iload hX (gx_dt dt_mi_m_layWays 71 rfl) rfl ?_
      obtain ⟨r11, e_r11, h⟩ := gx_bd h
      refine gx_callVv hX (gx_dt dt_mi_m_layWays 72 rfl) ln_D_228_m_reaches mo_m_reaches mv_m_reaches (gx_rmb rfl) sh_m_0 ⟨_, _, rfl⟩ rfl (k_m_reaches e_r11) rfl rfl (Nat.le_of_ble_eq_true rfl) ?_
      refine gx_aload_n hX (gx_dt dt_mi_m_layWays 73 rfl) rfl ?_
      refine gx_iload_n hX (gx_dt dt_mi_m_layWays 74 rfl) rfl ?_
      refine gx_iload_n hX (gx_dt dt_mi_m_layWays 75 rfl) rfl ?_
      refine gx_iconst hX (v := 1) (gx_dt dt_mi_m_layWays 76 rfl) (by decide) ?_
      refine gx_isub hX (gx_dt dt_mi_m_layWays 77 rfl) ?_
      refine gx_iload hX (gx_dt dt_mi_m_layWays 78 rfl) rfl ?_
      obtain ⟨r12, e_r12, h⟩ := gx_bd h
      refine gx_callVv hX (gx_dt dt_mi_m_layWays 79 rfl) ln_D_228_m_reaches mo_m_reaches mv_m_reaches (gx_rmb rfl) sh_m_0 ⟨_, _, rfl⟩ rfl (k_m_reaches e_r12) rfl rfl (Nat.le_of_ble_eq_true rfl) ?_
      obtain ⟨v13, e_v13, h⟩ := gx_bd h
      refine gx_iinc hX (v := v13) (ls' := [some (.inr 0), some (.inl v13), some (.inl v3), some (.inl v5), some (.inl v8)]) (gx_dt dt_mi_m_layWays 80 rfl) rfl (gx_ii e_v13 (by decide)) (by decide) rfl ?_
      refine gx_goto hX (tgt := 42) (gx_dt dt_mi_m_layWays 81 rfl) (by decide) ?_
      exact gx_weak (gx_leS (gx_leS gx_le0)) (ih _ _ h)
theorem t_m_layWays_22 {X : gx_X} (hX : gx_Ok X mi_m_layWays) {R : gx_Wd} (hres : gx_res X = none) (hwr : gx_wr X = R) (w : gx_Wd) (h : m_layWays_22 w = some R) : gx_G X mi_m_layWays 22 [some (.inr 0)] [] w := by
  rw [m_layWays_22] at h
  refine gx_aload_n hX (gx_dt dt_mi_m_layWays 12 rfl) rfl ?_
  refine gx_iconst hX (v := 0) (gx_dt dt_mi_m_layWays 13 rfl) (by decide) ?_
  obtain ⟨w1, e_w1, h⟩ := gx_bd h
  refine gx_putp hX fl_D_77 (pf_D_22 _) sh_m_0 rfl e_w1 (gx_dt dt_mi_m_layWays 14 rfl) ?_
  refine gx_aload_n hX (gx_dt dt_mi_m_layWays 15 rfl) rfl ?_
  refine gx_aload_n hX (gx_dt dt_mi_m_layWays 16 rfl) rfl ?_
  refine gx_geti hX fl_D_13 sh_m_0 rfl (gx_dt dt_mi_m_layWays 17 rfl) ?_
  refine gx_aload_n hX (gx_dt dt_mi_m_layWays 18 rfl) rfl ?_
  refine gx_geti hX fl_D_16 sh_m_0 rfl (gx_dt dt_mi_m_layWays 19 rfl) ?_
  refine gx_iconst hX (v := 0) (gx_dt dt_mi_m_layWays 20 rfl) (by decide) ?_
  obtain ⟨r2, e_r2, h⟩ := gx_bd h
  refine gx_callVv hX (gx_dt dt_mi_m_layWays 21 rfl) ln_D_228_m_reaches mo_m_reaches mv_m_reaches (gx_rmb rfl) sh_m_0 ⟨_, _, rfl⟩ rfl (k_m_reaches e_r2) rfl rfl (Nat.le_of_ble_eq_true rfl) ?_
  refine gx_iconst hX (v := 0) (gx_dt dt_mi_m_layWays 22 rfl) (by decide) ?_
  refine gx_istore_n hX (ls' := [some (.inr 0), some (.inl (0))]) (gx_dt dt_mi_m_layWays 23 rfl) (by decide) rfl ?_
  exact gx_weak (gx_leS (gx_leS gx_le0)) (t_m_layWays_42 hX hres hwr _ _ _ h)
theorem t_m_layWays_2 {X : gx_X} (hX : gx_Ok X mi_m_layWays) {R : gx_Wd} (hres : gx_res X = none) (hwr : gx_wr X = R) : ∀ (n : Nat) (b1 : Int32) (w : gx_Wd), m_layWays_2 n b1 w = some R → gx_G X mi_m_layWays 2 [some (.inr 0), some (.inl b1)] [] w := by
  intro n
  induction n with
  | zero => intro b1 w h; rw [m_layWays_2] at h; cases h
  | succ n ih =>
    intro b1 w h
    rw [m_layWays_2] at h
    refine gx_iload_n hX (gx_dt dt_mi_m_layWays 2 rfl) rfl ?_
    refine gx_sipush hX (v := 448) (gx_dt dt_mi_m_layWays 3 rfl) (by decide) ?_
    refine gx_ic_ge hX (tgt := 22) (gx_dt dt_mi_m_layWays 4 rfl) (by decide) (fun c1 => ?_) (fun c1 => ?_)
    · have h := gx_ifp c1 h
      exact gx_weak (gx_leS gx_le0) (t_m_layWays_22 hX hres hwr _ h)
    · have h := gx_ifn c1 h
      refine gx_aload_n hX (gx_dt dt_mi_m_layWays 5 rfl) rfl ?_
      refine gx_getr hX fl_D_71 sh_m_0 rfl (gx_dt dt_mi_m_layWays 6 rfl) ?_
      refine gx_iload_n hX (gx_dt dt_mi_m_layWays 7 rfl) rfl ?_
      refine gx_iconst hX (v := (-1)) (gx_dt dt_mi_m_layWays 8 rfl) (by decide) ?_
      obtain ⟨w2, e_w2, h⟩ := gx_bd h
      refine gx_iast hX e_w2 (gx_dt dt_mi_m_layWays 9 rfl) ?_
      obtain ⟨v3, e_v3, h⟩ := gx_bd h
      refine gx_iinc hX (v := v3) (ls' := [some (.inr 0), some (.inl v3)]) (gx_dt dt_mi_m_layWays 10 rfl) rfl (gx_ii e_v3 (by decide)) (by decide) rfl ?_
      refine gx_goto hX (tgt := 2) (gx_dt dt_mi_m_layWays 11 rfl) (by decide) ?_
      exact gx_weak (gx_leS (gx_leS gx_le0)) (ih _ _ h)
theorem k_m_layWays {w : gx_Wd} {R : gx_Wd} (h : m_layWays w = some R) : gx_MT mi_m_layWays [.inr 0] w none R := by
  refine gx_met (by decide +kernel) (Nat.le_of_ble_eq_true rfl) (fun X hX hres hwr => ?_)
  show gx_G X mi_m_layWays 0 [some (.inr 0)] [] w
  rw [m_layWays] at h
  refine gx_iconst hX (v := 0) (gx_dt dt_mi_m_layWays 0 rfl) (by decide) ?_
  refine gx_istore_n hX (ls' := [some (.inr 0), some (.inl (0))]) (gx_dt dt_mi_m_layWays 1 rfl) (by decide) rfl ?_
  exact gx_weak (gx_leS (gx_leS gx_le0)) (t_m_layWays_2 hX hres hwr _ _ _ h)
-- EachBearsPillarModel.way(I)I
def m_way_75 (K35 : Int32 → Int32 → Int32 → gx_Wd → Option (Int32 × gx_Wd)) (b1 : Int32) (b3 : Int32) (s0 : Int32) (w : gx_Wd) : Option (Int32 × gx_Wd) :=
  (some (b3 + 1)).bind fun v1 =>
  K35 b1 s0 v1 w
def m_way_35 : Nat → Int32 → Int32 → Int32 → gx_Wd → Option (Int32 × gx_Wd)
  | 0, _, _, _, _ => none
  | n + 1, b1, b2, b3, w =>
  if 28 ≤ b3 then
    some (b2, w)
  else
  (gx_ald sh_m w 11 ((28 * b1) + b3)).bind fun v2 =>
  if v2 < 0 then
    m_way_75 (m_way_35 n) b1 b3 b2 w
  else
  if b2 < 0 then
    m_way_75 (m_way_35 n) b1 b3 v2 w
  else
  if b2 ≤ v2 then
    m_way_75 (m_way_35 n) b1 b3 b2 w
  else
  m_way_75 (m_way_35 n) b1 b3 v2 w
def m_way (a1 : Int32) (w : gx_Wd) : Option (Int32 × gx_Wd) :=
  if 0 ≤ a1 then
    (m_lastAt w).bind fun r2 =>
    if a1 ≤ r2.1 then
      (m_layWays r2.2).bind fun r4 =>
      m_way_35 6000 a1 (-9) 0 r4
    else
    (m_no (-6) r2.2).bind fun r5 =>
    some (r5.1, r5.2)
  else
  (m_no (-4) w).bind fun r6 =>
  some (r6.1, r6.2)
theorem t_m_way_75 {X : gx_X} (hX : gx_Ok X mi_m_way) {R : Int32 × gx_Wd} (hres : gx_res X = some (.inl R.1)) (hwr : gx_wr X = R.2) {K35 : Int32 → Int32 → Int32 → gx_Wd → Option (Int32 × gx_Wd)} (hK35 : ∀ (b1 : Int32) (b2 : Int32) (b3 : Int32) (w : gx_Wd), K35 b1 b2 b3 w = some R → gx_G X mi_m_way 35 [some (.inr 0), some (.inl b1), some (.inl b2), some (.inl b3)] [] w) (b1 : Int32) (b3 : Int32) (s0 : Int32) (w : gx_Wd) (h : m_way_75 K35 b1 b3 s0 w = some R) : gx_G X mi_m_way 75 [some (.inr 0), some (.inl b1), none, some (.inl b3)] [.inl s0] w := by
  rw [m_way_75] at h
  refine gx_istore_n hX (ls' := [some (.inr 0), some (.inl b1), some (.inl s0), some (.inl b3)]) (gx_dt dt_mi_m_way 42 rfl) (by decide) rfl ?_
  obtain ⟨v1, e_v1, h⟩ := gx_bd h
  refine gx_iinc hX (v := v1) (ls' := [some (.inr 0), some (.inl b1), some (.inl s0), some (.inl v1)]) (gx_dt dt_mi_m_way 43 rfl) rfl (gx_ii e_v1 (by decide)) (by decide) rfl ?_
  refine gx_goto hX (tgt := 35) (gx_dt dt_mi_m_way 44 rfl) (by decide) ?_
  exact gx_weak (gx_leS (gx_leS (gx_leS (gx_leS gx_le0)))) (hK35 _ _ _ _ h)
theorem t_m_way_35 {X : gx_X} (hX : gx_Ok X mi_m_way) {R : Int32 × gx_Wd} (hres : gx_res X = some (.inl R.1)) (hwr : gx_wr X = R.2) : ∀ (n : Nat) (b1 : Int32) (b2 : Int32) (b3 : Int32) (w : gx_Wd), m_way_35 n b1 b2 b3 w = some R → gx_G X mi_m_way 35 [some (.inr 0), some (.inl b1), some (.inl b2), some (.inl b3)] [] w := by
  intro n
  induction n with
  | zero => intro b1 b2 b3 w h; rw [m_way_35] at h; cases h
  | succ n ih =>
    intro b1 b2 b3 w h
    rw [m_way_35] at h
    refine gx_iload_n hX (gx_dt dt_mi_m_way 20 rfl) rfl ?_
    refine gx_bipush hX (v := 28) (gx_dt dt_mi_m_way 21 rfl) (by decide) ?_
    refine gx_ic_ge hX (tgt := 82) (gx_dt dt_mi_m_way 22 rfl) (by decide) (fun c1 => ?_) (fun c1 => ?_)
    · have h := gx_ifp c1 h
      refine gx_iload_n hX (gx_dt dt_mi_m_way 45 rfl) rfl ?_
      obtain rfl := Option.some.inj h
      exact gx_iret hX (gx_dt dt_mi_m_way 46 rfl) rfl hres hwr
    · have h := gx_ifn c1 h
      refine gx_aload_n hX (gx_dt dt_mi_m_way 23 rfl) rfl ?_
      refine gx_getr hX fl_D_71 sh_m_0 rfl (gx_dt dt_mi_m_way 24 rfl) ?_
      refine gx_bipush hX (v := 28) (gx_dt dt_mi_m_way 25 rfl) (by decide) ?_
      refine gx_iload_n hX (gx_dt dt_mi_m_way 26 rfl) rfl ?_
      refine gx_imul hX (gx_dt dt_mi_m_way 27 rfl) ?_
      refine gx_iload_n hX (gx_dt dt_mi_m_way 28 rfl) rfl ?_
      refine gx_iadd hX (gx_dt dt_mi_m_way 29 rfl) ?_
      obtain ⟨v2, e_v2, h⟩ := gx_bd h
      refine gx_iald hX e_v2 (gx_dt dt_mi_m_way 30 rfl) ?_
      refine gx_istore hX (ls' := [some (.inr 0), some (.inl b1), some (.inl b2), some (.inl b3), some (.inl v2)]) (gx_dt dt_mi_m_way 31 rfl) (by decide) rfl ?_
      refine gx_iload hX (gx_dt dt_mi_m_way 32 rfl) rfl ?_
      refine gx_if_lt hX (tgt := 74) (gx_dt dt_mi_m_way 33 rfl) (by decide) (fun c3 => ?_) (fun c3 => ?_)
      · have h := gx_ifp c3 h
        refine gx_iload_n hX (gx_dt dt_mi_m_way 41 rfl) rfl ?_
        exact gx_weak (gx_leS (gx_leS (gx_leN (gx_leS gx_le0)))) (t_m_way_75 hX hres hwr ih _ _ _ _ h)
      · have h := gx_ifn c3 h
        refine gx_iload_n hX (gx_dt dt_mi_m_way 34 rfl) rfl ?_
        refine gx_if_lt hX (tgt := 69) (gx_dt dt_mi_m_way 35 rfl) (by decide) (fun c4 => ?_) (fun c4 => ?_)
        · have h := gx_ifp c4 h
          refine gx_iload hX (gx_dt dt_mi_m_way 39 rfl) rfl ?_
          refine gx_goto hX (tgt := 75) (gx_dt dt_mi_m_way 40 rfl) (by decide) ?_
          exact gx_weak (gx_leS (gx_leS (gx_leN (gx_leS gx_le0)))) (t_m_way_75 hX hres hwr ih _ _ _ _ h)
        · have h := gx_ifn c4 h
          refine gx_iload hX (gx_dt dt_mi_m_way 36 rfl) rfl ?_
          refine gx_iload_n hX (gx_dt dt_mi_m_way 37 rfl) rfl ?_
          refine gx_ic_ge hX (tgt := 74) (gx_dt dt_mi_m_way 38 rfl) (by decide) (fun c5 => ?_) (fun c5 => ?_)
          · have h := gx_ifp c5 h
            refine gx_iload_n hX (gx_dt dt_mi_m_way 41 rfl) rfl ?_
            exact gx_weak (gx_leS (gx_leS (gx_leN (gx_leS gx_le0)))) (t_m_way_75 hX hres hwr ih _ _ _ _ h)
          · have h := gx_ifn c5 h
            refine gx_iload hX (gx_dt dt_mi_m_way 39 rfl) rfl ?_
            refine gx_goto hX (tgt := 75) (gx_dt dt_mi_m_way 40 rfl) (by decide) ?_
            exact gx_weak (gx_leS (gx_leS (gx_leN (gx_leS gx_le0)))) (t_m_way_75 hX hres hwr ih _ _ _ _ h)
theorem k_m_way {a1 : Int32} {w : gx_Wd} {R : Int32 × gx_Wd} (h : m_way a1 w = some R) : gx_MT mi_m_way [.inr 0, .inl a1] w (some (.inl R.1)) R.2 := by
  refine gx_met (by decide +kernel) (Nat.le_of_ble_eq_true rfl) (fun X hX hres hwr => ?_)
  show gx_G X mi_m_way 0 [some (.inr 0), some (.inl a1)] [] w
  rw [m_way] at h
  refine gx_iload_n hX (gx_dt dt_mi_m_way 0 rfl) rfl ?_
  refine gx_if_ge hX (tgt := 11) (gx_dt dt_mi_m_way 1 rfl) (by decide) (fun c1 => ?_) (fun c1 => ?_)
  · have h := gx_ifp c1 h
    refine gx_iload_n hX (gx_dt dt_mi_m_way 6 rfl) rfl ?_
    refine gx_aload_n hX (gx_dt dt_mi_m_way 7 rfl) rfl ?_
    obtain ⟨r2, e_r2, h⟩ := gx_bd h
    refine gx_callVi hX (gx_dt dt_mi_m_way 8 rfl) ln_D_200_m_lastAt mo_m_lastAt mv_m_lastAt (gx_rmb rfl) sh_m_0 ⟨_, _, rfl⟩ rfl (k_m_lastAt e_r2) rfl rfl (Nat.le_of_ble_eq_true rfl) ?_
    refine gx_ic_le hX (tgt := 26) (gx_dt dt_mi_m_way 9 rfl) (by decide) (fun c3 => ?_) (fun c3 => ?_)
    · have h := gx_ifp c3 h
      refine gx_aload_n hX (gx_dt dt_mi_m_way 14 rfl) rfl ?_
      obtain ⟨r4, e_r4, h⟩ := gx_bd h
      refine gx_callVv hX (gx_dt dt_mi_m_way 15 rfl) ln_D_232_m_layWays mo_m_layWays mv_m_layWays (gx_rmb rfl) sh_m_0 ⟨_, _, rfl⟩ rfl (k_m_layWays e_r4) rfl rfl (Nat.le_of_ble_eq_true rfl) ?_
      refine gx_bipush hX (v := (-9)) (gx_dt dt_mi_m_way 16 rfl) (by decide) ?_
      refine gx_istore_n hX (ls' := [some (.inr 0), some (.inl a1), some (.inl ((-9)))]) (gx_dt dt_mi_m_way 17 rfl) (by decide) rfl ?_
      refine gx_iconst hX (v := 0) (gx_dt dt_mi_m_way 18 rfl) (by decide) ?_
      refine gx_istore_n hX (ls' := [some (.inr 0), some (.inl a1), some (.inl ((-9))), some (.inl (0))]) (gx_dt dt_mi_m_way 19 rfl) (by decide) rfl ?_
      exact gx_weak (gx_leS (gx_leS (gx_leS (gx_leS gx_le0)))) (t_m_way_35 hX hres hwr _ _ _ _ _ h)
    · have h := gx_ifn c3 h
      refine gx_aload_n hX (gx_dt dt_mi_m_way 10 rfl) rfl ?_
      refine gx_bipush hX (v := (-6)) (gx_dt dt_mi_m_way 11 rfl) (by decide) ?_
      obtain ⟨r5, e_r5, h⟩ := gx_bd h
      refine gx_callVi hX (gx_dt dt_mi_m_way 12 rfl) ln_D_121_m_no mo_m_no mv_m_no (gx_rmb rfl) sh_m_0 ⟨_, _, rfl⟩ rfl (k_m_no e_r5) rfl rfl (Nat.le_of_ble_eq_true rfl) ?_
      obtain rfl := Option.some.inj h
      exact gx_iret hX (gx_dt dt_mi_m_way 13 rfl) rfl hres hwr
  · have h := gx_ifn c1 h
    refine gx_aload_n hX (gx_dt dt_mi_m_way 2 rfl) rfl ?_
    refine gx_bipush hX (v := (-4)) (gx_dt dt_mi_m_way 3 rfl) (by decide) ?_
    obtain ⟨r6, e_r6, h⟩ := gx_bd h
    refine gx_callVi hX (gx_dt dt_mi_m_way 4 rfl) ln_D_121_m_no mo_m_no mv_m_no (gx_rmb rfl) sh_m_0 ⟨_, _, rfl⟩ rfl (k_m_no e_r6) rfl rfl (Nat.le_of_ble_eq_true rfl) ?_
    obtain rfl := Option.some.inj h
    exact gx_iret hX (gx_dt dt_mi_m_way 5 rfl) rfl hres hwr
-- EachBearsPillarModel.reach(I)I
def m_reach_65 (K32 : Int32 → Int32 → Int32 → gx_Wd → Option (Int32 × gx_Wd)) (b1 : Int32) (b3 : Int32) (s0 : Int32) (s1 : Int32) (w : gx_Wd) : Option (Int32 × gx_Wd) :=
  (some (s1 ||| s0)).bind fun v1 =>
  (some (b3 + 1)).bind fun v2 =>
  K32 b1 v1 v2 w
def m_reach_32 : Nat → Int32 → Int32 → Int32 → gx_Wd → Option (Int32 × gx_Wd)
  | 0, _, _, _, _ => none
  | n + 1, b1, b2, b3, w =>
  if 448 ≤ b3 then
    some (b2, w)
  else
  (gx_ald sh_m w 11 b3).bind fun v2 =>
  (m_in v2 0 b1 w).bind fun r3 =>
  if r3.1 = 0 then
    m_reach_65 (m_reach_32 n) b1 b3 0 b2 r3.2
  else
  m_reach_65 (m_reach_32 n) b1 b3 (1 <<< ((b3 / 28) &&& 31)) b2 r3.2
def m_reach (a1 : Int32) (w : gx_Wd) : Option (Int32 × gx_Wd) :=
  if 0 ≤ a1 then
    if a1 ≤ 40 then
      (m_layWays w).bind fun r3 =>
      m_reach_32 6000 a1 0 0 r3
    else
    (m_no (-6) w).bind fun r4 =>
    some (r4.1, r4.2)
  else
  (m_no (-4) w).bind fun r5 =>
  some (r5.1, r5.2)
theorem t_m_reach_65 {X : gx_X} (hX : gx_Ok X mi_m_reach) {R : Int32 × gx_Wd} (hres : gx_res X = some (.inl R.1)) (hwr : gx_wr X = R.2) {K32 : Int32 → Int32 → Int32 → gx_Wd → Option (Int32 × gx_Wd)} (hK32 : ∀ (b1 : Int32) (b2 : Int32) (b3 : Int32) (w : gx_Wd), K32 b1 b2 b3 w = some R → gx_G X mi_m_reach 32 [some (.inr 0), some (.inl b1), some (.inl b2), some (.inl b3)] [] w) (b1 : Int32) (b3 : Int32) (s0 : Int32) (s1 : Int32) (w : gx_Wd) (h : m_reach_65 K32 b1 b3 s0 s1 w = some R) : gx_G X mi_m_reach 65 [some (.inr 0), some (.inl b1), none, some (.inl b3)] [.inl s0, .inl s1] w := by
  rw [m_reach_65] at h
  refine gx_ior hX (gx_dt dt_mi_m_reach 39 rfl) ?_
  obtain ⟨v1, e_v1, h⟩ := gx_bd h
  refine gx_top e_v1 ?_
  refine gx_istore_n hX (ls' := [some (.inr 0), some (.inl b1), some (.inl v1), some (.inl b3)]) (gx_dt dt_mi_m_reach 40 rfl) (by decide) rfl ?_
  obtain ⟨v2, e_v2, h⟩ := gx_bd h
  refine gx_iinc hX (v := v2) (ls' := [some (.inr 0), some (.inl b1), some (.inl v1), some (.inl v2)]) (gx_dt dt_mi_m_reach 41 rfl) rfl (gx_ii e_v2 (by decide)) (by decide) rfl ?_
  refine gx_goto hX (tgt := 32) (gx_dt dt_mi_m_reach 42 rfl) (by decide) ?_
  exact gx_weak (gx_leS (gx_leS (gx_leS (gx_leS gx_le0)))) (hK32 _ _ _ _ h)
theorem t_m_reach_32 {X : gx_X} (hX : gx_Ok X mi_m_reach) {R : Int32 × gx_Wd} (hres : gx_res X = some (.inl R.1)) (hwr : gx_wr X = R.2) : ∀ (n : Nat) (b1 : Int32) (b2 : Int32) (b3 : Int32) (w : gx_Wd), m_reach_32 n b1 b2 b3 w = some R → gx_G X mi_m_reach 32 [some (.inr 0), some (.inl b1), some (.inl b2), some (.inl b3)] [] w := by
  intro n
  induction n with
  | zero => intro b1 b2 b3 w h; rw [m_reach_32] at h; cases h
  | succ n ih =>
    intro b1 b2 b3 w h
    rw [m_reach_32] at h
    refine gx_iload_n hX (gx_dt dt_mi_m_reach 19 rfl) rfl ?_
    refine gx_sipush hX (v := 448) (gx_dt dt_mi_m_reach 20 rfl) (by decide) ?_
    refine gx_ic_ge hX (tgt := 73) (gx_dt dt_mi_m_reach 21 rfl) (by decide) (fun c1 => ?_) (fun c1 => ?_)
    · have h := gx_ifp c1 h
      refine gx_iload_n hX (gx_dt dt_mi_m_reach 43 rfl) rfl ?_
      obtain rfl := Option.some.inj h
      exact gx_iret hX (gx_dt dt_mi_m_reach 44 rfl) rfl hres hwr
    · have h := gx_ifn c1 h
      refine gx_iload_n hX (gx_dt dt_mi_m_reach 22 rfl) rfl ?_
      refine gx_aload_n hX (gx_dt dt_mi_m_reach 23 rfl) rfl ?_
      refine gx_aload_n hX (gx_dt dt_mi_m_reach 24 rfl) rfl ?_
      refine gx_getr hX fl_D_71 sh_m_0 rfl (gx_dt dt_mi_m_reach 25 rfl) ?_
      refine gx_iload_n hX (gx_dt dt_mi_m_reach 26 rfl) rfl ?_
      obtain ⟨v2, e_v2, h⟩ := gx_bd h
      refine gx_iald hX e_v2 (gx_dt dt_mi_m_reach 27 rfl) ?_
      refine gx_iconst hX (v := 0) (gx_dt dt_mi_m_reach 28 rfl) (by decide) ?_
      refine gx_iload_n hX (gx_dt dt_mi_m_reach 29 rfl) rfl ?_
      obtain ⟨r3, e_r3, h⟩ := gx_bd h
      refine gx_callVi hX (gx_dt dt_mi_m_reach 30 rfl) ln_D_117_m_in mo_m_in mv_m_in (gx_rmb rfl) sh_m_0 ⟨_, _, rfl⟩ rfl (k_m_in e_r3) rfl rfl (Nat.le_of_ble_eq_true rfl) ?_
      refine gx_if_eq hX (tgt := 64) (gx_dt dt_mi_m_reach 31 rfl) (by decide) (fun c4 => ?_) (fun c4 => ?_)
      · have h := gx_ifp c4 h
        refine gx_iconst hX (v := 0) (gx_dt dt_mi_m_reach 38 rfl) (by decide) ?_
        exact gx_weak (gx_leS (gx_leS (gx_leN (gx_leS gx_le0)))) (t_m_reach_65 hX hres hwr ih _ _ _ _ _ h)
      · have h := gx_ifn c4 h
        refine gx_iconst hX (v := 1) (gx_dt dt_mi_m_reach 32 rfl) (by decide) ?_
        refine gx_iload_n hX (gx_dt dt_mi_m_reach 33 rfl) rfl ?_
        refine gx_bipush hX (v := 28) (gx_dt dt_mi_m_reach 34 rfl) (by decide) ?_
        refine gx_idiv hX (gx_dt dt_mi_m_reach 35 rfl) (by decide) ?_
        refine gx_ishl hX (gx_dt dt_mi_m_reach 36 rfl) ?_
        refine gx_goto hX (tgt := 65) (gx_dt dt_mi_m_reach 37 rfl) (by decide) ?_
        exact gx_weak (gx_leS (gx_leS (gx_leN (gx_leS gx_le0)))) (t_m_reach_65 hX hres hwr ih _ _ _ _ _ h)
theorem k_m_reach {a1 : Int32} {w : gx_Wd} {R : Int32 × gx_Wd} (h : m_reach a1 w = some R) : gx_MT mi_m_reach [.inr 0, .inl a1] w (some (.inl R.1)) R.2 := by
  refine gx_met (by decide +kernel) (Nat.le_of_ble_eq_true rfl) (fun X hX hres hwr => ?_)
  show gx_G X mi_m_reach 0 [some (.inr 0), some (.inl a1)] [] w
  rw [m_reach] at h
  refine gx_iload_n hX (gx_dt dt_mi_m_reach 0 rfl) rfl ?_
  refine gx_if_ge hX (tgt := 11) (gx_dt dt_mi_m_reach 1 rfl) (by decide) (fun c1 => ?_) (fun c1 => ?_)
  · have h := gx_ifp c1 h
    refine gx_iload_n hX (gx_dt dt_mi_m_reach 6 rfl) rfl ?_
    refine gx_bipush hX (v := 40) (gx_dt dt_mi_m_reach 7 rfl) (by decide) ?_
    refine gx_ic_le hX (tgt := 24) (gx_dt dt_mi_m_reach 8 rfl) (by decide) (fun c2 => ?_) (fun c2 => ?_)
    · have h := gx_ifp c2 h
      refine gx_aload_n hX (gx_dt dt_mi_m_reach 13 rfl) rfl ?_
      obtain ⟨r3, e_r3, h⟩ := gx_bd h
      refine gx_callVv hX (gx_dt dt_mi_m_reach 14 rfl) ln_D_232_m_layWays mo_m_layWays mv_m_layWays (gx_rmb rfl) sh_m_0 ⟨_, _, rfl⟩ rfl (k_m_layWays e_r3) rfl rfl (Nat.le_of_ble_eq_true rfl) ?_
      refine gx_iconst hX (v := 0) (gx_dt dt_mi_m_reach 15 rfl) (by decide) ?_
      refine gx_istore_n hX (ls' := [some (.inr 0), some (.inl a1), some (.inl (0))]) (gx_dt dt_mi_m_reach 16 rfl) (by decide) rfl ?_
      refine gx_iconst hX (v := 0) (gx_dt dt_mi_m_reach 17 rfl) (by decide) ?_
      refine gx_istore_n hX (ls' := [some (.inr 0), some (.inl a1), some (.inl (0)), some (.inl (0))]) (gx_dt dt_mi_m_reach 18 rfl) (by decide) rfl ?_
      exact gx_weak (gx_leS (gx_leS (gx_leS (gx_leS gx_le0)))) (t_m_reach_32 hX hres hwr _ _ _ _ _ h)
    · have h := gx_ifn c2 h
      refine gx_aload_n hX (gx_dt dt_mi_m_reach 9 rfl) rfl ?_
      refine gx_bipush hX (v := (-6)) (gx_dt dt_mi_m_reach 10 rfl) (by decide) ?_
      obtain ⟨r4, e_r4, h⟩ := gx_bd h
      refine gx_callVi hX (gx_dt dt_mi_m_reach 11 rfl) ln_D_121_m_no mo_m_no mv_m_no (gx_rmb rfl) sh_m_0 ⟨_, _, rfl⟩ rfl (k_m_no e_r4) rfl rfl (Nat.le_of_ble_eq_true rfl) ?_
      obtain rfl := Option.some.inj h
      exact gx_iret hX (gx_dt dt_mi_m_reach 12 rfl) rfl hres hwr
  · have h := gx_ifn c1 h
    refine gx_aload_n hX (gx_dt dt_mi_m_reach 2 rfl) rfl ?_
    refine gx_bipush hX (v := (-4)) (gx_dt dt_mi_m_reach 3 rfl) (by decide) ?_
    obtain ⟨r5, e_r5, h⟩ := gx_bd h
    refine gx_callVi hX (gx_dt dt_mi_m_reach 4 rfl) ln_D_121_m_no mo_m_no mv_m_no (gx_rmb rfl) sh_m_0 ⟨_, _, rfl⟩ rfl (k_m_no e_r5) rfl rfl (Nat.le_of_ble_eq_true rfl) ?_
    obtain rfl := Option.some.inj h
    exact gx_iret hX (gx_dt dt_mi_m_reach 5 rfl) rfl hres hwr
-- EachBearsPillarModel.lowest(II)I
def m_lowest_42 : Nat → Int32 → Int32 → Int32 → gx_Wd → Option (Int32 × gx_Wd)
  | 0, _, _, _, _ => none
  | n + 1, b1, b2, b3, w =>
  if 28 ≤ b3 then
    some ((-9), w)
  else
  (gx_ald sh_m w 11 ((28 * b1) + b3)).bind fun v2 =>
  (m_in v2 0 b2 w).bind fun r3 =>
  if r3.1 = 0 then
    (some (b3 + 1)).bind fun v5 =>
    (m_lowest_42 n) b1 b2 v5 r3.2
  else
  some (b3, r3.2)
def m_lowest (a1 : Int32) (a2 : Int32) (w : gx_Wd) : Option (Int32 × gx_Wd) :=
  if a1 < 0 then
    (m_no (-4) w).bind fun r2 =>
    some (r2.1, r2.2)
  else
  if 0 ≤ a2 then
    (m_lastAt w).bind fun r4 =>
    if r4.1 < a1 then
      (m_no (-6) r4.2).bind fun r6 =>
      some (r6.1, r6.2)
    else
    if a2 ≤ 40 then
      (m_layWays r4.2).bind fun r8 =>
      m_lowest_42 6000 a1 a2 0 r8
    else
    (m_no (-6) r4.2).bind fun r9 =>
    some (r9.1, r9.2)
  else
  (m_no (-4) w).bind fun r10 =>
  some (r10.1, r10.2)
theorem t_m_lowest_42 {X : gx_X} (hX : gx_Ok X mi_m_lowest) {R : Int32 × gx_Wd} (hres : gx_res X = some (.inl R.1)) (hwr : gx_wr X = R.2) : ∀ (n : Nat) (b1 : Int32) (b2 : Int32) (b3 : Int32) (w : gx_Wd), m_lowest_42 n b1 b2 b3 w = some R → gx_G X mi_m_lowest 42 [some (.inr 0), some (.inl b1), some (.inl b2), some (.inl b3)] [] w := by
  intro n
  induction n with
  | zero => intro b1 b2 b3 w h; rw [m_lowest_42] at h; cases h
  | succ n ih =>
    intro b1 b2 b3 w h
    rw [m_lowest_42] at h
    refine gx_iload_n hX (gx_dt dt_mi_m_lowest 23 rfl) rfl ?_
    refine gx_bipush hX (v := 28) (gx_dt dt_mi_m_lowest 24 rfl) (by decide) ?_
    refine gx_ic_ge hX (tgt := 76) (gx_dt dt_mi_m_lowest 25 rfl) (by decide) (fun c1 => ?_) (fun c1 => ?_)
    · have h := gx_ifp c1 h
      refine gx_bipush hX (v := (-9)) (gx_dt dt_mi_m_lowest 43 rfl) (by decide) ?_
      obtain rfl := Option.some.inj h
      exact gx_iret hX (gx_dt dt_mi_m_lowest 44 rfl) rfl hres hwr
    · have h := gx_ifn c1 h
      refine gx_aload_n hX (gx_dt dt_mi_m_lowest 26 rfl) rfl ?_
      refine gx_aload_n hX (gx_dt dt_mi_m_lowest 27 rfl) rfl ?_
      refine gx_getr hX fl_D_71 sh_m_0 rfl (gx_dt dt_mi_m_lowest 28 rfl) ?_
      refine gx_bipush hX (v := 28) (gx_dt dt_mi_m_lowest 29 rfl) (by decide) ?_
      refine gx_iload_n hX (gx_dt dt_mi_m_lowest 30 rfl) rfl ?_
      refine gx_imul hX (gx_dt dt_mi_m_lowest 31 rfl) ?_
      refine gx_iload_n hX (gx_dt dt_mi_m_lowest 32 rfl) rfl ?_
      refine gx_iadd hX (gx_dt dt_mi_m_lowest 33 rfl) ?_
      obtain ⟨v2, e_v2, h⟩ := gx_bd h
      refine gx_iald hX e_v2 (gx_dt dt_mi_m_lowest 34 rfl) ?_
      refine gx_iconst hX (v := 0) (gx_dt dt_mi_m_lowest 35 rfl) (by decide) ?_
      refine gx_iload_n hX (gx_dt dt_mi_m_lowest 36 rfl) rfl ?_
      obtain ⟨r3, e_r3, h⟩ := gx_bd h
      refine gx_callVi hX (gx_dt dt_mi_m_lowest 37 rfl) ln_D_117_m_in mo_m_in mv_m_in (gx_rmb rfl) sh_m_0 ⟨_, _, rfl⟩ rfl (k_m_in e_r3) rfl rfl (Nat.le_of_ble_eq_true rfl) ?_
      refine gx_if_eq hX (tgt := 70) (gx_dt dt_mi_m_lowest 38 rfl) (by decide) (fun c4 => ?_) (fun c4 => ?_)
      · have h := gx_ifp c4 h
        obtain ⟨v5, e_v5, h⟩ := gx_bd h
        refine gx_iinc hX (v := v5) (ls' := [some (.inr 0), some (.inl b1), some (.inl b2), some (.inl v5)]) (gx_dt dt_mi_m_lowest 41 rfl) rfl (gx_ii e_v5 (by decide)) (by decide) rfl ?_
        refine gx_goto hX (tgt := 42) (gx_dt dt_mi_m_lowest 42 rfl) (by decide) ?_
        exact gx_weak (gx_leS (gx_leS (gx_leS (gx_leS gx_le0)))) (ih _ _ _ _ h)
      · have h := gx_ifn c4 h
        refine gx_iload_n hX (gx_dt dt_mi_m_lowest 39 rfl) rfl ?_
        obtain rfl := Option.some.inj h
        exact gx_iret hX (gx_dt dt_mi_m_lowest 40 rfl) rfl hres hwr
theorem k_m_lowest {a1 : Int32} {a2 : Int32} {w : gx_Wd} {R : Int32 × gx_Wd} (h : m_lowest a1 a2 w = some R) : gx_MT mi_m_lowest [.inr 0, .inl a1, .inl a2] w (some (.inl R.1)) R.2 := by
  refine gx_met (by decide +kernel) (Nat.le_of_ble_eq_true rfl) (fun X hX hres hwr => ?_)
  show gx_G X mi_m_lowest 0 [some (.inr 0), some (.inl a1), some (.inl a2)] [] w
  rw [m_lowest] at h
  refine gx_iload_n hX (gx_dt dt_mi_m_lowest 0 rfl) rfl ?_
  refine gx_if_lt hX (tgt := 8) (gx_dt dt_mi_m_lowest 1 rfl) (by decide) (fun c1 => ?_) (fun c1 => ?_)
  · have h := gx_ifp c1 h
    refine gx_aload_n hX (gx_dt dt_mi_m_lowest 4 rfl) rfl ?_
    refine gx_bipush hX (v := (-4)) (gx_dt dt_mi_m_lowest 5 rfl) (by decide) ?_
    obtain ⟨r2, e_r2, h⟩ := gx_bd h
    refine gx_callVi hX (gx_dt dt_mi_m_lowest 6 rfl) ln_D_121_m_no mo_m_no mv_m_no (gx_rmb rfl) sh_m_0 ⟨_, _, rfl⟩ rfl (k_m_no e_r2) rfl rfl (Nat.le_of_ble_eq_true rfl) ?_
    obtain rfl := Option.some.inj h
    exact gx_iret hX (gx_dt dt_mi_m_lowest 7 rfl) rfl hres hwr
  · have h := gx_ifn c1 h
    refine gx_iload_n hX (gx_dt dt_mi_m_lowest 2 rfl) rfl ?_
    refine gx_if_ge hX (tgt := 15) (gx_dt dt_mi_m_lowest 3 rfl) (by decide) (fun c3 => ?_) (fun c3 => ?_)
    · have h := gx_ifp c3 h
      refine gx_iload_n hX (gx_dt dt_mi_m_lowest 8 rfl) rfl ?_
      refine gx_aload_n hX (gx_dt dt_mi_m_lowest 9 rfl) rfl ?_
      obtain ⟨r4, e_r4, h⟩ := gx_bd h
      refine gx_callVi hX (gx_dt dt_mi_m_lowest 10 rfl) ln_D_200_m_lastAt mo_m_lastAt mv_m_lastAt (gx_rmb rfl) sh_m_0 ⟨_, _, rfl⟩ rfl (k_m_lastAt e_r4) rfl rfl (Nat.le_of_ble_eq_true rfl) ?_
      refine gx_ic_gt hX (tgt := 29) (gx_dt dt_mi_m_lowest 11 rfl) (by decide) (fun c5 => ?_) (fun c5 => ?_)
      · have h := gx_ifp c5 h
        refine gx_aload_n hX (gx_dt dt_mi_m_lowest 15 rfl) rfl ?_
        refine gx_bipush hX (v := (-6)) (gx_dt dt_mi_m_lowest 16 rfl) (by decide) ?_
        obtain ⟨r6, e_r6, h⟩ := gx_bd h
        refine gx_callVi hX (gx_dt dt_mi_m_lowest 17 rfl) ln_D_121_m_no mo_m_no mv_m_no (gx_rmb rfl) sh_m_0 ⟨_, _, rfl⟩ rfl (k_m_no e_r6) rfl rfl (Nat.le_of_ble_eq_true rfl) ?_
        obtain rfl := Option.some.inj h
        exact gx_iret hX (gx_dt dt_mi_m_lowest 18 rfl) rfl hres hwr
      · have h := gx_ifn c5 h
        refine gx_iload_n hX (gx_dt dt_mi_m_lowest 12 rfl) rfl ?_
        refine gx_bipush hX (v := 40) (gx_dt dt_mi_m_lowest 13 rfl) (by decide) ?_
        refine gx_ic_le hX (tgt := 36) (gx_dt dt_mi_m_lowest 14 rfl) (by decide) (fun c7 => ?_) (fun c7 => ?_)
        · have h := gx_ifp c7 h
          refine gx_aload_n hX (gx_dt dt_mi_m_lowest 19 rfl) rfl ?_
          obtain ⟨r8, e_r8, h⟩ := gx_bd h
          refine gx_callVv hX (gx_dt dt_mi_m_lowest 20 rfl) ln_D_232_m_layWays mo_m_layWays mv_m_layWays (gx_rmb rfl) sh_m_0 ⟨_, _, rfl⟩ rfl (k_m_layWays e_r8) rfl rfl (Nat.le_of_ble_eq_true rfl) ?_
          refine gx_iconst hX (v := 0) (gx_dt dt_mi_m_lowest 21 rfl) (by decide) ?_
          refine gx_istore_n hX (ls' := [some (.inr 0), some (.inl a1), some (.inl a2), some (.inl (0))]) (gx_dt dt_mi_m_lowest 22 rfl) (by decide) rfl ?_
          exact gx_weak (gx_leS (gx_leS (gx_leS (gx_leS gx_le0)))) (t_m_lowest_42 hX hres hwr _ _ _ _ _ h)
        · have h := gx_ifn c7 h
          refine gx_aload_n hX (gx_dt dt_mi_m_lowest 15 rfl) rfl ?_
          refine gx_bipush hX (v := (-6)) (gx_dt dt_mi_m_lowest 16 rfl) (by decide) ?_
          obtain ⟨r9, e_r9, h⟩ := gx_bd h
          refine gx_callVi hX (gx_dt dt_mi_m_lowest 17 rfl) ln_D_121_m_no mo_m_no mv_m_no (gx_rmb rfl) sh_m_0 ⟨_, _, rfl⟩ rfl (k_m_no e_r9) rfl rfl (Nat.le_of_ble_eq_true rfl) ?_
          obtain rfl := Option.some.inj h
          exact gx_iret hX (gx_dt dt_mi_m_lowest 18 rfl) rfl hres hwr
    · have h := gx_ifn c3 h
      refine gx_aload_n hX (gx_dt dt_mi_m_lowest 4 rfl) rfl ?_
      refine gx_bipush hX (v := (-4)) (gx_dt dt_mi_m_lowest 5 rfl) (by decide) ?_
      obtain ⟨r10, e_r10, h⟩ := gx_bd h
      refine gx_callVi hX (gx_dt dt_mi_m_lowest 6 rfl) ln_D_121_m_no mo_m_no mv_m_no (gx_rmb rfl) sh_m_0 ⟨_, _, rfl⟩ rfl (k_m_no e_r10) rfl rfl (Nat.le_of_ble_eq_true rfl) ?_
      obtain rfl := Option.some.inj h
      exact gx_iret hX (gx_dt dt_mi_m_lowest 7 rfl) rfl hres hwr
-- EachBearsPillarModel.draw(I)I
def m_draw (a1 : Int32) (w : gx_Wd) : Option (Int32 × gx_Wd) :=
  (gx_put w 0 23 (((w 0 23) * 1664525) + 1013904223)).bind fun w1 =>
  if a1 = 0 then none else
  some ((((w1 0 23) &&& 2147483647) / 256) - (((w1 0 23) &&& 2147483647) / 256) / a1 * a1, w1)
theorem k_m_draw {a1 : Int32} {w : gx_Wd} {R : Int32 × gx_Wd} (h : m_draw a1 w = some R) : gx_MT mi_m_draw [.inr 0, .inl a1] w (some (.inl R.1)) R.2 := by
  refine gx_met (by decide +kernel) (Nat.le_of_ble_eq_true rfl) (fun X hX hres hwr => ?_)
  show gx_G X mi_m_draw 0 [some (.inr 0), some (.inl a1)] [] w
  rw [m_draw] at h
  refine gx_aload_n hX (gx_dt dt_mi_m_draw 0 rfl) rfl ?_
  refine gx_aload_n hX (gx_dt dt_mi_m_draw 1 rfl) rfl ?_
  refine gx_geti hX fl_D_80 sh_m_0 rfl (gx_dt dt_mi_m_draw 2 rfl) ?_
  refine gx_ldci hX (v := 1664525) (gx_dt dt_mi_m_draw 3 rfl) wr_constant_D_235 ?_
  refine gx_imul hX (gx_dt dt_mi_m_draw 4 rfl) ?_
  refine gx_ldci hX (v := 1013904223) (gx_dt dt_mi_m_draw 5 rfl) wr_constant_D_236 ?_
  refine gx_iadd hX (gx_dt dt_mi_m_draw 6 rfl) ?_
  obtain ⟨w1, e_w1, h⟩ := gx_bd h
  refine gx_putp hX fl_D_80 (pf_D_23 _) sh_m_0 rfl e_w1 (gx_dt dt_mi_m_draw 7 rfl) ?_
  refine gx_aload_n hX (gx_dt dt_mi_m_draw 8 rfl) rfl ?_
  refine gx_geti hX fl_D_80 sh_m_0 rfl (gx_dt dt_mi_m_draw 9 rfl) ?_
  refine gx_ldci hX (v := 2147483647) (gx_dt dt_mi_m_draw 10 rfl) wr_constant_D_237 ?_
  refine gx_iand hX (gx_dt dt_mi_m_draw 11 rfl) ?_
  refine gx_sipush hX (v := 256) (gx_dt dt_mi_m_draw 12 rfl) (by decide) ?_
  refine gx_idiv hX (gx_dt dt_mi_m_draw 13 rfl) (by decide) ?_
  refine gx_iload_n hX (gx_dt dt_mi_m_draw 14 rfl) rfl ?_
  obtain ⟨c2, h⟩ := gx_nz h
  refine gx_irem hX (gx_dt dt_mi_m_draw 15 rfl) c2 ?_
  obtain rfl := Option.some.inj h
  exact gx_iret hX (gx_dt dt_mi_m_draw 16 rfl) rfl hres hwr
-- EachBearsPillarModel.seeds(II)I
def m_seeds_120 : Nat → Int32 → Int32 → gx_Wd → Option (Int32 × gx_Wd)
  | 0, _, _, _ => none
  | n + 1, b3, b4, w =>
  if 6 ≤ b4 then
    some (b3, w)
  else
  (gx_ald sh_m w 13 b4).bind fun v2 =>
  (gx_ast sh_m w 5 b4 v2).bind fun w3 =>
  (some (b4 + 1)).bind fun v4 =>
  (m_seeds_120 n) b3 v4 w3
def m_seeds_117 (b3 : Int32) (w : gx_Wd) : Option (Int32 × gx_Wd) :=
  m_seeds_120 6000 b3 0 w
def m_seeds_109 (K61 : Int32 → Int32 → Int32 → gx_Wd → Option (Int32 × gx_Wd)) (b1 : Int32) (b4 : Int32) (s0 : Int32) (s1 : Int32) (w : gx_Wd) : Option (Int32 × gx_Wd) :=
  (some (s1 + s0)).bind fun v1 =>
  (some (b4 + 1)).bind fun v2 =>
  K61 b1 v1 v2 w
def m_seeds_96 (K61 : Int32 → Int32 → Int32 → gx_Wd → Option (Int32 × gx_Wd)) (b1 : Int32) (b3 : Int32) (b4 : Int32) (w : gx_Wd) : Option (Int32 × gx_Wd) :=
  (m_isHeld w).bind fun r1 =>
  if r1.1 = 0 then
    m_seeds_109 K61 b1 b4 0 b3 r1.2
  else
  m_seeds_109 K61 b1 b4 1 b3 r1.2
def m_seeds_70 (K61 : Int32 → Int32 → Int32 → gx_Wd → Option (Int32 × gx_Wd)) : Nat → Int32 → Int32 → Int32 → Int32 → gx_Wd → Option (Int32 × gx_Wd)
  | 0, _, _, _, _, _ => none
  | n + 1, b1, b3, b4, b5, w =>
  if 6 ≤ b5 then
    m_seeds_96 K61 b1 b3 b4 w
  else
  (m_draw 100 w).bind fun r2 =>
  (gx_ast sh_m r2.2 5 b5 r2.1).bind fun w3 =>
  (some (b5 + 1)).bind fun v4 =>
  (m_seeds_70 K61 n) b1 b3 b4 v4 w3
def m_seeds_61 : Nat → Int32 → Int32 → Int32 → gx_Wd → Option (Int32 × gx_Wd)
  | 0, _, _, _, _ => none
  | n + 1, b1, b3, b4, w =>
  if b1 ≤ b4 then
    m_seeds_117 b3 w
  else
  m_seeds_70 (m_seeds_61 n) 6000 b1 b3 b4 0 w
def m_seeds_51 (b1 : Int32) (b2 : Int32) (w : gx_Wd) : Option (Int32 × gx_Wd) :=
  (gx_put w 0 23 b2).bind fun w1 =>
  m_seeds_61 6000 b1 0 0 w1
def m_seeds_27 : Nat → Int32 → Int32 → Int32 → gx_Wd → Option (Int32 × gx_Wd)
  | 0, _, _, _, _ => none
  | n + 1, b1, b2, b3, w =>
  if 6 ≤ b3 then
    m_seeds_51 b1 b2 w
  else
  (gx_ald sh_m w 5 b3).bind fun v2 =>
  (gx_ast sh_m w 13 b3 v2).bind fun w3 =>
  (some (b3 + 1)).bind fun v4 =>
  (m_seeds_27 n) b1 b2 v4 w3
def m_seeds (a1 : Int32) (a2 : Int32) (w : gx_Wd) : Option (Int32 × gx_Wd) :=
  if 1 ≤ a1 then
    if a1 ≤ 30 then
      m_seeds_27 6000 a1 a2 0 w
    else
    (m_no (-6) w).bind fun r3 =>
    some (r3.1, r3.2)
  else
  (m_no (-4) w).bind fun r4 =>
  some (r4.1, r4.2)
theorem t_m_seeds_120 {X : gx_X} (hX : gx_Ok X mi_m_seeds) {R : Int32 × gx_Wd} (hres : gx_res X = some (.inl R.1)) (hwr : gx_wr X = R.2) : ∀ (n : Nat) (b3 : Int32) (b4 : Int32) (w : gx_Wd), m_seeds_120 n b3 b4 w = some R → gx_G X mi_m_seeds 120 [some (.inr 0), none, none, some (.inl b3), some (.inl b4)] [] w := by
  intro n
  induction n with
  | zero => intro b3 b4 w h; rw [m_seeds_120] at h; cases h
  | succ n ih =>
    intro b3 b4 w h
    rw [m_seeds_120] at h
    refine gx_iload hX (gx_dt dt_mi_m_seeds 66 rfl) rfl ?_
    refine gx_bipush hX (v := 6) (gx_dt dt_mi_m_seeds 67 rfl) (by decide) ?_
    refine gx_ic_ge hX (tgt := 147) (gx_dt dt_mi_m_seeds 68 rfl) (by decide) (fun c1 => ?_) (fun c1 => ?_)
    · have h := gx_ifp c1 h
      refine gx_iload_n hX (gx_dt dt_mi_m_seeds 79 rfl) rfl ?_
      obtain rfl := Option.some.inj h
      exact gx_iret hX (gx_dt dt_mi_m_seeds 80 rfl) rfl hres hwr
    · have h := gx_ifn c1 h
      refine gx_aload_n hX (gx_dt dt_mi_m_seeds 69 rfl) rfl ?_
      refine gx_getr hX fl_D_38 sh_m_0 rfl (gx_dt dt_mi_m_seeds 70 rfl) ?_
      refine gx_iload hX (gx_dt dt_mi_m_seeds 71 rfl) rfl ?_
      refine gx_aload_n hX (gx_dt dt_mi_m_seeds 72 rfl) rfl ?_
      refine gx_getr hX fl_D_83 sh_m_0 rfl (gx_dt dt_mi_m_seeds 73 rfl) ?_
      refine gx_iload hX (gx_dt dt_mi_m_seeds 74 rfl) rfl ?_
      obtain ⟨v2, e_v2, h⟩ := gx_bd h
      refine gx_iald hX e_v2 (gx_dt dt_mi_m_seeds 75 rfl) ?_
      obtain ⟨w3, e_w3, h⟩ := gx_bd h
      refine gx_iast hX e_w3 (gx_dt dt_mi_m_seeds 76 rfl) ?_
      obtain ⟨v4, e_v4, h⟩ := gx_bd h
      refine gx_iinc hX (v := v4) (ls' := [some (.inr 0), none, none, some (.inl b3), some (.inl v4)]) (gx_dt dt_mi_m_seeds 77 rfl) rfl (gx_ii e_v4 (by decide)) (by decide) rfl ?_
      refine gx_goto hX (tgt := 120) (gx_dt dt_mi_m_seeds 78 rfl) (by decide) ?_
      exact gx_weak (gx_leS (gx_leN (gx_leN (gx_leS (gx_leS gx_le0))))) (ih _ _ _ h)
theorem t_m_seeds_117 {X : gx_X} (hX : gx_Ok X mi_m_seeds) {R : Int32 × gx_Wd} (hres : gx_res X = some (.inl R.1)) (hwr : gx_wr X = R.2) (b3 : Int32) (w : gx_Wd) (h : m_seeds_117 b3 w = some R) : gx_G X mi_m_seeds 117 [some (.inr 0), none, none, some (.inl b3)] [] w := by
  rw [m_seeds_117] at h
  refine gx_iconst hX (v := 0) (gx_dt dt_mi_m_seeds 64 rfl) (by decide) ?_
  refine gx_istore hX (ls' := [some (.inr 0), none, none, some (.inl b3), some (.inl (0))]) (gx_dt dt_mi_m_seeds 65 rfl) (by decide) rfl ?_
  exact gx_weak (gx_leS (gx_leN (gx_leN (gx_leS (gx_leS gx_le0))))) (t_m_seeds_120 hX hres hwr _ _ _ _ h)
theorem t_m_seeds_109 {X : gx_X} (hX : gx_Ok X mi_m_seeds) {R : Int32 × gx_Wd} (hres : gx_res X = some (.inl R.1)) (hwr : gx_wr X = R.2) {K61 : Int32 → Int32 → Int32 → gx_Wd → Option (Int32 × gx_Wd)} (hK61 : ∀ (b1 : Int32) (b3 : Int32) (b4 : Int32) (w : gx_Wd), K61 b1 b3 b4 w = some R → gx_G X mi_m_seeds 61 [some (.inr 0), some (.inl b1), none, some (.inl b3), some (.inl b4)] [] w) (b1 : Int32) (b4 : Int32) (s0 : Int32) (s1 : Int32) (w : gx_Wd) (h : m_seeds_109 K61 b1 b4 s0 s1 w = some R) : gx_G X mi_m_seeds 109 [some (.inr 0), some (.inl b1), none, none, some (.inl b4)] [.inl s0, .inl s1] w := by
  rw [m_seeds_109] at h
  refine gx_iadd hX (gx_dt dt_mi_m_seeds 60 rfl) ?_
  obtain ⟨v1, e_v1, h⟩ := gx_bd h
  refine gx_top e_v1 ?_
  refine gx_istore_n hX (ls' := [some (.inr 0), some (.inl b1), none, some (.inl v1), some (.inl b4)]) (gx_dt dt_mi_m_seeds 61 rfl) (by decide) rfl ?_
  obtain ⟨v2, e_v2, h⟩ := gx_bd h
  refine gx_iinc hX (v := v2) (ls' := [some (.inr 0), some (.inl b1), none, some (.inl v1), some (.inl v2)]) (gx_dt dt_mi_m_seeds 62 rfl) rfl (gx_ii e_v2 (by decide)) (by decide) rfl ?_
  refine gx_goto hX (tgt := 61) (gx_dt dt_mi_m_seeds 63 rfl) (by decide) ?_
  exact gx_weak (gx_leS (gx_leS (gx_leN (gx_leS (gx_leS gx_le0))))) (hK61 _ _ _ _ h)
theorem t_m_seeds_96 {X : gx_X} (hX : gx_Ok X mi_m_seeds) {R : Int32 × gx_Wd} (hres : gx_res X = some (.inl R.1)) (hwr : gx_wr X = R.2) {K61 : Int32 → Int32 → Int32 → gx_Wd → Option (Int32 × gx_Wd)} (hK61 : ∀ (b1 : Int32) (b3 : Int32) (b4 : Int32) (w : gx_Wd), K61 b1 b3 b4 w = some R → gx_G X mi_m_seeds 61 [some (.inr 0), some (.inl b1), none, some (.inl b3), some (.inl b4)] [] w) (b1 : Int32) (b3 : Int32) (b4 : Int32) (w : gx_Wd) (h : m_seeds_96 K61 b1 b3 b4 w = some R) : gx_G X mi_m_seeds 96 [some (.inr 0), some (.inl b1), none, some (.inl b3), some (.inl b4)] [] w := by
  rw [m_seeds_96] at h
  refine gx_iload_n hX (gx_dt dt_mi_m_seeds 53 rfl) rfl ?_
  refine gx_aload_n hX (gx_dt dt_mi_m_seeds 54 rfl) rfl ?_
  obtain ⟨r1, e_r1, h⟩ := gx_bd h
  refine gx_callVi hX (gx_dt dt_mi_m_seeds 55 rfl) ln_D_203_m_isHeld mo_m_isHeld mv_m_isHeld (gx_rmb rfl) sh_m_0 ⟨_, _, rfl⟩ rfl (k_m_isHeld e_r1) rfl rfl (Nat.le_of_ble_eq_true rfl) ?_
  refine gx_if_eq hX (tgt := 108) (gx_dt dt_mi_m_seeds 56 rfl) (by decide) (fun c2 => ?_) (fun c2 => ?_)
  · have h := gx_ifp c2 h
    refine gx_iconst hX (v := 0) (gx_dt dt_mi_m_seeds 59 rfl) (by decide) ?_
    exact gx_weak (gx_leS (gx_leS (gx_leN (gx_leN (gx_leS gx_le0))))) (t_m_seeds_109 hX hres hwr hK61 _ _ _ _ _ h)
  · have h := gx_ifn c2 h
    refine gx_iconst hX (v := 1) (gx_dt dt_mi_m_seeds 57 rfl) (by decide) ?_
    refine gx_goto hX (tgt := 109) (gx_dt dt_mi_m_seeds 58 rfl) (by decide) ?_
    exact gx_weak (gx_leS (gx_leS (gx_leN (gx_leN (gx_leS gx_le0))))) (t_m_seeds_109 hX hres hwr hK61 _ _ _ _ _ h)
theorem t_m_seeds_70 {X : gx_X} (hX : gx_Ok X mi_m_seeds) {R : Int32 × gx_Wd} (hres : gx_res X = some (.inl R.1)) (hwr : gx_wr X = R.2) {K61 : Int32 → Int32 → Int32 → gx_Wd → Option (Int32 × gx_Wd)} (hK61 : ∀ (b1 : Int32) (b3 : Int32) (b4 : Int32) (w : gx_Wd), K61 b1 b3 b4 w = some R → gx_G X mi_m_seeds 61 [some (.inr 0), some (.inl b1), none, some (.inl b3), some (.inl b4)] [] w) : ∀ (n : Nat) (b1 : Int32) (b3 : Int32) (b4 : Int32) (b5 : Int32) (w : gx_Wd), m_seeds_70 K61 n b1 b3 b4 b5 w = some R → gx_G X mi_m_seeds 70 [some (.inr 0), some (.inl b1), none, some (.inl b3), some (.inl b4), some (.inl b5)] [] w := by
  intro n
  induction n with
  | zero => intro b1 b3 b4 b5 w h; rw [m_seeds_70] at h; cases h
  | succ n ih =>
    intro b1 b3 b4 b5 w h
    rw [m_seeds_70] at h
    refine gx_iload hX (gx_dt dt_mi_m_seeds 41 rfl) rfl ?_
    refine gx_bipush hX (v := 6) (gx_dt dt_mi_m_seeds 42 rfl) (by decide) ?_
    refine gx_ic_ge hX (tgt := 96) (gx_dt dt_mi_m_seeds 43 rfl) (by decide) (fun c1 => ?_) (fun c1 => ?_)
    · have h := gx_ifp c1 h
      exact gx_weak (gx_leS (gx_leS (gx_leN (gx_leS (gx_leS gx_le0))))) (t_m_seeds_96 hX hres hwr hK61 _ _ _ _ h)
    · have h := gx_ifn c1 h
      refine gx_aload_n hX (gx_dt dt_mi_m_seeds 44 rfl) rfl ?_
      refine gx_getr hX fl_D_38 sh_m_0 rfl (gx_dt dt_mi_m_seeds 45 rfl) ?_
      refine gx_iload hX (gx_dt dt_mi_m_seeds 46 rfl) rfl ?_
      refine gx_aload_n hX (gx_dt dt_mi_m_seeds 47 rfl) rfl ?_
      refine gx_bipush hX (v := 100) (gx_dt dt_mi_m_seeds 48 rfl) (by decide) ?_
      obtain ⟨r2, e_r2, h⟩ := gx_bd h
      refine gx_callVi hX (gx_dt dt_mi_m_seeds 49 rfl) ln_D_238_m_draw mo_m_draw mv_m_draw (gx_rmb rfl) sh_m_0 ⟨_, _, rfl⟩ rfl (k_m_draw e_r2) rfl rfl (Nat.le_of_ble_eq_true rfl) ?_
      obtain ⟨w3, e_w3, h⟩ := gx_bd h
      refine gx_iast hX e_w3 (gx_dt dt_mi_m_seeds 50 rfl) ?_
      obtain ⟨v4, e_v4, h⟩ := gx_bd h
      refine gx_iinc hX (v := v4) (ls' := [some (.inr 0), some (.inl b1), none, some (.inl b3), some (.inl b4), some (.inl v4)]) (gx_dt dt_mi_m_seeds 51 rfl) rfl (gx_ii e_v4 (by decide)) (by decide) rfl ?_
      refine gx_goto hX (tgt := 70) (gx_dt dt_mi_m_seeds 52 rfl) (by decide) ?_
      exact gx_weak (gx_leS (gx_leS (gx_leN (gx_leS (gx_leS (gx_leS gx_le0)))))) (ih _ _ _ _ _ h)
theorem t_m_seeds_61 {X : gx_X} (hX : gx_Ok X mi_m_seeds) {R : Int32 × gx_Wd} (hres : gx_res X = some (.inl R.1)) (hwr : gx_wr X = R.2) : ∀ (n : Nat) (b1 : Int32) (b3 : Int32) (b4 : Int32) (w : gx_Wd), m_seeds_61 n b1 b3 b4 w = some R → gx_G X mi_m_seeds 61 [some (.inr 0), some (.inl b1), none, some (.inl b3), some (.inl b4)] [] w := by
  intro n
  induction n with
  | zero => intro b1 b3 b4 w h; rw [m_seeds_61] at h; cases h
  | succ n ih =>
    intro b1 b3 b4 w h
    rw [m_seeds_61] at h
    refine gx_iload hX (gx_dt dt_mi_m_seeds 36 rfl) rfl ?_
    refine gx_iload_n hX (gx_dt dt_mi_m_seeds 37 rfl) rfl ?_
    refine gx_ic_ge hX (tgt := 117) (gx_dt dt_mi_m_seeds 38 rfl) (by decide) (fun c1 => ?_) (fun c1 => ?_)
    · have h := gx_ifp c1 h
      exact gx_weak (gx_leS (gx_leN (gx_leN (gx_leS gx_le0)))) (t_m_seeds_117 hX hres hwr _ _ h)
    · have h := gx_ifn c1 h
      refine gx_iconst hX (v := 0) (gx_dt dt_mi_m_seeds 39 rfl) (by decide) ?_
      refine gx_istore hX (ls' := [some (.inr 0), some (.inl b1), none, some (.inl b3), some (.inl b4), some (.inl (0))]) (gx_dt dt_mi_m_seeds 40 rfl) (by decide) rfl ?_
      exact gx_weak (gx_leS (gx_leS (gx_leN (gx_leS (gx_leS (gx_leS gx_le0)))))) (t_m_seeds_70 hX hres hwr ih _ _ _ _ _ _ h)
theorem t_m_seeds_51 {X : gx_X} (hX : gx_Ok X mi_m_seeds) {R : Int32 × gx_Wd} (hres : gx_res X = some (.inl R.1)) (hwr : gx_wr X = R.2) (b1 : Int32) (b2 : Int32) (w : gx_Wd) (h : m_seeds_51 b1 b2 w = some R) : gx_G X mi_m_seeds 51 [some (.inr 0), some (.inl b1), some (.inl b2)] [] w := by
  rw [m_seeds_51] at h
  refine gx_aload_n hX (gx_dt dt_mi_m_seeds 29 rfl) rfl ?_
  refine gx_iload_n hX (gx_dt dt_mi_m_seeds 30 rfl) rfl ?_
  obtain ⟨w1, e_w1, h⟩ := gx_bd h
  refine gx_putp hX fl_D_80 (pf_D_23 _) sh_m_0 rfl e_w1 (gx_dt dt_mi_m_seeds 31 rfl) ?_
  refine gx_iconst hX (v := 0) (gx_dt dt_mi_m_seeds 32 rfl) (by decide) ?_
  refine gx_istore_n hX (ls' := [some (.inr 0), some (.inl b1), some (.inl b2), some (.inl (0))]) (gx_dt dt_mi_m_seeds 33 rfl) (by decide) rfl ?_
  refine gx_iconst hX (v := 0) (gx_dt dt_mi_m_seeds 34 rfl) (by decide) ?_
  refine gx_istore hX (ls' := [some (.inr 0), some (.inl b1), some (.inl b2), some (.inl (0)), some (.inl (0))]) (gx_dt dt_mi_m_seeds 35 rfl) (by decide) rfl ?_
  exact gx_weak (gx_leS (gx_leS (gx_leN (gx_leS (gx_leS gx_le0))))) (t_m_seeds_61 hX hres hwr _ _ _ _ _ h)
theorem t_m_seeds_27 {X : gx_X} (hX : gx_Ok X mi_m_seeds) {R : Int32 × gx_Wd} (hres : gx_res X = some (.inl R.1)) (hwr : gx_wr X = R.2) : ∀ (n : Nat) (b1 : Int32) (b2 : Int32) (b3 : Int32) (w : gx_Wd), m_seeds_27 n b1 b2 b3 w = some R → gx_G X mi_m_seeds 27 [some (.inr 0), some (.inl b1), some (.inl b2), some (.inl b3)] [] w := by
  intro n
  induction n with
  | zero => intro b1 b2 b3 w h; rw [m_seeds_27] at h; cases h
  | succ n ih =>
    intro b1 b2 b3 w h
    rw [m_seeds_27] at h
    refine gx_iload_n hX (gx_dt dt_mi_m_seeds 16 rfl) rfl ?_
    refine gx_bipush hX (v := 6) (gx_dt dt_mi_m_seeds 17 rfl) (by decide) ?_
    refine gx_ic_ge hX (tgt := 51) (gx_dt dt_mi_m_seeds 18 rfl) (by decide) (fun c1 => ?_) (fun c1 => ?_)
    · have h := gx_ifp c1 h
      exact gx_weak (gx_leS (gx_leS (gx_leS gx_le0))) (t_m_seeds_51 hX hres hwr _ _ _ h)
    · have h := gx_ifn c1 h
      refine gx_aload_n hX (gx_dt dt_mi_m_seeds 19 rfl) rfl ?_
      refine gx_getr hX fl_D_83 sh_m_0 rfl (gx_dt dt_mi_m_seeds 20 rfl) ?_
      refine gx_iload_n hX (gx_dt dt_mi_m_seeds 21 rfl) rfl ?_
      refine gx_aload_n hX (gx_dt dt_mi_m_seeds 22 rfl) rfl ?_
      refine gx_getr hX fl_D_38 sh_m_0 rfl (gx_dt dt_mi_m_seeds 23 rfl) ?_
      refine gx_iload_n hX (gx_dt dt_mi_m_seeds 24 rfl) rfl ?_
      obtain ⟨v2, e_v2, h⟩ := gx_bd h
      refine gx_iald hX e_v2 (gx_dt dt_mi_m_seeds 25 rfl) ?_
      obtain ⟨w3, e_w3, h⟩ := gx_bd h
      refine gx_iast hX e_w3 (gx_dt dt_mi_m_seeds 26 rfl) ?_
      obtain ⟨v4, e_v4, h⟩ := gx_bd h
      refine gx_iinc hX (v := v4) (ls' := [some (.inr 0), some (.inl b1), some (.inl b2), some (.inl v4)]) (gx_dt dt_mi_m_seeds 27 rfl) rfl (gx_ii e_v4 (by decide)) (by decide) rfl ?_
      refine gx_goto hX (tgt := 27) (gx_dt dt_mi_m_seeds 28 rfl) (by decide) ?_
      exact gx_weak (gx_leS (gx_leS (gx_leS (gx_leS gx_le0)))) (ih _ _ _ _ h)
theorem k_m_seeds {a1 : Int32} {a2 : Int32} {w : gx_Wd} {R : Int32 × gx_Wd} (h : m_seeds a1 a2 w = some R) : gx_MT mi_m_seeds [.inr 0, .inl a1, .inl a2] w (some (.inl R.1)) R.2 := by
  refine gx_met (by decide +kernel) (Nat.le_of_ble_eq_true rfl) (fun X hX hres hwr => ?_)
  show gx_G X mi_m_seeds 0 [some (.inr 0), some (.inl a1), some (.inl a2)] [] w
  rw [m_seeds] at h
  refine gx_iload_n hX (gx_dt dt_mi_m_seeds 0 rfl) rfl ?_
  refine gx_iconst hX (v := 1) (gx_dt dt_mi_m_seeds 1 rfl) (by decide) ?_
  refine gx_ic_ge hX (tgt := 12) (gx_dt dt_mi_m_seeds 2 rfl) (by decide) (fun c1 => ?_) (fun c1 => ?_)
  · have h := gx_ifp c1 h
    refine gx_iload_n hX (gx_dt dt_mi_m_seeds 7 rfl) rfl ?_
    refine gx_bipush hX (v := 30) (gx_dt dt_mi_m_seeds 8 rfl) (by decide) ?_
    refine gx_ic_le hX (tgt := 25) (gx_dt dt_mi_m_seeds 9 rfl) (by decide) (fun c2 => ?_) (fun c2 => ?_)
    · have h := gx_ifp c2 h
      refine gx_iconst hX (v := 0) (gx_dt dt_mi_m_seeds 14 rfl) (by decide) ?_
      refine gx_istore_n hX (ls' := [some (.inr 0), some (.inl a1), some (.inl a2), some (.inl (0))]) (gx_dt dt_mi_m_seeds 15 rfl) (by decide) rfl ?_
      exact gx_weak (gx_leS (gx_leS (gx_leS (gx_leS gx_le0)))) (t_m_seeds_27 hX hres hwr _ _ _ _ _ h)
    · have h := gx_ifn c2 h
      refine gx_aload_n hX (gx_dt dt_mi_m_seeds 10 rfl) rfl ?_
      refine gx_bipush hX (v := (-6)) (gx_dt dt_mi_m_seeds 11 rfl) (by decide) ?_
      obtain ⟨r3, e_r3, h⟩ := gx_bd h
      refine gx_callVi hX (gx_dt dt_mi_m_seeds 12 rfl) ln_D_121_m_no mo_m_no mv_m_no (gx_rmb rfl) sh_m_0 ⟨_, _, rfl⟩ rfl (k_m_no e_r3) rfl rfl (Nat.le_of_ble_eq_true rfl) ?_
      obtain rfl := Option.some.inj h
      exact gx_iret hX (gx_dt dt_mi_m_seeds 13 rfl) rfl hres hwr
  · have h := gx_ifn c1 h
    refine gx_aload_n hX (gx_dt dt_mi_m_seeds 3 rfl) rfl ?_
    refine gx_bipush hX (v := (-4)) (gx_dt dt_mi_m_seeds 4 rfl) (by decide) ?_
    obtain ⟨r4, e_r4, h⟩ := gx_bd h
    refine gx_callVi hX (gx_dt dt_mi_m_seeds 5 rfl) ln_D_121_m_no mo_m_no mv_m_no (gx_rmb rfl) sh_m_0 ⟨_, _, rfl⟩ rfl (k_m_no e_r4) rfl rfl (Nat.le_of_ble_eq_true rfl) ?_
    obtain rfl := Option.some.inj h
    exact gx_iret hX (gx_dt dt_mi_m_seeds 6 rfl) rfl hres hwr
