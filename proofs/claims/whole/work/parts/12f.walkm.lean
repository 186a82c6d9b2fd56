-- EachBearsPillarModel.image()I
def m_image_119 : Nat → Int32 → gx_Wd → Option (Int32 × gx_Wd)
  | 0, _, _ => none
  | n + 1, b1, w =>
  if 16 ≤ b1 then
    some (w 0 0, w)
  else
  (gx_ald sh_m w 6 b1).bind fun v2 =>
  (gx_ast sh_m w 19 b1 v2).bind fun w3 =>
  (some (b1 + 1)).bind fun v4 =>
  (m_image_119 n) v4 w3
def m_image_117 (w : gx_Wd) : Option (Int32 × gx_Wd) :=
  m_image_119 6000 0 w
def m_image_93 : Nat → Int32 → gx_Wd → Option (Int32 × gx_Wd)
  | 0, _, _ => none
  | n + 1, b1, w =>
  if 6 ≤ b1 then
    m_image_117 w
  else
  (gx_ald sh_m w 5 b1).bind fun v2 =>
  (gx_ast sh_m w 18 b1 v2).bind fun w3 =>
  (some (b1 + 1)).bind fun v4 =>
  (m_image_93 n) v4 w3
def m_image_91 (w : gx_Wd) : Option (Int32 × gx_Wd) :=
  m_image_93 6000 0 w
def m_image_31 : Nat → Int32 → gx_Wd → Option (Int32 × gx_Wd)
  | 0, _, _ => none
  | n + 1, b1, w =>
  if 7 ≤ b1 then
    m_image_91 w
  else
  (gx_ald sh_m w 1 b1).bind fun v2 =>
  (gx_ast sh_m w 14 b1 v2).bind fun w3 =>
  (gx_ald sh_m w3 2 b1).bind fun v4 =>
  (gx_ast sh_m w3 15 b1 v4).bind fun w5 =>
  (gx_ald sh_m w5 3 b1).bind fun v6 =>
  (gx_ast sh_m w5 16 b1 v6).bind fun w7 =>
  (gx_ald sh_m w7 4 b1).bind fun v8 =>
  (gx_ast sh_m w7 17 b1 v8).bind fun w9 =>
  (some (b1 + 1)).bind fun v10 =>
  (m_image_31 n) v10 w9
def m_image (w : gx_Wd) : Option (Int32 × gx_Wd) :=
  (gx_put w 0 25 1).bind fun w1 =>
  (gx_put w1 0 26 (w1 0 0)).bind fun w2 =>
  (gx_put w2 0 27 (w2 0 1)).bind fun w3 =>
  (gx_put w3 0 28 (w3 0 2)).bind fun w4 =>
  m_image_31 6000 0 w4
theorem t_m_image_119 {X : gx_X} (hX : gx_Ok X mi_m_image) {R : Int32 × gx_Wd} (hres : gx_res X = some (.inl R.1)) (hwr : gx_wr X = R.2) : ∀ (n : Nat) (b1 : Int32) (w : gx_Wd), m_image_119 n b1 w = some R → gx_G X mi_m_image 119 [some (.inr 0), some (.inl b1)] [] w := by
  intro n
  induction n with
  | zero => intro b1 w h; rw [m_image_119] at h; cases h
  | succ n ih =>
    intro b1 w h
    rw [m_image_119] at h
    refine gx_iload_n hX (gx_dt dt_mi_m_image 71 rfl) rfl ?_
    refine gx_bipush hX (v := 16) (gx_dt dt_mi_m_image 72 rfl) (by decide) ?_
    refine gx_ic_ge hX (tgt := 143) (gx_dt dt_mi_m_image 73 rfl) (by decide) (fun c1 => ?_) (fun c1 => ?_)
    · have h := gx_ifp c1 h
      refine gx_aload_n hX (gx_dt dt_mi_m_image 84 rfl) rfl ?_
      refine gx_geti hX fl_D_7 sh_m_0 rfl (gx_dt dt_mi_m_image 85 rfl) ?_
      obtain rfl := Option.some.inj h
      exact gx_iret hX (gx_dt dt_mi_m_image 86 rfl) rfl hres hwr
    · have h := gx_ifn c1 h
      refine gx_aload_n hX (gx_dt dt_mi_m_image 74 rfl) rfl ?_
      refine gx_getr hX fl_D_114 sh_m_0 rfl (gx_dt dt_mi_m_image 75 rfl) ?_
      refine gx_iload_n hX (gx_dt dt_mi_m_image 76 rfl) rfl ?_
      refine gx_aload_n hX (gx_dt dt_mi_m_image 77 rfl) rfl ?_
      refine gx_getr hX fl_D_41 sh_m_0 rfl (gx_dt dt_mi_m_image 78 rfl) ?_
      refine gx_iload_n hX (gx_dt dt_mi_m_image 79 rfl) rfl ?_
      obtain ⟨v2, e_v2, h⟩ := gx_bd h
      refine gx_iald hX e_v2 (gx_dt dt_mi_m_image 80 rfl) ?_
      obtain ⟨w3, e_w3, h⟩ := gx_bd h
      refine gx_iast hX e_w3 (gx_dt dt_mi_m_image 81 rfl) ?_
      obtain ⟨v4, e_v4, h⟩ := gx_bd h
      refine gx_iinc hX (v := v4) (ls' := [some (.inr 0), some (.inl v4)]) (gx_dt dt_mi_m_image 82 rfl) rfl (gx_ii e_v4 (by decide)) (by decide) rfl ?_
      refine gx_goto hX (tgt := 119) (gx_dt dt_mi_m_image 83 rfl) (by decide) ?_
      exact gx_weak (gx_leS (gx_leS gx_le0)) (ih _ _ h)
theorem t_m_image_117 {X : gx_X} (hX : gx_Ok X mi_m_image) {R : Int32 × gx_Wd} (hres : gx_res X = some (.inl R.1)) (hwr : gx_wr X = R.2) (w : gx_Wd) (h : m_image_117 w = some R) : gx_G X mi_m_image 117 [some (.inr 0)] [] w := by
  rw [m_image_117] at h
  refine gx_iconst hX (v := 0) (gx_dt dt_mi_m_image 69 rfl) (by decide) ?_
  refine gx_istore_n hX (ls' := [some (.inr 0), some (.inl (0))]) (gx_dt dt_mi_m_image 70 rfl) (by decide) rfl ?_
  exact gx_weak (gx_leS (gx_leS gx_le0)) (t_m_image_119 hX hres hwr _ _ _ h)
theorem t_m_image_93 {X : gx_X} (hX : gx_Ok X mi_m_image) {R : Int32 × gx_Wd} (hres : gx_res X = some (.inl R.1)) (hwr : gx_wr X = R.2) : ∀ (n : Nat) (b1 : Int32) (w : gx_Wd), m_image_93 n b1 w = some R → gx_G X mi_m_image 93 [some (.inr 0), some (.inl b1)] [] w := by
  intro n
  induction n with
  | zero => intro b1 w h; rw [m_image_93] at h; cases h
  | succ n ih =>
    intro b1 w h
    rw [m_image_93] at h
    refine gx_iload_n hX (gx_dt dt_mi_m_image 56 rfl) rfl ?_
    refine gx_bipush hX (v := 6) (gx_dt dt_mi_m_image 57 rfl) (by decide) ?_
    refine gx_ic_ge hX (tgt := 117) (gx_dt dt_mi_m_image 58 rfl) (by decide) (fun c1 => ?_) (fun c1 => ?_)
    · have h := gx_ifp c1 h
      exact gx_weak (gx_leS gx_le0) (t_m_image_117 hX hres hwr _ h)
    · have h := gx_ifn c1 h
      refine gx_aload_n hX (gx_dt dt_mi_m_image 59 rfl) rfl ?_
      refine gx_getr hX fl_D_111 sh_m_0 rfl (gx_dt dt_mi_m_image 60 rfl) ?_
      refine gx_iload_n hX (gx_dt dt_mi_m_image 61 rfl) rfl ?_
      refine gx_aload_n hX (gx_dt dt_mi_m_image 62 rfl) rfl ?_
      refine gx_getr hX fl_D_38 sh_m_0 rfl (gx_dt dt_mi_m_image 63 rfl) ?_
      refine gx_iload_n hX (gx_dt dt_mi_m_image 64 rfl) rfl ?_
      obtain ⟨v2, e_v2, h⟩ := gx_bd h
      refine gx_iald hX e_v2 (gx_dt dt_mi_m_image 65 rfl) ?_
      obtain ⟨w3, e_w3, h⟩ := gx_bd h
      refine gx_iast hX e_w3 (gx_dt dt_mi_m_image 66 rfl) ?_
      obtain ⟨v4, e_v4, h⟩ := gx_bd h
      refine gx_iinc hX (v := v4) (ls' := [some (.inr 0), some (.inl v4)]) (gx_dt dt_mi_m_image 67 rfl) rfl (gx_ii e_v4 (by decide)) (by decide) rfl ?_
      refine gx_goto hX (tgt := 93) (gx_dt dt_mi_m_image 68 rfl) (by decide) ?_
      exact gx_weak (gx_leS (gx_leS gx_le0)) (ih _ _ h)
theorem t_m_image_91 {X : gx_X} (hX : gx_Ok X mi_m_image) {R : Int32 × gx_Wd} (hres : gx_res X = some (.inl R.1)) (hwr : gx_wr X = R.2) (w : gx_Wd) (h : m_image_91 w = some R) : gx_G X mi_m_image 91 [some (.inr 0)] [] w := by
  rw [m_image_91] at h
  refine gx_iconst hX (v := 0) (gx_dt dt_mi_m_image 54 rfl) (by decide) ?_
  refine gx_istore_n hX (ls' := [some (.inr 0), some (.inl (0))]) (gx_dt dt_mi_m_image 55 rfl) (by decide) rfl ?_
  exact gx_weak (gx_leS (gx_leS gx_le0)) (t_m_image_93 hX hres hwr _ _ _ h)
theorem t_m_image_31 {X : gx_X} (hX : gx_Ok X mi_m_image) {R : Int32 × gx_Wd} (hres : gx_res X = some (.inl R.1)) (hwr : gx_wr X = R.2) : ∀ (n : Nat) (b1 : Int32) (w : gx_Wd), m_image_31 n b1 w = some R → gx_G X mi_m_image 31 [some (.inr 0), some (.inl b1)] [] w := by
  intro n
  induction n with
  | zero => intro b1 w h; rw [m_image_31] at h; cases h
  | succ n ih =>
    intro b1 w h
    rw [m_image_31] at h
    refine gx_iload_n hX (gx_dt dt_mi_m_image 17 rfl) rfl ?_
    refine gx_bipush hX (v := 7) (gx_dt dt_mi_m_image 18 rfl) (by decide) ?_
    refine gx_ic_ge hX (tgt := 91) (gx_dt dt_mi_m_image 19 rfl) (by decide) (fun c1 => ?_) (fun c1 => ?_)
    · have h := gx_ifp c1 h
      exact gx_weak (gx_leS gx_le0) (t_m_image_91 hX hres hwr _ h)
    · have h := gx_ifn c1 h
      refine gx_aload_n hX (gx_dt dt_mi_m_image 20 rfl) rfl ?_
      refine gx_getr hX fl_D_99 sh_m_0 rfl (gx_dt dt_mi_m_image 21 rfl) ?_
      refine gx_iload_n hX (gx_dt dt_mi_m_image 22 rfl) rfl ?_
      refine gx_aload_n hX (gx_dt dt_mi_m_image 23 rfl) rfl ?_
      refine gx_getr hX fl_D_25 sh_m_0 rfl (gx_dt dt_mi_m_image 24 rfl) ?_
      refine gx_iload_n hX (gx_dt dt_mi_m_image 25 rfl) rfl ?_
      obtain ⟨v2, e_v2, h⟩ := gx_bd h
      refine gx_iald hX e_v2 (gx_dt dt_mi_m_image 26 rfl) ?_
      obtain ⟨w3, e_w3, h⟩ := gx_bd h
      refine gx_iast hX e_w3 (gx_dt dt_mi_m_image 27 rfl) ?_
      refine gx_aload_n hX (gx_dt dt_mi_m_image 28 rfl) rfl ?_
      refine gx_getr hX fl_D_102 sh_m_0 rfl (gx_dt dt_mi_m_image 29 rfl) ?_
      refine gx_iload_n hX (gx_dt dt_mi_m_image 30 rfl) rfl ?_
      refine gx_aload_n hX (gx_dt dt_mi_m_image 31 rfl) rfl ?_
      refine gx_getr hX fl_D_29 sh_m_0 rfl (gx_dt dt_mi_m_image 32 rfl) ?_
      refine gx_iload_n hX (gx_dt dt_mi_m_image 33 rfl) rfl ?_
      obtain ⟨v4, e_v4, h⟩ := gx_bd h
      refine gx_iald hX e_v4 (gx_dt dt_mi_m_image 34 rfl) ?_
      obtain ⟨w5, e_w5, h⟩ := gx_bd h
      refine gx_iast hX e_w5 (gx_dt dt_mi_m_image 35 rfl) ?_
      refine gx_aload_n hX (gx_dt dt_mi_m_image 36 rfl) rfl ?_
      refine gx_getr hX fl_D_105 sh_m_0 rfl (gx_dt dt_mi_m_image 37 rfl) ?_
      refine gx_iload_n hX (gx_dt dt_mi_m_image 38 rfl) rfl ?_
      refine gx_aload_n hX (gx_dt dt_mi_m_image 39 rfl) rfl ?_
      refine gx_getr hX fl_D_32 sh_m_0 rfl (gx_dt dt_mi_m_image 40 rfl) ?_
      refine gx_iload_n hX (gx_dt dt_mi_m_image 41 rfl) rfl ?_
      obtain ⟨v6, e_v6, h⟩ := gx_bd h
      refine gx_iald hX e_v6 (gx_dt dt_mi_m_image 42 rfl) ?_
      obtain ⟨w7, e_w7, h⟩ := gx_bd h
      refine gx_iast hX e_w7 (gx_dt dt_mi_m_image 43 rfl) ?_
      refine gx_aload_n hX (gx_dt dt_mi_m_image 44 rfl) rfl ?_
      refine gx_getr hX fl_D_108 sh_m_0 rfl (gx_dt dt_mi_m_image 45 rfl) ?_
      refine gx_iload_n hX (gx_dt dt_mi_m_image 46 rfl) rfl ?_
      refine gx_aload_n hX (gx_dt dt_mi_m_image 47 rfl) rfl ?_
      refine gx_getr hX fl_D_35 sh_m_0 rfl (gx_dt dt_mi_m_image 48 rfl) ?_
      refine gx_iload_n hX (gx_dt dt_mi_m_image 49 rfl) rfl ?_
      obtain ⟨v8, e_v8, h⟩ := gx_bd h
      refine gx_iald hX e_v8 (gx_dt dt_mi_m_image 50 rfl) ?_
      obtain ⟨w9, e_w9, h⟩ := gx_bd h
      refine gx_iast hX e_w9 (gx_dt dt_mi_m_image 51 rfl) ?_
      obtain ⟨v10, e_v10, h⟩ := gx_bd h
      refine gx_iinc hX (v := v10) (ls' := [some (.inr 0), some (.inl v10)]) (gx_dt dt_mi_m_image 52 rfl) rfl (gx_ii e_v10 (by decide)) (by decide) rfl ?_
      refine gx_goto hX (tgt := 31) (gx_dt dt_mi_m_image 53 rfl) (by decide) ?_
      exact gx_weak (gx_leS (gx_leS gx_le0)) (ih _ _ h)
theorem k_m_image {w : gx_Wd} {R : Int32 × gx_Wd} (h : m_image w = some R) : gx_MT mi_m_image [.inr 0] w (some (.inl R.1)) R.2 := by
  refine gx_met (by decide +kernel) (Nat.le_of_ble_eq_true rfl) (fun X hX hres hwr => ?_)
  show gx_G X mi_m_image 0 [some (.inr 0)] [] w
  rw [m_image] at h
  refine gx_aload_n hX (gx_dt dt_mi_m_image 0 rfl) rfl ?_
  refine gx_iconst hX (v := 1) (gx_dt dt_mi_m_image 1 rfl) (by decide) ?_
  obtain ⟨w1, e_w1, h⟩ := gx_bd h
  refine gx_putp hX fl_D_86 pf_D_25_1 sh_m_0 rfl e_w1 (gx_dt dt_mi_m_image 2 rfl) ?_
  refine gx_aload_n hX (gx_dt dt_mi_m_image 3 rfl) rfl ?_
  refine gx_aload_n hX (gx_dt dt_mi_m_image 4 rfl) rfl ?_
  refine gx_geti hX fl_D_7 sh_m_0 rfl (gx_dt dt_mi_m_image 5 rfl) ?_
  obtain ⟨w2, e_w2, h⟩ := gx_bd h
  refine gx_putp hX fl_D_90 (pf_D_26 _) sh_m_0 rfl e_w2 (gx_dt dt_mi_m_image 6 rfl) ?_
  refine gx_aload_n hX (gx_dt dt_mi_m_image 7 rfl) rfl ?_
  refine gx_aload_n hX (gx_dt dt_mi_m_image 8 rfl) rfl ?_
  refine gx_geti hX fl_D_13 sh_m_0 rfl (gx_dt dt_mi_m_image 9 rfl) ?_
  obtain ⟨w3, e_w3, h⟩ := gx_bd h
  refine gx_putp hX fl_D_93 (pf_D_27 _) sh_m_0 rfl e_w3 (gx_dt dt_mi_m_image 10 rfl) ?_
  refine gx_aload_n hX (gx_dt dt_mi_m_image 11 rfl) rfl ?_
  refine gx_aload_n hX (gx_dt dt_mi_m_image 12 rfl) rfl ?_
  refine gx_geti hX fl_D_16 sh_m_0 rfl (gx_dt dt_mi_m_image 13 rfl) ?_
  obtain ⟨w4, e_w4, h⟩ := gx_bd h
  refine gx_putp hX fl_D_96 (pf_D_28 _) sh_m_0 rfl e_w4 (gx_dt dt_mi_m_image 14 rfl) ?_
  refine gx_iconst hX (v := 0) (gx_dt dt_mi_m_image 15 rfl) (by decide) ?_
  refine gx_istore_n hX (ls' := [some (.inr 0), some (.inl (0))]) (gx_dt dt_mi_m_image 16 rfl) (by decide) rfl ?_
  exact gx_weak (gx_leS (gx_leS gx_le0)) (t_m_image_31 hX hres hwr _ _ _ h)
-- EachBearsPillarModel.on()I
def m_on_128 : Nat → Int32 → gx_Wd → Option (Int32 × gx_Wd)
  | 0, _, _ => none
  | n + 1, b1, w =>
  if 16 ≤ b1 then
    some (w 0 0, w)
  else
  (gx_ald sh_m w 19 b1).bind fun v2 =>
  (gx_ast sh_m w 6 b1 v2).bind fun w3 =>
  (some (b1 + 1)).bind fun v4 =>
  (m_on_128 n) v4 w3
def m_on_126 (w : gx_Wd) : Option (Int32 × gx_Wd) :=
  m_on_128 6000 0 w
def m_on_102 : Nat → Int32 → gx_Wd → Option (Int32 × gx_Wd)
  | 0, _, _ => none
  | n + 1, b1, w =>
  if 6 ≤ b1 then
    m_on_126 w
  else
  (gx_ald sh_m w 18 b1).bind fun v2 =>
  (gx_ast sh_m w 5 b1 v2).bind fun w3 =>
  (some (b1 + 1)).bind fun v4 =>
  (m_on_102 n) v4 w3
def m_on_100 (w : gx_Wd) : Option (Int32 × gx_Wd) :=
  m_on_102 6000 0 w
def m_on_40 : Nat → Int32 → gx_Wd → Option (Int32 × gx_Wd)
  | 0, _, _ => none
  | n + 1, b1, w =>
  if 7 ≤ b1 then
    m_on_100 w
  else
  (gx_ald sh_m w 14 b1).bind fun v2 =>
  (gx_ast sh_m w 1 b1 v2).bind fun w3 =>
  (gx_ald sh_m w3 15 b1).bind fun v4 =>
  (gx_ast sh_m w3 2 b1 v4).bind fun w5 =>
  (gx_ald sh_m w5 16 b1).bind fun v6 =>
  (gx_ast sh_m w5 3 b1 v6).bind fun w7 =>
  (gx_ald sh_m w7 17 b1).bind fun v8 =>
  (gx_ast sh_m w7 4 b1 v8).bind fun w9 =>
  (some (b1 + 1)).bind fun v10 =>
  (m_on_40 n) v10 w9
def m_on (w : gx_Wd) : Option (Int32 × gx_Wd) :=
  if w 0 25 = 0 then
    (m_no (-3) w).bind fun r5 =>
    some (r5.1, r5.2)
  else
    (gx_put w 0 0 (w 0 26)).bind fun w2 =>
    (gx_put w2 0 1 (w2 0 27)).bind fun w3 =>
    (gx_put w3 0 2 (w3 0 28)).bind fun w4 =>
    m_on_40 6000 0 w4
theorem t_m_on_128 {X : gx_X} (hX : gx_Ok X mi_m_on) {R : Int32 × gx_Wd} (hres : gx_res X = some (.inl R.1)) (hwr : gx_wr X = R.2) : ∀ (n : Nat) (b1 : Int32) (w : gx_Wd), m_on_128 n b1 w = some R → gx_G X mi_m_on 128 [some (.inr 0), some (.inl b1)] [] w := by
  intro n
  induction n with
  | zero => intro b1 w h; rw [m_on_128] at h; cases h
  | succ n ih =>
    intro b1 w h
    rw [m_on_128] at h
    refine gx_iload_n hX (gx_dt dt_mi_m_on 75 rfl) rfl ?_
    refine gx_bipush hX (v := 16) (gx_dt dt_mi_m_on 76 rfl) (by decide) ?_
    refine gx_ic_ge hX (tgt := 152) (gx_dt dt_mi_m_on 77 rfl) (by decide) (fun c1 => ?_) (fun c1 => ?_)
    · have h := gx_ifp c1 h
      refine gx_aload_n hX (gx_dt dt_mi_m_on 88 rfl) rfl ?_
      refine gx_geti hX fl_D_7 sh_m_0 rfl (gx_dt dt_mi_m_on 89 rfl) ?_
      obtain rfl := Option.some.inj h
      exact gx_iret hX (gx_dt dt_mi_m_on 90 rfl) rfl hres hwr
    · have h := gx_ifn c1 h
      refine gx_aload_n hX (gx_dt dt_mi_m_on 78 rfl) rfl ?_
      refine gx_getr hX fl_D_41 sh_m_0 rfl (gx_dt dt_mi_m_on 79 rfl) ?_
      refine gx_iload_n hX (gx_dt dt_mi_m_on 80 rfl) rfl ?_
      refine gx_aload_n hX (gx_dt dt_mi_m_on 81 rfl) rfl ?_
      refine gx_getr hX fl_D_114 sh_m_0 rfl (gx_dt dt_mi_m_on 82 rfl) ?_
      refine gx_iload_n hX (gx_dt dt_mi_m_on 83 rfl) rfl ?_
      obtain ⟨v2, e_v2, h⟩ := gx_bd h
      refine gx_iald hX e_v2 (gx_dt dt_mi_m_on 84 rfl) ?_
      obtain ⟨w3, e_w3, h⟩ := gx_bd h
      refine gx_iast hX e_w3 (gx_dt dt_mi_m_on 85 rfl) ?_
      obtain ⟨v4, e_v4, h⟩ := gx_bd h
      refine gx_iinc hX (v := v4) (ls' := [some (.inr 0), some (.inl v4)]) (gx_dt dt_mi_m_on 86 rfl) rfl (gx_ii e_v4 (by decide)) (by decide) rfl ?_
      refine gx_goto hX (tgt := 128) (gx_dt dt_mi_m_on 87 rfl) (by decide) ?_
      exact gx_weak (gx_leS (gx_leS gx_le0)) (ih _ _ h)
theorem t_m_on_126 {X : gx_X} (hX : gx_Ok X mi_m_on) {R : Int32 × gx_Wd} (hres : gx_res X = some (.inl R.1)) (hwr : gx_wr X = R.2) (w : gx_Wd) (h : m_on_126 w = some R) : gx_G X mi_m_on 126 [some (.inr 0)] [] w := by
  rw [m_on_126] at h
  refine gx_iconst hX (v := 0) (gx_dt dt_mi_m_on 73 rfl) (by decide) ?_
  refine gx_istore_n hX (ls' := [some (.inr 0), some (.inl (0))]) (gx_dt dt_mi_m_on 74 rfl) (by decide) rfl ?_
  exact gx_weak (gx_leS (gx_leS gx_le0)) (t_m_on_128 hX hres hwr _ _ _ h)
theorem t_m_on_102 {X : gx_X} (hX : gx_Ok X mi_m_on) {R : Int32 × gx_Wd} (hres : gx_res X = some (.inl R.1)) (hwr : gx_wr X = R.2) : ∀ (n : Nat) (b1 : Int32) (w : gx_Wd), m_on_102 n b1 w = some R → gx_G X mi_m_on 102 [some (.inr 0), some (.inl b1)] [] w := by
  intro n
  induction n with
  | zero => intro b1 w h; rw [m_on_102] at h; cases h
  | succ n ih =>
    intro b1 w h
    rw [m_on_102] at h
    refine gx_iload_n hX (gx_dt dt_mi_m_on 60 rfl) rfl ?_
    refine gx_bipush hX (v := 6) (gx_dt dt_mi_m_on 61 rfl) (by decide) ?_
    refine gx_ic_ge hX (tgt := 126) (gx_dt dt_mi_m_on 62 rfl) (by decide) (fun c1 => ?_) (fun c1 => ?_)
    · have h := gx_ifp c1 h
      exact gx_weak (gx_leS gx_le0) (t_m_on_126 hX hres hwr _ h)
    · have h := gx_ifn c1 h
      refine gx_aload_n hX (gx_dt dt_mi_m_on 63 rfl) rfl ?_
      refine gx_getr hX fl_D_38 sh_m_0 rfl (gx_dt dt_mi_m_on 64 rfl) ?_
      refine gx_iload_n hX (gx_dt dt_mi_m_on 65 rfl) rfl ?_
      refine gx_aload_n hX (gx_dt dt_mi_m_on 66 rfl) rfl ?_
      refine gx_getr hX fl_D_111 sh_m_0 rfl (gx_dt dt_mi_m_on 67 rfl) ?_
      refine gx_iload_n hX (gx_dt dt_mi_m_on 68 rfl) rfl ?_
      obtain ⟨v2, e_v2, h⟩ := gx_bd h
      refine gx_iald hX e_v2 (gx_dt dt_mi_m_on 69 rfl) ?_
      obtain ⟨w3, e_w3, h⟩ := gx_bd h
      refine gx_iast hX e_w3 (gx_dt dt_mi_m_on 70 rfl) ?_
      obtain ⟨v4, e_v4, h⟩ := gx_bd h
      refine gx_iinc hX (v := v4) (ls' := [some (.inr 0), some (.inl v4)]) (gx_dt dt_mi_m_on 71 rfl) rfl (gx_ii e_v4 (by decide)) (by decide) rfl ?_
      refine gx_goto hX (tgt := 102) (gx_dt dt_mi_m_on 72 rfl) (by decide) ?_
      exact gx_weak (gx_leS (gx_leS gx_le0)) (ih _ _ h)
theorem t_m_on_100 {X : gx_X} (hX : gx_Ok X mi_m_on) {R : Int32 × gx_Wd} (hres : gx_res X = some (.inl R.1)) (hwr : gx_wr X = R.2) (w : gx_Wd) (h : m_on_100 w = some R) : gx_G X mi_m_on 100 [some (.inr 0)] [] w := by
  rw [m_on_100] at h
  refine gx_iconst hX (v := 0) (gx_dt dt_mi_m_on 58 rfl) (by decide) ?_
  refine gx_istore_n hX (ls' := [some (.inr 0), some (.inl (0))]) (gx_dt dt_mi_m_on 59 rfl) (by decide) rfl ?_
  exact gx_weak (gx_leS (gx_leS gx_le0)) (t_m_on_102 hX hres hwr _ _ _ h)
theorem t_m_on_40 {X : gx_X} (hX : gx_Ok X mi_m_on) {R : Int32 × gx_Wd} (hres : gx_res X = some (.inl R.1)) (hwr : gx_wr X = R.2) : ∀ (n : Nat) (b1 : Int32) (w : gx_Wd), m_on_40 n b1 w = some R → gx_G X mi_m_on 40 [some (.inr 0), some (.inl b1)] [] w := by
  intro n
  induction n with
  | zero => intro b1 w h; rw [m_on_40] at h; cases h
  | succ n ih =>
    intro b1 w h
    rw [m_on_40] at h
    refine gx_iload_n hX (gx_dt dt_mi_m_on 21 rfl) rfl ?_
    refine gx_bipush hX (v := 7) (gx_dt dt_mi_m_on 22 rfl) (by decide) ?_
    refine gx_ic_ge hX (tgt := 100) (gx_dt dt_mi_m_on 23 rfl) (by decide) (fun c1 => ?_) (fun c1 => ?_)
    · have h := gx_ifp c1 h
      exact gx_weak (gx_leS gx_le0) (t_m_on_100 hX hres hwr _ h)
    · have h := gx_ifn c1 h
      refine gx_aload_n hX (gx_dt dt_mi_m_on 24 rfl) rfl ?_
      refine gx_getr hX fl_D_25 sh_m_0 rfl (gx_dt dt_mi_m_on 25 rfl) ?_
      refine gx_iload_n hX (gx_dt dt_mi_m_on 26 rfl) rfl ?_
      refine gx_aload_n hX (gx_dt dt_mi_m_on 27 rfl) rfl ?_
      refine gx_getr hX fl_D_99 sh_m_0 rfl (gx_dt dt_mi_m_on 28 rfl) ?_
      refine gx_iload_n hX (gx_dt dt_mi_m_on 29 rfl) rfl ?_
      obtain ⟨v2, e_v2, h⟩ := gx_bd h
      refine gx_iald hX e_v2 (gx_dt dt_mi_m_on 30 rfl) ?_
      obtain ⟨w3, e_w3, h⟩ := gx_bd h
      refine gx_iast hX e_w3 (gx_dt dt_mi_m_on 31 rfl) ?_
      refine gx_aload_n hX (gx_dt dt_mi_m_on 32 rfl) rfl ?_
      refine gx_getr hX fl_D_29 sh_m_0 rfl (gx_dt dt_mi_m_on 33 rfl) ?_
      refine gx_iload_n hX (gx_dt dt_mi_m_on 34 rfl) rfl ?_
      refine gx_aload_n hX (gx_dt dt_mi_m_on 35 rfl) rfl ?_
      refine gx_getr hX fl_D_102 sh_m_0 rfl (gx_dt dt_mi_m_on 36 rfl) ?_
      refine gx_iload_n hX (gx_dt dt_mi_m_on 37 rfl) rfl ?_
      obtain ⟨v4, e_v4, h⟩ := gx_bd h
      refine gx_iald hX e_v4 (gx_dt dt_mi_m_on 38 rfl) ?_
      obtain ⟨w5, e_w5, h⟩ := gx_bd h
      refine gx_iast hX e_w5 (gx_dt dt_mi_m_on 39 rfl) ?_
      refine gx_aload_n hX (gx_dt dt_mi_m_on 40 rfl) rfl ?_
      refine gx_getr hX fl_D_32 sh_m_0 rfl (gx_dt dt_mi_m_on 41 rfl) ?_
      refine gx_iload_n hX (gx_dt dt_mi_m_on 42 rfl) rfl ?_
      refine gx_aload_n hX (gx_dt dt_mi_m_on 43 rfl) rfl ?_
      refine gx_getr hX fl_D_105 sh_m_0 rfl (gx_dt dt_mi_m_on 44 rfl) ?_
      refine gx_iload_n hX (gx_dt dt_mi_m_on 45 rfl) rfl ?_
      obtain ⟨v6, e_v6, h⟩ := gx_bd h
      refine gx_iald hX e_v6 (gx_dt dt_mi_m_on 46 rfl) ?_
      obtain ⟨w7, e_w7, h⟩ := gx_bd h
      refine gx_iast hX e_w7 (gx_dt dt_mi_m_on 47 rfl) ?_
      refine gx_aload_n hX (gx_dt dt_mi_m_on 48 rfl) rfl ?_
      refine gx_getr hX fl_D_35 sh_m_0 rfl (gx_dt dt_mi_m_on 49 rfl) ?_
      refine gx_iload_n hX (gx_dt dt_mi_m_on 50 rfl) rfl ?_
      refine gx_aload_n hX (gx_dt dt_mi_m_on 51 rfl) rfl ?_
      refine gx_getr hX fl_D_108 sh_m_0 rfl (gx_dt dt_mi_m_on 52 rfl) ?_
      refine gx_iload_n hX (gx_dt dt_mi_m_on 53 rfl) rfl ?_
      obtain ⟨v8, e_v8, h⟩ := gx_bd h
      refine gx_iald hX e_v8 (gx_dt dt_mi_m_on 54 rfl) ?_
      obtain ⟨w9, e_w9, h⟩ := gx_bd h
      refine gx_iast hX e_w9 (gx_dt dt_mi_m_on 55 rfl) ?_
      obtain ⟨v10, e_v10, h⟩ := gx_bd h
      refine gx_iinc hX (v := v10) (ls' := [some (.inr 0), some (.inl v10)]) (gx_dt dt_mi_m_on 56 rfl) rfl (gx_ii e_v10 (by decide)) (by decide) rfl ?_
      refine gx_goto hX (tgt := 40) (gx_dt dt_mi_m_on 57 rfl) (by decide) ?_
      exact gx_weak (gx_leS (gx_leS gx_le0)) (ih _ _ h)
theorem k_m_on {w : gx_Wd} {R : Int32 × gx_Wd} (h : m_on w = some R) : gx_MT mi_m_on [.inr 0] w (some (.inl R.1)) R.2 := by
  refine gx_met (by decide +kernel) (Nat.le_of_ble_eq_true rfl) (fun X hX hres hwr => ?_)
  show gx_G X mi_m_on 0 [some (.inr 0)] [] w
  rw [m_on] at h
  refine gx_aload_n hX (gx_dt dt_mi_m_on 0 rfl) rfl ?_
  refine gx_geti hX fl_D_86 sh_m_0 rfl (gx_dt dt_mi_m_on 1 rfl) ?_
  refine gx_if_ne hX (tgt := 14) (gx_dt dt_mi_m_on 2 rfl) (by decide) (fun c1 => ?_) (fun c1 => ?_)
  · have h := gx_ifn c1 h
    refine gx_aload_n hX (gx_dt dt_mi_m_on 7 rfl) rfl ?_
    refine gx_aload_n hX (gx_dt dt_mi_m_on 8 rfl) rfl ?_
    refine gx_geti hX fl_D_90 sh_m_0 rfl (gx_dt dt_mi_m_on 9 rfl) ?_
    obtain ⟨w2, e_w2, h⟩ := gx_bd h
    refine gx_putp hX fl_D_7 (pf_D_0 _) sh_m_0 rfl e_w2 (gx_dt dt_mi_m_on 10 rfl) ?_
    refine gx_aload_n hX (gx_dt dt_mi_m_on 11 rfl) rfl ?_
    refine gx_aload_n hX (gx_dt dt_mi_m_on 12 rfl) rfl ?_
    refine gx_geti hX fl_D_93 sh_m_0 rfl (gx_dt dt_mi_m_on 13 rfl) ?_
    obtain ⟨w3, e_w3, h⟩ := gx_bd h
    refine gx_putp hX fl_D_13 (pf_D_1 _) sh_m_0 rfl e_w3 (gx_dt dt_mi_m_on 14 rfl) ?_
    refine gx_aload_n hX (gx_dt dt_mi_m_on 15 rfl) rfl ?_
    refine gx_aload_n hX (gx_dt dt_mi_m_on 16 rfl) rfl ?_
    refine gx_geti hX fl_D_96 sh_m_0 rfl (gx_dt dt_mi_m_on 17 rfl) ?_
    obtain ⟨w4, e_w4, h⟩ := gx_bd h
    refine gx_putp hX fl_D_16 (pf_D_2 _) sh_m_0 rfl e_w4 (gx_dt dt_mi_m_on 18 rfl) ?_
    refine gx_iconst hX (v := 0) (gx_dt dt_mi_m_on 19 rfl) (by decide) ?_
    refine gx_istore_n hX (ls' := [some (.inr 0), some (.inl (0))]) (gx_dt dt_mi_m_on 20 rfl) (by decide) rfl ?_
    exact gx_weak (gx_leS (gx_leS gx_le0)) (t_m_on_40 hX hres hwr _ _ _ h)
  · have h := gx_ifp c1 h
    refine gx_aload_n hX (gx_dt dt_mi_m_on 3 rfl) rfl ?_
    refine gx_bipush hX (v := (-3)) (gx_dt dt_mi_m_on 4 rfl) (by decide) ?_
    obtain ⟨r5, e_r5, h⟩ := gx_bd h
    refine gx_callVi hX (gx_dt dt_mi_m_on 5 rfl) ln_D_121_m_no mo_m_no mv_m_no (gx_rmb rfl) sh_m_0 ⟨_, _, rfl⟩ rfl (k_m_no e_r5) rfl rfl (Nat.le_of_ble_eq_true rfl) ?_
    obtain rfl := Option.some.inj h
    exact gx_iret hX (gx_dt dt_mi_m_on 6 rfl) rfl hres hwr
-- EachBearsPillarModel.allWeight()I
def m_allWeight_4 : Nat → Int32 → Int32 → gx_Wd → Option (Int32 × gx_Wd)
  | 0, _, _, _ => none
  | n + 1, b1, b2, w =>
  if 6 ≤ b2 then
    some (b1, w)
  else
  (gx_ald sh_m w 5 b2).bind fun v2 =>
  (some (b1 + v2)).bind fun v3 =>
  (some (b2 + 1)).bind fun v4 =>
  (m_allWeight_4 n) v3 v4 w
def m_allWeight (w : gx_Wd) : Option (Int32 × gx_Wd) :=
  m_allWeight_4 6000 0 0 w
theorem t_m_allWeight_4 {X : gx_X} (hX : gx_Ok X mi_m_allWeight) {R : Int32 × gx_Wd} (hres : gx_res X = some (.inl R.1)) (hwr : gx_wr X = R.2) : ∀ (n : Nat) (b1 : Int32) (b2 : Int32) (w : gx_Wd), m_allWeight_4 n b1 b2 w = some R → gx_G X mi_m_allWeight 4 [some (.inr 0), some (.inl b1), some (.inl b2)] [] w := by
  intro n
  induction n with
  | zero => intro b1 b2 w h; rw [m_allWeight_4] at h; cases h
  | succ n ih =>
    intro b1 b2 w h
    rw [m_allWeight_4] at h
    refine gx_iload_n hX (gx_dt dt_mi_m_allWeight 4 rfl) rfl ?_
    refine gx_bipush hX (v := 6) (gx_dt dt_mi_m_allWeight 5 rfl) (by decide) ?_
    refine gx_ic_ge hX (tgt := 25) (gx_dt dt_mi_m_allWeight 6 rfl) (by decide) (fun c1 => ?_) (fun c1 => ?_)
    · have h := gx_ifp c1 h
      refine gx_iload_n hX (gx_dt dt_mi_m_allWeight 16 rfl) rfl ?_
      obtain rfl := Option.some.inj h
      exact gx_iret hX (gx_dt dt_mi_m_allWeight 17 rfl) rfl hres hwr
    · have h := gx_ifn c1 h
      refine gx_iload_n hX (gx_dt dt_mi_m_allWeight 7 rfl) rfl ?_
      refine gx_aload_n hX (gx_dt dt_mi_m_allWeight 8 rfl) rfl ?_
      refine gx_getr hX fl_D_38 sh_m_0 rfl (gx_dt dt_mi_m_allWeight 9 rfl) ?_
      refine gx_iload_n hX (gx_dt dt_mi_m_allWeight 10 rfl) rfl ?_
      obtain ⟨v2, e_v2, h⟩ := gx_bd h
      refine gx_iald hX e_v2 (gx_dt dt_mi_m_allWeight 11 rfl) ?_
      refine gx_iadd hX (gx_dt dt_mi_m_allWeight 12 rfl) ?_
      obtain ⟨v3, e_v3, h⟩ := gx_bd h
      refine gx_top e_v3 ?_
      refine gx_istore_n hX (ls' := [some (.inr 0), some (.inl v3), some (.inl b2)]) (gx_dt dt_mi_m_allWeight 13 rfl) (by decide) rfl ?_
      obtain ⟨v4, e_v4, h⟩ := gx_bd h
      refine gx_iinc hX (v := v4) (ls' := [some (.inr 0), some (.inl v3), some (.inl v4)]) (gx_dt dt_mi_m_allWeight 14 rfl) rfl (gx_ii e_v4 (by decide)) (by decide) rfl ?_
      refine gx_goto hX (tgt := 4) (gx_dt dt_mi_m_allWeight 15 rfl) (by decide) ?_
      exact gx_weak (gx_leS (gx_leS (gx_leS gx_le0))) (ih _ _ _ h)
theorem k_m_allWeight {w : gx_Wd} {R : Int32 × gx_Wd} (h : m_allWeight w = some R) : gx_MT mi_m_allWeight [.inr 0] w (some (.inl R.1)) R.2 := by
  refine gx_met (by decide +kernel) (Nat.le_of_ble_eq_true rfl) (fun X hX hres hwr => ?_)
  show gx_G X mi_m_allWeight 0 [some (.inr 0)] [] w
  rw [m_allWeight] at h
  refine gx_iconst hX (v := 0) (gx_dt dt_mi_m_allWeight 0 rfl) (by decide) ?_
  refine gx_istore_n hX (ls' := [some (.inr 0), some (.inl (0))]) (gx_dt dt_mi_m_allWeight 1 rfl) (by decide) rfl ?_
  refine gx_iconst hX (v := 0) (gx_dt dt_mi_m_allWeight 2 rfl) (by decide) ?_
  refine gx_istore_n hX (ls' := [some (.inr 0), some (.inl (0)), some (.inl (0))]) (gx_dt dt_mi_m_allWeight 3 rfl) (by decide) rfl ?_
  exact gx_weak (gx_leS (gx_leS (gx_leS gx_le0))) (t_m_allWeight_4 hX hres hwr _ _ _ _ h)
-- EachBearsPillarModel.allLoads()I
def m_allLoads_4 : Nat → Int32 → Int32 → gx_Wd → Option (Int32 × gx_Wd)
  | 0, _, _, _ => none
  | n + 1, b1, b2, w =>
  if w 0 0 ≤ b2 then
    some (b1, w)
  else
  (m_loadOf b2 w).bind fun r2 =>
  (some (b1 + r2.1)).bind fun v3 =>
  (some (b2 + 1)).bind fun v4 =>
  (m_allLoads_4 n) v3 v4 r2.2
def m_allLoads (w : gx_Wd) : Option (Int32 × gx_Wd) :=
  m_allLoads_4 6000 0 0 w
theorem t_m_allLoads_4 {X : gx_X} (hX : gx_Ok X mi_m_allLoads) {R : Int32 × gx_Wd} (hres : gx_res X = some (.inl R.1)) (hwr : gx_wr X = R.2) : ∀ (n : Nat) (b1 : Int32) (b2 : Int32) (w : gx_Wd), m_allLoads_4 n b1 b2 w = some R → gx_G X mi_m_allLoads 4 [some (.inr 0), some (.inl b1), some (.inl b2)] [] w := by
  intro n
  induction n with
  | zero => intro b1 b2 w h; rw [m_allLoads_4] at h; cases h
  | succ n ih =>
    intro b1 b2 w h
    rw [m_allLoads_4] at h
    refine gx_iload_n hX (gx_dt dt_mi_m_allLoads 4 rfl) rfl ?_
    refine gx_aload_n hX (gx_dt dt_mi_m_allLoads 5 rfl) rfl ?_
    refine gx_geti hX fl_D_7 sh_m_0 rfl (gx_dt dt_mi_m_allLoads 6 rfl) ?_
    refine gx_ic_ge hX (tgt := 26) (gx_dt dt_mi_m_allLoads 7 rfl) (by decide) (fun c1 => ?_) (fun c1 => ?_)
    · have h := gx_ifp c1 h
      refine gx_iload_n hX (gx_dt dt_mi_m_allLoads 16 rfl) rfl ?_
      obtain rfl := Option.some.inj h
      exact gx_iret hX (gx_dt dt_mi_m_allLoads 17 rfl) rfl hres hwr
    · have h := gx_ifn c1 h
      refine gx_iload_n hX (gx_dt dt_mi_m_allLoads 8 rfl) rfl ?_
      refine gx_aload_n hX (gx_dt dt_mi_m_allLoads 9 rfl) rfl ?_
      refine gx_iload_n hX (gx_dt dt_mi_m_allLoads 10 rfl) rfl ?_
      obtain ⟨r2, e_r2, h⟩ := gx_bd h
      refine gx_callVi hX (gx_dt dt_mi_m_allLoads 11 rfl) ln_D_185_m_loadOf mo_m_loadOf mv_m_loadOf (gx_rmb rfl) sh_m_0 ⟨_, _, rfl⟩ rfl (k_m_loadOf e_r2) rfl rfl (Nat.le_of_ble_eq_true rfl) ?_
      refine gx_iadd hX (gx_dt dt_mi_m_allLoads 12 rfl) ?_
      obtain ⟨v3, e_v3, h⟩ := gx_bd h
      refine gx_top e_v3 ?_
      refine gx_istore_n hX (ls' := [some (.inr 0), some (.inl v3), some (.inl b2)]) (gx_dt dt_mi_m_allLoads 13 rfl) (by decide) rfl ?_
      obtain ⟨v4, e_v4, h⟩ := gx_bd h
      refine gx_iinc hX (v := v4) (ls' := [some (.inr 0), some (.inl v3), some (.inl v4)]) (gx_dt dt_mi_m_allLoads 14 rfl) rfl (gx_ii e_v4 (by decide)) (by decide) rfl ?_
      refine gx_goto hX (tgt := 4) (gx_dt dt_mi_m_allLoads 15 rfl) (by decide) ?_
      exact gx_weak (gx_leS (gx_leS (gx_leS gx_le0))) (ih _ _ _ h)
theorem k_m_allLoads {w : gx_Wd} {R : Int32 × gx_Wd} (h : m_allLoads w = some R) : gx_MT mi_m_allLoads [.inr 0] w (some (.inl R.1)) R.2 := by
  refine gx_met (by decide +kernel) (Nat.le_of_ble_eq_true rfl) (fun X hX hres hwr => ?_)
  show gx_G X mi_m_allLoads 0 [some (.inr 0)] [] w
  rw [m_allLoads] at h
  refine gx_iconst hX (v := 0) (gx_dt dt_mi_m_allLoads 0 rfl) (by decide) ?_
  refine gx_istore_n hX (ls' := [some (.inr 0), some (.inl (0))]) (gx_dt dt_mi_m_allLoads 1 rfl) (by decide) rfl ?_
  refine gx_iconst hX (v := 0) (gx_dt dt_mi_m_allLoads 2 rfl) (by decide) ?_
  refine gx_istore_n hX (ls' := [some (.inr 0), some (.inl (0)), some (.inl (0))]) (gx_dt dt_mi_m_allLoads 3 rfl) (by decide) rfl ?_
  exact gx_weak (gx_leS (gx_leS (gx_leS gx_le0))) (t_m_allLoads_4 hX hres hwr _ _ _ _ h)
-- EachBearsPillarModel.manyBear()I
def m_manyBear_26 (K4 : Int32 → Int32 → gx_Wd → Option (Int32 × gx_Wd)) (b2 : Int32) (s0 : Int32) (s1 : Int32) (w : gx_Wd) : Option (Int32 × gx_Wd) :=
  (some (s1 + s0)).bind fun v1 =>
  (some (b2 + 1)).bind fun v2 =>
  K4 v1 v2 w
def m_manyBear_4 : Nat → Int32 → Int32 → gx_Wd → Option (Int32 × gx_Wd)
  | 0, _, _, _ => none
  | n + 1, b1, b2, w =>
  if w 0 0 ≤ b2 then
    some (b1, w)
  else
  (m_bears b2 w).bind fun r2 =>
  if r2.1 = 0 then
    m_manyBear_26 (m_manyBear_4 n) b2 0 b1 r2.2
  else
  m_manyBear_26 (m_manyBear_4 n) b2 1 b1 r2.2
def m_manyBear (w : gx_Wd) : Option (Int32 × gx_Wd) :=
  m_manyBear_4 6000 0 0 w
theorem t_m_manyBear_26 {X : gx_X} (hX : gx_Ok X mi_m_manyBear) {R : Int32 × gx_Wd} (hres : gx_res X = some (.inl R.1)) (hwr : gx_wr X = R.2) {K4 : Int32 → Int32 → gx_Wd → Option (Int32 × gx_Wd)} (hK4 : ∀ (b1 : Int32) (b2 : Int32) (w : gx_Wd), K4 b1 b2 w = some R → gx_G X mi_m_manyBear 4 [some (.inr 0), some (.inl b1), some (.inl b2)] [] w) (b2 : Int32) (s0 : Int32) (s1 : Int32) (w : gx_Wd) (h : m_manyBear_26 K4 b2 s0 s1 w = some R) : gx_G X mi_m_manyBear 26 [some (.inr 0), none, some (.inl b2)] [.inl s0, .inl s1] w := by
  rw [m_manyBear_26] at h
  refine gx_iadd hX (gx_dt dt_mi_m_manyBear 16 rfl) ?_
  obtain ⟨v1, e_v1, h⟩ := gx_bd h
  refine gx_top e_v1 ?_
  refine gx_istore_n hX (ls' := [some (.inr 0), some (.inl v1), some (.inl b2)]) (gx_dt dt_mi_m_manyBear 17 rfl) (by decide) rfl ?_
  obtain ⟨v2, e_v2, h⟩ := gx_bd h
  refine gx_iinc hX (v := v2) (ls' := [some (.inr 0), some (.inl v1), some (.inl v2)]) (gx_dt dt_mi_m_manyBear 18 rfl) rfl (gx_ii e_v2 (by decide)) (by decide) rfl ?_
  refine gx_goto hX (tgt := 4) (gx_dt dt_mi_m_manyBear 19 rfl) (by decide) ?_
  exact gx_weak (gx_leS (gx_leS (gx_leS gx_le0))) (hK4 _ _ _ h)
theorem t_m_manyBear_4 {X : gx_X} (hX : gx_Ok X mi_m_manyBear) {R : Int32 × gx_Wd} (hres : gx_res X = some (.inl R.1)) (hwr : gx_wr X = R.2) : ∀ (n : Nat) (b1 : Int32) (b2 : Int32) (w : gx_Wd), m_manyBear_4 n b1 b2 w = some R → gx_G X mi_m_manyBear 4 [some (.inr 0), some (.inl b1), some (.inl b2)] [] w := by
  intro n
  induction n with
  | zero => intro b1 b2 w h; rw [m_manyBear_4] at h; cases h
  | succ n ih =>
    intro b1 b2 w h
    rw [m_manyBear_4] at h
    refine gx_iload_n hX (gx_dt dt_mi_m_manyBear 4 rfl) rfl ?_
    refine gx_aload_n hX (gx_dt dt_mi_m_manyBear 5 rfl) rfl ?_
    refine gx_geti hX fl_D_7 sh_m_0 rfl (gx_dt dt_mi_m_manyBear 6 rfl) ?_
    refine gx_ic_ge hX (tgt := 34) (gx_dt dt_mi_m_manyBear 7 rfl) (by decide) (fun c1 => ?_) (fun c1 => ?_)
    · have h := gx_ifp c1 h
      refine gx_iload_n hX (gx_dt dt_mi_m_manyBear 20 rfl) rfl ?_
      obtain rfl := Option.some.inj h
      exact gx_iret hX (gx_dt dt_mi_m_manyBear 21 rfl) rfl hres hwr
    · have h := gx_ifn c1 h
      refine gx_iload_n hX (gx_dt dt_mi_m_manyBear 8 rfl) rfl ?_
      refine gx_aload_n hX (gx_dt dt_mi_m_manyBear 9 rfl) rfl ?_
      refine gx_iload_n hX (gx_dt dt_mi_m_manyBear 10 rfl) rfl ?_
      obtain ⟨r2, e_r2, h⟩ := gx_bd h
      refine gx_callVi hX (gx_dt dt_mi_m_manyBear 11 rfl) ln_D_178_m_bears mo_m_bears mv_m_bears (gx_rmb rfl) sh_m_0 ⟨_, _, rfl⟩ rfl (k_m_bears e_r2) rfl rfl (Nat.le_of_ble_eq_true rfl) ?_
      refine gx_if_eq hX (tgt := 25) (gx_dt dt_mi_m_manyBear 12 rfl) (by decide) (fun c3 => ?_) (fun c3 => ?_)
      · have h := gx_ifp c3 h
        refine gx_iconst hX (v := 0) (gx_dt dt_mi_m_manyBear 15 rfl) (by decide) ?_
        exact gx_weak (gx_leS (gx_leN (gx_leS gx_le0))) (t_m_manyBear_26 hX hres hwr ih _ _ _ _ h)
      · have h := gx_ifn c3 h
        refine gx_iconst hX (v := 1) (gx_dt dt_mi_m_manyBear 13 rfl) (by decide) ?_
        refine gx_goto hX (tgt := 26) (gx_dt dt_mi_m_manyBear 14 rfl) (by decide) ?_
        exact gx_weak (gx_leS (gx_leN (gx_leS gx_le0))) (t_m_manyBear_26 hX hres hwr ih _ _ _ _ h)
theorem k_m_manyBear {w : gx_Wd} {R : Int32 × gx_Wd} (h : m_manyBear w = some R) : gx_MT mi_m_manyBear [.inr 0] w (some (.inl R.1)) R.2 := by
  refine gx_met (by decide +kernel) (Nat.le_of_ble_eq_true rfl) (fun X hX hres hwr => ?_)
  show gx_G X mi_m_manyBear 0 [some (.inr 0)] [] w
  rw [m_manyBear] at h
  refine gx_iconst hX (v := 0) (gx_dt dt_mi_m_manyBear 0 rfl) (by decide) ?_
  refine gx_istore_n hX (ls' := [some (.inr 0), some (.inl (0))]) (gx_dt dt_mi_m_manyBear 1 rfl) (by decide) rfl ?_
  refine gx_iconst hX (v := 0) (gx_dt dt_mi_m_manyBear 2 rfl) (by decide) ?_
  refine gx_istore_n hX (ls' := [some (.inr 0), some (.inl (0)), some (.inl (0))]) (gx_dt dt_mi_m_manyBear 3 rfl) (by decide) rfl ?_
  exact gx_weak (gx_leS (gx_leS (gx_leS gx_le0))) (t_m_manyBear_4 hX hres hwr _ _ _ _ h)
-- EachBearsPillarModel.count(I)I
def m_count (a1 : Int32) (w : gx_Wd) : Option (Int32 × gx_Wd) :=
  (m_in a1 11 16 w).bind fun r1 =>
  if r1.1 = 0 then
    if a1 = 0 then
      some (r1.2 0 0, r1.2)
    else
    if a1 = 1 then
      some (r1.2 0 1, r1.2)
    else
    if a1 = 2 then
      some (r1.2 0 2, r1.2)
    else
    if a1 = 3 then
      (m_allWeight r1.2).bind fun r7 =>
      some (r7.1, r7.2)
    else
    if a1 = 4 then
      (m_allLoads r1.2).bind fun r9 =>
      some (r9.1, r9.2)
    else
    if a1 = 5 then
      (m_manyBear r1.2).bind fun r11 =>
      some (r11.1, r11.2)
    else
    if a1 = 6 then
      some (r1.2 0 4, r1.2)
    else
    if a1 = 7 then
      some (r1.2 0 3, r1.2)
    else
    some ((-9), r1.2)
  else
  (gx_ald sh_m r1.2 9 (a1 - 10)).bind fun v14 =>
  some (v14, r1.2)
theorem k_m_count {a1 : Int32} {w : gx_Wd} {R : Int32 × gx_Wd} (h : m_count a1 w = some R) : gx_MT mi_m_count [.inr 0, .inl a1] w (some (.inl R.1)) R.2 := by
  refine gx_met (by decide +kernel) (Nat.le_of_ble_eq_true rfl) (fun X hX hres hwr => ?_)
  show gx_G X mi_m_count 0 [some (.inr 0), some (.inl a1)] [] w
  rw [m_count] at h
  refine gx_aload_n hX (gx_dt dt_mi_m_count 0 rfl) rfl ?_
  refine gx_iload_n hX (gx_dt dt_mi_m_count 1 rfl) rfl ?_
  refine gx_bipush hX (v := 11) (gx_dt dt_mi_m_count 2 rfl) (by decide) ?_
  refine gx_bipush hX (v := 16) (gx_dt dt_mi_m_count 3 rfl) (by decide) ?_
  obtain ⟨r1, e_r1, h⟩ := gx_bd h
  refine gx_callVi hX (gx_dt dt_mi_m_count 4 rfl) ln_D_117_m_in mo_m_in mv_m_in (gx_rmb rfl) sh_m_0 ⟨_, _, rfl⟩ rfl (k_m_in e_r1) rfl rfl (Nat.le_of_ble_eq_true rfl) ?_
  refine gx_if_eq hX (tgt := 22) (gx_dt dt_mi_m_count 5 rfl) (by decide) (fun c2 => ?_) (fun c2 => ?_)
  · have h := gx_ifp c2 h
    refine gx_iload_n hX (gx_dt dt_mi_m_count 13 rfl) rfl ?_
    by_cases c3 : a1 = 0
    · have h := gx_ifp c3 h
      refine gx_tabIn hX (off := 45) (tgt := 68) (gx_dt dt_mi_m_count 14 rfl) (by rw [c3]; decide) (by rw [c3]; decide) (by rw [c3]; rfl) (by decide) ?_
      refine gx_aload_n hX (gx_dt dt_mi_m_count 15 rfl) rfl ?_
      refine gx_geti hX fl_D_7 sh_m_0 rfl (gx_dt dt_mi_m_count 16 rfl) ?_
      obtain rfl := Option.some.inj h
      exact gx_iret hX (gx_dt dt_mi_m_count 17 rfl) rfl hres hwr
    have h := gx_ifn c3 h
    by_cases c4 : a1 = 1
    · have h := gx_ifp c4 h
      refine gx_tabIn hX (off := 50) (tgt := 73) (gx_dt dt_mi_m_count 14 rfl) (by rw [c4]; decide) (by rw [c4]; decide) (by rw [c4]; rfl) (by decide) ?_
      refine gx_aload_n hX (gx_dt dt_mi_m_count 18 rfl) rfl ?_
      refine gx_geti hX fl_D_13 sh_m_0 rfl (gx_dt dt_mi_m_count 19 rfl) ?_
      obtain rfl := Option.some.inj h
      exact gx_iret hX (gx_dt dt_mi_m_count 20 rfl) rfl hres hwr
    have h := gx_ifn c4 h
    by_cases c5 : a1 = 2
    · have h := gx_ifp c5 h
      refine gx_tabIn hX (off := 55) (tgt := 78) (gx_dt dt_mi_m_count 14 rfl) (by rw [c5]; decide) (by rw [c5]; decide) (by rw [c5]; rfl) (by decide) ?_
      refine gx_aload_n hX (gx_dt dt_mi_m_count 21 rfl) rfl ?_
      refine gx_geti hX fl_D_16 sh_m_0 rfl (gx_dt dt_mi_m_count 22 rfl) ?_
      obtain rfl := Option.some.inj h
      exact gx_iret hX (gx_dt dt_mi_m_count 23 rfl) rfl hres hwr
    have h := gx_ifn c5 h
    by_cases c6 : a1 = 3
    · have h := gx_ifp c6 h
      refine gx_tabIn hX (off := 60) (tgt := 83) (gx_dt dt_mi_m_count 14 rfl) (by rw [c6]; decide) (by rw [c6]; decide) (by rw [c6]; rfl) (by decide) ?_
      refine gx_aload_n hX (gx_dt dt_mi_m_count 24 rfl) rfl ?_
      obtain ⟨r7, e_r7, h⟩ := gx_bd h
      refine gx_callVi hX (gx_dt dt_mi_m_count 25 rfl) ln_D_241_m_allWeight mo_m_allWeight mv_m_allWeight (gx_rmb rfl) sh_m_0 ⟨_, _, rfl⟩ rfl (k_m_allWeight e_r7) rfl rfl (Nat.le_of_ble_eq_true rfl) ?_
      obtain rfl := Option.some.inj h
      exact gx_iret hX (gx_dt dt_mi_m_count 26 rfl) rfl hres hwr
    have h := gx_ifn c6 h
    by_cases c8 : a1 = 4
    · have h := gx_ifp c8 h
      refine gx_tabIn hX (off := 65) (tgt := 88) (gx_dt dt_mi_m_count 14 rfl) (by rw [c8]; decide) (by rw [c8]; decide) (by rw [c8]; rfl) (by decide) ?_
      refine gx_aload_n hX (gx_dt dt_mi_m_count 27 rfl) rfl ?_
      obtain ⟨r9, e_r9, h⟩ := gx_bd h
      refine gx_callVi hX (gx_dt dt_mi_m_count 28 rfl) ln_D_244_m_allLoads mo_m_allLoads mv_m_allLoads (gx_rmb rfl) sh_m_0 ⟨_, _, rfl⟩ rfl (k_m_allLoads e_r9) rfl rfl (Nat.le_of_ble_eq_true rfl) ?_
      obtain rfl := Option.some.inj h
      exact gx_iret hX (gx_dt dt_mi_m_count 29 rfl) rfl hres hwr
    have h := gx_ifn c8 h
    by_cases c10 : a1 = 5
    · have h := gx_ifp c10 h
      refine gx_tabIn hX (off := 70) (tgt := 93) (gx_dt dt_mi_m_count 14 rfl) (by rw [c10]; decide) (by rw [c10]; decide) (by rw [c10]; rfl) (by decide) ?_
      refine gx_aload_n hX (gx_dt dt_mi_m_count 30 rfl) rfl ?_
      obtain ⟨r11, e_r11, h⟩ := gx_bd h
      refine gx_callVi hX (gx_dt dt_mi_m_count 31 rfl) ln_D_247_m_manyBear mo_m_manyBear mv_m_manyBear (gx_rmb rfl) sh_m_0 ⟨_, _, rfl⟩ rfl (k_m_manyBear e_r11) rfl rfl (Nat.le_of_ble_eq_true rfl) ?_
      obtain rfl := Option.some.inj h
      exact gx_iret hX (gx_dt dt_mi_m_count 32 rfl) rfl hres hwr
    have h := gx_ifn c10 h
    by_cases c12 : a1 = 6
    · have h := gx_ifp c12 h
      refine gx_tabIn hX (off := 75) (tgt := 98) (gx_dt dt_mi_m_count 14 rfl) (by rw [c12]; decide) (by rw [c12]; decide) (by rw [c12]; rfl) (by decide) ?_
      refine gx_aload_n hX (gx_dt dt_mi_m_count 33 rfl) rfl ?_
      refine gx_geti hX fl_D_22 sh_m_0 rfl (gx_dt dt_mi_m_count 34 rfl) ?_
      obtain rfl := Option.some.inj h
      exact gx_iret hX (gx_dt dt_mi_m_count 35 rfl) rfl hres hwr
    have h := gx_ifn c12 h
    by_cases c13 : a1 = 7
    · have h := gx_ifp c13 h
      refine gx_tabIn hX (off := 80) (tgt := 103) (gx_dt dt_mi_m_count 14 rfl) (by rw [c13]; decide) (by rw [c13]; decide) (by rw [c13]; rfl) (by decide) ?_
      refine gx_aload_n hX (gx_dt dt_mi_m_count 36 rfl) rfl ?_
      refine gx_geti hX fl_D_19 sh_m_0 rfl (gx_dt dt_mi_m_count 37 rfl) ?_
      obtain rfl := Option.some.inj h
      exact gx_iret hX (gx_dt dt_mi_m_count 38 rfl) rfl hres hwr
    have h := gx_ifn c13 h
    refine gx_tabD hX (tgt := 108) (gx_dt dt_mi_m_count 14 rfl) (gx_tdC (Or.inr (lv_neT c3 rfl)) (gx_tdC (Or.inr (lv_neT c4 rfl)) (gx_tdC (Or.inr (lv_neT c5 rfl)) (gx_tdC (Or.inr (lv_neT c6 rfl)) (gx_tdC (Or.inr (lv_neT c8 rfl)) (gx_tdC (Or.inr (lv_neT c10 rfl)) (gx_tdC (Or.inr (lv_neT c12 rfl)) (gx_tdC (Or.inr (lv_neT c13 rfl)) gx_td0)))))))) (by decide) (by decide) ?_
    refine gx_bipush hX (v := (-9)) (gx_dt dt_mi_m_count 39 rfl) (by decide) ?_
    obtain rfl := Option.some.inj h
    exact gx_iret hX (gx_dt dt_mi_m_count 40 rfl) rfl hres hwr
  · have h := gx_ifn c2 h
    refine gx_aload_n hX (gx_dt dt_mi_m_count 6 rfl) rfl ?_
    refine gx_getr hX fl_D_50 sh_m_0 rfl (gx_dt dt_mi_m_count 7 rfl) ?_
    refine gx_iload_n hX (gx_dt dt_mi_m_count 8 rfl) rfl ?_
    refine gx_bipush hX (v := 10) (gx_dt dt_mi_m_count 9 rfl) (by decide) ?_
    refine gx_isub hX (gx_dt dt_mi_m_count 10 rfl) ?_
    obtain ⟨v14, e_v14, h⟩ := gx_bd h
    refine gx_iald hX e_v14 (gx_dt dt_mi_m_count 11 rfl) ?_
    obtain rfl := Option.some.inj h
    exact gx_iret hX (gx_dt dt_mi_m_count 12 rfl) rfl hres hwr
