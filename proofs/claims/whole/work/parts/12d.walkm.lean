-- EachBearsPillarModel.layOrder(I)Z
def m_layOrder_110 (K44 : Int32 → Int32 → Int32 → Int32 → gx_Wd → Option (Int32 × gx_Wd)) (K78 : Int32 → Int32 → Int32 → Int32 → Int32 → Int32 → gx_Wd → Option (Int32 × gx_Wd)) (b2 : Int32) (b3 : Int32) (b4 : Int32) (b5 : Int32) (b7 : Int32) (s0 : Int32) (s1 : Int32) (w : gx_Wd) : Option (Int32 × gx_Wd) :=
  (some (s1 - s0)).bind fun v1 =>
  (some (b7 + 1)).bind fun v2 =>
  K78 b2 b3 b4 b5 v1 v2 w
def m_layOrder_93 (K44 : Int32 → Int32 → Int32 → Int32 → gx_Wd → Option (Int32 × gx_Wd)) (K78 : Int32 → Int32 → Int32 → Int32 → Int32 → Int32 → gx_Wd → Option (Int32 × gx_Wd)) (b2 : Int32) (b3 : Int32) (b4 : Int32) (b5 : Int32) (b6 : Int32) (b7 : Int32) (w : gx_Wd) : Option (Int32 × gx_Wd) :=
  (m_has b3 b7 w).bind fun r1 =>
  if r1.1 = 0 then
    m_layOrder_110 K44 K78 b2 b3 b4 b5 b7 0 b6 r1.2
  else
  m_layOrder_110 K44 K78 b2 b3 b4 b5 b7 1 b6 r1.2
def m_layOrder_119 (K44 : Int32 → Int32 → Int32 → Int32 → gx_Wd → Option (Int32 × gx_Wd)) (b2 : Int32) (b3 : Int32) (b4 : Int32) (b5 : Int32) (b7 : Int32) (w : gx_Wd) : Option (Int32 × gx_Wd) :=
  (gx_ast sh_m w 10 b5 b7).bind fun w1 =>
  (some (b3 &&& ((1 <<< (b7 &&& 31)) ^^^ (-1)))).bind fun v2 =>
  (some (b5 + 1)).bind fun v3 =>
  K44 b2 v2 b4 v3 w1
def m_layOrder_78 (K44 : Int32 → Int32 → Int32 → Int32 → gx_Wd → Option (Int32 × gx_Wd)) : Nat → Int32 → Int32 → Int32 → Int32 → Int32 → Int32 → gx_Wd → Option (Int32 × gx_Wd)
  | 0, _, _, _, _, _, _, _ => none
  | n + 1, b2, b3, b4, b5, b6, b7, w =>
  (m_has b3 b7 w).bind fun r1 =>
  if r1.1 = 0 then
    m_layOrder_93 K44 (m_layOrder_78 K44 n) b2 b3 b4 b5 b6 b7 r1.2
  else
  if b6 ≤ 0 then
    m_layOrder_119 K44 b2 b3 b4 b5 b7 r1.2
  else
  m_layOrder_93 K44 (m_layOrder_78 K44 n) b2 b3 b4 b5 b6 b7 r1.2
def m_layOrder_44 : Nat → Int32 → Int32 → Int32 → Int32 → gx_Wd → Option (Int32 × gx_Wd)
  | 0, _, _, _, _, _ => none
  | n + 1, b2, b3, b4, b5, w =>
  if w 0 0 ≤ b5 then
    some (1, w)
  else
  if (w 0 0) - b5 = 0 then none else
  (some (b2 / ((w 0 0) - b5))).bind fun v3 =>
  if v3 = 0 then none else
  (some (b4 / v3)).bind fun v5 =>
  if v3 = 0 then none else
  (some (b4 - b4 / v3 * v3)).bind fun v7 =>
  m_layOrder_78 (m_layOrder_44 n) 6000 v3 b3 v7 b5 v5 0 w
def m_layOrder_22 (b1 : Int32) (b2 : Int32) (w : gx_Wd) : Option (Int32 × gx_Wd) :=
  if b1 < b2 then
    (some ((1 <<< ((w 0 0) &&& 31)) - 1)).bind fun v2 =>
    m_layOrder_44 6000 b2 v2 b1 0 w
  else
  some (0, w)
def m_layOrder_4 : Nat → Int32 → Int32 → Int32 → gx_Wd → Option (Int32 × gx_Wd)
  | 0, _, _, _, _ => none
  | n + 1, b1, b2, b3, w =>
  if w 0 0 < b3 then
    m_layOrder_22 b1 b2 w
  else
  (some (b2 * b3)).bind fun v2 =>
  (some (b3 + 1)).bind fun v3 =>
  (m_layOrder_4 n) b1 v2 v3 w
def m_layOrder (a1 : Int32) (w : gx_Wd) : Option (Int32 × gx_Wd) :=
  m_layOrder_4 6000 a1 1 2 w
theorem t_m_layOrder_110 {X : gx_X} (hX : gx_Ok X mi_m_layOrder) {R : Int32 × gx_Wd} (hres : gx_res X = some (.inl R.1)) (hwr : gx_wr X = R.2) {K44 : Int32 → Int32 → Int32 → Int32 → gx_Wd → Option (Int32 × gx_Wd)} (hK44 : ∀ (b2 : Int32) (b3 : Int32) (b4 : Int32) (b5 : Int32) (w : gx_Wd), K44 b2 b3 b4 b5 w = some R → gx_G X mi_m_layOrder 44 [some (.inr 0), none, some (.inl b2), some (.inl b3), some (.inl b4), some (.inl b5)] [] w) {K78 : Int32 → Int32 → Int32 → Int32 → Int32 → Int32 → gx_Wd → Option (Int32 × gx_Wd)} (hK78 : ∀ (b2 : Int32) (b3 : Int32) (b4 : Int32) (b5 : Int32) (b6 : Int32) (b7 : Int32) (w : gx_Wd), K78 b2 b3 b4 b5 b6 b7 w = some R → gx_G X mi_m_layOrder 78 [some (.inr 0), none, some (.inl b2), some (.inl b3), some (.inl b4), some (.inl b5), some (.inl b6), some (.inl b7)] [] w) (b2 : Int32) (b3 : Int32) (b4 : Int32) (b5 : Int32) (b7 : Int32) (s0 : Int32) (s1 : Int32) (w : gx_Wd) (h : m_layOrder_110 K44 K78 b2 b3 b4 b5 b7 s0 s1 w = some R) : gx_G X mi_m_layOrder 110 [some (.inr 0), none, some (.inl b2), some (.inl b3), some (.inl b4), some (.inl b5), none, some (.inl b7)] [.inl s0, .inl s1] w := by
  rw [m_layOrder_110] at h
  refine gx_isub hX (gx_dt dt_mi_m_layOrder 67 rfl) ?_
  obtain ⟨v1, e_v1, h⟩ := gx_bd h
  refine gx_top e_v1 ?_
  refine gx_istore hX (ls' := [some (.inr 0), none, some (.inl b2), some (.inl b3), some (.inl b4), some (.inl b5), some (.inl v1), some (.inl b7)]) (gx_dt dt_mi_m_layOrder 68 rfl) (by decide) rfl ?_
  obtain ⟨v2, e_v2, h⟩ := gx_bd h
  refine gx_iinc hX (v := v2) (ls' := [some (.inr 0), none, some (.inl b2), some (.inl b3), some (.inl b4), some (.inl b5), some (.inl v1), some (.inl v2)]) (gx_dt dt_mi_m_layOrder 69 rfl) rfl (gx_ii e_v2 (by decide)) (by decide) rfl ?_
  refine gx_goto hX (tgt := 78) (gx_dt dt_mi_m_layOrder 70 rfl) (by decide) ?_
  exact gx_weak (gx_leS (gx_leN (gx_leS (gx_leS (gx_leS (gx_leS (gx_leS (gx_leS gx_le0)))))))) (hK78 _ _ _ _ _ _ _ h)
theorem t_m_layOrder_93 {X : gx_X} (hX : gx_Ok X mi_m_layOrder) {R : Int32 × gx_Wd} (hres : gx_res X = some (.inl R.1)) (hwr : gx_wr X = R.2) {K44 : Int32 → Int32 → Int32 → Int32 → gx_Wd → Option (Int32 × gx_Wd)} (hK44 : ∀ (b2 : Int32) (b3 : Int32) (b4 : Int32) (b5 : Int32) (w : gx_Wd), K44 b2 b3 b4 b5 w = some R → gx_G X mi_m_layOrder 44 [some (.inr 0), none, some (.inl b2), some (.inl b3), some (.inl b4), some (.inl b5)] [] w) {K78 : Int32 → Int32 → Int32 → Int32 → Int32 → Int32 → gx_Wd → Option (Int32 × gx_Wd)} (hK78 : ∀ (b2 : Int32) (b3 : Int32) (b4 : Int32) (b5 : Int32) (b6 : Int32) (b7 : Int32) (w : gx_Wd), K78 b2 b3 b4 b5 b6 b7 w = some R → gx_G X mi_m_layOrder 78 [some (.inr 0), none, some (.inl b2), some (.inl b3), some (.inl b4), some (.inl b5), some (.inl b6), some (.inl b7)] [] w) (b2 : Int32) (b3 : Int32) (b4 : Int32) (b5 : Int32) (b6 : Int32) (b7 : Int32) (w : gx_Wd) (h : m_layOrder_93 K44 K78 b2 b3 b4 b5 b6 b7 w = some R) : gx_G X mi_m_layOrder 93 [some (.inr 0), none, some (.inl b2), some (.inl b3), some (.inl b4), some (.inl b5), some (.inl b6), some (.inl b7)] [] w := by
  rw [m_layOrder_93] at h
  refine gx_iload hX (gx_dt dt_mi_m_layOrder 58 rfl) rfl ?_
  refine gx_aload_n hX (gx_dt dt_mi_m_layOrder 59 rfl) rfl ?_
  refine gx_iload_n hX (gx_dt dt_mi_m_layOrder 60 rfl) rfl ?_
  refine gx_iload hX (gx_dt dt_mi_m_layOrder 61 rfl) rfl ?_
  obtain ⟨r1, e_r1, h⟩ := gx_bd h
  refine gx_callVi hX (gx_dt dt_mi_m_layOrder 62 rfl) ln_D_213_m_has mo_m_has mv_m_has (gx_rmb rfl) sh_m_0 ⟨_, _, rfl⟩ rfl (k_m_has e_r1) rfl rfl (Nat.le_of_ble_eq_true rfl) ?_
  refine gx_if_eq hX (tgt := 109) (gx_dt dt_mi_m_layOrder 63 rfl) (by decide) (fun c2 => ?_) (fun c2 => ?_)
  · have h := gx_ifp c2 h
    refine gx_iconst hX (v := 0) (gx_dt dt_mi_m_layOrder 66 rfl) (by decide) ?_
    exact gx_weak (gx_leS (gx_leN (gx_leS (gx_leS (gx_leS (gx_leS (gx_leN (gx_leS gx_le0)))))))) (t_m_layOrder_110 hX hres hwr hK44 hK78 _ _ _ _ _ _ _ _ h)
  · have h := gx_ifn c2 h
    refine gx_iconst hX (v := 1) (gx_dt dt_mi_m_layOrder 64 rfl) (by decide) ?_
    refine gx_goto hX (tgt := 110) (gx_dt dt_mi_m_layOrder 65 rfl) (by decide) ?_
    exact gx_weak (gx_leS (gx_leN (gx_leS (gx_leS (gx_leS (gx_leS (gx_leN (gx_leS gx_le0)))))))) (t_m_layOrder_110 hX hres hwr hK44 hK78 _ _ _ _ _ _ _ _ h)
theorem t_m_layOrder_119 {X : gx_X} (hX : gx_Ok X mi_m_layOrder) {R : Int32 × gx_Wd} (hres : gx_res X = some (.inl R.1)) (hwr : gx_wr X = R.2) {K44 : Int32 → Int32 → Int32 → Int32 → gx_Wd → Option (Int32 × gx_Wd)} (hK44 : ∀ (b2 : Int32) (b3 : Int32) (b4 : Int32) (b5 : Int32) (w : gx_Wd), K44 b2 b3 b4 b5 w = some R → gx_G X mi_m_layOrder 44 [some (.inr 0), none, some (.inl b2), some (.inl b3), some (.inl b4), some (.inl b5)] [] w) (b2 : Int32) (b3 : Int32) (b4 : Int32) (b5 : Int32) (b7 : Int32) (w : gx_Wd) (h : m_layOrder_119 K44 b2 b3 b4 b5 b7 w = some R) : gx_G X mi_m_layOrder 119 [some (.inr 0), none, some (.inl b2), some (.inl b3), some (.inl b4), some (.inl b5), none, some (.inl b7)] [] w := by
  rw [m_layOrder_119] at h
  refine gx_aload_n hX (gx_dt dt_mi_m_layOrder 71 rfl) rfl ?_
  refine gx_getr hX fl_D_65 sh_m_0 rfl (gx_dt dt_mi_m_layOrder 72 rfl) ?_
  refine gx_iload hX (gx_dt dt_mi_m_layOrder 73 rfl) rfl ?_
  refine gx_iload hX (gx_dt dt_mi_m_layOrder 74 rfl) rfl ?_
  obtain ⟨w1, e_w1, h⟩ := gx_bd h
  refine gx_iast hX e_w1 (gx_dt dt_mi_m_layOrder 75 rfl) ?_
  refine gx_iload_n hX (gx_dt dt_mi_m_layOrder 76 rfl) rfl ?_
  refine gx_iconst hX (v := 1) (gx_dt dt_mi_m_layOrder 77 rfl) (by decide) ?_
  refine gx_iload hX (gx_dt dt_mi_m_layOrder 78 rfl) rfl ?_
  refine gx_ishl hX (gx_dt dt_mi_m_layOrder 79 rfl) ?_
  refine gx_iconst hX (v := (-1)) (gx_dt dt_mi_m_layOrder 80 rfl) (by decide) ?_
  refine gx_ixor hX (gx_dt dt_mi_m_layOrder 81 rfl) ?_
  refine gx_iand hX (gx_dt dt_mi_m_layOrder 82 rfl) ?_
  obtain ⟨v2, e_v2, h⟩ := gx_bd h
  refine gx_top e_v2 ?_
  refine gx_istore_n hX (ls' := [some (.inr 0), none, some (.inl b2), some (.inl v2), some (.inl b4), some (.inl b5), none, some (.inl b7)]) (gx_dt dt_mi_m_layOrder 83 rfl) (by decide) rfl ?_
  obtain ⟨v3, e_v3, h⟩ := gx_bd h
  refine gx_iinc hX (v := v3) (ls' := [some (.inr 0), none, some (.inl b2), some (.inl v2), some (.inl b4), some (.inl v3), none, some (.inl b7)]) (gx_dt dt_mi_m_layOrder 84 rfl) rfl (gx_ii e_v3 (by decide)) (by decide) rfl ?_
  refine gx_goto hX (tgt := 44) (gx_dt dt_mi_m_layOrder 85 rfl) (by decide) ?_
  exact gx_weak (gx_leS (gx_leN (gx_leS (gx_leS (gx_leS (gx_leS gx_le0)))))) (hK44 _ _ _ _ _ h)
theorem t_m_layOrder_78 {X : gx_X} (hX : gx_Ok X mi_m_layOrder) {R : Int32 × gx_Wd} (hres : gx_res X = some (.inl R.1)) (hwr : gx_wr X = R.2) {K44 : Int32 → Int32 → Int32 → Int32 → gx_Wd → Option (Int32 × gx_Wd)} (hK44 : ∀ (b2 : Int32) (b3 : Int32) (b4 : Int32) (b5 : Int32) (w : gx_Wd), K44 b2 b3 b4 b5 w = some R → gx_G X mi_m_layOrder 44 [some (.inr 0), none, some (.inl b2), some (.inl b3), some (.inl b4), some (.inl b5)] [] w) : ∀ (n : Nat) (b2 : Int32) (b3 : Int32) (b4 : Int32) (b5 : Int32) (b6 : Int32) (b7 : Int32) (w : gx_Wd), m_layOrder_78 K44 n b2 b3 b4 b5 b6 b7 w = some R → gx_G X mi_m_layOrder 78 [some (.inr 0), none, some (.inl b2), some (.inl b3), some (.inl b4), some (.inl b5), some (.inl b6), some (.inl b7)] [] w := by
  intro n
  induction n with
  | zero => intro b2 b3 b4 b5 b6 b7 w h; rw [m_layOrder_78] at h; cases h
  | succ n ih =>
    intro b2 b3 b4 b5 b6 b7 w h
    rw [m_layOrder_78] at h
    refine gx_aload_n hX (gx_dt dt_mi_m_layOrder 51 rfl) rfl ?_
    refine gx_iload_n hX (gx_dt dt_mi_m_layOrder 52 rfl) rfl ?_
    refine gx_iload hX (gx_dt dt_mi_m_layOrder 53 rfl) rfl ?_
    obtain ⟨r1, e_r1, h⟩ := gx_bd h
    refine gx_callVi hX (gx_dt dt_mi_m_layOrder 54 rfl) ln_D_213_m_has mo_m_has mv_m_has (gx_rmb rfl) sh_m_0 ⟨_, _, rfl⟩ rfl (k_m_has e_r1) rfl rfl (Nat.le_of_ble_eq_true rfl) ?_
    refine gx_if_eq hX (tgt := 93) (gx_dt dt_mi_m_layOrder 55 rfl) (by decide) (fun c2 => ?_) (fun c2 => ?_)
    · have h := gx_ifp c2 h
      exact gx_weak (gx_leS (gx_leN (gx_leS (gx_leS (gx_leS (gx_leS (gx_leS (gx_leS gx_le0)))))))) (t_m_layOrder_93 hX hres hwr hK44 ih _ _ _ _ _ _ _ h)
    · have h := gx_ifn c2 h
      refine gx_iload hX (gx_dt dt_mi_m_layOrder 56 rfl) rfl ?_
      refine gx_if_le hX (tgt := 119) (gx_dt dt_mi_m_layOrder 57 rfl) (by decide) (fun c3 => ?_) (fun c3 => ?_)
      · have h := gx_ifp c3 h
        exact gx_weak (gx_leS (gx_leN (gx_leS (gx_leS (gx_leS (gx_leS (gx_leN (gx_leS gx_le0)))))))) (t_m_layOrder_119 hX hres hwr hK44 _ _ _ _ _ _ h)
      · have h := gx_ifn c3 h
        exact gx_weak (gx_leS (gx_leN (gx_leS (gx_leS (gx_leS (gx_leS (gx_leS (gx_leS gx_le0)))))))) (t_m_layOrder_93 hX hres hwr hK44 ih _ _ _ _ _ _ _ h)
theorem t_m_layOrder_44 {X : gx_X} (hX : gx_Ok X mi_m_layOrder) {R : Int32 × gx_Wd} (hres : gx_res X = some (.inl R.1)) (hwr : gx_wr X = R.2) : ∀ (n : Nat) (b2 : Int32) (b3 : Int32) (b4 : Int32) (b5 : Int32) (w : gx_Wd), m_layOrder_44 n b2 b3 b4 b5 w = some R → gx_G X mi_m_layOrder 44 [some (.inr 0), none, some (.inl b2), some (.inl b3), some (.inl b4), some (.inl b5)] [] w := by
  intro n
  induction n with
  | zero => intro b2 b3 b4 b5 w h; rw [m_layOrder_44] at h; cases h
  | succ n ih =>
    intro b2 b3 b4 b5 w h
    rw [m_layOrder_44] at h
    refine gx_iload hX (gx_dt dt_mi_m_layOrder 30 rfl) rfl ?_
    refine gx_aload_n hX (gx_dt dt_mi_m_layOrder 31 rfl) rfl ?_
    refine gx_geti hX fl_D_7 sh_m_0 rfl (gx_dt dt_mi_m_layOrder 32 rfl) ?_
    refine gx_ic_ge hX (tgt := 143) (gx_dt dt_mi_m_layOrder 33 rfl) (by decide) (fun c1 => ?_) (fun c1 => ?_)
    · have h := gx_ifp c1 h
      refine gx_iconst hX (v := 1) (gx_dt dt_mi_m_layOrder 86 rfl) (by decide) ?_
      obtain rfl := Option.some.inj h
      exact gx_zret hX (gx_dt dt_mi_m_layOrder 87 rfl) rfl rfl hres hwr
    · have h := gx_ifn c1 h
      refine gx_iload_n hX (gx_dt dt_mi_m_layOrder 34 rfl) rfl ?_
      refine gx_aload_n hX (gx_dt dt_mi_m_layOrder 35 rfl) rfl ?_
      refine gx_geti hX fl_D_7 sh_m_0 rfl (gx_dt dt_mi_m_layOrder 36 rfl) ?_
      refine gx_iload hX (gx_dt dt_mi_m_layOrder 37 rfl) rfl ?_
      refine gx_isub hX (gx_dt dt_mi_m_layOrder 38 rfl) ?_
      obtain ⟨c2, h⟩ := gx_nz h
      refine gx_idiv hX (gx_dt dt_mi_m_layOrder 39 rfl) c2 ?_
      obtain ⟨v3, e_v3, h⟩ := gx_bd h
      refine gx_top e_v3 ?_
      refine gx_istore_n hX (ls' := [some (.inr 0), none, some (.inl v3), some (.inl b3), some (.inl b4), some (.inl b5)]) (gx_dt dt_mi_m_layOrder 40 rfl) (by decide) rfl ?_
      refine gx_iload hX (gx_dt dt_mi_m_layOrder 41 rfl) rfl ?_
      refine gx_iload_n hX (gx_dt dt_mi_m_layOrder 42 rfl) rfl ?_
      obtain ⟨c4, h⟩ := gx_nz h
      refine gx_idiv hX (gx_dt dt_mi_m_layOrder 43 rfl) c4 ?_
      obtain ⟨v5, e_v5, h⟩ := gx_bd h
      refine gx_top e_v5 ?_
      refine gx_istore hX (ls' := [some (.inr 0), none, some (.inl v3), some (.inl b3), some (.inl b4), some (.inl b5), some (.inl v5)]) (gx_dt dt_mi_m_layOrder 44 rfl) (by decide) rfl ?_
      refine gx_iload hX (gx_dt dt_mi_m_layOrder 45 rfl) rfl ?_
      refine gx_iload_n hX (gx_dt dt_mi_m_layOrder 46 rfl) rfl ?_
      obtain ⟨c6, h⟩ := gx_nz h
      refine gx_irem hX (gx_dt dt_mi_m_layOrder 47 rfl) c6 ?_
      obtain ⟨v7, e_v7, h⟩ := gx_bd h
      refine gx_top e_v7 ?_
      refine gx_istore hX (ls' := [some (.inr 0), none, some (.inl v3), some (.inl b3), some (.inl v7), some (.inl b5), some (.inl v5)]) (gx_dt dt_mi_m_layOrder 48 rfl) (by decide) rfl ?_
      refine gx_iconst hX (v := 0) (gx_dt dt_mi_m_layOrder 49 rfl) (by decide) ?_
      refine gx_istore hX (ls' := [some (.inr 0), none, some (.inl v3), some (.inl b3), some (.inl v7), some (.inl b5), some (.inl v5), some (.inl (0))]) (gx_dt dt_mi_m_layOrder 50 rfl) (by decide) rfl ?_
      exact gx_weak (gx_leS (gx_leN (gx_leS (gx_leS (gx_leS (gx_leS (gx_leS (gx_leS gx_le0)))))))) (t_m_layOrder_78 hX hres hwr ih _ _ _ _ _ _ _ _ h)
theorem t_m_layOrder_22 {X : gx_X} (hX : gx_Ok X mi_m_layOrder) {R : Int32 × gx_Wd} (hres : gx_res X = some (.inl R.1)) (hwr : gx_wr X = R.2) (b1 : Int32) (b2 : Int32) (w : gx_Wd) (h : m_layOrder_22 b1 b2 w = some R) : gx_G X mi_m_layOrder 22 [some (.inr 0), some (.inl b1), some (.inl b2)] [] w := by
  rw [m_layOrder_22] at h
  refine gx_iload_n hX (gx_dt dt_mi_m_layOrder 14 rfl) rfl ?_
  refine gx_iload_n hX (gx_dt dt_mi_m_layOrder 15 rfl) rfl ?_
  refine gx_ic_lt hX (tgt := 29) (gx_dt dt_mi_m_layOrder 16 rfl) (by decide) (fun c1 => ?_) (fun c1 => ?_)
  · have h := gx_ifp c1 h
    refine gx_iconst hX (v := 1) (gx_dt dt_mi_m_layOrder 19 rfl) (by decide) ?_
    refine gx_aload_n hX (gx_dt dt_mi_m_layOrder 20 rfl) rfl ?_
    refine gx_geti hX fl_D_7 sh_m_0 rfl (gx_dt dt_mi_m_layOrder 21 rfl) ?_
    refine gx_ishl hX (gx_dt dt_mi_m_layOrder 22 rfl) ?_
    refine gx_iconst hX (v := 1) (gx_dt dt_mi_m_layOrder 23 rfl) (by decide) ?_
    refine gx_isub hX (gx_dt dt_mi_m_layOrder 24 rfl) ?_
    obtain ⟨v2, e_v2, h⟩ := gx_bd h
    refine gx_top e_v2 ?_
    refine gx_istore_n hX (ls' := [some (.inr 0), some (.inl b1), some (.inl b2), some (.inl v2)]) (gx_dt dt_mi_m_layOrder 25 rfl) (by decide) rfl ?_
    refine gx_iload_n hX (gx_dt dt_mi_m_layOrder 26 rfl) rfl ?_
    refine gx_istore hX (ls' := [some (.inr 0), some (.inl b1), some (.inl b2), some (.inl v2), some (.inl b1)]) (gx_dt dt_mi_m_layOrder 27 rfl) (by decide) rfl ?_
    refine gx_iconst hX (v := 0) (gx_dt dt_mi_m_layOrder 28 rfl) (by decide) ?_
    refine gx_istore hX (ls' := [some (.inr 0), some (.inl b1), some (.inl b2), some (.inl v2), some (.inl b1), some (.inl (0))]) (gx_dt dt_mi_m_layOrder 29 rfl) (by decide) rfl ?_
    exact gx_weak (gx_leS (gx_leN (gx_leS (gx_leS (gx_leS (gx_leS gx_le0)))))) (t_m_layOrder_44 hX hres hwr _ _ _ _ _ _ h)
  · have h := gx_ifn c1 h
    refine gx_iconst hX (v := 0) (gx_dt dt_mi_m_layOrder 17 rfl) (by decide) ?_
    obtain rfl := Option.some.inj h
    exact gx_zret hX (gx_dt dt_mi_m_layOrder 18 rfl) rfl rfl hres hwr
theorem t_m_layOrder_4 {X : gx_X} (hX : gx_Ok X mi_m_layOrder) {R : Int32 × gx_Wd} (hres : gx_res X = some (.inl R.1)) (hwr : gx_wr X = R.2) : ∀ (n : Nat) (b1 : Int32) (b2 : Int32) (b3 : Int32) (w : gx_Wd), m_layOrder_4 n b1 b2 b3 w = some R → gx_G X mi_m_layOrder 4 [some (.inr 0), some (.inl b1), some (.inl b2), some (.inl b3)] [] w := by
  intro n
  induction n with
  | zero => intro b1 b2 b3 w h; rw [m_layOrder_4] at h; cases h
  | succ n ih =>
    intro b1 b2 b3 w h
    rw [m_layOrder_4] at h
    refine gx_iload_n hX (gx_dt dt_mi_m_layOrder 4 rfl) rfl ?_
    refine gx_aload_n hX (gx_dt dt_mi_m_layOrder 5 rfl) rfl ?_
    refine gx_geti hX fl_D_7 sh_m_0 rfl (gx_dt dt_mi_m_layOrder 6 rfl) ?_
    refine gx_ic_gt hX (tgt := 22) (gx_dt dt_mi_m_layOrder 7 rfl) (by decide) (fun c1 => ?_) (fun c1 => ?_)
    · have h := gx_ifp c1 h
      exact gx_weak (gx_leS (gx_leS (gx_leS gx_le0))) (t_m_layOrder_22 hX hres hwr _ _ _ h)
    · have h := gx_ifn c1 h
      refine gx_iload_n hX (gx_dt dt_mi_m_layOrder 8 rfl) rfl ?_
      refine gx_iload_n hX (gx_dt dt_mi_m_layOrder 9 rfl) rfl ?_
      refine gx_imul hX (gx_dt dt_mi_m_layOrder 10 rfl) ?_
      obtain ⟨v2, e_v2, h⟩ := gx_bd h
      refine gx_top e_v2 ?_
      refine gx_istore_n hX (ls' := [some (.inr 0), some (.inl b1), some (.inl v2), some (.inl b3)]) (gx_dt dt_mi_m_layOrder 11 rfl) (by decide) rfl ?_
      obtain ⟨v3, e_v3, h⟩ := gx_bd h
      refine gx_iinc hX (v := v3) (ls' := [some (.inr 0), some (.inl b1), some (.inl v2), some (.inl v3)]) (gx_dt dt_mi_m_layOrder 12 rfl) rfl (gx_ii e_v3 (by decide)) (by decide) rfl ?_
      refine gx_goto hX (tgt := 4) (gx_dt dt_mi_m_layOrder 13 rfl) (by decide) ?_
      exact gx_weak (gx_leS (gx_leS (gx_leS (gx_leS gx_le0)))) (ih _ _ _ _ h)
theorem k_m_layOrder {a1 : Int32} {w : gx_Wd} {R : Int32 × gx_Wd} (h : m_layOrder a1 w = some R) : gx_MT mi_m_layOrder [.inr 0, .inl a1] w (some (.inl R.1)) R.2 := by
  refine gx_met (by decide +kernel) (Nat.le_of_ble_eq_true rfl) (fun X hX hres hwr => ?_)
  show gx_G X mi_m_layOrder 0 [some (.inr 0), some (.inl a1)] [] w
  rw [m_layOrder] at h
  refine gx_iconst hX (v := 1) (gx_dt dt_mi_m_layOrder 0 rfl) (by decide) ?_
  refine gx_istore_n hX (ls' := [some (.inr 0), some (.inl a1), some (.inl (1))]) (gx_dt dt_mi_m_layOrder 1 rfl) (by decide) rfl ?_
  refine gx_iconst hX (v := 2) (gx_dt dt_mi_m_layOrder 2 rfl) (by decide) ?_
  refine gx_istore_n hX (ls' := [some (.inr 0), some (.inl a1), some (.inl (1)), some (.inl (2))]) (gx_dt dt_mi_m_layOrder 3 rfl) (by decide) rfl ?_
  exact gx_weak (gx_leS (gx_leS (gx_leS (gx_leS gx_le0)))) (t_m_layOrder_4 hX hres hwr _ _ _ _ _ h)
-- EachBearsPillarModel.orders(I)I
def m_orders_99 (b1 : Int32) (b2 : Int32) (b3 : Int32) (w : gx_Wd) : Option (Int32 × gx_Wd) :=
  if 0 ≤ b1 then
    some (b3, w)
  else
  some (b2, w)
def m_orders_77 : Nat → Int32 → Int32 → Int32 → Int32 → gx_Wd → Option (Int32 × gx_Wd)
  | 0, _, _, _, _, _ => none
  | n + 1, b1, b2, b3, b4, w =>
  if 7 ≤ b4 then
    m_orders_99 b1 b2 b3 w
  else
  (gx_ast sh_m w 10 b4 b4).bind fun w2 =>
  (some (b4 + 1)).bind fun v3 =>
  (m_orders_77 n) b1 b2 b3 v3 w2
def m_orders_74 (b1 : Int32) (b2 : Int32) (b3 : Int32) (w : gx_Wd) : Option (Int32 × gx_Wd) :=
  m_orders_77 6000 b1 b2 b3 0 w
def m_orders_68 (K27 : Int32 → Int32 → Int32 → Int32 → gx_Wd → Option (Int32 × gx_Wd)) (b1 : Int32) (b2 : Int32) (b3 : Int32) (b4 : Int32) (w : gx_Wd) : Option (Int32 × gx_Wd) :=
  (some (b4 + 1)).bind fun v1 =>
  K27 b1 b2 b3 v1 w
def m_orders_64 (K27 : Int32 → Int32 → Int32 → Int32 → gx_Wd → Option (Int32 × gx_Wd)) (b1 : Int32) (b2 : Int32) (b4 : Int32) (s0 : Int32) (w : gx_Wd) : Option (Int32 × gx_Wd) :=
  (some (b2 + 1)).bind fun v1 =>
  m_orders_68 K27 b1 v1 s0 b4 w
def m_orders_27 : Nat → Int32 → Int32 → Int32 → Int32 → gx_Wd → Option (Int32 × gx_Wd)
  | 0, _, _, _, _, _ => none
  | n + 1, b1, b2, b3, b4, w =>
  (m_layOrder b4 w).bind fun r1 =>
  if r1.1 = 0 then
    m_orders_74 b1 b2 b3 r1.2
  else
  (m_isHeld r1.2).bind fun r3 =>
  if r3.1 = 0 then
    m_orders_68 (m_orders_27 n) b1 b2 b3 b4 r3.2
  else
    if b2 = 0 then
      if b1 < 0 then
        m_orders_64 (m_orders_27 n) b1 b2 b4 b3 r3.2
      else
      (gx_ald sh_m r3.2 10 b1).bind fun v7 =>
      m_orders_64 (m_orders_27 n) b1 b2 b4 v7 r3.2
    else
      m_orders_64 (m_orders_27 n) b1 b2 b4 b3 r3.2
def m_orders_19 (b1 : Int32) (w : gx_Wd) : Option (Int32 × gx_Wd) :=
  m_orders_27 6000 b1 0 (-9) 0 w
def m_orders (a1 : Int32) (w : gx_Wd) : Option (Int32 × gx_Wd) :=
  if a1 = (-1) then
    m_orders_19 a1 w
  else
  (m_isBearer a1 w).bind fun r2 =>
  if r2.1 = 0 then
    (m_no (-1) r2.2).bind fun r4 =>
    some (r4.1, r4.2)
  else
    m_orders_19 a1 r2.2
theorem t_m_orders_99 {X : gx_X} (hX : gx_Ok X mi_m_orders) {R : Int32 × gx_Wd} (hres : gx_res X = some (.inl R.1)) (hwr : gx_wr X = R.2) (b1 : Int32) (b2 : Int32) (b3 : Int32) (w : gx_Wd) (h : m_orders_99 b1 b2 b3 w = some R) : gx_G X mi_m_orders 99 [none, some (.inl b1), some (.inl b2), some (.inl b3)] [] w := by
  rw [m_orders_99] at h
  refine gx_iload_n hX (gx_dt dt_mi_m_orders 51 rfl) rfl ?_
  refine gx_if_ge hX (tgt := 107) (gx_dt dt_mi_m_orders 52 rfl) (by decide) (fun c1 => ?_) (fun c1 => ?_)
  · have h := gx_ifp c1 h
    refine gx_iload_n hX (gx_dt dt_mi_m_orders 55 rfl) rfl ?_
    obtain rfl := Option.some.inj h
    exact gx_iret hX (gx_dt dt_mi_m_orders 56 rfl) rfl hres hwr
  · have h := gx_ifn c1 h
    refine gx_iload_n hX (gx_dt dt_mi_m_orders 53 rfl) rfl ?_
    refine gx_goto hX (tgt := 108) (gx_dt dt_mi_m_orders 54 rfl) (by decide) ?_
    obtain rfl := Option.some.inj h
    exact gx_iret hX (gx_dt dt_mi_m_orders 56 rfl) rfl hres hwr
theorem t_m_orders_77 {X : gx_X} (hX : gx_Ok X mi_m_orders) {R : Int32 × gx_Wd} (hres : gx_res X = some (.inl R.1)) (hwr : gx_wr X = R.2) : ∀ (n : Nat) (b1 : Int32) (b2 : Int32) (b3 : Int32) (b4 : Int32) (w : gx_Wd), m_orders_77 n b1 b2 b3 b4 w = some R → gx_G X mi_m_orders 77 [some (.inr 0), some (.inl b1), some (.inl b2), some (.inl b3), some (.inl b4)] [] w := by
  intro n
  induction n with
  | zero => intro b1 b2 b3 b4 w h; rw [m_orders_77] at h; cases h
  | succ n ih =>
    intro b1 b2 b3 b4 w h
    rw [m_orders_77] at h
    refine gx_iload hX (gx_dt dt_mi_m_orders 41 rfl) rfl ?_
    refine gx_bipush hX (v := 7) (gx_dt dt_mi_m_orders 42 rfl) (by decide) ?_
    refine gx_ic_ge hX (tgt := 99) (gx_dt dt_mi_m_orders 43 rfl) (by decide) (fun c1 => ?_) (fun c1 => ?_)
    · have h := gx_ifp c1 h
      exact gx_weak (gx_leN (gx_leS (gx_leS (gx_leS gx_le0)))) (t_m_orders_99 hX hres hwr _ _ _ _ h)
    · have h := gx_ifn c1 h
      refine gx_aload_n hX (gx_dt dt_mi_m_orders 44 rfl) rfl ?_
      refine gx_getr hX fl_D_65 sh_m_0 rfl (gx_dt dt_mi_m_orders 45 rfl) ?_
      refine gx_iload hX (gx_dt dt_mi_m_orders 46 rfl) rfl ?_
      refine gx_iload hX (gx_dt dt_mi_m_orders 47 rfl) rfl ?_
      obtain ⟨w2, e_w2, h⟩ := gx_bd h
      refine gx_iast hX e_w2 (gx_dt dt_mi_m_orders 48 rfl) ?_
      obtain ⟨v3, e_v3, h⟩ := gx_bd h
      refine gx_iinc hX (v := v3) (ls' := [some (.inr 0), some (.inl b1), some (.inl b2), some (.inl b3), some (.inl v3)]) (gx_dt dt_mi_m_orders 49 rfl) rfl (gx_ii e_v3 (by decide)) (by decide) rfl ?_
      refine gx_goto hX (tgt := 77) (gx_dt dt_mi_m_orders 50 rfl) (by decide) ?_
      exact gx_weak (gx_leS (gx_leS (gx_leS (gx_leS (gx_leS gx_le0))))) (ih _ _ _ _ _ h)
theorem t_m_orders_74 {X : gx_X} (hX : gx_Ok X mi_m_orders) {R : Int32 × gx_Wd} (hres : gx_res X = some (.inl R.1)) (hwr : gx_wr X = R.2) (b1 : Int32) (b2 : Int32) (b3 : Int32) (w : gx_Wd) (h : m_orders_74 b1 b2 b3 w = some R) : gx_G X mi_m_orders 74 [some (.inr 0), some (.inl b1), some (.inl b2), some (.inl b3)] [] w := by
  rw [m_orders_74] at h
  refine gx_iconst hX (v := 0) (gx_dt dt_mi_m_orders 39 rfl) (by decide) ?_
  refine gx_istore hX (ls' := [some (.inr 0), some (.inl b1), some (.inl b2), some (.inl b3), some (.inl (0))]) (gx_dt dt_mi_m_orders 40 rfl) (by decide) rfl ?_
  exact gx_weak (gx_leS (gx_leS (gx_leS (gx_leS (gx_leS gx_le0))))) (t_m_orders_77 hX hres hwr _ _ _ _ _ _ h)
theorem t_m_orders_68 {X : gx_X} (hX : gx_Ok X mi_m_orders) {R : Int32 × gx_Wd} (hres : gx_res X = some (.inl R.1)) (hwr : gx_wr X = R.2) {K27 : Int32 → Int32 → Int32 → Int32 → gx_Wd → Option (Int32 × gx_Wd)} (hK27 : ∀ (b1 : Int32) (b2 : Int32) (b3 : Int32) (b4 : Int32) (w : gx_Wd), K27 b1 b2 b3 b4 w = some R → gx_G X mi_m_orders 27 [some (.inr 0), some (.inl b1), some (.inl b2), some (.inl b3), some (.inl b4)] [] w) (b1 : Int32) (b2 : Int32) (b3 : Int32) (b4 : Int32) (w : gx_Wd) (h : m_orders_68 K27 b1 b2 b3 b4 w = some R) : gx_G X mi_m_orders 68 [some (.inr 0), some (.inl b1), some (.inl b2), some (.inl b3), some (.inl b4)] [] w := by
  rw [m_orders_68] at h
  obtain ⟨v1, e_v1, h⟩ := gx_bd h
  refine gx_iinc hX (v := v1) (ls' := [some (.inr 0), some (.inl b1), some (.inl b2), some (.inl b3), some (.inl v1)]) (gx_dt dt_mi_m_orders 37 rfl) rfl (gx_ii e_v1 (by decide)) (by decide) rfl ?_
  refine gx_goto hX (tgt := 27) (gx_dt dt_mi_m_orders 38 rfl) (by decide) ?_
  exact gx_weak (gx_leS (gx_leS (gx_leS (gx_leS (gx_leS gx_le0))))) (hK27 _ _ _ _ _ h)
theorem t_m_orders_64 {X : gx_X} (hX : gx_Ok X mi_m_orders) {R : Int32 × gx_Wd} (hres : gx_res X = some (.inl R.1)) (hwr : gx_wr X = R.2) {K27 : Int32 → Int32 → Int32 → Int32 → gx_Wd → Option (Int32 × gx_Wd)} (hK27 : ∀ (b1 : Int32) (b2 : Int32) (b3 : Int32) (b4 : Int32) (w : gx_Wd), K27 b1 b2 b3 b4 w = some R → gx_G X mi_m_orders 27 [some (.inr 0), some (.inl b1), some (.inl b2), some (.inl b3), some (.inl b4)] [] w) (b1 : Int32) (b2 : Int32) (b4 : Int32) (s0 : Int32) (w : gx_Wd) (h : m_orders_64 K27 b1 b2 b4 s0 w = some R) : gx_G X mi_m_orders 64 [some (.inr 0), some (.inl b1), some (.inl b2), none, some (.inl b4)] [.inl s0] w := by
  rw [m_orders_64] at h
  refine gx_istore_n hX (ls' := [some (.inr 0), some (.inl b1), some (.inl b2), some (.inl s0), some (.inl b4)]) (gx_dt dt_mi_m_orders 35 rfl) (by decide) rfl ?_
  obtain ⟨v1, e_v1, h⟩ := gx_bd h
  refine gx_iinc hX (v := v1) (ls' := [some (.inr 0), some (.inl b1), some (.inl v1), some (.inl s0), some (.inl b4)]) (gx_dt dt_mi_m_orders 36 rfl) rfl (gx_ii e_v1 (by decide)) (by decide) rfl ?_
  exact gx_weak (gx_leS (gx_leS (gx_leS (gx_leS (gx_leS gx_le0))))) (t_m_orders_68 hX hres hwr hK27 _ _ _ _ _ h)
theorem t_m_orders_27 {X : gx_X} (hX : gx_Ok X mi_m_orders) {R : Int32 × gx_Wd} (hres : gx_res X = some (.inl R.1)) (hwr : gx_wr X = R.2) : ∀ (n : Nat) (b1 : Int32) (b2 : Int32) (b3 : Int32) (b4 : Int32) (w : gx_Wd), m_orders_27 n b1 b2 b3 b4 w = some R → gx_G X mi_m_orders 27 [some (.inr 0), some (.inl b1), some (.inl b2), some (.inl b3), some (.inl b4)] [] w := by
  intro n
  induction n with
  | zero => intro b1 b2 b3 b4 w h; rw [m_orders_27] at h; cases h
  | succ n ih =>
    intro b1 b2 b3 b4 w h
    rw [m_orders_27] at h
    refine gx_aload_n hX (gx_dt dt_mi_m_orders 17 rfl) rfl ?_
    refine gx_iload hX (gx_dt dt_mi_m_orders 18 rfl) rfl ?_
    obtain ⟨r1, e_r1, h⟩ := gx_bd h
    refine gx_callVi hX (gx_dt dt_mi_m_orders 19 rfl) ln_D_216_m_layOrder mo_m_layOrder mv_m_layOrder (gx_rmb rfl) sh_m_0 ⟨_, _, rfl⟩ rfl (k_m_layOrder e_r1) rfl rfl (Nat.le_of_ble_eq_true rfl) ?_
    refine gx_if_eq hX (tgt := 74) (gx_dt dt_mi_m_orders 20 rfl) (by decide) (fun c2 => ?_) (fun c2 => ?_)
    · have h := gx_ifp c2 h
      exact gx_weak (gx_leS (gx_leS (gx_leS (gx_leS gx_le0)))) (t_m_orders_74 hX hres hwr _ _ _ _ h)
    · have h := gx_ifn c2 h
      refine gx_aload_n hX (gx_dt dt_mi_m_orders 21 rfl) rfl ?_
      obtain ⟨r3, e_r3, h⟩ := gx_bd h
      refine gx_callVi hX (gx_dt dt_mi_m_orders 22 rfl) ln_D_203_m_isHeld mo_m_isHeld mv_m_isHeld (gx_rmb rfl) sh_m_0 ⟨_, _, rfl⟩ rfl (k_m_isHeld e_r3) rfl rfl (Nat.le_of_ble_eq_true rfl) ?_
      refine gx_if_ne hX (tgt := 46) (gx_dt dt_mi_m_orders 23 rfl) (by decide) (fun c4 => ?_) (fun c4 => ?_)
      · have h := gx_ifn c4 h
        refine gx_iload_n hX (gx_dt dt_mi_m_orders 25 rfl) rfl ?_
        refine gx_if_ne hX (tgt := 63) (gx_dt dt_mi_m_orders 26 rfl) (by decide) (fun c5 => ?_) (fun c5 => ?_)
        · have h := gx_ifn c5 h
          refine gx_iload_n hX (gx_dt dt_mi_m_orders 34 rfl) rfl ?_
          exact gx_weak (gx_leS (gx_leS (gx_leS (gx_leN (gx_leS gx_le0))))) (t_m_orders_64 hX hres hwr ih _ _ _ _ _ h)
        · have h := gx_ifp c5 h
          refine gx_iload_n hX (gx_dt dt_mi_m_orders 27 rfl) rfl ?_
          refine gx_if_lt hX (tgt := 63) (gx_dt dt_mi_m_orders 28 rfl) (by decide) (fun c6 => ?_) (fun c6 => ?_)
          · have h := gx_ifp c6 h
            refine gx_iload_n hX (gx_dt dt_mi_m_orders 34 rfl) rfl ?_
            exact gx_weak (gx_leS (gx_leS (gx_leS (gx_leN (gx_leS gx_le0))))) (t_m_orders_64 hX hres hwr ih _ _ _ _ _ h)
          · have h := gx_ifn c6 h
            refine gx_aload_n hX (gx_dt dt_mi_m_orders 29 rfl) rfl ?_
            refine gx_getr hX fl_D_65 sh_m_0 rfl (gx_dt dt_mi_m_orders 30 rfl) ?_
            refine gx_iload_n hX (gx_dt dt_mi_m_orders 31 rfl) rfl ?_
            obtain ⟨v7, e_v7, h⟩ := gx_bd h
            refine gx_iald hX e_v7 (gx_dt dt_mi_m_orders 32 rfl) ?_
            refine gx_goto hX (tgt := 64) (gx_dt dt_mi_m_orders 33 rfl) (by decide) ?_
            exact gx_weak (gx_leS (gx_leS (gx_leS (gx_leN (gx_leS gx_le0))))) (t_m_orders_64 hX hres hwr ih _ _ _ _ _ h)
      · have h := gx_ifp c4 h
        refine gx_goto hX (tgt := 68) (gx_dt dt_mi_m_orders 24 rfl) (by decide) ?_
        exact gx_weak (gx_leS (gx_leS (gx_leS (gx_leS (gx_leS gx_le0))))) (t_m_orders_68 hX hres hwr ih _ _ _ _ _ h)
theorem t_m_orders_19 {X : gx_X} (hX : gx_Ok X mi_m_orders) {R : Int32 × gx_Wd} (hres : gx_res X = some (.inl R.1)) (hwr : gx_wr X = R.2) (b1 : Int32) (w : gx_Wd) (h : m_orders_19 b1 w = some R) : gx_G X mi_m_orders 19 [some (.inr 0), some (.inl b1)] [] w := by
  rw [m_orders_19] at h
  refine gx_iconst hX (v := 0) (gx_dt dt_mi_m_orders 11 rfl) (by decide) ?_
  refine gx_istore_n hX (ls' := [some (.inr 0), some (.inl b1), some (.inl (0))]) (gx_dt dt_mi_m_orders 12 rfl) (by decide) rfl ?_
  refine gx_bipush hX (v := (-9)) (gx_dt dt_mi_m_orders 13 rfl) (by decide) ?_
  refine gx_istore_n hX (ls' := [some (.inr 0), some (.inl b1), some (.inl (0)), some (.inl ((-9)))]) (gx_dt dt_mi_m_orders 14 rfl) (by decide) rfl ?_
  refine gx_iconst hX (v := 0) (gx_dt dt_mi_m_orders 15 rfl) (by decide) ?_
  refine gx_istore hX (ls' := [some (.inr 0), some (.inl b1), some (.inl (0)), some (.inl ((-9))), some (.inl (0))]) (gx_dt dt_mi_m_orders 16 rfl) (by decide) rfl ?_
  exact gx_weak (gx_leS (gx_leS (gx_leS (gx_leS (gx_leS gx_le0))))) (t_m_orders_27 hX hres hwr _ _ _ _ _ _ h)
theorem k_m_orders {a1 : Int32} {w : gx_Wd} {R : Int32 × gx_Wd} (h : m_orders a1 w = some R) : gx_MT mi_m_orders [.inr 0, .inl a1] w (some (.inl R.1)) R.2 := by
  refine gx_met (by decide +kernel) (Nat.le_of_ble_eq_true rfl) (fun X hX hres hwr => ?_)
  show gx_G X mi_m_orders 0 [some (.inr 0), some (.inl a1)] [] w
  rw [m_orders] at h
  refine gx_iload_n hX (gx_dt dt_mi_m_orders 0 rfl) rfl ?_
  refine gx_iconst hX (v := (-1)) (gx_dt dt_mi_m_orders 1 rfl) (by decide) ?_
  refine gx_ic_eq hX (tgt := 19) (gx_dt dt_mi_m_orders 2 rfl) (by decide) (fun c1 => ?_) (fun c1 => ?_)
  · have h := gx_ifp c1 h
    exact gx_weak (gx_leS (gx_leS gx_le0)) (t_m_orders_19 hX hres hwr _ _ h)
  · have h := gx_ifn c1 h
    refine gx_aload_n hX (gx_dt dt_mi_m_orders 3 rfl) rfl ?_
    refine gx_iload_n hX (gx_dt dt_mi_m_orders 4 rfl) rfl ?_
    obtain ⟨r2, e_r2, h⟩ := gx_bd h
    refine gx_callVi hX (gx_dt dt_mi_m_orders 5 rfl) ln_D_197_m_isBearer mo_m_isBearer mv_m_isBearer (gx_rmb rfl) sh_m_0 ⟨_, _, rfl⟩ rfl (k_m_isBearer e_r2) rfl rfl (Nat.le_of_ble_eq_true rfl) ?_
    refine gx_if_ne hX (tgt := 19) (gx_dt dt_mi_m_orders 6 rfl) (by decide) (fun c3 => ?_) (fun c3 => ?_)
    · have h := gx_ifn c3 h
      exact gx_weak (gx_leS (gx_leS gx_le0)) (t_m_orders_19 hX hres hwr _ _ h)
    · have h := gx_ifp c3 h
      refine gx_aload_n hX (gx_dt dt_mi_m_orders 7 rfl) rfl ?_
      refine gx_iconst hX (v := (-1)) (gx_dt dt_mi_m_orders 8 rfl) (by decide) ?_
      obtain ⟨r4, e_r4, h⟩ := gx_bd h
      refine gx_callVi hX (gx_dt dt_mi_m_orders 9 rfl) ln_D_121_m_no mo_m_no mv_m_no (gx_rmb rfl) sh_m_0 ⟨_, _, rfl⟩ rfl (k_m_no e_r4) rfl rfl (Nat.le_of_ble_eq_true rfl) ?_
      obtain rfl := Option.some.inj h
      exact gx_iret hX (gx_dt dt_mi_m_orders 10 rfl) rfl hres hwr
-- EachBearsPillarModel.needed()I
def m_needed_49 (b1 : Int32) (w : gx_Wd) : Option (Int32 × gx_Wd) :=
  (gx_put w 0 19 (-1)).bind fun w1 =>
  some (b1, w1)
def m_needed_41 (K13 : Int32 → Int32 → gx_Wd → Option (Int32 × gx_Wd)) (b2 : Int32) (s0 : Int32) (s1 : Int32) (w : gx_Wd) : Option (Int32 × gx_Wd) :=
  (some (s1 ||| s0)).bind fun v1 =>
  (some (b2 + 1)).bind fun v2 =>
  K13 v1 v2 w
def m_needed_13 : Nat → Int32 → Int32 → gx_Wd → Option (Int32 × gx_Wd)
  | 0, _, _, _ => none
  | n + 1, b1, b2, w =>
  if w 0 0 ≤ b2 then
    m_needed_49 b1 w
  else
  (gx_put w 0 19 b2).bind fun w2 =>
  (m_isHeld w2).bind fun r3 =>
  if r3.1 = 0 then
    m_needed_41 (m_needed_13 n) b2 (1 <<< (b2 &&& 31)) b1 r3.2
  else
  m_needed_41 (m_needed_13 n) b2 0 b1 r3.2
def m_needed (w : gx_Wd) : Option (Int32 × gx_Wd) :=
  (m_isHeld w).bind fun r1 =>
  if r1.1 = 0 then
    some (0, r1.2)
  else
    m_needed_13 6000 0 0 r1.2
theorem t_m_needed_49 {X : gx_X} (hX : gx_Ok X mi_m_needed) {R : Int32 × gx_Wd} (hres : gx_res X = some (.inl R.1)) (hwr : gx_wr X = R.2) (b1 : Int32) (w : gx_Wd) (h : m_needed_49 b1 w = some R) : gx_G X mi_m_needed 49 [some (.inr 0), some (.inl b1)] [] w := by
  rw [m_needed_49] at h
  refine gx_aload_n hX (gx_dt dt_mi_m_needed 29 rfl) rfl ?_
  refine gx_iconst hX (v := (-1)) (gx_dt dt_mi_m_needed 30 rfl) (by decide) ?_
  obtain ⟨w1, e_w1, h⟩ := gx_bd h
  refine gx_putp hX fl_D_68 (pf_D_19 _) sh_m_0 rfl e_w1 (gx_dt dt_mi_m_needed 31 rfl) ?_
  refine gx_iload_n hX (gx_dt dt_mi_m_needed 32 rfl) rfl ?_
  obtain rfl := Option.some.inj h
  exact gx_iret hX (gx_dt dt_mi_m_needed 33 rfl) rfl hres hwr
theorem t_m_needed_41 {X : gx_X} (hX : gx_Ok X mi_m_needed) {R : Int32 × gx_Wd} (hres : gx_res X = some (.inl R.1)) (hwr : gx_wr X = R.2) {K13 : Int32 → Int32 → gx_Wd → Option (Int32 × gx_Wd)} (hK13 : ∀ (b1 : Int32) (b2 : Int32) (w : gx_Wd), K13 b1 b2 w = some R → gx_G X mi_m_needed 13 [some (.inr 0), some (.inl b1), some (.inl b2)] [] w) (b2 : Int32) (s0 : Int32) (s1 : Int32) (w : gx_Wd) (h : m_needed_41 K13 b2 s0 s1 w = some R) : gx_G X mi_m_needed 41 [some (.inr 0), none, some (.inl b2)] [.inl s0, .inl s1] w := by
  rw [m_needed_41] at h
  refine gx_ior hX (gx_dt dt_mi_m_needed 25 rfl) ?_
  obtain ⟨v1, e_v1, h⟩ := gx_bd h
  refine gx_top e_v1 ?_
  refine gx_istore_n hX (ls' := [some (.inr 0), some (.inl v1), some (.inl b2)]) (gx_dt dt_mi_m_needed 26 rfl) (by decide) rfl ?_
  obtain ⟨v2, e_v2, h⟩ := gx_bd h
  refine gx_iinc hX (v := v2) (ls' := [some (.inr 0), some (.inl v1), some (.inl v2)]) (gx_dt dt_mi_m_needed 27 rfl) rfl (gx_ii e_v2 (by decide)) (by decide) rfl ?_
  refine gx_goto hX (tgt := 13) (gx_dt dt_mi_m_needed 28 rfl) (by decide) ?_
  exact gx_weak (gx_leS (gx_leS (gx_leS gx_le0))) (hK13 _ _ _ h)
theorem t_m_needed_13 {X : gx_X} (hX : gx_Ok X mi_m_needed) {R : Int32 × gx_Wd} (hres : gx_res X = some (.inl R.1)) (hwr : gx_wr X = R.2) : ∀ (n : Nat) (b1 : Int32) (b2 : Int32) (w : gx_Wd), m_needed_13 n b1 b2 w = some R → gx_G X mi_m_needed 13 [some (.inr 0), some (.inl b1), some (.inl b2)] [] w := by
  intro n
  induction n with
  | zero => intro b1 b2 w h; rw [m_needed_13] at h; cases h
  | succ n ih =>
    intro b1 b2 w h
    rw [m_needed_13] at h
    refine gx_iload_n hX (gx_dt dt_mi_m_needed 9 rfl) rfl ?_
    refine gx_aload_n hX (gx_dt dt_mi_m_needed 10 rfl) rfl ?_
    refine gx_geti hX fl_D_7 sh_m_0 rfl (gx_dt dt_mi_m_needed 11 rfl) ?_
    refine gx_ic_ge hX (tgt := 49) (gx_dt dt_mi_m_needed 12 rfl) (by decide) (fun c1 => ?_) (fun c1 => ?_)
    · have h := gx_ifp c1 h
      exact gx_weak (gx_leS (gx_leS gx_le0)) (t_m_needed_49 hX hres hwr _ _ h)
    · have h := gx_ifn c1 h
      refine gx_aload_n hX (gx_dt dt_mi_m_needed 13 rfl) rfl ?_
      refine gx_iload_n hX (gx_dt dt_mi_m_needed 14 rfl) rfl ?_
      obtain ⟨w2, e_w2, h⟩ := gx_bd h
      refine gx_putp hX fl_D_68 (pf_D_19 _) sh_m_0 rfl e_w2 (gx_dt dt_mi_m_needed 15 rfl) ?_
      refine gx_iload_n hX (gx_dt dt_mi_m_needed 16 rfl) rfl ?_
      refine gx_aload_n hX (gx_dt dt_mi_m_needed 17 rfl) rfl ?_
      obtain ⟨r3, e_r3, h⟩ := gx_bd h
      refine gx_callVi hX (gx_dt dt_mi_m_needed 18 rfl) ln_D_203_m_isHeld mo_m_isHeld mv_m_isHeld (gx_rmb rfl) sh_m_0 ⟨_, _, rfl⟩ rfl (k_m_isHeld e_r3) rfl rfl (Nat.le_of_ble_eq_true rfl) ?_
      refine gx_if_eq hX (tgt := 38) (gx_dt dt_mi_m_needed 19 rfl) (by decide) (fun c4 => ?_) (fun c4 => ?_)
      · have h := gx_ifp c4 h
        refine gx_iconst hX (v := 1) (gx_dt dt_mi_m_needed 22 rfl) (by decide) ?_
        refine gx_iload_n hX (gx_dt dt_mi_m_needed 23 rfl) rfl ?_
        refine gx_ishl hX (gx_dt dt_mi_m_needed 24 rfl) ?_
        exact gx_weak (gx_leS (gx_leN (gx_leS gx_le0))) (t_m_needed_41 hX hres hwr ih _ _ _ _ h)
      · have h := gx_ifn c4 h
        refine gx_iconst hX (v := 0) (gx_dt dt_mi_m_needed 20 rfl) (by decide) ?_
        refine gx_goto hX (tgt := 41) (gx_dt dt_mi_m_needed 21 rfl) (by decide) ?_
        exact gx_weak (gx_leS (gx_leN (gx_leS gx_le0))) (t_m_needed_41 hX hres hwr ih _ _ _ _ h)
theorem k_m_needed {w : gx_Wd} {R : Int32 × gx_Wd} (h : m_needed w = some R) : gx_MT mi_m_needed [.inr 0] w (some (.inl R.1)) R.2 := by
  refine gx_met (by decide +kernel) (Nat.le_of_ble_eq_true rfl) (fun X hX hres hwr => ?_)
  show gx_G X mi_m_needed 0 [some (.inr 0)] [] w
  rw [m_needed] at h
  refine gx_aload_n hX (gx_dt dt_mi_m_needed 0 rfl) rfl ?_
  obtain ⟨r1, e_r1, h⟩ := gx_bd h
  refine gx_callVi hX (gx_dt dt_mi_m_needed 1 rfl) ln_D_203_m_isHeld mo_m_isHeld mv_m_isHeld (gx_rmb rfl) sh_m_0 ⟨_, _, rfl⟩ rfl (k_m_isHeld e_r1) rfl rfl (Nat.le_of_ble_eq_true rfl) ?_
  refine gx_if_ne hX (tgt := 9) (gx_dt dt_mi_m_needed 2 rfl) (by decide) (fun c2 => ?_) (fun c2 => ?_)
  · have h := gx_ifn c2 h
    refine gx_iconst hX (v := 0) (gx_dt dt_mi_m_needed 5 rfl) (by decide) ?_
    refine gx_istore_n hX (ls' := [some (.inr 0), some (.inl (0))]) (gx_dt dt_mi_m_needed 6 rfl) (by decide) rfl ?_
    refine gx_iconst hX (v := 0) (gx_dt dt_mi_m_needed 7 rfl) (by decide) ?_
    refine gx_istore_n hX (ls' := [some (.inr 0), some (.inl (0)), some (.inl (0))]) (gx_dt dt_mi_m_needed 8 rfl) (by decide) rfl ?_
    exact gx_weak (gx_leS (gx_leS (gx_leS gx_le0))) (t_m_needed_13 hX hres hwr _ _ _ _ h)
  · have h := gx_ifp c2 h
    refine gx_iconst hX (v := 0) (gx_dt dt_mi_m_needed 3 rfl) (by decide) ?_
    obtain rfl := Option.some.inj h
    exact gx_iret hX (gx_dt dt_mi_m_needed 4 rfl) rfl hres hwr
-- EachBearsPillarModel.more(I)I
def m_more_73 (b1 : Int32) (b2 : Int32) (b3 : Int32) (w : gx_Wd) : Option (Int32 × gx_Wd) :=
  (gx_ast sh_m w 5 b1 b2).bind fun w1 =>
  some (b3, w1)
def m_more_66 (K36 : Int32 → Int32 → Int32 → Int32 → gx_Wd → Option (Int32 × gx_Wd)) (b1 : Int32) (b2 : Int32) (b4 : Int32) (s0 : Int32) (w : gx_Wd) : Option (Int32 × gx_Wd) :=
  (some (b4 + 1)).bind fun v1 =>
  K36 b1 b2 s0 v1 w
def m_more_36 : Nat → Int32 → Int32 → Int32 → Int32 → gx_Wd → Option (Int32 × gx_Wd)
  | 0, _, _, _, _, _ => none
  | n + 1, b1, b2, b3, b4, w =>
  if 100 ≤ b4 then
    m_more_73 b1 b2 b3 w
  else
  (gx_ast sh_m w 5 b1 (b2 + b4)).bind fun w2 =>
  (m_isHeld w2).bind fun r3 =>
  if r3.1 = 0 then
    m_more_66 (m_more_36 n) b1 b2 b4 b3 r3.2
  else
  m_more_66 (m_more_36 n) b1 b2 b4 b4 r3.2
def m_more (a1 : Int32) (w : gx_Wd) : Option (Int32 × gx_Wd) :=
  (m_in a1 0 5 w).bind fun r1 =>
  if r1.1 = 0 then
    (m_no (-1) r1.2).bind fun r6 =>
    some (r6.1, r6.2)
  else
    (gx_ald sh_m r1.2 5 a1).bind fun v3 =>
    (m_isHeld r1.2).bind fun r4 =>
    if r4.1 = 0 then
      m_more_73 a1 v3 (-9) r4.2
    else
    m_more_36 6000 a1 v3 (-9) 0 r4.2
theorem t_m_more_73 {X : gx_X} (hX : gx_Ok X mi_m_more) {R : Int32 × gx_Wd} (hres : gx_res X = some (.inl R.1)) (hwr : gx_wr X = R.2) (b1 : Int32) (b2 : Int32) (b3 : Int32) (w : gx_Wd) (h : m_more_73 b1 b2 b3 w = some R) : gx_G X mi_m_more 73 [some (.inr 0), some (.inl b1), some (.inl b2), some (.inl b3)] [] w := by
  rw [m_more_73] at h
  refine gx_aload_n hX (gx_dt dt_mi_m_more 41 rfl) rfl ?_
  refine gx_getr hX fl_D_38 sh_m_0 rfl (gx_dt dt_mi_m_more 42 rfl) ?_
  refine gx_iload_n hX (gx_dt dt_mi_m_more 43 rfl) rfl ?_
  refine gx_iload_n hX (gx_dt dt_mi_m_more 44 rfl) rfl ?_
  obtain ⟨w1, e_w1, h⟩ := gx_bd h
  refine gx_iast hX e_w1 (gx_dt dt_mi_m_more 45 rfl) ?_
  refine gx_iload_n hX (gx_dt dt_mi_m_more 46 rfl) rfl ?_
  obtain rfl := Option.some.inj h
  exact gx_iret hX (gx_dt dt_mi_m_more 47 rfl) rfl hres hwr
theorem t_m_more_66 {X : gx_X} (hX : gx_Ok X mi_m_more) {R : Int32 × gx_Wd} (hres : gx_res X = some (.inl R.1)) (hwr : gx_wr X = R.2) {K36 : Int32 → Int32 → Int32 → Int32 → gx_Wd → Option (Int32 × gx_Wd)} (hK36 : ∀ (b1 : Int32) (b2 : Int32) (b3 : Int32) (b4 : Int32) (w : gx_Wd), K36 b1 b2 b3 b4 w = some R → gx_G X mi_m_more 36 [some (.inr 0), some (.inl b1), some (.inl b2), some (.inl b3), some (.inl b4)] [] w) (b1 : Int32) (b2 : Int32) (b4 : Int32) (s0 : Int32) (w : gx_Wd) (h : m_more_66 K36 b1 b2 b4 s0 w = some R) : gx_G X mi_m_more 66 [some (.inr 0), some (.inl b1), some (.inl b2), none, some (.inl b4)] [.inl s0] w := by
  rw [m_more_66] at h
  refine gx_istore_n hX (ls' := [some (.inr 0), some (.inl b1), some (.inl b2), some (.inl s0), some (.inl b4)]) (gx_dt dt_mi_m_more 38 rfl) (by decide) rfl ?_
  obtain ⟨v1, e_v1, h⟩ := gx_bd h
  refine gx_iinc hX (v := v1) (ls' := [some (.inr 0), some (.inl b1), some (.inl b2), some (.inl s0), some (.inl v1)]) (gx_dt dt_mi_m_more 39 rfl) rfl (gx_ii e_v1 (by decide)) (by decide) rfl ?_
  refine gx_goto hX (tgt := 36) (gx_dt dt_mi_m_more 40 rfl) (by decide) ?_
  exact gx_weak (gx_leS (gx_leS (gx_leS (gx_leS (gx_leS gx_le0))))) (hK36 _ _ _ _ _ h)
theorem t_m_more_36 {X : gx_X} (hX : gx_Ok X mi_m_more) {R : Int32 × gx_Wd} (hres : gx_res X = some (.inl R.1)) (hwr : gx_wr X = R.2) : ∀ (n : Nat) (b1 : Int32) (b2 : Int32) (b3 : Int32) (b4 : Int32) (w : gx_Wd), m_more_36 n b1 b2 b3 b4 w = some R → gx_G X mi_m_more 36 [some (.inr 0), some (.inl b1), some (.inl b2), some (.inl b3), some (.inl b4)] [] w := by
  intro n
  induction n with
  | zero => intro b1 b2 b3 b4 w h; rw [m_more_36] at h; cases h
  | succ n ih =>
    intro b1 b2 b3 b4 w h
    rw [m_more_36] at h
    refine gx_iload hX (gx_dt dt_mi_m_more 22 rfl) rfl ?_
    refine gx_bipush hX (v := 100) (gx_dt dt_mi_m_more 23 rfl) (by decide) ?_
    refine gx_ic_ge hX (tgt := 73) (gx_dt dt_mi_m_more 24 rfl) (by decide) (fun c1 => ?_) (fun c1 => ?_)
    · have h := gx_ifp c1 h
      exact gx_weak (gx_leS (gx_leS (gx_leS (gx_leS gx_le0)))) (t_m_more_73 hX hres hwr _ _ _ _ h)
    · have h := gx_ifn c1 h
      refine gx_aload_n hX (gx_dt dt_mi_m_more 25 rfl) rfl ?_
      refine gx_getr hX fl_D_38 sh_m_0 rfl (gx_dt dt_mi_m_more 26 rfl) ?_
      refine gx_iload_n hX (gx_dt dt_mi_m_more 27 rfl) rfl ?_
      refine gx_iload_n hX (gx_dt dt_mi_m_more 28 rfl) rfl ?_
      refine gx_iload hX (gx_dt dt_mi_m_more 29 rfl) rfl ?_
      refine gx_iadd hX (gx_dt dt_mi_m_more 30 rfl) ?_
      obtain ⟨w2, e_w2, h⟩ := gx_bd h
      refine gx_iast hX e_w2 (gx_dt dt_mi_m_more 31 rfl) ?_
      refine gx_aload_n hX (gx_dt dt_mi_m_more 32 rfl) rfl ?_
      obtain ⟨r3, e_r3, h⟩ := gx_bd h
      refine gx_callVi hX (gx_dt dt_mi_m_more 33 rfl) ln_D_203_m_isHeld mo_m_isHeld mv_m_isHeld (gx_rmb rfl) sh_m_0 ⟨_, _, rfl⟩ rfl (k_m_isHeld e_r3) rfl rfl (Nat.le_of_ble_eq_true rfl) ?_
      refine gx_if_eq hX (tgt := 65) (gx_dt dt_mi_m_more 34 rfl) (by decide) (fun c4 => ?_) (fun c4 => ?_)
      · have h := gx_ifp c4 h
        refine gx_iload_n hX (gx_dt dt_mi_m_more 37 rfl) rfl ?_
        exact gx_weak (gx_leS (gx_leS (gx_leS (gx_leN (gx_leS gx_le0))))) (t_m_more_66 hX hres hwr ih _ _ _ _ _ h)
      · have h := gx_ifn c4 h
        refine gx_iload hX (gx_dt dt_mi_m_more 35 rfl) rfl ?_
        refine gx_goto hX (tgt := 66) (gx_dt dt_mi_m_more 36 rfl) (by decide) ?_
        exact gx_weak (gx_leS (gx_leS (gx_leS (gx_leN (gx_leS gx_le0))))) (t_m_more_66 hX hres hwr ih _ _ _ _ _ h)
theorem k_m_more {a1 : Int32} {w : gx_Wd} {R : Int32 × gx_Wd} (h : m_more a1 w = some R) : gx_MT mi_m_more [.inr 0, .inl a1] w (some (.inl R.1)) R.2 := by
  refine gx_met (by decide +kernel) (Nat.le_of_ble_eq_true rfl) (fun X hX hres hwr => ?_)
  show gx_G X mi_m_more 0 [some (.inr 0), some (.inl a1)] [] w
  rw [m_more] at h
  refine gx_aload_n hX (gx_dt dt_mi_m_more 0 rfl) rfl ?_
  refine gx_iload_n hX (gx_dt dt_mi_m_more 1 rfl) rfl ?_
  refine gx_iconst hX (v := 0) (gx_dt dt_mi_m_more 2 rfl) (by decide) ?_
  refine gx_iconst hX (v := 5) (gx_dt dt_mi_m_more 3 rfl) (by decide) ?_
  obtain ⟨r1, e_r1, h⟩ := gx_bd h
  refine gx_callVi hX (gx_dt dt_mi_m_more 4 rfl) ln_D_117_m_in mo_m_in mv_m_in (gx_rmb rfl) sh_m_0 ⟨_, _, rfl⟩ rfl (k_m_in e_r1) rfl rfl (Nat.le_of_ble_eq_true rfl) ?_
  refine gx_if_ne hX (tgt := 16) (gx_dt dt_mi_m_more 5 rfl) (by decide) (fun c2 => ?_) (fun c2 => ?_)
  · have h := gx_ifn c2 h
    refine gx_aload_n hX (gx_dt dt_mi_m_more 10 rfl) rfl ?_
    refine gx_getr hX fl_D_38 sh_m_0 rfl (gx_dt dt_mi_m_more 11 rfl) ?_
    refine gx_iload_n hX (gx_dt dt_mi_m_more 12 rfl) rfl ?_
    obtain ⟨v3, e_v3, h⟩ := gx_bd h
    refine gx_iald hX e_v3 (gx_dt dt_mi_m_more 13 rfl) ?_
    refine gx_istore_n hX (ls' := [some (.inr 0), some (.inl a1), some (.inl v3)]) (gx_dt dt_mi_m_more 14 rfl) (by decide) rfl ?_
    refine gx_bipush hX (v := (-9)) (gx_dt dt_mi_m_more 15 rfl) (by decide) ?_
    refine gx_istore_n hX (ls' := [some (.inr 0), some (.inl a1), some (.inl v3), some (.inl ((-9)))]) (gx_dt dt_mi_m_more 16 rfl) (by decide) rfl ?_
    refine gx_aload_n hX (gx_dt dt_mi_m_more 17 rfl) rfl ?_
    obtain ⟨r4, e_r4, h⟩ := gx_bd h
    refine gx_callVi hX (gx_dt dt_mi_m_more 18 rfl) ln_D_203_m_isHeld mo_m_isHeld mv_m_isHeld (gx_rmb rfl) sh_m_0 ⟨_, _, rfl⟩ rfl (k_m_isHeld e_r4) rfl rfl (Nat.le_of_ble_eq_true rfl) ?_
    refine gx_if_eq hX (tgt := 73) (gx_dt dt_mi_m_more 19 rfl) (by decide) (fun c5 => ?_) (fun c5 => ?_)
    · have h := gx_ifp c5 h
      exact gx_weak (gx_leS (gx_leS (gx_leS (gx_leS gx_le0)))) (t_m_more_73 hX hres hwr _ _ _ _ h)
    · have h := gx_ifn c5 h
      refine gx_iconst hX (v := 0) (gx_dt dt_mi_m_more 20 rfl) (by decide) ?_
      refine gx_istore hX (ls' := [some (.inr 0), some (.inl a1), some (.inl v3), some (.inl ((-9))), some (.inl (0))]) (gx_dt dt_mi_m_more 21 rfl) (by decide) rfl ?_
      exact gx_weak (gx_leS (gx_leS (gx_leS (gx_leS (gx_leS gx_le0))))) (t_m_more_36 hX hres hwr _ _ _ _ _ _ h)
  · have h := gx_ifp c2 h
    refine gx_aload_n hX (gx_dt dt_mi_m_more 6 rfl) rfl ?_
    refine gx_iconst hX (v := (-1)) (gx_dt dt_mi_m_more 7 rfl) (by decide) ?_
    obtain ⟨r6, e_r6, h⟩ := gx_bd h
    refine gx_callVi hX (gx_dt dt_mi_m_more 8 rfl) ln_D_121_m_no mo_m_no mv_m_no (gx_rmb rfl) sh_m_0 ⟨_, _, rfl⟩ rfl (k_m_no e_r6) rfl rfl (Nat.le_of_ble_eq_true rfl) ?_
    obtain rfl := Option.some.inj h
    exact gx_iret hX (gx_dt dt_mi_m_more 9 rfl) rfl hres hwr
-- EachBearsPillarModel.row(I)I
def m_row (a1 : Int32) (w : gx_Wd) : Option (Int32 × gx_Wd) :=
  if 0 ≤ a1 then
    if 400 < a1 then
      (m_no (-6) w).bind fun r3 =>
      some (r3.1, r3.2)
    else
    if w 0 4 = 7 then
      (m_no (-6) w).bind fun r7 =>
      some (r7.1, r7.2)
    else
      (gx_ast sh_m w 8 (w 0 4) a1).bind fun w5 =>
      (gx_put w5 0 4 ((w5 0 4) + 1)).bind fun w6 =>
      some (w6 0 4, w6)
  else
  (m_no (-4) w).bind fun r8 =>
  some (r8.1, r8.2)
theorem k_m_row {a1 : Int32} {w : gx_Wd} {R : Int32 × gx_Wd} (h : m_row a1 w = some R) : gx_MT mi_m_row [.inr 0, .inl a1] w (some (.inl R.1)) R.2 := by
  refine gx_met (by decide +kernel) (Nat.le_of_ble_eq_true rfl) (fun X hX hres hwr => ?_)
  show gx_G X mi_m_row 0 [some (.inr 0), some (.inl a1)] [] w
  rw [m_row] at h
  refine gx_iload_n hX (gx_dt dt_mi_m_row 0 rfl) rfl ?_
  refine gx_if_ge hX (tgt := 11) (gx_dt dt_mi_m_row 1 rfl) (by decide) (fun c1 => ?_) (fun c1 => ?_)
  · have h := gx_ifp c1 h
    refine gx_iload_n hX (gx_dt dt_mi_m_row 6 rfl) rfl ?_
    refine gx_sipush hX (v := 400) (gx_dt dt_mi_m_row 7 rfl) (by decide) ?_
    refine gx_ic_gt hX (tgt := 27) (gx_dt dt_mi_m_row 8 rfl) (by decide) (fun c2 => ?_) (fun c2 => ?_)
    · have h := gx_ifp c2 h
      refine gx_aload_n hX (gx_dt dt_mi_m_row 13 rfl) rfl ?_
      refine gx_bipush hX (v := (-6)) (gx_dt dt_mi_m_row 14 rfl) (by decide) ?_
      obtain ⟨r3, e_r3, h⟩ := gx_bd h
      refine gx_callVi hX (gx_dt dt_mi_m_row 15 rfl) ln_D_121_m_no mo_m_no mv_m_no (gx_rmb rfl) sh_m_0 ⟨_, _, rfl⟩ rfl (k_m_no e_r3) rfl rfl (Nat.le_of_ble_eq_true rfl) ?_
      obtain rfl := Option.some.inj h
      exact gx_iret hX (gx_dt dt_mi_m_row 16 rfl) rfl hres hwr
    · have h := gx_ifn c2 h
      refine gx_aload_n hX (gx_dt dt_mi_m_row 9 rfl) rfl ?_
      refine gx_geti hX fl_D_22 sh_m_0 rfl (gx_dt dt_mi_m_row 10 rfl) ?_
      refine gx_bipush hX (v := 7) (gx_dt dt_mi_m_row 11 rfl) (by decide) ?_
      refine gx_ic_ne hX (tgt := 34) (gx_dt dt_mi_m_row 12 rfl) (by decide) (fun c4 => ?_) (fun c4 => ?_)
      · have h := gx_ifn c4 h
        refine gx_aload_n hX (gx_dt dt_mi_m_row 17 rfl) rfl ?_
        refine gx_getr hX fl_D_47 sh_m_0 rfl (gx_dt dt_mi_m_row 18 rfl) ?_
        refine gx_aload_n hX (gx_dt dt_mi_m_row 19 rfl) rfl ?_
        refine gx_geti hX fl_D_22 sh_m_0 rfl (gx_dt dt_mi_m_row 20 rfl) ?_
        refine gx_iload_n hX (gx_dt dt_mi_m_row 21 rfl) rfl ?_
        obtain ⟨w5, e_w5, h⟩ := gx_bd h
        refine gx_iast hX e_w5 (gx_dt dt_mi_m_row 22 rfl) ?_
        refine gx_aload_n hX (gx_dt dt_mi_m_row 23 rfl) rfl ?_
        refine gx_dup hX (gx_dt dt_mi_m_row 24 rfl) ?_
        refine gx_geti hX fl_D_22 sh_m_0 rfl (gx_dt dt_mi_m_row 25 rfl) ?_
        refine gx_iconst hX (v := 1) (gx_dt dt_mi_m_row 26 rfl) (by decide) ?_
        refine gx_iadd hX (gx_dt dt_mi_m_row 27 rfl) ?_
        obtain ⟨w6, e_w6, h⟩ := gx_bd h
        refine gx_putp hX fl_D_22 (pf_D_4 _) sh_m_0 rfl e_w6 (gx_dt dt_mi_m_row 28 rfl) ?_
        refine gx_aload_n hX (gx_dt dt_mi_m_row 29 rfl) rfl ?_
        refine gx_geti hX fl_D_22 sh_m_0 rfl (gx_dt dt_mi_m_row 30 rfl) ?_
        obtain rfl := Option.some.inj h
        exact gx_iret hX (gx_dt dt_mi_m_row 31 rfl) rfl hres hwr
      · have h := gx_ifp c4 h
        refine gx_aload_n hX (gx_dt dt_mi_m_row 13 rfl) rfl ?_
        refine gx_bipush hX (v := (-6)) (gx_dt dt_mi_m_row 14 rfl) (by decide) ?_
        obtain ⟨r7, e_r7, h⟩ := gx_bd h
        refine gx_callVi hX (gx_dt dt_mi_m_row 15 rfl) ln_D_121_m_no mo_m_no mv_m_no (gx_rmb rfl) sh_m_0 ⟨_, _, rfl⟩ rfl (k_m_no e_r7) rfl rfl (Nat.le_of_ble_eq_true rfl) ?_
        obtain rfl := Option.some.inj h
        exact gx_iret hX (gx_dt dt_mi_m_row 16 rfl) rfl hres hwr
  · have h := gx_ifn c1 h
    refine gx_aload_n hX (gx_dt dt_mi_m_row 2 rfl) rfl ?_
    refine gx_bipush hX (v := (-4)) (gx_dt dt_mi_m_row 3 rfl) (by decide) ?_
    obtain ⟨r8, e_r8, h⟩ := gx_bd h
    refine gx_callVi hX (gx_dt dt_mi_m_row 4 rfl) ln_D_121_m_no mo_m_no mv_m_no (gx_rmb rfl) sh_m_0 ⟨_, _, rfl⟩ rfl (k_m_no e_r8) rfl rfl (Nat.le_of_ble_eq_true rfl) ?_
    obtain rfl := Option.some.inj h
    exact gx_iret hX (gx_dt dt_mi_m_row 5 rfl) rfl hres hwr
-- EachBearsPillarModel.isRow()Z
def m_isRow_2 : Nat → Int32 → gx_Wd → Option (Int32 × gx_Wd)
  | 0, _, _ => none
  | n + 1, b1, w =>
  if w 0 0 ≤ b1 then
    some (1, w)
  else
  (m_loadOf b1 w).bind fun r2 =>
  (gx_ald sh_m r2.2 8 b1).bind fun v3 =>
  if r2.1 = v3 then
    (some (b1 + 1)).bind fun v5 =>
    (m_isRow_2 n) v5 r2.2
  else
  some (0, r2.2)
def m_isRow (w : gx_Wd) : Option (Int32 × gx_Wd) :=
  m_isRow_2 6000 0 w
theorem t_m_isRow_2 {X : gx_X} (hX : gx_Ok X mi_m_isRow) {R : Int32 × gx_Wd} (hres : gx_res X = some (.inl R.1)) (hwr : gx_wr X = R.2) : ∀ (n : Nat) (b1 : Int32) (w : gx_Wd), m_isRow_2 n b1 w = some R → gx_G X mi_m_isRow 2 [some (.inr 0), some (.inl b1)] [] w := by
  intro n
  induction n with
  | zero => intro b1 w h; rw [m_isRow_2] at h; cases h
  | succ n ih =>
    intro b1 w h
    rw [m_isRow_2] at h
    refine gx_iload_n hX (gx_dt dt_mi_m_isRow 2 rfl) rfl ?_
    refine gx_aload_n hX (gx_dt dt_mi_m_isRow 3 rfl) rfl ?_
    refine gx_geti hX fl_D_7 sh_m_0 rfl (gx_dt dt_mi_m_isRow 4 rfl) ?_
    refine gx_ic_ge hX (tgt := 32) (gx_dt dt_mi_m_isRow 5 rfl) (by decide) (fun c1 => ?_) (fun c1 => ?_)
    · have h := gx_ifp c1 h
      refine gx_iconst hX (v := 1) (gx_dt dt_mi_m_isRow 18 rfl) (by decide) ?_
      obtain rfl := Option.some.inj h
      exact gx_zret hX (gx_dt dt_mi_m_isRow 19 rfl) rfl rfl hres hwr
    · have h := gx_ifn c1 h
      refine gx_aload_n hX (gx_dt dt_mi_m_isRow 6 rfl) rfl ?_
      refine gx_iload_n hX (gx_dt dt_mi_m_isRow 7 rfl) rfl ?_
      obtain ⟨r2, e_r2, h⟩ := gx_bd h
      refine gx_callVi hX (gx_dt dt_mi_m_isRow 8 rfl) ln_D_185_m_loadOf mo_m_loadOf mv_m_loadOf (gx_rmb rfl) sh_m_0 ⟨_, _, rfl⟩ rfl (k_m_loadOf e_r2) rfl rfl (Nat.le_of_ble_eq_true rfl) ?_
      refine gx_aload_n hX (gx_dt dt_mi_m_isRow 9 rfl) rfl ?_
      refine gx_getr hX fl_D_47 sh_m_0 rfl (gx_dt dt_mi_m_isRow 10 rfl) ?_
      refine gx_iload_n hX (gx_dt dt_mi_m_isRow 11 rfl) rfl ?_
      obtain ⟨v3, e_v3, h⟩ := gx_bd h
      refine gx_iald hX e_v3 (gx_dt dt_mi_m_isRow 12 rfl) ?_
      refine gx_ic_eq hX (tgt := 26) (gx_dt dt_mi_m_isRow 13 rfl) (by decide) (fun c4 => ?_) (fun c4 => ?_)
      · have h := gx_ifp c4 h
        obtain ⟨v5, e_v5, h⟩ := gx_bd h
        refine gx_iinc hX (v := v5) (ls' := [some (.inr 0), some (.inl v5)]) (gx_dt dt_mi_m_isRow 16 rfl) rfl (gx_ii e_v5 (by decide)) (by decide) rfl ?_
        refine gx_goto hX (tgt := 2) (gx_dt dt_mi_m_isRow 17 rfl) (by decide) ?_
        exact gx_weak (gx_leS (gx_leS gx_le0)) (ih _ _ h)
      · have h := gx_ifn c4 h
        refine gx_iconst hX (v := 0) (gx_dt dt_mi_m_isRow 14 rfl) (by decide) ?_
        obtain rfl := Option.some.inj h
        exact gx_zret hX (gx_dt dt_mi_m_isRow 15 rfl) rfl rfl hres hwr
theorem k_m_isRow {w : gx_Wd} {R : Int32 × gx_Wd} (h : m_isRow w = some R) : gx_MT mi_m_isRow [.inr 0] w (some (.inl R.1)) R.2 := by
  refine gx_met (by decide +kernel) (Nat.le_of_ble_eq_true rfl) (fun X hX hres hwr => ?_)
  show gx_G X mi_m_isRow 0 [some (.inr 0)] [] w
  rw [m_isRow] at h
  refine gx_iconst hX (v := 0) (gx_dt dt_mi_m_isRow 0 rfl) (by decide) ?_
  refine gx_istore_n hX (ls' := [some (.inr 0), some (.inl (0))]) (gx_dt dt_mi_m_isRow 1 rfl) (by decide) rfl ?_
  exact gx_weak (gx_leS (gx_leS gx_le0)) (t_m_isRow_2 hX hres hwr _ _ _ h)
-- EachBearsPillarModel.slacked()I
def m_slacked_71 (b1 : Int32) (w : gx_Wd) : Option (Int32 × gx_Wd) :=
  (gx_put w 0 19 (-1)).bind fun w1 =>
  some (b1, w1)
def m_slacked_63 (K35 : Int32 → Int32 → gx_Wd → Option (Int32 × gx_Wd)) (b2 : Int32) (s0 : Int32) (s1 : Int32) (w : gx_Wd) : Option (Int32 × gx_Wd) :=
  (some (s1 ||| s0)).bind fun v1 =>
  (some (b2 + 1)).bind fun v2 =>
  K35 v1 v2 w
def m_slacked_35 : Nat → Int32 → Int32 → gx_Wd → Option (Int32 × gx_Wd)
  | 0, _, _, _ => none
  | n + 1, b1, b2, w =>
  if w 0 0 ≤ b2 then
    m_slacked_71 b1 w
  else
  (gx_put w 0 19 b2).bind fun w2 =>
  (m_isRow w2).bind fun r3 =>
  if r3.1 = 0 then
    m_slacked_63 (m_slacked_35 n) b2 0 b1 r3.2
  else
  m_slacked_63 (m_slacked_35 n) b2 (1 <<< (b2 &&& 31)) b1 r3.2
def m_slacked_32 (s0 : Int32) (w : gx_Wd) : Option (Int32 × gx_Wd) :=
  m_slacked_35 6000 s0 0 w
def m_slacked (w : gx_Wd) : Option (Int32 × gx_Wd) :=
  if w 0 4 = w 0 0 then
    (m_isRow w).bind fun r2 =>
    if r2.1 = 0 then
      m_slacked_32 0 r2.2
    else
    m_slacked_32 128 r2.2
  else
  (m_no (-3) w).bind fun r4 =>
  some (r4.1, r4.2)
theorem t_m_slacked_71 {X : gx_X} (hX : gx_Ok X mi_m_slacked) {R : Int32 × gx_Wd} (hres : gx_res X = some (.inl R.1)) (hwr : gx_wr X = R.2) (b1 : Int32) (w : gx_Wd) (h : m_slacked_71 b1 w = some R) : gx_G X mi_m_slacked 71 [some (.inr 0), some (.inl b1)] [] w := by
  rw [m_slacked_71] at h
  refine gx_aload_n hX (gx_dt dt_mi_m_slacked 38 rfl) rfl ?_
  refine gx_iconst hX (v := (-1)) (gx_dt dt_mi_m_slacked 39 rfl) (by decide) ?_
  obtain ⟨w1, e_w1, h⟩ := gx_bd h
  refine gx_putp hX fl_D_68 (pf_D_19 _) sh_m_0 rfl e_w1 (gx_dt dt_mi_m_slacked 40 rfl) ?_
  refine gx_iload_n hX (gx_dt dt_mi_m_slacked 41 rfl) rfl ?_
  obtain rfl := Option.some.inj h
  exact gx_iret hX (gx_dt dt_mi_m_slacked 42 rfl) rfl hres hwr
theorem t_m_slacked_63 {X : gx_X} (hX : gx_Ok X mi_m_slacked) {R : Int32 × gx_Wd} (hres : gx_res X = some (.inl R.1)) (hwr : gx_wr X = R.2) {K35 : Int32 → Int32 → gx_Wd → Option (Int32 × gx_Wd)} (hK35 : ∀ (b1 : Int32) (b2 : Int32) (w : gx_Wd), K35 b1 b2 w = some R → gx_G X mi_m_slacked 35 [some (.inr 0), some (.inl b1), some (.inl b2)] [] w) (b2 : Int32) (s0 : Int32) (s1 : Int32) (w : gx_Wd) (h : m_slacked_63 K35 b2 s0 s1 w = some R) : gx_G X mi_m_slacked 63 [some (.inr 0), none, some (.inl b2)] [.inl s0, .inl s1] w := by
  rw [m_slacked_63] at h
  refine gx_ior hX (gx_dt dt_mi_m_slacked 34 rfl) ?_
  obtain ⟨v1, e_v1, h⟩ := gx_bd h
  refine gx_top e_v1 ?_
  refine gx_istore_n hX (ls' := [some (.inr 0), some (.inl v1), some (.inl b2)]) (gx_dt dt_mi_m_slacked 35 rfl) (by decide) rfl ?_
  obtain ⟨v2, e_v2, h⟩ := gx_bd h
  refine gx_iinc hX (v := v2) (ls' := [some (.inr 0), some (.inl v1), some (.inl v2)]) (gx_dt dt_mi_m_slacked 36 rfl) rfl (gx_ii e_v2 (by decide)) (by decide) rfl ?_
  refine gx_goto hX (tgt := 35) (gx_dt dt_mi_m_slacked 37 rfl) (by decide) ?_
  exact gx_weak (gx_leS (gx_leS (gx_leS gx_le0))) (hK35 _ _ _ h)
theorem t_m_slacked_35 {X : gx_X} (hX : gx_Ok X mi_m_slacked) {R : Int32 × gx_Wd} (hres : gx_res X = some (.inl R.1)) (hwr : gx_wr X = R.2) : ∀ (n : Nat) (b1 : Int32) (b2 : Int32) (w : gx_Wd), m_slacked_35 n b1 b2 w = some R → gx_G X mi_m_slacked 35 [some (.inr 0), some (.inl b1), some (.inl b2)] [] w := by
  intro n
  induction n with
  | zero => intro b1 b2 w h; rw [m_slacked_35] at h; cases h
  | succ n ih =>
    intro b1 b2 w h
    rw [m_slacked_35] at h
    refine gx_iload_n hX (gx_dt dt_mi_m_slacked 18 rfl) rfl ?_
    refine gx_aload_n hX (gx_dt dt_mi_m_slacked 19 rfl) rfl ?_
    refine gx_geti hX fl_D_7 sh_m_0 rfl (gx_dt dt_mi_m_slacked 20 rfl) ?_
    refine gx_ic_ge hX (tgt := 71) (gx_dt dt_mi_m_slacked 21 rfl) (by decide) (fun c1 => ?_) (fun c1 => ?_)
    · have h := gx_ifp c1 h
      exact gx_weak (gx_leS (gx_leS gx_le0)) (t_m_slacked_71 hX hres hwr _ _ h)
    · have h := gx_ifn c1 h
      refine gx_aload_n hX (gx_dt dt_mi_m_slacked 22 rfl) rfl ?_
      refine gx_iload_n hX (gx_dt dt_mi_m_slacked 23 rfl) rfl ?_
      obtain ⟨w2, e_w2, h⟩ := gx_bd h
      refine gx_putp hX fl_D_68 (pf_D_19 _) sh_m_0 rfl e_w2 (gx_dt dt_mi_m_slacked 24 rfl) ?_
      refine gx_iload_n hX (gx_dt dt_mi_m_slacked 25 rfl) rfl ?_
      refine gx_aload_n hX (gx_dt dt_mi_m_slacked 26 rfl) rfl ?_
      obtain ⟨r3, e_r3, h⟩ := gx_bd h
      refine gx_callVi hX (gx_dt dt_mi_m_slacked 27 rfl) ln_D_219_m_isRow mo_m_isRow mv_m_isRow (gx_rmb rfl) sh_m_0 ⟨_, _, rfl⟩ rfl (k_m_isRow e_r3) rfl rfl (Nat.le_of_ble_eq_true rfl) ?_
      refine gx_if_eq hX (tgt := 62) (gx_dt dt_mi_m_slacked 28 rfl) (by decide) (fun c4 => ?_) (fun c4 => ?_)
      · have h := gx_ifp c4 h
        refine gx_iconst hX (v := 0) (gx_dt dt_mi_m_slacked 33 rfl) (by decide) ?_
        exact gx_weak (gx_leS (gx_leN (gx_leS gx_le0))) (t_m_slacked_63 hX hres hwr ih _ _ _ _ h)
      · have h := gx_ifn c4 h
        refine gx_iconst hX (v := 1) (gx_dt dt_mi_m_slacked 29 rfl) (by decide) ?_
        refine gx_iload_n hX (gx_dt dt_mi_m_slacked 30 rfl) rfl ?_
        refine gx_ishl hX (gx_dt dt_mi_m_slacked 31 rfl) ?_
        refine gx_goto hX (tgt := 63) (gx_dt dt_mi_m_slacked 32 rfl) (by decide) ?_
        exact gx_weak (gx_leS (gx_leN (gx_leS gx_le0))) (t_m_slacked_63 hX hres hwr ih _ _ _ _ h)
theorem t_m_slacked_32 {X : gx_X} (hX : gx_Ok X mi_m_slacked) {R : Int32 × gx_Wd} (hres : gx_res X = some (.inl R.1)) (hwr : gx_wr X = R.2) (s0 : Int32) (w : gx_Wd) (h : m_slacked_32 s0 w = some R) : gx_G X mi_m_slacked 32 [some (.inr 0)] [.inl s0] w := by
  rw [m_slacked_32] at h
  refine gx_istore_n hX (ls' := [some (.inr 0), some (.inl s0)]) (gx_dt dt_mi_m_slacked 15 rfl) (by decide) rfl ?_
  refine gx_iconst hX (v := 0) (gx_dt dt_mi_m_slacked 16 rfl) (by decide) ?_
  refine gx_istore_n hX (ls' := [some (.inr 0), some (.inl s0), some (.inl (0))]) (gx_dt dt_mi_m_slacked 17 rfl) (by decide) rfl ?_
  exact gx_weak (gx_leS (gx_leS (gx_leS gx_le0))) (t_m_slacked_35 hX hres hwr _ _ _ _ h)
theorem k_m_slacked {w : gx_Wd} {R : Int32 × gx_Wd} (h : m_slacked w = some R) : gx_MT mi_m_slacked [.inr 0] w (some (.inl R.1)) R.2 := by
  refine gx_met (by decide +kernel) (Nat.le_of_ble_eq_true rfl) (fun X hX hres hwr => ?_)
  show gx_G X mi_m_slacked 0 [some (.inr 0)] [] w
  rw [m_slacked] at h
  refine gx_aload_n hX (gx_dt dt_mi_m_slacked 0 rfl) rfl ?_
  refine gx_geti hX fl_D_22 sh_m_0 rfl (gx_dt dt_mi_m_slacked 1 rfl) ?_
  refine gx_aload_n hX (gx_dt dt_mi_m_slacked 2 rfl) rfl ?_
  refine gx_geti hX fl_D_7 sh_m_0 rfl (gx_dt dt_mi_m_slacked 3 rfl) ?_
  refine gx_ic_eq hX (tgt := 18) (gx_dt dt_mi_m_slacked 4 rfl) (by decide) (fun c1 => ?_) (fun c1 => ?_)
  · have h := gx_ifp c1 h
    refine gx_aload_n hX (gx_dt dt_mi_m_slacked 9 rfl) rfl ?_
    obtain ⟨r2, e_r2, h⟩ := gx_bd h
    refine gx_callVi hX (gx_dt dt_mi_m_slacked 10 rfl) ln_D_219_m_isRow mo_m_isRow mv_m_isRow (gx_rmb rfl) sh_m_0 ⟨_, _, rfl⟩ rfl (k_m_isRow e_r2) rfl rfl (Nat.le_of_ble_eq_true rfl) ?_
    refine gx_if_eq hX (tgt := 31) (gx_dt dt_mi_m_slacked 11 rfl) (by decide) (fun c3 => ?_) (fun c3 => ?_)
    · have h := gx_ifp c3 h
      refine gx_iconst hX (v := 0) (gx_dt dt_mi_m_slacked 14 rfl) (by decide) ?_
      exact gx_weak (gx_leS gx_le0) (t_m_slacked_32 hX hres hwr _ _ h)
    · have h := gx_ifn c3 h
      refine gx_sipush hX (v := 128) (gx_dt dt_mi_m_slacked 12 rfl) (by decide) ?_
      refine gx_goto hX (tgt := 32) (gx_dt dt_mi_m_slacked 13 rfl) (by decide) ?_
      exact gx_weak (gx_leS gx_le0) (t_m_slacked_32 hX hres hwr _ _ h)
  · have h := gx_ifn c1 h
    refine gx_aload_n hX (gx_dt dt_mi_m_slacked 5 rfl) rfl ?_
    refine gx_bipush hX (v := (-3)) (gx_dt dt_mi_m_slacked 6 rfl) (by decide) ?_
    obtain ⟨r4, e_r4, h⟩ := gx_bd h
    refine gx_callVi hX (gx_dt dt_mi_m_slacked 7 rfl) ln_D_121_m_no mo_m_no mv_m_no (gx_rmb rfl) sh_m_0 ⟨_, _, rfl⟩ rfl (k_m_no e_r4) rfl rfl (Nat.le_of_ble_eq_true rfl) ?_
    obtain rfl := Option.some.inj h
    exact gx_iret hX (gx_dt dt_mi_m_slacked 8 rfl) rfl hres hwr
-- EachBearsPillarModel.judged()I
def m_judged_40 (w : gx_Wd) : Option (Int32 × gx_Wd) :=
  if w 0 0 ≤ w 0 4 then
    if w 0 4 ≤ w 0 0 then
      some ((-9), w)
    else
    some (w 0 0, w)
  else
  some (w 0 4, w)
def m_judged_2 : Nat → Int32 → gx_Wd → Option (Int32 × gx_Wd)
  | 0, _, _ => none
  | n + 1, b1, w =>
  if w 0 4 ≤ b1 then
    m_judged_40 w
  else
  if w 0 0 ≤ b1 then
    m_judged_40 w
  else
  (m_loadOf b1 w).bind fun r3 =>
  (gx_ald sh_m r3.2 8 b1).bind fun v4 =>
  if r3.1 = v4 then
    (some (b1 + 1)).bind fun v6 =>
    (m_judged_2 n) v6 r3.2
  else
  some (b1, r3.2)
def m_judged (w : gx_Wd) : Option (Int32 × gx_Wd) :=
  m_judged_2 6000 0 w
theorem t_m_judged_40 {X : gx_X} (hX : gx_Ok X mi_m_judged) {R : Int32 × gx_Wd} (hres : gx_res X = some (.inl R.1)) (hwr : gx_wr X = R.2) (w : gx_Wd) (h : m_judged_40 w = some R) : gx_G X mi_m_judged 40 [some (.inr 0)] [] w := by
  rw [m_judged_40] at h
  refine gx_aload_n hX (gx_dt dt_mi_m_judged 22 rfl) rfl ?_
  refine gx_geti hX fl_D_22 sh_m_0 rfl (gx_dt dt_mi_m_judged 23 rfl) ?_
  refine gx_aload_n hX (gx_dt dt_mi_m_judged 24 rfl) rfl ?_
  refine gx_geti hX fl_D_7 sh_m_0 rfl (gx_dt dt_mi_m_judged 25 rfl) ?_
  refine gx_ic_ge hX (tgt := 58) (gx_dt dt_mi_m_judged 26 rfl) (by decide) (fun c1 => ?_) (fun c1 => ?_)
  · have h := gx_ifp c1 h
    refine gx_aload_n hX (gx_dt dt_mi_m_judged 30 rfl) rfl ?_
    refine gx_geti hX fl_D_22 sh_m_0 rfl (gx_dt dt_mi_m_judged 31 rfl) ?_
    refine gx_aload_n hX (gx_dt dt_mi_m_judged 32 rfl) rfl ?_
    refine gx_geti hX fl_D_7 sh_m_0 rfl (gx_dt dt_mi_m_judged 33 rfl) ?_
    refine gx_ic_le hX (tgt := 76) (gx_dt dt_mi_m_judged 34 rfl) (by decide) (fun c2 => ?_) (fun c2 => ?_)
    · have h := gx_ifp c2 h
      refine gx_bipush hX (v := (-9)) (gx_dt dt_mi_m_judged 38 rfl) (by decide) ?_
      obtain rfl := Option.some.inj h
      exact gx_iret hX (gx_dt dt_mi_m_judged 39 rfl) rfl hres hwr
    · have h := gx_ifn c2 h
      refine gx_aload_n hX (gx_dt dt_mi_m_judged 35 rfl) rfl ?_
      refine gx_geti hX fl_D_7 sh_m_0 rfl (gx_dt dt_mi_m_judged 36 rfl) ?_
      refine gx_goto hX (tgt := 78) (gx_dt dt_mi_m_judged 37 rfl) (by decide) ?_
      obtain rfl := Option.some.inj h
      exact gx_iret hX (gx_dt dt_mi_m_judged 39 rfl) rfl hres hwr
  · have h := gx_ifn c1 h
    refine gx_aload_n hX (gx_dt dt_mi_m_judged 27 rfl) rfl ?_
    refine gx_geti hX fl_D_22 sh_m_0 rfl (gx_dt dt_mi_m_judged 28 rfl) ?_
    refine gx_goto hX (tgt := 78) (gx_dt dt_mi_m_judged 29 rfl) (by decide) ?_
    obtain rfl := Option.some.inj h
    exact gx_iret hX (gx_dt dt_mi_m_judged 39 rfl) rfl hres hwr
theorem t_m_judged_2 {X : gx_X} (hX : gx_Ok X mi_m_judged) {R : Int32 × gx_Wd} (hres : gx_res X = some (.inl R.1)) (hwr : gx_wr X = R.2) : ∀ (n : Nat) (b1 : Int32) (w : gx_Wd), m_judged_2 n b1 w = some R → gx_G X mi_m_judged 2 [some (.inr 0), some (.inl b1)] [] w := by
  intro n
  induction n with
  | zero => intro b1 w h; rw [m_judged_2] at h; cases h
  | succ n ih =>
    intro b1 w h
    rw [m_judged_2] at h
    refine gx_iload_n hX (gx_dt dt_mi_m_judged 2 rfl) rfl ?_
    refine gx_aload_n hX (gx_dt dt_mi_m_judged 3 rfl) rfl ?_
    refine gx_geti hX fl_D_22 sh_m_0 rfl (gx_dt dt_mi_m_judged 4 rfl) ?_
    refine gx_ic_ge hX (tgt := 40) (gx_dt dt_mi_m_judged 5 rfl) (by decide) (fun c1 => ?_) (fun c1 => ?_)
    · have h := gx_ifp c1 h
      exact gx_weak (gx_leS gx_le0) (t_m_judged_40 hX hres hwr _ h)
    · have h := gx_ifn c1 h
      refine gx_iload_n hX (gx_dt dt_mi_m_judged 6 rfl) rfl ?_
      refine gx_aload_n hX (gx_dt dt_mi_m_judged 7 rfl) rfl ?_
      refine gx_geti hX fl_D_7 sh_m_0 rfl (gx_dt dt_mi_m_judged 8 rfl) ?_
      refine gx_ic_ge hX (tgt := 40) (gx_dt dt_mi_m_judged 9 rfl) (by decide) (fun c2 => ?_) (fun c2 => ?_)
      · have h := gx_ifp c2 h
        exact gx_weak (gx_leS gx_le0) (t_m_judged_40 hX hres hwr _ h)
      · have h := gx_ifn c2 h
        refine gx_aload_n hX (gx_dt dt_mi_m_judged 10 rfl) rfl ?_
        refine gx_iload_n hX (gx_dt dt_mi_m_judged 11 rfl) rfl ?_
        obtain ⟨r3, e_r3, h⟩ := gx_bd h
        refine gx_callVi hX (gx_dt dt_mi_m_judged 12 rfl) ln_D_185_m_loadOf mo_m_loadOf mv_m_loadOf (gx_rmb rfl) sh_m_0 ⟨_, _, rfl⟩ rfl (k_m_loadOf e_r3) rfl rfl (Nat.le_of_ble_eq_true rfl) ?_
        refine gx_aload_n hX (gx_dt dt_mi_m_judged 13 rfl) rfl ?_
        refine gx_getr hX fl_D_47 sh_m_0 rfl (gx_dt dt_mi_m_judged 14 rfl) ?_
        refine gx_iload_n hX (gx_dt dt_mi_m_judged 15 rfl) rfl ?_
        obtain ⟨v4, e_v4, h⟩ := gx_bd h
        refine gx_iald hX e_v4 (gx_dt dt_mi_m_judged 16 rfl) ?_
        refine gx_ic_eq hX (tgt := 34) (gx_dt dt_mi_m_judged 17 rfl) (by decide) (fun c5 => ?_) (fun c5 => ?_)
        · have h := gx_ifp c5 h
          obtain ⟨v6, e_v6, h⟩ := gx_bd h
          refine gx_iinc hX (v := v6) (ls' := [some (.inr 0), some (.inl v6)]) (gx_dt dt_mi_m_judged 20 rfl) rfl (gx_ii e_v6 (by decide)) (by decide) rfl ?_
          refine gx_goto hX (tgt := 2) (gx_dt dt_mi_m_judged 21 rfl) (by decide) ?_
          exact gx_weak (gx_leS (gx_leS gx_le0)) (ih _ _ h)
        · have h := gx_ifn c5 h
          refine gx_iload_n hX (gx_dt dt_mi_m_judged 18 rfl) rfl ?_
          obtain rfl := Option.some.inj h
          exact gx_iret hX (gx_dt dt_mi_m_judged 19 rfl) rfl hres hwr
theorem k_m_judged {w : gx_Wd} {R : Int32 × gx_Wd} (h : m_judged w = some R) : gx_MT mi_m_judged [.inr 0] w (some (.inl R.1)) R.2 := by
  refine gx_met (by decide +kernel) (Nat.le_of_ble_eq_true rfl) (fun X hX hres hwr => ?_)
  show gx_G X mi_m_judged 0 [some (.inr 0)] [] w
  rw [m_judged] at h
  refine gx_iconst hX (v := 0) (gx_dt dt_mi_m_judged 0 rfl) (by decide) ?_
  refine gx_istore_n hX (ls' := [some (.inr 0), some (.inl (0))]) (gx_dt dt_mi_m_judged 1 rfl) (by decide) rfl ?_
  exact gx_weak (gx_leS (gx_leS gx_le0)) (t_m_judged_2 hX hres hwr _ _ _ h)
