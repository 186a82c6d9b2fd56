/-! ===== the orders: the class's counting ===== -/
def mI : Option Nat → Int32
  | none => -1
  | some m => nI m
def Mx (r : Rf) (a l : Nat) (b p : Nat) : Option Nat := if r 1 b = 3 ∨ xT r a r0 b p < l then none else some (2 * gM (r 1 b) (r 2 b) (xT r a r0 b p) l)
theorem Mx_ok {r : Rf} {a l : Nat} {q : Nat → Nat} {p : Nat} : Mx r a l (q p) p = if xB r a l q r0 nO p = true then some (2 * xG r a l q r0 p) else none := by
  unfold Mx xB cB xG cG rK rS
  rw [show rT r a q r0 p = xT r a r0 (q p) p from rfl]
  by_cases c1 : r 1 (q p) = 3
  · simp [c1]
  · by_cases c2 : xT r a r0 (q p) p < l
    · simp [c2, Nat.not_le.mpr c2]
    · have c3 : l ≤ xT r a r0 (q p) p := by omega
      rw [if_neg (by rintro (h | h) <;> omega), if_pos (by simp [c1, c3, nO])]
      rfl
theorem xI_pc (w : gx_Wd) : ∀ U, U < 128 → x_I_bitCount (nI U) w = some (nI (pc U), w) := by
  have h : ∀ U, U < 128 → (x_I_bitCount (nI U) (fun _ _ => 0)).map (fun z => z.1) = some (nI (pc U)) := by decide +kernel
  intro U hU
  have h2 := h U hU
  unfold x_I_bitCount at h2 ⊢
  simp only [gx_bs, Option.map_some] at h2 ⊢
  rw [Option.some.inj h2]
def OX (w : gx_Wd) (n : Nat) (M : Nat → Nat → Option Nat) (wt : Nat → Nat) : Prop := n ≤ 7 ∧ w 1 0 = nI n ∧ (∀ s, s < 6 → w 25 s = nI (wt s) ∧ wt s ≤ 198) ∧ (∀ b, b < n → ∀ p, p < n → w 36 (b * 7 + p) = mI (M b p)) ∧ ∀ b, b < n → ∀ p, p < n → ∀ m, M b p = some m → m ≤ 400
/-- the ways from so many upon on -/
def VW (w : gx_Wd) (n : Nat) (M : Nat → Nat → Option Nat) (wt : Nat → Nat) (lo : Nat) : Prop := ∀ U, lo ≤ U → U < 2 ^ n → ∀ c, c < n → hb U c = true → ∀ pb, w 37 ((U * 7 + c) * 2 + (if pb = true then 1 else 0)) = nI (Wn n M wt (n - pc U) U (pc U - 1) c pb)
section
variable {w : gx_Wd} {n : Nat} {M : Nat → Nat → Option Nat} {wt : Nat → Nat}
theorem OX.to {w' : gx_Wd} (h : OX w n M wt) (he : ∀ o, o ≠ 37 → w' o = w o) : OX w' n M wt := by
  obtain ⟨h1, h2, h3, h4, h5⟩ := h
  exact ⟨h1, by rw [he 1 (by decide)]; exact h2, fun s hs => by rw [he 25 (by decide)]; exact h3 s hs, fun b hb p hp => by rw [he 36 (by decide)]; exact h4 b hb p hp, h5⟩
theorem x_most (h : OX w n M wt) {b p : Nat} (hb1 : b < n) (hp : p < n) : x_O_mostOf (nI b) (nI p) w = some (mI (M b p), w) := by
  have hn := h.1
  unfold x_O_mostOf
  rw [show nI b * 7 + nI p = nI (b * 7 + p) from by rw [show (7 : Int32) = nI 7 from rfl, pk_mul, nI_add], px_cell (N := 49) (o := 36) rfl (by omega) (by decide), h.2.2.2.1 b hb1 p hp]
  rfl
theorem mI_neg {o : Option Nat} {α : Type} {x y : α} (h : ∀ m, o = some m → m ≤ 400) : (if mI o < 0 then x else y) = if o.isSome = true then y else x := by
  cases o with
  | none => simp [mI]
  | some m =>
    rw [if_neg (show ¬ mI (some m) < 0 from nI_pos (by have := h m rfl; omega))]
    simp
theorem x_bears (h : OX w n M wt) {p c g : Nat} {pb : Bool} (hp : p < n) (hc : c < n) (hg : g ≤ 400) : x_O_bearsLeft (nI p) (nI c) (bI pb) (nI g) w = some (bI (bl M wt p c pb g), w) := by
  have hn := h.1
  have e1 : x_E_cell 25 (nI p - 1) w = some (nI (if p = 0 then 0 else wt (p - 1)), w) := by
    by_cases c0 : p = 0
    · rw [c0, if_pos rfl, show nI 0 - 1 = -1 from by decide, px_cellN]
      rfl
    · obtain ⟨p', rfl⟩ : ∃ j, p = j + 1 := ⟨p - 1, by omega⟩
      rw [nI_pred, px_cell (N := 6) rfl (by omega) (by decide), (h.2.2.1 p' (by omega)).1, if_neg (by omega)]
      rfl
  have key : ∀ s : Nat, s ≤ 400 → x_O_bearsLeft_37 (nI g) (mI (M c p)) (nI s) w = some (bI (match M c p with | none => true | some m => decide (s + g ≤ m)), w) := by
    intro s hs
    unfold x_O_bearsLeft_37
    rw [mI_neg (h.2.2.2.2 c hc p hp)]
    cases hM : M c p with
    | none => simp [bI]
    | some m =>
      have := h.2.2.2.2 c hc p hp m hM
      rw [if_pos (show (some m).isSome = true from rfl), nI_add]
      by_cases c1 : s + g ≤ m
      · rw [if_neg (show ¬ mI (some m) < nI (s + g) from nI_nlt c1 (by omega))]
        simp [c1, bI]
      · rw [if_pos (show mI (some m) < nI (s + g) from nI_lt (by omega) (by omega))]
        simp [c1, bI]
  have hw : (if p = 0 then 0 else wt (p - 1)) ≤ 198 := by
    split
    · omega
    · exact (h.2.2.1 (p - 1) (by omega)).2
  unfold x_O_bearsLeft
  simp only [x_most h hc hp, e1, gx_bs, bI_ite1]
  unfold bl lw
  by_cases c1 : pb = true
  · rw [if_pos c1, key _ (by omega)]
    simp only [c1, if_true]
    try rfl
  · rw [if_neg c1, show (2 : Int32) * nI (if p = 0 then 0 else wt (p - 1)) = nI (2 * (if p = 0 then 0 else wt (p - 1))) from pk_mul 2 _, key _ (by omega)]
    have : 2 * (if p = 0 then 0 else wt (p - 1)) = if p = 0 then 0 else 2 * wt (p - 1) := by split <;> rfl
    rw [this]
    simp only [if_neg c1]
    try rfl
theorem x_spot {U c f : Nat} : x_O_spotOf (nI U) (nI c) (nI f) w = some (nI ((U * 7 + c) * 2 + f), w) := by
  unfold x_O_spotOf
  rw [show (7 : Int32) = nI 7 from rfl, show (2 : Int32) = nI 2 from rfl, pk_mul, nI_add, pk_mul, nI_add]
theorem x_cell37 {U c f : Nat} (hU : U < 128) (hc : c < 7) (hf : f < 2) : x_E_cell 37 (nI ((U * 7 + c) * 2 + f)) w = some (w 37 ((U * 7 + c) * 2 + f), w) := px_cell (N := 1792) (o := 37) rfl (by omega) (by decide)
theorem x_wwith (h : OX w n M wt) {lo U p c b j : Nat} {pb : Bool} (hV : VW w n M wt lo) (hlo : lo ≤ U + 1) (hU : U < 2 ^ n) (hp : pc U = p + 1) (hj : p + j + 2 = n) (hc : c < n) (hb1 : b < n) : x_O_waysWith (nI U) (nI c) (bI pb) (nI b) w = some (nI (if hb U b = true then 0 else if sc M wt p c pb b = true then Wn n M wt j (U + 2 ^ b) (p + 1) b (M c p).isSome else 0), w) := by
  have hn := h.1
  have hU2 := ob_p2 (by omega) hU
  unfold x_O_waysWith
  by_cases cu : hb U b = true
  · rw [if_pos ((ob_has U hU2 b (by omega)).mpr cu), if_pos cu]
    rfl
  · have cu2 : hb U b = false := by simpa using cu
    rw [if_neg (fun z => cu ((ob_has U hU2 b (by omega)).mp z)), if_neg cu]
    have e25 : x_E_cell 25 (nI p) w = some (nI (wt p), w) := by rw [px_cell (N := 6) rfl (by omega) (by decide), (h.2.2.1 p (by omega)).1]
    have hwp := (h.2.2.1 p (by omega)).2
    have e107 : ∀ g : Nat, g ≤ 400 → x_O_waysWith_107 (nI U) (nI b) (bI (M c p).isSome) (nI g) (bI pb) (nI c) (nI p) w = some (nI (if bl M wt p c pb g = true then Wn n M wt j (U + 2 ^ b) (p + 1) b (M c p).isSome else 0), w) := by
      intro g hg
      have hU3 := ob_lt n (by omega) U hU b hb1 cu2
      have hU4 := ob_p2 (by omega) hU3
      have hv := hV (U + 2 ^ b) (by have := Nat.one_le_two_pow (n := b); omega) hU3 b hb1 (ob_hb U hU2 b (by omega) cu2) (M c p).isSome
      rw [ob_pc U hU2 b (by omega) cu2, hp, show n - (p + 1 + 1) = j by omega, show p + 1 + 1 - 1 = p + 1 by omega] at hv
      unfold x_O_waysWith_107
      simp only [x_bears h (show p < n by omega) hc hg, gx_bs, bI_ite, ob_or U hU2 b (by omega) cu2]
      by_cases c1 : bl M wt p c pb g = true
      · rw [if_pos c1, if_pos c1]
        by_cases c2 : (M c p).isSome = true
        · rw [if_pos c2]
          rw [c2] at hv ⊢
          rw [show x_O_spotOf (nI (U + 2 ^ b)) (nI b) 1 w = _ from x_spot (f := 1)]
          simp only [gx_bs, x_cell37 hU4 (show b < 7 by omega) (show 1 < 2 by decide)]
          exact congrArg (fun z => some (z, w)) hv
        · rw [if_neg c2]
          have c3 : (M c p).isSome = false := by simpa using c2
          rw [c3] at hv ⊢
          rw [show x_O_spotOf (nI (U + 2 ^ b)) (nI b) 0 w = _ from x_spot (f := 0)]
          simp only [gx_bs, x_cell37 hU4 (show b < 7 by omega) (show 0 < 2 by decide)]
          exact congrArg (fun z => some (z, w)) hv
      · rw [if_neg c1, if_neg c1]
        rfl
    have e88 : ∀ nb : Bool, x_O_waysWith_88 (nI U) (nI c) (bI pb) (nI b) (nI p) (nI (wt p)) (bI (M c p).isSome) (bI nb) w = some (nI (if bl M wt p c pb (if nb = true then wt p else 2 * wt p) = true then Wn n M wt j (U + 2 ^ b) (p + 1) b (M c p).isSome else 0), w) := by
      intro nb
      unfold x_O_waysWith_88
      rw [bI_ite]
      by_cases c1 : nb = true
      · rw [if_pos c1, e107 _ (by omega), if_pos c1]
      · rw [if_neg c1, show (2 : Int32) * nI (wt p) = nI (2 * wt p) from pk_mul 2 _, e107 _ (by omega), if_neg c1]
    have e69 : ∀ nb : Bool, nb = (M b (p + 1)).isSome → x_O_waysWith_69 (nI U) (nI c) (bI pb) (nI b) (nI p) (nI (wt p)) (bI (M c p).isSome) (bI nb) w = some (nI (if sc M wt p c pb b = true then Wn n M wt j (U + 2 ^ b) (p + 1) b (M c p).isSome else 0), w) := by
      intro nb hnb
      unfold x_O_waysWith_69
      simp only [bI_ite, e88]
      unfold sc
      rw [← hnb]
      have hi : (M b (p + 1)).isNone = !nb := by rw [hnb]; cases M b (p + 1) <;> rfl
      rw [hi]
      by_cases c1 : (M c p).isSome = true
      · have : (M c p).isNone = false := by cases hh : M c p with | none => rw [hh] at c1; simp at c1 | some m => rfl
        rw [if_pos c1, this]
        simp
      · have : (M c p).isNone = true := by cases hh : M c p with | none => rfl | some m => rw [hh] at c1; simp at c1
        rw [if_neg c1, this]
        by_cases c2 : nb = true
        · rw [if_pos c2, c2]
          simp
        · have c3 : nb = false := by simpa using c2
          rw [if_neg c2, c3]
          by_cases c4 : wt p = 0
          · rw [if_pos (show nI (wt p) ≤ 0 by rw [c4]; decide)]
            simp [c4]
          · rw [if_neg (show ¬ nI (wt p) ≤ 0 from nI_ge (a := 0) (by omega) (by omega))]
            simp [show 0 < wt p by omega]
            rfl
    have e49 : ∀ lb : Bool, lb = (M c p).isSome → x_O_waysWith_49 (nI U) (nI c) (bI pb) (nI b) (nI p) (nI (wt p)) (bI lb) w = some (nI (if sc M wt p c pb b = true then Wn n M wt j (U + 2 ^ b) (p + 1) b (M c p).isSome else 0), w) := by
      intro lb hlb
      unfold x_O_waysWith_49
      have em : x_O_mostOf (nI b) (nI p + 1) w = some (mI (M b (p + 1)), w) := by rw [nI_1]; exact x_most h hb1 (by omega)
      rw [em, gx_bs, mI_neg (h.2.2.2.2 b hb1 (p + 1) (by omega)), hlb]
      have h1 := e69 (M b (p + 1)).isSome rfl
      by_cases c1 : (M b (p + 1)).isSome = true
      · rw [if_pos c1]; rw [c1] at h1; exact h1
      · rw [if_neg c1]; rw [show (M b (p + 1)).isSome = false by simpa using c1] at h1; exact h1
    have h1 := e49 (M c p).isSome rfl
    simp only [xI_pc w U hU2, gx_bs, hp]
    rw [show nI (p + 1) - 1 = nI p from nI_pred p, e25]
    simp only [gx_bs, x_most h hc (show p < n by omega)]
    rw [mI_neg (h.2.2.2.2 c hc p (by omega))]
    by_cases c1 : (M c p).isSome = true
    · rw [if_pos c1]; rw [c1] at h1 ⊢; exact h1
    · rw [if_neg c1]; rw [show (M c p).isSome = false by simpa using c1] at h1 ⊢; exact h1
theorem x_wonL (h : OX w n M wt) {lo U p c j : Nat} {pb : Bool} (hV : VW w n M wt lo) (hlo : lo ≤ U + 1) (hU : U < 2 ^ n) (hp : pc U = p + 1) (hj : p + j + 2 = n) (hc : c < n) : ∀ (k f i s : Nat), i + k = n → k < f → x_O_waysOn_49 f (nI U) (nI c) (bI pb) (nI s) (nI i) w = some (nI (s + ((fl U k i).map (fun b => if sc M wt p c pb b = true then Wn n M wt j (U + 2 ^ b) (p + 1) b (M c p).isSome else 0)).sum), w) := by
  have hn := h.1
  intro k
  induction k with
  | zero =>
    intro f i s hi hf
    obtain ⟨f, rfl⟩ : ∃ g, f = g + 1 := ⟨f - 1, by omega⟩
    rw [x_O_waysOn_49, h.2.1, if_pos (nI_le (by omega) (by omega))]
    simp [fl]
  | succ k ih =>
    intro f i s hi hf
    obtain ⟨f, rfl⟩ : ∃ g, f = g + 1 := ⟨f - 1, by omega⟩
    rw [x_O_waysOn_49, h.2.1, if_neg (nI_ge (by omega) (by omega))]
    simp only [x_wwith h hV hlo hU hp hj hc (show i < n by omega), gx_bs]
    rw [nI_1, nI_add, ih f (i + 1) _ (by omega) (by omega), fl]
    by_cases c1 : hb U i = true
    · rw [if_pos c1, if_pos c1]; rfl
    · rw [if_neg c1, if_neg c1, List.map_cons, List.sum_cons, Nat.add_assoc]
theorem x_won (h : OX w n M wt) {lo U p c : Nat} {pb : Bool} (hV : VW w n M wt lo) (hlo : lo ≤ U + 1) (hU : U < 2 ^ n) (hp : pc U = p + 1) (hpn : p < n) (hc : c < n) : x_O_waysOn (nI U) (nI c) (bI pb) w = some (nI (Wn n M wt (n - pc U) U (pc U - 1) c pb), w) := by
  have hn := h.1
  have hU2 := ob_p2 (by omega) hU
  unfold x_O_waysOn
  simp only [xI_pc w U hU2, gx_bs, hp]
  rw [show nI (p + 1) - 1 = nI p from nI_pred p, nI_1, h.2.1, show p + 1 - 1 = p by omega]
  by_cases c1 : p + 1 < n
  · rw [if_pos (nI_lt c1 (by omega))]
    obtain ⟨j, hj⟩ : ∃ j, p + j + 2 = n := ⟨n - p - 2, by omega⟩
    rw [show n - (p + 1) = j + 1 by omega, Wn]
    have e := x_wonL h (pb := pb) hV hlo hU hp hj hc n 6000 0 0 (by omega) (by omega)
    rw [Nat.zero_add] at e
    exact e
  · rw [if_neg (nI_nlt (by omega) (by omega)), show n - (p + 1) = 0 by omega, Wn]
    have e : x_O_bearsLeft (nI p) (nI c) (bI pb) 0 w = some (bI (bl M wt p c pb 0), w) := x_bears h hpn hc (g := 0) (by omega)
    rw [e, gx_bs, bI_ite]
    by_cases c2 : bl M wt p c pb 0 = true
    · rw [if_pos c2, if_pos c2]; rfl
    · rw [if_neg c2, if_neg c2]; rfl
end
