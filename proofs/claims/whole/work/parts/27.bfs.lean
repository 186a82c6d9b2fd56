/-! ===== breadth first: what a queue finds are the shortest ways ===== -/
abbrev BS : Type := (Nat → Option Nat) × List Nat
def bvis (ok : Nat → Bool) (d : Nat) (S : BS) (v : Nat) : BS := if (S.1 v).isNone = true ∧ ok v = true then (fun u => if u = v then some d else S.1 u, S.2 ++ [v]) else S
theorem nodup_le : ∀ (N : Nat) (Q : List Nat), Q.Nodup → (∀ x ∈ Q, x < N) → Q.length ≤ N := by
  intro N
  induction N with
  | zero =>
    intro Q _ h
    cases Q with
    | nil => exact Nat.le_refl 0
    | cons a t => exact absurd (h a List.mem_cons_self) (Nat.not_lt_zero a)
  | succ N ih =>
    intro Q hn h
    by_cases c : N ∈ Q
    · have h1 := ih (Q.erase N) (hn.erase N) (fun x hx => by
        have h2 := (hn.mem_erase_iff).mp hx
        have := h x h2.2
        omega)
      have h3 := List.length_erase_of_mem c
      have h4 : 0 < Q.length := List.length_pos_of_mem c
      omega
    · have := ih Q hn (fun x hx => by
        have h1 := h x hx
        by_cases e : x = N
        · subst e; exact absurd hx c
        · omega)
      omega
/-- what holds while the queue is read: k are read; e more than the distance d of the one that is read now, at most -/
def BI (ok : Nat → Bool) (adj : Nat → Nat → Prop) (s0 : Nat) (S : BS) (d : Nat) : Prop :=
  (∀ u ∈ S.2, (S.1 u).isSome = true ∧ ok u = true) ∧ (∀ u e, S.1 u = some e → u ∈ S.2) ∧ S.2.Nodup ∧
  (∀ i j u v e g : Nat, i ≤ j → S.2[i]? = some u → S.2[j]? = some v → S.1 u = some e → S.1 v = some g → e ≤ g) ∧
  (∀ u e, S.1 u = some e → e ≤ d) ∧
  (∀ u, S.1 u = some 0 → u = s0) ∧ (∀ v e, S.1 v = some (e + 1) → ∃ u, S.1 u = some e ∧ adj u v) ∧ (ok s0 = true → S.1 s0 = some 0) ∧
  (∀ i u e : Nat, S.2[i]? = some u → S.1 u = some e → e ≤ i)
/-- the first so many are closed -/
def BC (ok : Nat → Bool) (adj : Nat → Nat → Prop) (S : BS) (k : Nat) : Prop := ∀ i u e v : Nat, i < k → S.2[i]? = some u → S.1 u = some e → adj u v → ok v = true → ∃ g, g ≤ e + 1 ∧ S.1 v = some g
section
variable {ok : Nat → Bool} {adj : Nat → Nat → Prop} {s0 : Nat}
theorem bvis_mono {d : Nat} {S : BS} {v : Nat} : (∀ u e, S.1 u = some e → (bvis ok d S v).1 u = some e) ∧ (∀ (i u : Nat), S.2[i]? = some u → (bvis ok d S v).2[i]? = some u) := by
  unfold bvis
  by_cases c : (S.1 v).isNone = true ∧ ok v = true
  · rw [if_pos c]
    refine ⟨fun u e h => ?_, fun i u h => ?_⟩
    · have : ¬ u = v := fun z => by rw [z] at h; rw [h] at c; simp at c
      simp only [if_neg this]
      exact h
    · have := (List.getElem?_eq_some_iff.mp h).1
      simp only
      rw [List.getElem?_append_left this]
      exact h
  · rw [if_neg c]
    exact ⟨fun _ _ h => h, fun _ _ h => h⟩
theorem bvis_get {d : Nat} {S : BS} {v : Nat} (hv : ok v = true) : ∃ g, (bvis ok d S v).1 v = some g := by
  unfold bvis
  cases c : S.1 v with
  | none => rw [if_pos ⟨by simp, hv⟩]; exact ⟨d, by simp⟩
  | some e => rw [if_neg (by simp)]; exact ⟨e, c⟩
theorem bvis_back {d : Nat} {S : BS} {v : Nat} (u e : Nat) (h : (bvis ok d S v).1 u = some e) : S.1 u = some e ∨ (u = v ∧ e = d ∧ S.1 u = none ∧ ok v = true) := by
  unfold bvis at h
  by_cases c : (S.1 v).isNone = true ∧ ok v = true
  · rw [if_pos c] at h
    by_cases c2 : u = v
    · simp only [if_pos c2] at h
      cases h
      right
      exact ⟨c2, rfl, by rw [c2]; simpa using c.1, c.2⟩
    · simp only [if_neg c2] at h; exact Or.inl h
  · rw [if_neg c] at h; exact Or.inl h
theorem bvis_I {d : Nat} {S : BS} {u0 k v : Nat} (h : BI ok adj s0 S (d + 1)) (hk : S.2[k]? = some u0) (hd : S.1 u0 = some d) (ha : adj u0 v) : BI ok adj s0 (bvis ok (d + 1) S v) (d + 1) := by
  obtain ⟨m1, m2⟩ := @bvis_mono ok (d + 1) S v
  by_cases c : (S.1 v).isNone = true ∧ ok v = true
  · have e : bvis ok (d + 1) S v = (fun u => if u = v then some (d + 1) else S.1 u, S.2 ++ [v]) := by unfold bvis; rw [if_pos c]
    have hn : S.1 v = none := by simpa using c.1
    obtain ⟨h1, h2, h3, h4, h5, h6, h7, h8, h9⟩ := h
    have hv : v ∉ S.2 := fun z => by have := (h1 v z).1; rw [hn] at this; simp at this
    have old : ∀ {u y : Nat}, (bvis ok (d + 1) S v).1 u = some y → ¬ u = v → S.1 u = some y := fun {u _} z y => by
      rw [e] at z; simp only [if_neg y] at z; exact z
    have new : ∀ {e1}, (bvis ok (d + 1) S v).1 v = some e1 → e1 = d + 1 := fun {e1} z => by
      rw [e] at z; simp at z; omega
    have hklt : k < S.2.length := (List.getElem?_eq_some_iff.mp hk).1
    refine ⟨fun u hu => ?_, fun u e1 hu => ?_, ?_, fun i j u w e1 g hij hi hj hu hw => ?_, fun u e1 hu => ?_, fun u hu => ?_, fun w e1 hw => ?_, fun hs => m1 _ _ (h8 hs), fun i u e1 hi hu => ?_⟩
    · rw [e] at hu ⊢
      simp only [List.mem_append, List.mem_singleton] at hu
      rcases hu with hu | hu
      · obtain ⟨p1, p2⟩ := h1 u hu
        have : ¬ u = v := fun z => hv (z ▸ hu)
        simp only [if_neg this]
        exact ⟨p1, p2⟩
      · simp [hu, c.2]
    · by_cases y : u = v
      · rw [e, y]; simp
      · rw [e]; simp only [List.mem_append]; exact Or.inl (h2 u e1 (old hu y))
    · rw [e]
      simp only
      rw [List.nodup_append]
      exact ⟨h3, by simp, fun a ha b hb => by simp only [List.mem_singleton] at hb; rw [hb]; exact fun z => hv (z ▸ ha)⟩
    · rw [e] at hi hj
      simp only at hi hj
      by_cases c1 : j < S.2.length
      · rw [List.getElem?_append_left c1] at hj
        rw [List.getElem?_append_left (by omega)] at hi
        have y1 : ¬ u = v := fun z => hv (z ▸ List.mem_of_getElem? hi)
        have y2 : ¬ w = v := fun z => hv (z ▸ List.mem_of_getElem? hj)
        exact h4 i j u w e1 g hij hi hj (old hu y1) (old hw y2)
      · rw [List.getElem?_append_right (by omega)] at hj
        have hw2 : w = v := by
          cases hjj : j - S.2.length with
          | zero => rw [hjj] at hj; simp at hj; exact hj.symm
          | succ n => rw [hjj] at hj; simp at hj
        rw [hw2] at hw
        have hg := new hw
        by_cases y1 : u = v
        · rw [y1] at hu; have := new hu; omega
        · have := h5 u e1 (old hu y1); omega
    · by_cases y : u = v
      · rw [y] at hu; have := new hu; omega
      · exact h5 u e1 (old hu y)
    · by_cases y : u = v
      · rw [y] at hu; have := new hu; omega
      · exact h6 u (old hu y)
    · by_cases y : w = v
      · rw [y] at hw
        have := new hw
        have e2 : e1 = d := by omega
        subst e2
        exact ⟨u0, m1 _ _ hd, by rw [y]; exact ha⟩
      · obtain ⟨u, q1, q2⟩ := h7 w e1 (old hw y)
        exact ⟨u, m1 _ _ q1, q2⟩
    · by_cases y : u = v
      · rw [y] at hu
        have := new hu
        have hd2 := h9 k u0 d hk hd
        rw [e] at hi
        simp only at hi
        by_cases c1 : i < S.2.length
        · rw [List.getElem?_append_left c1] at hi
          exact absurd (List.mem_of_getElem? hi) (y ▸ hv)
        · omega
      · rw [e] at hi
        simp only at hi
        by_cases c1 : i < S.2.length
        · rw [List.getElem?_append_left c1] at hi
          exact h9 i u e1 hi (old hu y)
        · rw [List.getElem?_append_right (by omega)] at hi
          exfalso
          apply y
          cases hjj : i - S.2.length with
          | zero => rw [hjj] at hi; simp at hi; exact hi.symm
          | succ n => rw [hjj] at hi; simp at hi
  · have e : bvis ok (d + 1) S v = S := by unfold bvis; rw [if_neg c]
    rw [e]; exact h
/-- one is read: all its neighbours are visited -/
theorem bpop_I {d : Nat} {u0 k : Nat} : ∀ (l : List Nat) (S : BS), BI ok adj s0 S (d + 1) → S.2[k]? = some u0 → S.1 u0 = some d → (∀ v ∈ l, adj u0 v) → BI ok adj s0 (l.foldl (bvis ok (d + 1)) S) (d + 1) ∧ (∀ u e, S.1 u = some e → (l.foldl (bvis ok (d + 1)) S).1 u = some e) ∧ (∀ (i u : Nat), S.2[i]? = some u → (l.foldl (bvis ok (d + 1)) S).2[i]? = some u) ∧ ∀ v ∈ l, ok v = true → ∃ g, (l.foldl (bvis ok (d + 1)) S).1 v = some g := by
  intro l
  induction l with
  | nil => intro S h _ _ _; exact ⟨h, fun _ _ h => h, fun _ _ h => h, fun v hv => by cases hv⟩
  | cons a t ih =>
    intro S h hk hd ha
    obtain ⟨m1, m2⟩ := @bvis_mono ok (d + 1) S a
    obtain ⟨i1, i2, i3, i4⟩ := ih (bvis ok (d + 1) S a) (bvis_I h hk hd (ha a List.mem_cons_self)) (m2 _ _ hk) (m1 _ _ hd) (fun v hv => ha v (List.mem_cons_of_mem _ hv))
    refine ⟨i1, fun u e hu => i2 _ _ (m1 _ _ hu), fun i u hu => i3 _ _ (m2 _ _ hu), fun v hv hok => ?_⟩
    rcases List.mem_cons.mp hv with rfl | hv
    · obtain ⟨g, hg⟩ := @bvis_get ok (d + 1) S v hok
      exact ⟨g, i2 _ _ hg⟩
    · exact i4 v hv hok
theorem BI.up {S : BS} {d d' : Nat} (h : BI ok adj s0 S d) (hd : d ≤ d') : BI ok adj s0 S d' := by
  obtain ⟨h1, h2, h3, h4, h5, h6, h7, h8, h9⟩ := h
  exact ⟨h1, h2, h3, h4, fun u e hu => Nat.le_trans (h5 u e hu) hd, h6, h7, h8, h9⟩
/-- the bound at a place of the queue: no later one is more than one above -/
def BB (S : BS) (k : Nat) : Prop := ∀ u e : Nat, S.2[k]? = some u → S.1 u = some e → ∀ v g, S.1 v = some g → g ≤ e + 1
theorem bpop {nb : List Nat} {S : BS} {u0 k d D0 : Nat} (h : BI ok adj s0 S D0) (hc : BC ok adj S k) (hb : BB S k) (hk : S.2[k]? = some u0) (hd : S.1 u0 = some d) (hn : ∀ v, v ∈ nb ↔ adj u0 v) : (∃ D1, BI ok adj s0 (nb.foldl (bvis ok (d + 1)) S) D1) ∧ BC ok adj (nb.foldl (bvis ok (d + 1)) S) (k + 1) ∧ BB (nb.foldl (bvis ok (d + 1)) S) (k + 1) := by
  have h1 : BI ok adj s0 S (d + 1) := by
    obtain ⟨q1, q2, q3, q4, q5, q6, q7, q8, q9⟩ := h
    exact ⟨q1, q2, q3, q4, fun u e hu => hb u0 d hk hd u e hu, q6, q7, q8, q9⟩
  obtain ⟨i1, i2, i3, i4⟩ := bpop_I nb S h1 hk hd (fun v hv => (hn v).mp hv)
  refine ⟨⟨_, i1⟩, fun i u e v hi hu he hv hok => ?_, fun u e hu he v g hg => ?_⟩
  · -- closed
    have hklt : k < S.2.length := (List.getElem?_eq_some_iff.mp hk).1
    have hil : i < S.2.length := by omega
    have hu2 : S.2[i]? = some u := by
      have := i3 i (S.2[i]) (List.getElem?_eq_getElem hil)
      rw [this] at hu
      cases hu
      exact List.getElem?_eq_getElem hil
    obtain ⟨e2, he2⟩ : ∃ e2, S.1 u = some e2 := Option.isSome_iff_exists.mp (h.1 u (List.mem_of_getElem? hu2)).1
    have e3 := i2 _ _ he2
    rw [e3] at he
    cases he
    by_cases c : i < k
    · obtain ⟨g, g1, g2⟩ := hc i u e v c hu2 he2 hv hok
      exact ⟨g, g1, i2 _ _ g2⟩
    · have hik : i = k := by omega
      subst hik
      rw [hk] at hu2
      cases hu2
      rw [hd] at he2
      cases he2
      obtain ⟨g, hg⟩ := i4 v ((hn v).mpr hv) hok
      exact ⟨g, i1.2.2.2.2.1 v g hg, hg⟩
  · -- the bound behind
    have hle : d ≤ e := i1.2.2.2.1 k (k + 1) u0 u d e (Nat.le_succ k) (i3 _ _ hk) hu (i2 _ _ hd) he
    have := i1.2.2.2.2.1 v g hg
    omega
/-- the shortest ways, by what they are -/
def DS (ok : Nat → Bool) (adj : Nat → Nat → Prop) (s0 : Nat) (D : Nat → Option Nat) : Prop := (∀ v e, D v = some e → ok v = true) ∧ (∀ u, D u = some 0 → u = s0) ∧ (∀ v e, D v = some (e + 1) → ∃ u, D u = some e ∧ adj u v) ∧ (ok s0 = true → D s0 = some 0) ∧ ∀ u e v, D u = some e → adj u v → ok v = true → ∃ g, g ≤ e + 1 ∧ D v = some g
theorem DS_le {D D' : Nat → Option Nat} (h : DS ok adj s0 D) (h' : DS ok adj s0 D') : ∀ e v, D v = some e → ∃ g, g ≤ e ∧ D' v = some g := by
  intro e
  induction e with
  | zero =>
    intro v hv
    have := h.2.1 v hv
    subst this
    exact ⟨0, Nat.le_refl 0, h'.2.2.2.1 (h.1 _ _ hv)⟩
  | succ e ih =>
    intro v hv
    obtain ⟨u, q1, q2⟩ := h.2.2.1 v e hv
    obtain ⟨g, g1, g2⟩ := ih u q1
    obtain ⟨g', p1, p2⟩ := h'.2.2.2.2 u g v g2 q2 (h.1 _ _ hv)
    exact ⟨g', by omega, p2⟩
theorem DS_eq {D D' : Nat → Option Nat} (h : DS ok adj s0 D) (h' : DS ok adj s0 D') : D = D' := by
  funext v
  cases c : D v with
  | some e =>
    obtain ⟨g, g1, g2⟩ := DS_le h h' e v c
    obtain ⟨e', p1, p2⟩ := DS_le h' h g v g2
    rw [c] at p2
    cases p2
    rw [g2, show g = e by omega]
  | none =>
    cases c' : D' v with
    | none => rfl
    | some e =>
      obtain ⟨g, g1, g2⟩ := DS_le h' h e v c'
      rw [c] at g2
      cases g2
theorem BI_DS {S : BS} {D0 k : Nat} (h : BI ok adj s0 S D0) (hc : BC ok adj S k) (hk : S.2.length ≤ k) : DS ok adj s0 S.1 := by
  obtain ⟨h1, h2, h3, h4, h5, h6, h7, h8, h9⟩ := h
  refine ⟨fun v e hv => (h1 v (h2 v e hv)).2, h6, h7, h8, fun u e v hu ha hok => ?_⟩
  obtain ⟨i, hi⟩ := List.getElem?_of_mem (h2 u e hu)
  have := (List.getElem?_eq_some_iff.mp hi).1
  exact hc i u e v (by omega) hi hu ha hok
/-- the start -/
theorem BI_0 (hs : ok s0 = true) : BI ok adj s0 (bvis ok 0 (fun _ => none, []) s0) 0 := by
  have e : bvis ok 0 ((fun _ => none, []) : BS) s0 = (fun u => if u = s0 then some 0 else none, [s0]) := by unfold bvis; rw [if_pos ⟨rfl, hs⟩]; rfl
  rw [e]
  refine ⟨fun u hu => ?_, fun u e hu => ?_, by simp, fun i j u v e1 g hij hi hj hu hv => ?_, fun u e1 hu => ?_, fun u hu => ?_, fun v e1 hv => ?_, fun _ => by simp, fun i u e1 hi hu => ?_⟩
  · simp only [List.mem_singleton] at hu
    simp [hu, hs]
  · by_cases c : u = s0
    · simp [c]
    · simp [c] at hu
  · by_cases c : u = s0
    · simp [c] at hu
      omega
    · simp [c] at hu
  · by_cases c : u = s0
    · simp [c] at hu; omega
    · simp [c] at hu
  · by_cases c : u = s0
    · exact c
    · simp [c] at hu
  · by_cases c : v = s0
    · simp [c] at hv
    · simp [c] at hv
  · by_cases c : u = s0
    · simp [c] at hu; omega
    · simp [c] at hu
theorem BI_0n (hs : ok s0 = false) : BI ok adj s0 (bvis ok 0 (fun _ => none, []) s0) 0 := by
  have e : bvis ok 0 ((fun _ => none, []) : BS) s0 = (fun _ => none, []) := by unfold bvis; rw [if_neg (by simp [hs])]
  rw [e]
  exact ⟨fun u hu => by simp at hu, fun u e hu => by simp at hu, by simp, fun i j u v e1 g hij hi hj hu hv => by simp at hi, fun u e1 hu => by simp at hu, fun u hu => by simp at hu, fun v e1 hv => by simp at hv, fun h => by simp [hs] at h, fun i u e1 hi hu => by simp at hi⟩
end
