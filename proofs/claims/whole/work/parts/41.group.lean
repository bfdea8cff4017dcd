/-! PURE: groups. -/
def EdS (I Sk So Dr : Nat → Nat) (k : Nat) : Prop := ¬ Ld I Sk (So k) ∧ ¬ Ld I Sk (Dr k)
def rnd (I Sk So Dr : Nat → Nat) (x : Nat → Nat) : Nat → Nat → Nat
  | 0 => x
  | k + 1 => if (I (So k) ≠ 0 ∨ Sk (So k) ≠ 0) ∨ (I (Dr k) ≠ 0 ∨ Sk (Dr k) ≠ 0) then rnd I Sk So Dr x k else
      up (up (rnd I Sk So Dr x k) (So k) (min (rnd I Sk So Dr x k (So k)) (rnd I Sk So Dr x k (Dr k)))) (Dr k) (min (rnd I Sk So Dr x k (So k)) (rnd I Sk So Dr x k (Dr k)))
def itR (I Sk So Dr : Nat → Nat) (t : Nat) : Nat → Nat → Nat
  | 0 => fun i => i
  | m + 1 => rnd I Sk So Dr (itR I Sk So Dr t m) t
section GR
variable {n t : Nat} {I Sk So Dr : Nat → Nat}
theorem rnd_skip {x : Nat → Nat} {k : Nat} (h : ¬ EdS I Sk So Dr k) : rnd I Sk So Dr x (k + 1) = rnd I Sk So Dr x k := by
  simp only [rnd]
  rw [if_pos]
  apply Classical.byContradiction
  intro w
  exact h ⟨fun q => w (Or.inl q), fun q => w (Or.inr q)⟩
theorem rnd_take {x : Nat → Nat} {k : Nat} (h : EdS I Sk So Dr k) : rnd I Sk So Dr x (k + 1) = up (up (rnd I Sk So Dr x k) (So k) (min (rnd I Sk So Dr x k (So k)) (rnd I Sk So Dr x k (Dr k)))) (Dr k) (min (rnd I Sk So Dr x k (So k)) (rnd I Sk So Dr x k (Dr k))) := by
  simp only [rnd]
  rw [if_neg]
  rintro (q | q)
  · exact h.1 q
  · exact h.2 q
theorem rnd_le1 {x : Nat → Nat} (k i : Nat) : rnd I Sk So Dr x (k + 1) i ≤ rnd I Sk So Dr x k i := by
  by_cases h : EdS I Sk So Dr k
  · rw [rnd_take h]
    by_cases e : i = Dr k
    · subst e; rw [up_s]; omega
    · rw [up_n e]
      by_cases e2 : i = So k
      · subst e2; rw [up_s]; omega
      · rw [up_n e2]; exact Nat.le_refl _
  · rw [rnd_skip h]; exact Nat.le_refl _
theorem rnd_le {x : Nat → Nat} (i : Nat) : ∀ d k, rnd I Sk So Dr x (k + d) i ≤ rnd I Sk So Dr x k i := by
  intro d
  induction d with
  | zero => intro k; exact Nat.le_refl _
  | succ d ih => intro k; exact Nat.le_trans (rnd_le1 (k + d) i) (ih k)
theorem rnd_cap {x : Nat → Nat} {k v : Nat} (hk : k < t) (h : EdS I Sk So Dr k) (hv : x (So k) ≤ v ∨ x (Dr k) ≤ v) : rnd I Sk So Dr x t (So k) ≤ v ∧ rnd I Sk So Dr x t (Dr k) ≤ v := by
  have g1 := rnd_le (I := I) (Sk := Sk) (So := So) (Dr := Dr) (x := x) (So k) k 0
  have g2 := rnd_le (I := I) (Sk := Sk) (So := So) (Dr := Dr) (x := x) (Dr k) k 0
  have l1 := rnd_le (I := I) (Sk := Sk) (So := So) (Dr := Dr) (x := x) (So k) (t - (k + 1)) (k + 1)
  have l2 := rnd_le (I := I) (Sk := Sk) (So := So) (Dr := Dr) (x := x) (Dr k) (t - (k + 1)) (k + 1)
  rw [show k + 1 + (t - (k + 1)) = t by omega] at l1 l2
  rw [Nat.zero_add] at g1 g2
  have g1 : rnd I Sk So Dr x k (So k) ≤ x (So k) := g1
  have g2 : rnd I Sk So Dr x k (Dr k) ≤ x (Dr k) := g2
  have m : min (rnd I Sk So Dr x k (So k)) (rnd I Sk So Dr x k (Dr k)) ≤ v := by omega
  rw [rnd_take h] at l1 l2
  rw [up_s] at l2
  refine ⟨?_, by omega⟩
  by_cases e : So k = Dr k
  · rw [e] at l1 ⊢
    rw [up_s] at l1
    rw [e] at m
    omega
  · rw [up_n e, up_s] at l1
    omega
def ClV (t : Nat) (I Sk So Dr : Nat → Nat) (x : Nat → Nat) (v : Nat) : Prop := ∀ k, k < t → EdS I Sk So Dr k → (x (So k) ≤ v ↔ x (Dr k) ≤ v)
theorem rnd_keep {x : Nat → Nat} {v : Nat} (h : ClV t I Sk So Dr x v) : ∀ j, j ≤ t → ∀ i, (rnd I Sk So Dr x j i ≤ v ↔ x i ≤ v) := by
  intro j
  induction j with
  | zero => intro _ i; exact Iff.rfl
  | succ j ih =>
    intro hj i
    have ih := ih (by omega)
    by_cases e : EdS I Sk So Dr j
    · have c := h j (by omega) e
      have a := ih (So j)
      have b := ih (Dr j)
      rw [rnd_take e]
      by_cases e1 : i = Dr j
      · subst e1
        rw [up_s]
        omega
      · rw [up_n e1]
        by_cases e2 : i = So j
        · subst e2
          rw [up_s]
          omega
        · rw [up_n e2]
          exact ih i
    · rw [rnd_skip e]; exact ih i
def cv (x : Nat → Nat) (v : Nat) : Nat → Nat
  | 0 => 0
  | n + 1 => cv x v n + (if x n ≤ v then 1 else 0)
theorem cv_le {x : Nat → Nat} {v : Nat} : ∀ n, cv x v n ≤ n := by
  intro n
  induction n with
  | zero => exact Nat.le_refl _
  | succ n ih => simp only [cv]; split <;> omega
theorem cv_mono {x y : Nat → Nat} {v : Nat} (h : ∀ i, y i ≤ x i) : ∀ n, cv x v n ≤ cv y v n := by
  intro n
  induction n with
  | zero => exact Nat.le_refl _
  | succ n ih =>
    simp only [cv]
    have := h n
    by_cases q : x n ≤ v
    · rw [if_pos q, if_pos (by omega)]; omega
    · rw [if_neg q]; omega
theorem cv_strict {x y : Nat → Nat} {v a : Nat} (h : ∀ i, y i ≤ x i) (h1 : y a ≤ v) (h2 : v < x a) : ∀ n, a < n → cv x v n + 1 ≤ cv y v n := by
  intro n
  induction n with
  | zero => intro q; omega
  | succ n ih =>
    intro hn
    simp only [cv]
    by_cases e : a = n
    · subst e
      have := cv_mono (v := v) h a
      rw [if_neg (show ¬ x a ≤ v by omega), if_pos h1]; omega
    · have i := ih (by omega)
      have := h n
      by_cases q : x n ≤ v
      · rw [if_pos q, if_pos (by omega)]; omega
      · rw [if_neg q]; omega
theorem itR_le (m i : Nat) : itR I Sk So Dr t (m + 1) i ≤ itR I Sk So Dr t m i := by
  have := rnd_le (I := I) (Sk := Sk) (So := So) (Dr := Dr) (x := itR I Sk So Dr t m) i t 0
  rw [Nat.zero_add] at this
  exact this
theorem itR_id (m i : Nat) : itR I Sk So Dr t m i ≤ i := by
  induction m with
  | zero => exact Nat.le_refl _
  | succ m ih => exact Nat.le_trans (itR_le m i) ih
theorem itR_grow (hO : ∀ k, k < t → So k < n ∧ Dr k < n) (v : Nat) (hn : 0 < n) : ∀ m, ClV t I Sk So Dr (itR I Sk So Dr t m) v ∨ m + 1 ≤ cv (itR I Sk So Dr t m) v n := by
  intro m
  induction m with
  | zero =>
    refine Or.inr ?_
    have : ∀ n, 0 < n → 1 ≤ cv (fun i => i) v n := by
      intro n
      induction n with
      | zero => intro q; omega
      | succ n ih =>
        intro _
        simp only [cv]
        by_cases e : n = 0
        · subst e; rw [if_pos (Nat.zero_le _)]; omega
        · have := ih (by omega); omega
    exact this n hn
  | succ m ih =>
    by_cases c : ClV t I Sk So Dr (itR I Sk So Dr t m) v
    · refine Or.inl (fun k hk e => ?_)
      have a := rnd_keep c t (Nat.le_refl _) (So k)
      have b := rnd_keep c t (Nat.le_refl _) (Dr k)
      show rnd I Sk So Dr (itR I Sk So Dr t m) t (So k) ≤ v ↔ rnd I Sk So Dr (itR I Sk So Dr t m) t (Dr k) ≤ v
      rw [a, b]
      exact c k hk e
    · rcases ih with q | q
      · exact absurd q c
      · refine Or.inr ?_
        have : ∃ k, k < t ∧ EdS I Sk So Dr k ∧ ¬ (itR I Sk So Dr t m (So k) ≤ v ↔ itR I Sk So Dr t m (Dr k) ≤ v) := by
          apply Classical.byContradiction
          intro w
          exact c (fun k hk e => Classical.byContradiction (fun z => w ⟨k, hk, e, z⟩))
        obtain ⟨k, hk, e, ne⟩ := this
        obtain ⟨o1, o2⟩ := hO k hk
        by_cases s : itR I Sk So Dr t m (So k) ≤ v
        · have d : ¬ itR I Sk So Dr t m (Dr k) ≤ v := fun d => ne ⟨fun _ => d, fun _ => s⟩
          have := cv_strict (v := v) (itR_le (I := I) (Sk := Sk) (So := So) (Dr := Dr) (t := t) m) (rnd_cap hk e (Or.inl s)).2 (by omega) n o2
          omega
        · have d : itR I Sk So Dr t m (Dr k) ≤ v := by
            apply Classical.byContradiction
            intro d
            exact ne ⟨fun q => absurd q s, fun q => absurd q d⟩
          have := cv_strict (v := v) (itR_le (I := I) (Sk := Sk) (So := So) (Dr := Dr) (t := t) m) (rnd_cap hk e (Or.inr d)).1 (by omega) n o1
          omega
theorem rnd_fix {x : Nat → Nat} (h : ∀ k, k < t → EdS I Sk So Dr k → x (So k) = x (Dr k)) : ∀ j, j ≤ t → rnd I Sk So Dr x j = x := by
  intro j
  induction j with
  | zero => intro _; rfl
  | succ j ih =>
    intro hj
    have ih := ih (by omega)
    by_cases e : EdS I Sk So Dr j
    · have c := h j (by omega) e
      rw [rnd_take e, ih, c, Nat.min_self, up_id c.symm, up_id rfl]
    · rw [rnd_skip e]; exact ih
theorem itR_fix (hO : ∀ k, k < t → So k < n ∧ Dr k < n) : rnd I Sk So Dr (itR I Sk So Dr t n) t = itR I Sk So Dr t n := by
  refine rnd_fix (fun k hk e => ?_) t (Nat.le_refl _)
  have hn : 0 < n := by have := (hO k hk).1; omega
  have c : ∀ v, ClV t I Sk So Dr (itR I Sk So Dr t n) v := fun v => by
    rcases itR_grow hO v hn n with q | q
    · exact q
    · have := cv_le (x := itR I Sk So Dr t n) (v := v) n
      omega
  have a := (c (itR I Sk So Dr t n (So k)) k hk e).mp (Nat.le_refl _)
  have b := (c (itR I Sk So Dr t n (Dr k)) k hk e).mpr (Nat.le_refl _)
  omega
theorem itR_stay {m : Nat} (h : rnd I Sk So Dr (itR I Sk So Dr t m) t = itR I Sk So Dr t m) : ∀ d, itR I Sk So Dr t (m + d) = itR I Sk So Dr t m := by
  intro d
  induction d with
  | zero => rfl
  | succ d ih =>
    show rnd I Sk So Dr (itR I Sk So Dr t (m + d)) t = _
    rw [ih]; exact h
theorem itR_any (hO : ∀ k, k < t → So k < n ∧ Dr k < n) {m : Nat} (h : n ≤ m ∨ rnd I Sk So Dr (itR I Sk So Dr t m) t = itR I Sk So Dr t m) : itR I Sk So Dr t m = itR I Sk So Dr t n := by
  by_cases q : n ≤ m
  · have := itR_stay (itR_fix (I := I) (Sk := Sk) hO) (m - n)
    rwa [show n + (m - n) = m by omega] at this
  · rcases h with h | h
    · exact absurd h q
    · have := itR_stay h (n - m)
      rw [show m + (n - m) = n by omega] at this
      exact this.symm
end GR
def GX (n t : Nat) (I Sk So Dr : Nat → Nat) (inp stk src drn : Nat → Int32) : Prop := n ≤ 24 ∧ t ≤ 30 ∧ AR n inp I ∧ AR n stk Sk ∧ (∀ i, i < n → I i ≤ 1 ∧ Sk i ≤ 1) ∧ AR t src So ∧ AR t drn Dr ∧ ∀ k, k < t → So k < n ∧ Dr k < n
section GW
variable {n t : Nat} {I Sk So Dr : Nat → Nat} {inp stk src drn : Nat → Int32}
theorem rnd_24 {x : Nat → Nat} (h : ∀ i, i < n → x i ≤ 24) (k : Nat) : ∀ i, i < n → rnd I Sk So Dr x k i ≤ 24 := fun i hi => by
  have := rnd_le (I := I) (Sk := Sk) (So := So) (Dr := Dr) (x := x) i k 0
  rw [Nat.zero_add] at this
  exact Nat.le_trans this (h i hi)
theorem ar_two {a b v : Nat} {f : Nat → Int32} {X : Nat → Nat} (h : AR n f X) : AR n (upd (upd f a (nI v)) b (nI v)) (up (up X a v) b v) := ar_upd (ar_upd h a v) b v
theorem x_low (hX : GX n t I Sk So Dr inp stk src drn) {lea : Nat → Int32} {x : Nat → Nat} (hR : AR n lea x) (h24 : ∀ i, i < n → x i ≤ 24) {K : Int32 → (Nat → Int32) → Prop} (hK : ∀ (lea : Nat → Int32) (f : Nat), f ≤ 1 → AR n lea (rnd I Sk So Dr x t) → (f = 0 → rnd I Sk So Dr x t = x) → K (nI f) lea) : wp_Gr_lowerOnce (nI t) src drn inp stk lea K := by
  obtain ⟨hn, ht, aI, aS, h1', aSo, aDr, hO⟩ := hX
  refine ⟨t + 1, ?_⟩
  suffices H : ∀ (d k : Nat) (lea : Nat → Int32) (f : Nat), k + d = t → f ≤ 1 → AR n lea (rnd I Sk So Dr x k) → (f = 0 → rnd I Sk So Dr x k = x) → wl_Gr_lowerOnce_4 (nI t) src drn inp stk K (d + 1) lea (nI f) (nI k) from H t 0 lea 0 (by omega) (by omega) hR (fun _ => rfl)
  intro d
  induction d with
  | zero =>
    intro k lea f hk hf hR hs
    have e : k = t := by omega
    subst e
    rw [ul_Gr_lowerOnce_4]
    refine ⟨fun _ => ⟨?_, hK lea f hf hR hs⟩, fun q => absurd (Int32.le_refl _) q⟩
    rcases (show f = 0 ∨ f = 1 by omega) with e | e <;> subst e <;> decide
  | succ d ih =>
    intro k lea f hk hf hR hs
    have hlt : k < t := by omega
    obtain ⟨o1, o2⟩ := hO k hlt
    have f3 := z_in hlt ht (by omega)
    have f4 := z_cl hlt (show t < 2 ^ 31 by omega)
    have s3 := z_in o1 hn (by omega)
    have s4 := z_cl o1 (show n < 2 ^ 31 by omega)
    have d3 := z_in o2 hn (by omega)
    have d4 := z_cl o2 (show n < 2 ^ 31 by omega)
    have b1 := rnd_24 (I := I) (Sk := Sk) (So := So) (Dr := Dr) h24 k _ o1
    have b2 := rnd_24 (I := I) (Sk := Sk) (So := So) (Dr := Dr) h24 k _ o2
    have skip : ¬ EdS I Sk So Dr k → wl_Gr_lowerOnce_4 (nI t) src drn inp stk K (d + 1) lea (nI f) (nI (k + 1)) := fun e => ih (k + 1) lea f (by omega) hf (by rw [rnd_skip e]; exact hR) (fun z => by rw [rnd_skip e]; exact hs z)
    rw [ul_Gr_lowerOnce_4]
    unfold wb_Gr_lowerOnce_4
    rw [f4, aSo k hlt, aDr k hlt, s4, d4, hR _ o1, hR _ o2, nI_1, jmin (a := rnd I Sk So Dr x k (Dr k)) (b := rnd I Sk So Dr x k (So k)) (by omega) (by omega)]
    refine ⟨fun q => absurd q (nI_ge hlt (by omega)), fun _ => ⟨f3, f3, x_led hn aI aS h1' o1 (fun l => ⟨fun _ => skip (fun e => e.1 l), fun q => absurd q (by decide)⟩) (fun l => ⟨fun q => absurd rfl q, fun _ => ?_⟩)⟩⟩
    refine x_led hn aI aS h1' o2 (fun l' => ⟨fun _ => skip (fun e => e.2 l'), fun q => absurd q (by decide)⟩) (fun l' => ⟨fun q => absurd rfl q, fun _ => ⟨s3, d3, fun q => ?_, fun q => ⟨s3, d3, s3, d3, ?_⟩⟩⟩)
    · have e := (nI_eq (by omega) (by omega)).mp q
      have same : rnd I Sk So Dr x (k + 1) = rnd I Sk So Dr x k := by
        rw [rnd_take ⟨l, l'⟩, e, Nat.min_self, up_id e.symm, up_id rfl]
      exact ih (k + 1) lea f (by omega) hf (by rw [same]; exact hR) (fun z => by rw [same]; exact hs z)
    · exact ih (k + 1) _ 1 (by omega) (by omega) (by rw [rnd_take ⟨l, l'⟩]; exact ar_two hR) (fun z => by omega)
theorem y_rnd (hX : GX n t I Sk So Dr inp stk src drn) {x : Nat → Nat} (h24 : ∀ i, i < n → x i ≤ 24) {nds v1 v2 : Int32} {E : (Nat → Int32) → Int32 → Int32 → Prop} {K : Int32 → (Nat → Int32) → Prop} (hE : ∀ (grp : Nat → Int32), AR n grp (rnd I Sk So Dr x t) → E grp v1 v2) :
    ∀ (d k : Nat) (grp : Nat → Int32), k + d = t → AR n grp (rnd I Sk So Dr x k) → wl_Mo_group_53 nds (nI t) inp stk src drn E K (d + 1) grp v1 v2 (nI k) := by
  obtain ⟨hn, ht, aI, aS, h1', aSo, aDr, hO⟩ := hX
  intro d
  induction d with
  | zero =>
    intro k grp hk hR
    have e : k = t := by omega
    subst e
    rw [ul_Mo_group_53]
    exact ⟨fun _ => hE grp hR, fun q => absurd (Int32.le_refl _) q⟩
  | succ d ih =>
    intro k grp hk hR
    have hlt : k < t := by omega
    obtain ⟨o1, o2⟩ := hO k hlt
    have f3 := z_in hlt ht (by omega)
    have f4 := z_cl hlt (show t < 2 ^ 31 by omega)
    have s3 := z_in o1 hn (by omega)
    have s4 := z_cl o1 (show n < 2 ^ 31 by omega)
    have d3 := z_in o2 hn (by omega)
    have d4 := z_cl o2 (show n < 2 ^ 31 by omega)
    have b1 := rnd_24 (I := I) (Sk := Sk) (So := So) (Dr := Dr) h24 k _ o1
    have b2 := rnd_24 (I := I) (Sk := Sk) (So := So) (Dr := Dr) h24 k _ o2
    have skip : ¬ EdS I Sk So Dr k → wl_Mo_group_53 nds (nI t) inp stk src drn E K (d + 1) grp v1 v2 (nI (k + 1)) := fun e => ih (k + 1) grp (by omega) (by rw [rnd_skip e]; exact hR)
    rw [ul_Mo_group_53]
    unfold wb_Mo_group_53
    rw [f4, aSo k hlt, aDr k hlt, s4, d4, hR _ o1, hR _ o2, nI_1]
    refine ⟨fun q => absurd q (nI_ge hlt (by omega)), fun _ => ⟨f3, f3, y_led hn aI aS h1' o1 (fun l => ⟨fun _ => skip (fun e => e.1 l), fun q => absurd q (by decide)⟩) (fun l => ⟨fun q => absurd rfl q, fun _ => ?_⟩)⟩⟩
    refine y_led hn aI aS h1' o2 (fun l' => ⟨fun _ => skip (fun e => e.2 l'), fun q => absurd q (by decide)⟩) (fun l' => ⟨fun q => absurd rfl q, fun _ => ⟨s3, d3, y_lesser (by omega) (by omega) ⟨s3, d3, ?_⟩⟩⟩)
    exact ih (k + 1) _ (by omega) (by rw [rnd_take ⟨l, l'⟩]; exact ar_two hR)
theorem it_24 (hn : n ≤ 24) (m : Nat) : ∀ i, i < n → itR I Sk So Dr t m i ≤ 24 := fun i hi => by
  have := itR_id (I := I) (Sk := Sk) (So := So) (Dr := Dr) (t := t) m i
  omega
theorem x_groups (hX : GX n t I Sk So Dr inp stk src drn) {lea : Nat → Int32} {K : (Nat → Int32) → Prop} (hK : ∀ lea, AR n lea (itR I Sk So Dr t n) → K lea) : wp_Gr_workOut (nI n) (nI t) lea src drn inp stk K := by
  have hn := hX.1
  have hO := hX.2.2.2.2.2.2.2
  have outer : ∀ (d r : Nat) (lea : Nat → Int32) (f : Nat), r + d = 24 → f ≤ 1 → AR n lea (itR I Sk So Dr t r) → (f = 0 → rnd I Sk So Dr (itR I Sk So Dr t r) t = itR I Sk So Dr t r) → wl_Gr_workOut_27 (nI n) (nI t) src drn inp stk K (d + 1) lea (nI f) (nI r) := by
    intro d
    induction d with
    | zero =>
      intro r lea f hr hf hR hs
      have go := hK lea (by rw [← itR_any (I := I) (Sk := Sk) hO (m := r) (Or.inl (by omega))]; exact hR)
      rw [ul_Gr_workOut_27]
      have e : r = 24 := by omega
      subst e
      exact ⟨fun _ => go, fun _ => ⟨fun _ => go, fun q => absurd (by decide) q⟩⟩
    | succ d ih =>
      intro r lea f hr hf hR hs
      rw [ul_Gr_workOut_27]
      unfold wb_Gr_workOut_27
      rw [nI_1]
      refine ⟨fun q => ?_, fun q => ⟨fun q2 => absurd q2 (nI_ge (b := 24) (by omega) (by omega)), fun _ => ?_⟩⟩
      · have e := (nI_eq (b := 0) (by omega) (by omega)).mp q
        exact hK lea (by rw [← itR_any (I := I) (Sk := Sk) hO (m := r) (Or.inr (hs e))]; exact hR)
      · refine x_low hX hR (it_24 hn r) (fun lea' f' hf' hR' hs' => ih (r + 1) lea' f' (by omega) hf' hR' (fun z => ?_))
        show rnd I Sk So Dr (rnd I Sk So Dr (itR I Sk So Dr t r) t) t = rnd I Sk So Dr (itR I Sk So Dr t r) t
        rw [hs' z, hs' z]
  refine ⟨n + 1, ?_⟩
  suffices H : ∀ (d i : Nat) (lea : Nat → Int32), i + d = n → AR i lea (fun i => i) → wl_Gr_workOut_2 (nI n) (nI t) src drn inp stk (fun lea => (∃ n', wl_Gr_workOut_27 (nI n) (nI t) src drn inp stk K n' lea (1 : Int32) (0 : Int32))) K (d + 1) lea (nI i) from H n 0 lea (by omega) (fun i hi => absurd hi (by omega))
  intro d
  induction d with
  | zero =>
    intro i lea hi hR
    have e : i = n := by omega
    subst e
    rw [ul_Gr_workOut_2]
    exact ⟨fun _ => ⟨25, outer 24 0 lea 1 (by omega) (by omega) hR (fun z => by omega)⟩, fun q => absurd (Int32.le_refl _) q⟩
  | succ d ih =>
    intro i lea hi hR
    have hlt : i < n := by omega
    rw [ul_Gr_workOut_2]
    unfold wb_Gr_workOut_2
    rw [z_cl hlt (show n < 2 ^ 31 by omega), nI_1]
    exact ⟨fun q => absurd q (nI_ge hlt (by omega)), fun _ => ⟨z_in hlt hn (by omega), ih (i + 1) _ (by omega) (ar_step hR rfl)⟩⟩
theorem j_group {minp mstk msrc mdrn : Nat → Int32} (hX : GX n t I Sk So Dr inp stk src drn) (hX' : GX n t I Sk So Dr minp mstk msrc mdrn) {lea grp : Nat → Int32} {v1 : Int32} {K2 : Int32 → (Nat → Int32) → Int32 → (Nat → Int32) → Prop} (h : ∀ r u u', K2 r u r u') :
    wp_Sw_group (nI n) (nI t) inp stk lea src drn v1 (fun r u => wp_Mo_group (nI n) (nI t) minp mstk grp msrc mdrn v1 (fun r' u' => K2 r u r' u')) := by
  have hn := hX.1
  obtain ⟨-, ht, aI, aS, h1', aSo, aDr, hO⟩ := id hX
  obtain ⟨-, -, bI, bS, -, bSo, bDr, -⟩ := id hX'
  rcases pk_ix v1 (show n < 2 ^ 31 by omega) with h' | h' | ⟨j, hj, rfl⟩
  · simpa [wp_Sw_group, wp_Ne_hasNode, wp_Mo_group, wp_Mo_isNode, h'] using h _ _ _
  · by_cases h2 : v1 < 0
    · simpa [wp_Sw_group, wp_Ne_hasNode, wp_Mo_group, wp_Mo_isNode, h2] using h _ _ _
    · simpa [wp_Sw_group, wp_Ne_hasNode, wp_Mo_group, wp_Mo_isNode, h', h2] using h _ _ _
  · have f1 := z_f1 hj (show n < 2 ^ 31 by omega)
    have f2 := z_f2 hj (show n < 2 ^ 31 by omega)
    have f3 := z_in hj hn (by omega)
    have f4 := z_cl hj (show n < 2 ^ 31 by omega)
    have outer : ∀ (E : (Nat → Int32) → Int32 → Prop) (K : Int32 → (Nat → Int32) → Prop), (∀ grp, AR n grp (itR I Sk So Dr t n) → E grp (nI j)) → ∀ (d r : Nat) (grp : Nat → Int32), r + d = n → AR n grp (itR I Sk So Dr t r) → wl_Mo_group_43 (nI n) (nI t) minp mstk msrc mdrn E K (d + 1) grp (nI j) (nI r) := by
      intro E K hE d
      induction d with
      | zero =>
        intro r grp hr hR
        have e : r = n := by omega
        subst e
        rw [ul_Mo_group_43]
        exact ⟨fun _ => hE grp hR, fun q => absurd (Int32.le_refl _) q⟩
      | succ d ih =>
        intro r grp hr hR
        have hlt : r < n := by omega
        rw [ul_Mo_group_43]
        refine ⟨fun q => absurd q (nI_ge hlt (by omega)), fun _ => ⟨t + 1, y_rnd hX' (it_24 hn r) (fun grp hR2 => ?_) t 0 grp (by omega) hR⟩⟩
        show wl_Mo_group_43 _ _ _ _ _ _ _ _ _ _ _ (nI r + 1)
        rw [nI_1]
        exact ih (r + 1) grp (by omega) hR2
    have start : ∀ (E : (Nat → Int32) → Int32 → Prop) (K : Int32 → (Nat → Int32) → Prop), (∀ grp, AR n grp (fun i => i) → E grp (nI j)) → ∀ (d i : Nat) (grp : Nat → Int32), i + d = n → AR i grp (fun i => i) → wl_Mo_group_20 (nI n) (nI t) minp mstk msrc mdrn E K (d + 1) grp (nI j) (nI i) := by
      intro E K hE d
      induction d with
      | zero =>
        intro i grp hi hR
        have e : i = n := by omega
        subst e
        rw [ul_Mo_group_20]
        exact ⟨fun _ => hE grp hR, fun q => absurd (Int32.le_refl _) q⟩
      | succ d ih =>
        intro i grp hi hR
        have hlt : i < n := by omega
        rw [ul_Mo_group_20]
        unfold wb_Mo_group_20
        rw [z_cl hlt (show n < 2 ^ 31 by omega), nI_1]
        exact ⟨fun q => absurd q (nI_ge hlt (by omega)), fun _ => ⟨z_in hlt hn (by omega), ih (i + 1) _ (by omega) (ar_step hR rfl)⟩⟩
    unfold wp_Sw_group wp_Ne_hasNode
    refine ⟨fun q => absurd q f1, fun _ => ⟨fun q => absurd q f2, fun _ => ⟨fun q => absurd q (by decide), fun _ => ?_⟩⟩⟩
    refine x_led hn aI aS h1' hj (fun l => ⟨fun q => absurd q (by decide), fun _ => ?_⟩) (fun l => ⟨fun _ => ?_, fun q => absurd rfl q⟩)
    · exact ⟨fun q => absurd q f1, fun _ => ⟨fun q => absurd q f2, fun _ => ⟨fun q => absurd q (by decide), fun _ => y_led hn bI bS h1' hj (fun _ => ⟨fun q => absurd q (by decide), fun _ => h _ _ _⟩) (fun l' => absurd l l')⟩⟩⟩
    · refine x_groups hX (fun lea hR => ?_)
      rw [f4, hR j hj]
      refine ⟨f3, fun q => absurd q f1, fun _ => ⟨fun q => absurd q f2, fun _ => ⟨fun q => absurd q (by decide), fun _ => y_led hn bI bS h1' hj (fun l' => absurd l' l) (fun _ => ⟨fun _ => ⟨n + 1, start _ _ (fun grp hG => ⟨n + 1, outer _ _ (fun grp hG2 => ?_) n 0 grp (by omega) hG⟩) n 0 grp (by omega) (fun i hi => absurd hi (by omega))⟩, fun q => absurd rfl q⟩)⟩⟩⟩
      show vp_in (nI j) 24 ∧ K2 _ _ (grp (nI j).toNatClampNeg) _
      rw [f4, hG2 j hj]
      exact ⟨f3, h _ _ _⟩
end GW
