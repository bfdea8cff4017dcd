/-! PURE: the levels as least solutions; the class's way to them. -/
def Ld (I Sk : Nat → Nat) (i : Nat) : Prop := I i ≠ 0 ∨ Sk i ≠ 0
theorem z_nz {b : Nat} (hb : b < 2 ^ 31) : nI b = 0 ↔ b = 0 := nI_eq (b := 0) hb (by omega)
theorem x_led {n i : Nat} (hn : n ≤ 24) {inp stk : Nat → Int32} {I Sk : Nat → Nat} (hI : AR n inp I) (hS : AR n stk Sk) (h1' : ∀ i, i < n → I i ≤ 1 ∧ Sk i ≤ 1) (hi : i < n) {K : Int32 → Unit → Prop} (h1 : Ld I Sk i → K 1 ()) (h0 : ¬ Ld I Sk i → K 0 ()) : wp_Ne_isLed inp stk (nI i) K := by
  unfold wp_Ne_isLed
  rw [z_cl hi (by omega), hI i hi, hS i hi]
  have f := z_in hi hn (by omega)
  obtain ⟨l1, l2⟩ := h1' i hi
  have a := z_nz (b := I i) (by omega)
  have b := z_nz (b := Sk i) (by omega)
  exact ⟨f, fun c => h1 (Or.inl (fun e => c (a.mpr e))), fun c => ⟨f, fun c2 => h0 (fun q => q.elim (fun q => q (a.mp c)) (fun q => q (b.mp c2))), fun c2 => h1 (Or.inr (fun e => c2 (b.mpr e)))⟩⟩
theorem y_led {n i : Nat} (hn : n ≤ 24) {inp stk : Nat → Int32} {I Sk : Nat → Nat} (hI : AR n inp I) (hS : AR n stk Sk) (h1' : ∀ i, i < n → I i ≤ 1 ∧ Sk i ≤ 1) (hi : i < n) {K : Int32 → Unit → Prop} (h1 : Ld I Sk i → K 1 ()) (h0 : ¬ Ld I Sk i → K 0 ()) : wp_Mo_led inp stk (nI i) K := by
  unfold wp_Mo_led
  rw [z_cl hi (by omega), hI i hi, hS i hi]
  have f := z_in hi hn (by omega)
  obtain ⟨l1, l2⟩ := h1' i hi
  have a := z_nz (b := I i) (by omega)
  have b := z_nz (b := Sk i) (by omega)
  exact ⟨f, fun c => h1 (Or.inl (fun e => c (a.mpr e))), fun c => ⟨f, fun c2 => h0 (fun q => q.elim (fun q => q (a.mp c)) (fun q => q (b.mp c2))), fun c2 => h1 (Or.inr (fun e => c2 (b.mpr e)))⟩⟩
/-- the numbers x fit: led nodes have their base, no other is less than what reaches it firmly enough -/
def Cl (n t : Nat) (L : Nat → Prop) (b fl : Nat → Nat) (act : Nat → Prop) (So Dr w x : Nat → Nat) : Prop :=
  (∀ i, i < n → L i → x i = b i) ∧ (∀ i, i < n → ¬ L i → fl i ≤ b i → b i ≤ x i) ∧
  ∀ k, k < t → act k → (¬ L (So k) → fl (So k) ≤ min (w k) (x (Dr k)) → min (w k) (x (Dr k)) ≤ x (So k)) ∧ (¬ L (Dr k) → fl (Dr k) ≤ min (w k) (x (So k)) → min (w k) (x (So k)) ≤ x (Dr k))
def Lf (n t : Nat) (L : Nat → Prop) (b fl : Nat → Nat) (act : Nat → Prop) (So Dr w x : Nat → Nat) : Prop := Cl n t L b fl act So Dr w x ∧ ∀ y, Cl n t L b fl act So Dr w y → ∀ i, i < n → x i ≤ y i
theorem Lf_one {n t : Nat} {L : Nat → Prop} {b fl : Nat → Nat} {act : Nat → Prop} {So Dr w x y : Nat → Nat} (hx : Lf n t L b fl act So Dr w x) (hy : Lf n t L b fl act So Dr w y) : ∀ i, i < n → x i = y i := fun i hi => Nat.le_antisymm (hx.2 y hy.1 i hi) (hy.2 x hx.1 i hi)
/-- on the way there -/
def Pa (n t : Nat) (L : Nat → Prop) (b fl : Nat → Nat) (act : Nat → Prop) (So Dr w x : Nat → Nat) : Prop :=
  (∀ i, i < n → L i → x i = b i) ∧ (∀ i, i < n → ¬ L i → fl i ≤ b i → b i ≤ x i) ∧ (∀ y, Cl n t L b fl act So Dr w y → ∀ i, i < n → x i ≤ y i) ∧ ∀ i, i < n → x i ≤ 7
theorem up_s (x : Nat → Nat) (a v : Nat) : up x a v a = v := by simp [up]
theorem up_n {x : Nat → Nat} {a v i : Nat} (h : i ≠ a) : up x a v i = x i := by simp [up, h]
theorem pa_raise {n t : Nat} {L : Nat → Prop} {b fl : Nat → Nat} {act : Nat → Prop} {So Dr w x : Nat → Nat} (hP : Pa n t L b fl act So Dr w x) {a c wk : Nat} (ha : a < n) (hc : c < n) (hcl : ∀ y, Cl n t L b fl act So Dr w y → fl a ≤ min wk (y c) → min wk (y c) ≤ y a) (hL : ¬ L a) (h1 : x a < min wk (x c)) (h2 : fl a ≤ min wk (x c)) : Pa n t L b fl act So Dr w (up x a (min wk (x c))) := by
  obtain ⟨p1, p2, p3, p4⟩ := hP
  refine ⟨fun i hi hl => ?_, fun i hi hl hb => ?_, fun y hy i hi => ?_, fun i hi => ?_⟩
  · have : i ≠ a := fun e => hL (e ▸ hl)
    rw [up_n this]
    exact p1 i hi hl
  · by_cases e : i = a
    · subst e
      rw [up_s]
      have := p2 i hi hl hb
      omega
    · rw [up_n e]
      exact p2 i hi hl hb
  · by_cases e : i = a
    · subst e
      rw [up_s]
      have q := p3 y hy c hc
      have q2 : min wk (x c) ≤ min wk (y c) := by omega
      exact Nat.le_trans q2 (hcl y hy (Nat.le_trans h2 q2))
    · rw [up_n e]
      exact p3 y hy i hi
  · by_cases e : i = a
    · subst e
      rw [up_s]
      have := p4 c hc
      omega
    · rw [up_n e]
      exact p4 i hi
def sm (x : Nat → Nat) : Nat → Nat
  | 0 => 0
  | n + 1 => sm x n + x n
theorem sm_cong {x y : Nat → Nat} : ∀ n, (∀ i, i < n → x i = y i) → sm x n = sm y n := by
  intro n
  induction n with
  | zero => intro _; rfl
  | succ n ih => intro h; simp only [sm, ih (fun i hi => h i (by omega)), h n (by omega)]
theorem sm_up {x : Nat → Nat} {a v : Nat} (h : x a < v) : ∀ n, a < n → sm x n + 1 ≤ sm (up x a v) n := by
  intro n
  induction n with
  | zero => intro h; omega
  | succ n ih =>
    intro hn
    simp only [sm]
    by_cases e : a = n
    · subst e
      rw [up_s, sm_cong (x := up x a v) (y := x) a (fun i hi => up_n (by omega))]
      omega
    · rw [up_n (fun q => e q.symm)]
      have := ih (by omega)
      omega
theorem sm_le {x : Nat → Nat} {B : Nat} : ∀ n, (∀ i, i < n → x i ≤ B) → sm x n ≤ B * n := by
  intro n
  induction n with
  | zero => intro _; simp [sm]
  | succ n ih =>
    intro h
    have h1 := ih (fun i hi => h i (by omega))
    have h2 := h n (by omega)
    simp only [sm, Nat.mul_succ]
    omega
/-- the network as the levels see it -/
def NX (n t : Nat) (I Sk So Dr Sg : Nat → Nat) (inp stk src drn stg : Nat → Int32) : Prop :=
  n ≤ 24 ∧ t ≤ 30 ∧ AR n inp I ∧ AR n stk Sk ∧ (∀ i, i < n → I i ≤ 1 ∧ Sk i ≤ 1) ∧ AR t src So ∧ AR t drn Dr ∧ AR t stg Sg ∧ ∀ k, k < t → So k < n ∧ Dr k < n ∧ 1 ≤ Sg k ∧ Sg k ≤ 3
def actS (C : Nat → Nat) (al k : Nat) : Prop := C k = 1 ∨ (al ≠ 0 ∧ C k = 2)
def w3 (Sg : Nat → Nat) (k : Nat) : Nat := Sg k + 3
theorem jmin {a b : Nat} (ha : a < 2 ^ 31) (hb : b < 2 ^ 31) : (if nI a < nI b then nI a else nI b) = nI (min b a) := by
  by_cases h : a < b
  · rw [if_pos (nI_lt h hb), Nat.min_eq_right (by omega)]
  · rw [if_neg (nI_nlt (by omega) ha), Nat.min_eq_left (by omega)]
theorem x_raise {n a off : Nat} (hn : n ≤ 24) {inp stk rw flo : Nat → Int32} {I Sk X Fl : Nat → Nat} (hI : AR n inp I) (hS : AR n stk Sk) (h1' : ∀ i, i < n → I i ≤ 1 ∧ Sk i ≤ 1) (hR : AR n rw X) (hF : AR n flo Fl) (ha : a < n) (ho : off ≤ 7) (hX : X a ≤ 7) (hFl : Fl a ≤ 7) {K : Int32 → (Nat → Int32) → Prop}
    (h1 : ¬ Ld I Sk a → X a < off → Fl a ≤ off → K 1 (upd rw a (nI off))) (h0 : (Ld I Sk a ∨ off ≤ X a ∨ off < Fl a) → K 0 rw) : wp_Le_raise rw flo inp stk (nI a) (nI off) K := by
  unfold wp_Le_raise
  have f := z_in ha hn (by omega)
  rw [z_cl ha (by omega), hR a ha, hF a ha]
  refine x_led hn hI hS h1' ha (fun l => ⟨fun _ => h0 (Or.inl l), fun q => absurd q (by decide)⟩) (fun l => ⟨fun q => absurd rfl q, fun _ => ⟨f, fun q => ?_, fun q => ⟨f, fun q2 => ⟨f, ?_⟩, fun q2 => ?_⟩⟩⟩)
  · exact h0 (Or.inr (Or.inl ((nI_leI (by omega) (by omega)).mp q)))
  · refine h1 l (Nat.lt_of_not_le (fun w => q (nI_le w (by omega)))) ((nI_leI (by omega) (by omega)).mp q2)
  · exact h0 (Or.inr (Or.inr (Nat.lt_of_not_le (fun w => q2 (nI_le w (by omega))))))
/-- one transistor: both ends -/
theorem x_two {n t k : Nat} {I Sk So Dr Sg C b Fl X : Nat → Nat} {al : Nat} {inp stk src drn stg rw flo : Nat → Int32} (hX : NX n t I Sk So Dr Sg inp stk src drn stg) (hF : AR n flo Fl) (hF7 : ∀ i, i < n → Fl i ≤ 7) (hk : k < t) (ha : actS C al k) (hR : AR n rw X) (hP : Pa n t (Ld I Sk) b Fl (actS C al) So Dr (w3 Sg) X)
    {tc v5 v6 : Int32} {con : Nat → Int32} {R : (Nat → Int32) → Int32 → Int32 → Int32 → Int32 → Prop} {E : (Nat → Int32) → Int32 → Int32 → Int32 → Prop} {K : (Nat → Int32) → Prop}
    (h : ∀ (u : Nat → Int32) (X2 : Nat → Nat) (z : Nat), AR n u X2 → Pa n t (Ld I Sk) b Fl (actS C al) So Dr (w3 Sg) X2 → ((z = 0 ∧ v5 = 0 ∧ X2 = X ∧ (¬ Ld I Sk (So k) → Fl (So k) ≤ min (w3 Sg k) (X (Dr k)) → min (w3 Sg k) (X (Dr k)) ≤ X (So k)) ∧ (¬ Ld I Sk (Dr k) → Fl (Dr k) ≤ min (w3 Sg k) (X (So k)) → min (w3 Sg k) (X (So k)) ≤ X (Dr k))) ∨ (z = 1 ∧ (v5 ≠ 0 ∨ sm X n + 1 ≤ sm X2 n) ∧ sm X n ≤ sm X2 n)) → R u (nI al) (nI z) v6 (nI (k + 1))) :
    wj_Le_spread_61 tc flo con src drn stg inp stk R E K rw (nI al) v5 v6 (nI k) := by
  obtain ⟨hn, ht, hI, hS, h1', hSo, hDr, hSg, hO⟩ := hX
  obtain ⟨o1, o2, o3, o4⟩ := hO k hk
  have f3 := z_in hk ht (by omega)
  have f4 := z_cl hk (show t < 2 ^ 31 by omega)
  have s3 := z_in o1 hn (by omega)
  have s4 := z_cl o1 (show n < 2 ^ 31 by omega)
  have d3 := z_in o2 hn (by omega)
  have d4 := z_cl o2 (show n < 2 ^ 31 by omega)
  have w6 : w3 Sg k ≤ 6 := by unfold w3; omega
  have x7 := hP.2.2.2
  have xs7 := x7 _ o1
  have xd7 := x7 _ o2
  unfold wj_Le_spread_61
  rw [f4, hSo k hk, hDr k hk, hSg k hk, s4, d4, hR _ o2, show nI (Sg k) + (3 : Int32) = nI (w3 Sg k) from nI_add _ 3, jmin (a := X (Dr k)) (b := w3 Sg k) (by omega) (by omega), nI_1]
  have c1 : ∀ y, Cl n t (Ld I Sk) b Fl (actS C al) So Dr (w3 Sg) y → ¬ Ld I Sk (So k) → Fl (So k) ≤ min (w3 Sg k) (y (Dr k)) → min (w3 Sg k) (y (Dr k)) ≤ y (So k) := fun y hy => (hy.2.2 k hk ha).1
  have c2 : ∀ y, Cl n t (Ld I Sk) b Fl (actS C al) So Dr (w3 Sg) y → ¬ Ld I Sk (Dr k) → Fl (Dr k) ≤ min (w3 Sg k) (y (So k)) → min (w3 Sg k) (y (So k)) ≤ y (Dr k) := fun y hy => (hy.2.2 k hk ha).2
  refine ⟨f3, f3, f3, d3, x_raise hn hI hS h1' hR hF o1 (by omega) (hP.2.2.2 _ o1) (hF7 _ o1) (fun l q1 q2 => ⟨s3, ?_⟩) (fun q => ⟨s3, ?_⟩)⟩
  · have hP2 := pa_raise hP o1 o2 (fun y hy => c1 y hy l) l q1 q2
    have hR2 : AR n (upd rw (So k) (nI (min (w3 Sg k) (X (Dr k))))) (up X (So k) (min (w3 Sg k) (X (Dr k)))) := ar_upd hR _ _
    have hs := sm_up q1 n o1
    show wp_Le_raise (upd rw (So k) (nI (min (w3 Sg k) (X (Dr k))))) _ _ _ _ (if upd rw (So k) (nI (min (w3 Sg k) (X (Dr k)))) (So k) < _ then _ else _) _
    generalize up X (So k) (min (w3 Sg k) (X (Dr k))) = X1 at hP2 hR2 hs
    generalize upd rw (So k) (nI (min (w3 Sg k) (X (Dr k)))) = rw1 at hR2
    have x17 := hP2.2.2.2 _ o1
    rw [hR2 _ o1, jmin (a := X1 (So k)) (b := w3 Sg k) (by omega) (by omega)]
    refine x_raise hn hI hS h1' hR2 hF o2 (by omega) (hP2.2.2.2 _ o2) (hF7 _ o2) (fun l' q1' q2' => ?_) (fun q => ?_)
    · have hP3 := pa_raise hP2 o2 o1 (fun y hy => c2 y hy l') l' q1' q2'
      have hR3 : AR n (upd rw1 (Dr k) (nI (min (w3 Sg k) (X1 (So k))))) (up X1 (Dr k) (min (w3 Sg k) (X1 (So k)))) := ar_upd hR2 _ _
      have hs3 := sm_up q1' n o2
      have go := h _ _ 1 hR3 hP3 (Or.inr ⟨rfl, Or.inr (by omega), by omega⟩)
      exact ⟨fun _ => go, fun _ => ⟨fun _ => go, fun w => absurd w (by decide)⟩⟩
    · have go := h _ _ 1 hR2 hP2 (Or.inr ⟨rfl, Or.inr hs, by omega⟩)
      exact ⟨fun _ => go, fun _ => ⟨fun _ => go, fun w => absurd w (by decide)⟩⟩
  · have q : Ld I Sk (So k) ∨ min (w3 Sg k) (X (Dr k)) ≤ X (So k) ∨ min (w3 Sg k) (X (Dr k)) < Fl (So k) := q
    rw [hR _ o1, jmin (a := X (So k)) (b := w3 Sg k) (by omega) (by omega)]
    refine x_raise hn hI hS h1' hR hF o2 (by omega) (hP.2.2.2 _ o2) (hF7 _ o2) (fun l' q1' q2' => ?_) (fun q' => ?_)
    · have hP3 := pa_raise hP o2 o1 (fun y hy => c2 y hy l') l' q1' q2'
      have hR3 : AR n (upd rw (Dr k) (nI (min (w3 Sg k) (X (So k))))) (up X (Dr k) (min (w3 Sg k) (X (So k)))) := ar_upd hR _ _
      have hs3 := sm_up q1' n o2
      have go := h _ _ 1 hR3 hP3 (Or.inr ⟨rfl, Or.inr hs3, by omega⟩)
      exact ⟨fun _ => go, fun _ => ⟨fun w => absurd rfl w, fun _ => ⟨fun w => absurd w (by decide), fun _ => go⟩⟩⟩
    · have q' : Ld I Sk (Dr k) ∨ min (w3 Sg k) (X (So k)) ≤ X (Dr k) ∨ min (w3 Sg k) (X (So k)) < Fl (Dr k) := q'
      refine ⟨fun w => h _ _ 1 hR hP (Or.inr ⟨rfl, Or.inl w, Nat.le_refl _⟩), fun w => ⟨fun w => absurd rfl w, fun _ => ⟨fun _ => ?_, fun w => absurd rfl w⟩⟩⟩
      refine h _ _ 0 hR hP (Or.inl ⟨rfl, w, rfl, fun l m => ?_, fun l m => ?_⟩)
      · rcases q with q | q | q
        · exact absurd q l
        · exact q
        · omega
      · rcases q' with q | q | q
        · exact absurd q l
        · exact q
        · omega
