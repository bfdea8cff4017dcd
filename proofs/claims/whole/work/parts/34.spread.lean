/-! PURE: the class's levels are the least solutions. -/
theorem x_sp25 {n t : Nat} {I Sk So Dr Sg C b Fl X0 : Nat → Nat} {al : Nat} {inp stk src drn stg flo con : Nat → Int32} (hX : NX n t I Sk So Dr Sg inp stk src drn stg) (hC : AR t con C) (hC2 : ∀ k, k < t → C k ≤ 2) (hF : AR n flo Fl) (hF7 : ∀ i, i < n → Fl i ≤ 7) (hal : al ≤ 1)
    {v6 : Int32} {E : (Nat → Int32) → Int32 → Int32 → Int32 → Prop} {K : (Nat → Int32) → Prop}
    (hE : ∀ (rw : Nat → Int32) (X : Nat → Nat) (f : Nat), AR n rw X → Pa n t (Ld I Sk) b Fl (actS C al) So Dr (w3 Sg) X → ((f = 0 ∧ Cl n t (Ld I Sk) b Fl (actS C al) So Dr (w3 Sg) X) ∨ (f = 1 ∧ sm X0 n + 1 ≤ sm X n)) → E rw (nI al) (nI f) v6) :
    ∀ (d k : Nat) (rw : Nat → Int32) (X : Nat → Nat) (f : Nat), k + d = t → AR n rw X → Pa n t (Ld I Sk) b Fl (actS C al) So Dr (w3 Sg) X →
      ((f = 0 ∧ X = X0 ∧ ∀ k', k' < k → actS C al k' → (¬ Ld I Sk (So k') → Fl (So k') ≤ min (w3 Sg k') (X (Dr k')) → min (w3 Sg k') (X (Dr k')) ≤ X (So k')) ∧ (¬ Ld I Sk (Dr k') → Fl (Dr k') ≤ min (w3 Sg k') (X (So k')) → min (w3 Sg k') (X (So k')) ≤ X (Dr k'))) ∨ (f = 1 ∧ sm X0 n + 1 ≤ sm X n)) →
      wl_Le_spread_25 (nI t) flo con src drn stg inp stk E K (d + 1) rw (nI al) (nI f) v6 (nI k) := by
  intro d
  induction d with
  | zero =>
    intro k rw X f hk hR hP hst
    have e : k = t := by omega
    subst e
    rw [ul_Le_spread_25]
    refine ⟨fun _ => hE rw X f hR hP ?_, fun q => absurd (Int32.le_refl _) q⟩
    rcases hst with ⟨h1, h2, h3⟩ | h
    · exact Or.inl ⟨h1, hP.1, hP.2.1, h3⟩
    · exact Or.inr h
  | succ d ih =>
    intro k rw X f hk hR hP hst
    have hlt : k < t := by omega
    have ht : t ≤ 30 := hX.2.1
    have f3 := z_in hlt ht (by omega)
    have f4 := z_cl hlt (show t < 2 ^ 31 by omega)
    have hc := hC2 k hlt
    rw [ul_Le_spread_25]
    unfold wb_Le_spread_25
    rw [f4, hC k hlt, nI_1]
    have skip : ¬ actS C al k → wl_Le_spread_25 (nI t) flo con src drn stg inp stk E K (d + 1) rw (nI al) (nI f) v6 (nI (k + 1)) := fun na => by
      refine ih (k + 1) rw X f (by omega) hR hP ?_
      rcases hst with ⟨h1, h2, h3⟩ | h
      · refine Or.inl ⟨h1, h2, fun k' hk' ha => ?_⟩
        by_cases e : k' = k
        · subst e; exact absurd ha na
        · exact h3 k' (by omega) ha
      · exact Or.inr h
    have J : actS C al k → wj_Le_spread_61 (nI t) flo con src drn stg inp stk (wl_Le_spread_25 (nI t) flo con src drn stg inp stk E K (d + 1)) E K rw (nI al) (nI f) v6 (nI k) := fun ha => by
      refine x_two hX hF hF7 hlt ha hR hP (fun u X2 z hR2 hP2 hz => ?_)
      rcases hz with ⟨z0, hv, hX2, c1, c2⟩ | ⟨z1, hz, hs⟩
      · subst z0
        subst hX2
        refine ih (k + 1) u X2 0 (by omega) hR2 hP2 ?_
        rcases hst with ⟨h1, h2, h3⟩ | ⟨h1, h2⟩
        · refine Or.inl ⟨rfl, h2, fun k' hk' ha' => ?_⟩
          by_cases e : k' = k
          · subst e; exact ⟨c1, c2⟩
          · exact h3 k' (by omega) ha'
        · subst h1; exact absurd hv (by decide)
      · subst z1
        refine ih (k + 1) u X2 1 (by omega) hR2 hP2 (Or.inr ⟨rfl, ?_⟩)
        rcases hst with ⟨h1, h2, h3⟩ | ⟨h1, h2⟩
        · subst h1
          subst h2
          rcases hz with hz | hz
          · exact absurd rfl hz
          · exact hz
        · omega
    refine ⟨fun q => absurd q (nI_ge hlt (by omega)), fun _ => ⟨f3, fun c1 => ?_, fun c1 => ⟨fun c2 => ?_, fun c2 => ⟨f3, fun c3 => ?_, fun c3 => ?_⟩⟩⟩⟩
    · exact J (Or.inl ((nI_eq (b := 1) (by omega) (by omega)).mp c1))
    · refine skip (fun q => ?_)
      rcases q with q | ⟨q, _⟩
      · exact c1 (by rw [q]; rfl)
      · exact q ((nI_eq (b := 0) (by omega) (by omega)).mp c2)
    · refine skip (fun q => ?_)
      rcases q with q | ⟨_, q⟩
      · exact c1 (by rw [q]; rfl)
      · exact c3 (by rw [q]; rfl)
    · exact J (Or.inr ⟨fun e => c2 (by rw [e]; rfl), (nI_eq (b := 2) (by omega) (by omega)).mp c3⟩)
theorem x_sp6 {n t : Nat} {I Sk So Dr Sg C b Fl : Nat → Nat} {al : Nat} {inp stk src drn stg flo con : Nat → Int32} (hX : NX n t I Sk So Dr Sg inp stk src drn stg) (hC : AR t con C) (hC2 : ∀ k, k < t → C k ≤ 2) (hF : AR n flo Fl) (hF7 : ∀ i, i < n → Fl i ≤ 7) (hal : al ≤ 1)
    {K : (Nat → Int32) → Prop}
    (hK : ∀ (rw : Nat → Int32) (X : Nat → Nat), AR n rw X → Lf n t (Ld I Sk) b Fl (actS C al) So Dr (w3 Sg) X → (∀ i, i < n → X i ≤ 7) → K rw) :
    ∀ (d r : Nat) (rw : Nat → Int32) (X : Nat → Nat) (f : Nat), r + d = 169 → AR n rw X → Pa n t (Ld I Sk) b Fl (actS C al) So Dr (w3 Sg) X →
      ((f = 0 ∧ Cl n t (Ld I Sk) b Fl (actS C al) So Dr (w3 Sg) X) ∨ (f = 1 ∧ r ≤ sm X n)) →
      wl_Le_spread_6 (nI t) flo con src drn stg inp stk K (d + 1) rw (nI al) (nI f) (nI r) := by
  intro d
  induction d with
  | zero =>
    intro r rw X f hr hR hP hst
    have hs := sm_le n hP.2.2.2
    have hn : n ≤ 24 := hX.1
    rw [ul_Le_spread_6]
    rcases hst with ⟨h1, h2⟩ | ⟨h1, h2⟩
    · subst h1
      exact ⟨fun _ => hK rw X hR ⟨h2, hP.2.2.1⟩ hP.2.2.2, fun q => absurd rfl q⟩
    · omega
  | succ d ih =>
    intro r rw X f hr hR hP hst
    rw [ul_Le_spread_6]
    unfold wb_Le_spread_6
    rcases hst with ⟨h1, h2⟩ | ⟨h1, h2⟩
    · subst h1
      exact ⟨fun _ => hK rw X hR ⟨h2, hP.2.2.1⟩ hP.2.2.2, fun q => absurd rfl q⟩
    · subst h1
      refine ⟨fun q => absurd q (by decide), fun _ => ⟨fun q => absurd q (nI_ge (b := 169) (by omega) (by omega)), fun _ => ⟨t + 1, ?_⟩⟩⟩
      refine x_sp25 (X0 := X) (b := b) hX hC hC2 hF hF7 hal (fun rw' X' f' hR' hP' hst' => ?_) t 0 rw X 0 (by omega) hR hP (Or.inl ⟨rfl, rfl, fun k' hk' => absurd hk' (by omega)⟩)
      show wl_Le_spread_6 (nI t) flo con src drn stg inp stk K (d + 1) rw' (nI al) (nI f') (nI r + 1)
      rw [nI_1]
      refine ih (r + 1) rw' X' f' (by omega) hR' hP' ?_
      rcases hst' with h | ⟨e1, e2⟩
      · exact Or.inl h
      · exact Or.inr ⟨e1, by omega⟩
theorem x_spread {n t : Nat} {I Sk So Dr Sg C b Fl X : Nat → Nat} {al : Nat} {inp stk src drn stg flo con rw : Nat → Int32} (hX : NX n t I Sk So Dr Sg inp stk src drn stg) (hC : AR t con C) (hC2 : ∀ k, k < t → C k ≤ 2) (hF : AR n flo Fl) (hF7 : ∀ i, i < n → Fl i ≤ 7) (hal : al ≤ 1) (hR : AR n rw X) (hP : Pa n t (Ld I Sk) b Fl (actS C al) So Dr (w3 Sg) X)
    {K : (Nat → Int32) → Prop}
    (hK : ∀ (rw : Nat → Int32) (X : Nat → Nat), AR n rw X → Lf n t (Ld I Sk) b Fl (actS C al) So Dr (w3 Sg) X → (∀ i, i < n → X i ≤ 7) → K rw) :
    wp_Le_spread (nI t) rw flo con src drn stg inp stk (nI al) K :=
  ⟨170, x_sp6 hX hC hC2 hF hF7 hal hK 169 0 rw X 1 (by omega) hR hP (Or.inr ⟨rfl, Nat.zero_le _⟩)⟩
def ownF (I Sk Sz : Nat → Nat) (i : Nat) : Nat := if I i ≠ 0 ∨ Sk i ≠ 0 then 7 else Sz i
def sideB (I Sk Sz St : Nat → Nat) (ag i : Nat) : Nat := if St i ≠ ag then ownF I Sk Sz i else 0
theorem own_led {I Sk Sz : Nat → Nat} {i : Nat} (h : Ld I Sk i) : ownF I Sk Sz i = 7 := by unfold ownF; exact if_pos h
theorem own_not {I Sk Sz : Nat → Nat} {i : Nat} (h : ¬ Ld I Sk i) : ownF I Sk Sz i = Sz i := by unfold ownF; exact if_neg h
theorem own_7 {I Sk Sz : Nat → Nat} {i : Nat} (h : Sz i ≤ 3) : ownF I Sk Sz i ≤ 7 := by unfold ownF; split <;> omega
theorem ar_step {i : Nat} {f : Nat → Int32} {X : Nat → Nat} (h : AR i f X) {v : Nat} (hv : v = X i) : AR (i + 1) (upd f i (nI v)) X := fun j hj => by
  by_cases e : j = i
  · subst e; simp [upd, hv]
  · simp [upd, e, h j (by omega)]
theorem x_startFirm {n : Nat} (hn : n ≤ 24) {inp stk siz : Nat → Int32} {I Sk Sz : Nat → Nat} (hI : AR n inp I) (hS : AR n stk Sk) (h1' : ∀ i, i < n → I i ≤ 1 ∧ Sk i ≤ 1) (hZ : AR n siz Sz) {K : (Nat → Int32) → Prop} (hK : ∀ fir, AR n fir (ownF I Sk Sz) → K fir) {fir : Nat → Int32} : wp_Le_startFirm (nI n) inp stk siz fir K := by
  refine ⟨n + 1, ?_⟩
  suffices H : ∀ (d i : Nat) (fir : Nat → Int32), i + d = n → AR i fir (ownF I Sk Sz) → wl_Le_startFirm_2 (nI n) inp stk siz K (d + 1) fir (nI i) from H n 0 fir (by omega) (fun i hi => absurd hi (by omega))
  intro d
  induction d with
  | zero =>
    intro i fir hi ha
    have e : i = n := by omega
    subst e
    rw [ul_Le_startFirm_2]
    exact ⟨fun _ => hK fir ha, fun q => absurd (Int32.le_refl _) q⟩
  | succ d ih =>
    intro i fir hi ha
    have hlt : i < n := by omega
    have f := z_in hlt hn (by omega)
    rw [ul_Le_startFirm_2]
    unfold wb_Le_startFirm_2
    rw [z_cl hlt (by omega), hZ i hlt, nI_1]
    refine ⟨fun q => absurd q (nI_ge hlt (by omega)), fun _ => x_led hn hI hS h1' hlt (fun l => ⟨fun q => absurd q (by decide), fun _ => ⟨f, ?_⟩⟩) (fun l => ⟨fun _ => ⟨f, f, ?_⟩, fun q => absurd rfl q⟩)⟩
    · exact ih (i + 1) _ (by omega) (ar_step ha (v := 7) (own_led l).symm)
    · exact ih (i + 1) _ (by omega) (ar_step ha (own_not l).symm)
def sideX (I Sk Sz St Fm : Nat → Nat) (ag i : Nat) : Nat := if St i ≠ ag ∧ Fm i ≤ ownF I Sk Sz i then ownF I Sk Sz i else 0
theorem x_startSide {n ag : Nat} (hn : n ≤ 24) (hag : ag ≤ 1) {inp stk siz sta fir : Nat → Int32} {I Sk Sz St Fm : Nat → Nat} (hI : AR n inp I) (hS : AR n stk Sk) (h1' : ∀ i, i < n → I i ≤ 1 ∧ Sk i ≤ 1) (hZ : AR n siz Sz) (hZ3 : ∀ i, i < n → Sz i ≤ 3) (hT : AR n sta St) (hT2 : ∀ i, i < n → St i ≤ 2) (hF : AR n fir Fm) (hF7 : ∀ i, i < n → Fm i ≤ 7) {K : (Nat → Int32) → Prop} (hK : ∀ sd, AR n sd (sideX I Sk Sz St Fm ag) → K sd) {sd : Nat → Int32} : wp_Le_startSide (nI n) sd inp stk siz sta fir (nI ag) K := by
  refine ⟨n + 1, ?_⟩
  suffices H : ∀ (d i : Nat) (sd : Nat → Int32), i + d = n → AR i sd (sideX I Sk Sz St Fm ag) → wl_Le_startSide_3 (nI n) inp stk siz sta fir K (d + 1) sd (nI ag) (nI i) from H n 0 sd (by omega) (fun i hi => absurd hi (by omega))
  intro d
  induction d with
  | zero =>
    intro i sd hi ha
    have e : i = n := by omega
    subst e
    rw [ul_Le_startSide_3]
    exact ⟨fun _ => hK sd ha, fun q => absurd (Int32.le_refl _) q⟩
  | succ d ih =>
    intro i sd hi ha
    have hlt : i < n := by omega
    have f := z_in hlt hn (by omega)
    have t2 := hT2 i hlt
    have m7 := hF7 i hlt
    have J : ∀ ow : Nat, ow = ownF I Sk Sz i → wj_Le_startSide_33 (nI n) inp stk siz sta fir (wl_Le_startSide_3 (nI n) inp stk siz sta fir K (d + 1)) K sd (nI ag) (nI i) (nI ow) := fun ow how => by
      have o7 : ownF I Sk Sz i ≤ 7 := own_7 (hZ3 i hlt)
      unfold wj_Le_startSide_33
      rw [z_cl hlt (by omega), hT i hlt, hF i hlt, nI_1]
      have z0 : sideX I Sk Sz St Fm ag i = 0 → wl_Le_startSide_3 (nI n) inp stk siz sta fir K (d + 1) (upd sd i 0) (nI ag) (nI (i + 1)) := fun e => ih (i + 1) _ (by omega) (ar_step ha (v := 0) e.symm)
      refine ⟨f, fun q => ⟨fun _ => ⟨f, z0 ?_⟩, fun q => absurd rfl q⟩, fun q => ⟨f, fun q2 => ⟨fun _ => ⟨f, z0 ?_⟩, fun q => absurd rfl q⟩, fun q2 => ⟨fun q => absurd q (by decide), fun _ => ⟨f, ih (i + 1) _ (by omega) (ar_step ha ?_)⟩⟩⟩⟩
      · have e := (nI_eq (by omega) (by omega)).mp q
        unfold sideX
        rw [if_neg (fun w => w.1 e)]
      · have e := (nI_ltI (by omega) (by omega)).mp q2
        unfold sideX
        rw [if_neg (fun w => by omega)]
      · have e : ¬ St i = ag := fun e => q (by rw [e])
        have e2 : ¬ ow < Fm i := fun w => q2 (nI_lt w (by omega))
        unfold sideX
        rw [if_pos ⟨e, by omega⟩]
        exact how
    rw [ul_Le_startSide_3]
    unfold wb_Le_startSide_3
    rw [z_cl hlt (by omega), hZ i hlt]
    exact ⟨fun q => absurd q (nI_ge hlt (by omega)), fun _ => x_led hn hI hS h1' hlt (fun l => ⟨fun q => absurd q (by decide), fun _ => J 7 (own_led l).symm⟩) (fun l => ⟨fun _ => ⟨f, J _ (own_not l).symm⟩, fun q => absurd rfl q⟩)⟩
/-- what the class and the reference both come to -/
def LFM (n t : Nat) (I Sk Sz So Dr Sg C Fm : Nat → Nat) : Prop := Lf n t (Ld I Sk) (ownF I Sk Sz) (fun _ => 0) (actS C 0) So Dr (w3 Sg) Fm ∧ ∀ i, i < n → Fm i ≤ 7
def LSD (n t ag : Nat) (I Sk Sz St So Dr Sg C Fm X : Nat → Nat) : Prop := Lf n t (Ld I Sk) (sideB I Sk Sz St ag) Fm (actS C 1) So Dr (w3 Sg) X ∧ ∀ i, i < n → X i ≤ 7
theorem pa_side {n t ag : Nat} {I Sk Sz St So Dr Sg C Fm : Nat → Nat} (hZ3 : ∀ i, i < n → Sz i ≤ 3) (hF : LFM n t I Sk Sz So Dr Sg C Fm) : Pa n t (Ld I Sk) (sideB I Sk Sz St ag) Fm (actS C 1) So Dr (w3 Sg) (sideX I Sk Sz St Fm ag) := by
  refine ⟨fun i hi l => ?_, fun i hi l h => ?_, fun y hy i hi => ?_, fun i hi => ?_⟩
  · have e1 := hF.1.1.1 i hi l
    rw [own_led l] at e1
    unfold sideX sideB
    rw [own_led l, e1]
    simp
  · unfold sideX sideB at *
    by_cases e : St i = ag
    · simp [e]
    · simp only [e, not_false_eq_true, ne_eq, if_true, true_and] at h ⊢
      rw [if_pos h]
      exact Nat.le_refl _
  · unfold sideX
    by_cases e : St i ≠ ag ∧ Fm i ≤ ownF I Sk Sz i
    · rw [if_pos e]
      have eb : sideB I Sk Sz St ag i = ownF I Sk Sz i := by unfold sideB; rw [if_pos e.1]
      by_cases l : Ld I Sk i
      · rw [hy.1 i hi l, eb]
        exact Nat.le_refl _
      · rw [← eb]
        exact hy.2.1 i hi l (by rw [eb]; exact e.2)
    · rw [if_neg e]
      exact Nat.zero_le _
  · unfold sideX
    have := own_7 (I := I) (Sk := Sk) (hZ3 i hi)
    split <;> omega
theorem pa_firm {n t : Nat} {I Sk Sz So Dr Sg C : Nat → Nat} (hZ3 : ∀ i, i < n → Sz i ≤ 3) : Pa n t (Ld I Sk) (ownF I Sk Sz) (fun _ => 0) (actS C 0) So Dr (w3 Sg) (ownF I Sk Sz) := by
  refine ⟨fun i hi l => rfl, fun i hi l h => Nat.le_refl _, fun y hy i hi => ?_, fun i hi => own_7 (hZ3 i hi)⟩
  by_cases l : Ld I Sk i
  · rw [hy.1 i hi l]
    exact Nat.le_refl _
  · exact hy.2.1 i hi l (Nat.zero_le _)
def NRg (n t : Nat) (I Sk Sz St Kd G So Dr Sg J : Nat → Nat) : Prop := n ≤ 24 ∧ t ≤ 30 ∧ (∀ i, i < n → I i ≤ 1 ∧ Sk i ≤ 1 ∧ 1 ≤ Sz i ∧ Sz i ≤ 3 ∧ St i ≤ 2) ∧ ∀ k, k < t → (Kd k = 110 ∨ Kd k = 112 ∨ Kd k = 100) ∧ G k < n ∧ So k < n ∧ Dr k < n ∧ 1 ≤ Sg k ∧ Sg k ≤ 3 ∧ J k ≤ 3
def NAr (n t : Nat) (I Sk Sz St Kd G So Dr Sg J : Nat → Nat) (inp stk siz sta kin gat src drn stg jam : Nat → Int32) : Prop := AR n inp I ∧ AR n stk Sk ∧ AR n siz Sz ∧ AR n sta St ∧ AR t kin Kd ∧ AR t gat G ∧ AR t src So ∧ AR t drn Dr ∧ AR t stg Sg ∧ AR t jam J
def CN (Kd G St J : Nat → Nat) (k : Nat) : Nat := cndS (J k) (Kd k) (St (G k))
theorem n_tok {n t : Nat} {I Sk Sz St Kd G So Dr Sg J : Nat → Nat} (h : NRg n t I Sk Sz St Kd G So Dr Sg J) : TOK n t J Kd G St := ⟨fun k hk => ⟨(h.2.2.2 k hk).2.2.2.2.2.2, (h.2.2.2 k hk).1, (h.2.2.2 k hk).2.1⟩, fun i hi => (h.2.2.1 i hi).2.2.2.2⟩
theorem n_nx {n t : Nat} {I Sk Sz St Kd G So Dr Sg J : Nat → Nat} {inp stk siz sta kin gat src drn stg jam : Nat → Int32} (h : NRg n t I Sk Sz St Kd G So Dr Sg J) (ha : NAr n t I Sk Sz St Kd G So Dr Sg J inp stk siz sta kin gat src drn stg jam) : NX n t I Sk So Dr Sg inp stk src drn stg :=
  ⟨h.1, h.2.1, ha.1, ha.2.1, fun i hi => ⟨(h.2.2.1 i hi).1, (h.2.2.1 i hi).2.1⟩, ha.2.2.2.2.2.2.1, ha.2.2.2.2.2.2.2.1, ha.2.2.2.2.2.2.2.2.1, fun k hk => ⟨(h.2.2.2 k hk).2.2.1, (h.2.2.2 k hk).2.2.2.1, (h.2.2.2 k hk).2.2.2.2.1, (h.2.2.2 k hk).2.2.2.2.2.1⟩⟩
theorem n_cn {n t : Nat} {I Sk Sz St Kd G So Dr Sg J : Nat → Nat} (h : NRg n t I Sk Sz St Kd G So Dr Sg J) : ∀ k, k < t → CN Kd G St J k ≤ 2 := fun k hk => cndS_le (h.2.2.2 k hk).2.2.2.2.2.2 (h.2.2.1 _ (h.2.2.2 k hk).2.1).2.2.2.2
theorem x_workOut {n t : Nat} {I Sk Sz St Kd G So Dr Sg J : Nat → Nat} {inp stk siz sta kin gat src drn stg jam nof : Nat → Int32} (h : NRg n t I Sk Sz St Kd G So Dr Sg J) (ha : NAr n t I Sk Sz St Kd G So Dr Sg J inp stk siz sta kin gat src drn stg jam) (hnof : AR n nof (fun _ => 0)) {con fir hig lw : Nat → Int32} {K : (Nat → Int32) × (Nat → Int32) × (Nat → Int32) × (Nat → Int32) → Prop}
    (hK : ∀ (con fir hig lw : Nat → Int32) (Fm Hg Lo : Nat → Nat), AR n fir Fm → AR n hig Hg → AR n lw Lo → LFM n t I Sk Sz So Dr Sg (CN Kd G St J) Fm → LSD n t 0 I Sk Sz St So Dr Sg (CN Kd G St J) Fm Hg → LSD n t 1 I Sk Sz St So Dr Sg (CN Kd G St J) Fm Lo → K (con, fir, hig, lw)) :
    wp_Le_workOut (nI n) (nI t) jam kin gat sta con inp stk siz fir nof src drn stg hig lw K := by
  have hX := n_nx h ha
  have hO := n_tok h
  have hC2 := n_cn h
  have hn := h.1
  have ht := h.2.1
  have hZ3 : ∀ i, i < n → Sz i ≤ 3 := fun i hi => (h.2.2.1 i hi).2.2.2.1
  have hT2 : ∀ i, i < n → St i ≤ 2 := fun i hi => (h.2.2.1 i hi).2.2.2.2
  have h1' : ∀ i, i < n → I i ≤ 1 ∧ Sk i ≤ 1 := fun i hi => ⟨(h.2.2.1 i hi).1, (h.2.2.1 i hi).2.1⟩
  obtain ⟨aI, aS, aZ, aT, aK, aG, aSo, aDr, aSg, aJ⟩ := ha
  refine ⟨t + 1, ?_⟩
  suffices H : ∀ (E : (Nat → Int32) → (Nat → Int32) → (Nat → Int32) → (Nat → Int32) → Prop), (∀ con, AR t con (CN Kd G St J) → E con fir hig lw) → ∀ (d k : Nat) (con : Nat → Int32), k + d = t → AR k con (CN Kd G St J) → wl_Le_workOut_2 (nI n) (nI t) jam kin gat sta inp stk siz nof src drn stg E K (d + 1) con fir hig lw (nI k) from by
    refine H _ (fun con hC => ?_) t 0 con (by omega) (fun i hi => absurd hi (by omega))
    refine x_startFirm hn aI aS h1' aZ (fun fir0 hf0 => ?_)
    refine x_spread (al := 0) hX hC hC2 hnof (fun _ _ => Nat.zero_le _) (by omega) hf0 (pa_firm hZ3) (fun fir1 Fm hf hLf hF7 => ?_)
    refine x_startSide (ag := 0) hn (by omega) aI aS h1' aZ hZ3 aT hT2 hf hF7 (fun hi0 hh0 => ?_)
    refine x_spread (al := 1) hX hC hC2 hf hF7 (by omega) hh0 (pa_side hZ3 ⟨hLf, hF7⟩) (fun hi1 Hg hh hLh hH7 => ?_)
    refine x_startSide (ag := 1) hn (by omega) aI aS h1' aZ hZ3 aT hT2 hf hF7 (fun lo0 hl0 => ?_)
    refine x_spread (al := 1) hX hC hC2 hf hF7 (by omega) hl0 (pa_side hZ3 ⟨hLf, hF7⟩) (fun lo1 Lo hl hLl hL7 => ?_)
    exact hK _ _ _ _ Fm Hg Lo hf hh hl ⟨hLf, hF7⟩ ⟨hLh, hH7⟩ ⟨hLl, hL7⟩
  intro E hE d
  induction d with
  | zero =>
    intro k con hk hC
    have e : k = t := by omega
    subst e
    rw [ul_Le_workOut_2]
    exact ⟨fun _ => hE con hC, fun q => absurd (Int32.le_refl _) q⟩
  | succ d ih =>
    intro k con hk hC
    have hlt : k < t := by omega
    rw [ul_Le_workOut_2]
    unfold wb_Le_workOut_2
    rw [z_cl hlt (show t < 2 ^ 31 by omega), nI_1]
    exact ⟨fun q => absurd q (nI_ge hlt (by omega)), fun _ => x_cond hn ht aJ aK aG aT hO hlt ⟨z_in hlt ht (by omega), ih (k + 1) _ (by omega) (ar_step hC rfl)⟩⟩
