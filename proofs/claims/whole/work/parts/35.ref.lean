/-! PURE: the reference's levels are the least solutions too. -/
def SU (t : Nat) (b fl : Nat → Nat) (act : Nat → Prop) (So Dr w x : Nat → Nat) (i : Nat) : Prop :=
  x i = 0 ∨ (fl i ≤ b i ∧ x i ≤ b i) ∨ ∃ k, k < t ∧ act k ∧ ((So k = i ∧ fl i ≤ min (w k) (x (Dr k)) ∧ x i ≤ min (w k) (x (Dr k))) ∨ (Dr k = i ∧ fl i ≤ min (w k) (x (So k)) ∧ x i ≤ min (w k) (x (So k))))
def Pb (n t : Nat) (L : Nat → Prop) (b fl : Nat → Nat) (act : Nat → Prop) (So Dr w x : Nat → Nat) : Prop :=
  (∀ i, i < n → L i → x i = b i) ∧ (∀ y, Cl n t L b fl act So Dr w y → ∀ i, i < n → x i ≤ y i) ∧ (∀ i, i < n → x i ≤ 7) ∧ ∀ i, i < n → ¬ L i → SU t b fl act So Dr w x i
def MX (t : Nat) (act : Nat → Prop) (So Dr w x : Nat → Nat) (i least h : Nat) : Prop :=
  least ≤ h ∧ (∀ k, k < t → act k → (So k = i → min (w k) (x (Dr k)) ≤ h) ∧ (Dr k = i → min (w k) (x (So k)) ≤ h)) ∧
  (h = least ∨ ∃ k, k < t ∧ act k ∧ ((So k = i ∧ h = min (w k) (x (Dr k))) ∨ (Dr k = i ∧ h = min (w k) (x (So k)))))
def nvF (f h : Nat) : Nat := if f ≤ h then h else 0
theorem up_ge {x : Nat → Nat} {a v : Nat} (h : x a ≤ v) (i : Nat) : x i ≤ up x a v i := by
  by_cases e : i = a
  · subst e; rw [up_s]; exact h
  · rw [up_n e]; exact Nat.le_refl _
theorem pb_step {n t : Nat} {L : Nat → Prop} {b fl : Nat → Nat} {act : Nat → Prop} {So Dr w x : Nat → Nat} (hP : Pb n t L b fl act So Dr w x) {i h : Nat} (hi : i < n) (hL : ¬ L i) (hb : b i ≤ 7) (hO : ∀ k, k < t → So k < n ∧ Dr k < n) (hM : MX t act So Dr w x i (b i) h) : x i ≤ nvF (fl i) h ∧ nvF (fl i) h ≤ 7 ∧ Pb n t L b fl act So Dr w (up x i (nvF (fl i) h)) := by
  obtain ⟨p1, p2, p3, p4⟩ := hP
  obtain ⟨m1, m2, m3⟩ := hM
  have g1 : x i ≤ nvF (fl i) h := by
    unfold nvF
    rcases p4 i hi hL with e | ⟨e1, e2⟩ | ⟨k, hk, ak, (⟨e0, e1, e2⟩ | ⟨e0, e1, e2⟩)⟩
    · rw [e]; exact Nat.zero_le _
    · rw [if_pos (by omega)]; omega
    · have := (m2 k hk ak).1 e0
      rw [if_pos (by omega)]; omega
    · have := (m2 k hk ak).2 e0
      rw [if_pos (by omega)]; omega
  have g2 : nvF (fl i) h ≤ 7 := by
    have h7 : h ≤ 7 := by
      rcases m3 with e | ⟨k, hk, ak, (⟨e0, e1⟩ | ⟨e0, e1⟩)⟩
      · omega
      · have := p3 _ (hO k hk).2; omega
      · have := p3 _ (hO k hk).1; omega
    unfold nvF; split <;> omega
  refine ⟨g1, g2, fun j hj lj => ?_, fun y hy j hj => ?_, fun j hj => ?_, fun j hj lj => ?_⟩
  · have : j ≠ i := fun e => hL (e ▸ lj)
    rw [up_n this]; exact p1 j hj lj
  · by_cases e : j = i
    · subst e
      rw [up_s]
      unfold nvF
      split
      · next hf =>
        rcases m3 with e | ⟨k, hk, ak, (⟨e0, e1⟩ | ⟨e0, e1⟩)⟩
        · rw [e]; exact hy.2.1 j hj hL (by omega)
        · have q := p2 y hy _ (hO k hk).2
          have := (hy.2.2 k hk ak).1 (by rw [e0]; exact hL) (by rw [e0]; omega)
          rw [e0] at this
          omega
        · have q := p2 y hy _ (hO k hk).1
          have := (hy.2.2 k hk ak).2 (by rw [e0]; exact hL) (by rw [e0]; omega)
          rw [e0] at this
          omega
      · exact Nat.zero_le _
    · rw [up_n e]; exact p2 y hy j hj
  · by_cases e : j = i
    · subst e; rw [up_s]; exact g2
    · rw [up_n e]; exact p3 j hj
  · by_cases e : j = i
    · subst e
      unfold SU
      rw [up_s]
      by_cases hf : fl j ≤ h
      · have en : nvF (fl j) h = h := by unfold nvF; rw [if_pos hf]
        rw [en]
        rcases m3 with e | ⟨k, hk, ak, (⟨e0, e1⟩ | ⟨e0, e1⟩)⟩
        · exact Or.inr (Or.inl ⟨by omega, by omega⟩)
        · have := up_ge (v := h) (by omega : x j ≤ h) (Dr k)
          exact Or.inr (Or.inr ⟨k, hk, ak, Or.inl ⟨e0, by omega, by omega⟩⟩)
        · have := up_ge (v := h) (by omega : x j ≤ h) (So k)
          exact Or.inr (Or.inr ⟨k, hk, ak, Or.inr ⟨e0, by omega, by omega⟩⟩)
      · exact Or.inl (by unfold nvF; rw [if_neg hf])
    · unfold SU
      rw [up_n e]
      rcases p4 j hj lj with e | e | ⟨k, hk, ak, (⟨e0, e1, e2⟩ | ⟨e0, e1, e2⟩)⟩
      · exact Or.inl e
      · exact Or.inr (Or.inl e)
      · have := up_ge g1 (Dr k)
        exact Or.inr (Or.inr ⟨k, hk, ak, Or.inl ⟨e0, by omega, by omega⟩⟩)
      · have := up_ge g1 (So k)
        exact Or.inr (Or.inr ⟨k, hk, ak, Or.inr ⟨e0, by omega, by omega⟩⟩)
theorem pb_fix {n t : Nat} {L : Nat → Prop} {b fl : Nat → Nat} {act : Nat → Prop} {So Dr w x : Nat → Nat} (hP : Pb n t L b fl act So Dr w x) (hO : ∀ k, k < t → So k < n ∧ Dr k < n) (hf : ∀ i, i < n → ¬ L i → ∃ h, MX t act So Dr w x i (b i) h ∧ x i = nvF (fl i) h) : Cl n t L b fl act So Dr w x := by
  refine ⟨hP.1, fun i hi hl hb => ?_, fun k hk ak => ⟨fun hl hb => ?_, fun hl hb => ?_⟩⟩
  · obtain ⟨h, ⟨m1, m2, m3⟩, e⟩ := hf i hi hl
    rw [e]; unfold nvF; rw [if_pos (by omega)]; exact m1
  · obtain ⟨h, ⟨m1, m2, m3⟩, e⟩ := hf _ (hO k hk).1 hl
    have := (m2 k hk ak).1 rfl
    rw [e]; unfold nvF; rw [if_pos (by omega)]; exact this
  · obtain ⟨h, ⟨m1, m2, m3⟩, e⟩ := hf _ (hO k hk).2 hl
    have := (m2 k hk ak).2 rfl
    rw [e]; unfold nvF; rw [if_pos (by omega)]; exact this
theorem y_lesser {a b : Nat} (ha : a < 2 ^ 31) (hb : b < 2 ^ 31) {K : Int32 → Unit → Prop} (h : K (nI (min a b)) ()) : wp_Mo_lesser (nI a) (nI b) K := by
  unfold wp_Mo_lesser
  refine ⟨fun q => ?_, fun q => ?_⟩
  · have := (nI_leI hb ha).mp q
    rw [Nat.min_eq_right this] at h; exact h
  · have : ¬ b ≤ a := fun w => q (nI_le w ha)
    rw [Nat.min_eq_left (by omega)] at h; exact h
def rch (So Dr w x : Nat → Nat) (i k : Nat) : Nat := max (if So k = i then min (w k) (x (Dr k)) else 0) (if Dr k = i then min (w k) (x (So k)) else 0)
theorem y_reaches {n t i k : Nat} {I Sk So Dr Sg X : Nat → Nat} {inp stk sou dra sth lvs : Nat → Int32} (hX : NX n t I Sk So Dr Sg inp stk sou dra sth) (hR : AR n lvs X) (h7 : ∀ i, i < n → X i ≤ 7) (hi : i < n) (hk : k < t) {K : Int32 → Unit → Prop} (h : K (nI (rch So Dr (w3 Sg) X i k)) ()) : wp_Mo_reaches lvs sou sth dra (nI k) (nI i) K := by
  obtain ⟨hn, ht, hI, hS, h1', hSo, hDr, hSg, hO⟩ := hX
  obtain ⟨o1, o2, o3, o4⟩ := hO k hk
  have f3 := z_in hk ht (by omega)
  have f4 := z_cl hk (show t < 2 ^ 31 by omega)
  have s3 := z_in o1 hn (by omega)
  have s4 := z_cl o1 (show n < 2 ^ 31 by omega)
  have d3 := z_in o2 hn (by omega)
  have d4 := z_cl o2 (show n < 2 ^ 31 by omega)
  have w6 : w3 Sg k ≤ 6 := by unfold w3; omega
  have xs := h7 _ o1
  have xd := h7 _ o2
  have eqs : ∀ a, a < n → (nI a = nI i ↔ a = i) := fun a ha => nI_eq (by omega) (by omega)
  have J : ∀ a : Nat, a = (if So k = i then min (w3 Sg k) (X (Dr k)) else 0) → wj_Mo_reaches_33 lvs sou sth dra K (nI k) (nI i) (nI a) := fun a ea => by
    have a7 : a ≤ 7 := by rw [ea]; split <;> omega
    unfold wj_Mo_reaches_33
    rw [f4, hSo k hk, hDr k hk, hSg k hk, s4, hR _ o1, show nI (Sg k) + (3 : Int32) = nI (w3 Sg k) from nI_add _ 3]
    refine ⟨f3, fun q => ?_, fun q => ⟨f3, f3, s3, y_lesser (by omega) (by omega) ?_⟩⟩
    · have q : ¬ Dr k = i := fun e => q ((eqs _ o2).mpr e)
      rw [rch, if_neg q, ← ea, Nat.max_eq_left (Nat.zero_le _)] at h
      refine ⟨fun q2 => ?_, fun _ => h⟩
      have : a = 0 := by
        have := (nI_leI (b := 0) (by omega) (by omega)).mp q2
        omega
      rw [this] at h; exact h
    · have q := (eqs _ o2).mp q
      rw [rch, if_pos q, ← ea] at h
      refine ⟨fun q2 => ?_, fun q2 => ?_⟩
      · have := (nI_leI (by omega) (by omega)).mp q2
        rw [Nat.max_eq_right this] at h; exact h
      · have : ¬ a ≤ min (w3 Sg k) (X (So k)) := fun w => q2 (nI_le w (by omega))
        rw [Nat.max_eq_left (by omega)] at h; exact h
  unfold wp_Mo_reaches
  rw [f4, hSo k hk, hDr k hk, hSg k hk, d4, hR _ o2, show nI (Sg k) + (3 : Int32) = nI (w3 Sg k) from nI_add _ 3]
  refine ⟨f3, fun q => ?_, fun q => ⟨f3, f3, d3, y_lesser (by omega) (by omega) (J _ ?_)⟩⟩
  · have q : ¬ So k = i := fun e => q ((eqs _ o1).mpr e)
    exact J 0 (by rw [if_neg q])
  · rw [if_pos ((eqs _ o1).mp q)]
theorem mx_skip {k i least h : Nat} {act : Nat → Prop} {So Dr w x : Nat → Nat} (hM : MX k act So Dr w x i least h) (ha : ¬ act k) : MX (k + 1) act So Dr w x i least h := by
  obtain ⟨m1, m2, m3⟩ := hM
  refine ⟨m1, fun k' hk' ak => ?_, ?_⟩
  · by_cases e : k' = k
    · subst e; exact absurd ak ha
    · exact m2 k' (by omega) ak
  · rcases m3 with e | ⟨k', hk', r⟩
    · exact Or.inl e
    · exact Or.inr ⟨k', by omega, r⟩
theorem mx_take {k i least h : Nat} {act : Nat → Prop} {So Dr w x : Nat → Nat} (hM : MX k act So Dr w x i least h) (ha : act k) : MX (k + 1) act So Dr w x i least (max h (rch So Dr w x i k)) := by
  obtain ⟨m1, m2, m3⟩ := hM
  refine ⟨by omega, fun k' hk' ak => ?_, ?_⟩
  · by_cases e : k' = k
    · subst e
      refine ⟨fun e => ?_, fun e => ?_⟩
      · have : min (w k') (x (Dr k')) ≤ rch So Dr w x i k' := by unfold rch; rw [if_pos e]; omega
        omega
      · have : min (w k') (x (So k')) ≤ rch So Dr w x i k' := by unfold rch; rw [if_pos e]; omega
        omega
    · have := m2 k' (by omega) ak
      exact ⟨fun e => by have := this.1 e; omega, fun e => by have := this.2 e; omega⟩
  · by_cases g : rch So Dr w x i k ≤ h
    · rw [Nat.max_eq_left g]
      rcases m3 with e | ⟨k', hk', r⟩
      · exact Or.inl e
      · exact Or.inr ⟨k', by omega, r⟩
    · rw [Nat.max_eq_right (by omega)]
      refine Or.inr ⟨k, by omega, ha, ?_⟩
      unfold rch at g ⊢
      by_cases e1 : So k = i
      · by_cases e2 : Dr k = i
        · rw [if_pos e1, if_pos e2]
          by_cases c : min (w k) (x (Dr k)) ≤ min (w k) (x (So k))
          · exact Or.inr ⟨e2, by omega⟩
          · exact Or.inl ⟨e1, by omega⟩
        · rw [if_pos e1, if_neg e2]
          exact Or.inl ⟨e1, by omega⟩
      · by_cases e2 : Dr k = i
        · rw [if_neg e1, if_pos e2]
          exact Or.inr ⟨e2, by omega⟩
        · rw [if_neg e1, if_neg e2] at g
          omega
theorem y_greatest {n t i least al : Nat} {I Sk Sz St Kd G So Dr Sg J X : Nat → Nat} {inp stk siz sta kin gat src drn stg jam lvs : Nat → Int32} (hr : NRg n t I Sk Sz St Kd G So Dr Sg J) (ha : NAr n t I Sk Sz St Kd G So Dr Sg J inp stk siz sta kin gat src drn stg jam) (hR : AR n lvs X) (h7 : ∀ i, i < n → X i ≤ 7) (hi : i < n) (hl : least ≤ 7) (hal : al ≤ 1) {K : Int32 → Unit → Prop}
    (hK : ∀ h, MX t (actS (CN Kd G St J) al) So Dr (w3 Sg) X i least h → K (nI h) ()) : wp_Mo_greatest (nI t) lvs jam gat sta kin src stg drn (nI i) (nI least) (nI al) K := by
  have hX := n_nx hr ha
  have hO := n_tok hr
  have hC2 := n_cn hr
  have hn := hr.1
  have ht := hr.2.1
  obtain ⟨aI, aS, aZ, aT, aK, aG, aSo, aDr, aSg, aJ⟩ := ha
  refine ⟨t + 1, ?_⟩
  suffices H : ∀ (d k h : Nat), k + d = t → h ≤ 7 → MX k (actS (CN Kd G St J) al) So Dr (w3 Sg) X i least h → wl_Mo_greatest_6 (nI t) lvs jam gat sta kin src stg drn K (d + 1) (nI i) (nI al) (nI h) (nI k) from H t 0 least (by omega) hl ⟨Nat.le_refl _, fun k hk => absurd hk (by omega), Or.inl rfl⟩
  intro d
  induction d with
  | zero =>
    intro k h hk h7' hM
    have e : k = t := by omega
    subst e
    rw [ul_Mo_greatest_6]
    exact ⟨fun _ => hK h hM, fun q => absurd (Int32.le_refl _) q⟩
  | succ d ih =>
    intro k h hk h7' hM
    have hlt : k < t := by omega
    have hc := hC2 k hlt
    have r7 : rch So Dr (w3 Sg) X i k ≤ 7 := by
      have b1 := h7 _ (hr.2.2.2 k hlt).2.2.1
      have b2 := h7 _ (hr.2.2.2 k hlt).2.2.2.1
      unfold rch; split <;> split <;> omega
    rw [ul_Mo_greatest_6]
    unfold wb_Mo_greatest_6
    rw [nI_1]
    have Jt : actS (CN Kd G St J) al k → wj_Mo_greatest_40 (nI t) lvs jam gat sta kin src stg drn (wl_Mo_greatest_6 (nI t) lvs jam gat sta kin src stg drn K (d + 1)) K (nI i) (nI al) (nI h) (nI k) := fun ac => by
      unfold wj_Mo_greatest_40
      rw [nI_1]
      refine y_reaches hX hR h7 hi hlt ⟨fun q => ?_, fun q => ?_⟩
      · have := (nI_leI (by omega) (by omega)).mp q
        have m := mx_take hM ac
        rw [Nat.max_eq_left this] at m
        exact ih (k + 1) h (by omega) h7' m
      · have : ¬ rch So Dr (w3 Sg) X i k ≤ h := fun w => q (nI_le w (by omega))
        have m := mx_take hM ac
        rw [Nat.max_eq_right (by omega)] at m
        exact ih (k + 1) _ (by omega) r7 m
    have skip : ¬ actS (CN Kd G St J) al k → (((0 : Int32) ≤ nI h → wl_Mo_greatest_6 (nI t) lvs jam gat sta kin src stg drn K (d + 1) (nI i) (nI al) (nI h) (nI (k + 1))) ∧ (¬ (0 : Int32) ≤ nI h → wl_Mo_greatest_6 (nI t) lvs jam gat sta kin src stg drn K (d + 1) (nI i) (nI al) 0 (nI (k + 1)))) := fun na =>
      ⟨fun _ => ih (k + 1) h (by omega) h7' (mx_skip hM na), fun q => absurd (nI_pos' (by omega)) q⟩
    refine ⟨fun q => absurd q (nI_ge hlt (by omega)), fun _ => y_cond hn ht aJ aK aG aT hO hlt ?_⟩
    have ec : cndS (J k) (Kd k) (St (G k)) = CN Kd G St J k := rfl
    rw [ec]
    refine ⟨fun c1 => Jt (Or.inl ((nI_eq (b := 1) (by omega) (by omega)).mp c1)), fun c1 => ⟨fun c2 => skip (fun q => ?_), fun c2 => ⟨fun c3 => skip (fun q => ?_), fun c3 => Jt (Or.inr ⟨fun e => c3 (by rw [e]; rfl), (nI_eq (b := 2) (by omega) (by omega)).mp c2⟩)⟩⟩⟩
    · rcases q with q | ⟨_, q⟩
      · exact c1 (by rw [q]; rfl)
      · exact c2 (by rw [q]; rfl)
    · rcases q with q | ⟨q, _⟩
      · exact c1 (by rw [q]; rfl)
      · exact q ((nI_eq (b := 0) (by omega) (by omega)).mp c3)
