/-! PURE: the reference's sweeps. -/
def FX (t : Nat) (b fl : Nat → Nat) (act : Nat → Prop) (So Dr w X : Nat → Nat) (j : Nat) : Prop := ∃ h, MX t act So Dr w X j (b j) h ∧ X j = nvF (fl j) h
def SWp (n t : Nat) (L : Nat → Prop) (b fl : Nat → Nat) (act : Nat → Prop) (So Dr w X0 : Nat → Nat) (i : Nat) (X : Nat → Nat) (f : Nat) : Prop := (f = 0 ∧ X = X0 ∧ ∀ j, j < i → ¬ L j → FX t b fl act So Dr w X j) ∨ (f = 1 ∧ sm X0 n + 1 ≤ sm X n)
theorem up_id {X : Nat → Nat} {i v : Nat} (h : v = X i) : up X i v = X := by
  funext j
  by_cases e : j = i
  · subst e; rw [up_s, h]
  · rw [up_n e]
theorem sm_ge {X : Nat → Nat} {i v n : Nat} (hi : i < n) (h : X i ≤ v) : sm X n ≤ sm (up X i v) n := by
  by_cases e : v = X i
  · rw [up_id e]; exact Nat.le_refl _
  · have := sm_up (x := X) (a := i) (v := v) (by omega) n hi
    omega
theorem sw_next {n t : Nat} {L : Nat → Prop} {b fl : Nat → Nat} {act : Nat → Prop} {So Dr w X0 X : Nat → Nat} {i f nv : Nat} (hi : i < n) (hs : SWp n t L b fl act So Dr w X0 i X f) (hge : X i ≤ nv) (hfix : nv = X i → ¬ L i → FX t b fl act So Dr w X i) :
    (f ≠ 0 → SWp n t L b fl act So Dr w X0 (i + 1) (up X i nv) 1) ∧ (f = 0 → (nv ≤ X i → SWp n t L b fl act So Dr w X0 (i + 1) (up X i nv) 0) ∧ (¬ nv ≤ X i → SWp n t L b fl act So Dr w X0 (i + 1) (up X i nv) 1)) := by
  have g := sm_ge hi hge
  refine ⟨fun e => ?_, fun e => ⟨fun q => ?_, fun q => ?_⟩⟩
  · rcases hs with ⟨h1, _⟩ | ⟨h1, h2⟩
    · exact absurd h1 e
    · exact Or.inr ⟨rfl, by omega⟩
  · have en : nv = X i := by omega
    rw [up_id en]
    rcases hs with ⟨h1, h2, h3⟩ | ⟨h1, h2⟩
    · refine Or.inl ⟨rfl, h2, fun j hj lj => ?_⟩
      by_cases e : j = i
      · subst e; exact hfix en lj
      · exact h3 j (by omega) lj
    · omega
  · have := sm_up (x := X) (a := i) (v := nv) (by omega) n hi
    rcases hs with ⟨h1, h2, h3⟩ | ⟨h1, h2⟩
    · subst h2; exact Or.inr ⟨rfl, this⟩
    · omega
theorem sw_end {n t : Nat} {L : Nat → Prop} {b fl : Nat → Nat} {act : Nat → Prop} {So Dr w X0 X : Nat → Nat} {f : Nat} (hO : ∀ k, k < t → So k < n ∧ Dr k < n) (hP : Pb n t L b fl act So Dr w X) (hs : SWp n t L b fl act So Dr w X0 n X f) : (f = 0 ∧ Cl n t L b fl act So Dr w X) ∨ (f = 1 ∧ sm X0 n + 1 ≤ sm X n) := by
  rcases hs with ⟨h1, h2, h3⟩ | h
  · exact Or.inl ⟨h1, pb_fix hP hO h3⟩
  · exact Or.inr h
theorem ar_id {n i v : Nat} {f : Nat → Int32} {X : Nat → Nat} (h : AR n f X) (hv : v = X i) : AR n (upd f i (nI v)) X := by
  have := ar_upd h i v
  rwa [up_id hv] at this
section FF
variable {n t : Nat} {I Sk Sz St Kd G So Dr Sg J : Nat → Nat} {inp stk siz sta kin gat src drn stg jam : Nat → Int32}
theorem y_ff46 (hr : NRg n t I Sk Sz St Kd G So Dr Sg J) (ha : NAr n t I Sk Sz St Kd G So Dr Sg J inp stk siz sta kin gat src drn stg jam) {X0 : Nat → Nat} {E : (Nat → Int32) → Int32 → Prop} {K : (Nat → Int32) → Prop}
    (hE : ∀ (fir : Nat → Int32) (X : Nat → Nat) (f : Nat), AR n fir X → Pb n t (Ld I Sk) (ownF I Sk Sz) (fun _ => 0) (actS (CN Kd G St J) 0) So Dr (w3 Sg) X → ((f = 0 ∧ Cl n t (Ld I Sk) (ownF I Sk Sz) (fun _ => 0) (actS (CN Kd G St J) 0) So Dr (w3 Sg) X) ∨ (f = 1 ∧ sm X0 n + 1 ≤ sm X n)) → E fir (nI f)) :
    ∀ (d i : Nat) (fir : Nat → Int32) (X : Nat → Nat) (f : Nat), i + d = n → f ≤ 1 → AR n fir X → Pb n t (Ld I Sk) (ownF I Sk Sz) (fun _ => 0) (actS (CN Kd G St J) 0) So Dr (w3 Sg) X → SWp n t (Ld I Sk) (ownF I Sk Sz) (fun _ => 0) (actS (CN Kd G St J) 0) So Dr (w3 Sg) X0 i X f →
      wl_Mo_findFirm_46 (nI n) (nI t) inp stk siz jam gat sta kin src stg drn E K (d + 1) fir (nI f) (nI i) := by
  have hn := hr.1
  have h1' : ∀ i, i < n → I i ≤ 1 ∧ Sk i ≤ 1 := fun i hi => ⟨(hr.2.2.1 i hi).1, (hr.2.2.1 i hi).2.1⟩
  have hO : ∀ k, k < t → So k < n ∧ Dr k < n := fun k hk => ⟨(hr.2.2.2 k hk).2.2.1, (hr.2.2.2 k hk).2.2.2.1⟩
  intro d
  induction d with
  | zero =>
    intro i fir X f hi hf hR hP hs
    have e : i = n := by omega
    subst e
    rw [ul_Mo_findFirm_46]
    exact ⟨fun _ => hE fir X f hR hP (sw_end hO hP hs), fun q => absurd (Int32.le_refl _) q⟩
  | succ d ih =>
    intro i fir X f hi hf hR hP hs
    have hlt : i < n := by omega
    have fi := z_in hlt hn (by omega)
    have fc := z_cl hlt (show n < 2 ^ 31 by omega)
    have x7 := hP.2.2.1 i hlt
    have Jn : ∀ nv : Nat, nv ≤ 7 → X i ≤ nv → (nv = X i → ¬ Ld I Sk i → FX t (ownF I Sk Sz) (fun _ => 0) (actS (CN Kd G St J) 0) So Dr (w3 Sg) X i) → Pb n t (Ld I Sk) (ownF I Sk Sz) (fun _ => 0) (actS (CN Kd G St J) 0) So Dr (w3 Sg) (up X i nv) → wj_Mo_findFirm_83 (nI n) (nI t) inp stk siz jam gat sta kin src stg drn (wl_Mo_findFirm_46 (nI n) (nI t) inp stk siz jam gat sta kin src stg drn E K (d + 1)) E K fir (nI f) (nI i) (nI nv) := fun nv n7 hge hfix hP2 => by
      have hR2 := ar_upd hR i nv
      obtain ⟨g1, g2⟩ := sw_next hlt hs hge hfix
      unfold wj_Mo_findFirm_83
      rw [fc, hR i hlt, nI_1]
      refine ⟨fun q => ⟨fi, ih (i + 1) _ _ 1 (by omega) (by omega) hR2 hP2 (g1 (fun e => q (by rw [e]; rfl)))⟩, fun q => ?_⟩
      have f0 : f = 0 := (nI_eq (b := 0) (by omega) (by omega)).mp q
      refine ⟨fi, fun q2 => ⟨fi, ih (i + 1) _ _ 0 (by omega) (by omega) hR2 hP2 ((g2 f0).1 ((nI_leI (by omega) (by omega)).mp q2))⟩, fun q2 => ⟨fi, ih (i + 1) _ _ 1 (by omega) (by omega) hR2 hP2 ((g2 f0).2 (fun w => q2 (nI_le w (by omega))))⟩⟩
    rw [ul_Mo_findFirm_46]
    unfold wb_Mo_findFirm_46
    rw [fc, ha.2.2.1 i hlt]
    refine ⟨fun q => absurd q (nI_ge hlt (by omega)), fun _ => y_led hn ha.1 ha.2.1 h1' hlt (fun l => ⟨fun q => absurd q (by decide), fun _ => ?_⟩) (fun l => ⟨fun _ => ⟨fi, ?_⟩, fun q => absurd rfl q⟩)⟩
    · have e7 : 7 = X i := by rw [hP.1 i hlt l, own_led l]
      exact Jn 7 (by omega) (by omega) (fun _ q => absurd l q) (by rw [up_id e7]; exact hP)
    · have s3 := (hr.2.2.1 i hlt).2.2.2.1
      refine y_greatest (al := 0) hr ha hR hP.2.2.1 hlt (by omega) (by omega) (fun h hM => ?_)
      rw [← own_not (Sz := Sz) l] at hM
      obtain ⟨b1, b2, b3⟩ := pb_step hP hlt l (own_7 s3) hO hM
      have en : nvF 0 h = h := by unfold nvF; rw [if_pos (Nat.zero_le _)]
      rw [en] at b1 b2 b3
      exact Jn h b2 b1 (fun e _ => ⟨h, hM, by rw [en]; exact e.symm⟩) b3
theorem y_findFirm (hr : NRg n t I Sk Sz St Kd G So Dr Sg J) (ha : NAr n t I Sk Sz St Kd G So Dr Sg J inp stk siz sta kin gat src drn stg jam) {fir : Nat → Int32} {K : (Nat → Int32) → Prop}
    (hK : ∀ (fir : Nat → Int32) (Fm : Nat → Nat), AR n fir Fm → LFM n t I Sk Sz So Dr Sg (CN Kd G St J) Fm → K fir) : wp_Mo_findFirm (nI n) (nI t) inp stk fir siz jam gat sta kin src stg drn K := by
  have hn := hr.1
  have h1' : ∀ i, i < n → I i ≤ 1 ∧ Sk i ≤ 1 := fun i hi => ⟨(hr.2.2.1 i hi).1, (hr.2.2.1 i hi).2.1⟩
  have outer : ∀ (d : Nat) (fir : Nat → Int32) (X : Nat → Nat) (f : Nat), AR n fir X → Pb n t (Ld I Sk) (ownF I Sk Sz) (fun _ => 0) (actS (CN Kd G St J) 0) So Dr (w3 Sg) X → ((f = 0 ∧ Cl n t (Ld I Sk) (ownF I Sk Sz) (fun _ => 0) (actS (CN Kd G St J) 0) So Dr (w3 Sg) X) ∨ (f = 1 ∧ 7 * n ≤ sm X n + d)) → wl_Mo_findFirm_38 (nI n) (nI t) inp stk siz jam gat sta kin src stg drn K (d + 2) fir (nI f) := by
    intro d
    induction d with
    | zero =>
      intro fir X f hR hP hs
      rw [ul_Mo_findFirm_38]
      rcases hs with ⟨h1, h2⟩ | ⟨h1, h2⟩
      · subst h1
        exact ⟨fun _ => hK fir X hR ⟨⟨h2, hP.2.1⟩, hP.2.2.1⟩, fun q => absurd rfl q⟩
      · subst h1
        refine ⟨fun q => absurd q (by decide), fun _ => ⟨n + 1, y_ff46 (X0 := X) hr ha (fun fir' X' f' hR' hP' hs' => ?_) n 0 fir X 0 (by omega) (by omega) hR hP (Or.inl ⟨rfl, rfl, fun j hj => absurd hj (by omega)⟩)⟩⟩
        have := sm_le n hP'.2.2.1
        rcases hs' with ⟨e1, e2⟩ | ⟨e1, e2⟩
        · subst e1
          show wl_Mo_findFirm_38 _ _ _ _ _ _ _ _ _ _ _ _ _ (0 + 1) _ _
          rw [ul_Mo_findFirm_38]
          exact ⟨fun _ => hK fir' X' hR' ⟨⟨e2, hP'.2.1⟩, hP'.2.2.1⟩, fun q => absurd rfl q⟩
        · omega
    | succ d ih =>
      intro fir X f hR hP hs
      rw [ul_Mo_findFirm_38]
      rcases hs with ⟨h1, h2⟩ | ⟨h1, h2⟩
      · subst h1
        exact ⟨fun _ => hK fir X hR ⟨⟨h2, hP.2.1⟩, hP.2.2.1⟩, fun q => absurd rfl q⟩
      · subst h1
        refine ⟨fun q => absurd q (by decide), fun _ => ⟨n + 1, y_ff46 (X0 := X) hr ha (fun fir' X' f' hR' hP' hs' => ?_) n 0 fir X 0 (by omega) (by omega) hR hP (Or.inl ⟨rfl, rfl, fun j hj => absurd hj (by omega)⟩)⟩⟩
        refine ih fir' X' f' hR' hP' ?_
        rcases hs' with e | ⟨e1, e2⟩
        · exact Or.inl e
        · exact Or.inr ⟨e1, by omega⟩
  have X00 : ∀ i, i < n → (if I i ≠ 0 ∨ Sk i ≠ 0 then 7 else 0) ≤ 7 := fun i _ => by split <;> omega
  have start : ∀ fir, AR n fir (fun i => if I i ≠ 0 ∨ Sk i ≠ 0 then 7 else 0) → ∃ k, wl_Mo_findFirm_38 (nI n) (nI t) inp stk siz jam gat sta kin src stg drn K k fir 1 := fun fir hR => by
    refine ⟨7 * n + 2, outer (7 * n) fir _ 1 hR ⟨fun i hi l => ?_, fun y hy i hi => ?_, X00, fun i hi l => Or.inl ?_⟩ (Or.inr ⟨rfl, by omega⟩)⟩
    · rw [own_led l]; exact if_pos l
    · by_cases l : Ld I Sk i
      · rw [hy.1 i hi l, own_led l]
        exact X00 i hi
      · show (if I i ≠ 0 ∨ Sk i ≠ 0 then 7 else 0) ≤ _
        rw [show (if I i ≠ 0 ∨ Sk i ≠ 0 then 7 else 0) = 0 from if_neg l]
        exact Nat.zero_le _
    · exact if_neg l
  refine ⟨n + 1, ?_⟩
  suffices H : ∀ (d i : Nat) (fir : Nat → Int32), i + d = n → AR i fir (fun i => if I i ≠ 0 ∨ Sk i ≠ 0 then 7 else 0) → wl_Mo_findFirm_2 (nI n) (nI t) inp stk siz jam gat sta kin src stg drn (fun fir => (∃ n', wl_Mo_findFirm_38 (nI n) (nI t) inp stk siz jam gat sta kin src stg drn K n' fir (1 : Int32))) K (d + 1) fir (nI i) from H n 0 fir (by omega) (fun i hi => absurd hi (by omega))
  intro d
  induction d with
  | zero =>
    intro i fir hi hR
    have e : i = n := by omega
    subst e
    rw [ul_Mo_findFirm_2]
    exact ⟨fun _ => start fir hR, fun q => absurd (Int32.le_refl _) q⟩
  | succ d ih =>
    intro i fir hi hR
    have hlt : i < n := by omega
    have fi := z_in hlt hn (by omega)
    rw [ul_Mo_findFirm_2]
    unfold wb_Mo_findFirm_2
    rw [z_cl hlt (show n < 2 ^ 31 by omega), nI_1]
    exact ⟨fun q => absurd q (nI_ge hlt (by omega)), fun _ => y_led hn ha.1 ha.2.1 h1' hlt (fun l => ⟨fun q => absurd q (by decide), fun _ => ⟨fi, ih (i + 1) _ (by omega) (ar_step hR (v := 7) (if_pos l).symm)⟩⟩) (fun l => ⟨fun _ => ⟨fi, ih (i + 1) _ (by omega) (ar_step hR (v := 0) (if_neg l).symm)⟩, fun q => absurd rfl q⟩)⟩
end FF
