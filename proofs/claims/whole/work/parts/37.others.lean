/-! PURE: the reference's high and low levels; levels asked for. -/
section FO
variable {n t ag : Nat} {I Sk Sz St Kd G So Dr Sg J Fm : Nat → Nat} {inp stk siz sta kin gat src drn stg jam fir : Nat → Int32}
theorem side_7 {i : Nat} (h : Sz i ≤ 3) : sideB I Sk Sz St ag i ≤ 7 := by
  have := own_7 (I := I) (Sk := Sk) h
  unfold sideB
  split <;> omega
theorem y_fo54 (hag : ag ≤ 1) (hr : NRg n t I Sk Sz St Kd G So Dr Sg J) (ha : NAr n t I Sk Sz St Kd G So Dr Sg J inp stk siz sta kin gat src drn stg jam) (hF : AR n fir Fm) (hF7 : ∀ i, i < n → Fm i ≤ 7) {X0 : Nat → Nat} {E : (Nat → Int32) → Int32 → Int32 → Prop} {K : (Nat → Int32) → Prop}
    (hE : ∀ (lvs : Nat → Int32) (X : Nat → Nat) (f : Nat), AR n lvs X → Pb n t (Ld I Sk) (sideB I Sk Sz St ag) Fm (actS (CN Kd G St J) 1) So Dr (w3 Sg) X → ((f = 0 ∧ Cl n t (Ld I Sk) (sideB I Sk Sz St ag) Fm (actS (CN Kd G St J) 1) So Dr (w3 Sg) X) ∨ (f = 1 ∧ sm X0 n + 1 ≤ sm X n)) → E lvs (nI ag) (nI f)) :
    ∀ (d i : Nat) (lvs : Nat → Int32) (X : Nat → Nat) (f : Nat), i + d = n → f ≤ 1 → AR n lvs X → Pb n t (Ld I Sk) (sideB I Sk Sz St ag) Fm (actS (CN Kd G St J) 1) So Dr (w3 Sg) X → SWp n t (Ld I Sk) (sideB I Sk Sz St ag) Fm (actS (CN Kd G St J) 1) So Dr (w3 Sg) X0 i X f →
      wl_Mo_findOthers_54 (nI n) (nI t) inp stk sta siz fir jam gat kin src stg drn E K (d + 1) lvs (nI ag) (nI f) (nI i) := by
  have hn := hr.1
  have h1' : ∀ i, i < n → I i ≤ 1 ∧ Sk i ≤ 1 := fun i hi => ⟨(hr.2.2.1 i hi).1, (hr.2.2.1 i hi).2.1⟩
  have hO : ∀ k, k < t → So k < n ∧ Dr k < n := fun k hk => ⟨(hr.2.2.2 k hk).2.2.1, (hr.2.2.2 k hk).2.2.2.1⟩
  intro d
  induction d with
  | zero =>
    intro i lvs X f hi hf hR hP hs
    have e : i = n := by omega
    subst e
    rw [ul_Mo_findOthers_54]
    exact ⟨fun _ => hE lvs X f hR hP (sw_end hO hP hs), fun q => absurd (Int32.le_refl _) q⟩
  | succ d ih =>
    intro i lvs X f hi hf hR hP hs
    have hlt : i < n := by omega
    have fi := z_in hlt hn (by omega)
    have fc := z_cl hlt (show n < 2 ^ 31 by omega)
    have x7 := hP.2.2.1 i hlt
    have m7 := hF7 i hlt
    have s3 := (hr.2.2.1 i hlt).2.2.2.1
    have t2 := (hr.2.2.1 i hlt).2.2.2.2
    have Jn : ∀ nv : Nat, nv ≤ 7 → X i ≤ nv → (nv = X i → ¬ Ld I Sk i → FX t (sideB I Sk Sz St ag) Fm (actS (CN Kd G St J) 1) So Dr (w3 Sg) X i) → Pb n t (Ld I Sk) (sideB I Sk Sz St ag) Fm (actS (CN Kd G St J) 1) So Dr (w3 Sg) (up X i nv) → wj_Mo_findOthers_138 (nI n) (nI t) inp stk sta siz fir jam gat kin src stg drn (wl_Mo_findOthers_54 (nI n) (nI t) inp stk sta siz fir jam gat kin src stg drn E K (d + 1)) E K lvs (nI ag) (nI f) (nI i) (nI nv) := fun nv n7 hge hfix hP2 => by
      have hR2 := ar_upd hR i nv
      obtain ⟨g1, g2⟩ := sw_next hlt hs hge hfix
      unfold wj_Mo_findOthers_138
      rw [fc, hR i hlt, nI_1]
      refine ⟨fun q => ⟨fi, ih (i + 1) _ _ 1 (by omega) (by omega) hR2 hP2 (g1 (fun e => q (by rw [e]; rfl)))⟩, fun q => ?_⟩
      have f0 : f = 0 := (nI_eq (b := 0) (by omega) (by omega)).mp q
      refine ⟨fi, fun q2 => ⟨fi, ih (i + 1) _ _ 0 (by omega) (by omega) hR2 hP2 ((g2 f0).1 ((nI_leI (by omega) (by omega)).mp q2))⟩, fun q2 => ⟨fi, ih (i + 1) _ _ 1 (by omega) (by omega) hR2 hP2 ((g2 f0).2 (fun w => q2 (nI_le w (by omega))))⟩⟩
    have Jg : ∀ least : Nat, least = sideB I Sk Sz St ag i → ¬ Ld I Sk i → wj_Mo_findOthers_104 (nI n) (nI t) inp stk sta siz fir jam gat kin src stg drn (wl_Mo_findOthers_54 (nI n) (nI t) inp stk sta siz fir jam gat kin src stg drn E K (d + 1)) E K lvs (nI ag) (nI f) (nI i) (nI least) (nI i) := fun least hle l => by
      have l7 : least ≤ 7 := by rw [hle]; exact side_7 s3
      unfold wj_Mo_findOthers_104
      refine y_greatest (al := 1) hr ha hR hP.2.2.1 hlt l7 (by omega) (fun h hM => ?_)
      rw [hle] at hM
      obtain ⟨b1, b2, b3⟩ := pb_step hP hlt l (side_7 s3) hO hM
      have h7 : h ≤ 7 := by
        obtain ⟨m1, m2, m3⟩ := hM
        rcases m3 with e | ⟨k, hk, ak, (⟨e0, e1⟩ | ⟨e0, e1⟩)⟩
        · omega
        · have := hP.2.2.1 _ (hO k hk).2; omega
        · have := hP.2.2.1 _ (hO k hk).1; omega
      have jn := Jn _ b2 b1 (fun e _ => ⟨h, hM, e.symm⟩) b3
      unfold wj_Mo_findOthers_109
      rw [fc, hF i hlt]
      refine y_led hn ha.1 ha.2.1 h1' hlt (fun l' => absurd l' l) (fun _ => ⟨fun q => absurd rfl q, fun _ => ⟨fi, fun q => ?_, fun q => ?_⟩⟩)
      · have := (nI_ltI (by omega) (by omega)).mp q
        have en : nvF (Fm i) h = 0 := by unfold nvF; rw [if_neg (by omega)]
        rw [en] at jn
        exact jn
      · have : ¬ h < Fm i := fun w => q (nI_lt w (by omega))
        have en : nvF (Fm i) h = h := by unfold nvF; rw [if_pos (by omega)]
        rw [en] at jn
        exact jn
    rw [ul_Mo_findOthers_54]
    unfold wb_Mo_findOthers_54
    rw [fc, ha.2.2.1 i hlt, ha.2.2.2.1 i hlt, hR i hlt]
    refine ⟨fun q => absurd q (nI_ge hlt (by omega)), fun _ => y_led hn ha.1 ha.2.1 h1' hlt (fun l => ⟨fun q => absurd q (by decide), fun _ => ⟨fi, ?_⟩⟩) (fun l => ⟨fun _ => ⟨fi, fun q => ⟨fi, ?_⟩, fun q => ?_⟩, fun q => absurd rfl q⟩)⟩
    · unfold wj_Mo_findOthers_109
      refine y_led hn ha.1 ha.2.1 h1' hlt (fun _ => ⟨fun _ => ?_, fun q => absurd q (by decide)⟩) (fun l' => absurd l l')
      exact Jn (X i) x7 (Nat.le_refl _) (fun _ q => absurd l q) (by rw [up_id rfl]; exact hP)
    · have e : ¬ St i = ag := fun e => q (by rw [e])
      refine Jg (Sz i) ?_ l
      unfold sideB
      rw [if_pos e, own_not l]
    · have e := (nI_eq (by omega) (by omega)).mp q
      refine Jg 0 ?_ l
      unfold sideB
      rw [if_neg (fun w => w e)]
theorem y_findOthers (hag : ag ≤ 1) (hr : NRg n t I Sk Sz St Kd G So Dr Sg J) (ha : NAr n t I Sk Sz St Kd G So Dr Sg J inp stk siz sta kin gat src drn stg jam) (hF : AR n fir Fm) (hF7 : ∀ i, i < n → Fm i ≤ 7) {lvs : Nat → Int32} {K : (Nat → Int32) → Prop}
    (hK : ∀ (lvs : Nat → Int32) (X : Nat → Nat), AR n lvs X → LSD n t ag I Sk Sz St So Dr Sg (CN Kd G St J) Fm X → K lvs) : wp_Mo_findOthers (nI n) (nI t) lvs inp stk sta siz fir jam gat kin src stg drn (nI ag) K := by
  have hn := hr.1
  have h1' : ∀ i, i < n → I i ≤ 1 ∧ Sk i ≤ 1 := fun i hi => ⟨(hr.2.2.1 i hi).1, (hr.2.2.1 i hi).2.1⟩
  have outer : ∀ (d : Nat) (lvs : Nat → Int32) (X : Nat → Nat) (f : Nat), AR n lvs X → Pb n t (Ld I Sk) (sideB I Sk Sz St ag) Fm (actS (CN Kd G St J) 1) So Dr (w3 Sg) X → ((f = 0 ∧ Cl n t (Ld I Sk) (sideB I Sk Sz St ag) Fm (actS (CN Kd G St J) 1) So Dr (w3 Sg) X) ∨ (f = 1 ∧ 7 * n ≤ sm X n + d)) → wl_Mo_findOthers_45 (nI n) (nI t) inp stk sta siz fir jam gat kin src stg drn K (d + 2) lvs (nI ag) (nI f) := by
    intro d
    induction d with
    | zero =>
      intro lvs X f hR hP hs
      rw [ul_Mo_findOthers_45]
      rcases hs with ⟨h1, h2⟩ | ⟨h1, h2⟩
      · subst h1
        exact ⟨fun _ => hK lvs X hR ⟨⟨h2, hP.2.1⟩, hP.2.2.1⟩, fun q => absurd rfl q⟩
      · subst h1
        refine ⟨fun q => absurd q (by decide), fun _ => ⟨n + 1, y_fo54 (X0 := X) hag hr ha hF hF7 (fun lvs' X' f' hR' hP' hs' => ?_) n 0 lvs X 0 (by omega) (by omega) hR hP (Or.inl ⟨rfl, rfl, fun j hj => absurd hj (by omega)⟩)⟩⟩
        have := sm_le n hP'.2.2.1
        rcases hs' with ⟨e1, e2⟩ | ⟨e1, e2⟩
        · subst e1
          show wl_Mo_findOthers_45 _ _ _ _ _ _ _ _ _ _ _ _ _ _ (0 + 1) _ _ _
          rw [ul_Mo_findOthers_45]
          exact ⟨fun _ => hK lvs' X' hR' ⟨⟨e2, hP'.2.1⟩, hP'.2.2.1⟩, fun q => absurd rfl q⟩
        · omega
    | succ d ih =>
      intro lvs X f hR hP hs
      rw [ul_Mo_findOthers_45]
      rcases hs with ⟨h1, h2⟩ | ⟨h1, h2⟩
      · subst h1
        exact ⟨fun _ => hK lvs X hR ⟨⟨h2, hP.2.1⟩, hP.2.2.1⟩, fun q => absurd rfl q⟩
      · subst h1
        refine ⟨fun q => absurd q (by decide), fun _ => ⟨n + 1, y_fo54 (X0 := X) hag hr ha hF hF7 (fun lvs' X' f' hR' hP' hs' => ?_) n 0 lvs X 0 (by omega) (by omega) hR hP (Or.inl ⟨rfl, rfl, fun j hj => absurd hj (by omega)⟩)⟩⟩
        refine ih lvs' X' f' hR' hP' ?_
        rcases hs' with e | ⟨e1, e2⟩
        · exact Or.inl e
        · exact Or.inr ⟨e1, by omega⟩
  have X00 : ∀ i, i < n → (if (I i ≠ 0 ∨ Sk i ≠ 0) ∧ St i ≠ ag then 7 else 0) ≤ 7 := fun i _ => by split <;> omega
  have start : ∀ lvs, AR n lvs (fun i => if (I i ≠ 0 ∨ Sk i ≠ 0) ∧ St i ≠ ag then 7 else 0) → ∃ k, wl_Mo_findOthers_45 (nI n) (nI t) inp stk sta siz fir jam gat kin src stg drn K k lvs (nI ag) 1 := fun lvs hR => by
    have eb : ∀ i, i < n → Ld I Sk i → (if (I i ≠ 0 ∨ Sk i ≠ 0) ∧ St i ≠ ag then 7 else 0) = sideB I Sk Sz St ag i := fun i hi l => by
      unfold sideB
      rw [own_led l]
      by_cases e : St i = ag
      · rw [if_neg (fun w => w.2 e), if_neg (fun w => w e)]
      · rw [if_pos ⟨l, e⟩, if_pos e]
    have e0 : ∀ i, ¬ Ld I Sk i → (if (I i ≠ 0 ∨ Sk i ≠ 0) ∧ St i ≠ ag then 7 else 0) = 0 := fun i l => if_neg (fun w => l w.1)
    refine ⟨7 * n + 2, outer (7 * n) lvs _ 1 hR ⟨eb, fun y hy i hi => ?_, X00, fun i hi l => Or.inl (e0 i l)⟩ (Or.inr ⟨rfl, by omega⟩)⟩
    by_cases l : Ld I Sk i
    · rw [hy.1 i hi l, ← eb i hi l]
      exact Nat.le_refl _
    · show (if (I i ≠ 0 ∨ Sk i ≠ 0) ∧ St i ≠ ag then 7 else 0) ≤ _
      rw [e0 i l]
      exact Nat.zero_le _
  refine ⟨n + 1, ?_⟩
  suffices H : ∀ (d i : Nat) (lvs : Nat → Int32), i + d = n → AR i lvs (fun i => if (I i ≠ 0 ∨ Sk i ≠ 0) ∧ St i ≠ ag then 7 else 0) → wl_Mo_findOthers_2 (nI n) (nI t) inp stk sta siz fir jam gat kin src stg drn (fun lvs v2 => (∃ n', wl_Mo_findOthers_45 (nI n) (nI t) inp stk sta siz fir jam gat kin src stg drn K n' lvs v2 (1 : Int32))) K (d + 1) lvs (nI ag) (nI i) from H n 0 lvs (by omega) (fun i hi => absurd hi (by omega))
  intro d
  induction d with
  | zero =>
    intro i lvs hi hR
    have e : i = n := by omega
    subst e
    rw [ul_Mo_findOthers_2]
    exact ⟨fun _ => start lvs hR, fun q => absurd (Int32.le_refl _) q⟩
  | succ d ih =>
    intro i lvs hi hR
    have hlt : i < n := by omega
    have fi := z_in hlt hn (by omega)
    have t2 := (hr.2.2.1 i hlt).2.2.2.2
    rw [ul_Mo_findOthers_2]
    unfold wb_Mo_findOthers_2
    rw [z_cl hlt (show n < 2 ^ 31 by omega), nI_1, ha.2.2.2.1 i hlt]
    refine ⟨fun q => absurd q (nI_ge hlt (by omega)), fun _ => y_led hn ha.1 ha.2.1 h1' hlt (fun l => ⟨fun q => absurd q (by decide), fun _ => ⟨fi, fun q => ⟨fi, ih (i + 1) _ (by omega) (ar_step hR (v := 0) ?_)⟩, fun q => ⟨fi, ih (i + 1) _ (by omega) (ar_step hR (v := 7) ?_)⟩⟩⟩) (fun l => ⟨fun _ => ⟨fi, ih (i + 1) _ (by omega) (ar_step hR (v := 0) ?_)⟩, fun q => absurd rfl q⟩)⟩
    · have e := (nI_eq (by omega) (by omega)).mp q
      exact (if_neg (fun w => w.2 e)).symm
    · have e : ¬ St i = ag := fun e => q (by rw [e])
      exact (if_pos ⟨l, e⟩).symm
    · exact (if_neg (fun w => l w.1)).symm
end FO
section EV
variable {n t : Nat} {I Sk Sz St Kd G So Dr Sg J : Nat → Nat} {inp stk siz sta kin gat src drn stg jam : Nat → Int32}
theorem y_evaluate (hr : NRg n t I Sk Sz St Kd G So Dr Sg J) (ha : NAr n t I Sk Sz St Kd G So Dr Sg J inp stk siz sta kin gat src drn stg jam) {fir hig lw : Nat → Int32} {K : (Nat → Int32) × (Nat → Int32) × (Nat → Int32) → Prop}
    (hK : ∀ (fir hig lw : Nat → Int32) (Fm Hg Lo : Nat → Nat), AR n fir Fm → AR n hig Hg → AR n lw Lo → LFM n t I Sk Sz So Dr Sg (CN Kd G St J) Fm → LSD n t 0 I Sk Sz St So Dr Sg (CN Kd G St J) Fm Hg → LSD n t 1 I Sk Sz St So Dr Sg (CN Kd G St J) Fm Lo → K (fir, hig, lw)) :
    wp_Mo_evaluate (nI n) (nI t) inp stk fir siz jam gat sta kin src stg drn hig lw K := by
  unfold wp_Mo_evaluate
  refine y_findFirm hr ha (fun fir Fm hf hL => ?_)
  refine y_findOthers (ag := 0) (by omega) hr ha hf hL.2 (fun hig Hg hh hH => ?_)
  refine y_findOthers (ag := 1) (by omega) hr ha hf hL.2 (fun lw Lo hl hLo => ?_)
  exact hK _ _ _ Fm Hg Lo hf hh hl hL hH hLo
/-- the firm levels decide the floor of the others: the same floor, the same levels -/
theorem LSD_one {ag : Nat} {C Fm Fm' X X' : Nat → Nat} (hO : ∀ k, k < t → So k < n ∧ Dr k < n) (hF : LFM n t I Sk Sz So Dr Sg C Fm) (hF' : LFM n t I Sk Sz So Dr Sg C Fm') (hX : LSD n t ag I Sk Sz St So Dr Sg C Fm X) (hX' : LSD n t ag I Sk Sz St So Dr Sg C Fm' X') : ∀ i, i < n → X i = X' i := by
  have ef := Lf_one hF.1 hF'.1
  have tr : ∀ y, Cl n t (Ld I Sk) (sideB I Sk Sz St ag) Fm (actS C 1) So Dr (w3 Sg) y ↔ Cl n t (Ld I Sk) (sideB I Sk Sz St ag) Fm' (actS C 1) So Dr (w3 Sg) y := fun y => by
    constructor
    · rintro ⟨c1, c2, c3⟩
      exact ⟨c1, fun i hi l h => c2 i hi l (by rw [ef i hi]; exact h), fun k hk ak => ⟨fun l h => (c3 k hk ak).1 l (by rw [ef _ (hO k hk).1]; exact h), fun l h => (c3 k hk ak).2 l (by rw [ef _ (hO k hk).2]; exact h)⟩⟩
    · rintro ⟨c1, c2, c3⟩
      exact ⟨c1, fun i hi l h => c2 i hi l (by rw [← ef i hi]; exact h), fun k hk ak => ⟨fun l h => (c3 k hk ak).1 l (by rw [← ef _ (hO k hk).1]; exact h), fun l h => (c3 k hk ak).2 l (by rw [← ef _ (hO k hk).2]; exact h)⟩⟩
  intro i hi
  exact Nat.le_antisymm (hX.1.2 X' ((tr X').mpr hX'.1.1) i hi) (hX'.1.2 X ((tr X).mp hX.1.1) i hi)
end EV
