/-! PURE: the lines that make transistors. -/
abbrev Tt : Type := Nat × (Nat → Nat) × (Nat → Nat) × (Nat → Nat) × (Nat → Nat) × (Nat → Nat)
def trS (c v1 v2 v3 f : Nat) (a m : Tb) (t : Tt) : Option (Tb × Tb × Tt) :=
  if f = 0 ∨ 30 ≤ t.1 then none else match ndS v1 a m with
    | none => none
    | some (g, a1, m1) => match ndS v2 a1 m1 with
      | none => none
      | some (s, a2, m2) => match ndS v3 a2 m2 with
        | none => none
        | some (d, a3, m3) => some (a3, m3, (t.1 + 1, up t.2.1 t.1 c, up t.2.2.1 t.1 g, up t.2.2.2.1 t.1 s, up t.2.2.2.2.1 t.1 d, up t.2.2.2.2.2 t.1 f))
def OKt (a : Tb) (t : Tt) : Prop := t.1 ≤ 30 ∧ ∀ i, i < t.1 → (t.2.1 i = 110 ∨ t.2.1 i = 112 ∨ t.2.1 i = 100) ∧ t.2.2.1 i < a.1 ∧ t.2.2.2.1 i < a.1 ∧ t.2.2.2.2.1 i < a.1 ∧ 1 ≤ t.2.2.2.2.2 i ∧ t.2.2.2.2.2 i ≤ 3
def XT (t : Tt) (tc : Int32) (kin gat src drn stg jam : Nat → Int32) : Prop := tc = nI t.1 ∧ AR t.1 kin t.2.1 ∧ AR t.1 gat t.2.2.1 ∧ AR t.1 src t.2.2.2.1 ∧ AR t.1 drn t.2.2.2.2.1 ∧ AR t.1 stg t.2.2.2.2.2 ∧ AR t.1 jam (fun _ => 3)
def YT (t : Tt) (ntr : Int32) (npa : Nat → Int32) : Prop := ntr = nI t.1 ∧ ∀ i, i < t.1 → npa (5 * i) = nI (t.2.1 i) ∧ npa (5 * i + 1) = nI (t.2.2.1 i) ∧ npa (5 * i + 2) = nI (t.2.2.2.1 i) ∧ npa (5 * i + 3) = nI (t.2.2.2.2.1 i) ∧ npa (5 * i + 4) = nI (t.2.2.2.2.2 i)
theorem trS_z {c v1 v2 v3 f : Nat} {a m : Tb} {t : Tt} (h : v1 = 0 ∨ v2 = 0 ∨ v3 = 0) : trS c v1 v2 v3 f a m t = none := by
  unfold trS
  split
  · rfl
  · rcases h with rfl | rfl | rfl
    · rw [ndS_z]
    · split
      · rfl
      · rw [ndS_z]
    · split
      · rfl
      · split
        · rfl
        · rw [ndS_z]
theorem trS_1 {c v1 v2 v3 f : Nat} {a m : Tb} {t : Tt} (h : ndS v1 a m = none) : trS c v1 v2 v3 f a m t = none := by
  unfold trS
  rw [h]
  split <;> rfl
theorem trS_2 {c v1 v2 v3 f g : Nat} {a m a1 m1 : Tb} {t : Tt} (h : ndS v1 a m = some (g, a1, m1)) (h2 : ndS v2 a1 m1 = none) : trS c v1 v2 v3 f a m t = none := by
  simp only [trS, h, h2]
  split <;> rfl
theorem trS_3 {c v1 v2 v3 f g s : Nat} {a m a1 m1 a2 m2 : Tb} {t : Tt} (h : ndS v1 a m = some (g, a1, m1)) (h2 : ndS v2 a1 m1 = some (s, a2, m2)) (h3 : ndS v3 a2 m2 = none) : trS c v1 v2 v3 f a m t = none := by
  simp only [trS, h, h2, h3]
  split <;> rfl
theorem trS_n {c v1 v2 v3 f : Nat} {a m : Tb} {t : Tt} (h : f = 0 ∨ 30 ≤ t.1) : trS c v1 v2 v3 f a m t = none := by
  unfold trS
  rw [if_pos h]
theorem trS_s {c v1 v2 v3 f g s d : Nat} {a m a1 m1 a2 m2 a3 m3 : Tb} {t : Tt} (h0 : ¬ f = 0) (ht : t.1 < 30) (h : ndS v1 a m = some (g, a1, m1)) (h2 : ndS v2 a1 m1 = some (s, a2, m2)) (h3 : ndS v3 a2 m2 = some (d, a3, m3)) : trS c v1 v2 v3 f a m t = some (a3, m3, (t.1 + 1, up t.2.1 t.1 c, up t.2.2.1 t.1 g, up t.2.2.2.1 t.1 s, up t.2.2.2.2.1 t.1 d, up t.2.2.2.2.2 t.1 f)) := by
  simp only [trS, h, h2, h3]
  exact if_neg (fun w => w.elim h0 (fun w => by omega))
theorem okt_mono {a a' : Tb} {t : Tt} (h : OKt a t) (hn : a.1 ≤ a'.1) : OKt a' t := ⟨h.1, fun i hi => by
  obtain ⟨h1, h2, h3, h4, h5⟩ := h.2 i hi
  exact ⟨h1, by omega, by omega, by omega, h5⟩⟩
theorem trS_ok {c v1 v2 v3 f : Nat} {a m : Tb} {t : Tt} (hc : c = 110 ∨ c = 112 ∨ c = 100) (hv1 : v1 < 2 ^ 31) (hv2 : v2 < 2 ^ 31) (hv3 : v3 < 2 ^ 31) (hf : f ≤ 3) (ha : OKa a) (hm : OKm a m) (ht : OKt a t) {a' m' : Tb} {t' : Tt} (h : trS c v1 v2 v3 f a m t = some (a', m', t')) : OKa a' ∧ OKm a' m' ∧ OKt a' t' := by
  unfold trS at h
  split at h
  · cases h
  · rename_i q
    split at h
    · cases h
    · rename_i g a1 m1 e1
      split at h
      · cases h
      · rename_i s a2 m2 e2
        split at h
        · cases h
        · rename_i d a3 m3 e3
          cases h
          obtain ⟨p1, q1, r1, s1⟩ := ndS_ok hv1 ha hm e1
          obtain ⟨p2, q2, r2, s2⟩ := ndS_ok hv2 q1 r1 e2
          obtain ⟨p3, q3, r3, s3⟩ := ndS_ok hv3 q2 r2 e3
          refine ⟨q3, r3, ?_, fun i hi => ?_⟩
          · have : ¬ 30 ≤ t.1 := fun w => q (Or.inr w)
            show t.1 + 1 ≤ 30
            omega
          · have hi : i < t.1 + 1 := hi
            show (up t.2.1 t.1 c i = 110 ∨ up t.2.1 t.1 c i = 112 ∨ up t.2.1 t.1 c i = 100) ∧ up t.2.2.1 t.1 g i < a'.1 ∧ up t.2.2.2.1 t.1 s i < a'.1 ∧ up t.2.2.2.2.1 t.1 d i < a'.1 ∧ 1 ≤ up t.2.2.2.2.2 t.1 f i ∧ up t.2.2.2.2.2 t.1 f i ≤ 3
            unfold up
            by_cases e : i = t.1
            · simp only [e, if_true]
              have : ¬ f = 0 := fun w => q (Or.inl w)
              exact ⟨hc, by omega, by omega, by omega, by omega, hf⟩
            · simp only [e, if_false]
              obtain ⟨z1, z2, z3, z4, z5⟩ := ht.2 i (by omega)
              exact ⟨z1, by omega, by omega, by omega, z5⟩
theorem xt_push {t : Tt} {tc : Int32} {kin gat src drn stg jam : Nat → Int32} (h : XT t tc kin gat src drn stg jam) (c g s d f : Nat) : XT (t.1 + 1, up t.2.1 t.1 c, up t.2.2.1 t.1 g, up t.2.2.2.1 t.1 s, up t.2.2.2.2.1 t.1 d, up t.2.2.2.2.2 t.1 f) (nI (t.1 + 1)) (upd kin t.1 (nI c)) (upd gat t.1 (nI g)) (upd src t.1 (nI s)) (upd drn t.1 (nI d)) (upd stg t.1 (nI f)) (upd jam t.1 3) :=
  ⟨rfl, ar_push h.2.1 c, ar_push h.2.2.1 g, ar_push h.2.2.2.1 s, ar_push h.2.2.2.2.1 d, ar_push h.2.2.2.2.2.1 f, ar_step h.2.2.2.2.2.2 (v := 3) rfl⟩
theorem yt_push {t : Tt} {ntr : Int32} {npa : Nat → Int32} (h : YT t ntr npa) (c g s d f : Nat) : YT (t.1 + 1, up t.2.1 t.1 c, up t.2.2.1 t.1 g, up t.2.2.2.1 t.1 s, up t.2.2.2.2.1 t.1 d, up t.2.2.2.2.2 t.1 f) (nI (t.1 + 1)) (upd (upd (upd (upd (upd npa (5 * t.1) (nI c)) (5 * t.1 + 1) (nI g)) (5 * t.1 + 2) (nI s)) (5 * t.1 + 3) (nI d)) (5 * t.1 + 4) (nI f)) := by
  refine ⟨rfl, fun i hi => ?_⟩
  have hi : i < t.1 + 1 := hi
  show _ = nI (up t.2.1 t.1 c i) ∧ _ = nI (up t.2.2.1 t.1 g i) ∧ _ = nI (up t.2.2.2.1 t.1 s i) ∧ _ = nI (up t.2.2.2.2.1 t.1 d i) ∧ _ = nI (up t.2.2.2.2.2 t.1 f i)
  by_cases e : i = t.1
  · subst e
    simp [upd, up]
  · obtain ⟨h1, h2, h3, h4, h5⟩ := h.2 i (by omega)
    have k : ∀ x y, x < 5 → y < 5 → ¬ 5 * i + x = 5 * t.1 + y := fun x y hx hy => by omega
    have k0 : ∀ y, y < 5 → ¬ 5 * i = 5 * t.1 + y := fun y hy => by omega
    have k1 : ∀ x, x < 5 → ¬ 5 * i + x = 5 * t.1 := fun x hx => by omega
    have k2 : ¬ 5 * i = 5 * t.1 := by omega
    simp only [upd, up, e, if_false, k _ _ (show 1 < 5 by omega) (show 1 < 5 by omega), k _ _ (show 1 < 5 by omega) (show 2 < 5 by omega), k _ _ (show 1 < 5 by omega) (show 3 < 5 by omega), k _ _ (show 1 < 5 by omega) (show 4 < 5 by omega), k _ _ (show 2 < 5 by omega) (show 1 < 5 by omega), k _ _ (show 2 < 5 by omega) (show 2 < 5 by omega), k _ _ (show 2 < 5 by omega) (show 3 < 5 by omega), k _ _ (show 2 < 5 by omega) (show 4 < 5 by omega), k _ _ (show 3 < 5 by omega) (show 1 < 5 by omega), k _ _ (show 3 < 5 by omega) (show 2 < 5 by omega), k _ _ (show 3 < 5 by omega) (show 3 < 5 by omega), k _ _ (show 3 < 5 by omega) (show 4 < 5 by omega), k _ _ (show 4 < 5 by omega) (show 1 < 5 by omega), k _ _ (show 4 < 5 by omega) (show 2 < 5 by omega), k _ _ (show 4 < 5 by omega) (show 3 < 5 by omega), k _ _ (show 4 < 5 by omega) (show 4 < 5 by omega), k0 _ (show 1 < 5 by omega), k0 _ (show 2 < 5 by omega), k0 _ (show 3 < 5 by omega), k0 _ (show 4 < 5 by omega), k1 _ (show 1 < 5 by omega), k1 _ (show 2 < 5 by omega), k1 _ (show 3 < 5 by omega), k1 _ (show 4 < 5 by omega), k2]
    exact ⟨h1, h2, h3, h4, h5⟩
def trL (T : Nat → Nat) (w : Nat) (A B : Nat → Nat) (c : Nat) (a m : Tb) (t : Tt) : Option (Tb × Tb × Tt) :=
  if w = 4 ∨ w = 5 then trS c (nmS T (A 1) (B 1)) (nmS T (A 2) (B 2)) (nmS T (A 3) (B 3)) (if w = 5 then fgS T (A 4) (B 4) else 2) a m t else none
section TR
variable {T : Nat → Nat} {l w : Nat} {A B : Nat → Nat}
theorem x_tr {chr wst wen : Nat → Int32} (hA : AR l chr T) (hT : ∀ i, i < l → T i < 127) (hl : l ≤ 480) (a1 : AR w wst A) (a2 : AR w wen B) (hw : w ≤ 5) (hO : ∀ i, i < w → A i < B i ∧ B i ≤ l)
    {a m : Tb} {t : Tt} (ha : OKa a) (hm : OKm a m) (ht : OKt a t) {nc mc tc : Int32} {inp stk siz sta nod kin gat src drn stg jam : Nat → Int32} {nam : Nat → Int64} (xa : XA a nc inp stk siz sta) (xm : XM m mc nam nod) (xt : XT t tc kin gat src drn stg jam) {c : Nat}
    {K : Int32 → (Int32 × Int32 × Int32 × (Nat → Int64) × (Nat → Int32) × (Nat → Int32) × (Nat → Int32) × (Nat → Int32) × (Nat → Int32) × (Nat → Int32) × (Nat → Int32) × (Nat → Int32) × (Nat → Int32) × (Nat → Int32) × (Nat → Int32)) → Prop}
    (h0 : trL T w A B c a m t = none → ∀ u, K 0 u) (h1 : ∀ a' m' t' nc tc mc nam nod inp stk siz sta kin gat src drn stg jam, trL T w A B c a m t = some (a', m', t') → XA a' nc inp stk siz sta → XM m' mc nam nod → XT t' tc kin gat src drn stg jam → K 1 (nc, tc, mc, nam, nod, inp, stk, siz, sta, kin, gat, src, drn, stg, jam)) :
    wp_Re_readTransistor (nI w) wst wen chr nc tc mc nam nod inp stk siz sta kin gat src drn stg jam (nI c) K := by
  have n0 : narrow .boolean (.int 0) = .int 0 := by decide
  have n1 : narrow .boolean (.int 1) = .int 1 := by decide
  have J : ∀ (x0 : Int32) (f : Nat), f ≤ 3 → (f = 0 → x0 = -1) → (¬ f = 0 → x0 = nI f) → 4 ≤ w → trL T w A B c a m t = trS c (nmS T (A 1) (B 1)) (nmS T (A 2) (B 2)) (nmS T (A 3) (B 3)) f a m t → wj_Re_readTransistor_35 (nI w) wst wen chr K nc tc mc nam nod inp stk siz sta kin gat src drn stg jam (nI c) x0 := by
    intro x0 f hf hf0 hf1 h4 eL
    rw [eL] at h0 h1
    unfold wj_Re_readTransistor_35
    refine x_node hA hT hl a1 a2 hw hO (i := 1) (by omega) ha hm xa xm (fun e => ?_) (fun g a1' m1 nc mc nam nod inp stk siz sta e1 xa1 xm1 => ?_)
    · have h0 := h0 (trS_1 e)
      refine x_any hA hT hl a1 a2 hw hO (i := 2) (by omega) ha hm xa xm (fun r a' m' nc mc nam nod inp stk siz sta ha hm xa xm => ?_)
      refine x_any hA hT hl a1 a2 hw hO (i := 3) (by omega) ha hm xa xm (fun r2 a' m' nc mc nam nod inp stk siz sta ha hm xa xm => ?_)
      exact ⟨fun _ => h0 _, fun _ => ⟨fun _ => h0 _, fun q => absurd rfl q⟩⟩
    · obtain ⟨p1, oa1, om1, -⟩ := ndS_ok (nmS_lt _ _ _) ha hm e1
      refine x_node hA hT hl a1 a2 hw hO (i := 2) (by omega) oa1 om1 xa1 xm1 (fun e => ?_) (fun s a2' m2 nc mc nam nod inp stk siz sta e2 xa2 xm2 => ?_)
      · have h0 := h0 (trS_2 e1 e)
        refine x_any hA hT hl a1 a2 hw hO (i := 3) (by omega) oa1 om1 xa1 xm1 (fun r2 a' m' nc mc nam nod inp stk siz sta ha hm xa xm => ?_)
        exact ⟨fun _ => h0 _, fun _ => ⟨fun _ => h0 _, fun _ => ⟨fun _ => h0 _, fun q => absurd rfl q⟩⟩⟩
      · obtain ⟨p2, oa2, om2, -⟩ := ndS_ok (nmS_lt _ _ _) oa1 om1 e2
        refine x_node hA hT hl a1 a2 hw hO (i := 3) (by omega) oa2 om2 xa2 xm2 (fun e => ?_) (fun d a3 m3 nc mc nam nod inp stk siz sta e3 xa3 xm3 => ?_)
        · have h0 := h0 (trS_3 e1 e2 e)
          exact ⟨fun _ => h0 _, fun _ => ⟨fun _ => h0 _, fun _ => ⟨fun _ => h0 _, fun _ => ⟨fun q => absurd rfl q, fun _ => h0 _⟩⟩⟩⟩
        · obtain ⟨p3, oa3, om3, -⟩ := ndS_ok (nmS_lt _ _ _) oa2 om2 e3
          have q1 := oa1.1
          have q2 := oa2.1
          have q3 := oa3.1
          by_cases f0 : f = 0
          · exact ⟨fun _ => h0 (trS_n (Or.inl f0)) _, fun q => absurd (hf0 f0) q⟩
          · have x0e := hf1 f0
            subst x0e
            obtain ⟨t30, -⟩ := ht
            obtain ⟨tce, -⟩ := id xt
            refine ⟨fun q => absurd q (nI_m1 (by omega)), fun _ => ⟨fun q => absurd q (nI_m1 (by omega)), fun _ => ⟨fun q => absurd q (nI_m1 (by omega)), fun _ => ⟨fun _ => ?_, fun q => absurd q (nI_m1 (by omega))⟩⟩⟩⟩
            unfold wp_Ne_addTransistor
            rw [tce]
            refine ⟨fun q => ?_, fun q => ⟨n0, h0 (trS_n (Or.inr ?_)) _⟩⟩
            · have t30 : t.1 < 30 := (nI_ltI (b := 30) (by omega) (by omega)).mp q
              have i1 := z_in t30 (Nat.le_refl 30) (by omega)
              refine ⟨i1, i1, i1, i1, i1, i1, n1, ?_⟩
              rw [z_cl t30 (by omega), show nI t.1 + (1 : Int32) = nI (t.1 + 1) from nI_1 _]
              exact h1 _ _ _ _ _ _ _ _ _ _ _ _ _ _ _ _ _ _ (trS_s f0 t30 e1 e2 e3) xa3 xm3 (xt_push xt c g s d f)
            · have : ¬ t.1 < 30 := fun w => q (nI_lt (b := 30) w (by omega))
              omega
  unfold wp_Re_readTransistor
  refine ⟨fun q => ?_, fun q => ⟨fun q2 => ?_, fun q2 => ?_⟩⟩
  · have e : w = 4 := (nI_eq (b := 4) (by omega) (by omega)).mp q
    refine ⟨fun _ => J 2 2 (by omega) (fun h => absurd h (by omega)) (fun _ => rfl) (by omega) ?_, fun q2 => ?_⟩
    · unfold trL
      rw [if_pos (Or.inl e), if_neg (by omega)]
    · have e2 : w = 5 := (nI_eq (b := 5) (by omega) (by omega)).mp q2
      omega
  · have e : w = 5 := (nI_eq (b := 5) (by omega) (by omega)).mp q2
    have eL : trL T w A B c a m t = trS c (nmS T (A 1) (B 1)) (nmS T (A 2) (B 2)) (nmS T (A 3) (B 3)) (fgS T (A 4) (B 4)) a m t := by
      unfold trL
      rw [if_pos (Or.inr e), if_pos e]
    refine ⟨fun q3 => absurd q2 q3, fun _ => x_fig hA hT hl a1 a2 hw hO (i := 4) (by omega) (fun f => ?_) (fun f => ?_)⟩
    · exact J _ _ (fgS_le _ _ _) (fun h => absurd h f) (fun _ => rfl) (by omega) eL
    · exact J _ _ (fgS_le _ _ _) (fun _ => rfl) (fun h => absurd f h) (by omega) eL
  · refine h0 ?_ _
    unfold trL
    refine if_neg (fun h => h.elim (fun h => q (by rw [h]; rfl)) (fun h => q2 (by rw [h]; rfl)))
theorem y_tr {txt frm tto : Nat → Int32} (hA : AR l txt T) (hT : ∀ i, i < l → T i < 127) (hl : l ≤ 480) (a1 : AR w frm A) (a2 : AR w tto B) (hw : w ≤ 240) (hO : ∀ i, i < w → A i < B i ∧ B i ≤ l)
    {a m : Tb} {t : Tt} (ha : OKa a) (hm : OKm a m) (ht : OKt a t) {nnd nnm ntr : Int32} {nin nsz nna nkn npa : Nat → Int32} (ya : YA a nnd nin nsz) (ym : YM m nnm nna nkn) (yt : YT t ntr npa) {c : Nat}
    {K : (Int32 × Int32 × Int32 × Int32 × (Nat → Int32) × (Nat → Int32) × (Nat → Int32) × (Nat → Int32) × (Nat → Int32)) → Prop}
    (h0 : trL T w A B c a m t = none → ∀ nnd ntr nnm npa nna nkn nin nsz, K (nnd, ntr, nnm, 1, npa, nna, nkn, nin, nsz)) (h1 : ∀ a' m' t' nnd ntr nnm npa nna nkn nin nsz, trL T w A B c a m t = some (a', m', t') → YA a' nnd nin nsz → YM m' nnm nna nkn → YT t' ntr npa → K (nnd, ntr, nnm, 0, npa, nna, nkn, nin, nsz)) :
    wp_Mo_transistor nnd ntr nnm 0 (nI w) tto frm txt npa nna nkn nin nsz (nI c) K := by
  have n0 : narrow .boolean (.int 0) = .int 0 ∧ fits .boolean (.int 0) = true := by decide
  have n1 : narrow .boolean (.int 1) = .int 1 ∧ fits .boolean (.int 1) = true := by decide
  have one : ¬ (1 : Int32) = 0 := by decide
  have t30 := ht.1
  have te := yt.1
  have bad : ∀ v2, (∀ nnd ntr nnm npa nna nkn nin nsz, K (nnd, ntr, nnm, 1, npa, nna, nkn, nin, nsz)) → wj_Mo_transistor_48 (nI w) tto frm txt K nnd ntr nnm 0 npa nna nkn nin nsz (nI c) v2 := by
    intro v2 h
    unfold wj_Mo_transistor_48 wj_Mo_transistor_53
    refine ⟨n1, 1, ?_⟩
    rw [ul_Mo_transistor_58]
    exact ⟨fun q => absurd q (by decide), fun _ => ⟨fun _ => ⟨fun q => absurd q one, fun _ => h _ _ _ _ _ _ _ _⟩, fun q => absurd q one⟩⟩
  have nodes : ∀ f : Nat, f ≤ 3 → ¬ f = 0 → t.1 < 30 → 4 ≤ w → trL T w A B c a m t = trS c (nmS T (A 1) (B 1)) (nmS T (A 2) (B 2)) (nmS T (A 3) (B 3)) f a m t → wj_Mo_transistor_93 (nI w) tto frm txt K nnd ntr nnm 0 npa nna nkn nin nsz (nI c) (nI f) := by
    intro f hf f0 t30 h4 eL
    rw [eL] at h0 h1
    unfold wj_Mo_transistor_93
    have e5 : (5 : Int32) * ntr = nI (5 * t.1) := by rw [te]; exact pk_mul 5 _
    rw [e5]
    refine ⟨fun _ => ⟨vp_in_nI (by omega) (by omega), 4, ?_⟩, fun q => absurd rfl q⟩
    rw [z_cl (show 5 * t.1 < 150 by omega) (by omega)]
    have fin : ∀ nnd nnm bd npa nna nkn nin nsz, K (nnd, nI (t.1 + 1), nnm, bd, upd npa (5 * t.1 + 4) (nI f), nna, nkn, nin, nsz) → wj_Mo_transistor_152 (nI w) tto frm txt K nnd ntr nnm bd npa nna nkn nin nsz (nI f) (nI (5 * t.1)) := by
      intro nnd nnm bd npa nna nkn nin nsz h
      unfold wj_Mo_transistor_152
      rw [show nI (5 * t.1) + (4 : Int32) = nI (5 * t.1 + 4) from nI_add _ 4, z_cl (show 5 * t.1 + 4 < 150 by omega) (by omega), te, show nI t.1 + (1 : Int32) = nI (t.1 + 1) from nI_1 _]
      exact ⟨vp_in_nI (by omega) (by omega), h⟩
    rw [ul_Mo_transistor_118]
    refine ⟨fun q => absurd q (by decide), fun _ => ⟨fun q => absurd rfl q, fun _ => y_nodeOf hA hT hl a1 a2 hw hO (i := 1) (by omega) ha hm ya ym (fun e r nnd nnm nna nkn nin nsz => ⟨?_, ?_⟩) (fun g a1' m1 nnd nnm nna nkn nin nsz e1 ya1 ym1 => ⟨?_, ?_⟩)⟩⟩
    · rw [show nI (5 * t.1) + (1 : Int32) = nI (5 * t.1 + 1) from nI_1 _]
      exact vp_in_nI (by omega) (by omega)
    · rw [ul_Mo_transistor_118]
      refine ⟨fun q => absurd q (by decide), fun _ => ⟨fun _ => fin _ _ _ _ _ _ _ _ (h0 (trS_1 e) _ _ _ _ _ _ _ _), fun q => absurd q one⟩⟩
    · rw [show nI (5 * t.1) + (1 : Int32) = nI (5 * t.1 + 1) from nI_1 _]
      exact vp_in_nI (by omega) (by omega)
    · obtain ⟨p1, oa1, om1, -⟩ := ndS_ok (nmS_lt _ _ _) ha hm e1
      rw [show nI (5 * t.1) + (1 : Int32) = nI (5 * t.1 + 1) from nI_1 _, z_cl (show 5 * t.1 + 1 < 150 by omega) (by omega), ul_Mo_transistor_118]
      refine ⟨fun q => absurd q (by decide), fun _ => ⟨fun q => absurd rfl q, fun _ => y_nodeOf hA hT hl a1 a2 hw hO (i := 2) (by omega) oa1 om1 ya1 ym1 (fun e r nnd nnm nna nkn nin nsz => ⟨?_, ?_⟩) (fun s a2' m2 nnd nnm nna nkn nin nsz e2 ya2 ym2 => ⟨?_, ?_⟩)⟩⟩
      · rw [show nI (5 * t.1) + ((1 : Int32) + 1) = nI (5 * t.1 + 2) from nI_add _ 2]
        exact vp_in_nI (by omega) (by omega)
      · rw [ul_Mo_transistor_118]
        refine ⟨fun q => absurd q (by decide), fun _ => ⟨fun _ => fin _ _ _ _ _ _ _ _ (h0 (trS_2 e1 e) _ _ _ _ _ _ _ _), fun q => absurd q one⟩⟩
      · rw [show nI (5 * t.1) + ((1 : Int32) + 1) = nI (5 * t.1 + 2) from nI_add _ 2]
        exact vp_in_nI (by omega) (by omega)
      · obtain ⟨p2, oa2, om2, -⟩ := ndS_ok (nmS_lt _ _ _) oa1 om1 e2
        rw [show nI (5 * t.1) + ((1 : Int32) + 1) = nI (5 * t.1 + 2) from nI_add _ 2, z_cl (show 5 * t.1 + 2 < 150 by omega) (by omega), ul_Mo_transistor_118]
        refine ⟨fun q => absurd q (by decide), fun _ => ⟨fun q => absurd rfl q, fun _ => y_nodeOf hA hT hl a1 a2 hw hO (i := 3) (by omega) oa2 om2 ya2 ym2 (fun e r nnd nnm nna nkn nin nsz => ⟨?_, ?_⟩) (fun d a3 m3 nnd nnm nna nkn nin nsz e3 ya3 ym3 => ⟨?_, ?_⟩)⟩⟩
        · rw [show nI (5 * t.1) + ((1 : Int32) + 1 + 1) = nI (5 * t.1 + 3) from nI_add _ 3]
          exact vp_in_nI (by omega) (by omega)
        · rw [ul_Mo_transistor_118]
          exact ⟨fun _ => fin _ _ _ _ _ _ _ _ (h0 (trS_3 e1 e2 e) _ _ _ _ _ _ _ _), fun q => absurd (by decide) q⟩
        · rw [show nI (5 * t.1) + ((1 : Int32) + 1 + 1) = nI (5 * t.1 + 3) from nI_add _ 3]
          exact vp_in_nI (by omega) (by omega)
        · rw [show nI (5 * t.1) + ((1 : Int32) + 1 + 1) = nI (5 * t.1 + 3) from nI_add _ 3, z_cl (show 5 * t.1 + 3 < 150 by omega) (by omega), ul_Mo_transistor_118]
          exact ⟨fun _ => fin _ _ _ _ _ _ _ _ (h1 _ _ _ _ _ _ _ _ _ _ _ (trS_s f0 t30 e1 e2 e3) ya3 ym3 (yt_push yt c g s d f)), fun q => absurd (by decide) q⟩
  have names : ∀ f : Nat, f ≤ 3 → ¬ f = 0 → t.1 < 30 → 4 ≤ w → trL T w A B c a m t = trS c (nmS T (A 1) (B 1)) (nmS T (A 2) (B 2)) (nmS T (A 3) (B 3)) f a m t → wj_Mo_transistor_53 (nI w) tto frm txt K nnd ntr nnm 0 npa nna nkn nin nsz (nI c) (nI f) 0 := by
    intro f hf f0 t30 h4 eL
    have z : ∀ i, nI (nmS T (A i) (B i)) = 0 → nmS T (A i) (B i) = 0 := fun i e => (nI_eq (b := 0) (nmS_lt _ _ _) (by omega)).mp e
    have E : (∀ nnd ntr nnm npa nna nkn nin nsz, K (nnd, ntr, nnm, 1, npa, nna, nkn, nin, nsz)) → wj_Mo_transistor_93 (nI w) tto frm txt K nnd ntr nnm 1 npa nna nkn nin nsz (nI c) (nI f) := fun h => ⟨fun q => absurd q one, fun _ => h _ _ _ _ _ _ _ _⟩
    unfold wj_Mo_transistor_53
    refine ⟨n0, 4, ?_⟩
    rw [ul_Mo_transistor_58]
    refine ⟨fun q => absurd q (by decide), fun _ => ⟨fun q => absurd rfl q, fun _ => y_name hA hT hl a1 a2 hw hO (i := 1) (by omega) ⟨fun q1 => ?_, fun q1 => ?_⟩⟩⟩
    · rw [ul_Mo_transistor_58]
      refine ⟨fun q => absurd q (by decide), fun _ => ⟨fun q => absurd rfl q, fun _ => y_name hA hT hl a1 a2 hw hO (i := 2) (by omega) ⟨fun q2 => ?_, fun q2 => ?_⟩⟩⟩
      · rw [ul_Mo_transistor_58]
        refine ⟨fun q => absurd q (by decide), fun _ => ⟨fun q => absurd rfl q, fun _ => y_name hA hT hl a1 a2 hw hO (i := 3) (by omega) ⟨fun q3 => ?_, fun q3 => ?_⟩⟩⟩
        · rw [ul_Mo_transistor_58]
          exact ⟨fun _ => nodes f hf f0 t30 h4 eL, fun q => absurd (by decide) q⟩
        · rw [ul_Mo_transistor_58]
          exact ⟨fun _ => E (h0 (by rw [eL]; exact trS_z (Or.inr (Or.inr (z _ q3))))), fun q => absurd (by decide) q⟩
      · rw [ul_Mo_transistor_58]
        exact ⟨fun q => absurd q (by decide), fun _ => ⟨fun _ => E (h0 (by rw [eL]; exact trS_z (Or.inr (Or.inl (z _ q2))))), fun q => absurd q one⟩⟩
    · rw [ul_Mo_transistor_58]
      exact ⟨fun q => absurd q (by decide), fun _ => ⟨fun _ => E (h0 (by rw [eL]; exact trS_z (Or.inl (z _ q1)))), fun q => absurd q one⟩⟩
  have J : ∀ f : Nat, f ≤ 3 → (4 ≤ w → w ≤ 5 → trL T w A B c a m t = trS c (nmS T (A 1) (B 1)) (nmS T (A 2) (B 2)) (nmS T (A 3) (B 3)) f a m t) → wj_Mo_transistor_17 (nI w) tto frm txt K nnd ntr nnm 0 npa nna nkn nin nsz (nI c) (nI f) := by
    intro f hf eL
    have out : ¬ (4 ≤ w ∧ w ≤ 5) → trL T w A B c a m t = none := fun h => by
      unfold trL
      rw [if_neg (by omega)]
    unfold wj_Mo_transistor_17
    refine ⟨fun q => bad _ (h0 (out ?_)), fun q => ⟨fun q2 => bad _ (h0 (out ?_)), fun q2 => ?_⟩⟩
    · have := (nI_ltI (b := 4) (by omega) (by omega)).mp q
      omega
    · have := (nI_ltI (a := 5) (by omega) (by omega)).mp q2
      omega
    · have g1 : ¬ w < 4 := fun h => q (nI_lt (b := 4) h (by omega))
      have g2 : ¬ 5 < w := fun h => q2 (nI_lt (a := 5) h (by omega))
      have eL := eL (by omega) (by omega)
      refine ⟨fun q3 => bad _ (h0 ?_), fun q3 => ⟨fun q4 => ?_, fun q4 => bad _ (h0 ?_)⟩⟩
      · have : f = 0 := (nI_eq (b := 0) (by omega) (by omega)).mp q3
        rw [eL]
        exact trS_n (Or.inl this)
      · have f0 : ¬ f = 0 := fun h => q3 (by rw [h]; rfl)
        have tt : ¬ t.1 = 30 := fun h => q4 (by rw [te, h]; rfl)
        exact names f hf f0 (by omega) (by omega) eL
      · rw [te] at q4
        have : t.1 = 30 := (nI_eq (b := 30) (by omega) (by omega)).mp q4
        rw [eL]
        exact trS_n (Or.inr (by omega))
  unfold wp_Mo_transistor
  refine ⟨fun q => ?_, fun q => ?_⟩
  · have e : ¬ w = 5 := fun h => q (by rw [h]; rfl)
    refine J 2 (by omega) (fun _ _ => ?_)
    unfold trL
    rw [if_pos (by omega), if_neg e]
  · have e : w = 5 := (nI_eq (b := 5) (by omega) (by omega)).mp q
    refine y_fig hA hT hl a1 a2 hw hO (i := 4) (by omega) (J _ (fgS_le _ _ _) (fun _ _ => ?_))
    unfold trL
    rw [if_pos (by omega), if_pos e]
end TR
