/-! PURE: the other lines, and a line as a whole. -/
def inL (T : Nat → Nat) (w : Nat) (A B : Nat → Nat) (a m : Tb) : Option (Tb × Tb) :=
  if w = 2 then match ndS (nmS T (A 1) (B 1)) a m with
    | none => none
    | some (j, a', m') => some ((a'.1, up a'.2.1 j 1, a'.2.2), m')
  else none
def szL (T : Nat → Nat) (w : Nat) (A B : Nat → Nat) (a m : Tb) : Option (Tb × Tb) :=
  if w = 3 ∧ ¬ fgS T (A 2) (B 2) = 0 then match ndS (nmS T (A 1) (B 1)) a m with
    | none => none
    | some (j, a', m') => some ((a'.1, a'.2.1, up a'.2.2 j (fgS T (A 2) (B 2))), m')
  else none
def alS (v1 v2 : Nat) (a m : Tb) : Option (Tb × Tb) :=
  if v1 = 0 ∨ v1 = v2 then none else match lookI (fun i => decide (m.2.1 i = v1)) m.1 0 with
    | some _ => none
    | none => match ndS v2 a m with
      | none => none
      | some (j, a', m') => if 40 ≤ m'.1 then none else some (a', (m'.1 + 1, up m'.2.1 m'.1 v1, up m'.2.2 m'.1 j))
def alL (T : Nat → Nat) (w : Nat) (A B : Nat → Nat) (a m : Tb) : Option (Tb × Tb) := if w = 3 then alS (nmS T (A 1) (B 1)) (nmS T (A 2) (B 2)) a m else none
theorem inL_ok {T : Nat → Nat} {w : Nat} {A B : Nat → Nat} {a m a' m' : Tb} (ha : OKa a) (hm : OKm a m) (h : inL T w A B a m = some (a', m')) : OKa a' ∧ OKm a' m' ∧ a.1 ≤ a'.1 := by
  unfold inL at h
  split at h
  · split at h
    · cases h
    · rename_i j a2 m2 e
      obtain ⟨p, q, r, s⟩ := ndS_ok (nmS_lt _ _ _) ha hm e
      cases h
      refine ⟨⟨q.1, fun i hi => ?_⟩, r, s⟩
      have := q.2 i hi
      show up a2.2.1 j 1 i ≤ 1 ∧ _
      unfold up
      by_cases e : i = j
      · simp only [e, if_true]; rw [e] at this; exact ⟨Nat.le_refl _, this.2⟩
      · simp only [e, if_false]; exact this
  · cases h
theorem szL_ok {T : Nat → Nat} {w : Nat} {A B : Nat → Nat} {a m a' m' : Tb} (ha : OKa a) (hm : OKm a m) (h : szL T w A B a m = some (a', m')) : OKa a' ∧ OKm a' m' ∧ a.1 ≤ a'.1 := by
  have f3 := fgS_le T (A 2) (B 2)
  unfold szL at h
  split at h
  · rename_i w3
    split at h
    · cases h
    · rename_i j a2 m2 e
      obtain ⟨p, q, r, s⟩ := ndS_ok (nmS_lt _ _ _) ha hm e
      cases h
      refine ⟨⟨q.1, fun i hi => ?_⟩, r, s⟩
      have := q.2 i hi
      show _ ∧ 1 ≤ up a2.2.2 j (fgS T (A 2) (B 2)) i ∧ up a2.2.2 j (fgS T (A 2) (B 2)) i ≤ 3
      unfold up
      by_cases e : i = j
      · simp only [e, if_true]; rw [e] at this; exact ⟨this.1, by omega, by omega⟩
      · simp only [e, if_false]; exact this
  · cases h
theorem alL_ok {T : Nat → Nat} {w : Nat} {A B : Nat → Nat} {a m a' m' : Tb} (ha : OKa a) (hm : OKm a m) (h : alL T w A B a m = some (a', m')) : OKa a' ∧ OKm a' m' ∧ a.1 ≤ a'.1 := by
  unfold alL at h
  split at h
  · unfold alS at h
    split at h
    · cases h
    · split at h
      · cases h
      · split at h
        · cases h
        · rename_i j a2 m2 e
          split at h
          · cases h
          · rename_i q40
            obtain ⟨p, q, r, s⟩ := ndS_ok (nmS_lt _ _ _) ha hm e
            cases h
            refine ⟨q, ⟨?_, fun i hi => ?_⟩, s⟩
            · show m2.1 + 1 ≤ 40
              omega
            · have hi : i < m2.1 + 1 := hi
              show up m2.2.1 m2.1 (nmS T (A 1) (B 1)) i < 2 ^ 31 ∧ up m2.2.2 m2.1 j i < a'.1
              unfold up
              by_cases e : i = m2.1
              · simp only [e, if_true]; exact ⟨nmS_lt _ _ _, p⟩
              · simp only [e, if_false]; exact r.2 i (by omega)
  · cases h
def opS (T : Nat → Nat) (w : Nat) (A B : Nat → Nat) (c : Nat) (a m : Tb) (t : Tt) : Option (Tb × Tb × Tt) :=
  if c = 110 ∨ c = 112 ∨ c = 100 then trL T w A B c a m t
  else if c = 105 then (inL T w A B a m).map (fun s => (s.1, s.2, t))
  else if c = 115 then (szL T w A B a m).map (fun s => (s.1, s.2, t))
  else if c = 61 then (alL T w A B a m).map (fun s => (s.1, s.2, t))
  else none
def sgS (T : Nat → Nat) (p q : Nat) : Nat := if q - p = 1 then T p else 0
def lnS (T : Nat → Nat) (b d : Nat) (a m : Tb) (t : Tt) : Option (Tb × Tb × Tt) :=
  if ¬ d = 0 ∧ T b = 124 then some (a, m, t)
  else if (ws T b d).1 = 0 then some (a, m, t)
  else opS T (ws T b d).1 (ws T b d).2.1 (ws T b d).2.2.1 (sgS T ((ws T b d).2.1 0) ((ws T b d).2.2.1 0)) a m t
theorem opS_5 {T : Nat → Nat} {w : Nat} {A B : Nat → Nat} {c : Nat} {a m : Tb} {t : Tt} (h : 5 < w) : opS T w A B c a m t = none := by
  unfold opS trL inL szL alL
  rw [if_neg (show ¬ (w = 4 ∨ w = 5) by omega), if_neg (show ¬ w = 2 by omega), if_neg (show ¬ (w = 3 ∧ ¬ fgS T (A 2) (B 2) = 0) by omega), if_neg (show ¬ w = 3 by omega)]
  simp only [Option.map_none, ite_self]
theorem opS_ok {T : Nat → Nat} {w : Nat} {A B : Nat → Nat} {c : Nat} {a m : Tb} {t : Tt} (ha : OKa a) (hm : OKm a m) (ht : OKt a t) {a' m' : Tb} {t' : Tt} (h : opS T w A B c a m t = some (a', m', t')) : OKa a' ∧ OKm a' m' ∧ OKt a' t' := by
  have two : ∀ o : Option (Tb × Tb), (∀ a' m', o = some (a', m') → OKa a' ∧ OKm a' m' ∧ a.1 ≤ a'.1) → o.map (fun s => (s.1, s.2, t)) = some (a', m', t') → OKa a' ∧ OKm a' m' ∧ OKt a' t' := by
    intro o ho h
    cases o with
    | none => cases h
    | some s =>
      obtain ⟨s1, s2⟩ := s
      cases h
      obtain ⟨p, q, r⟩ := ho _ _ rfl
      exact ⟨p, q, okt_mono ht r⟩
  unfold opS at h
  split at h
  · rename_i hc
    unfold trL at h
    split at h
    · exact trS_ok hc (nmS_lt _ _ _) (nmS_lt _ _ _) (nmS_lt _ _ _) (by split; exact fgS_le _ _ _; omega) ha hm ht h
    · cases h
  · split at h
    · exact two _ (fun _ _ => inL_ok ha hm) h
    · split at h
      · exact two _ (fun _ _ => szL_ok ha hm) h
      · split at h
        · exact two _ (fun _ _ => alL_ok ha hm) h
        · cases h
theorem lnS_ok {T : Nat → Nat} {b d : Nat} {a m : Tb} {t : Tt} (ha : OKa a) (hm : OKm a m) (ht : OKt a t) {a' m' : Tb} {t' : Tt} (h : lnS T b d a m t = some (a', m', t')) : OKa a' ∧ OKm a' m' ∧ OKt a' t' := by
  unfold lnS at h
  split at h
  · cases h; exact ⟨ha, hm, ht⟩
  · split at h
    · cases h; exact ⟨ha, hm, ht⟩
    · exact opS_ok ha hm ht h
section LN
variable {T : Nat → Nat} {l w : Nat} {A B : Nat → Nat}
theorem x_in {chr wst wen : Nat → Int32} (hA : AR l chr T) (hT : ∀ i, i < l → T i < 127) (hl : l ≤ 480) (a1 : AR w wst A) (a2 : AR w wen B) (hw : w ≤ 5) (hO : ∀ i, i < w → A i < B i ∧ B i ≤ l)
    {a m : Tb} (ha : OKa a) (hm : OKm a m) {nc mc : Int32} {inp stk siz sta nod : Nat → Int32} {nam : Nat → Int64} (xa : XA a nc inp stk siz sta) (xm : XM m mc nam nod)
    {K : Int32 → (Int32 × Int32 × (Nat → Int64) × (Nat → Int32) × (Nat → Int32) × (Nat → Int32) × (Nat → Int32) × (Nat → Int32)) → Prop}
    (h0 : inL T w A B a m = none → ∀ u, K 0 u) (h1 : ∀ a' m' nc mc nam nod inp stk siz sta, inL T w A B a m = some (a', m') → XA a' nc inp stk siz sta → XM m' mc nam nod → K 1 (nc, mc, nam, nod, inp, stk, siz, sta)) : wp_Re_readInput (nI w) nc mc wst wen chr nam nod inp stk siz sta K := by
  unfold wp_Re_readInput
  refine ⟨fun q => ?_, fun q => ?_⟩
  · have h0 := h0 (by unfold inL; rw [if_neg (fun e => q (by rw [e]; rfl))])
    exact ⟨fun q => absurd rfl q, fun _ => h0 _⟩
  · have w2 : w = 2 := (nI_eq (b := 2) (by omega) (by omega)).mp q
    unfold inL at h0 h1
    rw [if_pos w2] at h0 h1
    refine x_node hA hT hl a1 a2 hw hO (i := 1) (by omega) ha hm xa xm (fun e => ?_) (fun j a' m' nc mc nam nod inp stk siz sta e xa' xm' => ?_)
    · exact ⟨fun q => absurd rfl q, fun _ => h0 (by rw [e]) _⟩
    · obtain ⟨p, oa, om, -⟩ := ndS_ok (nmS_lt _ _ _) ha hm e
      have n24 := oa.1
      unfold wj_Re_readInput_17
      refine ⟨fun _ => ⟨vp_in_nI (by omega) (by omega), ?_⟩, fun q => absurd q (nI_m1 (by omega))⟩
      rw [nI_clamp (by omega), nar1]
      exact h1 (a'.1, up a'.2.1 j 1, a'.2.2) m' _ _ _ _ _ _ _ _ (by rw [e]) ⟨xa'.1, ar_upd xa'.2.1 j 1, xa'.2.2⟩ xm'
theorem x_sz {chr wst wen : Nat → Int32} (hA : AR l chr T) (hT : ∀ i, i < l → T i < 127) (hl : l ≤ 480) (a1 : AR w wst A) (a2 : AR w wen B) (hw : w ≤ 5) (hO : ∀ i, i < w → A i < B i ∧ B i ≤ l)
    {a m : Tb} (ha : OKa a) (hm : OKm a m) {nc mc : Int32} {inp stk siz sta nod : Nat → Int32} {nam : Nat → Int64} (xa : XA a nc inp stk siz sta) (xm : XM m mc nam nod)
    {K : Int32 → (Int32 × Int32 × (Nat → Int64) × (Nat → Int32) × (Nat → Int32) × (Nat → Int32) × (Nat → Int32) × (Nat → Int32)) → Prop}
    (h0 : szL T w A B a m = none → ∀ u, K 0 u) (h1 : ∀ a' m' nc mc nam nod inp stk siz sta, szL T w A B a m = some (a', m') → XA a' nc inp stk siz sta → XM m' mc nam nod → K 1 (nc, mc, nam, nod, inp, stk, siz, sta)) : wp_Re_readSize (nI w) wst wen chr nc mc nam nod inp stk siz sta K := by
  unfold wp_Re_readSize
  refine ⟨fun q => ?_, fun q => ?_⟩
  · have w3 : w = 3 := (nI_eq (b := 3) (by omega) (by omega)).mp q
    unfold szL at h0 h1
    refine x_fig hA hT hl a1 a2 hw hO (i := 2) (by omega) (fun f => ?_) (fun f => ?_)
    · rw [if_pos ⟨w3, f⟩] at h0 h1
      have f3 := fgS_le T (A 2) (B 2)
      refine x_node hA hT hl a1 a2 hw hO (i := 1) (by omega) ha hm xa xm (fun e => ?_) (fun j a' m' nc mc nam nod inp stk siz sta e xa' xm' => ?_)
      · have h0 := h0 (by rw [e])
        exact ⟨fun _ => h0 _, fun _ => ⟨fun q => absurd rfl q, fun _ => h0 _⟩⟩
      · obtain ⟨p, oa, om, -⟩ := ndS_ok (nmS_lt _ _ _) ha hm e
        have n24 := oa.1
        refine ⟨fun q => absurd q (nI_m1 (by omega)), fun _ => ⟨fun _ => ⟨vp_in_nI (by omega) (by omega), ?_⟩, fun q => absurd q (nI_m1 (by omega))⟩⟩
        rw [nI_clamp (by omega)]
        exact h1 (a'.1, a'.2.1, up a'.2.2 j (fgS T (A 2) (B 2))) m' _ _ _ _ _ _ _ _ (by rw [e]) ⟨xa'.1, xa'.2.1, xa'.2.2.1, ar_upd xa'.2.2.2.1 j _, xa'.2.2.2.2⟩ xm'
    · have h0 := h0 (if_neg (fun q => q.2 f))
      refine x_any hA hT hl a1 a2 hw hO (i := 1) (by omega) ha hm xa xm (fun r a' m' nc mc nam nod inp stk siz sta _ _ xa' xm' => ?_)
      exact ⟨fun _ => h0 _, fun q => absurd rfl q⟩
  · refine h0 ?_ _
    unfold szL
    exact if_neg (fun e => q (by rw [e.1]; rfl))
theorem x_al {chr wst wen : Nat → Int32} (hA : AR l chr T) (hT : ∀ i, i < l → T i < 127) (hl : l ≤ 480) (a1 : AR w wst A) (a2 : AR w wen B) (hw : w ≤ 5) (hO : ∀ i, i < w → A i < B i ∧ B i ≤ l)
    {a m : Tb} (ha : OKa a) (hm : OKm a m) {nc mc : Int32} {inp stk siz sta nod : Nat → Int32} {nam : Nat → Int64} (xa : XA a nc inp stk siz sta) (xm : XM m mc nam nod)
    {K : Int32 → (Int32 × Int32 × (Nat → Int64) × (Nat → Int32) × (Nat → Int32) × (Nat → Int32) × (Nat → Int32) × (Nat → Int32)) → Prop}
    (h0 : alL T w A B a m = none → ∀ u, K 0 u) (h1 : ∀ a' m' nc mc nam nod inp stk siz sta, alL T w A B a m = some (a', m') → XA a' nc inp stk siz sta → XM m' mc nam nod → K 1 (nc, mc, nam, nod, inp, stk, siz, sta)) : wp_Re_readOtherName (nI w) wst wen chr nc mc nam nod inp stk siz sta K := by
  have hv1 := nmS_lt T (A 1) (B 1)
  have hv2 := nmS_lt T (A 2) (B 2)
  unfold wp_Re_readOtherName
  refine ⟨fun q => ?_, fun q => ?_⟩
  · have w3 : w = 3 := (nI_eq (b := 3) (by omega) (by omega)).mp q
    unfold alL at h0 h1
    rw [if_pos w3] at h0 h1
    unfold alS at h0 h1
    obtain ⟨m40, ho⟩ := id hm
    obtain ⟨e2, y1, y2⟩ := id xm
    subst e2
    refine x_name hA hT hl a1 a2 hw hO (i := 1) (by omega) ⟨fun c => ?_, fun c => ?_⟩
    · have v0 := (lN_eq (b := 0) hv1 (by omega)).mp ((lg_cmp_eq _ _).mp c)
      exact h0 (if_pos (Or.inl v0)) _
    · have v0 : ¬ nmS T (A 1) (B 1) = 0 := fun e => c ((lg_cmp_eq _ _).mpr (by rw [e]; rfl))
      have look : lookI (fun i => decide (nam i = lN (nmS T (A 1) (B 1)))) m.1 0 = lookI (fun i => decide (m.2.1 i = nmS T (A 1) (B 1))) m.1 0 := lookI_congr (q := m.1) (fun i hi => by rw [y1 i hi, decide_eq_decide]; exact lN_eq (ho i hi).1 hv1) _ _ (by omega)
      refine x_named m40 (fun e => ?_) (fun j hj e => ?_)
      · rw [look] at e
        refine ⟨fun q => absurd rfl q, fun _ => x_name hA hT hl a1 a2 hw hO (i := 2) (by omega) ⟨fun c2 => ?_, fun c2 => ?_⟩⟩
        · have v12 : ¬ nmS T (A 1) (B 1) = nmS T (A 2) (B 2) := fun e => c2 ((lg_cmp_eq _ _).mpr (by rw [e]))
          rw [if_neg (fun q => q.elim v0 v12), e] at h0 h1
          refine x_node hA hT hl a1 a2 hw hO (i := 2) (by omega) ha hm xa xm (fun e => ?_) (fun j a' m' nc mc nam nod inp stk siz sta e xa' xm' => ?_)
          · exact ⟨fun _ => h0 (by simp only [e]) _, fun q => absurd rfl q⟩
          · obtain ⟨p, oa, om, -⟩ := ndS_ok (nmS_lt _ _ _) ha hm e
            have n24 := oa.1
            have m40' := om.1
            obtain ⟨e2, y1, y2⟩ := id xm'
            subst e2
            refine ⟨fun q => absurd q (nI_m1 (by omega)), fun _ => ?_⟩
            unfold wp_Ne_addName
            simp only [e] at h0 h1
            refine ⟨fun d => ?_, fun d => ?_⟩
            · have d : m'.1 < 40 := (nI_ltI (b := 40) (by omega) (by omega)).mp d
              have i1 := z_in d (Nat.le_refl 40) (by omega)
              refine ⟨i1, i1, fun q => absurd q (by decide), fun _ => ?_⟩
              rw [z_cl d (by omega)]
              refine h1 a' (m'.1 + 1, up m'.2.1 m'.1 (nmS T (A 1) (B 1)), up m'.2.2 m'.1 j) _ _ _ _ _ _ _ _ (if_neg (by omega)) xa' ⟨nI_1 _, fun i hi => ?_, ar_push y2 _⟩
              have hi : i < m'.1 + 1 := hi
              show vp_updL nam m'.1 (lN (nmS T (A 1) (B 1))) i = lN (up m'.2.1 m'.1 (nmS T (A 1) (B 1)) i)
              by_cases w : i = m'.1
              · subst w; simp [vp_updL, up]
              · simp [vp_updL, up, w, y1 i (by omega)]
            · have d : ¬ m'.1 < 40 := fun w => d (nI_lt (b := 40) w (by omega))
              exact ⟨fun _ => h0 (if_pos (by omega)) _, fun q => absurd rfl q⟩
        · have v12 := (lN_eq hv1 hv2).mp ((lg_cmp_eq _ _).mp c2)
          exact h0 (if_pos (Or.inr v12)) _
      · rw [look] at e
        have hk := (ho j hj).2
        have n24 := ha.1
        rw [y2 j hj]
        refine ⟨fun _ => h0 ?_ _, fun q => absurd q (nI_m1 (by omega))⟩
        rw [e]
        split <;> rfl
  · refine h0 ?_ _
    unfold alL
    exact if_neg (fun e => q (by rw [e]; rfl))
theorem y_al {txt frm tto : Nat → Int32} (hA : AR l txt T) (hT : ∀ i, i < l → T i < 127) (hl : l ≤ 480) (a1 : AR w frm A) (a2 : AR w tto B) (hw : w ≤ 240) (hO : ∀ i, i < w → A i < B i ∧ B i ≤ l) (w3 : w = 3)
    {a m : Tb} (ha : OKa a) (hm : OKm a m) {nnd nnm : Int32} {nin nsz nna nkn : Nat → Int32} (ya : YA a nnd nin nsz) (ym : YM m nnm nna nkn)
    {K : (Int32 × Int32 × Int32 × (Nat → Int32) × (Nat → Int32) × (Nat → Int32) × (Nat → Int32)) → Prop}
    (h0 : alL T w A B a m = none → ∀ nnd nnm nna nkn nin nsz, K (nnd, nnm, 1, nna, nkn, nin, nsz)) (h1 : ∀ a' m' nnd nnm nna nkn nin nsz, alL T w A B a m = some (a', m') → YA a' nnd nin nsz → YM m' nnm nna nkn → K (nnd, nnm, 0, nna, nkn, nin, nsz)) : wp_Mo_alias nnd nnm 0 tto frm txt nna nkn nin nsz K := by
  have hv1 := nmS_lt T (A 1) (B 1)
  have hv2 := nmS_lt T (A 2) (B 2)
  have n0 : narrow .boolean (.int 0) = .int 0 ∧ fits .boolean (.int 0) = true := by decide
  have n1 : narrow .boolean (.int 1) = .int 1 ∧ fits .boolean (.int 1) = true := by decide
  have one : ¬ (1 : Int32) = 0 := by decide
  unfold alL at h0 h1
  rw [if_pos w3] at h0 h1
  obtain ⟨m40, ho⟩ := id hm
  obtain ⟨e2, y1, y2⟩ := id ym
  subst e2
  have bad : ∀ v, alS (nmS T (A 1) (B 1)) (nmS T (A 2) (B 2)) a m = none → wj_Mo_alias_37 tto frm txt K nnd (nI m.1) 0 nna nkn nin nsz v := fun v e => by
    unfold wj_Mo_alias_37 wj_Mo_alias_42
    exact ⟨n1, fun q => absurd q one, fun _ => h0 e _ _ _ _ _ _⟩
  unfold wp_Mo_alias
  unfold alS at h0 h1 bad
  refine y_name hA hT hl a1 a2 hw hO (i := 1) (by omega) ⟨fun c => bad _ ?_, fun c => ?_⟩
  · exact if_pos (Or.inl ((nI_eq (b := 0) hv1 (by omega)).mp c))
  · have v0 : ¬ nmS T (A 1) (B 1) = 0 := fun e => c (by rw [e]; rfl)
    refine y_name hA hT hl a1 a2 hw hO (i := 2) (by omega) ⟨fun c2 => bad _ ?_, fun c2 => y_name hA hT hl a1 a2 hw hO (i := 2) (by omega) ⟨fun c3 => bad _ ?_, fun c3 => ?_⟩⟩
    · have v0 := (nI_eq (b := 0) hv2 (by omega)).mp c2
      rw [v0]
      simp only [ndS_z]
      split
      · rfl
      · split <;> rfl
    · exact if_pos (Or.inr ((nI_eq hv1 hv2).mp c3))
    · have v12 : ¬ nmS T (A 1) (B 1) = nmS T (A 2) (B 2) := fun e => c3 (by rw [e])
      have look : lookI (fun i => decide (nna i = nI (nmS T (A 1) (B 1)))) m.1 0 = lookI (fun i => decide (m.2.1 i = nmS T (A 1) (B 1))) m.1 0 := lookI_congr (q := m.1) (fun i hi => by rw [y1 i hi, decide_eq_decide]; exact nI_eq (ho i hi).1 hv1) _ _ (by omega)
      rw [if_neg (fun q => q.elim v0 v12)] at h0 h1 bad
      refine y_find m40 (fun e => ?_) (fun j hj e => ?_)
      · rw [look] at e
        rw [e] at h0 h1
        refine ⟨fun _ => ?_, fun q => absurd rfl q⟩
        unfold wj_Mo_alias_42
        refine ⟨n0, fun _ => y_nodeOf hA hT hl a1 a2 hw hO (i := 2) (by omega) ha hm ya ym (fun e r nnd nnm nna nkn nin nsz => ?_) (fun j a' m' nnd nnm nna nkn nin nsz e ya' ym' => ?_), fun q => absurd rfl q⟩
        · exact ⟨fun _ => h0 (by simp only [e]) _ _ _ _ _ _, fun q => absurd q one⟩
        · obtain ⟨p, oa, om, -⟩ := ndS_ok (nmS_lt _ _ _) ha hm e
          have m40' := om.1
          obtain ⟨e2, y1, y2⟩ := id ym'
          subst e2
          simp only [e] at h0 h1
          refine ⟨fun q => absurd rfl q, fun _ => ?_⟩
          unfold wp_Mo_know
          refine ⟨fun d => ?_, fun d => ?_⟩
          · have d : ¬ m'.1 = 40 := fun w => d (by rw [w]; rfl)
            have i1 := z_in (show m'.1 < 40 by omega) (Nat.le_refl 40) (by omega)
            refine ⟨i1, i1, ?_⟩
            rw [z_cl (show m'.1 < 40 by omega) (by omega)]
            exact h1 a' (m'.1 + 1, up m'.2.1 m'.1 (nmS T (A 1) (B 1)), up m'.2.2 m'.1 j) _ _ _ _ _ _ (if_neg (by omega)) ya' ⟨nI_1 _, ar_push y1 _, ar_push y2 _⟩
          · have d : m'.1 = 40 := (nI_eq (b := 40) (by omega) (by omega)).mp d
            exact h0 (if_pos (by omega)) _ _ _ _ _ _
      · rw [look] at e
        have hk := (ho j hj).2
        have n24 := ha.1
        rw [y2 j hj]
        exact ⟨fun q => absurd q (nI_m1 (by omega)), fun _ => bad _ (by rw [e])⟩
end LN
