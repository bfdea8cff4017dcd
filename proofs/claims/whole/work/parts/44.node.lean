/-! PURE: the node of a word. -/
abbrev Tb : Type := Nat × (Nat → Nat) × (Nat → Nat)
def ndS (v : Nat) (a m : Tb) : Option (Nat × Tb × Tb) :=
  if v = 0 then none else match lookI (fun i => decide (m.2.1 i = v)) m.1 0 with
    | some j => some (m.2.2 j, a, m)
    | none => if 24 ≤ a.1 ∨ 40 ≤ m.1 then none else some (a.1, (a.1 + 1, up a.2.1 a.1 0, up a.2.2 a.1 2), (m.1 + 1, up m.2.1 m.1 v, up m.2.2 m.1 a.1))
def OKa (a : Tb) : Prop := a.1 ≤ 24 ∧ ∀ i, i < a.1 → a.2.1 i ≤ 1 ∧ 1 ≤ a.2.2 i ∧ a.2.2 i ≤ 3
def OKm (a m : Tb) : Prop := m.1 ≤ 40 ∧ ∀ i, i < m.1 → m.2.1 i < 2 ^ 31 ∧ m.2.2 i < a.1
def XA (a : Tb) (nc : Int32) (inp stk siz sta : Nat → Int32) : Prop := nc = nI a.1 ∧ AR a.1 inp a.2.1 ∧ AR a.1 stk (fun _ => 0) ∧ AR a.1 siz a.2.2 ∧ AR a.1 sta (fun _ => 2)
def XM (m : Tb) (mc : Int32) (nam : Nat → Int64) (nod : Nat → Int32) : Prop := mc = nI m.1 ∧ (∀ i, i < m.1 → nam i = lN (m.2.1 i)) ∧ AR m.1 nod m.2.2
def YA (a : Tb) (nnd : Int32) (nin nsz : Nat → Int32) : Prop := nnd = nI a.1 ∧ AR a.1 nin a.2.1 ∧ AR a.1 nsz a.2.2
def YM (m : Tb) (nnm : Int32) (nna nkn : Nat → Int32) : Prop := nnm = nI m.1 ∧ AR m.1 nna m.2.1 ∧ AR m.1 nkn m.2.2
theorem nar0 : vp_nar .boolean (0 : Int32) = 0 := by decide
theorem nar1 : vp_nar .boolean (1 : Int32) = 1 := by decide
theorem nI_m1 {j : Nat} (h : j < 2 ^ 31) : ¬ nI j = (-1 : Int32) := fun e => nI_pos h (by rw [e]; decide)
theorem ndS_z (a m : Tb) : ndS 0 a m = none := by unfold ndS; rw [if_pos rfl]
theorem ndS_ok {v : Nat} (hv : v < 2 ^ 31) {a m : Tb} (ha : OKa a) (hm : OKm a m) {j : Nat} {a' m' : Tb} (h : ndS v a m = some (j, a', m')) : j < a'.1 ∧ OKa a' ∧ OKm a' m' ∧ a.1 ≤ a'.1 := by
  unfold ndS at h
  split at h
  · cases h
  · split at h
    · rename_i k e
      obtain ⟨-, e2, -⟩ := lookI_lt _ _ _ e
      cases h
      exact ⟨(hm.2 k (by omega)).2, ha, hm, Nat.le_refl _⟩
    · split at h
      · cases h
      · rename_i nv e q
        have q1 : ¬ 24 ≤ a.1 := fun w => q (Or.inl w)
        have q2 : ¬ 40 ≤ m.1 := fun w => q (Or.inr w)
        cases h
        refine ⟨Nat.lt_succ_self _, ⟨?_, fun i hi => ?_⟩, ⟨?_, fun i hi => ?_⟩, Nat.le_succ _⟩
        · show a.1 + 1 ≤ 24
          omega
        · have hi : i < a.1 + 1 := hi
          show up a.2.1 a.1 0 i ≤ 1 ∧ 1 ≤ up a.2.2 a.1 2 i ∧ up a.2.2 a.1 2 i ≤ 3
          unfold up
          by_cases e : i = a.1
          · simp [e]
          · simp only [e, if_false]
            exact ha.2 i (by omega)
        · show m.1 + 1 ≤ 40
          omega
        · have hi : i < m.1 + 1 := hi
          show up m.2.1 m.1 v i < 2 ^ 31 ∧ up m.2.2 m.1 a.1 i < a.1 + 1
          unfold up
          by_cases e : i = m.1
          · simp only [e, if_true]
            omega
          · simp only [e, if_false]
            have := hm.2 i (by omega)
            omega
theorem x_known {v : Nat} (hv : v < 2 ^ 31) (hv0 : ¬ v = 0) {a m : Tb} (ha : OKa a) (hm : OKm a m) {nc mc : Int32} {inp stk siz sta nod : Nat → Int32} {nam : Nat → Int64} (xa : XA a nc inp stk siz sta) (xm : XM m mc nam nod)
    {K : Int32 → (Int32 × Int32 × (Nat → Int64) × (Nat → Int32) × (Nat → Int32) × (Nat → Int32) × (Nat → Int32) × (Nat → Int32)) → Prop}
    (h0 : ndS v a m = none → K (-1) (nc, mc, nam, nod, inp, stk, siz, sta)) (h1 : ∀ j a' m' nc mc nam nod inp stk siz sta, ndS v a m = some (j, a', m') → XA a' nc inp stk siz sta → XM m' mc nam nod → K (nI j) (nc, mc, nam, nod, inp, stk, siz, sta)) : wp_Ne_knownOrNewNode nc mc nam nod inp stk siz sta (lN v) K := by
  obtain ⟨e1, x1, x2, x3, x4⟩ := id xa
  obtain ⟨e2, y1, y2⟩ := id xm
  obtain ⟨n24, -⟩ := id ha
  obtain ⟨m40, ho⟩ := id hm
  subst e1
  subst e2
  have look : lookI (fun i => decide (nam i = lN v)) m.1 0 = lookI (fun i => decide (m.2.1 i = v)) m.1 0 := lookI_congr (q := m.1) (fun i hi => by rw [y1 i hi, decide_eq_decide]; exact lN_eq (ho i hi).1 hv) _ _ (by omega)
  unfold wp_Ne_knownOrNewNode
  refine x_named m40 (fun e => ?_) (fun j hj e => ?_)
  · rw [look] at e
    refine ⟨fun _ => ⟨fun c => ?_, fun c => ?_⟩, fun q => absurd rfl q⟩
    · have c : 24 ≤ a.1 := (nI_leI (a := 24) (by omega) (by omega)).mp c
      exact h0 (by unfold ndS; rw [if_neg hv0, e]; exact if_pos (Or.inl c))
    · have c : ¬ 24 ≤ a.1 := fun w => c (nI_le (a := 24) w (by omega))
      unfold wp_Ne_addName
      refine ⟨fun d => ?_, fun d => ?_⟩
      · have d : m.1 < 40 := (nI_ltI (b := 40) (by omega) (by omega)).mp d
        have i1 := z_in d (Nat.le_refl 40) (by omega)
        have i2 := z_in (show a.1 < 24 by omega) (Nat.le_refl 24) (by omega)
        refine ⟨i1, i1, fun _ => ⟨i2, i2, i2, i2, ?_⟩, fun q => absurd q (by decide)⟩
        rw [z_cl d (by omega), z_cl (show a.1 < 24 by omega) (by omega), nar0]
        refine h1 a.1 (a.1 + 1, up a.2.1 a.1 0, up a.2.2 a.1 2) (m.1 + 1, up m.2.1 m.1 v, up m.2.2 m.1 a.1) _ _ _ _ _ _ _ _ ?_ ?_ ?_
        · unfold ndS; rw [if_neg hv0, e]; exact if_neg (fun w => w.elim c (fun w => by omega))
        · exact ⟨nI_1 _, ar_push x1 0, ar_step x2 (v := 0) rfl, ar_push x3 2, ar_step x4 (v := 2) rfl⟩
        · refine ⟨nI_1 _, fun i hi => ?_, ar_push y2 _⟩
          have hi : i < m.1 + 1 := hi
          show vp_updL nam m.1 (lN v) i = lN (up m.2.1 m.1 v i)
          by_cases w : i = m.1
          · subst w; simp [vp_updL, up]
          · simp [vp_updL, up, w, y1 i (by omega)]
      · have d : ¬ m.1 < 40 := fun w => d (nI_lt (b := 40) w (by omega))
        refine ⟨fun q => absurd rfl q, fun _ => h0 ?_⟩
        unfold ndS; rw [if_neg hv0, e]; exact if_pos (Or.inr (by omega))
  · rw [look] at e
    have hk := (ho j hj).2
    rw [y2 j hj]
    refine ⟨fun q => absurd q (nI_m1 (by omega)), fun _ => h1 (m.2.2 j) a m _ _ _ _ _ _ _ _ ?_ xa xm⟩
    unfold ndS; rw [if_neg hv0, e]
section ND
variable {T : Nat → Nat} {l w : Nat} {A B : Nat → Nat}
theorem x_node {chr wst wen : Nat → Int32} (hA : AR l chr T) (hT : ∀ i, i < l → T i < 127) (hl : l ≤ 480) (a1 : AR w wst A) (a2 : AR w wen B) (hw : w ≤ 5) (hO : ∀ i, i < w → A i < B i ∧ B i ≤ l) {i : Nat} (hi : i < w)
    {a m : Tb} (ha : OKa a) (hm : OKm a m) {nc mc : Int32} {inp stk siz sta nod : Nat → Int32} {nam : Nat → Int64} (xa : XA a nc inp stk siz sta) (xm : XM m mc nam nod)
    {K : Int32 → (Int32 × Int32 × (Nat → Int64) × (Nat → Int32) × (Nat → Int32) × (Nat → Int32) × (Nat → Int32) × (Nat → Int32)) → Prop}
    (h0 : ndS (nmS T (A i) (B i)) a m = none → K (-1) (nc, mc, nam, nod, inp, stk, siz, sta)) (h1 : ∀ j a' m' nc mc nam nod inp stk siz sta, ndS (nmS T (A i) (B i)) a m = some (j, a', m') → XA a' nc inp stk siz sta → XM m' mc nam nod → K (nI j) (nc, mc, nam, nod, inp, stk, siz, sta)) : wp_Re_nodeOfWord wst wen chr nc mc nam nod inp stk siz sta (nI i) K := by
  have hv := nmS_lt T (A i) (B i)
  unfold wp_Re_nodeOfWord
  refine x_name hA hT hl a1 a2 hw hO hi ?_
  refine ⟨fun c => ?_, fun c => ?_⟩
  · have v0 : ¬ nmS T (A i) (B i) = 0 := fun e => c ((lg_cmp_eq _ _).mpr (by rw [e]; rfl))
    exact x_known hv v0 ha hm xa xm h0 h1
  · have v0 : nmS T (A i) (B i) = 0 := (lN_eq (b := 0) hv (by omega)).mp ((lg_cmp_eq _ _).mp c)
    exact h0 (by rw [v0]; exact ndS_z a m)
theorem x_any {chr wst wen : Nat → Int32} (hA : AR l chr T) (hT : ∀ i, i < l → T i < 127) (hl : l ≤ 480) (a1 : AR w wst A) (a2 : AR w wen B) (hw : w ≤ 5) (hO : ∀ i, i < w → A i < B i ∧ B i ≤ l) {i : Nat} (hi : i < w)
    {a m : Tb} (ha : OKa a) (hm : OKm a m) {nc mc : Int32} {inp stk siz sta nod : Nat → Int32} {nam : Nat → Int64} (xa : XA a nc inp stk siz sta) (xm : XM m mc nam nod)
    {K : Int32 → (Int32 × Int32 × (Nat → Int64) × (Nat → Int32) × (Nat → Int32) × (Nat → Int32) × (Nat → Int32) × (Nat → Int32)) → Prop}
    (h : ∀ r a' m' nc mc nam nod inp stk siz sta, OKa a' → OKm a' m' → XA a' nc inp stk siz sta → XM m' mc nam nod → K r (nc, mc, nam, nod, inp, stk, siz, sta)) : wp_Re_nodeOfWord wst wen chr nc mc nam nod inp stk siz sta (nI i) K :=
  x_node hA hT hl a1 a2 hw hO hi ha hm xa xm (fun _ => h _ a m _ _ _ _ _ _ _ _ ha hm xa xm) (fun j a' m' _ _ _ _ _ _ _ _ e xa' xm' => h _ a' m' _ _ _ _ _ _ _ _ (ndS_ok (nmS_lt _ _ _) ha hm e).2.1 (ndS_ok (nmS_lt _ _ _) ha hm e).2.2.1 xa' xm')
theorem y_nodeOf {txt frm tto : Nat → Int32} (hA : AR l txt T) (hT : ∀ i, i < l → T i < 127) (hl : l ≤ 480) (a1 : AR w frm A) (a2 : AR w tto B) (hw : w ≤ 240) (hO : ∀ i, i < w → A i < B i ∧ B i ≤ l) {i : Nat} (hi : i < w)
    {a m : Tb} (ha : OKa a) (hm : OKm a m) {nnd nnm bad : Int32} {nin nsz nna nkn : Nat → Int32} (ya : YA a nnd nin nsz) (ym : YM m nnm nna nkn)
    {K : Int32 → (Int32 × Int32 × Int32 × (Nat → Int32) × (Nat → Int32) × (Nat → Int32) × (Nat → Int32)) → Prop}
    (h0 : ndS (nmS T (A i) (B i)) a m = none → ∀ r nnd nnm nna nkn nin nsz, K r (nnd, nnm, 1, nna, nkn, nin, nsz)) (h1 : ∀ j a' m' nnd nnm nna nkn nin nsz, ndS (nmS T (A i) (B i)) a m = some (j, a', m') → YA a' nnd nin nsz → YM m' nnm nna nkn → K (nI j) (nnd, nnm, bad, nna, nkn, nin, nsz)) : wp_Mo_nodeOf nnd nnm bad tto frm txt nna nkn nin nsz (nI i) K := by
  have hv := nmS_lt T (A i) (B i)
  obtain ⟨e1, x1, x3⟩ := id ya
  obtain ⟨e2, y1, y2⟩ := id ym
  obtain ⟨n24, -⟩ := id ha
  obtain ⟨m40, ho⟩ := id hm
  subst e1
  subst e2
  unfold wp_Mo_nodeOf
  refine y_name hA hT hl a1 a2 hw hO hi ?_
  generalize nmS T (A i) (B i) = v at *
  have look : lookI (fun i => decide (nna i = nI v)) m.1 0 = lookI (fun i => decide (m.2.1 i = v)) m.1 0 := lookI_congr (q := m.1) (fun i hi => by rw [y1 i hi, decide_eq_decide]; exact nI_eq (ho i hi).1 hv) _ _ (by omega)
  have z : nI v = 0 → v = 0 := fun e => (nI_eq (b := 0) hv (by omega)).mp e
  have new : lookI (fun i => decide (m.2.1 i = v)) m.1 0 = none ∨ v = 0 → wj_Mo_nodeOf_23 tto frm txt K (nI a.1) (nI m.1) bad nna nkn nin nsz (nI v) := fun e => by
    unfold wj_Mo_nodeOf_23
    refine ⟨fun c => h0 (by rw [z c]; exact ndS_z a m) _ _ _ _ _ _ _, fun c => ⟨fun d => ?_, fun d => ?_⟩⟩
    · have v0 : ¬ v = 0 := fun w => c (by rw [w]; rfl)
      have e := e.resolve_right v0
      have n0 : ¬ a.1 = 24 := fun w => d (by rw [w]; rfl)
      have i2 := z_in (show a.1 < 24 by omega) (Nat.le_refl 24) (by omega)
      unfold wp_Mo_know
      refine ⟨fun f => ?_, fun f => ?_⟩
      · have m0 : ¬ m.1 = 40 := fun w => f (by rw [w]; rfl)
        have i1 := z_in (show m.1 < 40 by omega) (Nat.le_refl 40) (by omega)
        refine ⟨i1, i1, i2, i2, ?_⟩
        rw [z_cl (show m.1 < 40 by omega) (by omega), z_cl (show a.1 < 24 by omega) (by omega), nar0, show nI a.1 + (1 : Int32) = nI (a.1 + 1) from nI_1 _, nI_pred]
        refine h1 a.1 (a.1 + 1, up a.2.1 a.1 0, up a.2.2 a.1 2) (m.1 + 1, up m.2.1 m.1 v, up m.2.2 m.1 a.1) _ _ _ _ _ _ ?_ ?_ ?_
        · unfold ndS; rw [if_neg v0, e]; exact if_neg (fun w => w.elim (fun w => by omega) (fun w => by omega))
        · exact ⟨rfl, ar_push x1 0, ar_push x3 2⟩
        · exact ⟨nI_1 _, ar_push y1 _, ar_push y2 _⟩
      · have m0 : m.1 = 40 := (nI_eq (b := 40) (by omega) (by omega)).mp f
        refine ⟨i2, i2, h0 ?_ _ _ _ _ _ _ _⟩
        unfold ndS; rw [if_neg v0, e]; exact if_pos (Or.inr (by omega))
    · have v0 : ¬ v = 0 := fun w => c (by rw [w]; rfl)
      have e := e.resolve_right v0
      have n0 : a.1 = 24 := (nI_eq (b := 24) (by omega) (by omega)).mp d
      refine h0 ?_ _ _ _ _ _ _ _
      unfold ndS; rw [if_neg v0, e]; exact if_pos (Or.inl (by omega))
  refine y_find m40 (fun e => ?_) (fun j hj e => ?_)
  · rw [look] at e
    exact ⟨fun _ => new (Or.inl e), fun c => ⟨fun _ => new (Or.inl e), fun q => absurd rfl q⟩⟩
  · rw [look] at e
    have hk := (ho j hj).2
    rw [y2 j hj]
    refine ⟨fun c => new (Or.inr (z c)), fun c => ⟨fun q => absurd q (nI_m1 (by omega)), fun _ => h1 (m.2.2 j) a m _ _ _ _ _ _ ?_ ya ym⟩⟩
    unfold ndS; rw [if_neg (fun w => c (by rw [w]; rfl)), e]
end ND
