/-! PURE: load, both sides (written by wip/gen/load.py). -/
def ldS (T : Nat → Nat) (l : Nat) : Nat → Nat → Nat → Nat → Tb → Tb → Tt → Nat ⊕ (Tb × Tb × Tt)
  | 0, _, _, _, a, m, t => Sum.inr (a, m, t)
  | d + 1, p, ln, st, a, m, t => if p = l ∨ T p = 10 then (match lnS T st (p - st) a m t with
      | none => Sum.inl ln
      | some (a', m', t') => ldS T l d (p + 1) (ln + 1) (p + 1) a' m' t') else ldS T l d (p + 1) ln st a m t
theorem ldS_n {T : Nat → Nat} {l d p ln st : Nat} {a m : Tb} {t : Tt} (h : ¬ (p = l ∨ T p = 10)) : ldS T l (d + 1) p ln st a m t = ldS T l d (p + 1) ln st a m t := by
  rw [ldS, if_neg h]
theorem ldS_0 {T : Nat → Nat} {l d p ln st : Nat} {a m : Tb} {t : Tt} (h : p = l ∨ T p = 10) (e : lnS T st (p - st) a m t = none) : ldS T l (d + 1) p ln st a m t = Sum.inl ln := by
  rw [ldS, if_pos h, e]
theorem ldS_1 {T : Nat → Nat} {l d p ln st : Nat} {a m a' m' : Tb} {t t' : Tt} (h : p = l ∨ T p = 10) (e : lnS T st (p - st) a m t = some (a', m', t')) : ldS T l (d + 1) p ln st a m t = ldS T l d (p + 1) (ln + 1) (p + 1) a' m' t' := by
  rw [ldS, if_pos h, e]
theorem ldS_ok {T : Nat → Nat} {l : Nat} : ∀ d p ln st a m t, OKa a → OKm a m → OKt a t → (∀ k, ldS T l d p ln st a m t = Sum.inl k → ln ≤ k ∧ k ≤ ln + d) ∧ ∀ a' m' t', ldS T l d p ln st a m t = Sum.inr (a', m', t') → OKa a' ∧ OKm a' m' ∧ OKt a' t' := by
  intro d
  induction d with
  | zero =>
    intro p ln st a m t ha hm ht
    refine ⟨fun k h => ?_, fun a' m' t' h => ?_⟩
    · simp [ldS] at h
    · simp only [ldS] at h
      cases h
      exact ⟨ha, hm, ht⟩
  | succ d ih =>
    intro p ln st a m t ha hm ht
    by_cases c : p = l ∨ T p = 10
    · cases e : lnS T st (p - st) a m t with
      | none =>
        rw [ldS_0 c e]
        refine ⟨fun k h => ?_, fun a' m' t' h => ?_⟩
        · cases h; omega
        · cases h
      | some s =>
        obtain ⟨a1, m1, t1⟩ := s
        rw [ldS_1 c e]
        obtain ⟨q1, q2, q3⟩ := lnS_ok ha hm ht e
        obtain ⟨g1, g2⟩ := ih (p + 1) (ln + 1) (p + 1) a1 m1 t1 q1 q2 q3
        exact ⟨fun k h => by have := g1 k h; omega, g2⟩
    · rw [ldS_n c]
      obtain ⟨g1, g2⟩ := ih (p + 1) ln st a m t ha hm ht
      exact ⟨fun k h => by have := g1 k h; omega, g2⟩
section LP
variable {T : Nat → Nat} {l w : Nat} {A B : Nat → Nat} {a m : Tb} {t : Tt}
theorem x_lineP {b p : Nat} (hb : b ≤ p) (hp : p ≤ l) {chr wst wen : Nat → Int32} (hA : AR l chr T) (hT : ∀ i, i < l → T i < 127) (hl : l ≤ 480)
    (ha : OKa a) (hm : OKm a m) (ht : OKt a t) {wct nc mc tc : Int32} {inp stk siz sta nod kin gat src drn stg jam : Nat → Int32} {nam : Nat → Int64} (xa : XA a nc inp stk siz sta) (xm : XM m mc nam nod) (xt : XT t tc kin gat src drn stg jam)
    {K : Int32 → (Int32 × (Nat → Int32) × (Nat → Int32) × Int32 × Int32 × Int32 × (Nat → Int64) × (Nat → Int32) × (Nat → Int32) × (Nat → Int32) × (Nat → Int32) × (Nat → Int32) × (Nat → Int32) × (Nat → Int32) × (Nat → Int32) × (Nat → Int32) × (Nat → Int32) × (Nat → Int32)) → Prop}
    (h0 : lnS T b (p - b) a m t = none → ∀ u, K 0 u) (h1 : ∀ a' m' t' wct wst wen nc tc mc nam nod inp stk siz sta kin gat src drn stg jam, lnS T b (p - b) a m t = some (a', m', t') → XA a' nc inp stk siz sta → XM m' mc nam nod → XT t' tc kin gat src drn stg jam → K 1 (wct, wst, wen, nc, tc, mc, nam, nod, inp, stk, siz, sta, kin, gat, src, drn, stg, jam)) :
    wp_Re_readLine wct chr wst wen nc tc mc nam nod inp stk siz sta kin gat src drn stg jam (nI b) (nI p) K := by
  have := x_line (b := b) (d := p - b) (wct := wct) (wst := wst) (wen := wen) hA hT hl (by omega) ha hm ht xa xm xt h0 h1
  rw [show b + (p - b) = p by omega] at this
  exact this
theorem y_lineP {b p : Nat} (hb : b ≤ p) (hp : p ≤ l) {txt frm tto : Nat → Int32} (hA : AR l txt T) (hT : ∀ i, i < l → T i < 127) (hl : l ≤ 480)
    (ha : OKa a) (hm : OKm a m) (ht : OKt a t) {nnd nnm ntr wds : Int32} {nin nsz nna nkn npa : Nat → Int32} (ya : YA a nnd nin nsz) (ym : YM m nnm nna nkn) (yt : YT t ntr npa)
    {K : (Int32 × Int32 × Int32 × Int32 × Int32 × (Nat → Int32) × (Nat → Int32) × (Nat → Int32) × (Nat → Int32) × (Nat → Int32) × (Nat → Int32) × (Nat → Int32)) → Prop}
    (h0 : lnS T b (p - b) a m t = none → ∀ nnd ntr nnm wds frm tto npa nna nkn nin nsz, K (nnd, ntr, nnm, 1, wds, frm, tto, npa, nna, nkn, nin, nsz)) (h1 : ∀ a' m' t' nnd ntr nnm wds frm tto npa nna nkn nin nsz, lnS T b (p - b) a m t = some (a', m', t') → YA a' nnd nin nsz → YM m' nnm nna nkn → YT t' ntr npa → K (nnd, ntr, nnm, 0, wds, frm, tto, npa, nna, nkn, nin, nsz)) :
    wp_Mo_line nnd ntr nnm 0 wds txt frm tto npa nna nkn nin nsz (nI b) (nI p) K := by
  have := y_line (b := b) (d := p - b) (wds := wds) (frm := frm) (tto := tto) hA hT hl (by omega) ha hm ht ya ym yt h0 h1
  rw [show b + (p - b) = p by omega] at this
  exact this
end LP
section LD
variable {T : Nat → Nat} {l : Nat}
theorem x_lines {chr : Nat → Int32} (hA : AR l chr T) (hT : ∀ i, i < l → T i < 127) (hl : l ≤ 480) {K : Int32 → (Int32 × Int32 × Int32 × Int32 × (Nat → Int32) × (Nat → Int32) × (Nat → Int64) × (Nat → Int32) × (Nat → Int32) × (Nat → Int32) × (Nat → Int32) × (Nat → Int32) × (Nat → Int32) × (Nat → Int32) × (Nat → Int32) × (Nat → Int32) × (Nat → Int32) × (Nat → Int32)) → Prop} :
    ∀ (d p ln st : Nat) (a m : Tb) (t : Tt) (wct : Int32) (nc : Int32) (tc : Int32) (mc : Int32) (wst : (Nat → Int32)) (wen : (Nat → Int32)) (nam : (Nat → Int64)) (nod : (Nat → Int32)) (inp : (Nat → Int32)) (stk : (Nat → Int32)) (siz : (Nat → Int32)) (sta : (Nat → Int32)) (kin : (Nat → Int32)) (gat : (Nat → Int32)) (src : (Nat → Int32)) (drn : (Nat → Int32)) (stg : (Nat → Int32)) (jam : (Nat → Int32)), p + d = l + 1 → st ≤ p → ln ≤ p + 1 → OKa a → OKm a m → OKt a t → XA a nc inp stk siz sta → XM m mc nam nod → XT t tc kin gat src drn stg jam →
      (∀ k, ldS T l d p ln st a m t = Sum.inl k → ∀ u, K (nI k) u) → (∀ a' m' t' wct nc tc mc wst wen nam nod inp stk siz sta kin gat src drn stg jam, ldS T l d p ln st a m t = Sum.inr (a', m', t') → XA a' nc inp stk siz sta → XM m' mc nam nod → XT t' tc kin gat src drn stg jam → K 0 (wct, nc, tc, mc, wst, wen, nam, nod, inp, stk, siz, sta, kin, gat, src, drn, stg, jam)) →
      wl_Re_readInto_19 (nI l) chr K (d + 1) wct nc tc mc wst wen nam nod inp stk siz sta kin gat src drn stg jam (nI ln) (nI st) (nI p) := by
  intro d
  induction d with
  | zero =>
    intro p ln st a m t wct nc tc mc wst wen nam nod inp stk siz sta kin gat src drn stg jam hp hst hln ha hm ht xa xm xt h0 h1
    rw [ul_Re_readInto_19]
    exact ⟨fun _ => h1 _ _ _ _ _ _ _ _ _ _ _ _ _ _ _ _ _ _ _ _ _  rfl xa xm xt, fun q => absurd (nI_lt (by omega) (by omega)) q⟩
  | succ d ih =>
    intro p ln st a m t wct nc tc mc wst wen nam nod inp stk siz sta kin gat src drn stg jam hp hst hln ha hm ht xa xm xt h0 h1
    have J : (p = l ∨ T p = 10) → wj_Re_readInto_55 (nI l) chr (wl_Re_readInto_19 (nI l) chr K (d + 1)) K wct nc tc mc wst wen nam nod inp stk siz sta kin gat src drn stg jam (nI ln) (nI st) (nI p) := fun c => by
      unfold wj_Re_readInto_55
      refine x_lineP hst (by omega) hA hT hl ha hm ht xa xm xt
        (fun e u => ⟨fun q => absurd rfl q, fun _ => h0 _ (ldS_0 c e) _⟩) (fun a' m' t' wct wst wen nc tc mc nam nod inp stk siz sta kin gat src drn stg jam e xa xm xt => ⟨fun _ => ?_, fun q => absurd q (by decide)⟩)
      · rw [ldS_1 c e] at h0 h1
        obtain ⟨q1, q2, q3⟩ := lnS_ok ha hm ht e
        rw [nI_1 ln, nI_1 p]
        exact ih (p + 1) (ln + 1) (p + 1) a' m' t' wct nc tc mc wst wen nam nod inp stk siz sta kin gat src drn stg jam (by omega) (by omega) (by omega) q1 q2 q3 xa xm xt h0 h1
    rw [ul_Re_readInto_19]
    unfold wb_Re_readInto_19
    refine ⟨fun q => absurd q (nI_nlt (by omega) (by omega)), fun _ => ⟨fun c => J (Or.inl ((nI_eq (by omega) (by omega)).mp c)), fun c => ?_⟩⟩
    have pl : ¬ p = l := fun e => c (by rw [e])
    have hlt : p < l := by omega
    rw [z_cl hlt (by omega), hA _ hlt, nI_1]
    refine ⟨z_in hlt hl (by omega), fun c2 => ?_, fun c2 => J (Or.inr ((nI_eq (b := 10) (by have := hT p hlt; omega) (by omega)).mp c2))⟩
    have n10 : ¬ (p = l ∨ T p = 10) := fun q => q.elim pl (fun q => c2 (by rw [q]; rfl))
    rw [ldS_n n10] at h0 h1
    exact ih (p + 1) ln st a m t wct nc tc mc wst wen nam nod inp stk siz sta kin gat src drn stg jam (by omega) (by omega) (by omega) ha hm ht xa xm xt h0 h1
theorem y_lines {txt : Nat → Int32} (hA : AR l txt T) (hT : ∀ i, i < l → T i < 127) (hl : l ≤ 480) {nds : Int32} {trs : Int32} {nms : Int32} {stp : Int32} {chs : Int32} {inp : (Nat → Int32)} {szs : (Nat → Int32)} {sts : (Nat → Int32)} {stu : (Nat → Int32)} {knd : (Nat → Int32)} {gte : (Nat → Int32)} {sou : (Nat → Int32)} {dra : (Nat → Int32)} {sth : (Nat → Int32)} {jmd : (Nat → Int32)} {nme : (Nat → Int32)} {kno : (Nat → Int32)} {E69 : Int32 → Int32 → Int32 → Int32 → Int32 → Int32 → Int32 → Int32 → Int32 → Int32 → (Nat → Int32) → (Nat → Int32) → (Nat → Int32) → (Nat → Int32) → (Nat → Int32) → (Nat → Int32) → (Nat → Int32) → (Nat → Int32) → (Nat → Int32) → (Nat → Int32) → (Nat → Int32) → (Nat → Int32) → (Nat → Int32) → (Nat → Int32) → (Nat → Int32) → (Nat → Int32) → (Nat → Int32) → (Nat → Int32) → (Nat → Int32) → Int32 → Prop} {E82 : Int32 → Int32 → Int32 → Int32 → Int32 → Int32 → Int32 → Int32 → Int32 → Int32 → (Nat → Int32) → (Nat → Int32) → (Nat → Int32) → (Nat → Int32) → (Nat → Int32) → (Nat → Int32) → (Nat → Int32) → (Nat → Int32) → (Nat → Int32) → (Nat → Int32) → (Nat → Int32) → (Nat → Int32) → (Nat → Int32) → (Nat → Int32) → (Nat → Int32) → (Nat → Int32) → (Nat → Int32) → (Nat → Int32) → (Nat → Int32) → Prop} {K : Int32 → (Int32 × Int32 × Int32 × Int32 × Int32 × Int32 × Int32 × Int32 × Int32 × Int32 × (Nat → Int32) × (Nat → Int32) × (Nat → Int32) × (Nat → Int32) × (Nat → Int32) × (Nat → Int32) × (Nat → Int32) × (Nat → Int32) × (Nat → Int32) × (Nat → Int32) × (Nat → Int32) × (Nat → Int32) × (Nat → Int32) × (Nat → Int32) × (Nat → Int32) × (Nat → Int32) × (Nat → Int32) × (Nat → Int32) × (Nat → Int32)) → Prop} :
    ∀ (d p ln st : Nat) (a m : Tb) (t : Tt) (nnd : Int32) (ntr : Int32) (nnm : Int32) (wds : Int32) (frm : (Nat → Int32)) (tto : (Nat → Int32)) (npa : (Nat → Int32)) (nna : (Nat → Int32)) (nkn : (Nat → Int32)) (nin : (Nat → Int32)) (nsz : (Nat → Int32)), p + d = l + 1 → st ≤ p → ln ≤ p → OKa a → OKm a m → OKt a t → YA a nnd nin nsz → YM m nnm nna nkn → YT t ntr npa →
      (∀ k, ldS T l d p (ln + 1) st a m t = Sum.inl k → ∀ nnd ntr nnm bad wds frm tto npa nna nkn nin nsz, E69 nds trs nms nnd ntr nnm bad wds stp chs frm tto npa nna nkn nin nsz inp szs sts stu knd gte sou dra sth jmd nme kno (nI k)) → (∀ a' m' t' nnd ntr nnm wds frm tto npa nna nkn nin nsz, ldS T l d p (ln + 1) st a m t = Sum.inr (a', m', t') → YA a' nnd nin nsz → YM m' nnm nna nkn → YT t' ntr npa → E82 nds trs nms nnd ntr nnm 0 wds stp chs frm tto npa nna nkn nin nsz inp szs sts stu knd gte sou dra sth jmd nme kno) →
      wl_Mo_load_26 (nI l) txt E69 E82 K (d + 1) nds trs nms nnd ntr nnm 0 wds stp chs frm tto npa nna nkn nin nsz inp szs sts stu knd gte sou dra sth jmd nme kno (nI st) (nI ln) (nI p) := by
  intro d
  induction d with
  | zero =>
    intro p ln st a m t nnd ntr nnm wds frm tto npa nna nkn nin nsz hp hst hln ha hm ht ya ym yt h0 h1
    rw [ul_Mo_load_26]
    exact ⟨fun _ => h1 _ _ _ _ _ _ _ _ _ _ _ _ _ _  rfl ya ym yt, fun q => absurd (nI_lt (by omega) (by omega)) q⟩
  | succ d ih =>
    intro p ln st a m t nnd ntr nnm wds frm tto npa nna nkn nin nsz hp hst hln ha hm ht ya ym yt h0 h1
    have J : (p = l ∨ T p = 10) → wj_Mo_load_53 (nI l) txt (wl_Mo_load_26 (nI l) txt E69 E82 K (d + 1)) E69 E82 K nds trs nms nnd ntr nnm 0 wds stp chs frm tto npa nna nkn nin nsz inp szs sts stu knd gte sou dra sth jmd nme kno (nI st) (nI ln) (nI p) := fun c => by
      unfold wj_Mo_load_53
      refine y_lineP hst (by omega) hA hT hl ha hm ht ya ym yt
        (fun e nnd ntr nnm wds frm tto npa nna nkn nin nsz => ⟨fun q => absurd q (by show ¬ (1 : Int32) = 0; decide), fun _ => ?_⟩) (fun a' m' t' nnd ntr nnm wds frm tto npa nna nkn nin nsz e ya ym yt => ⟨fun _ => ?_, fun q => absurd rfl q⟩)
      · rw [nI_1]
        exact h0 _ (ldS_0 c e) _ _ _ _ _ _ _ _ _ _ _ _ 
      · rw [ldS_1 c e] at h0 h1
        obtain ⟨q1, q2, q3⟩ := lnS_ok ha hm ht e
        rw [nI_1 ln, nI_1 p]
        exact ih (p + 1) (ln + 1) (p + 1) a' m' t' nnd ntr nnm wds frm tto npa nna nkn nin nsz (by omega) (by omega) (by omega) q1 q2 q3 ya ym yt h0 h1
    rw [ul_Mo_load_26]
    unfold wb_Mo_load_26
    refine ⟨fun q => absurd q (nI_nlt (by omega) (by omega)), fun _ => ⟨fun c => J (Or.inl ((nI_eq (by omega) (by omega)).mp c)), fun c => ?_⟩⟩
    have pl : ¬ p = l := fun e => c (by rw [e])
    have hlt : p < l := by omega
    rw [z_cl hlt (by omega), hA _ hlt, nI_1]
    refine ⟨z_in hlt hl (by omega), fun c2 => ?_, fun c2 => J (Or.inr ((nI_eq (b := 10) (by have := hT p hlt; omega) (by omega)).mp c2))⟩
    have n10 : ¬ (p = l ∨ T p = 10) := fun q => q.elim pl (fun q => c2 (by rw [q]; rfl))
    rw [ldS_n n10] at h0 h1
    exact ih (p + 1) ln st a m t nnd ntr nnm wds frm tto npa nna nkn nin nsz (by omega) (by omega) (by omega) ha hm ht ya ym yt h0 h1
theorem nar_I {k : Nat} (h : k ≤ 1) : vp_nar .boolean (nI k) = nI k := by
  rcases (show k = 0 ∨ k = 1 by omega) with e | e <;> subst e <;> decide
theorem y_take {a m : Tb} {t : Tt} (ha : OKa a) (hm : OKm a m) (ht : OKt a t) {nnd ntr nnm : Int32} {nin nsz npa nna nkn : Nat → Int32} (ya : YA a nnd nin nsz) (ym : YM m nnm nna nkn) (yt : YT t ntr npa) {nds : Int32} {trs : Int32} {nms : Int32} {stp : Int32} {chs : Int32} {inp : (Nat → Int32)} {szs : (Nat → Int32)} {sts : (Nat → Int32)} {stu : (Nat → Int32)} {knd : (Nat → Int32)} {gte : (Nat → Int32)} {sou : (Nat → Int32)} {dra : (Nat → Int32)} {sth : (Nat → Int32)} {jmd : (Nat → Int32)} {nme : (Nat → Int32)} {kno : (Nat → Int32)} {K : (Int32 × Int32 × Int32 × Int32 × Int32 × (Nat → Int32) × (Nat → Int32) × (Nat → Int32) × (Nat → Int32) × (Nat → Int32) × (Nat → Int32) × (Nat → Int32) × (Nat → Int32) × (Nat → Int32) × (Nat → Int32) × (Nat → Int32) × (Nat → Int32)) → Prop}
    (h : ∀ inp szs sts stu knd gte sou dra sth jmd nme kno, AR a.1 inp a.2.1 → AR a.1 szs a.2.2 → AR a.1 sts (fun _ => 2) → AR a.1 stu (fun _ => 0) → AR t.1 knd t.2.1 → AR t.1 gte t.2.2.1 → AR t.1 sou t.2.2.2.1 → AR t.1 dra t.2.2.2.2.1 → AR t.1 sth t.2.2.2.2.2 → AR t.1 jmd (fun _ => 3) → AR m.1 nme m.2.1 → AR m.1 kno m.2.2 → K (nI a.1, nI t.1, nI m.1, 0, 0, inp, szs, sts, stu, knd, gte, sou, dra, sth, jmd, nme, kno)) :
    wp_Mo_take nds trs nms nnd ntr nnm stp chs nin inp nsz szs sts stu npa knd gte sou dra sth jmd nna nme nkn kno K := by
  obtain ⟨e1, x1, x2⟩ := ya
  obtain ⟨e2, y1, y2⟩ := ym
  obtain ⟨e3, z1⟩ := yt
  obtain ⟨n24, oa⟩ := ha
  obtain ⟨m40, om⟩ := hm
  obtain ⟨t30, ot⟩ := ht
  subst e1
  subst e2
  subst e3
  have L3 : ∀ (E : Int32 → Int32 → Int32 → Int32 → Int32 → (Nat → Int32) → (Nat → Int32) → (Nat → Int32) → (Nat → Int32) → (Nat → Int32) → (Nat → Int32) → (Nat → Int32) → (Nat → Int32) → (Nat → Int32) → (Nat → Int32) → (Nat → Int32) → (Nat → Int32) → Prop) (nds trs stp chs : Int32) (inp szs sts stu knd gte sou dra sth jmd : Nat → Int32), (∀ nme kno, AR m.1 nme m.2.1 → AR m.1 kno m.2.2 → E nds trs (nI m.1) stp chs inp szs sts stu knd gte sou dra sth jmd nme kno) → ∀ (d i : Nat) (nme kno : Nat → Int32), i + d = m.1 → AR i nme m.2.1 → AR i kno m.2.2 → wl_Mo_take_181 (nI a.1) (nI t.1) (nI m.1) nin nsz npa nna nkn E K (d + 1) nds trs (nI m.1) stp chs inp szs sts stu knd gte sou dra sth jmd nme kno (nI i) := by
    intro E nds trs stp chs inp szs sts stu knd gte sou dra sth jmd hE d
    induction d with
    | zero =>
      intro i nme kno hi a1 a2
      have e : i = m.1 := by omega
      subst e
      rw [ul_Mo_take_181]
      exact ⟨fun _ => hE _ _ a1 a2, fun q => absurd (Int32.le_refl _) q⟩
    | succ d ih =>
      intro i nme kno hi a1 a2
      have hlt : i < m.1 := by omega
      have i1 := z_in hlt m40 (by omega)
      rw [ul_Mo_take_181]
      unfold wb_Mo_take_181
      rw [z_cl hlt (by omega), nI_1, y1 i hlt, y2 i hlt]
      exact ⟨fun q => absurd q (nI_ge hlt (by omega)), fun _ => ⟨i1, i1, i1, i1, ih (i + 1) _ _ (by omega) (ar_step a1 rfl) (ar_step a2 rfl)⟩⟩
  have L2 : ∀ (E : Int32 → Int32 → Int32 → Int32 → Int32 → (Nat → Int32) → (Nat → Int32) → (Nat → Int32) → (Nat → Int32) → (Nat → Int32) → (Nat → Int32) → (Nat → Int32) → (Nat → Int32) → (Nat → Int32) → (Nat → Int32) → (Nat → Int32) → (Nat → Int32) → Prop) (nds nms stp chs : Int32) (inp szs sts stu nme kno : Nat → Int32), (∀ knd gte sou dra sth jmd, AR t.1 knd t.2.1 → AR t.1 gte t.2.2.1 → AR t.1 sou t.2.2.2.1 → AR t.1 dra t.2.2.2.2.1 → AR t.1 sth t.2.2.2.2.2 → AR t.1 jmd (fun _ => 3) → E nds (nI t.1) nms stp chs inp szs sts stu knd gte sou dra sth jmd nme kno) → ∀ (d i : Nat) (knd gte sou dra sth jmd : Nat → Int32), i + d = t.1 → AR i knd t.2.1 → AR i gte t.2.2.1 → AR i sou t.2.2.2.1 → AR i dra t.2.2.2.2.1 → AR i sth t.2.2.2.2.2 → AR i jmd (fun _ => 3) → wl_Mo_take_72 (nI a.1) (nI t.1) (nI m.1) nin nsz npa nna nkn E K (d + 1) nds (nI t.1) nms stp chs inp szs sts stu knd gte sou dra sth jmd nme kno (nI i) := by
    intro E nds nms stp chs inp szs sts stu nme kno hE d
    induction d with
    | zero =>
      intro i knd gte sou dra sth jmd hi a1 a2 a3 a4 a5 a6
      have e : i = t.1 := by omega
      subst e
      rw [ul_Mo_take_72]
      exact ⟨fun _ => hE _ _ _ _ _ _ a1 a2 a3 a4 a5 a6, fun q => absurd (Int32.le_refl _) q⟩
    | succ d ih =>
      intro i knd gte sou dra sth jmd hi a1 a2 a3 a4 a5 a6
      have hlt : i < t.1 := by omega
      have i1 := z_in hlt t30 (by omega)
      obtain ⟨q0, q1, q2, q3, q4⟩ := z1 i hlt
      rw [ul_Mo_take_72]
      unfold wb_Mo_take_72
      rw [show (5 : Int32) * nI i = nI (5 * i) from pk_mul 5 _, show nI (5 * i) + (1 : Int32) = nI (5 * i + 1) from nI_add _ 1, show nI (5 * i) + (2 : Int32) = nI (5 * i + 2) from nI_add _ 2, show nI (5 * i) + (3 : Int32) = nI (5 * i + 3) from nI_add _ 3, show nI (5 * i) + (4 : Int32) = nI (5 * i + 4) from nI_add _ 4, z_cl hlt (by omega), nI_1, z_cl (show 5 * i < 150 by omega) (by omega), z_cl (show 5 * i + 1 < 150 by omega) (by omega), z_cl (show 5 * i + 2 < 150 by omega) (by omega), z_cl (show 5 * i + 3 < 150 by omega) (by omega), z_cl (show 5 * i + 4 < 150 by omega) (by omega), q0, q1, q2, q3, q4]
      have v : ∀ k, k < 150 → vp_in (nI k) 150 := fun k hk => vp_in_nI hk (by omega)
      exact ⟨fun q => absurd q (nI_ge hlt (by omega)), fun _ => ⟨v _ (by omega), i1, v _ (by omega), i1, v _ (by omega), i1, v _ (by omega), i1, v _ (by omega), i1, i1, ih (i + 1) _ _ _ _ _ _ (by omega) (ar_step a1 rfl) (ar_step a2 rfl) (ar_step a3 rfl) (ar_step a4 rfl) (ar_step a5 rfl) (ar_step a6 (v := 3) rfl)⟩⟩
  have L1 : ∀ (E : Int32 → Int32 → Int32 → Int32 → Int32 → (Nat → Int32) → (Nat → Int32) → (Nat → Int32) → (Nat → Int32) → (Nat → Int32) → (Nat → Int32) → (Nat → Int32) → (Nat → Int32) → (Nat → Int32) → (Nat → Int32) → (Nat → Int32) → (Nat → Int32) → Prop) (trs nms stp chs : Int32) (knd gte sou dra sth jmd nme kno : Nat → Int32), (∀ inp szs sts stu, AR a.1 inp a.2.1 → AR a.1 szs a.2.2 → AR a.1 sts (fun _ => 2) → AR a.1 stu (fun _ => 0) → E (nI a.1) trs nms stp chs inp szs sts stu knd gte sou dra sth jmd nme kno) → ∀ (d i : Nat) (inp szs sts stu : Nat → Int32), i + d = a.1 → AR i inp a.2.1 → AR i szs a.2.2 → AR i sts (fun _ => 2) → AR i stu (fun _ => 0) → wl_Mo_take_10 (nI a.1) (nI t.1) (nI m.1) nin nsz npa nna nkn E K (d + 1) (nI a.1) trs nms stp chs inp szs sts stu knd gte sou dra sth jmd nme kno (nI i) := by
    intro E trs nms stp chs knd gte sou dra sth jmd nme kno hE d
    induction d with
    | zero =>
      intro i inp szs sts stu hi a1 a2 a3 a4
      have e : i = a.1 := by omega
      subst e
      rw [ul_Mo_take_10]
      exact ⟨fun _ => hE _ _ _ _ a1 a2 a3 a4, fun q => absurd (Int32.le_refl _) q⟩
    | succ d ih =>
      intro i inp szs sts stu hi a1 a2 a3 a4
      have hlt : i < a.1 := by omega
      have i1 := z_in hlt n24 (by omega)
      rw [ul_Mo_take_10]
      unfold wb_Mo_take_10
      rw [z_cl hlt (by omega), nI_1, x1 i hlt, x2 i hlt, nar_I (oa i hlt).1, nar0]
      exact ⟨fun q => absurd q (nI_ge hlt (by omega)), fun _ => ⟨i1, i1, i1, i1, i1, i1, ih (i + 1) _ _ _ _ (by omega) (ar_step a1 rfl) (ar_step a2 rfl) (ar_step a3 (v := 2) rfl) (ar_step a4 (v := 0) rfl)⟩⟩
  unfold wp_Mo_take
  have z0 : ∀ (f : Nat → Int32) (G : Nat → Nat), AR 0 f G := fun f G i hi => absurd hi (by omega)
  exact ⟨a.1 + 1, L1 _ _ _ _ _ _ _ _ _ _ _ _ _ (fun inp szs sts stu b1 b2 b3 b4 => ⟨t.1 + 1, L2 _ _ _ _ _ _ _ _ _ _ _ (fun knd gte sou dra sth jmd c1 c2 c3 c4 c5 c6 => ⟨m.1 + 1, L3 _ _ _ _ _ _ _ _ _ _ _ _ _ _ _ (fun nme kno d1 d2 => h _ _ _ _ _ _ _ _ _ _ _ _ b1 b2 b3 b4 c1 c2 c3 c4 c5 c6 d1 d2) m.1 0 _ _ (by omega) (z0 _ _) (z0 _ _)⟩) t.1 0 _ _ _ _ _ _ (by omega) (z0 _ _) (z0 _ _) (z0 _ _) (z0 _ _) (z0 _ _) (z0 _ _)⟩) a.1 0 _ _ _ _ (by omega) (z0 _ _) (z0 _ _) (z0 _ _) (z0 _ _)⟩
theorem j_load {chr txt : Nat → Int32} (hA : AR l chr T) (hB : AR l txt T) (ho : ∀ j, j < l → okc (T j)) (hl : l ≤ 480) {made : Int32} {nc : Int32} {tc : Int32} {mc : Int32} {pa_nc : Int32} {pa_tc : Int32} {pa_mc : Int32} {inp : (Nat → Int32)} {pa_inp : (Nat → Int32)} {stk : (Nat → Int32)} {pa_stk : (Nat → Int32)} {siz : (Nat → Int32)} {pa_siz : (Nat → Int32)} {sta : (Nat → Int32)} {pa_sta : (Nat → Int32)} {kin : (Nat → Int32)} {pa_kin : (Nat → Int32)} {gat : (Nat → Int32)} {pa_gat : (Nat → Int32)} {src : (Nat → Int32)} {pa_src : (Nat → Int32)} {drn : (Nat → Int32)} {pa_drn : (Nat → Int32)} {stg : (Nat → Int32)} {pa_stg : (Nat → Int32)} {jam : (Nat → Int32)} {pa_jam : (Nat → Int32)} {nam : (Nat → Int64)} {pa_nam : (Nat → Int64)} {nod : (Nat → Int32)} {pa_nod : (Nat → Int32)} {wct : Int32} {wst : (Nat → Int32)} {wen : (Nat → Int32)} {cnt : Int32} {m_nds : Int32} {m_trs : Int32} {m_nms : Int32} {m_nnd : Int32} {m_ntr : Int32} {m_nnm : Int32} {m_bad : Int32} {m_wds : Int32} {m_stp : Int32} {m_chs : Int32} {m_frm : (Nat → Int32)} {m_tto : (Nat → Int32)} {m_npa : (Nat → Int32)} {m_nna : (Nat → Int32)} {m_nkn : (Nat → Int32)} {m_nin : (Nat → Int32)} {m_nsz : (Nat → Int32)} {m_inp : (Nat → Int32)} {m_szs : (Nat → Int32)} {m_sts : (Nat → Int32)} {m_stu : (Nat → Int32)} {m_knd : (Nat → Int32)} {m_gte : (Nat → Int32)} {m_sou : (Nat → Int32)} {m_dra : (Nat → Int32)} {m_sth : (Nat → Int32)} {m_jmd : (Nat → Int32)} {m_nme : (Nat → Int32)} {m_kno : (Nat → Int32)} {K2 : Int32 → (Int32 × Int32 × Int32 × Int32 × Int32 × Int32 × Int32 × (Nat → Int32) × (Nat → Int32) × (Nat → Int32) × (Nat → Int32) × (Nat → Int32) × (Nat → Int32) × (Nat → Int32) × (Nat → Int32) × (Nat → Int32) × (Nat → Int32) × (Nat → Int32) × (Nat → Int32) × (Nat → Int32) × (Nat → Int32) × (Nat → Int32) × (Nat → Int32) × (Nat → Int32) × (Nat → Int32) × (Nat → Int32) × (Nat → Int32) × (Nat → Int64) × (Nat → Int64) × (Nat → Int32) × (Nat → Int32) × Int32 × (Nat → Int32) × (Nat → Int32) × Int32) → Int32 → (Int32 × Int32 × Int32 × Int32 × Int32 × Int32 × Int32 × Int32 × Int32 × Int32 × (Nat → Int32) × (Nat → Int32) × (Nat → Int32) × (Nat → Int32) × (Nat → Int32) × (Nat → Int32) × (Nat → Int32) × (Nat → Int32) × (Nat → Int32) × (Nat → Int32) × (Nat → Int32) × (Nat → Int32) × (Nat → Int32) × (Nat → Int32) × (Nat → Int32) × (Nat → Int32) × (Nat → Int32) × (Nat → Int32) × (Nat → Int32)) → Prop}
    (h0 : ∀ (r : Int32) (pa_nc : Int32) (pa_tc : Int32) (pa_mc : Int32) (pa_inp : (Nat → Int32)) (pa_stk : (Nat → Int32)) (pa_siz : (Nat → Int32)) (pa_sta : (Nat → Int32)) (pa_kin : (Nat → Int32)) (pa_gat : (Nat → Int32)) (pa_src : (Nat → Int32)) (pa_drn : (Nat → Int32)) (pa_stg : (Nat → Int32)) (pa_jam : (Nat → Int32)) (pa_nam : (Nat → Int64)) (pa_nod : (Nat → Int32)) (wct : Int32) (wst : (Nat → Int32)) (wen : (Nat → Int32)) (m_nnd : Int32) (m_ntr : Int32) (m_nnm : Int32) (m_bad : Int32) (m_wds : Int32) (m_frm : (Nat → Int32)) (m_tto : (Nat → Int32)) (m_npa : (Nat → Int32)) (m_nna : (Nat → Int32)) (m_nkn : (Nat → Int32)) (m_nin : (Nat → Int32)) (m_nsz : (Nat → Int32)), K2 r (made, nc, tc, mc, pa_nc, pa_tc, pa_mc, inp, pa_inp, stk, pa_stk, siz, pa_siz, sta, pa_sta, kin, pa_kin, gat, pa_gat, src, pa_src, drn, pa_drn, stg, pa_stg, jam, pa_jam, nam, pa_nam, nod, pa_nod, wct, wst, wen, cnt) r (m_nds, m_trs, m_nms, m_nnd, m_ntr, m_nnm, m_bad, m_wds, m_stp, m_chs, m_frm, m_tto, m_npa, m_nna, m_nkn, m_nin, m_nsz, m_inp, m_szs, m_sts, m_stu, m_knd, m_gte, m_sou, m_dra, m_sth, m_jmd, m_nme, m_kno))
    (h1 : ∀ (n t q : Nat) (I Sz Kd G So Dr Sg : Nat → Nat) (n_inp : (Nat → Int32)) (n_stk : (Nat → Int32)) (n_siz : (Nat → Int32)) (n_sta : (Nat → Int32)) (n_kin : (Nat → Int32)) (n_gat : (Nat → Int32)) (n_src : (Nat → Int32)) (n_drn : (Nat → Int32)) (n_stg : (Nat → Int32)) (n_jam : (Nat → Int32)) (n_nam : (Nat → Int64)) (n_nod : (Nat → Int32)) (wct : Int32) (wst wen : Nat → Int32) (p_inp : (Nat → Int32)) (p_szs : (Nat → Int32)) (p_sts : (Nat → Int32)) (p_stu : (Nat → Int32)) (p_knd : (Nat → Int32)) (p_gte : (Nat → Int32)) (p_sou : (Nat → Int32)) (p_dra : (Nat → Int32)) (p_sth : (Nat → Int32)) (p_jmd : (Nat → Int32)) (p_nme : (Nat → Int32)) (p_kno : (Nat → Int32)) (m_nnd : Int32) (m_ntr : Int32) (m_nnm : Int32) (m_bad : Int32) (m_wds : Int32) (m_frm : (Nat → Int32)) (m_tto : (Nat → Int32)) (m_npa : (Nat → Int32)) (m_nna : (Nat → Int32)) (m_nkn : (Nat → Int32)) (m_nin : (Nat → Int32)) (m_nsz : (Nat → Int32)), NRg n t I (fun _ => 0) Sz (fun _ => 2) Kd G So Dr Sg (fun _ => 3) → NAr n t I (fun _ => 0) Sz (fun _ => 2) Kd G So Dr Sg (fun _ => 3) n_inp n_stk n_siz n_sta n_kin n_gat n_src n_drn n_stg n_jam → NAr n t I (fun _ => 0) Sz (fun _ => 2) Kd G So Dr Sg (fun _ => 3) p_inp p_stu p_szs p_sts p_knd p_gte p_sou p_dra p_sth p_jmd → q ≤ 40 → (∀ i, i < q → n_nam i = (p_nme i).toInt64 ∧ n_nod i = p_kno i) → K2 (nI t) (0, nI n, nI t, nI q, nc, tc, mc, n_inp, inp, n_stk, stk, n_siz, siz, n_sta, sta, n_kin, kin, n_gat, gat, n_src, src, n_drn, drn, n_stg, stg, n_jam, jam, n_nam, nam, n_nod, nod, wct, wst, wen, 0) (nI t) (nI n, nI t, nI q, m_nnd, m_ntr, m_nnm, m_bad, m_wds, 0, 0, m_frm, m_tto, m_npa, m_nna, m_nkn, m_nin, m_nsz, p_inp, p_szs, p_sts, p_stu, p_knd, p_gte, p_sou, p_dra, p_sth, p_jmd, p_nme, p_kno)) :
    wp_Sw_load made nc tc mc pa_nc pa_tc pa_mc inp pa_inp stk pa_stk siz pa_siz sta pa_sta kin pa_kin gat pa_gat src pa_src drn pa_drn stg pa_stg jam pa_jam nam pa_nam nod pa_nod wct (nI l) chr wst wen cnt (fun r u => wp_Mo_load (nI l) m_nds m_trs m_nms m_nnd m_ntr m_nnm m_bad m_wds m_stp m_chs txt m_frm m_tto m_npa m_nna m_nkn m_nin m_nsz m_inp m_szs m_sts m_stu m_knd m_gte m_sou m_dra m_sth m_jmd m_nme m_kno (fun r' u' => K2 r u r' u')) := by
  have hT : ∀ i, i < l → T i < 127 := fun i hi => by have := ho i hi; unfold okc at this; omega
  have oa : OKa (0, fun _ => 0, fun _ => 0) := ⟨Nat.zero_le _, fun i hi => absurd hi (Nat.not_lt_zero i)⟩
  have om : OKm (0, fun _ => 0, fun _ => 0) (0, fun _ => 0, fun _ => 0) := ⟨Nat.zero_le _, fun i hi => absurd hi (Nat.not_lt_zero i)⟩
  have ot : OKt (0, fun _ => 0, fun _ => 0) (0, fun _ => 0, fun _ => 0, fun _ => 0, fun _ => 0, fun _ => 0) := ⟨Nat.zero_le _, fun i hi => absurd hi (Nat.not_lt_zero i)⟩
  have z0 : ∀ (f : Nat → Int32) (G : Nat → Nat), AR 0 f G := fun f G i hi => absurd hi (Nat.not_lt_zero i)
  obtain ⟨g1, g2⟩ := ldS_ok (T := T) (l := l) (l + 1) 0 1 0 _ _ _ oa om ot
  unfold wp_Sw_load wp_Re_readInto
  unfold wp_Ne_clear
  refine ⟨l + 2, x_lines hA hT hl (l + 1) 0 1 0 _ _ _ _ _ _ _ _ _ _ _ _ _ _ _ _ _ _ _ _ _  (by omega) (by omega) (by omega) oa om ot ⟨rfl, z0 _ _, z0 _ _, z0 _ _, z0 _ _⟩ ⟨rfl, fun i hi => absurd hi (Nat.not_lt_zero i), z0 _ _⟩ ⟨rfl, z0 _ _, z0 _ _, z0 _ _, z0 _ _, z0 _ _, z0 _ _⟩ (fun k e u => ?_) (fun a m t wct nc tc mc wst wen nam nod inp stk siz sta kin gat src drn stg jam e xa xm xt => ?_)⟩
  · have hk := g1 k e
    refine ⟨fun q => absurd q (nI_ne0 (by omega) (by omega)), fun _ => ?_⟩
    unfold wp_Mo_load
    refine ⟨l + 2, y_lines hB hT hl (l + 1) 0 0 0 _ _ _ _ _ _ _ _ _ _ _ _ _ _  (by omega) (by omega) (by omega) oa om ot ⟨rfl, z0 _ _, z0 _ _⟩ ⟨rfl, z0 _ _, z0 _ _⟩ ⟨rfl, fun i hi => absurd hi (Nat.not_lt_zero i)⟩ (fun k2 e2 nnd ntr nnm bad wds frm tto npa nna nkn nin nsz => ?_) (fun a m t nnd ntr nnm wds frm tto npa nna nkn nin nsz e2 ya ym yt => ?_)⟩
    · rw [e] at e2
      cases e2
      exact h0 _ _ _ _ _ _ _ _ _ _ _ _ _ _ _ _ _ _ _  _ _ _ _ _ _ _ _ _ _ _ _ 
    · rw [e] at e2
      cases e2
  · obtain ⟨qa, qm, qt⟩ := g2 a m t e
    refine ⟨fun _ => ?_, fun q => absurd rfl q⟩
    unfold wp_Ch_clear wp_Mo_load
    refine ⟨l + 2, y_lines hB hT hl (l + 1) 0 0 0 _ _ _ _ _ _ _ _ _ _ _ _ _ _  (by omega) (by omega) (by omega) oa om ot ⟨rfl, z0 _ _, z0 _ _⟩ ⟨rfl, z0 _ _, z0 _ _⟩ ⟨rfl, fun i hi => absurd hi (Nat.not_lt_zero i)⟩ (fun k2 e2 nnd ntr nnm bad wds frm tto npa nna nkn nin nsz => ?_) (fun a2 m2 t2 nnd ntr nnm wds frm tto npa nna nkn nin nsz e2 ya ym yt => ?_)⟩
    · rw [e] at e2
      cases e2
    · rw [e] at e2
      cases e2
      refine y_take qa qm qt ya ym yt (fun inp szs sts stu knd gte sou dra sth jmd nme kno b1 b2 b3 b4 c1 c2 c3 c4 c5 c6 d1 d2 => ?_)
      obtain ⟨e1, x1, x2, x3, x4⟩ := xa
      obtain ⟨e2, y1, y2⟩ := xm
      obtain ⟨e3, z1, z2, z3, z4, z5, z6⟩ := xt
      subst e1
      subst e2
      subst e3
      refine h1 a.1 t.1 m.1 a.2.1 a.2.2 t.2.1 t.2.2.1 t.2.2.2.1 t.2.2.2.2.1 t.2.2.2.2.2 _ _ _ _ _ _ _ _ _ _ _ _ _ _ _ _ _ _ _ _ _ _ _ _ _ _ _ _ _ _ _ _ _ _ _ _ _ _ _  ⟨qa.1, qt.1, fun i hi => ?_, fun k hk => ?_⟩ ⟨x1, x2, x3, x4, z1, z2, z3, z4, z5, z6⟩ ⟨b1, b4, b2, b3, c1, c2, c3, c4, c5, c6⟩ qm.1 (fun i hi => ⟨?_, ?_⟩)
      · have := qa.2 i hi
        exact ⟨this.1, Nat.zero_le _, this.2.1, this.2.2, Nat.le_refl _⟩
      · obtain ⟨w1, w2, w3, w4, w5, w6⟩ := qt.2 k hk
        exact ⟨w1, w2, w3, w4, w5, w6, Nat.le_refl _⟩
      · show nam i = (nme i).toInt64
        rw [y1 i hi, d1 i hi, nI_l (qm.2 i hi).1]
      · show nod i = kno i
        rw [y2 i hi, d2 i hi]
end LD
