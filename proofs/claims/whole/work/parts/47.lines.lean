/-! PURE: a line as a whole, both sides. -/
section LW
variable {T : Nat → Nat} {l w : Nat} {A B : Nat → Nat} {a m : Tb} {t : Tt}
theorem op_tr {c : Nat} (h : c = 110 ∨ c = 112 ∨ c = 100) : opS T w A B c a m t = trL T w A B c a m t := by unfold opS; rw [if_pos h]
theorem op_in : opS T w A B 105 a m t = (inL T w A B a m).map (fun s => (s.1, s.2, t)) := by unfold opS; rw [if_neg (by omega), if_pos rfl]
theorem op_sz : opS T w A B 115 a m t = (szL T w A B a m).map (fun s => (s.1, s.2, t)) := by unfold opS; rw [if_neg (by omega), if_neg (by omega), if_pos rfl]
theorem op_al : opS T w A B 61 a m t = (alL T w A B a m).map (fun s => (s.1, s.2, t)) := by unfold opS; rw [if_neg (by omega), if_neg (by omega), if_neg (by omega), if_pos rfl]
theorem op_no {c : Nat} (h : ¬ c = 110 ∧ ¬ c = 112 ∧ ¬ c = 100 ∧ ¬ c = 105 ∧ ¬ c = 115 ∧ ¬ c = 61) : opS T w A B c a m t = none := by unfold opS; rw [if_neg (by omega), if_neg (by omega), if_neg (by omega), if_neg (by omega)]
theorem x_line {b d : Nat} {chr wst wen : Nat → Int32} (hA : AR l chr T) (hT : ∀ i, i < l → T i < 127) (hl : l ≤ 480) (hd : b + d ≤ l)
    (ha : OKa a) (hm : OKm a m) (ht : OKt a t) {wct nc mc tc : Int32} {inp stk siz sta nod kin gat src drn stg jam : Nat → Int32} {nam : Nat → Int64} (xa : XA a nc inp stk siz sta) (xm : XM m mc nam nod) (xt : XT t tc kin gat src drn stg jam)
    {K : Int32 → (Int32 × (Nat → Int32) × (Nat → Int32) × Int32 × Int32 × Int32 × (Nat → Int64) × (Nat → Int32) × (Nat → Int32) × (Nat → Int32) × (Nat → Int32) × (Nat → Int32) × (Nat → Int32) × (Nat → Int32) × (Nat → Int32) × (Nat → Int32) × (Nat → Int32) × (Nat → Int32)) → Prop}
    (h0 : lnS T b d a m t = none → ∀ u, K 0 u) (h1 : ∀ a' m' t' wct wst wen nc tc mc nam nod inp stk siz sta kin gat src drn stg jam, lnS T b d a m t = some (a', m', t') → XA a' nc inp stk siz sta → XM m' mc nam nod → XT t' tc kin gat src drn stg jam → K 1 (wct, wst, wen, nc, tc, mc, nam, nod, inp, stk, siz, sta, kin, gat, src, drn, stg, jam)) :
    wp_Re_readLine wct chr wst wen nc tc mc nam nod inp stk siz sta kin gat src drn stg jam (nI b) (nI (b + d)) K := by
  have n0 : narrow .boolean (.int 0) = .int 0 := by decide
  have n1 : narrow .boolean (.int 1) = .int 1 := by decide
  have J : ¬ (¬ d = 0 ∧ T b = 124) → wj_Re_readLine_18 chr K wct wst wen nc tc mc nam nod inp stk siz sta kin gat src drn stg jam (nI b) (nI (b + d)) := by
    intro hb
    unfold lnS at h0 h1
    rw [if_neg hb] at h0 h1
    obtain ⟨o1, o2, o3, o4⟩ := ws_ok T b d
    unfold wj_Re_readLine_18
    refine x_split hA hT hl hd (fun h5 wct wst wen => ?_) (fun wst wen h5 a1 a2 => ?_)
    · refine ⟨fun q => absurd rfl q, fun _ => h0 ?_ _⟩
      rw [if_neg (by omega)]
      exact opS_5 h5
    · generalize (ws T b d).1 = w at *
      generalize (ws T b d).2.1 = A at *
      generalize (ws T b d).2.2.1 = B at *
      have hO : ∀ i, i < w → A i < B i ∧ B i ≤ l := fun i hi => ⟨(o4 i hi).2.1, by have := (o4 i hi).2.2; omega⟩
      refine ⟨fun _ => ⟨fun c => ?_, fun c => ?_⟩, fun q => absurd q (by decide)⟩
      · have w0 : ¬ w = 0 := fun e => c (by rw [e]; rfl)
        rw [if_neg w0] at h0 h1
        have tA := hT (A 0) (by have := hO 0 (by omega); omega)
        refine x_only hA hl a1 a2 h5 hO (i := 0) (by omega) (fun s => ?_) (fun s => ?_)
        · have es : sgS T (A 0) (B 0) = T (A 0) := if_pos s
          rw [es] at h0 h1
          generalize T (A 0) = k at *
          have eqk : ∀ z, z < 2 ^ 31 → (nI k = nI z ↔ k = z) := fun z hz => nI_eq (by omega) hz
          have tran : k = 110 ∨ k = 112 ∨ k = 100 → wp_Re_readTransistor (nI w) wst wen chr nc tc mc nam nod inp stk siz sta kin gat src drn stg jam (nI k) (fun r106 u106 => (narrow .boolean (.int r106) = .int r106 ∧ K r106 (nI w, wst, wen, u106.1, u106.2.1, u106.2.2.1, u106.2.2.2.1, u106.2.2.2.2.1, u106.2.2.2.2.2.1, u106.2.2.2.2.2.2.1, u106.2.2.2.2.2.2.2.1, u106.2.2.2.2.2.2.2.2.1, u106.2.2.2.2.2.2.2.2.2.1, u106.2.2.2.2.2.2.2.2.2.2.1, u106.2.2.2.2.2.2.2.2.2.2.2.1, u106.2.2.2.2.2.2.2.2.2.2.2.2.1, u106.2.2.2.2.2.2.2.2.2.2.2.2.2.1, u106.2.2.2.2.2.2.2.2.2.2.2.2.2.2))) := fun hk => by
            rw [op_tr hk] at h0 h1
            exact x_tr hA hT hl a1 a2 h5 hO ha hm ht xa xm xt (fun e u => ⟨n0, h0 e _⟩) (fun a' m' t' nc tc mc nam nod inp stk siz sta kin gat src drn stg jam e xa xm xt => ⟨n1, h1 _ _ _ _ _ _ _ _ _ _ _ _ _ _ _ _ _ _ _ _ _ e xa xm xt⟩)
          refine ⟨fun c => ?_, fun k61 => ⟨fun c => tran ?_, fun k100 => ⟨fun c => ?_, fun k105 => ⟨fun c => tran ?_, fun k110 => ⟨fun c => tran ?_, fun k112 => ⟨fun c => ?_, fun k115 => h0 (op_no ?_) _⟩⟩⟩⟩⟩⟩
          · have c : k = 61 := (eqk 61 (by omega)).mp c
            subst c
            rw [op_al] at h0 h1
            exact x_al hA hT hl a1 a2 h5 hO ha hm xa xm (fun e u => ⟨n0, h0 (by rw [e]; rfl) _⟩) (fun a' m' nc mc nam nod inp stk siz sta e xa xm => ⟨n1, h1 _ _ _ _ _ _ _ _ _ _ _ _ _ _ _ _ _ _ _ _ _ (by rw [e]; rfl) xa xm xt⟩)
          · exact Or.inr (Or.inr ((eqk 100 (by omega)).mp c))
          · have c : k = 105 := (eqk 105 (by omega)).mp c
            subst c
            rw [op_in] at h0 h1
            exact x_in hA hT hl a1 a2 h5 hO ha hm xa xm (fun e u => ⟨n0, h0 (by rw [e]; rfl) _⟩) (fun a' m' nc mc nam nod inp stk siz sta e xa xm => ⟨n1, h1 _ _ _ _ _ _ _ _ _ _ _ _ _ _ _ _ _ _ _ _ _ (by rw [e]; rfl) xa xm xt⟩)
          · exact Or.inl ((eqk 110 (by omega)).mp c)
          · exact Or.inr (Or.inl ((eqk 112 (by omega)).mp c))
          · have c : k = 115 := (eqk 115 (by omega)).mp c
            subst c
            rw [op_sz] at h0 h1
            exact x_sz hA hT hl a1 a2 h5 hO ha hm xa xm (fun e u => ⟨n0, h0 (by rw [e]; rfl) _⟩) (fun a' m' nc mc nam nod inp stk siz sta e xa xm => ⟨n1, h1 _ _ _ _ _ _ _ _ _ _ _ _ _ _ _ _ _ _ _ _ _ (by rw [e]; rfl) xa xm xt⟩)
          · exact ⟨fun e => k110 (by rw [e]; rfl), fun e => k112 (by rw [e]; rfl), fun e => k100 (by rw [e]; rfl), fun e => k105 (by rw [e]; rfl), fun e => k115 (by rw [e]; rfl), fun e => k61 (by rw [e]; rfl)⟩
        · have es : sgS T (A 0) (B 0) = 0 := if_neg s
          rw [es] at h0
          exact ⟨fun c => absurd c (by decide), fun _ => ⟨fun c => absurd c (by decide), fun _ => ⟨fun c => absurd c (by decide), fun _ => ⟨fun c => absurd c (by decide), fun _ => ⟨fun c => absurd c (by decide), fun _ => ⟨fun c => absurd c (by decide), fun _ => h0 (op_no (by omega)) _⟩⟩⟩⟩⟩⟩
      · have w0 : w = 0 := (nI_eq (b := 0) (by omega) (by omega)).mp c
        rw [if_pos w0] at h1
        exact h1 _ _ _ _ _ _ _ _ _ _ _ _ _ _ _ _ _ _ _ _ _ rfl xa xm xt
  unfold wp_Re_readLine
  by_cases d0 : d = 0
  · subst d0
    exact ⟨fun _ => J (fun q => q.1 rfl), fun q => absurd (nI_le (by omega) (by omega)) q⟩
  · have hlt : b < l := by omega
    rw [z_cl hlt (by omega), hA _ hlt]
    refine ⟨fun q => absurd q (nI_ge (by omega) (by omega)), fun _ => ⟨z_in hlt hl (by omega), fun c => J (fun q => c (by rw [q.2]; rfl)), fun c => ?_⟩⟩
    have c : T b = 124 := (nI_eq (b := 124) (by have := hT b hlt; omega) (by omega)).mp c
    exact h1 _ _ _ _ _ _ _ _ _ _ _ _ _ _ _ _ _ _ _ _ _ (if_pos ⟨d0, c⟩) xa xm xt
theorem y_line {b d : Nat} {txt frm tto : Nat → Int32} (hA : AR l txt T) (hT : ∀ i, i < l → T i < 127) (hl : l ≤ 480) (hd : b + d ≤ l)
    (ha : OKa a) (hm : OKm a m) (ht : OKt a t) {nnd nnm ntr wds : Int32} {nin nsz nna nkn npa : Nat → Int32} (ya : YA a nnd nin nsz) (ym : YM m nnm nna nkn) (yt : YT t ntr npa)
    {K : (Int32 × Int32 × Int32 × Int32 × Int32 × (Nat → Int32) × (Nat → Int32) × (Nat → Int32) × (Nat → Int32) × (Nat → Int32) × (Nat → Int32) × (Nat → Int32)) → Prop}
    (h0 : lnS T b d a m t = none → ∀ nnd ntr nnm wds frm tto npa nna nkn nin nsz, K (nnd, ntr, nnm, 1, wds, frm, tto, npa, nna, nkn, nin, nsz)) (h1 : ∀ a' m' t' nnd ntr nnm wds frm tto npa nna nkn nin nsz, lnS T b d a m t = some (a', m', t') → YA a' nnd nin nsz → YM m' nnm nna nkn → YT t' ntr npa → K (nnd, ntr, nnm, 0, wds, frm, tto, npa, nna, nkn, nin, nsz)) :
    wp_Mo_line nnd ntr nnm 0 wds txt frm tto npa nna nkn nin nsz (nI b) (nI (b + d)) K := by
  have one : ¬ (1 : Int32) = 0 := by decide
  obtain ⟨o1, o2, o3, o4⟩ := ws_ok T b d
  have w0d : ¬ (ws T b d).1 = 0 → ¬ d = 0 := fun h e => h (by rw [e]; rfl)
  unfold wp_Mo_line
  refine y_split hA hT hl hd (fun frm tto a1 a2 => ?_)
  unfold lnS at h0 h1
  generalize (ws T b d).1 = w at *
  generalize (ws T b d).2.1 = A at *
  generalize (ws T b d).2.2.1 = B at *
  have hw : w ≤ 240 := by omega
  have hO : ∀ i, i < w → A i < B i ∧ B i ≤ l := fun i hi => ⟨(o4 i hi).2.1, by have := (o4 i hi).2.2; omega⟩
  refine ⟨fun c => ?_, fun c => ?_⟩
  · have w0 : w = 0 := (nI_eq (b := 0) (by omega) (by omega)).mp c
    rw [if_pos w0] at h1
    exact h1 _ _ _ _ _ _ _ _ _ _ _ _ _ _ (by split <;> rfl) ya ym yt
  · have w0 : ¬ w = 0 := fun e => c (by rw [e]; rfl)
    have d0 := w0d w0
    have hlt : b < l := by omega
    rw [z_cl hlt (by omega), hA _ hlt]
    refine ⟨z_in hlt hl (by omega), fun c => ?_, fun c => ?_⟩
    · rw [if_neg (fun q => c (by rw [q.2]; rfl)), if_neg w0] at h0 h1
      have tA := hT (A 0) (by have := hO 0 (by omega); omega)
      have e3 : nI w = (3 : Int32) ↔ w = 3 := nI_eq (b := 3) (by omega) (by omega)
      have e2 : nI w = (2 : Int32) ↔ w = 2 := nI_eq (b := 2) (by omega) (by omega)
      have f3 := fgS_le T (A 2) (B 2)
      refine y_single hA hl a1 a2 hw hO (i := 0) (by omega) (fun s => ?_) (fun s => ?_)
      · have es : sgS T (A 0) (B 0) = T (A 0) := if_pos s
        rw [es] at h0 h1
        generalize T (A 0) = k at *
        have eqk : ∀ z, z < 2 ^ 31 → (nI k = nI z ↔ k = z) := fun z hz => nI_eq (by omega) hz
        have tran : k = 110 ∨ k = 112 ∨ k = 100 → wp_Mo_transistor nnd ntr nnm 0 (nI w) tto frm txt npa nna nkn nin nsz (nI k) (fun u51 => K (u51.1, u51.2.1, u51.2.2.1, u51.2.2.2.1, nI w, frm, tto, u51.2.2.2.2.1, u51.2.2.2.2.2.1, u51.2.2.2.2.2.2.1, u51.2.2.2.2.2.2.2.1, u51.2.2.2.2.2.2.2.2)) := fun hk => by
          rw [op_tr hk] at h0 h1
          exact y_tr hA hT hl a1 a2 hw hO ha hm ht ya ym yt (fun e _ _ _ _ _ _ _ _ => h0 e _ _ _ _ _ _ _ _ _ _ _) (fun a' m' t' nnd ntr nnm npa nna nkn nin nsz e ya ym yt => h1 _ _ _ _ _ _ _ _ _ _ _ _ _ _ e ya ym yt)
        have last : ¬ k = 110 ∧ ¬ k = 112 ∧ ¬ k = 100 → (k = 105 → ¬ w = 2) → (k = 115 → ¬ (w = 3 ∧ ¬ fgS T (A 2) (B 2) = 0)) → wj_Mo_line_147 txt K nnd ntr nnm 0 (nI w) frm tto npa nna nkn nin nsz (nI k) := fun hk hi hs => by
          unfold wj_Mo_line_147
          refine ⟨fun k61 => h0 ?_ _ _ _ _ _ _ _ _ _ _ _, fun k61 => ⟨fun w3 => h0 ?_ _ _ _ _ _ _ _ _ _ _ _, fun w3 => ?_⟩⟩
          · by_cases k105 : k = 105
            · subst k105
              rw [op_in]
              unfold inL
              rw [if_neg (hi rfl)]
              rfl
            · by_cases k115 : k = 115
              · subst k115
                rw [op_sz]
                unfold szL
                rw [if_neg (hs rfl)]
                rfl
              · exact op_no ⟨hk.1, hk.2.1, hk.2.2, k105, k115, fun e => k61 (by rw [e]; rfl)⟩
          · have k61 : k = 61 := (eqk 61 (by omega)).mp k61
            subst k61
            rw [op_al]
            unfold alL
            rw [if_neg (fun e => w3 (by rw [e]; rfl))]
            rfl
          · have k61 : k = 61 := (eqk 61 (by omega)).mp k61
            subst k61
            rw [op_al] at h0 h1
            exact y_al hA hT hl a1 a2 hw hO (e3.mp w3) ha hm ya ym (fun e _ _ _ _ _ _ => h0 (by rw [e]; rfl) _ _ _ _ _ _ _ _ _ _ _) (fun a' m' nnd nnm nna nkn nin nsz e ya ym => h1 _ _ _ _ _ _ _ _ _ _ _ _ _ _ (by rw [e]; rfl) ya ym yt)
        have mid : ¬ k = 110 ∧ ¬ k = 112 ∧ ¬ k = 100 → (k = 105 → ¬ w = 2) → wj_Mo_line_96 txt K nnd ntr nnm 0 (nI w) frm tto npa nna nkn nin nsz (nI k) := fun hk hi => by
          unfold wj_Mo_line_96
          refine ⟨fun k115 => last hk hi (fun e => absurd (by rw [e]; rfl) k115), fun k115 => ⟨fun w3 => last hk hi (fun _ e => w3 (e3.mpr e.1)), fun w3 => ?_⟩⟩
          have w3 := e3.mp w3
          have k115 : k = 115 := (eqk 115 (by omega)).mp k115
          refine y_fig hA hT hl a1 a2 hw hO (i := 2) (by omega) ⟨fun f => last hk hi (fun _ e => e.2 ?_), fun f => ?_⟩
          · have := (nI_leI (b := 0) (by omega) (by omega)).mp f
            omega
          · have f0 : ¬ fgS T (A 2) (B 2) = 0 := fun e => f (by rw [e]; decide)
            subst k115
            rw [op_sz] at h0 h1
            unfold szL at h0 h1
            rw [if_pos ⟨w3, f0⟩] at h0 h1
            refine y_nodeOf hA hT hl a1 a2 hw hO (i := 1) (by omega) ha hm ya ym (fun e r nnd nnm nna nkn nin nsz => ?_) (fun j a' m' nnd nnm nna nkn nin nsz e ya' ym' => ?_)
            · exact ⟨fun _ => h0 (by rw [e]; rfl) _ _ _ _ _ _ _ _ _ _ _, fun q => absurd q one⟩
            · obtain ⟨p, oa, om, -⟩ := ndS_ok (nmS_lt _ _ _) ha hm e
              have n24 := oa.1
              refine ⟨fun q => absurd rfl q, fun _ => y_fig hA hT hl a1 a2 hw hO (i := 2) (by omega) ⟨vp_in_nI (by omega) (by omega), ?_⟩⟩
              rw [nI_clamp (by omega)]
              exact h1 (a'.1, a'.2.1, up a'.2.2 j (fgS T (A 2) (B 2))) m' t _ _ _ _ _ _ _ _ _ _ _ (by rw [e]; rfl) ⟨ya'.1, ya'.2.1, ar_upd ya'.2.2 j _⟩ ym' yt
        refine ⟨fun c => tran (Or.inl ((eqk 110 (by omega)).mp c)), fun k110 => ⟨fun c => tran (Or.inr (Or.inl ((eqk 112 (by omega)).mp c))), fun k112 => ⟨fun k100 => ?_, fun c => tran (Or.inr (Or.inr ((eqk 100 (by omega)).mp c)))⟩⟩⟩
        have hk : ¬ k = 110 ∧ ¬ k = 112 ∧ ¬ k = 100 := ⟨fun e => k110 (by rw [e]; rfl), fun e => k112 (by rw [e]; rfl), fun e => k100 (by rw [e]; rfl)⟩
        refine ⟨fun k105 => mid hk (fun e => absurd (by rw [e]; rfl) k105), fun k105 => ⟨fun w2 => mid hk (fun _ e => w2 (e2.mpr e)), fun w2 => ?_⟩⟩
        have w2 := e2.mp w2
        have k105 : k = 105 := (eqk 105 (by omega)).mp k105
        subst k105
        rw [op_in] at h0 h1
        unfold inL at h0 h1
        rw [if_pos w2] at h0 h1
        refine y_nodeOf hA hT hl a1 a2 hw hO (i := 1) (by omega) ha hm ya ym (fun e r nnd nnm nna nkn nin nsz => ?_) (fun j a' m' nnd nnm nna nkn nin nsz e ya' ym' => ?_)
        · exact ⟨fun _ => h0 (by rw [e]; rfl) _ _ _ _ _ _ _ _ _ _ _, fun q => absurd q one⟩
        · obtain ⟨p, oa, om, -⟩ := ndS_ok (nmS_lt _ _ _) ha hm e
          have n24 := oa.1
          refine ⟨fun q => absurd rfl q, fun _ => ⟨vp_in_nI (by omega) (by omega), ?_⟩⟩
          rw [nI_clamp (by omega), nar1]
          exact h1 (a'.1, up a'.2.1 j 1, a'.2.2) m' t _ _ _ _ _ _ _ _ _ _ _ (by rw [e]; rfl) ⟨ya'.1, ar_upd ya'.2.1 j 1, ya'.2.2⟩ ym' yt
      · have es : sgS T (A 0) (B 0) = 0 := if_neg s
        rw [es, op_no (by omega)] at h0
        refine ⟨fun c => absurd c (by decide), fun _ => ⟨fun c => absurd c (by decide), fun _ => ⟨fun _ => ⟨fun _ => ?_, fun c => absurd c (by decide)⟩, fun c => absurd c (by decide)⟩⟩⟩
        unfold wj_Mo_line_96
        refine ⟨fun _ => ?_, fun c => absurd c (by decide)⟩
        unfold wj_Mo_line_147
        exact ⟨fun _ => h0 rfl _ _ _ _ _ _ _ _ _ _ _, fun c => absurd c (by decide)⟩
    · have c : T b = 124 := (nI_eq (b := 124) (by have := hT b hlt; omega) (by omega)).mp c
      exact h1 _ _ _ _ _ _ _ _ _ _ _ _ _ _ (if_pos ⟨d0, c⟩) ya ym yt
end LW
