/-! PURE: levels asked for; steps. -/
section LV
variable {n t : Nat} {I Sk Sz St Kd G So Dr Sg J : Nat → Nat} {inp stk siz sta kin gat src drn stg jam nof : Nat → Int32} {minp mstk msiz msta mkin mgat msrc mdrn mstg mjam : Nat → Int32}
theorem j_level (hr : NRg n t I Sk Sz St Kd G So Dr Sg J) (ha : NAr n t I Sk Sz St Kd G So Dr Sg J inp stk siz sta kin gat src drn stg jam) (ha' : NAr n t I Sk Sz St Kd G So Dr Sg J minp mstk msiz msta mkin mgat msrc mdrn mstg mjam) (hnof : AR n nof (fun _ => 0)) {con fir hig lw mfir mhig mlw : Nat → Int32} {v1 v2 : Int32}
    {K2 : Int32 → (Nat → Int32) × (Nat → Int32) × (Nat → Int32) × (Nat → Int32) → Int32 → (Nat → Int32) × (Nat → Int32) × (Nat → Int32) → Prop} (h : ∀ r u u', K2 r u r u') :
    wp_Sw_level (nI n) (nI t) jam kin gat sta con inp stk siz fir nof src drn stg hig lw v1 v2 (fun r u => wp_Mo_level (nI n) (nI t) minp mstk mfir msiz mjam mgat msta mkin msrc mstg mdrn mhig mlw v1 v2 (fun r' u' => K2 r u r' u')) := by
  have hn := hr.1
  have hO : ∀ k, k < t → So k < n ∧ Dr k < n := fun k hk => ⟨(hr.2.2.2 k hk).2.2.1, (hr.2.2.2 k hk).2.2.2.1⟩
  rcases pk_ix v1 (show n < 2 ^ 31 by omega) with h' | h' | ⟨j, hj, rfl⟩
  · simpa [wp_Sw_level, wp_Ne_hasNode, wp_Mo_level, wp_Mo_isNode, h'] using h _ _ _
  · by_cases h2 : v1 < 0
    · simpa [wp_Sw_level, wp_Ne_hasNode, wp_Mo_level, wp_Mo_isNode, h2] using h _ _ _
    · simpa [wp_Sw_level, wp_Ne_hasNode, wp_Mo_level, wp_Mo_isNode, h', h2] using h _ _ _
  · have f1 := z_f1 hj (show n < 2 ^ 31 by omega)
    have f2 := z_f2 hj (show n < 2 ^ 31 by omega)
    have f3 := z_in hj hn (by omega)
    have f4 := z_cl hj (show n < 2 ^ 31 by omega)
    unfold wp_Sw_level wp_Ne_hasNode
    refine ⟨fun q => absurd q f1, fun _ => ⟨fun q => absurd q f2, fun _ => ⟨fun q => absurd q (by decide), fun _ => ?_⟩⟩⟩
    have mo : ∀ K : Int32 → (Nat → Int32) × (Nat → Int32) × (Nat → Int32) → Prop, ((v2 < 0 → K (-1) (mfir, mhig, mlw)) ∧ (¬ v2 < 0 → ((v2 ≤ (2 : Int32) → wp_Mo_evaluate (nI n) (nI t) minp mstk mfir msiz mjam mgat msta mkin msrc mstg mdrn mhig mlw (fun u20 => ((¬ v2 = 0 → ((¬ v2 = (1 : Int32) → (vp_in (nI j) 24 ∧ K (u20.2.2 (nI j).toNatClampNeg) (u20.1, u20.2.1, u20.2.2))) ∧ (v2 = (1 : Int32) → (vp_in (nI j) 24 ∧ K (u20.2.1 (nI j).toNatClampNeg) (u20.1, u20.2.1, u20.2.2))))) ∧ (v2 = 0 → (vp_in (nI j) 24 ∧ K (u20.1 (nI j).toNatClampNeg) (u20.1, u20.2.1, u20.2.2)))))) ∧ (¬ v2 ≤ (2 : Int32) → K (-1) (mfir, mhig, mlw))))) → wp_Mo_level (nI n) (nI t) minp mstk mfir msiz mjam mgat msta mkin msrc mstg mdrn mhig mlw (nI j) v2 K := fun K hk =>
      ⟨fun q => absurd q f1, fun _ => ⟨fun q => absurd q f2, fun _ => ⟨fun q => absurd q (by decide), fun _ => hk⟩⟩⟩
    refine ⟨fun a => mo _ ⟨fun _ => h _ _ _, fun q => absurd a q⟩, fun a => ⟨fun b => ?_, fun b => mo _ ⟨fun q => absurd q a, fun _ => ⟨fun q => absurd q b, fun _ => h _ _ _⟩⟩⟩⟩
    refine x_workOut hr ha hnof (fun con fir hig lw Fm Hg Lo af ah al hF hH hL => ?_)
    have go : ∀ (r : Int32) (u : (Nat → Int32) × (Nat → Int32) × (Nat → Int32) × (Nat → Int32)), (∀ (fir hig lw : Nat → Int32) (Fm' Hg' Lo' : Nat → Nat), AR n fir Fm' → AR n hig Hg' → AR n lw Lo' → LFM n t I Sk Sz So Dr Sg (CN Kd G St J) Fm' → LSD n t 0 I Sk Sz St So Dr Sg (CN Kd G St J) Fm' Hg' → LSD n t 1 I Sk Sz St So Dr Sg (CN Kd G St J) Fm' Lo' → (if v2 = 0 then nI (Fm' j) else if v2 = 1 then nI (Hg' j) else nI (Lo' j)) = r) → wp_Mo_level (nI n) (nI t) minp mstk mfir msiz mjam mgat msta mkin msrc mstg mdrn mhig mlw (nI j) v2 (fun r' u' => K2 r u r' u') := fun r u hr' =>
      mo _ ⟨fun q => absurd q a, fun _ => ⟨fun _ => y_evaluate hr ha' (fun fir hig lw Fm' Hg' Lo' af' ah' al' hF' hH' hL' => by
        have e := hr' fir hig lw Fm' Hg' Lo' af' ah' al' hF' hH' hL'
        show (¬ v2 = 0 → (¬ v2 = 1 → vp_in (nI j) 24 ∧ K2 r u (lw (nI j).toNatClampNeg) _) ∧ (v2 = 1 → vp_in (nI j) 24 ∧ K2 r u (hig (nI j).toNatClampNeg) _)) ∧ (v2 = 0 → vp_in (nI j) 24 ∧ K2 r u (fir (nI j).toNatClampNeg) _)
        rw [f4, af' j hj, ah' j hj, al' j hj]
        refine ⟨fun c0 => ⟨fun c1 => ⟨f3, ?_⟩, fun c1 => ⟨f3, ?_⟩⟩, fun c0 => ⟨f3, ?_⟩⟩
        · rw [if_neg c0, if_neg c1] at e
          rw [e]; exact h _ _ _
        · rw [if_neg c0, if_pos c1] at e
          rw [e]; exact h _ _ _
        · rw [if_pos c0] at e
          rw [e]; exact h _ _ _), fun q => absurd b q⟩⟩
    show (¬ v2 = 0 → (¬ v2 = 1 → vp_in (nI j) 24 ∧ wp_Mo_level (nI n) (nI t) minp mstk mfir msiz mjam mgat msta mkin msrc mstg mdrn mhig mlw (nI j) v2 (fun r' u' => K2 (lw (nI j).toNatClampNeg) _ r' u')) ∧ (v2 = 1 → vp_in (nI j) 24 ∧ wp_Mo_level (nI n) (nI t) minp mstk mfir msiz mjam mgat msta mkin msrc mstg mdrn mhig mlw (nI j) v2 (fun r' u' => K2 (hig (nI j).toNatClampNeg) _ r' u'))) ∧ (v2 = 0 → vp_in (nI j) 24 ∧ wp_Mo_level (nI n) (nI t) minp mstk mfir msiz mjam mgat msta mkin msrc mstg mdrn mhig mlw (nI j) v2 (fun r' u' => K2 (fir (nI j).toNatClampNeg) _ r' u'))
    refine ⟨fun c0 => ⟨fun c1 => ⟨f3, go _ _ (fun _ _ _ Fm' Hg' Lo' _ _ _ hF' hH' hL' => ?_)⟩, fun c1 => ⟨f3, go _ _ (fun _ _ _ Fm' Hg' Lo' _ _ _ hF' hH' hL' => ?_)⟩⟩, fun c0 => ⟨f3, go _ _ (fun _ _ _ Fm' Hg' Lo' _ _ _ hF' hH' hL' => ?_)⟩⟩
    · rw [if_neg c0, if_neg c1, f4, al j hj, LSD_one hO hF hF' hL hL' j hj]
    · rw [if_neg c0, if_pos c1, f4, ah j hj, LSD_one hO hF hF' hH hH' j hj]
    · rw [if_pos c0, f4, af j hj, Lf_one hF.1 hF'.1 j hj]
end LV
