/-! PURE: the words of a line. -/
abbrev Wd : Type := Nat × (Nat → Nat) × (Nat → Nat) × Nat
def ws (T : Nat → Nat) (a : Nat) : Nat → Wd
  | 0 => (0, fun _ => 0, fun _ => 0, 0)
  | k + 1 => if T (a + k) = 32 then ((ws T a k).1, (ws T a k).2.1, (ws T a k).2.2.1, 0) else if (ws T a k).2.2.2 = 0 then ((ws T a k).1 + 1, up (ws T a k).2.1 (ws T a k).1 (a + k), up (ws T a k).2.2.1 (ws T a k).1 (a + k + 1), 1) else ((ws T a k).1, (ws T a k).2.1, up (ws T a k).2.2.1 ((ws T a k).1 - 1) (a + k + 1), 1)
theorem ws_b {T : Nat → Nat} {a k : Nat} (h : T (a + k) = 32) : ws T a (k + 1) = ((ws T a k).1, (ws T a k).2.1, (ws T a k).2.2.1, 0) := by simp only [ws, h, if_true]
theorem ws_n {T : Nat → Nat} {a k : Nat} (h : ¬ T (a + k) = 32) (h2 : (ws T a k).2.2.2 = 0) : ws T a (k + 1) = ((ws T a k).1 + 1, up (ws T a k).2.1 (ws T a k).1 (a + k), up (ws T a k).2.2.1 (ws T a k).1 (a + k + 1), 1) := by simp only [ws, h, h2, if_true, if_false]
theorem ws_c {T : Nat → Nat} {a k : Nat} (h : ¬ T (a + k) = 32) (h2 : ¬ (ws T a k).2.2.2 = 0) : ws T a (k + 1) = ((ws T a k).1, (ws T a k).2.1, up (ws T a k).2.2.1 ((ws T a k).1 - 1) (a + k + 1), 1) := by simp only [ws, h, h2, if_false]
theorem ws_ok (T : Nat → Nat) (a : Nat) : ∀ k, (2 * (ws T a k).1 ≤ k + (ws T a k).2.2.2) ∧ (ws T a k).2.2.2 ≤ 1 ∧ ((ws T a k).2.2.2 = 1 → 1 ≤ (ws T a k).1 ∧ (ws T a k).2.2.1 ((ws T a k).1 - 1) = a + k) ∧ ∀ i, i < (ws T a k).1 → a ≤ (ws T a k).2.1 i ∧ (ws T a k).2.1 i < (ws T a k).2.2.1 i ∧ (ws T a k).2.2.1 i ≤ a + k := by
  intro k
  induction k with
  | zero => exact ⟨Nat.le_refl _, Nat.zero_le _, (fun (h : 0 = 1) => absurd h (by omega)), (fun i (hi : i < 0) => absurd hi (by omega))⟩
  | succ k ih =>
    obtain ⟨h1, h2, h3, h4⟩ := ih
    by_cases b : T (a + k) = 32
    · rw [ws_b b]
      refine ⟨by show 2 * (ws T a k).1 ≤ k + 1 + 0; omega, Nat.zero_le _, (fun (h : 0 = 1) => absurd h (by omega)), fun i hi => ?_⟩
      have := h4 i hi
      exact ⟨this.1, this.2.1, by have := this.2.2; show (ws T a k).2.2.1 i ≤ a + (k + 1); omega⟩
    · by_cases z : (ws T a k).2.2.2 = 0
      · rw [ws_n b z]
        refine ⟨by show 2 * ((ws T a k).1 + 1) ≤ k + 1 + 1; omega, Nat.le_refl _, fun _ => ⟨by show 1 ≤ (ws T a k).1 + 1; omega, by show up (ws T a k).2.2.1 (ws T a k).1 (a + k + 1) ((ws T a k).1 + 1 - 1) = a + (k + 1); simp [up]; omega⟩, fun i hi => ?_⟩
        have hi : i < (ws T a k).1 + 1 := hi
        show a ≤ up (ws T a k).2.1 (ws T a k).1 (a + k) i ∧ up (ws T a k).2.1 (ws T a k).1 (a + k) i < up (ws T a k).2.2.1 (ws T a k).1 (a + k + 1) i ∧ up (ws T a k).2.2.1 (ws T a k).1 (a + k + 1) i ≤ a + (k + 1)
        unfold up
        by_cases e : i = (ws T a k).1
        · simp only [e, if_true]; omega
        · simp only [e, if_false]
          have := h4 i (by omega)
          omega
      · rw [ws_c b z]
        have z1 : (ws T a k).2.2.2 = 1 := by omega
        obtain ⟨g1, g2⟩ := h3 z1
        refine ⟨by show 2 * (ws T a k).1 ≤ k + 1 + 1; omega, Nat.le_refl _, fun _ => ⟨g1, by show up (ws T a k).2.2.1 ((ws T a k).1 - 1) (a + k + 1) ((ws T a k).1 - 1) = a + (k + 1); simp [up]; omega⟩, fun i hi => ?_⟩
        have hi : i < (ws T a k).1 := hi
        show a ≤ (ws T a k).2.1 i ∧ (ws T a k).2.1 i < up (ws T a k).2.2.1 ((ws T a k).1 - 1) (a + k + 1) i ∧ up (ws T a k).2.2.1 ((ws T a k).1 - 1) (a + k + 1) i ≤ a + (k + 1)
        have := h4 i hi
        unfold up
        by_cases e : i = (ws T a k).1 - 1
        · simp only [e, if_true]
          rw [e] at this
          omega
        · simp only [e, if_false]
          omega
theorem ws_mono {T : Nat → Nat} {a : Nat} : ∀ j k, (ws T a k).1 ≤ (ws T a (k + j)).1 := by
  intro j
  induction j with
  | zero => intro k; exact Nat.le_refl _
  | succ j ih =>
    intro k
    refine Nat.le_trans (ih k) ?_
    show (ws T a (k + j)).1 ≤ (ws T a (k + j + 1)).1
    by_cases b : T (a + (k + j)) = 32
    · rw [ws_b b]; exact Nat.le_refl _
    · by_cases z : (ws T a (k + j)).2.2.2 = 0
      · rw [ws_n b z]; exact Nat.le_succ _
      · rw [ws_c b z]; exact Nat.le_refl _
theorem ar_at {n k z : Nat} {f : Nat → Int32} {F : Nat → Nat} (h : AR n f F) : AR n (upd f k (nI z)) (up F k z) := ar_upd h k z
theorem n2 {k : Nat} (h : k < 2 ^ 31) : nI k - (1 : Int32) = nI (k - 1) ∨ k = 0 := by
  by_cases e : k = 0
  · exact Or.inr e
  · exact Or.inl (pk_sub (b := 1) (by omega))
section SP
variable {T : Nat → Nat} {l a d : Nat}
theorem x_split {chr : Nat → Int32} (hA : AR l chr T) (hT : ∀ i, i < l → T i < 127) (hl : l ≤ 480) (hd : a + d ≤ l) {wct : Int32} {wst wen : Nat → Int32} {K : Int32 → (Int32 × (Nat → Int32) × (Nat → Int32)) → Prop}
    (h0 : 5 < (ws T a d).1 → ∀ wct wst wen, K 0 (wct, wst, wen)) (h1 : ∀ wst wen, (ws T a d).1 ≤ 5 → AR (ws T a d).1 wst (ws T a d).2.1 → AR (ws T a d).1 wen (ws T a d).2.2.1 → K 1 (nI (ws T a d).1, wst, wen)) :
    wp_Re_splitWords wct chr wst wen (nI a) (nI (a + d)) K := by
  suffices H : ∀ j k wst wen, k + j = d → (ws T a k).1 ≤ 5 → AR (ws T a k).1 wst (ws T a k).2.1 → AR (ws T a k).1 wen (ws T a k).2.2.1 → wl_Re_splitWords_10 chr K (j + 1) (nI (ws T a k).1) wst wen (nI (a + d)) (nI (ws T a k).2.2.2) (nI (a + k)) from ⟨d + 1, H d 0 wst wen (by omega) (Nat.zero_le _) (fun i hi => absurd hi (by simp [ws])) (fun i hi => absurd hi (by simp [ws]))⟩
  intro j
  induction j with
  | zero =>
    intro k wst wen hk hw a1 a2
    have e : k = d := by omega
    subst e
    rw [ul_Re_splitWords_10]
    exact ⟨fun _ => h1 wst wen hw a1 a2, fun q => absurd (Int32.le_refl _) q⟩
  | succ j ih =>
    intro k wst wen hk hw a1 a2
    have hlt : a + k < l := by omega
    obtain ⟨o1, o2, o3, o4⟩ := ws_ok T a k
    have ih := ih (k + 1)
    rw [ul_Re_splitWords_10]
    unfold wb_Re_splitWords_10
    rw [z_cl hlt (by omega), hA _ hlt]
    refine ⟨fun q => absurd q (nI_ge (by omega) (by omega)), fun _ => ⟨z_in hlt hl (by omega), fun c => ?_, fun c => ?_⟩⟩
    · have b : ¬ T (a + k) = 32 := fun e => c (by rw [e]; rfl)
      unfold wj_Re_splitWords_33
      by_cases z : (ws T a k).2.2.2 = 0
      · rw [ws_n b z] at ih
        refine ⟨fun q => absurd rfl q, fun _ => ⟨fun q => absurd (by rw [z]; rfl) q, fun _ => ⟨fun q => ?_, fun q => ?_⟩⟩⟩
        · have w5 : (ws T a k).1 < 5 := by
            have : ¬ (ws T a k).1 = 5 := fun e => q (by rw [e]; rfl)
            omega
          refine ⟨z_in w5 (Nat.le_refl _) (by omega), ?_⟩
          rw [z_cl w5 (by omega), show nI (ws T a k).1 + (1 : Int32) = nI ((ws T a k).1 + 1) from nI_1 _]
          unfold wj_Re_splitWords_75
          rw [show nI ((ws T a k).1 + 1) - (1 : Int32) = nI (ws T a k).1 from nI_pred _, z_cl w5 (by omega), show nI (a + k) + (1 : Int32) = nI (a + k + 1) from nI_1 _]
          exact ⟨fun q => absurd rfl q, fun _ => ⟨z_in w5 (Nat.le_refl _) (by omega), fun q => absurd rfl q, fun _ => ih _ _ (by omega) (by show (ws T a k).1 + 1 ≤ 5; omega) (ar_push a1 _) (ar_push a2 _)⟩⟩
        · have w5 : (ws T a k).1 = 5 := (nI_eq (b := 5) (by omega) (by omega)).mp q
          refine h0 ?_ _ _ _
          have := ws_mono (T := T) (a := a) j (k + 1)
          rw [ws_n b z, show k + 1 + j = d by omega] at this
          have : (ws T a k).1 + 1 ≤ (ws T a d).1 := this
          omega
      · rw [ws_c b z] at ih
        have z1 : (ws T a k).2.2.2 = 1 := by omega
        obtain ⟨g1, g2⟩ := o3 z1
        have w5 : (ws T a k).1 - 1 < 5 := by omega
        have go : wj_Re_splitWords_75 chr (wl_Re_splitWords_10 chr K (j + 1)) K (nI (ws T a k).1) wst wen (nI (a + d)) (nI (a + k)) 0 := by
          unfold wj_Re_splitWords_75
          rw [show nI (ws T a k).1 - (1 : Int32) = nI ((ws T a k).1 - 1) from pk_sub (b := 1) g1, z_cl w5 (by omega), show nI (a + k) + (1 : Int32) = nI (a + k + 1) from nI_1 _]
          exact ⟨fun q => absurd rfl q, fun _ => ⟨z_in w5 (Nat.le_refl _) (by omega), fun q => absurd rfl q, fun _ => ih _ _ (by omega) hw a1 (ar_upd a2 _ _)⟩⟩
        exact ⟨fun q => absurd rfl q, fun _ => ⟨fun _ => go, fun q => absurd q (by rw [z1]; decide)⟩⟩
    · have b : T (a + k) = 32 := (nI_eq (b := 32) (by have := hT _ hlt; omega) (by omega)).mp c
      rw [ws_b b] at ih
      unfold wj_Re_splitWords_33
      have go : wj_Re_splitWords_75 chr (wl_Re_splitWords_10 chr K (j + 1)) K (nI (ws T a k).1) wst wen (nI (a + d)) (nI (a + k)) 1 := by
        unfold wj_Re_splitWords_75
        rw [nI_1]
        exact ⟨fun _ => ⟨fun _ => ih _ _ (by omega) hw a1 a2, fun q => absurd q (by decide)⟩, fun q => absurd q (by decide)⟩
      exact ⟨fun _ => go, fun q => absurd q (by decide)⟩
theorem y_split {txt : Nat → Int32} (hA : AR l txt T) (hT : ∀ i, i < l → T i < 127) (hl : l ≤ 480) (hd : a + d ≤ l) {wds : Int32} {frm tto : Nat → Int32} {K : (Int32 × (Nat → Int32) × (Nat → Int32)) → Prop}
    (h1 : ∀ frm tto, AR (ws T a d).1 frm (ws T a d).2.1 → AR (ws T a d).1 tto (ws T a d).2.2.1 → K (nI (ws T a d).1, frm, tto)) :
    wp_Mo_split wds txt frm tto (nI a) (nI (a + d)) K := by
  have blank : ∀ (E : Int32 → (Nat → Int32) → (Nat → Int32) → Int32 → Int32 → Prop) (k0 : Nat) (frm tto : Nat → Int32), (∀ k, k0 ≤ k → k ≤ d → (k = d ∨ (¬ T (a + k) = 32 ∧ (ws T a k).2.2.2 = 0)) → AR (ws T a k).1 frm (ws T a k).2.1 → AR (ws T a k).1 tto (ws T a k).2.2.1 → E (nI (ws T a k).1) frm tto (nI (a + d)) (nI (a + k))) → ∀ i k, k0 ≤ k → k + i = d → ((ws T a k).2.2.2 = 0 ∨ k = d ∨ T (a + k) = 32) → AR (ws T a k).1 frm (ws T a k).2.1 → AR (ws T a k).1 tto (ws T a k).2.2.1 → wl_Mo_split_12 txt E K (i + 1) (nI (ws T a k).1) frm tto (nI (a + d)) (nI (a + k)) := by
    intro E k0 frm tto hE i
    induction i with
    | zero =>
      intro k hk0 hk hc a1 a2
      have e : k = d := by omega
      subst e
      rw [ul_Mo_split_12]
      exact ⟨fun _ => hE _ hk0 (by omega) (Or.inl rfl) a1 a2, fun q => absurd (Int32.le_refl _) q⟩
    | succ i ih =>
      intro k hk0 hk hc a1 a2
      have hlt : a + k < l := by omega
      have ih := ih (k + 1) (by omega) (by omega)
      rw [ul_Mo_split_12]
      unfold wb_Mo_split_12
      rw [z_cl hlt (by omega), hA _ hlt, nI_1]
      refine ⟨fun q => absurd q (nI_ge (by omega) (by omega)), fun _ => ⟨z_in hlt hl (by omega), fun c => ?_, fun c => ?_⟩⟩
      · have b : ¬ T (a + k) = 32 := fun e => c (by rw [e]; rfl)
        refine hE _ hk0 (by omega) (Or.inr ⟨b, ?_⟩) a1 a2
        rcases hc with h | h | h
        · exact h
        · omega
        · exact absurd h b
      · have b : T (a + k) = 32 := (nI_eq (b := 32) (by have := hT _ hlt; omega) (by omega)).mp c
        rw [ws_b b] at ih
        exact ih (Or.inl rfl) a1 a2
  have word : ∀ (E : Int32 → (Nat → Int32) → (Nat → Int32) → Int32 → Int32 → Prop) (w0 k0 : Nat) (frm tto : Nat → Int32), (∀ k, k0 ≤ k → k ≤ d → (k = d ∨ T (a + k) = 32) → (ws T a k).1 = w0 + 1 → AR (w0 + 1) frm (ws T a k).2.1 → AR (w0 + 1) (upd tto w0 (nI (a + k))) (ws T a k).2.2.1 → E (nI w0) frm tto (nI (a + d)) (nI (a + k))) → ∀ i k, k0 ≤ k → k + i = d → (ws T a k).2.2.2 = 1 → (ws T a k).1 = w0 + 1 → AR (w0 + 1) frm (ws T a k).2.1 → AR w0 tto (ws T a k).2.2.1 → wl_Mo_split_49 txt E K (i + 1) (nI w0) frm tto (nI (a + d)) (nI (a + k)) := by
    intro E w0 k0 frm tto hE i
    have fin : ∀ k, (ws T a k).2.2.2 = 1 → (ws T a k).1 = w0 + 1 → AR w0 tto (ws T a k).2.2.1 → AR (w0 + 1) (upd tto w0 (nI (a + k))) (ws T a k).2.2.1 := by
      intro k z hw a2
      obtain ⟨g1, g2⟩ := (ws_ok T a k).2.2.1 z
      rw [hw] at g2
      intro i hi
      by_cases e : i = w0
      · subst e
        simp only [upd, if_true]
        rw [show i + 1 - 1 = i by omega] at g2
        rw [g2]
      · simp only [upd, e, if_false]
        exact a2 i (by omega)
    induction i with
    | zero =>
      intro k hk0 hk z hw a1 a2
      have e : k = d := by omega
      subst e
      rw [ul_Mo_split_49]
      exact ⟨fun _ => hE _ hk0 (by omega) (Or.inl rfl) hw a1 (fin _ z hw a2), fun q => absurd (Int32.le_refl _) q⟩
    | succ i ih =>
      intro k hk0 hk z hw a1 a2
      have hlt : a + k < l := by omega
      have ih := ih (k + 1) (by omega) (by omega)
      rw [ul_Mo_split_49]
      unfold wb_Mo_split_49
      rw [z_cl hlt (by omega), hA _ hlt, nI_1]
      refine ⟨fun q => absurd q (nI_ge (by omega) (by omega)), fun _ => ⟨z_in hlt hl (by omega), fun c => ?_, fun c => ?_⟩⟩
      · have b : T (a + k) = 32 := (nI_eq (b := 32) (by have := hT _ hlt; omega) (by omega)).mp c
        exact hE _ hk0 (by omega) (Or.inr b) hw a1 (fin _ z hw a2)
      · have b : ¬ T (a + k) = 32 := fun e => c (by rw [e]; rfl)
        rw [ws_c b (by omega)] at ih
        refine ih rfl hw a1 (fun i hi => ?_)
        show tto i = nI (up (ws T a k).2.2.1 ((ws T a k).1 - 1) (a + k + 1) i)
        unfold up
        rw [if_neg (by omega)]
        exact a2 i hi
  suffices H : ∀ j k frm tto, k ≤ d → d ≤ k + j → ((ws T a k).2.2.2 = 0 ∨ k = d ∨ T (a + k) = 32) → AR (ws T a k).1 frm (ws T a k).2.1 → AR (ws T a k).1 tto (ws T a k).2.2.1 → wl_Mo_split_7 txt K (j + 1) (nI (ws T a k).1) frm tto (nI (a + d)) (nI (a + k)) from ⟨d + 1, H d 0 frm tto (by omega) (by omega) (Or.inl rfl) (fun i hi => absurd hi (by simp [ws])) (fun i hi => absurd hi (by simp [ws]))⟩
  intro j
  induction j with
  | zero =>
    intro k frm tto hk hd hc a1 a2
    have e : k = d := by omega
    subst e
    rw [ul_Mo_split_7]
    exact ⟨fun _ => h1 frm tto a1 a2, fun q => absurd (Int32.le_refl _) q⟩
  | succ j ih =>
    intro k frm tto hk hdk hc a1 a2
    rw [ul_Mo_split_7]
    unfold wb_Mo_split_7
    by_cases kd : k = d
    · subst kd
      exact ⟨fun _ => h1 frm tto a1 a2, fun q => absurd (Int32.le_refl _) q⟩
    refine ⟨fun q => absurd q (nI_ge (by omega) (by omega)), fun _ => ⟨d - k + 1, blank _ k frm tto (fun k1 hk1 hk1d hx b1 b2 => ?_) (d - k) k (by omega) (by omega) hc a1 a2⟩⟩
    show wj_Mo_split_34 _ _ _ _ _ _ _ _
    unfold wj_Mo_split_34
    by_cases kd1 : k1 = d
    · subst kd1
      exact ⟨fun _ => ih k1 frm tto (by omega) (by omega) (Or.inr (Or.inl rfl)) b1 b2, fun q => absurd (Int32.le_refl _) q⟩
    · obtain ⟨nb, z⟩ := hx.resolve_left kd1
      obtain ⟨o1, o2, o3, o4⟩ := ws_ok T a k1
      have hlt : a + k1 < l := by omega
      have w240 : (ws T a k1).1 < 240 := by omega
      have en := ws_n nb z
      refine ⟨fun q => absurd q (nI_ge (by omega) (by omega)), fun _ => ⟨z_in w240 (Nat.le_refl _) (by omega), d - k1 - 1 + 2, ?_⟩⟩
      rw [z_cl w240 (by omega), ul_Mo_split_49]
      unfold wb_Mo_split_49
      rw [z_cl hlt (by omega), hA _ hlt, nI_1]
      refine ⟨fun q => absurd q (nI_ge (by omega) (by omega)), fun _ => ⟨z_in hlt hl (by omega), fun c => absurd ((nI_eq (b := 32) (by have := hT _ hlt; omega) (by omega)).mp c) nb, fun _ => ?_⟩⟩
      refine word _ (ws T a k1).1 (k1 + 1) _ tto (fun k2 hk2 hk2d hx2 hw2 c1 c2 => ?_) (d - k1 - 1) (k1 + 1) (by omega) (by omega) (by rw [en]) (by rw [en]) (by rw [en]; exact ar_push b1 _) (by
        rw [en]
        intro i hi
        show tto i = nI (up (ws T a k1).2.2.1 (ws T a k1).1 (a + k1 + 1) i)
        unfold up
        rw [if_neg (by omega)]
        exact b2 i hi)
      show wj_Mo_split_71 _ _ _ _ _ _ _ _
      unfold wj_Mo_split_71
      rw [z_cl w240 (by omega), show nI (ws T a k1).1 + (1 : Int32) = nI ((ws T a k1).1 + 1) from nI_1 _, ← hw2]
      rw [← hw2] at c1 c2
      exact ⟨z_in w240 (Nat.le_refl _) (by omega), ih k2 _ _ hk2d (by omega) (hx2.elim (fun h => Or.inr (Or.inl h)) (fun h => Or.inr (Or.inr h))) c1 c2⟩
end SP
