/-! PURE: names and single characters of words. -/
abbrev nmc (c : Nat) : Prop := (97 ≤ c ∧ c ≤ 122) ∨ (48 ≤ c ∧ c ≤ 57)
def pkH (T : Nat → Nat) : Nat → Nat → Nat
  | _, 0 => 0
  | p, k + 1 => T p + 256 * pkH T (p + 1) k
def nmS (T : Nat → Nat) (p q : Nat) : Nat := if q - p ≤ 4 ∧ ∀ i, i < q - p → nmc (T (p + i)) then pkH T p (q - p) else 0
theorem pkH_lt {T : Nat → Nat} : ∀ k p, (∀ i, i < k → nmc (T (p + i))) → 2 * pkH T p k < 256 ^ k := by
  intro k
  induction k with
  | zero => intro p _; exact Nat.one_pos
  | succ k ih =>
    intro p h
    have h1 := ih (p + 1) (fun i hi => by have := h (i + 1) (by omega); rw [show p + 1 + i = p + (i + 1) by omega]; exact this)
    have h2 := h 0 (by omega)
    rw [Nat.add_zero] at h2
    show 2 * (T p + 256 * pkH T (p + 1) k) < _
    rw [Nat.pow_succ]
    generalize 256 ^ k = X at *
    unfold nmc at h2
    omega
theorem pkH_snoc {T : Nat → Nat} : ∀ k p, pkH T p (k + 1) = pkH T p k + T (p + k) * 256 ^ k := by
  intro k
  induction k with
  | zero => intro p; simp [pkH]
  | succ k ih =>
    intro p
    show T p + 256 * pkH T (p + 1) (k + 1) = T p + 256 * pkH T (p + 1) k + T (p + (k + 1)) * 256 ^ (k + 1)
    rw [ih (p + 1), Nat.mul_add, Nat.pow_succ, show p + 1 + k = p + (k + 1) by omega, ← Nat.mul_assoc, Nat.mul_comm 256 (T _), Nat.mul_assoc, Nat.mul_comm 256 (256 ^ k), ← Nat.add_assoc]
theorem nmS_lt (T : Nat → Nat) (p q : Nat) : nmS T p q < 2 ^ 31 := by
  unfold nmS
  split
  · rename_i h
    have := pkH_lt _ _ h.2
    have h4 : 256 ^ (q - p) ≤ 256 ^ 4 := Nat.pow_le_pow_right (by omega) h.1
    omega
  · omega
theorem lor {v c k : Nat} (hk : k < 4) (hv : v < 256 ^ k) (hc : c < 128) : lN v ||| ((nI c).toInt64 <<< (((8 : Int32) * nI k).toInt64 &&& 63)) = lN (v + c * 256 ^ k) := by
  have h256 : 256 ^ k = 2 ^ (8 * k) := by rw [show (256 : Nat) = 2 ^ 8 from rfl, ← Nat.pow_mul]
  have hb : 2 ^ (8 * k) ≤ 2 ^ 24 := Nat.pow_le_pow_right (by omega) (by omega)
  have hcb : c * 2 ^ (8 * k) < 2 ^ 32 := by
    have := Nat.mul_le_mul (show c ≤ 127 by omega) hb
    omega
  rw [h256] at hv
  rw [nI_l (by omega), h256]
  apply Int64.toBitVec_inj.mp
  apply BitVec.eq_of_toNat_eq
  rw [Int64.toBitVec_or, Int64.toBitVec_shiftLeft, BitVec.toNat_or]
  rw [sh_amt k (by omega)]
  show (BitVec.ofNat 64 v).toNat ||| ((BitVec.ofNat 64 c) <<< (BitVec.ofNat 64 (8 * k)).toNat).toNat = (BitVec.ofNat 64 _).toNat
  rw [BitVec.toNat_shiftLeft, BitVec.toNat_ofNat, BitVec.toNat_ofNat, BitVec.toNat_ofNat, BitVec.toNat_ofNat, Nat.mod_eq_of_lt (show 8 * k < 2 ^ 64 by omega), Nat.mod_eq_of_lt (show c < 2 ^ 64 by omega), Nat.mod_eq_of_lt (show v < 2 ^ 64 by omega), Nat.shiftLeft_eq, Nat.mod_eq_of_lt (show c * 2 ^ (8 * k) < 2 ^ 64 by omega), Nat.mod_eq_of_lt (show v + c * 2 ^ (8 * k) < 2 ^ 64 by omega), Nat.or_comm, Nat.mul_comm, ← Nat.two_pow_add_eq_or_of_lt hv, Nat.add_comm]
theorem ior {v c : Nat} (hv : 2 * v < 2 ^ 24) (hc : c < 128) : (nI v <<< ((8 : Int32) &&& 31)) ||| nI c = nI (c + 256 * v) := by
  rw [pk_shlN _ 8 (by decide) (by omega)]
  apply Int32.toBitVec_inj.mp
  apply BitVec.eq_of_toNat_eq
  rw [Int32.toBitVec_or, BitVec.toNat_or, pk_tn (by omega), pk_tn (by omega), pk_tn (by omega), Nat.mul_comm, ← Nat.two_pow_add_eq_or_of_lt (show c < 2 ^ 8 by omega)]
  omega
theorem x_nmc {c : Nat} (hc : c < 2 ^ 31) {K : Int32 → Unit → Prop} (h1 : nmc c → K 1 ()) (h0 : ¬ nmc c → K 0 ()) : wp_Re_isNameCharacter (nI c) K := by
  unfold wp_Re_isNameCharacter
  have e1 : nI c < (97 : Int32) ↔ c < 97 := nI_ltI (b := 97) hc (by omega)
  have e2 : nI c < (48 : Int32) ↔ c < 48 := nI_ltI (b := 48) hc (by omega)
  have e3 : (57 : Int32) < nI c ↔ 57 < c := nI_ltI (a := 57) (by omega) hc
  have e4 : nI c ≤ (122 : Int32) ↔ c ≤ 122 := nI_leI (b := 122) hc (by omega)
  rw [e1, e2, e3, e4]
  refine ⟨fun a => ⟨fun b => h0 (fun q => by unfold nmc at q; omega), fun b => ⟨fun d => h0 (fun q => by unfold nmc at q; omega), fun d => h1 (by unfold nmc; omega)⟩⟩, fun a => ⟨fun b => h1 (by unfold nmc; omega), fun b => ⟨fun d => h0 (fun q => by unfold nmc at q; omega), fun d => ⟨fun e => h0 (fun q => by unfold nmc at q; omega), fun e => h1 (by unfold nmc; omega)⟩⟩⟩⟩
section NM
variable {T : Nat → Nat} {l w : Nat} {A B : Nat → Nat}
theorem x_name {chr wst wen : Nat → Int32} (hA : AR l chr T) (hT : ∀ i, i < l → T i < 127) (hl : l ≤ 480) (a1 : AR w wst A) (a2 : AR w wen B) (hw : w ≤ 5) (hO : ∀ i, i < w → A i < B i ∧ B i ≤ l) {i : Nat} (hi : i < w) {K : Int64 → Unit → Prop} (h : K (lN (nmS T (A i) (B i))) ()) : wp_Re_nameOfWord wst wen chr (nI i) K := by
  obtain ⟨o1, o2⟩ := hO i hi
  unfold wp_Re_nameOfWord
  rw [z_cl hi (by omega), a1 i hi, a2 i hi, pk_sub (by omega)]
  generalize A i = p at *
  generalize B i = q at *
  refine ⟨z_in hi hw (by omega), z_in hi hw (by omega), fun c => ?_, fun c => ?_⟩
  · have h4 : q - p ≤ 4 := (nI_leI (b := 4) (by omega) (by omega)).mp c
    refine ⟨q - p + 1, ?_⟩
    suffices H : ∀ j k, k + j = q - p → (∀ i, i < k → nmc (T (p + i))) → wl_Re_nameOfWord_29 wst wen chr K (j + 1) (nI p) (nI (q - p)) (lN (pkH T p k)) (nI k) from H (q - p) 0 (by omega) (fun i hi => absurd hi (by omega))
    intro j
    induction j with
    | zero =>
      intro k hk ho
      have e : k = q - p := by omega
      subst e
      rw [ul_Re_nameOfWord_29]
      refine ⟨fun _ => ?_, fun q => absurd (Int32.le_refl _) q⟩
      rw [nmS, if_pos ⟨h4, ho⟩] at h
      exact h
    | succ j ih =>
      intro k hk ho
      have hlt : p + k < l := by omega
      have ht := hT _ hlt
      rw [ul_Re_nameOfWord_29]
      unfold wb_Re_nameOfWord_29
      rw [nI_add, z_cl hlt (by omega), hA _ hlt, nI_1]
      refine ⟨fun q => absurd q (nI_ge (by omega) (by omega)), fun _ => ⟨z_in hlt hl (by omega), x_nmc (by omega) (fun ok => ⟨fun _ => ?_, fun q => absurd q (by decide)⟩) (fun no => ⟨fun q => absurd rfl q, fun _ => ?_⟩)⟩⟩
      · have hb := pkH_lt k p ho
        rw [lor (by omega) (by omega) (by omega), ← pkH_snoc]
        refine ih (k + 1) (by omega) (fun i hi => ?_)
        by_cases e : i = k
        · rw [e]; exact ok
        · exact ho i (by omega)
      · rw [nmS, if_neg (fun q2 => no (q2.2 k (by omega)))] at h
        exact h
  · have h4 : ¬ q - p ≤ 4 := fun e => c (nI_le (b := 4) e (by omega))
    rw [nmS, if_neg (fun q2 => h4 q2.1)] at h
    exact h
theorem y_name {txt frm tto : Nat → Int32} (hA : AR l txt T) (hT : ∀ i, i < l → T i < 127) (hl : l ≤ 480) (a1 : AR w frm A) (a2 : AR w tto B) (hw : w ≤ 240) (hO : ∀ i, i < w → A i < B i ∧ B i ≤ l) {i : Nat} (hi : i < w) {K : Int32 → Unit → Prop} (h : K (nI (nmS T (A i) (B i))) ()) : wp_Mo_nameOf tto frm txt (nI i) K := by
  obtain ⟨o1, o2⟩ := hO i hi
  have b1 := a1 i hi
  have b2 := a2 i hi
  have hiw := z_in hi hw (by omega)
  have hic := z_cl hi (show w < 2 ^ 31 by omega)
  unfold wp_Mo_nameOf
  rw [hic, b1, b2, pk_sub (by omega)]
  generalize A i = p at *
  generalize B i = q at *
  refine ⟨hiw, hiw, fun c => ⟨hiw, ?_⟩, fun c => ?_⟩
  · have h4 : q - p ≤ 4 := (nI_leI (b := 4) (by omega) (by omega)).mp c
    refine ⟨q - p + 1, ?_⟩
    suffices H : ∀ j, j ≤ q - p → (∀ i, j ≤ i → i < q - p → nmc (T (p + i))) → wl_Mo_nameOf_33 tto frm txt K (j + 1) (nI i) (nI (pkH T (p + j) (q - p - j))) (nI (p + j) + (-1)) by
      have := H (q - p) (Nat.le_refl _) (fun i hi hi2 => absurd hi2 (by omega))
      rw [Nat.sub_self, show p + (q - p) = q by omega] at this
      rw [show nI q - (1 : Int32) = nI q + (-1) from Int32.sub_eq_add_neg _ _]
      exact this
    intro j
    induction j with
    | zero =>
      intro hj ho
      rw [ul_Mo_nameOf_33]
      unfold wb_Mo_nameOf_33
      rw [hic, b1]
      have lt : nI (p + 0) + (-1) < nI p := by
        by_cases e : p = 0
        · subst e; decide
        · rw [Nat.add_zero, show p = p - 1 + 1 by omega, pk_m1]
          exact nI_lt (by omega) (by omega)
      refine ⟨hiw, fun _ => ?_, fun q => absurd lt q⟩
      rw [nmS, if_pos ⟨h4, fun i hi => ho i (Nat.zero_le _) hi⟩] at h
      exact h
    | succ j ih =>
      intro hj ho
      have hlt : p + j < l := by omega
      have ht := hT _ hlt
      rw [ul_Mo_nameOf_33]
      unfold wb_Mo_nameOf_33
      rw [show p + (j + 1) = p + j + 1 by omega, pk_m1, z_cl hlt (by omega), hA _ hlt, hic, b1]
      have hb := pkH_lt (q - p - (j + 1)) (p + j + 1) (fun i hi => by have := ho (j + 1 + i) (by omega) (by omega); rw [show p + j + 1 + i = p + (j + 1 + i) by omega]; exact this)
      have hb2 : 256 ^ (q - p - (j + 1)) ≤ 256 ^ 3 := Nat.pow_le_pow_right (by omega) (by omega)
      have e1 : nI (T (p + j)) < (97 : Int32) ↔ T (p + j) < 97 := nI_ltI (b := 97) (by omega) (by omega)
      have e2 : nI (T (p + j)) < (48 : Int32) ↔ T (p + j) < 48 := nI_ltI (b := 48) (by omega) (by omega)
      have e3 : nI (T (p + j)) ≤ (57 : Int32) ↔ T (p + j) ≤ 57 := nI_leI (b := 57) (by omega) (by omega)
      have e4 : nI (T (p + j)) ≤ (122 : Int32) ↔ T (p + j) ≤ 122 := nI_leI (b := 122) (by omega) (by omega)
      rw [e1, e4, ior (by omega) (by omega)]
      have yes : nmc (T (p + j)) → wl_Mo_nameOf_33 tto frm txt K (j + 1) (nI i) (nI (T (p + j) + 256 * pkH T (p + j + 1) (q - p - (j + 1)))) (nI (p + j) + (-1)) := fun ok => by
        have := ih (by omega) (fun i hi hi2 => by
          by_cases e : i = j
          · rw [e]; exact ok
          · exact ho i (by omega) hi2)
        rw [show q - p - j = q - p - (j + 1) + 1 by omega] at this
        exact this
      have no : ¬ nmc (T (p + j)) → K 0 () := fun no => by
        rw [nmS, if_neg (fun q2 => no (q2.2 j (by omega)))] at h
        exact h
      have j67 : ¬ (97 ≤ T (p + j) ∧ T (p + j) ≤ 122) → wj_Mo_nameOf_67 tto frm txt (wl_Mo_nameOf_33 tto frm txt K (j + 1)) K (nI i) (nI (pkH T (p + j + 1) (q - p - (j + 1)))) (nI (p + j)) (nI (T (p + j))) := fun nn => by
        unfold wj_Mo_nameOf_67
        rw [e2, e3, ior (by omega) (by omega)]
        exact ⟨fun c => no (fun q2 => by unfold nmc at q2; omega), fun c => ⟨fun c2 => yes (by unfold nmc; omega), fun c2 => no (fun q2 => by unfold nmc at q2; omega)⟩⟩
      exact ⟨hiw, fun q => absurd q (nI_nlt (by omega) (by omega)), fun _ => ⟨z_in hlt hl (by omega), fun c => j67 (by omega), fun c => ⟨fun c2 => yes (by unfold nmc; omega), fun c2 => j67 (by omega)⟩⟩⟩
  · have h4 : ¬ q - p ≤ 4 := fun e => c (nI_le (b := 4) e (by omega))
    rw [nmS, if_neg (fun q2 => h4 q2.1)] at h
    exact h
theorem x_only {chr wst wen : Nat → Int32} (hA : AR l chr T) (hl : l ≤ 480) (a1 : AR w wst A) (a2 : AR w wen B) (hw : w ≤ 5) (hO : ∀ i, i < w → A i < B i ∧ B i ≤ l) {i : Nat} (hi : i < w) {K : Int32 → Unit → Prop} (h1 : B i - A i = 1 → K (nI (T (A i))) ()) (h0 : ¬ B i - A i = 1 → K 32 ()) : wp_Re_onlyCharacter wst wen chr (nI i) K := by
  obtain ⟨o1, o2⟩ := hO i hi
  unfold wp_Re_onlyCharacter
  rw [z_cl hi (by omega), a1 i hi, a2 i hi, pk_sub (by omega), z_cl (show A i < l by omega) (by omega), hA _ (by omega)]
  exact ⟨z_in hi hw (by omega), z_in hi hw (by omega), fun c => h0 (fun e => c (by rw [e]; rfl)), fun c => ⟨z_in (show A i < l by omega) hl (by omega), h1 ((nI_eq (b := 1) (by omega) (by omega)).mp c)⟩⟩
theorem y_single {txt frm tto : Nat → Int32} (hA : AR l txt T) (hl : l ≤ 480) (a1 : AR w frm A) (a2 : AR w tto B) (hw : w ≤ 240) (hO : ∀ i, i < w → A i < B i ∧ B i ≤ l) {i : Nat} (hi : i < w) {K : Int32 → Unit → Prop} (h1 : B i - A i = 1 → K (nI (T (A i))) ()) (h0 : ¬ B i - A i = 1 → K 0 ()) : wp_Mo_single tto frm txt (nI i) K := by
  obtain ⟨o1, o2⟩ := hO i hi
  unfold wp_Mo_single
  rw [z_cl hi (by omega), a1 i hi, a2 i hi, pk_sub (by omega), z_cl (show A i < l by omega) (by omega), hA _ (by omega)]
  have hiw := z_in hi hw (by omega)
  exact ⟨hiw, hiw, fun c => h0 (fun e => c (by rw [e]; rfl)), fun c => ⟨hiw, z_in (show A i < l by omega) hl (by omega), h1 ((nI_eq (b := 1) (by omega) (by omega)).mp c)⟩⟩
def fgS (T : Nat → Nat) (p q : Nat) : Nat := if q - p = 1 ∧ 49 ≤ T p ∧ T p ≤ 51 then T p - 48 else 0
theorem fgS_le (T : Nat → Nat) (p q : Nat) : fgS T p q ≤ 3 := by unfold fgS; split <;> omega
theorem x_fig {chr wst wen : Nat → Int32} (hA : AR l chr T) (hT : ∀ i, i < l → T i < 127) (hl : l ≤ 480) (a1 : AR w wst A) (a2 : AR w wen B) (hw : w ≤ 5) (hO : ∀ i, i < w → A i < B i ∧ B i ≤ l) {i : Nat} (hi : i < w) {K : Int32 → Unit → Prop} (h1 : ¬ fgS T (A i) (B i) = 0 → K (nI (fgS T (A i) (B i))) ()) (h0 : fgS T (A i) (B i) = 0 → K (-1) ()) : wp_Re_oneToThree wst wen chr (nI i) K := by
  obtain ⟨o1, o2⟩ := hO i hi
  have ht := hT (A i) (by omega)
  unfold wp_Re_oneToThree
  refine x_only hA hl a1 a2 hw hO hi (fun e => ?_) (fun e => ?_)
  · have e1 : nI (T (A i)) < (49 : Int32) ↔ T (A i) < 49 := nI_ltI (b := 49) (by omega) (by omega)
    have e2 : (51 : Int32) < nI (T (A i)) ↔ 51 < T (A i) := nI_ltI (a := 51) (by omega) (by omega)
    rw [e1, e2]
    unfold fgS at h1 h0
    refine ⟨fun c => h0 (if_neg (by omega)), fun c => ⟨fun c2 => h0 (if_neg (by omega)), fun c2 => ?_⟩⟩
    rw [if_pos (by omega)] at h1
    rw [show nI (T (A i)) - (48 : Int32) = nI (T (A i) - 48) from pk_sub (b := 48) (by omega)]
    exact h1 (by omega)
  · exact ⟨fun _ => h0 (if_neg (fun q => e q.1)), fun q => absurd (by decide) q⟩
theorem y_fig {txt frm tto : Nat → Int32} (hA : AR l txt T) (hT : ∀ i, i < l → T i < 127) (hl : l ≤ 480) (a1 : AR w frm A) (a2 : AR w tto B) (hw : w ≤ 240) (hO : ∀ i, i < w → A i < B i ∧ B i ≤ l) {i : Nat} (hi : i < w) {K : Int32 → Unit → Prop} (h : K (nI (fgS T (A i) (B i))) ()) : wp_Mo_figure tto frm txt (nI i) K := by
  obtain ⟨o1, o2⟩ := hO i hi
  have ht := hT (A i) (by omega)
  unfold wp_Mo_figure
  refine y_single hA hl a1 a2 hw hO hi (fun e => ?_) (fun e => ?_)
  · have e1 : nI (T (A i)) < (49 : Int32) ↔ T (A i) < 49 := nI_ltI (b := 49) (by omega) (by omega)
    have e2 : (51 : Int32) < nI (T (A i)) ↔ 51 < T (A i) := nI_ltI (a := 51) (by omega) (by omega)
    rw [e1, e2]
    unfold fgS at h
    refine ⟨fun c => ?_, fun c => ⟨fun c2 => ?_, fun c2 => ?_⟩⟩
    · rw [if_neg (by omega)] at h; exact h
    · rw [if_neg (by omega)] at h; exact h
    · rw [if_pos (by omega)] at h
      rw [show nI (T (A i)) - (48 : Int32) = nI (T (A i) - 48) from pk_sub (b := 48) (by omega)]
      exact h
  · rw [fgS, if_neg (fun q => e q.1)] at h
    exact ⟨fun _ => h, fun q => absurd (by decide) q⟩
end NM
