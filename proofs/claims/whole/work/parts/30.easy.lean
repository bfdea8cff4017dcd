/-! PURE: the small calls, class and reference side by side. -/
theorem z_in {j n N : Nat} (hj : j < n) (hn : n ≤ N) (hN : N < 2 ^ 31) : vp_in (nI j) N := vp_in_nI (by omega) hN
theorem z_cl {j n : Nat} (hj : j < n) (hn : n < 2 ^ 31) : (nI j).toNatClampNeg = j := nI_clamp (by omega)
theorem z_f1 {j n : Nat} (hj : j < n) (hn : n < 2 ^ 31) : ¬ nI j < 0 := nI_pos (by omega)
theorem z_f2 {j n : Nat} (hj : j < n) (hn : n < 2 ^ 31) : ¬ nI n ≤ nI j := nI_ge hj hn
theorem j_nodes {n : Nat} {K2 : Int32 → Int32 → Prop} (h : K2 (nI n) (nI n)) : wp_Sw_nodes (nI n) (fun r _ => wp_Mo_nodes (nI n) (fun r' _ => K2 r r')) := h
theorem j_set {n : Nat} (hn : n ≤ 24) {stk sta mstu msts : Nat → Int32} (hs : ∀ i, i < n → stk i = mstu i) {v1 v2 : Int32} {K2 : Int32 → (Nat → Int32) → Int32 → (Nat → Int32) → Prop}
    (h0 : K2 0 sta 0 msts) (h1 : ∀ j z, j < n → z ≤ 2 → K2 1 (upd sta j (nI z)) 1 (upd msts j (nI z))) :
    wp_Sw_set (nI n) stk sta v1 v2 (fun r u => wp_Mo_set (nI n) mstu msts v1 v2 (fun r' u' => K2 r u r' u')) := by
  rcases pk_ix v1 (show n < 2 ^ 31 by omega) with h | h | ⟨j, hj, rfl⟩
  · simpa [wp_Sw_set, wp_Ne_hasNode, wp_Mo_set, wp_Mo_isNode, h] using h0
  · by_cases h' : v1 < 0
    · simpa [wp_Sw_set, wp_Ne_hasNode, wp_Mo_set, wp_Mo_isNode, h'] using h0
    · simpa [wp_Sw_set, wp_Ne_hasNode, wp_Mo_set, wp_Mo_isNode, h, h'] using h0
  · have f1 := z_f1 hj (show n < 2 ^ 31 by omega)
    have f2 := z_f2 hj (show n < 2 ^ 31 by omega)
    have f3 := z_in hj hn (by omega)
    have f4 := z_cl hj (show n < 2 ^ 31 by omega)
    have f5 := hs j hj
    by_cases hst : mstu j = 0
    · by_cases a : v2 < 0
      · simpa [wp_Sw_set, wp_Ne_hasNode, wp_Mo_set, wp_Mo_isNode, wp_Sw_isState, f1, f2, f3, f4, f5, hst, a] using h0
      · by_cases b : (2 : Int32) < v2
        · have b' : ¬ v2 ≤ 2 := Int32.not_le.mpr b
          simpa [wp_Sw_set, wp_Ne_hasNode, wp_Mo_set, wp_Mo_isNode, wp_Sw_isState, f1, f2, f3, f4, f5, hst, a, b, b'] using h0
        · have b' : v2 ≤ 2 := Int32.not_lt.mp b
          obtain ⟨z, hz, rfl⟩ := nI_of2 (M := 2) (n := 2) (by decide) a b'
          simpa [wp_Sw_set, wp_Ne_hasNode, wp_Mo_set, wp_Mo_isNode, wp_Sw_isState, f1, f2, f3, f4, f5, hst, a, b, b'] using h1 j z hj hz
    · simpa [wp_Sw_set, wp_Ne_hasNode, wp_Mo_set, wp_Mo_isNode, wp_Sw_isState, f1, f2, f3, f4, f5, hst] using h0
theorem j_stick {n : Nat} (hn : n ≤ 24) {inp stk sta minp mstu msts : Nat → Int32} (hs : ∀ i, i < n → inp i = minp i) {v1 v2 : Int32} {K2 : Int32 → (Nat → Int32) × (Nat → Int32) → Int32 → (Nat → Int32) × (Nat → Int32) → Prop}
    (h0 : K2 0 (stk, sta) 0 (mstu, msts)) (h1 : ∀ j z, j < n → z ≤ 2 → K2 1 (upd stk j 1, upd sta j (nI z)) 1 (upd mstu j 1, upd msts j (nI z))) :
    wp_Sw_stick (nI n) inp stk sta v1 v2 (fun r u => wp_Mo_stick (nI n) minp mstu msts v1 v2 (fun r' u' => K2 r u r' u')) := by
  have e1 : vp_nar .boolean (1 : Int32) = 1 := by decide
  rcases pk_ix v1 (show n < 2 ^ 31 by omega) with h | h | ⟨j, hj, rfl⟩
  · simpa [wp_Sw_stick, wp_Ne_hasNode, wp_Mo_stick, wp_Mo_isNode, h] using h0
  · by_cases h' : v1 < 0
    · simpa [wp_Sw_stick, wp_Ne_hasNode, wp_Mo_stick, wp_Mo_isNode, h'] using h0
    · simpa [wp_Sw_stick, wp_Ne_hasNode, wp_Mo_stick, wp_Mo_isNode, h, h'] using h0
  · have f1 := z_f1 hj (show n < 2 ^ 31 by omega)
    have f2 := z_f2 hj (show n < 2 ^ 31 by omega)
    have f3 := z_in hj hn (by omega)
    have f4 := z_cl hj (show n < 2 ^ 31 by omega)
    have f5 := hs j hj
    by_cases hst : minp j = 0
    · by_cases a : v2 < 0
      · simpa [wp_Sw_stick, wp_Ne_hasNode, wp_Mo_stick, wp_Mo_isNode, wp_Sw_isState, f1, f2, f3, f4, f5, hst, a] using h0
      · by_cases b : (2 : Int32) < v2
        · have b' : ¬ v2 ≤ 2 := Int32.not_le.mpr b
          simpa [wp_Sw_stick, wp_Ne_hasNode, wp_Mo_stick, wp_Mo_isNode, wp_Sw_isState, f1, f2, f3, f4, f5, hst, a, b, b'] using h0
        · have b' : v2 ≤ 2 := Int32.not_lt.mp b
          obtain ⟨z, hz, rfl⟩ := nI_of2 (M := 2) (n := 2) (by decide) a b'
          simpa [wp_Sw_stick, wp_Ne_hasNode, wp_Mo_stick, wp_Mo_isNode, wp_Sw_isState, f1, f2, f3, f4, f5, hst, a, b, b', e1] using h1 j z hj hz
    · simpa [wp_Sw_stick, wp_Ne_hasNode, wp_Mo_stick, wp_Mo_isNode, wp_Sw_isState, f1, f2, f3, f4, f5, hst] using h0
theorem j_free {n : Nat} (hn : n ≤ 24) {stk mstu : Nat → Int32} (hs : ∀ i, i < n → stk i = mstu i) {v1 : Int32} {K2 : Int32 → (Nat → Int32) → Int32 → (Nat → Int32) → Prop}
    (h0 : K2 0 stk 0 mstu) (h1 : ∀ j, j < n → K2 1 (upd stk j 0) 1 (upd mstu j 0)) :
    wp_Sw_free (nI n) stk v1 (fun r u => wp_Mo_free (nI n) mstu v1 (fun r' u' => K2 r u r' u')) := by
  have e1 : vp_nar .boolean (0 : Int32) = 0 := by decide
  rcases pk_ix v1 (show n < 2 ^ 31 by omega) with h | h | ⟨j, hj, rfl⟩
  · simpa [wp_Sw_free, wp_Ne_hasNode, wp_Mo_free, wp_Mo_isNode, h] using h0
  · by_cases h' : v1 < 0
    · simpa [wp_Sw_free, wp_Ne_hasNode, wp_Mo_free, wp_Mo_isNode, h'] using h0
    · simpa [wp_Sw_free, wp_Ne_hasNode, wp_Mo_free, wp_Mo_isNode, h, h'] using h0
  · have f1 := z_f1 hj (show n < 2 ^ 31 by omega)
    have f2 := z_f2 hj (show n < 2 ^ 31 by omega)
    have f3 := z_in hj hn (by omega)
    have f4 := z_cl hj (show n < 2 ^ 31 by omega)
    have f5 := hs j hj
    by_cases hst : mstu j = 0
    · simpa [wp_Sw_free, wp_Ne_hasNode, wp_Mo_free, wp_Mo_isNode, f1, f2, f3, f4, f5, hst] using h0
    · simpa [wp_Sw_free, wp_Ne_hasNode, wp_Mo_free, wp_Mo_isNode, f1, f2, f3, f4, f5, hst, e1] using h1 j hj
theorem j_jam {t : Nat} (ht : t ≤ 30) {jam mjmd : Nat → Int32} {v1 v2 : Int32} {K2 : Int32 → (Nat → Int32) → Int32 → (Nat → Int32) → Prop}
    (h0 : K2 0 jam 0 mjmd) (h1 : ∀ j z, j < t → z ≤ 3 → K2 1 (upd jam j (nI z)) 1 (upd mjmd j (nI z))) :
    wp_Sw_jam (nI t) jam v1 v2 (fun r u => wp_Mo_jam (nI t) mjmd v1 v2 (fun r' u' => K2 r u r' u')) := by
  rcases pk_ix v1 (show t < 2 ^ 31 by omega) with h | h | ⟨j, hj, rfl⟩
  · simpa [wp_Sw_jam, wp_Ne_hasTransistor, wp_Mo_jam, wp_Mo_isTransistor, h] using h0
  · by_cases h' : v1 < 0
    · simpa [wp_Sw_jam, wp_Ne_hasTransistor, wp_Mo_jam, wp_Mo_isTransistor, h'] using h0
    · simpa [wp_Sw_jam, wp_Ne_hasTransistor, wp_Mo_jam, wp_Mo_isTransistor, h, h'] using h0
  · have f1 := z_f1 hj (show t < 2 ^ 31 by omega)
    have f2 := z_f2 hj (show t < 2 ^ 31 by omega)
    have f3 := z_in hj ht (by omega)
    have f4 := z_cl hj (show t < 2 ^ 31 by omega)
    by_cases a : v2 < 0
    · simpa [wp_Sw_jam, wp_Ne_hasTransistor, wp_Mo_jam, wp_Mo_isTransistor, f1, f2, f3, f4, a] using h0
    · by_cases b : v2 ≤ (3 : Int32)
      · obtain ⟨z, hz, rfl⟩ := nI_of2 (M := 3) (n := 3) (by decide) a b
        simpa [wp_Sw_jam, wp_Ne_hasTransistor, wp_Mo_jam, wp_Mo_isTransistor, f1, f2, f3, f4, a, b] using h1 j z hj hz
      · simpa [wp_Sw_jam, wp_Ne_hasTransistor, wp_Mo_jam, wp_Mo_isTransistor, f1, f2, f3, f4, a, b] using h0
theorem j_limit {most : Int32} {v1 : Int32} {K2 : Int32 → Int32 → Int32 → Int32 → Prop} (h0 : K2 0 most 0 most) (h1 : ∀ z, 1 ≤ z → z ≤ 50 → K2 1 (nI z) 1 (nI z)) :
    wp_Sw_limit most v1 (fun r u => wp_Mo_limit most v1 (fun r' u' => K2 r u r' u')) := by
  by_cases a : v1 < 1
  · simpa [wp_Sw_limit, wp_Mo_limit, a] using h0
  · by_cases b : v1 ≤ (50 : Int32)
    · have a' : ¬ v1 < 0 := fun h => a (Int32.lt_of_lt_of_le h (by decide))
      obtain ⟨z, hz, rfl⟩ := nI_of2 (M := 50) (n := 50) (by decide) a' b
      have hz1 : 1 ≤ z := by
        rcases Nat.eq_zero_or_pos z with h | h
        · subst h; exact absurd (by decide : nI 0 < (1 : Int32)) a
        · exact h
      simpa [wp_Sw_limit, wp_Mo_limit, a, b] using h1 z hz1 hz
    · simpa [wp_Sw_limit, wp_Mo_limit, a, b] using h0
theorem j_state {n : Nat} (hn : n ≤ 24) {sta msts : Nat → Int32} (hs : ∀ i, i < n → sta i = msts i) {v1 : Int32} {K2 : Int32 → Int32 → Prop} (h : ∀ r, K2 r r) :
    wp_Sw_state (nI n) sta v1 (fun r _ => wp_Mo_state (nI n) msts v1 (fun r' _ => K2 r r')) := by
  rcases pk_ix v1 (show n < 2 ^ 31 by omega) with h' | h' | ⟨j, hj, rfl⟩
  · simpa [wp_Sw_state, wp_Ne_hasNode, wp_Mo_state, wp_Mo_isNode, h'] using h _
  · by_cases h2 : v1 < 0
    · simpa [wp_Sw_state, wp_Ne_hasNode, wp_Mo_state, wp_Mo_isNode, h2] using h _
    · simpa [wp_Sw_state, wp_Ne_hasNode, wp_Mo_state, wp_Mo_isNode, h', h2] using h _
  · have f1 := z_f1 hj (show n < 2 ^ 31 by omega)
    have f2 := z_f2 hj (show n < 2 ^ 31 by omega)
    have f3 := z_in hj hn (by omega)
    have f4 := z_cl hj (show n < 2 ^ 31 by omega)
    simpa [wp_Sw_state, wp_Ne_hasNode, wp_Mo_state, wp_Mo_isNode, f1, f2, f3, f4, hs j hj] using h _
