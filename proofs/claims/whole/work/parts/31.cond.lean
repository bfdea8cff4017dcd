/-! PURE: arrays of small numbers; conduction; the changes; names. -/
def AR (n : Nat) (f : Nat → Int32) (F : Nat → Nat) : Prop := ∀ i, i < n → f i = nI (F i)
def up (F : Nat → Nat) (k z : Nat) : Nat → Nat := fun i => if i = k then z else F i
theorem ar_upd {n : Nat} {f : Nat → Int32} {F : Nat → Nat} (h : AR n f F) (k z : Nat) : AR n (upd f k (nI z)) (up F k z) := fun i hi => by
  by_cases e : i = k
  · subst e; simp [upd, up]
  · simp [upd, up, e, h i hi]
theorem ar_same {n : Nat} {f g : Nat → Int32} {F : Nat → Nat} (h : AR n f F) (h2 : AR n g F) : ∀ i, i < n → f i = g i := fun i hi => (h i hi).trans (h2 i hi).symm
theorem z_n0 : nI 0 = 0 := rfl
theorem z_n1 : nI 1 = 1 := rfl
theorem z_n2 : nI 2 = 2 := rfl
theorem z_n3 : nI 3 = 3 := rfl
def cndS (jm kd gs : Nat) : Nat := if jm < 3 then jm else if kd = 100 then 1 else if gs = 2 then 2 else if kd = 110 then gs else 1 - gs
theorem cndS_le {jm kd gs : Nat} (h1 : jm ≤ 3) (h2 : gs ≤ 2) : cndS jm kd gs ≤ 2 := by unfold cndS; repeat' split
                                                                                       all_goals omega
/-- what transistor i needs of its network -/
def TOK (n t : Nat) (J Kd G St : Nat → Nat) : Prop := (∀ i, i < t → J i ≤ 3 ∧ (Kd i = 110 ∨ Kd i = 112 ∨ Kd i = 100) ∧ G i < n) ∧ ∀ i, i < n → St i ≤ 2
theorem x_cond {n t i : Nat} (hn : n ≤ 24) (ht : t ≤ 30) {jam kin gat sta : Nat → Int32} {J Kd G St : Nat → Nat} (hJ : AR t jam J) (hK : AR t kin Kd) (hG : AR t gat G) (hS : AR n sta St) (hO : TOK n t J Kd G St) (hi : i < t) {K : Int32 → Unit → Prop} (hk : K (nI (cndS (J i) (Kd i) (St (G i)))) ()) : wp_Ne_conduction jam kin gat sta (nI i) K := by
  have f3 := z_in hi ht (by omega)
  have f4 := z_cl hi (show t < 2 ^ 31 by omega)
  obtain ⟨o1, o2, o3⟩ := hO.1 i hi
  have o4 := hO.2 _ o3
  have g3 := z_in o3 hn (by omega)
  have g4 := z_cl o3 (show n < 2 ^ 31 by omega)
  have a1 := hJ i hi
  have a2 := hK i hi
  have a3 := hG i hi
  have a4 := hS _ o3
  generalize St (G i) = gs at *
  generalize J i = jm at *
  rw [wp_Ne_conduction, f4, a3, g4]
  rcases (show jm = 0 ∨ jm = 1 ∨ jm = 2 ∨ jm = 3 by omega) with e | e | e | e <;> subst e
  · simp only [cndS] at hk
    have a1 : jam i = 0 := a1
    simpa [a1, f3, z_n0, z_n1, z_n2] using hk
  · simp only [cndS] at hk
    have a1 : jam i = 1 := a1
    simpa [a1, f3, z_n0, z_n1, z_n2] using hk
  · simp only [cndS] at hk
    have a1 : jam i = 2 := a1
    simpa [a1, f3, z_n0, z_n1, z_n2] using hk
  · have a1 : jam i = 3 := a1
    rcases o2 with e | e | e <;> rw [e] at hk a2
    · have a2 : kin i = 110 := a2
      rcases (show gs = 0 ∨ gs = 1 ∨ gs = 2 by omega) with e | e | e <;> subst e
      · have a4 : sta (G i) = 0 := a4
        simp only [cndS] at hk
        simpa [a1, a2, a4, f3, g3, z_n0, z_n1, z_n2] using hk
      · have a4 : sta (G i) = 1 := a4
        simp only [cndS] at hk
        simpa [a1, a2, a4, f3, g3, z_n0, z_n1, z_n2] using hk
      · have a4 : sta (G i) = 2 := a4
        simp only [cndS] at hk
        simpa [a1, a2, a4, f3, g3, z_n0, z_n1, z_n2] using hk
    · have a2 : kin i = 112 := a2
      rcases (show gs = 0 ∨ gs = 1 ∨ gs = 2 by omega) with e | e | e <;> subst e
      · have a4 : sta (G i) = 0 := a4
        simp only [cndS] at hk
        simpa [a1, a2, a4, f3, g3, z_n0, z_n1, z_n2] using hk
      · have a4 : sta (G i) = 1 := a4
        simp only [cndS] at hk
        simpa [a1, a2, a4, f3, g3, z_n0, z_n1, z_n2] using hk
      · have a4 : sta (G i) = 2 := a4
        simp only [cndS] at hk
        simpa [a1, a2, a4, f3, g3, z_n0, z_n1, z_n2] using hk
    · have a2 : kin i = 100 := a2
      simp only [cndS] at hk
      simpa [a1, a2, f3, g3, z_n0, z_n1, z_n2] using hk
theorem y_cond {n t i : Nat} (hn : n ≤ 24) (ht : t ≤ 30) {jam kin gat sta : Nat → Int32} {J Kd G St : Nat → Nat} (hJ : AR t jam J) (hK : AR t kin Kd) (hG : AR t gat G) (hS : AR n sta St) (hO : TOK n t J Kd G St) (hi : i < t) {K : Int32 → Unit → Prop} (hk : K (nI (cndS (J i) (Kd i) (St (G i)))) ()) : wp_Mo_conduction jam gat sta kin (nI i) K := by
  have f3 := z_in hi ht (by omega)
  have f4 := z_cl hi (show t < 2 ^ 31 by omega)
  obtain ⟨o1, o2, o3⟩ := hO.1 i hi
  have o4 := hO.2 _ o3
  have g3 := z_in o3 hn (by omega)
  have g4 := z_cl o3 (show n < 2 ^ 31 by omega)
  have a1 := hJ i hi
  have a2 := hK i hi
  have a3 := hG i hi
  have a4 := hS _ o3
  have l0 : ¬ (3 : Int32) ≤ 0 := by decide
  have l1 : ¬ (3 : Int32) ≤ 1 := by decide
  have l2 : ¬ (3 : Int32) ≤ 2 := by decide
  have l3 : (3 : Int32) ≤ 3 := by decide
  generalize St (G i) = gs at *
  generalize J i = jm at *
  rw [wp_Mo_conduction, f4, a3, g4]
  rcases (show jm = 0 ∨ jm = 1 ∨ jm = 2 ∨ jm = 3 by omega) with e | e | e | e <;> subst e
  · simp only [cndS] at hk
    have a1 : jam i = 0 := a1
    simpa [a1, f3, l0, z_n0, z_n1, z_n2] using hk
  · simp only [cndS] at hk
    have a1 : jam i = 1 := a1
    simpa [a1, f3, l1, z_n0, z_n1, z_n2] using hk
  · simp only [cndS] at hk
    have a1 : jam i = 2 := a1
    simpa [a1, f3, l2, z_n0, z_n1, z_n2] using hk
  · have a1 : jam i = 3 := a1
    rcases o2 with e | e | e <;> rw [e] at hk a2
    · have a2 : kin i = 110 := a2
      rcases (show gs = 0 ∨ gs = 1 ∨ gs = 2 by omega) with e | e | e <;> subst e
      · have a4 : sta (G i) = 0 := a4
        simp only [cndS] at hk
        simpa [a1, a2, a4, f3, g3, l3, z_n0, z_n1, z_n2] using hk
      · have a4 : sta (G i) = 1 := a4
        simp only [cndS] at hk
        simpa [a1, a2, a4, f3, g3, l3, z_n0, z_n1, z_n2] using hk
      · have a4 : sta (G i) = 2 := a4
        simp only [cndS] at hk
        simpa [a1, a2, a4, f3, g3, l3, z_n0, z_n1, z_n2] using hk
    · have a2 : kin i = 112 := a2
      rcases (show gs = 0 ∨ gs = 1 ∨ gs = 2 by omega) with e | e | e <;> subst e
      · have a4 : sta (G i) = 0 := a4
        simp only [cndS] at hk
        simpa [a1, a2, a4, f3, g3, l3, z_n0, z_n1, z_n2] using hk
      · have a4 : sta (G i) = 1 := a4
        simp only [cndS] at hk
        simpa [a1, a2, a4, f3, g3, l3, z_n0, z_n1, z_n2] using hk
      · have a4 : sta (G i) = 2 := a4
        simp only [cndS] at hk
        simpa [a1, a2, a4, f3, g3, l3, z_n0, z_n1, z_n2] using hk
    · have a2 : kin i = 100 := a2
      simp only [cndS] at hk
      simpa [a1, a2, f3, g3, l3, z_n0, z_n1, z_n2] using hk
theorem j_conducts {n t : Nat} (hn : n ≤ 24) (ht : t ≤ 30) {jam kin gat sta mj mk mg ms : Nat → Int32} {J Kd G St : Nat → Nat} (hJ : AR t jam J) (hK : AR t kin Kd) (hG : AR t gat G) (hS : AR n sta St) (hJ' : AR t mj J) (hK' : AR t mk Kd) (hG' : AR t mg G) (hS' : AR n ms St) (hO : TOK n t J Kd G St) {v1 : Int32} {K2 : Int32 → Int32 → Prop} (h : ∀ r, K2 r r) :
    wp_Sw_conducts (nI t) jam kin gat sta v1 (fun r _ => wp_Mo_conducts (nI t) mj mg ms mk v1 (fun r' _ => K2 r r')) := by
  rcases pk_ix v1 (show t < 2 ^ 31 by omega) with h' | h' | ⟨j, hj, rfl⟩
  · simpa [wp_Sw_conducts, wp_Ne_hasTransistor, wp_Mo_conducts, wp_Mo_isTransistor, h'] using h _
  · by_cases h2 : v1 < 0
    · simpa [wp_Sw_conducts, wp_Ne_hasTransistor, wp_Mo_conducts, wp_Mo_isTransistor, h2] using h _
    · simpa [wp_Sw_conducts, wp_Ne_hasTransistor, wp_Mo_conducts, wp_Mo_isTransistor, h', h2] using h _
  · have f1 := z_f1 hj (show t < 2 ^ 31 by omega)
    have f2 := z_f2 hj (show t < 2 ^ 31 by omega)
    simp only [wp_Sw_conducts, wp_Ne_hasTransistor, wp_Mo_conducts, wp_Mo_isTransistor, f1, f2]
    simp
    refine x_cond hn ht hJ hK hG hS hO hj ?_
    exact y_cond hn ht hJ' hK' hG' hS' hO hj (h _)
/-- the changes: class's ring against the reference's -/
def CH (c x : Nat) (rws chd : Nat → Int32) : Prop := x < 32 ∧ ∀ j, j < min c 32 → rws ((x + 31 - j) % 32) = chd ((c - 1 - j) % 32)
theorem j_change {c x : Nat} (hc : c < 2 ^ 30) {rws chd : Nat → Int32} (hC : CH c x rws chd) {v1 : Int32} {K2 : Int32 → Int32 → Prop} (h : ∀ r, K2 r r) :
    wp_Sw_change (nI x) (nI (min c 32)) rws v1 (fun r _ => wp_Mo_change (nI c) chd v1 (fun r' _ => K2 r r')) := by
  obtain ⟨hx, hC⟩ := hC
  unfold wp_Sw_change wp_Ch_fromLatest wp_Mo_change
  by_cases a : v1 < 0
  · simpa [a] using h _
  · obtain ⟨j, hj, rfl⟩ := nI_of a
    have hm : min c 32 < 2 ^ 31 := by omega
    by_cases b : j < min c 32
    · have b1 : nI j < nI (min c 32) := nI_lt b hm
      have b2 : ¬ (31 : Int32) < nI j := fun q => by
        have := (nI_ltI (a := 31) (b := j) (by omega) hj).mp q
        omega
      have b3 : nI j < nI c := nI_lt (by omega) (by omega)
      have e1 : nI x + (32 : Int32) - (1 : Int32) - nI j = nI (x + 31 - j) := by
        show nI x + nI 32 - nI 1 - nI j = _
        rw [nI_add, pk_sub (by omega), pk_sub (by omega)]
        congr 1
      have e2 : nI c - (1 : Int32) - nI j = nI (c - 1 - j) := by
        show nI c - nI 1 - nI j = _
        rw [pk_sub (by omega), pk_sub (by omega)]
      have d1 : nI (x + 31 - j) - nI (x + 31 - j) / (32 : Int32) * (32 : Int32) = nI ((x + 31 - j) % 32) := pk_rem (d := 32) (by omega) (by omega) (by omega)
      have d2 : nI (c - 1 - j) - nI (c - 1 - j) / (32 : Int32) * (32 : Int32) = nI ((c - 1 - j) % 32) := pk_rem (d := 32) (by omega) (by omega) (by omega)
      have i1 : vp_in (nI ((x + 31 - j) % 32)) 32 := vp_in_nI (Nat.mod_lt _ (by omega)) (by omega)
      have i2 : vp_in (nI ((c - 1 - j) % 32)) 32 := vp_in_nI (Nat.mod_lt _ (by omega)) (by omega)
      have k1 : (nI ((x + 31 - j) % 32)).toNatClampNeg = (x + 31 - j) % 32 := nI_clamp (by omega)
      have k2 : (nI ((c - 1 - j) % 32)).toNatClampNeg = (c - 1 - j) % 32 := nI_clamp (by omega)
      refine ⟨fun q => absurd q a, fun _ => ⟨fun _ => ?_, fun q => absurd b1 q⟩⟩
      rw [e1, d1]
      refine ⟨i1, ⟨fun q => absurd q a, fun _ => ⟨fun q => absurd q b2, fun _ => ⟨fun _ => ?_, fun q => absurd b3 q⟩⟩⟩⟩
      rw [e2, d2, k1, k2, hC j b]
      exact ⟨i2, h _⟩
    · have b1 : ¬ nI j < nI (min c 32) := fun q => b ((nI_ltI hj hm).mp q)
      refine ⟨fun q => absurd q a, fun _ => ⟨fun q => absurd q b1, fun _ => ⟨fun q => absurd q a, fun _ => ⟨fun _ => h _, fun q => ⟨fun q2 => ?_, fun _ => h _⟩⟩⟩⟩⟩
      have q3 := (nI_ltI hj (by omega)).mp q2
      have q4 : ¬ 31 < j := fun w => q (nI_lt (a := 31) w hj)
      omega
