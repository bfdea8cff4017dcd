/-! PURE: step and settle. A state: what nodes have, the steps, how many changes, all changes. -/
abbrev Sgm : Type := (Nat → Nat) × Int32 × Nat × (Nat → Int32)
noncomputable def stF (n t : Nat) (I Sk Sz Kd G So Dr Sg J : Nat → Nat) (dm : Nat) (σ : Sgm) : Sgm × Nat :=
  ((nxtF n t I Sk Sz Kd G So Dr Sg J dm σ.1, σ.2.1 + 1, (chF (σ.2.1 + 1) (nxtF n t I Sk Sz Kd G So Dr Sg J dm σ.1) σ.1 (σ.2.2.1, σ.2.2.2) n).1, (chF (σ.2.1 + 1) (nxtF n t I Sk Sz Kd G So Dr Sg J dm σ.1) σ.1 (σ.2.2.1, σ.2.2.2) n).2), cnF (nxtF n t I Sk Sz Kd G So Dr Sg J dm σ.1) σ.1 n)
def XS (n : Nat) (σ : Sgm) (made nxt cnt : Int32) (sta rws : Nat → Int32) : Prop := made = σ.2.1 ∧ AR n sta σ.1 ∧ (∀ i, i < n → σ.1 i ≤ 2) ∧ ∃ x, nxt = nI x ∧ cnt = nI (min σ.2.2.1 32) ∧ CX σ.2.2.1 x rws σ.2.2.2
def YS (n : Nat) (σ : Sgm) (stp chs : Int32) (sts chd : Nat → Int32) : Prop := stp = σ.2.1 ∧ AR n sts σ.1 ∧ (∀ i, i < n → σ.1 i ≤ 2) ∧ chs = nI σ.2.2.1 ∧ CM σ.2.2.1 chd σ.2.2.2
def fl1 (f : Nat) : Nat := if f = 0 then 0 else 1
def kn (St : Nat → Nat) : Nat → Nat
  | 0 => 0
  | n + 1 => kn St n + (if St n = 2 then 0 else 1)
theorem kn_le {St : Nat → Nat} : ∀ n, kn St n ≤ n := by
  intro n
  induction n with
  | zero => exact Nat.le_refl _
  | succ n ih => simp only [kn]; split <;> omega
theorem kn_down {N St : Nat → Nat} : ∀ n, (∀ i, i < n → N i = St i ∨ N i = 2) → kn N n + cnF N St n = kn St n := by
  intro n
  induction n with
  | zero => intro _; rfl
  | succ n ih =>
    intro h
    have e := ih (fun i hi => h i (by omega))
    simp only [kn, cnF]
    rcases h n (by omega) with q | q
    · simp only [q, if_true]; omega
    · by_cases w : N n = St n
      · simp only [w, if_true]; omega
      · have w2 : ¬ St n = 2 := fun z => w (by rw [q, z])
        rw [if_pos q, if_neg w, if_neg w2]; omega
theorem ar_cong {n : Nat} {f : Nat → Int32} {F G : Nat → Nat} (h : AR n f F) (e : ∀ i, i < n → F i = G i) : AR n f G := fun i hi => by rw [h i hi, e i hi]
def runA (F : Sgm → Sgm × Nat) (lim : Nat) : Nat → Sgm → Nat → Nat → Sgm × Nat × Nat
  | 0, σ, k, f => (σ, k, f)
  | d + 1, σ, k, f => if f = 0 ∨ lim ≤ k then (σ, k, f) else runA F lim d (F σ).1 (k + 1) (F σ).2
def runB (F : Sgm → Sgm × Nat) : Nat → Sgm → Nat → Nat → Sgm × Nat
  | 0, σ, k, _ => (σ, k)
  | d + 1, σ, k, f => if f = 0 then (σ, k) else runB F d (F σ).1 (k + 1) (F σ).2
theorem runA_c {F : Sgm → Sgm × Nat} {lim : Nat} (hF : ∀ σ, (F σ).1.2.2.1 ≤ σ.2.2.1 + 24) : ∀ d σ k f, (runA F lim d σ k f).1.2.2.1 ≤ σ.2.2.1 + 24 * d := by
  intro d
  induction d with
  | zero => intro σ k f; exact Nat.le_refl _
  | succ d ih =>
    intro σ k f
    simp only [runA]
    split
    · show σ.2.2.1 ≤ _; omega
    · have h1 := ih (F σ).1 (k + 1) (F σ).2
      have h2 := hF σ
      omega
theorem runB_c {F : Sgm → Sgm × Nat} (hF : ∀ σ, (F σ).1.2.2.1 ≤ σ.2.2.1 + 24) : ∀ d σ k f, (runB F d σ k f).1.2.2.1 ≤ σ.2.2.1 + 24 * d := by
  intro d
  induction d with
  | zero => intro σ k f; exact Nat.le_refl _
  | succ d ih =>
    intro σ k f
    simp only [runB]
    split
    · show σ.2.2.1 ≤ _; omega
    · have h1 := ih (F σ).1 (k + 1) (F σ).2
      have h2 := hF σ
      omega
theorem runA_k {F : Sgm → Sgm × Nat} {lim : Nat} : ∀ d σ k f, k ≤ lim → (runA F lim d σ k f).2.1 ≤ lim := by
  intro d
  induction d with
  | zero => intro σ k f h; exact h
  | succ d ih =>
    intro σ k f h
    simp only [runA]
    split
    · exact h
    · next q => exact ih _ _ _ (by omega)
section ST
variable {n t : Nat} {I Sk Sz St Kd G So Dr Sg J : Nat → Nat} {inp stk siz sta kin gat src drn stg jam nof : Nat → Int32}
theorem nrg_st {St' : Nat → Nat} (h : NRg n t I Sk Sz St Kd G So Dr Sg J) (h2 : ∀ i, i < n → St' i ≤ 2) : NRg n t I Sk Sz St' Kd G So Dr Sg J := ⟨h.1, h.2.1, fun i hi => ⟨(h.2.2.1 i hi).1, (h.2.2.1 i hi).2.1, (h.2.2.1 i hi).2.2.1, (h.2.2.1 i hi).2.2.2.1, h2 i hi⟩, h.2.2.2⟩
theorem nar_st {St' : Nat → Nat} {sta' : Nat → Int32} (h : NAr n t I Sk Sz St Kd G So Dr Sg J inp stk siz sta kin gat src drn stg jam) (h2 : AR n sta' St') : NAr n t I Sk Sz St' Kd G So Dr Sg J inp stk siz sta' kin gat src drn stg jam := ⟨h.1, h.2.1, h.2.2.1, h2, h.2.2.2.2⟩
theorem stF_c (hn : n ≤ 24) {dm : Nat} (σ : Sgm) : (stF n t I Sk Sz Kd G So Dr Sg J dm σ).1.2.2.1 ≤ σ.2.2.1 + 24 := by
  show (chF (σ.2.1 + 1) (nxtF n t I Sk Sz Kd G So Dr Sg J dm σ.1) σ.1 (σ.2.2.1, σ.2.2.2) n).1 ≤ _
  rw [chF_c]
  have := cnF_le (N := nxtF n t I Sk Sz Kd G So Dr Sg J dm σ.1) (St := σ.1) n
  show σ.2.2.1 + _ ≤ _
  omega
theorem nxt_2 {dm : Nat} {St' N : Nat → Nat} (h2 : ∀ i, i < n → St' i ≤ 2) (h : NXT n t I Sk Sz Kd G So Dr Sg J dm St' N) : ∀ i, i < n → N i ≤ 2 := fun i hi => by
  obtain ⟨_, _, _, _, _, _, e⟩ := h
  rw [e i hi]; exact nextS_le (h2 i hi)
theorem nxt_d {St' N : Nat → Nat} (h : NXT n t I Sk Sz Kd G So Dr Sg J 1 St' N) : ∀ i, i < n → N i = St' i ∨ N i = 2 := fun i hi => by
  obtain ⟨_, Hg, Lo, _, _, _, e⟩ := h
  rw [e i hi]
  unfold nextS
  by_cases l : I i ≠ 0 ∨ Sk i ≠ 0
  · rw [if_pos l]; exact Or.inl rfl
  · rw [if_neg l]
    by_cases q : (if Lo i = 0 then 1 else if Hg i = 0 then 0 else 2) = St' i
    · rw [if_neg (fun w => w.2 q)]; exact Or.inl q
    · rw [if_pos ⟨by omega, q⟩]; exact Or.inr rfl
theorem x_F {dm : Nat} (hdm : dm ≤ 1) (hr : NRg n t I Sk Sz St Kd G So Dr Sg J) (ha : NAr n t I Sk Sz St Kd G So Dr Sg J inp stk siz sta kin gat src drn stg jam) (hnof : AR n nof (fun _ => 0)) {σ : Sgm} {made nxt cnt : Int32} {sta' con fir hig lw rws : Nat → Int32} (hx : XS n σ made nxt cnt sta' rws)
    {K : Int32 → (Int32 × (Nat → Int32) × (Nat → Int32) × (Nat → Int32) × (Nat → Int32) × (Nat → Int32) × Int32 × Int32 × (Nat → Int32)) → Prop}
    (hK : ∀ (made nxt cnt : Int32) (sta con fir hig lw rws : Nat → Int32), XS n (stF n t I Sk Sz Kd G So Dr Sg J dm σ).1 made nxt cnt sta rws → (dm = 1 → kn (stF n t I Sk Sz Kd G So Dr Sg J dm σ).1.1 n + (stF n t I Sk Sz Kd G So Dr Sg J dm σ).2 = kn σ.1 n) → K (nI (stF n t I Sk Sz Kd G So Dr Sg J dm σ).2) (made, sta, con, fir, hig, lw, nxt, cnt, rws)) :
    wp_Sw_makeStep made (nI n) (nI t) jam kin gat sta' con inp stk siz fir nof src drn stg hig lw nxt cnt rws (nI dm) K := by
  have hO : ∀ k, k < t → So k < n ∧ Dr k < n := fun k hk => ⟨(hr.2.2.2 k hk).2.2.1, (hr.2.2.2 k hk).2.2.2.1⟩
  obtain ⟨e1, e2, e3, x, e4, e5, e6⟩ := hx
  subst e1 e4 e5
  refine x_makeStep hdm (nrg_st hr e3) (nar_st ha e2) hnof e6 (fun N sta con fir hig lw rws x hN hs hc => ?_)
  have eq := nxtF_eq hO hN
  have cg : chF (σ.2.1 + 1) N σ.1 (σ.2.2.1, σ.2.2.2) n = chF (σ.2.1 + 1) (nxtF n t I Sk Sz Kd G So Dr Sg J dm σ.1) σ.1 (σ.2.2.1, σ.2.2.2) n := chF_cong n (fun i hi => ⟨eq i hi, rfl⟩)
  have cc : cnF N σ.1 n = cnF (nxtF n t I Sk Sz Kd G So Dr Sg J dm σ.1) σ.1 n := cnF_cong n (fun i hi => ⟨eq i hi, rfl⟩)
  rw [cg] at hc
  rw [cg, cc]
  refine hK _ _ _ _ _ _ _ _ _ ⟨rfl, ar_cong hs eq, fun i hi => ?_, x, rfl, rfl, hc⟩ (fun d1 => ?_)
  · show nxtF n t I Sk Sz Kd G So Dr Sg J dm σ.1 i ≤ 2
    rw [← eq i hi]; exact nxt_2 e3 hN i hi
  · subst d1
    exact kn_down n (fun i hi => by
      show nxtF n t I Sk Sz Kd G So Dr Sg J 1 σ.1 i = _ ∨ nxtF n t I Sk Sz Kd G So Dr Sg J 1 σ.1 i = 2
      rw [← eq i hi]; exact nxt_d hN i hi)
theorem y_F {dm : Nat} (hdm : dm ≤ 1) (hr : NRg n t I Sk Sz St Kd G So Dr Sg J) (ha : NAr n t I Sk Sz St Kd G So Dr Sg J inp stk siz sta kin gat src drn stg jam) {σ : Sgm} {stp chs : Int32} {sts fir hig lw nxs chd : Nat → Int32} (hc : σ.2.2.1 + 24 < 2 ^ 30) (hx : YS n σ stp chs sts chd)
    {K : Int32 → (Int32 × Int32 × (Nat → Int32) × (Nat → Int32) × (Nat → Int32) × (Nat → Int32) × (Nat → Int32) × (Nat → Int32)) → Prop}
    (hK : ∀ (stp chs : Int32) (sts fir hig lw nxs chd : Nat → Int32), YS n (stF n t I Sk Sz Kd G So Dr Sg J dm σ).1 stp chs sts chd → (dm = 1 → kn (stF n t I Sk Sz Kd G So Dr Sg J dm σ).1.1 n + (stF n t I Sk Sz Kd G So Dr Sg J dm σ).2 = kn σ.1 n) → K (nI (stF n t I Sk Sz Kd G So Dr Sg J dm σ).2) (stp, chs, fir, sts, hig, lw, nxs, chd)) :
    wp_Mo_move (nI n) (nI t) stp chs inp stk fir siz jam gat sts kin src stg drn hig lw nxs chd (nI dm) K := by
  have hO : ∀ k, k < t → So k < n ∧ Dr k < n := fun k hk => ⟨(hr.2.2.2 k hk).2.2.1, (hr.2.2.2 k hk).2.2.2.1⟩
  obtain ⟨e1, e2, e3, e4, e6⟩ := hx
  subst e1 e4
  refine y_move hdm (nrg_st hr e3) (nar_st ha e2) hc e6 (fun N sta fir hig lw nxs chd hN hs hc => ?_)
  have eq := nxtF_eq hO hN
  have cg : chF (σ.2.1 + 1) N σ.1 (σ.2.2.1, σ.2.2.2) n = chF (σ.2.1 + 1) (nxtF n t I Sk Sz Kd G So Dr Sg J dm σ.1) σ.1 (σ.2.2.1, σ.2.2.2) n := chF_cong n (fun i hi => ⟨eq i hi, rfl⟩)
  have cc : cnF N σ.1 n = cnF (nxtF n t I Sk Sz Kd G So Dr Sg J dm σ.1) σ.1 n := cnF_cong n (fun i hi => ⟨eq i hi, rfl⟩)
  rw [cg] at hc
  rw [cg, cc]
  refine hK _ _ _ _ _ _ _ _ ⟨rfl, ar_cong hs eq, fun i hi => ?_, rfl, hc⟩ (fun d1 => ?_)
  · show nxtF n t I Sk Sz Kd G So Dr Sg J dm σ.1 i ≤ 2
    rw [← eq i hi]; exact nxt_2 e3 hN i hi
  · subst d1
    exact kn_down n (fun i hi => by
      show nxtF n t I Sk Sz Kd G So Dr Sg J 1 σ.1 i = _ ∨ nxtF n t I Sk Sz Kd G So Dr Sg J 1 σ.1 i = 2
      rw [← eq i hi]; exact nxt_d hN i hi)
theorem fl1_0 : fl1 0 = 0 := rfl
theorem fl1_1 {f : Nat} (h : f ≠ 0) : fl1 f = 1 := if_neg h
theorem x_setA {lim : Nat} (hl : lim ≤ 50) (hr : NRg n t I Sk Sz St Kd G So Dr Sg J) (ha : NAr n t I Sk Sz St Kd G So Dr Sg J inp stk siz sta kin gat src drn stg jam) (hnof : AR n nof (fun _ => 0))
    {E : Int32 → Int32 → Int32 → (Nat → Int32) → (Nat → Int32) → (Nat → Int32) → (Nat → Int32) → (Nat → Int32) → (Nat → Int32) → Int32 → Int32 → Prop} {K : Int32 → (Int32 × Int32 × Int32 × (Nat → Int32) × (Nat → Int32) × (Nat → Int32) × (Nat → Int32) × (Nat → Int32) × (Nat → Int32)) → Prop} :
    ∀ (d k : Nat) (σ : Sgm) (f : Nat) (made nxt cnt : Int32) (sta' con fir hig lw rws : Nat → Int32), k ≤ lim → lim ≤ k + d → XS n σ made nxt cnt sta' rws →
      (∀ (made nxt cnt : Int32) (sta con fir hig lw rws : Nat → Int32), XS n (runA (stF n t I Sk Sz Kd G So Dr Sg J 0) lim d σ k f).1 made nxt cnt sta rws → E made nxt cnt sta con fir hig lw rws (nI (runA (stF n t I Sk Sz Kd G So Dr Sg J 0) lim d σ k f).2.1) (nI (fl1 (runA (stF n t I Sk Sz Kd G So Dr Sg J 0) lim d σ k f).2.2))) →
      wl_Sw_settle_4 (nI lim) (nI n) (nI t) jam kin gat inp stk siz nof src drn stg E K (d + 1) made nxt cnt sta' con fir hig lw rws (nI k) (nI (fl1 f)) := by
  intro d
  induction d with
  | zero =>
    intro k σ f made nxt cnt sta' con fir hig lw rws hk hd hx hE
    have e : k = lim := by omega
    subst e
    have go := hE made nxt cnt sta' con fir hig lw rws hx
    simp only [runA] at go
    rw [ul_Sw_settle_4]
    exact ⟨fun _ => go, fun _ => ⟨fun _ => go, fun q => absurd (Int32.le_refl _) q⟩⟩
  | succ d ih =>
    intro k σ f made nxt cnt sta' con fir hig lw rws hk hd hx hE
    rw [ul_Sw_settle_4]
    unfold wb_Sw_settle_4
    rw [nI_1]
    by_cases f0 : f = 0
    · have go := hE made nxt cnt sta' con fir hig lw rws (by simp only [runA, f0, true_or, if_true]; exact hx)
      simp only [runA, f0, true_or, if_true] at go
      subst f0
      exact ⟨fun _ => go, fun q => absurd rfl q⟩
    · rw [fl1_1 f0]
      by_cases kl : lim ≤ k
      · have go := hE made nxt cnt sta' con fir hig lw rws (by simp only [runA, kl, or_true, if_true]; exact hx)
        simp only [runA, kl, or_true, if_true] at go
        rw [fl1_1 f0] at go
        exact ⟨fun q => absurd q (by decide), fun _ => ⟨fun _ => go, fun q => absurd (nI_le kl (by omega)) q⟩⟩
      · have e : ¬ (f = 0 ∨ lim ≤ k) := fun w => w.elim f0 kl
        simp only [runA, e, if_false] at hE
        refine ⟨fun q => absurd q (by decide), fun _ => ⟨fun q => absurd q (nI_ge (by omega) (by omega)), fun _ => ?_⟩⟩
        have c24 : (stF n t I Sk Sz Kd G So Dr Sg J 0 σ).2 ≤ n := cnF_le n
        have hn := hr.1
        refine x_F (dm := 0) (by omega) hr ha hnof hx (fun made nxt cnt sta con fir hig lw rws hx2 _ => ⟨fun q => ?_, fun q => ?_⟩)
        · have z := (nI_leI (b := 0) (by omega) (by omega)).mp q
          have := ih (k + 1) _ (stF n t I Sk Sz Kd G So Dr Sg J 0 σ).2 made nxt cnt sta con fir hig lw rws (by omega) (by omega) hx2 hE
          rw [show (stF n t I Sk Sz Kd G So Dr Sg J 0 σ).2 = 0 by omega] at this
          exact this
        · have z : ¬ (stF n t I Sk Sz Kd G So Dr Sg J 0 σ).2 = 0 := fun w => q (by rw [w]; decide)
          have := ih (k + 1) _ (stF n t I Sk Sz Kd G So Dr Sg J 0 σ).2 made nxt cnt sta con fir hig lw rws (by omega) (by omega) hx2 hE
          rw [fl1_1 z] at this
          exact this
theorem x_setB {most : Int32} (hr : NRg n t I Sk Sz St Kd G So Dr Sg J) (ha : NAr n t I Sk Sz St Kd G So Dr Sg J inp stk siz sta kin gat src drn stg jam) (hnof : AR n nof (fun _ => 0))
    {K : Int32 → (Int32 × Int32 × Int32 × (Nat → Int32) × (Nat → Int32) × (Nat → Int32) × (Nat → Int32) × (Nat → Int32) × (Nat → Int32)) → Prop} :
    ∀ (d j k : Nat) (σ : Sgm) (f : Nat) (made nxt cnt : Int32) (sta' con fir hig lw rws : Nat → Int32), j + d = 25 → XS n σ made nxt cnt sta' rws →
      (∀ (made nxt cnt : Int32) (sta con fir hig lw rws : Nat → Int32), XS n (runB (stF n t I Sk Sz Kd G So Dr Sg J 1) d σ k f).1 made nxt cnt sta rws → K (nI (runB (stF n t I Sk Sz Kd G So Dr Sg J 1) d σ k f).2) (made, nxt, cnt, sta, con, fir, hig, lw, rws)) →
      wl_Sw_settle_38 most (nI n) (nI t) jam kin gat inp stk siz nof src drn stg K (d + 1) made nxt cnt sta' con fir hig lw rws (nI k) (nI (fl1 f)) (nI j) := by
  intro d
  induction d with
  | zero =>
    intro j k σ f made nxt cnt sta' con fir hig lw rws hj hx hE
    have e : j = 25 := by omega
    subst e
    have go := hE made nxt cnt sta' con fir hig lw rws hx
    simp only [runB] at go
    rw [ul_Sw_settle_38]
    exact ⟨fun _ => go, fun _ => ⟨fun _ => go, fun q => absurd (by decide) q⟩⟩
  | succ d ih =>
    intro j k σ f made nxt cnt sta' con fir hig lw rws hj hx hE
    rw [ul_Sw_settle_38]
    unfold wb_Sw_settle_38
    rw [nI_1 k, nI_1 j]
    by_cases f0 : f = 0
    · have go := hE made nxt cnt sta' con fir hig lw rws (by simp only [runB, f0, if_true]; exact hx)
      simp only [runB, f0, if_true] at go
      subst f0
      exact ⟨fun _ => go, fun q => absurd rfl q⟩
    · rw [fl1_1 f0]
      simp only [runB, f0, if_false] at hE
      refine ⟨fun q => absurd q (by decide), fun _ => ⟨fun q => absurd q (nI_nlt (b := j) (a := 24) (by omega) (by omega)), fun _ => ?_⟩⟩
      have c24 : (stF n t I Sk Sz Kd G So Dr Sg J 1 σ).2 ≤ n := cnF_le n
      have hn := hr.1
      refine x_F (dm := 1) (by omega) hr ha hnof hx (fun made nxt cnt sta con fir hig lw rws hx2 _ => ⟨fun q => ?_, fun q => ?_⟩)
      · have z := (nI_leI (b := 0) (by omega) (by omega)).mp q
        have := ih (j + 1) (k + 1) _ (stF n t I Sk Sz Kd G So Dr Sg J 1 σ).2 made nxt cnt sta con fir hig lw rws (by omega) hx2 hE
        rw [show (stF n t I Sk Sz Kd G So Dr Sg J 1 σ).2 = 0 by omega] at this
        exact this
      · have z : ¬ (stF n t I Sk Sz Kd G So Dr Sg J 1 σ).2 = 0 := fun w => q (by rw [w]; decide)
        have := ih (j + 1) (k + 1) _ (stF n t I Sk Sz Kd G So Dr Sg J 1 σ).2 made nxt cnt sta con fir hig lw rws (by omega) hx2 hE
        rw [fl1_1 z] at this
        exact this
theorem y_setA {lim B : Nat} (hl : lim ≤ 50) (hr : NRg n t I Sk Sz St Kd G So Dr Sg J) (ha : NAr n t I Sk Sz St Kd G So Dr Sg J inp stk siz sta kin gat src drn stg jam)
    {E : Int32 → Int32 → (Nat → Int32) → (Nat → Int32) → (Nat → Int32) → (Nat → Int32) → (Nat → Int32) → (Nat → Int32) → Int32 → Int32 → Prop} {K : Int32 → (Int32 × Int32 × (Nat → Int32) × (Nat → Int32) × (Nat → Int32) × (Nat → Int32) × (Nat → Int32) × (Nat → Int32)) → Prop} :
    ∀ (d k : Nat) (σ : Sgm) (f : Nat) (stp chs : Int32) (sts fir hig lw nxs chd : Nat → Int32), k ≤ lim → lim ≤ k + d → f ≤ 24 → σ.2.2.1 + 24 * d + B < 2 ^ 30 → YS n σ stp chs sts chd →
      (∀ (stp chs : Int32) (sts fir hig lw nxs chd : Nat → Int32), (runA (stF n t I Sk Sz Kd G So Dr Sg J 0) lim d σ k f).2.2 ≤ 24 → YS n (runA (stF n t I Sk Sz Kd G So Dr Sg J 0) lim d σ k f).1 stp chs sts chd → E stp chs fir sts hig lw nxs chd (nI (runA (stF n t I Sk Sz Kd G So Dr Sg J 0) lim d σ k f).2.1) (nI (runA (stF n t I Sk Sz Kd G So Dr Sg J 0) lim d σ k f).2.2)) →
      wl_Mo_settle_4 (nI n) (nI t) (nI lim) inp stk siz jam gat kin src stg drn E K (d + 1) stp chs fir sts hig lw nxs chd (nI k) (nI f) := by
  intro d
  induction d with
  | zero =>
    intro k σ f stp chs sts fir hig lw nxs chd hk hd hf hc hx hE
    have e : k = lim := by omega
    subst e
    have go := hE stp chs sts fir hig lw nxs chd hf hx
    simp only [runA] at go
    rw [ul_Mo_settle_4]
    exact ⟨fun _ => go, fun q => absurd (Int32.le_refl _) q⟩
  | succ d ih =>
    intro k σ f stp chs sts fir hig lw nxs chd hk hd hf hc hx hE
    have hn := hr.1
    rw [ul_Mo_settle_4]
    unfold wb_Mo_settle_4
    rw [nI_1]
    by_cases kl : lim ≤ k
    · have go := hE stp chs sts fir hig lw nxs chd (by simp only [runA, kl, or_true, if_true]; exact hf) (by simp only [runA, kl, or_true, if_true]; exact hx)
      simp only [runA, kl, or_true, if_true] at go
      exact ⟨fun _ => go, fun q => absurd (nI_le kl (by omega)) q⟩
    · refine ⟨fun q => absurd q (nI_ge (by omega) (by omega)), fun _ => ⟨fun q => ?_, fun q => ?_⟩⟩
      · have z : f = 0 := by
          have := (nI_leI (b := 0) (by omega) (by omega)).mp q
          omega
        have go := hE stp chs sts fir hig lw nxs chd (by simp only [runA, z, true_or, if_true]; omega) (by simp only [runA, z, true_or, if_true]; exact hx)
        simp only [runA, z, true_or, if_true] at go
        subst z
        exact go
      · have z : ¬ f = 0 := fun w => q (by rw [w]; decide)
        have e : ¬ (f = 0 ∨ lim ≤ k) := fun w => w.elim z kl
        simp only [runA, e, if_false] at hE
        have c24 : (stF n t I Sk Sz Kd G So Dr Sg J 0 σ).2 ≤ n := cnF_le n
        have cc := stF_c (t := t) (I := I) (Sk := Sk) (Sz := Sz) (Kd := Kd) (G := G) (So := So) (Dr := Dr) (Sg := Sg) (J := J) hn (dm := 0) σ
        exact y_F (dm := 0) (by omega) hr ha (by omega) hx (fun stp chs sts fir hig lw nxs chd hx2 _ => ih (k + 1) _ _ stp chs sts fir hig lw nxs chd (by omega) (by omega) (by omega) (by omega) hx2 hE)
theorem y_setB {lim : Int32} (hr : NRg n t I Sk Sz St Kd G So Dr Sg J) (ha : NAr n t I Sk Sz St Kd G So Dr Sg J inp stk siz sta kin gat src drn stg jam)
    {K : Int32 → (Int32 × Int32 × (Nat → Int32) × (Nat → Int32) × (Nat → Int32) × (Nat → Int32) × (Nat → Int32) × (Nat → Int32)) → Prop} :
    ∀ (d k : Nat) (σ : Sgm) (f : Nat) (stp chs : Int32) (sts fir hig lw nxs chd : Nat → Int32), f ≤ 24 → (f = 0 ∨ kn σ.1 n < d) → σ.2.2.1 + 24 * d < 2 ^ 30 → YS n σ stp chs sts chd →
      (∀ (stp chs : Int32) (sts fir hig lw nxs chd : Nat → Int32), YS n (runB (stF n t I Sk Sz Kd G So Dr Sg J 1) d σ k f).1 stp chs sts chd → K (nI (runB (stF n t I Sk Sz Kd G So Dr Sg J 1) d σ k f).2) (stp, chs, fir, sts, hig, lw, nxs, chd)) →
      wl_Mo_settle_28 (nI n) (nI t) lim inp stk siz jam gat kin src stg drn K (d + 1) stp chs fir sts hig lw nxs chd (nI k) (nI f) := by
  intro d
  induction d with
  | zero =>
    intro k σ f stp chs sts fir hig lw nxs chd hf hm hc hx hE
    have z : f = 0 := by omega
    subst z
    rw [ul_Mo_settle_28]
    exact ⟨fun _ => hE stp chs sts fir hig lw nxs chd hx, fun q => absurd (by decide) q⟩
  | succ d ih =>
    intro k σ f stp chs sts fir hig lw nxs chd hf hm hc hx hE
    have hn := hr.1
    rw [ul_Mo_settle_28]
    unfold wb_Mo_settle_28
    rw [nI_1]
    by_cases f0 : f = 0
    · have go := hE stp chs sts fir hig lw nxs chd (by simp only [runB, f0, if_true]; exact hx)
      simp only [runB, f0, if_true] at go
      subst f0
      exact ⟨fun _ => go, fun q => absurd (by decide) q⟩
    · simp only [runB, f0, if_false] at hE
      have c24 : (stF n t I Sk Sz Kd G So Dr Sg J 1 σ).2 ≤ n := cnF_le n
      have cc := stF_c (t := t) (I := I) (Sk := Sk) (Sz := Sz) (Kd := Kd) (G := G) (So := So) (Dr := Dr) (Sg := Sg) (J := J) hn (dm := 1) σ
      refine ⟨fun q => absurd q (nI_nle (by omega) (by omega)), fun _ => ?_⟩
      refine y_F (dm := 1) (by omega) hr ha (by omega) hx (fun stp chs sts fir hig lw nxs chd hx2 hk => ih (k + 1) _ _ stp chs sts fir hig lw nxs chd (by omega) ?_ (by omega) hx2 hE)
      have := hk rfl
      omega
theorem j_step {minp mstk msiz msta mkin mgat msrc mdrn mstg mjam : Nat → Int32} (hr : NRg n t I Sk Sz St Kd G So Dr Sg J) (ha : NAr n t I Sk Sz St Kd G So Dr Sg J inp stk siz sta kin gat src drn stg jam) (ha' : NAr n t I Sk Sz St Kd G So Dr Sg J minp mstk msiz msta mkin mgat msrc mdrn mstg mjam) (hnof : AR n nof (fun _ => 0))
    {σ : Sgm} {made nxt cnt stp chs : Int32} {sta' con fir hig lw rws sts mfir mhig mlw nxs chd : Nat → Int32} (hc : σ.2.2.1 + 24 < 2 ^ 30) (hx : XS n σ made nxt cnt sta' rws) (hy : YS n σ stp chs sts chd)
    {K2 : Int32 → (Int32 × Int32 × Int32 × (Nat → Int32) × (Nat → Int32) × (Nat → Int32) × (Nat → Int32) × (Nat → Int32) × (Nat → Int32)) → Int32 → (Int32 × Int32 × (Nat → Int32) × (Nat → Int32) × (Nat → Int32) × (Nat → Int32) × (Nat → Int32) × (Nat → Int32)) → Prop}
    (h : ∀ (r : Int32) (σ' : Sgm) (made nxt cnt : Int32) (sta con fir hig lw rws : Nat → Int32) (stp chs : Int32) (sts mfir mhig mlw nxs chd : Nat → Int32), σ'.2.2.1 ≤ σ.2.2.1 + 1800 → XS n σ' made nxt cnt sta rws → YS n σ' stp chs sts chd → K2 r (made, nxt, cnt, sta, con, fir, hig, lw, rws) r (stp, chs, mfir, sts, mhig, mlw, nxs, chd)) :
    wp_Sw_step made (nI n) (nI t) nxt cnt jam kin gat sta' con inp stk siz fir nof src drn stg hig lw rws (fun r u => wp_Mo_step (nI n) (nI t) stp chs minp mstk mfir msiz mjam mgat sts mkin msrc mstg mdrn mhig mlw nxs chd (fun r' u' => K2 r u r' u')) := by
  have cc := stF_c (t := t) (I := I) (Sk := Sk) (Sz := Sz) (Kd := Kd) (G := G) (So := So) (Dr := Dr) (Sg := Sg) (J := J) hr.1 (dm := 0) σ
  unfold wp_Sw_step wp_Mo_step
  refine x_F (dm := 0) (by omega) hr ha hnof hx (fun made nxt cnt sta con fir hig lw rws hx2 _ => ?_)
  exact y_F (dm := 0) (by omega) hr ha' hc hy (fun stp chs sts fir hig lw nxs chd hy2 _ => h _ _ _ _ _ _ _ _ _ _ _ _ _ _ _ _ _ _ _ (by omega) hx2 hy2)
theorem j_settle {minp mstk msiz msta mkin mgat msrc mdrn mstg mjam : Nat → Int32} {lim : Nat} (hl : lim ≤ 50) (hr : NRg n t I Sk Sz St Kd G So Dr Sg J) (ha : NAr n t I Sk Sz St Kd G So Dr Sg J inp stk siz sta kin gat src drn stg jam) (ha' : NAr n t I Sk Sz St Kd G So Dr Sg J minp mstk msiz msta mkin mgat msrc mdrn mstg mjam) (hnof : AR n nof (fun _ => 0))
    {σ : Sgm} {made nxt cnt stp chs : Int32} {sta' con fir hig lw rws sts mfir mhig mlw nxs chd : Nat → Int32} (hc : σ.2.2.1 + 1800 < 2 ^ 30) (hx : XS n σ made nxt cnt sta' rws) (hy : YS n σ stp chs sts chd)
    {K2 : Int32 → (Int32 × Int32 × Int32 × (Nat → Int32) × (Nat → Int32) × (Nat → Int32) × (Nat → Int32) × (Nat → Int32) × (Nat → Int32)) → Int32 → (Int32 × Int32 × (Nat → Int32) × (Nat → Int32) × (Nat → Int32) × (Nat → Int32) × (Nat → Int32) × (Nat → Int32)) → Prop}
    (h : ∀ (r : Int32) (σ' : Sgm) (made nxt cnt : Int32) (sta con fir hig lw rws : Nat → Int32) (stp chs : Int32) (sts mfir mhig mlw nxs chd : Nat → Int32), σ'.2.2.1 ≤ σ.2.2.1 + 1800 → XS n σ' made nxt cnt sta rws → YS n σ' stp chs sts chd → K2 r (made, nxt, cnt, sta, con, fir, hig, lw, rws) r (stp, chs, mfir, sts, mhig, mlw, nxs, chd)) :
    wp_Sw_settle (nI lim) made (nI n) (nI t) nxt cnt jam kin gat sta' con inp stk siz fir nof src drn stg hig lw rws (fun r u => wp_Mo_settle (nI n) (nI t) (nI lim) stp chs minp mstk mfir msiz mjam mgat sts mkin msrc mstg mdrn mhig mlw nxs chd (fun r' u' => K2 r u r' u')) := by
  have hn := hr.1
  have cF : ∀ dm σ, (stF n t I Sk Sz Kd G So Dr Sg J dm σ).1.2.2.1 ≤ σ.2.2.1 + 24 := fun dm σ => stF_c hn σ
  have cA := runA_c (lim := lim) (cF 0) lim σ 0 1
  unfold wp_Sw_settle wp_Mo_settle
  refine ⟨lim + 1, x_setA hl hr ha hnof lim 0 σ 1 made nxt cnt sta' con fir hig lw rws (by omega) (by omega) hx (fun made nxt cnt sta con fir hig lw rws hx2 => ?_)⟩
  show wj_Sw_settle_36 _ _ _ _ _ _ _ _ _ _ _ _ _ _ _ _ _ _ _ _ _ _ _ _ _
  unfold wj_Sw_settle_36
  refine ⟨26, x_setB hr ha hnof 25 0 _ _ _ made nxt cnt sta con fir hig lw rws (by omega) hx2 (fun made nxt cnt sta con fir hig lw rws hx3 => ?_)⟩
  refine ⟨lim + 1, y_setA (B := 600) hl hr ha' lim 0 σ 1 stp chs sts mfir mhig mlw nxs chd (by omega) (by omega) (by omega) (by omega) hy (fun stp chs sts fir hig lw nxs chd hf hy2 => ?_)⟩
  show wj_Mo_settle_28 _ _ _ _ _ _ _ _ _ _ _ _ _ _ _ _ _ _ _ _ _ _ _
  unfold wj_Mo_settle_28
  have kn24 := kn_le (St := (runA (stF n t I Sk Sz Kd G So Dr Sg J 0) lim lim σ 0 1).1.1) n
  refine ⟨26, y_setB hr ha' 25 _ _ _ stp chs sts fir hig lw nxs chd hf (Or.inr (by omega)) (by omega) hy2 (fun stp chs sts fir hig lw nxs chd hy3 => ?_)⟩
  have cB := runB_c (cF 1) 25 (runA (stF n t I Sk Sz Kd G So Dr Sg J 0) lim lim σ 0 1).1 (runA (stF n t I Sk Sz Kd G So Dr Sg J 0) lim lim σ 0 1).2.1 (runA (stF n t I Sk Sz Kd G So Dr Sg J 0) lim lim σ 0 1).2.2
  exact h _ _ _ _ _ _ _ _ _ _ _ _ _ _ _ _ _ _ _ (by omega) hx3 hy3
end ST
