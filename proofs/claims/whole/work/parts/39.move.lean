/-! PURE: a step, as a function of the states; both sides make it. -/
def nextS (dm : Nat) (I Sk St Hg Lo : Nat → Nat) (i : Nat) : Nat :=
  if I i ≠ 0 ∨ Sk i ≠ 0 then St i else
  if dm ≠ 0 ∧ (if Lo i = 0 then 1 else if Hg i = 0 then 0 else 2) ≠ St i then 2 else (if Lo i = 0 then 1 else if Hg i = 0 then 0 else 2)
def NXT (n t : Nat) (I Sk Sz Kd G So Dr Sg J : Nat → Nat) (dm : Nat) (St N : Nat → Nat) : Prop :=
  ∃ Fm Hg Lo, LFM n t I Sk Sz So Dr Sg (CN Kd G St J) Fm ∧ LSD n t 0 I Sk Sz St So Dr Sg (CN Kd G St J) Fm Hg ∧ LSD n t 1 I Sk Sz St So Dr Sg (CN Kd G St J) Fm Lo ∧ ∀ i, i < n → N i = nextS dm I Sk St Hg Lo i
noncomputable def nxtF (n t : Nat) (I Sk Sz Kd G So Dr Sg J : Nat → Nat) (dm : Nat) (St : Nat → Nat) : Nat → Nat := Classical.epsilon (h := ⟨fun _ => 0⟩) (fun N => NXT n t I Sk Sz Kd G So Dr Sg J dm St N)
section MV
variable {n t : Nat} {I Sk Sz St Kd G So Dr Sg J : Nat → Nat}
theorem nxtF_eq {dm : Nat} {N : Nat → Nat} (hO : ∀ k, k < t → So k < n ∧ Dr k < n) (h : NXT n t I Sk Sz Kd G So Dr Sg J dm St N) : ∀ i, i < n → N i = nxtF n t I Sk Sz Kd G So Dr Sg J dm St i := by
  have h2 : NXT n t I Sk Sz Kd G So Dr Sg J dm St (nxtF n t I Sk Sz Kd G So Dr Sg J dm St) := Classical.epsilon_spec (p := fun N => NXT n t I Sk Sz Kd G So Dr Sg J dm St N) ⟨N, h⟩
  obtain ⟨F1, H1, L1, a1, a2, a3, a4⟩ := h
  obtain ⟨F2, H2, L2, b1, b2, b3, b4⟩ := h2
  intro i hi
  rw [a4 i hi, b4 i hi]
  unfold nextS
  rw [LSD_one hO a1 b1 a2 b2 i hi, LSD_one hO a1 b1 a3 b3 i hi]
theorem nextS_le {dm i : Nat} {Hg Lo : Nat → Nat} (h : St i ≤ 2) : nextS dm I Sk St Hg Lo i ≤ 2 := by
  unfold nextS
  repeat' split
  all_goals omega
end MV
def chF (made : Int32) (N St : Nat → Nat) (p : Nat × (Nat → Int32)) : Nat → Nat × (Nat → Int32)
  | 0 => p
  | k + 1 => if N k = St k then chF made N St p k else ((chF made N St p k).1 + 1, fun i => if i = (chF made N St p k).1 then 128 * made + 4 * nI k + nI (N k) else (chF made N St p k).2 i)
def cnF (N St : Nat → Nat) : Nat → Nat
  | 0 => 0
  | k + 1 => if N k = St k then cnF N St k else cnF N St k + 1
theorem chF_c {made : Int32} {N St : Nat → Nat} {p : Nat × (Nat → Int32)} : ∀ k, (chF made N St p k).1 = p.1 + cnF N St k := by
  intro k
  induction k with
  | zero => rfl
  | succ k ih =>
    simp only [chF, cnF]
    split
    · exact ih
    · show (chF made N St p k).1 + 1 = _
      rw [ih]; omega
theorem cnF_le {N St : Nat → Nat} : ∀ k, cnF N St k ≤ k := by
  intro k
  induction k with
  | zero => exact Nat.le_refl _
  | succ k ih => simp only [cnF]; split <;> omega
theorem chF_cong {made : Int32} {N N' St St' : Nat → Nat} {p : Nat × (Nat → Int32)} : ∀ k, (∀ i, i < k → N i = N' i ∧ St i = St' i) → chF made N St p k = chF made N' St' p k := by
  intro k
  induction k with
  | zero => intro _; rfl
  | succ k ih =>
    intro h
    simp only [chF, ih (fun i hi => h i (by omega)), (h k (by omega)).1, (h k (by omega)).2]
theorem cnF_cong {N N' St St' : Nat → Nat} : ∀ k, (∀ i, i < k → N i = N' i ∧ St i = St' i) → cnF N St k = cnF N' St' k := by
  intro k
  induction k with
  | zero => intro _; rfl
  | succ k ih =>
    intro h
    simp only [cnF, ih (fun i hi => h i (by omega)), (h k (by omega)).1, (h k (by omega)).2]
/-- the rings hold the latest of all changes -/
def CX (c x : Nat) (rws cs : Nat → Int32) : Prop := x < 32 ∧ ∀ j, j < min c 32 → rws ((x + 31 - j) % 32) = cs (c - 1 - j)
def CM (c : Nat) (chd cs : Nat → Int32) : Prop := ∀ j, j < min c 32 → chd ((c - 1 - j) % 32) = cs (c - 1 - j)
theorem ch_of {c x : Nat} {rws chd cs : Nat → Int32} (h1 : CX c x rws cs) (h2 : CM c chd cs) : CH c x rws chd := ⟨h1.1, fun j hj => (h1.2 j hj).trans (h2 j hj).symm⟩
theorem cx_push {c x : Nat} {rws cs : Nat → Int32} (h : CX c x rws cs) (v : Int32) : CX (c + 1) ((x + 1) % 32) (upd rws x v) (fun i => if i = c then v else cs i) := by
  obtain ⟨hx, h⟩ := h
  refine ⟨Nat.mod_lt _ (by omega), fun j hj => ?_⟩
  by_cases e : j = 0
  · subst e
    have e1 : ((x + 1) % 32 + 31 - 0) % 32 = x := by omega
    rw [e1]
    simp [upd]
  · have e1 : ((x + 1) % 32 + 31 - j) % 32 = (x + 31 - (j - 1)) % 32 := by omega
    have e2 : ¬ (x + 31 - (j - 1)) % 32 = x := by omega
    have e3 : ¬ c + 1 - 1 - j = c := by omega
    rw [e1]
    simp only [upd, e2, e3, if_false]
    rw [h (j - 1) (by omega)]
    congr 1
    omega
theorem cm_push {c : Nat} {chd cs : Nat → Int32} (h : CM c chd cs) (v : Int32) : CM (c + 1) (upd chd (c % 32) v) (fun i => if i = c then v else cs i) := by
  intro j hj
  by_cases e : j = 0
  · subst e
    simp [upd]
  · have e1 : (c + 1 - 1 - j) = c - 1 - (j - 1) := by omega
    have e2 : ¬ (c - 1 - (j - 1)) % 32 = c % 32 := by omega
    have e3 : ¬ c - 1 - (j - 1) = c := by omega
    rw [e1]
    simp only [upd, e2, e3, if_false]
    exact h (j - 1) (by omega)
def mixS (N St : Nat → Nat) (k i : Nat) : Nat := if i < k then N i else St i
theorem mix_same {N St : Nat → Nat} {k : Nat} (h : N k = St k) {n : Nat} {f : Nat → Int32} (hf : AR n f (mixS N St k)) : AR n f (mixS N St (k + 1)) := fun i hi => by
  rw [hf i hi]
  unfold mixS
  by_cases e : i < k
  · rw [if_pos e, if_pos (by omega)]
  · by_cases e2 : i = k
    · subst e2; rw [if_neg e, if_pos (by omega), h]
    · rw [if_neg e, if_neg (by omega)]
theorem mix_next {N St : Nat → Nat} {k n : Nat} {f : Nat → Int32} (hf : AR n f (mixS N St k)) : AR n (upd f k (nI (N k))) (mixS N St (k + 1)) := fun i hi => by
  by_cases e : i = k
  · subst e; simp [upd, mixS]
  · simp only [upd, e, if_false]
    rw [hf i hi]
    unfold mixS
    by_cases e3 : i < k
    · rw [if_pos e3, if_pos (by omega)]
    · rw [if_neg e3, if_neg (by omega)]
theorem mix_all {N St : Nat → Nat} {n : Nat} {f : Nat → Int32} (hf : AR n f (mixS N St n)) : AR n f N := fun i hi => by
  rw [hf i hi]; unfold mixS; rw [if_pos hi]
section MS
variable {n t : Nat} {I Sk Sz St Kd G So Dr Sg J : Nat → Nat} {inp stk siz sta kin gat src drn stg jam nof : Nat → Int32}
theorem x_makeStep {dm : Nat} (hdm : dm ≤ 1) (hr : NRg n t I Sk Sz St Kd G So Dr Sg J) (ha : NAr n t I Sk Sz St Kd G So Dr Sg J inp stk siz sta kin gat src drn stg jam) (hnof : AR n nof (fun _ => 0)) {con fir hig lw rws cs : Nat → Int32} {made : Int32} {c x : Nat} (hC : CX c x rws cs)
    {K : Int32 → (Int32 × (Nat → Int32) × (Nat → Int32) × (Nat → Int32) × (Nat → Int32) × (Nat → Int32) × Int32 × Int32 × (Nat → Int32)) → Prop}
    (hK : ∀ (N : Nat → Nat) (sta con fir hig lw rws : Nat → Int32) (x : Nat), NXT n t I Sk Sz Kd G So Dr Sg J dm St N → AR n sta N → CX (chF (made + 1) N St (c, cs) n).1 x rws (chF (made + 1) N St (c, cs) n).2 → K (nI (cnF N St n)) (made + 1, sta, con, fir, hig, lw, nI x, nI (min (chF (made + 1) N St (c, cs) n).1 32), rws)) :
    wp_Sw_makeStep made (nI n) (nI t) jam kin gat sta con inp stk siz fir nof src drn stg hig lw (nI x) (nI (min c 32)) rws (nI dm) K := by
  unfold wp_Sw_makeStep
  refine x_workOut hr ha hnof (fun con fir hig lw Fm Hg Lo af ah al hF hH hL => ?_)
  have hn := hr.1
  have h1' : ∀ i, i < n → I i ≤ 1 ∧ Sk i ≤ 1 := fun i hi => ⟨(hr.2.2.1 i hi).1, (hr.2.2.1 i hi).2.1⟩
  have hT2 : ∀ i, i < n → St i ≤ 2 := fun i hi => (hr.2.2.1 i hi).2.2.2.2
  obtain ⟨N, hN⟩ : ∃ N, N = nextS dm I Sk St Hg Lo := ⟨_, rfl⟩
  have hN2 : ∀ i, i < n → N i ≤ 2 := fun i hi => by rw [hN]; exact nextS_le (hT2 i hi)
  have hNX : NXT n t I Sk Sz Kd G So Dr Sg J dm St N := ⟨Fm, Hg, Lo, hF, hH, hL, fun i _ => by rw [hN]⟩
  refine ⟨n + 1, ?_⟩
  suffices H : ∀ (d k : Nat) (sta rws : Nat → Int32) (x : Nat), k + d = n → AR n sta (mixS N St k) → CX (chF (made + 1) N St (c, cs) k).1 x rws (chF (made + 1) N St (c, cs) k).2 → wl_Sw_makeStep_25 (nI n) (nI t) jam kin gat inp stk siz nof src drn stg K (d + 1) (made + 1) sta con fir hig lw (nI x) (nI (min (chF (made + 1) N St (c, cs) k).1 32)) rws (nI dm) (nI (cnF N St k)) (nI k) from
    H n 0 sta rws x (by omega) (fun i hi => by rw [ha.2.2.2.1 i hi]; unfold mixS; rw [if_neg (by omega)]) hC
  intro d
  induction d with
  | zero =>
    intro k sta rws x hk hs hx
    have e : k = n := by omega
    subst e
    rw [ul_Sw_makeStep_25]
    exact ⟨fun _ => hK N sta con fir hig lw rws x hNX (mix_all hs) hx, fun q => absurd (Int32.le_refl _) q⟩
  | succ d ih =>
    intro k sta rws x hk hs hx
    have hlt : k < n := by omega
    have fi := z_in hlt hn (by omega)
    have fc := z_cl hlt (show n < 2 ^ 31 by omega)
    have esk : sta k = nI (St k) := by rw [hs k hlt]; unfold mixS; rw [if_neg (by omega)]
    have t2 := hT2 k hlt
    have n2 := hN2 k hlt
    have J87 : wj_Sw_makeStep_87 (nI n) (nI t) jam kin gat inp stk siz nof src drn stg (wl_Sw_makeStep_25 (nI n) (nI t) jam kin gat inp stk siz nof src drn stg K (d + 1)) K (made + 1) sta con fir hig lw (nI x) (nI (min (chF (made + 1) N St (c, cs) k).1 32)) rws (nI dm) (nI (cnF N St k)) (nI k) (nI (St k)) (nI (N k)) := by
      unfold wj_Sw_makeStep_87
      rw [fc, nI_1, nI_1]
      refine ⟨fun q => ?_, fun q => ⟨fi, ?_⟩⟩
      · have e := (nI_eq (by omega) (by omega)).mp q
        have := ih (k + 1) sta rws x (by omega) (mix_same e hs) (by simp only [chF, e, if_true]; exact hx)
        simp only [chF, cnF, e, if_true] at this
        exact this
      · have e : ¬ N k = St k := fun e => q (by rw [e])
        have x32 := hx.1
        unfold wp_Ch_note
        rw [z_cl x32 (by omega), show nI x + (1 : Int32) = nI (x + 1) from nI_1 x, show nI (x + 1) - nI (x + 1) / (32 : Int32) * (32 : Int32) = nI ((x + 1) % 32) from pk_rem (d := 32) (by omega) (by omega) (by omega)]
        refine ⟨z_in x32 (by omega) (by omega), ?_⟩
        have ec : (if (32 : Int32) < nI (min (chF (made + 1) N St (c, cs) k).1 32) + (1 : Int32) then (32 : Int32) else nI (min (chF (made + 1) N St (c, cs) k).1 32) + (1 : Int32)) = nI (min ((chF (made + 1) N St (c, cs) k).1 + 1) 32) := by
          rw [nI_1]
          show (if nI 32 < nI (min (chF (made + 1) N St (c, cs) k).1 32 + 1) then nI 32 else nI (min (chF (made + 1) N St (c, cs) k).1 32 + 1)) = _
          rw [jmin (a := 32) (b := min (chF (made + 1) N St (c, cs) k).1 32 + 1) (by omega) (by omega)]
          congr 1
          omega
        rw [ec]
        have := ih (k + 1) (upd sta k (nI (N k))) (upd rws x (128 * (made + 1) + 4 * nI k + nI (N k))) ((x + 1) % 32) (by omega) (mix_next hs) (by simp only [chF, e, if_false]; exact cx_push hx _)
        simp only [chF, cnF, e, if_false] at this
        exact this
    have J71 : ∀ a : Nat, a ≤ 2 → (if dm ≠ 0 ∧ a ≠ St k then 2 else a) = N k → wj_Sw_makeStep_71 (nI n) (nI t) jam kin gat inp stk siz nof src drn stg (wl_Sw_makeStep_25 (nI n) (nI t) jam kin gat inp stk siz nof src drn stg K (d + 1)) K (made + 1) sta con fir hig lw (nI x) (nI (min (chF (made + 1) N St (c, cs) k).1 32)) rws (nI dm) (nI (cnF N St k)) (nI k) (nI (St k)) (nI a) := fun a a2 ea => by
      unfold wj_Sw_makeStep_71
      refine ⟨fun q => ?_, fun q => ⟨fun q2 => ?_, fun q2 => ?_⟩⟩
      · have e := (nI_eq (b := 0) (by omega) (by omega)).mp q
        rw [if_neg (fun w => w.1 e)] at ea
        rw [ea]; exact J87
      · have e := (nI_eq (by omega) (by omega)).mp q2
        rw [if_neg (fun w => w.2 e)] at ea
        rw [ea]; exact J87
      · rw [if_pos ⟨fun e => q (by rw [e]; rfl), fun e => q2 (by rw [e])⟩] at ea
        have j := J87
        rw [← ea] at j
        exact j
    rw [ul_Sw_makeStep_25]
    unfold wb_Sw_makeStep_25
    rw [fc, esk]
    refine ⟨fun q => absurd q (nI_ge hlt (by omega)), fun _ => ⟨fi, x_led hn ha.1 ha.2.1 h1' hlt (fun l => ⟨fun q => absurd q (by decide), fun _ => J71 _ t2 ?_⟩) (fun l => ⟨fun _ => ?_, fun q => absurd rfl q⟩)⟩⟩
    · rw [if_neg (fun w => w.2 rfl), hN]
      unfold nextS
      exact (if_pos l).symm
    · have eN : N k = if dm ≠ 0 ∧ (if Lo k = 0 then 1 else if Hg k = 0 then 0 else 2) ≠ St k then 2 else (if Lo k = 0 then 1 else if Hg k = 0 then 0 else 2) := by
        rw [hN]; unfold nextS; exact if_neg l
      have l7 := hL.2 k hlt
      have g7 := hH.2 k hlt
      unfold wp_Le_comesTo
      rw [fc, al k hlt, ah k hlt]
      refine ⟨fi, fun q => ⟨fi, fun q2 => ?_, fun q2 => ?_⟩, fun q => ?_⟩
      · have e1 : ¬ Lo k = 0 := fun e => q (by rw [e]; rfl)
        have e2 : ¬ Hg k = 0 := fun e => q2 (by rw [e]; rfl)
        rw [if_neg e1, if_neg e2] at eN
        exact J71 2 (by omega) eN.symm
      · have e1 : ¬ Lo k = 0 := fun e => q (by rw [e]; rfl)
        have e2 := (nI_eq (b := 0) (by omega) (by omega)).mp q2
        rw [if_neg e1, if_pos e2] at eN
        exact J71 0 (by omega) eN.symm
      · have e1 := (nI_eq (b := 0) (by omega) (by omega)).mp q
        rw [if_pos e1] at eN
        exact J71 1 (by omega) eN.symm
theorem y_move {dm : Nat} (hdm : dm ≤ 1) (hr : NRg n t I Sk Sz St Kd G So Dr Sg J) (ha : NAr n t I Sk Sz St Kd G So Dr Sg J inp stk siz sta kin gat src drn stg jam) {fir hig lw nxs chd cs : Nat → Int32} {made : Int32} {c : Nat} (hc : c + 24 < 2 ^ 30) (hC : CM c chd cs)
    {K : Int32 → (Int32 × Int32 × (Nat → Int32) × (Nat → Int32) × (Nat → Int32) × (Nat → Int32) × (Nat → Int32) × (Nat → Int32)) → Prop}
    (hK : ∀ (N : Nat → Nat) (sta fir hig lw nxs chd : Nat → Int32), NXT n t I Sk Sz Kd G So Dr Sg J dm St N → AR n sta N → CM (chF (made + 1) N St (c, cs) n).1 chd (chF (made + 1) N St (c, cs) n).2 → K (nI (cnF N St n)) (made + 1, nI (chF (made + 1) N St (c, cs) n).1, fir, sta, hig, lw, nxs, chd)) :
    wp_Mo_move (nI n) (nI t) made (nI c) inp stk fir siz jam gat sta kin src stg drn hig lw nxs chd (nI dm) K := by
  unfold wp_Mo_move
  refine y_evaluate hr ha (fun fir hig lw Fm Hg Lo af ah al hF hH hL => ?_)
  have hn := hr.1
  have h1' : ∀ i, i < n → I i ≤ 1 ∧ Sk i ≤ 1 := fun i hi => ⟨(hr.2.2.1 i hi).1, (hr.2.2.1 i hi).2.1⟩
  have hT2 : ∀ i, i < n → St i ≤ 2 := fun i hi => (hr.2.2.1 i hi).2.2.2.2
  obtain ⟨N, hN⟩ : ∃ N, N = nextS dm I Sk St Hg Lo := ⟨_, rfl⟩
  have hN2 : ∀ i, i < n → N i ≤ 2 := fun i hi => by rw [hN]; exact nextS_le (hT2 i hi)
  have hNX : NXT n t I Sk Sz Kd G So Dr Sg J dm St N := ⟨Fm, Hg, Lo, hF, hH, hL, fun i _ => by rw [hN]⟩
  have second : ∀ (nxs : Nat → Int32), AR n nxs N → ∀ (d k : Nat) (sta chd : Nat → Int32), k + d = n → AR n sta (mixS N St k) → CM (chF (made + 1) N St (c, cs) k).1 chd (chF (made + 1) N St (c, cs) k).2 → wl_Mo_move_107 (nI n) (nI t) inp stk siz jam gat kin src stg drn K (d + 1) (made + 1) (nI (chF (made + 1) N St (c, cs) k).1) fir sta hig lw nxs chd (nI (cnF N St k)) (nI k) := by
    intro nxs hnx d
    induction d with
    | zero =>
      intro k sta chd hk hs hx
      have e : k = n := by omega
      subst e
      rw [ul_Mo_move_107]
      exact ⟨fun _ => hK N sta fir hig lw nxs chd hNX (mix_all hs) hx, fun q => absurd (Int32.le_refl _) q⟩
    | succ d ih =>
      intro k sta chd hk hs hx
      have hlt : k < n := by omega
      have fi := z_in hlt hn (by omega)
      have fc := z_cl hlt (show n < 2 ^ 31 by omega)
      have esk : sta k = nI (St k) := by rw [hs k hlt]; unfold mixS; rw [if_neg (by omega)]
      have t2 := hT2 k hlt
      have n2 := hN2 k hlt
      have ck : (chF (made + 1) N St (c, cs) k).1 < 2 ^ 30 := by
        rw [chF_c]
        have := cnF_le (N := N) (St := St) k
        show c + _ < _
        omega
      rw [ul_Mo_move_107]
      unfold wb_Mo_move_107
      rw [fc, esk, hnx k hlt, nI_1 k, nI_1 (cnF N St k), show nI (chF (made + 1) N St (c, cs) k).1 - nI (chF (made + 1) N St (c, cs) k).1 / (32 : Int32) * (32 : Int32) = nI ((chF (made + 1) N St (c, cs) k).1 % 32) from pk_rem (d := 32) (by omega) (by omega) (by omega)]
      refine ⟨fun q => absurd q (nI_ge hlt (by omega)), fun _ => ⟨fi, fi, fun q => ?_, fun q => ⟨fi, fi, fi, vp_in_nI (Nat.mod_lt _ (by omega)) (by omega), ?_⟩⟩⟩
      · have e := (nI_eq (by omega) (by omega)).mp q
        have := ih (k + 1) sta chd (by omega) (mix_same e hs) (by simp only [chF, e, if_true]; exact hx)
        simp only [chF, cnF, e, if_true] at this
        exact this
      · have e : ¬ N k = St k := fun e => q (by rw [e])
        rw [nI_clamp (by omega), show upd sta k (nI (N k)) k = nI (N k) from by simp [upd], show nI (chF (made + 1) N St (c, cs) k).1 + (1 : Int32) = nI ((chF (made + 1) N St (c, cs) k).1 + 1) from nI_1 _]
        have := ih (k + 1) (upd sta k (nI (N k))) (upd chd ((chF (made + 1) N St (c, cs) k).1 % 32) (128 * (made + 1) + 4 * nI k + nI (N k))) (by omega) (mix_next hs) (by simp only [chF, e, if_false]; exact cm_push hx _)
        simp only [chF, cnF, e, if_false] at this
        exact this
  refine ⟨n + 1, ?_⟩
  suffices H : ∀ (E : Int32 → Int32 → (Nat → Int32) → (Nat → Int32) → (Nat → Int32) → (Nat → Int32) → (Nat → Int32) → (Nat → Int32) → Int32 → Prop), (∀ nxs, AR n nxs N → E (made + 1) (nI c) fir sta hig lw nxs chd 0) → ∀ (d k : Nat) (nxs : Nat → Int32), k + d = n → AR k nxs N → wl_Mo_move_18 (nI n) (nI t) inp stk siz jam gat kin src stg drn E K (d + 1) (made + 1) (nI c) fir sta hig lw nxs chd (nI dm) 0 (nI k) from
    H _ (fun nxs hnx => ⟨n + 1, second nxs hnx n 0 sta chd (by omega) (fun i hi => by rw [ha.2.2.2.1 i hi]; unfold mixS; rw [if_neg (by omega)]) hC⟩) n 0 nxs (by omega) (fun i hi => absurd hi (by omega))
  intro E hE d
  induction d with
  | zero =>
    intro k nxs hk hx
    have e : k = n := by omega
    subst e
    rw [ul_Mo_move_18]
    exact ⟨fun _ => hE nxs hx, fun q => absurd (Int32.le_refl _) q⟩
  | succ d ih =>
    intro k nxs hk hx
    have hlt : k < n := by omega
    have fi := z_in hlt hn (by omega)
    have fc := z_cl hlt (show n < 2 ^ 31 by omega)
    have t2 := hT2 k hlt
    have l7 := hL.2 k hlt
    have g7 := hH.2 k hlt
    have J53 : ∀ a : Nat, a ≤ 2 → (if Lo k = 0 then 1 else if Hg k = 0 then 0 else 2) = a → wj_Mo_move_53 (nI n) (nI t) inp stk siz jam gat kin src stg drn (wl_Mo_move_18 (nI n) (nI t) inp stk siz jam gat kin src stg drn E K (d + 1)) E K (made + 1) (nI c) fir sta hig lw nxs chd (nI dm) 0 (nI k) (nI a) := fun a a2 ea => by
      unfold wj_Mo_move_53
      rw [fc, ha.2.2.2.1 k hlt, nI_1]
      refine y_led hn ha.1 ha.2.1 h1' hlt (fun l => ⟨fun q => absurd q (by decide), fun _ => ⟨fi, fi, ih (k + 1) _ (by omega) (ar_step hx ?_)⟩⟩) (fun l => ⟨fun _ => ⟨fun q => ⟨fi, ih (k + 1) _ (by omega) (ar_step hx ?_)⟩, fun q => ⟨fi, fun q2 => ⟨fi, ih (k + 1) _ (by omega) (ar_step hx ?_)⟩, fun q2 => ⟨fi, ih (k + 1) _ (by omega) (ar_step hx (v := 2) ?_)⟩⟩⟩, fun q => absurd rfl q⟩)
      · rw [hN]; unfold nextS; exact (if_pos l).symm
      · have e := (nI_eq (b := 0) (by omega) (by omega)).mp q
        rw [hN]; unfold nextS
        rw [if_neg (show ¬ (I k ≠ 0 ∨ Sk k ≠ 0) from l), ea, if_neg (fun w => w.1 e)]
      · have e := (nI_eq (by omega) (by omega)).mp q2
        rw [hN]; unfold nextS
        rw [if_neg (show ¬ (I k ≠ 0 ∨ Sk k ≠ 0) from l), ea, if_neg (fun w => w.2 e)]
      · rw [hN]; unfold nextS
        rw [if_neg (show ¬ (I k ≠ 0 ∨ Sk k ≠ 0) from l), ea, if_pos ⟨fun e => q (by rw [e]; rfl), fun e => q2 (by rw [e])⟩]
    rw [ul_Mo_move_18]
    unfold wb_Mo_move_18
    rw [fc, al k hlt, ah k hlt]
    refine ⟨fun q => absurd q (nI_ge hlt (by omega)), fun _ => ⟨fi, fun q => ⟨fi, fun q2 => ?_, fun q2 => ?_⟩, fun q => ?_⟩⟩
    · have e1 : ¬ Lo k = 0 := fun e => q (by rw [e]; rfl)
      have e2 : ¬ Hg k = 0 := fun e => q2 (by rw [e]; rfl)
      exact J53 2 (by omega) (by rw [if_neg e1, if_neg e2])
    · have e1 : ¬ Lo k = 0 := fun e => q (by rw [e]; rfl)
      have e2 := (nI_eq (b := 0) (by omega) (by omega)).mp q2
      exact J53 0 (by omega) (by rw [if_neg e1, if_pos e2])
    · have e1 := (nI_eq (b := 0) (by omega) (by omega)).mp q
      exact J53 1 (by omega) (by rw [if_pos e1])
end MS
