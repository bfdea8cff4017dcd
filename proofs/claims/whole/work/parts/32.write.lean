/-! PURE: names looked up; the text written. (uN, uN_shr, uN_sk: pasted from kit/laws/BITS.to-paste.) -/
def lookI (P : Nat → Bool) : Nat → Nat → Option Nat
  | 0, _ => none
  | d + 1, i => if P i then some i else lookI P d (i + 1)
theorem lookI_congr {P P' : Nat → Bool} {q : Nat} (h : ∀ i, i < q → P i = P' i) : ∀ d i, i + d ≤ q → lookI P d i = lookI P' d i := by
  intro d
  induction d with
  | zero => intro i _; rfl
  | succ d ih =>
    intro i hi
    simp only [lookI, h i (by omega), ih (i + 1) (by omega)]
theorem lookI_lt {P : Nat → Bool} : ∀ d i j, lookI P d i = some j → i ≤ j ∧ j < i + d ∧ P j = true := by
  intro d
  induction d with
  | zero => intro i j h; simp [lookI] at h
  | succ d ih =>
    intro i j h
    by_cases e : P i = true
    · simp [lookI, e] at h
      subst h
      exact ⟨Nat.le_refl _, by omega, e⟩
    · simp [lookI, e] at h
      obtain ⟨h1, h2, h3⟩ := ih (i + 1) j h
      exact ⟨by omega, by omega, h3⟩
theorem x_named {q : Nat} (hq : q ≤ 40) {nam : Nat → Int64} {nod : Nat → Int32} {v1 : Int64} {K : Int32 → Unit → Prop} (h0 : lookI (fun i => decide (nam i = v1)) q 0 = none → K (-1) ()) (h1 : ∀ j, j < q → lookI (fun i => decide (nam i = v1)) q 0 = some j → K (nod j) ()) : wp_Ne_nodeNamed (nI q) nam nod v1 K := by
  refine ⟨q + 1, ?_⟩
  suffices H : ∀ d i, i + d = q → lookI (fun i => decide (nam i = v1)) d i = lookI (fun i => decide (nam i = v1)) q 0 → wl_Ne_nodeNamed_2 (nI q) nam nod (fun v3 => (vp_in v3 40 ∧ K (nod v3.toNatClampNeg) ())) K (d + 1) v1 (nI i) from H q 0 (by omega) rfl
  intro d
  induction d with
  | zero =>
    intro i hi he
    have e : i = q := by omega
    subst e
    rw [ul_Ne_nodeNamed_2]
    exact ⟨fun _ => h0 (he ▸ rfl), fun c => absurd (Int32.le_refl _) c⟩
  | succ d ih =>
    intro i hi he
    have hlt : i < q := by omega
    rw [ul_Ne_nodeNamed_2]
    unfold wb_Ne_nodeNamed_2
    rw [z_cl hlt (show q < 2 ^ 31 by omega), nI_1]
    refine ⟨fun c => absurd c (nI_ge hlt (by omega)), fun _ => ⟨z_in hlt hq (by omega), fun c => ?_, fun c => ?_⟩⟩
    · have e : ¬ nam i = v1 := fun e => c ((lg_cmp_eq _ _).mpr e)
      exact ih (i + 1) (by omega) (by rw [← he]; simp [lookI, e])
    · have e := (lg_cmp_eq _ _).mp c
      show vp_in (nI i) 40 ∧ K (nod (nI i).toNatClampNeg) ()
      rw [z_cl hlt (show q < 2 ^ 31 by omega)]
      exact ⟨z_in hlt hq (by omega), h1 i hlt (by rw [← he]; simp [lookI, e])⟩
theorem y_node {q : Nat} (hq : q ≤ 40) {nam : Nat → Int32} {nod : Nat → Int32} {v1 : Int64} {K : Int32 → Unit → Prop} (h0 : lookI (fun i => decide ((nam i).toInt64 = v1)) q 0 = none → K (-1) ()) (h1 : ∀ j, j < q → lookI (fun i => decide ((nam i).toInt64 = v1)) q 0 = some j → K (nod j) ()) : wp_Mo_node (nI q) nam nod v1 K := by
  refine ⟨q + 1, ?_⟩
  suffices H : ∀ d i, i + d = q → lookI (fun i => decide ((nam i).toInt64 = v1)) d i = lookI (fun i => decide ((nam i).toInt64 = v1)) q 0 → wl_Mo_node_2 (nI q) nam nod (fun v3 => (vp_in v3 40 ∧ K (nod v3.toNatClampNeg) ())) K (d + 1) v1 (nI i) from H q 0 (by omega) rfl
  intro d
  induction d with
  | zero =>
    intro i hi he
    have e : i = q := by omega
    subst e
    rw [ul_Mo_node_2]
    exact ⟨fun _ => h0 (he ▸ rfl), fun c => absurd (Int32.le_refl _) c⟩
  | succ d ih =>
    intro i hi he
    have hlt : i < q := by omega
    rw [ul_Mo_node_2]
    unfold wb_Mo_node_2
    rw [z_cl hlt (show q < 2 ^ 31 by omega), nI_1]
    refine ⟨fun c => absurd c (nI_ge hlt (by omega)), fun _ => ⟨z_in hlt hq (by omega), fun c => ?_, fun c => ?_⟩⟩
    · have e : ¬ (nam i).toInt64 = v1 := fun e => c ((lg_cmp_eq _ _).mpr e)
      exact ih (i + 1) (by omega) (by rw [← he]; simp [lookI, e])
    · have e := (lg_cmp_eq _ _).mp c
      show vp_in (nI i) 40 ∧ K (nod (nI i).toNatClampNeg) ()
      rw [z_cl hlt (show q < 2 ^ 31 by omega)]
      exact ⟨z_in hlt hq (by omega), h1 i hlt (by rw [← he]; simp [lookI, e])⟩
theorem y_find {q : Nat} (hq : q ≤ 40) {nam : Nat → Int32} {nod : Nat → Int32} {v1 : Int32} {K : Int32 → Unit → Prop} (h0 : lookI (fun i => decide (nam i = v1)) q 0 = none → K (-1) ()) (h1 : ∀ j, j < q → lookI (fun i => decide (nam i = v1)) q 0 = some j → K (nod j) ()) : wp_Mo_find (nI q) nam nod v1 K := by
  refine ⟨q + 1, ?_⟩
  suffices H : ∀ d i, i + d = q → lookI (fun i => decide (nam i = v1)) d i = lookI (fun i => decide (nam i = v1)) q 0 → wl_Mo_find_2 (nI q) nam nod (fun v3 => (vp_in v3 40 ∧ K (nod v3.toNatClampNeg) ())) K (d + 1) v1 (nI i) from H q 0 (by omega) rfl
  intro d
  induction d with
  | zero =>
    intro i hi he
    have e : i = q := by omega
    subst e
    rw [ul_Mo_find_2]
    exact ⟨fun _ => h0 (he ▸ rfl), fun c => absurd (Int32.le_refl _) c⟩
  | succ d ih =>
    intro i hi he
    have hlt : i < q := by omega
    rw [ul_Mo_find_2]
    unfold wb_Mo_find_2
    rw [z_cl hlt (show q < 2 ^ 31 by omega), nI_1]
    refine ⟨fun c => absurd c (nI_ge hlt (by omega)), fun _ => ⟨z_in hlt hq (by omega), fun c => ?_, fun c => ?_⟩⟩
    · exact ih (i + 1) (by omega) (by rw [← he]; simp [lookI, c])
    · show vp_in (nI i) 40 ∧ K (nod (nI i).toNatClampNeg) ()
      rw [z_cl hlt (show q < 2 ^ 31 by omega)]
      exact ⟨z_in hlt hq (by omega), h1 i hlt (by rw [← he]; simp [lookI, c])⟩
theorem j_node {q : Nat} (hq : q ≤ 40) {nam : Nat → Int64} {nod nme kno : Nat → Int32} (hN : ∀ i, i < q → nam i = (nme i).toInt64 ∧ nod i = kno i) {v1 : Int64} {K2 : Int32 → Int32 → Prop} (h : ∀ r, K2 r r) :
    wp_Sw_node (nI q) nam nod v1 (fun r _ => wp_Mo_node (nI q) nme kno v1 (fun r' _ => K2 r r')) := by
  have e : lookI (fun i => decide ((nme i).toInt64 = v1)) q 0 = lookI (fun i => decide (nam i = v1)) q 0 := lookI_congr (q := q) (fun i hi => by simp only [(hN i hi).1]) q 0 (by omega)
  refine x_named hq (fun hx => ?_) (fun j hj hx => ?_)
  · refine y_node hq (fun _ => h _) (fun j _ hy => ?_)
    rw [e, hx] at hy
    cases hy
  · refine y_node hq (fun hy => ?_) (fun j' _ hy => ?_)
    · rw [e, hx] at hy
      cases hy
    · rw [e, hx] at hy
      cases hy
      rw [(hN j hj).2]
      exact h _
def uN (x : Int64) : Nat := x.toUInt64.toNat
theorem uN_shr (x : Int64) (s : UInt64) : uN (x.toUInt64 >>> s).toInt64 = uN x / 2 ^ (s.toNat % 64) := by
  show (x.toUInt64 >>> s).toNat = _
  rw [UInt64.toNat_shiftRight, Nat.shiftRight_eq_div_pow]
  rfl
theorem uN_sk (x : Int64) {k : Nat} (hk : k < 64) : uN (x.toUInt64 >>> ((nI k).toInt64.toUInt64 &&& Int64.toUInt64 63)).toInt64 = uN x / 2 ^ k := by
  have h : ((nI k).toInt64.toUInt64 &&& Int64.toUInt64 63).toNat % 64 = k := by
    rw [nI_l (by omega), UInt64.toNat_and]
    have e : (lN k).toUInt64.toNat = k % 2 ^ 64 := rfl
    have e2 : (Int64.toUInt64 63).toNat = 2 ^ 6 - 1 := by decide
    rw [e, e2, Nat.and_two_pow_sub_one_eq_mod]
    omega
  rw [uN_shr, h]
theorem t32 (x : Int64) : x.toInt32.toBitVec.toNat = uN x % 2 ^ 32 := by
  show (x.toBitVec.signExtend 32).toNat = _
  rw [BitVec.signExtend_eq_setWidth_of_le _ (by omega), BitVec.toNat_setWidth]
  rfl
def bN (v : Int64) (k : Nat) : Nat := uN v / 2 ^ (8 * k) % 256
theorem bN_lt (v : Int64) (k : Nat) : bN v k < 256 := Nat.mod_lt _ (by omega)
theorem x_byte {v : Int64} {k : Nat} (hk : k < 8) {K : Int32 → Unit → Prop} (h : K (nI (bN v k)) ()) : wp_Te_byteAt v (nI k) K := by
  unfold wp_Te_byteAt
  rw [show (8 : Int32) * nI k = nI (8 * k) from pk_mul 8 k, pk_and _ 8 (by decide), t32, uN_sk v (by omega)]
  have e : uN v / 2 ^ (8 * k) % 2 ^ 32 % 2 ^ 8 = bN v k := by
    unfold bN
    omega
  rw [e]
  exact h
theorem sh_amt : ∀ k, k < 8 → (((8 : Int32) * nI k).toInt64 &&& 63).toBitVec.smod 64 = BitVec.ofNat 64 (8 * k) := by decide +kernel
theorem y_byte {v : Int64} {k : Nat} (hk : k < 8) {K : Int32 → Unit → Prop} (h : K (nI (bN v k)) ()) : wp_Mo_byteOf v (nI k) K := by
  unfold wp_Mo_byteOf
  have e : ((v >>> (((8 : Int32) * nI k).toInt64 &&& 63)) &&& (255 : Int64)).toInt32 = nI (bN v k) := by
    apply Int32.toBitVec_inj.mp
    apply BitVec.eq_of_toNat_eq
    rw [t32, pk_tn (by have := bN_lt v k; omega)]
    have e1 : uN ((v >>> (((8 : Int32) * nI k).toInt64 &&& 63)) &&& (255 : Int64)) = bN v k := by
      show ((v.toBitVec.sshiftRight' ((((8 : Int32) * nI k).toInt64 &&& 63).toBitVec.smod 64)) &&& 255#64).toNat = _
      rw [sh_amt k hk]
      apply Nat.eq_of_testBit_eq
      intro i
      have hu : uN v = v.toBitVec.toNat := rfl
      have hm : (8 * k) % 2 ^ 64 = 8 * k := Nat.mod_eq_of_lt (by omega)
      rw [bN, show (256 : Nat) = 2 ^ 8 from rfl, Nat.testBit_mod_two_pow, Nat.testBit_div_two_pow, hu, BitVec.toNat_and, Nat.testBit_and]
      have h255 : (255#64).toNat.testBit i = decide (i < 8) := by
        show (2 ^ 8 - 1).testBit i = _
        rw [Nat.testBit_two_pow_sub_one]
      rw [h255]
      by_cases hi : i < 8
      · simp only [hi, decide_true, Bool.and_true, Bool.true_and]
        show (v.toBitVec.sshiftRight (BitVec.ofNat 64 (8 * k)).toNat).getLsbD i = v.toBitVec.getLsbD _
        rw [BitVec.toNat_ofNat, hm, BitVec.getLsbD_sshiftRight]
        simp only [show ¬ 64 ≤ i by omega, decide_false, Bool.not_false, Bool.true_and, show 8 * k + i < 64 by omega, if_true, Nat.add_comm i]
      · simp [hi]
    rw [e1, Nat.mod_eq_of_lt]
    have := bN_lt v k
    omega
  rw [e]
  exact h
def okc (b : Nat) : Prop := b = 10 ∨ (32 ≤ b ∧ b ≤ 126)
theorem okc_dec (b : Nat) : okc b ∨ ¬ okc b := by unfold okc; omega
def scanB (v : Int64) : Nat → Nat → Option Nat
  | 0, _ => some 0
  | d + 1, i => if bN v i = 0 then scanB v d (i + 1) else if bN v i = 10 ∨ (32 ≤ bN v i ∧ bN v i ≤ 126) then (scanB v d (i + 1)).map (· + 1) else none
theorem x_allowed {b : Nat} (hb : b < 256) {K : Int32 → Unit → Prop} (h1 : okc b → K 1 ()) (h0 : ¬ okc b → K 0 ()) : wp_Te_isAllowed (nI b) K := by
  unfold wp_Te_isAllowed
  refine ⟨fun c => ?_, fun c => ⟨fun c2 => ?_, fun c2 => ⟨fun c3 => ?_, fun c3 => ?_⟩⟩⟩
  · have := (nI_eq (b := 10) (by omega) (by omega)).mp c
    exact h1 (Or.inl this)
  · have := (nI_ltI (b := 32) (by omega) (by omega)).mp c2
    exact h0 (fun q => by
      have c' : ¬ b = 10 := fun e => c (by rw [e]; rfl)
      unfold okc at q; omega)
  · have := (nI_ltI (a := 126) (by omega) (by omega)).mp c3
    exact h0 (fun q => by
      have c' : ¬ b = 10 := fun e => c (by rw [e]; rfl)
      unfold okc at q; omega)
  · refine h1 (Or.inr ⟨?_, ?_⟩)
    · exact Nat.le_of_not_lt (fun q => c2 (nI_lt (b := 32) q (by omega)))
    · exact Nat.le_of_not_lt (fun q => c3 (nI_lt (a := 126) q (by omega)))
theorem x_count {v : Int64} {K : Int32 → Unit → Prop} : ∀ d i c, i + d = 8 → (scanB v d i = none → K (-1) ()) → (∀ m, scanB v d i = some m → K (nI (c + m)) ()) → wl_Te_countAllowed_4 K (d + 1) v (nI c) (nI i) := by
  intro d
  induction d with
  | zero =>
    intro i c hi h0 h1
    have e : i = 8 := by omega
    subst e
    rw [ul_Te_countAllowed_4]
    exact ⟨fun _ => h1 0 rfl, fun q => absurd (by decide) q⟩
  | succ d ih =>
    intro i c hi h0 h1
    have hlt : i < 8 := by omega
    rw [ul_Te_countAllowed_4]
    unfold wb_Te_countAllowed_4
    refine ⟨fun q => absurd q (nI_ge (b := 8) hlt (by omega)), fun _ => x_byte hlt ?_⟩
    rw [nI_1, nI_1]
    have hb := bN_lt v i
    refine ⟨fun q => ?_, fun q => x_allowed hb (fun ok => ⟨fun _ => ?_, fun q2 => absurd q2 (by decide)⟩) (fun ok => ⟨fun q2 => absurd rfl q2, fun _ => ?_⟩)⟩
    · have q : bN v i = 0 := (nI_eq (b := 0) (by omega) (by omega)).mp q
      exact ih (i + 1) c (by omega) (fun e => h0 (by simp [scanB, q, e])) (fun m e => h1 m (by simp [scanB, q, e]))
    · have q : ¬ bN v i = 0 := fun e => q (by rw [e]; rfl)
      unfold okc at ok
      exact ih (i + 1) (c + 1) (by omega) (fun e => h0 (by simp [scanB, q, ok, e])) (fun m e => by
        rw [show c + 1 + m = c + (m + 1) by omega]
        exact h1 (m + 1) (by simp [scanB, q, ok, e]))
    · have q : ¬ bN v i = 0 := fun e => q (by rw [e]; rfl)
      unfold okc at ok
      exact h0 (by simp [scanB, q, ok])
theorem ar_push {l : Nat} {f : Nat → Int32} {F : Nat → Nat} (h : AR l f F) (b : Nat) : AR (l + 1) (upd f l (nI b)) (up F l b) := fun i hi => by
  by_cases e : i = l
  · subst e; simp [upd, up]
  · simp [upd, up, e, h i (by omega)]
def appB (v : Int64) : Nat → Nat → Nat → (Nat → Nat) → Nat × (Nat → Nat)
  | 0, _, l, T => (l, T)
  | d + 1, i, l, T => if bN v i = 0 then appB v d (i + 1) l T else appB v d (i + 1) (l + 1) (up T l (bN v i))
theorem appB_ok {v : Int64} : ∀ d i l T m, scanB v d i = some m → (∀ j, j < l → okc (T j)) → (appB v d i l T).1 = l + m ∧ ∀ j, j < l + m → okc ((appB v d i l T).2 j) := by
  intro d
  induction d with
  | zero =>
    intro i l T m h ho
    simp [scanB] at h
    subst h
    exact ⟨rfl, ho⟩
  | succ d ih =>
    intro i l T m h ho
    by_cases q : bN v i = 0
    · simp only [scanB, q, if_true] at h
      simp only [appB, q, if_true]
      exact ih (i + 1) l T m h ho
    · by_cases ok : bN v i = 10 ∨ (32 ≤ bN v i ∧ bN v i ≤ 126)
      · simp only [scanB, q, ok, if_true, if_false] at h
        cases e : scanB v d (i + 1) with
        | none => rw [e] at h; cases h
        | some m' =>
          rw [e] at h
          simp at h
          subst h
          simp only [appB, q, if_false]
          have := ih (i + 1) (l + 1) (up T l (bN v i)) m' e (fun j hj => by
            unfold up
            split
            · exact ok
            · exact ho j (by omega))
          rw [show l + 1 + m' = l + (m' + 1) by omega] at this
          exact this
      · simp only [scanB, q, ok, if_false] at h
        cases h
theorem ch_nar {b : Nat} (hb : b < 256) : vp_nar .char (((nI b).toUInt32 % 65536).toInt32) = nI b := by
  rw [pk_vc, pk_char, pk_tn (by omega), Nat.mod_eq_of_lt (by omega)]
theorem x_app {v : Int64} {K : Int32 → Int32 × (Nat → Int32) → Prop} : ∀ d i l T chr m, i + d = 8 → AR l chr T → scanB v d i = some m → l + m ≤ 480 → (∀ chr', AR (appB v d i l T).1 chr' (appB v d i l T).2 → K 1 (nI (appB v d i l T).1, chr')) → wl_Te_append_27 K (d + 1) (nI l) chr v (nI i) := by
  intro d
  induction d with
  | zero =>
    intro i l T chr m hi ha hs hl h
    have e : i = 8 := by omega
    subst e
    rw [ul_Te_append_27]
    exact ⟨fun _ => h chr ha, fun q => absurd (by decide) q⟩
  | succ d ih =>
    intro i l T chr m hi ha hs hl h
    have hlt : i < 8 := by omega
    have hb := bN_lt v i
    rw [ul_Te_append_27]
    unfold wb_Te_append_27
    refine ⟨fun q => absurd q (nI_ge (b := 8) hlt (by omega)), fun _ => x_byte hlt ?_⟩
    rw [nI_1, ch_nar hb]
    by_cases q : bN v i = 0
    · refine ⟨fun _ => ?_, fun q2 => absurd (by rw [q]; rfl) q2⟩
      simp only [scanB, q, if_true] at hs
      simp only [appB, q, if_true] at h
      exact ih (i + 1) l T chr m (by omega) ha hs hl h
    · have qq : ¬ nI (bN v i) = 0 := nI_ne0 (by omega) (by omega)
      by_cases ok : bN v i = 10 ∨ (32 ≤ bN v i ∧ bN v i ≤ 126)
      · simp only [scanB, q, ok, if_true, if_false] at hs
        cases e : scanB v d (i + 1) with
        | none => rw [e] at hs; cases hs
        | some m' =>
          rw [e] at hs
          simp at hs
          subst hs
          simp only [appB, q, if_false] at h
          refine ⟨fun q2 => absurd q2 qq, fun _ => ⟨fun q2 => absurd q2 (nI_ge (b := 480) (by omega) (by omega)), fun _ => ⟨vp_in_nI (by omega) (by omega), ?_⟩⟩⟩
          rw [nI_clamp (by omega), show nI l + 1 = nI (l + 1) from nI_1 l]
          exact ih (i + 1) (l + 1) _ _ m' (by omega) (ar_push ha _) e (by omega) h
      · simp only [scanB, q, ok, if_false] at hs
        cases hs
theorem y_app {v : Int64} {K : Int32 → Int32 × (Nat → Int32) → Prop} : ∀ d i l T chr m, i + d = 8 → AR l chr T → scanB v d i = some m → l + m ≤ 480 → (∀ chr', AR (appB v d i l T).1 chr' (appB v d i l T).2 → K 1 (nI (appB v d i l T).1, chr')) → wl_Mo_write_84 K (d + 1) (nI l) chr v (nI i) := by
  intro d
  induction d with
  | zero =>
    intro i l T chr m hi ha hs hl h
    have e : i = 8 := by omega
    subst e
    rw [ul_Mo_write_84]
    exact ⟨fun _ => h chr ha, fun q => absurd (by decide) q⟩
  | succ d ih =>
    intro i l T chr m hi ha hs hl h
    have hlt : i < 8 := by omega
    have hb := bN_lt v i
    rw [ul_Mo_write_84]
    unfold wb_Mo_write_84
    refine ⟨fun q => absurd q (nI_ge (b := 8) hlt (by omega)), fun _ => y_byte hlt ?_⟩
    rw [nI_1]
    by_cases q : bN v i = 0
    · refine ⟨fun _ => ?_, fun q2 => absurd (by rw [q]; rfl) q2⟩
      simp only [scanB, q, if_true] at hs
      simp only [appB, q, if_true] at h
      exact ih (i + 1) l T chr m (by omega) ha hs hl h
    · have qq : ¬ nI (bN v i) = 0 := nI_ne0 (by omega) (by omega)
      by_cases ok : bN v i = 10 ∨ (32 ≤ bN v i ∧ bN v i ≤ 126)
      · simp only [scanB, q, ok, if_true, if_false] at hs
        cases e : scanB v d (i + 1) with
        | none => rw [e] at hs; cases hs
        | some m' =>
          rw [e] at hs
          simp at hs
          subst hs
          simp only [appB, q, if_false] at h
          refine ⟨fun q2 => absurd q2 qq, fun _ => ⟨vp_in_nI (by omega) (by omega), ?_⟩⟩
          rw [nI_clamp (by omega), show nI l + 1 = nI (l + 1) from nI_1 l]
          exact ih (i + 1) (l + 1) _ _ m' (by omega) (ar_push ha _) e (by omega) h
      · simp only [scanB, q, ok, if_false] at hs
        cases hs
theorem y_count {v : Int64} {tsz : Int32} {txt : Nat → Int32} {E : Int32 → (Nat → Int32) → Int64 → Int32 → Prop} {K : Int32 → Int32 × (Nat → Int32) → Prop} : ∀ d i c, i + d = 8 → (scanB v d i = none → K 0 (tsz, txt)) → (∀ m, scanB v d i = some m → E tsz txt v (nI (c + m))) → wl_Mo_write_5 E K (d + 1) tsz txt v (nI c) (nI i) := by
  intro d
  induction d with
  | zero =>
    intro i c hi h0 h1
    have e : i = 8 := by omega
    subst e
    rw [ul_Mo_write_5]
    exact ⟨fun _ => h1 0 rfl, fun q => absurd (by decide) q⟩
  | succ d ih =>
    intro i c hi h0 h1
    have hlt : i < 8 := by omega
    have hb := bN_lt v i
    rw [ul_Mo_write_5]
    unfold wb_Mo_write_5
    refine ⟨fun q => absurd q (nI_ge (b := 8) hlt (by omega)), fun _ => y_byte hlt ?_⟩
    rw [nI_1 i, nI_1 c, show nI c + (0 : Int32) = nI c from by rw [show (0 : Int32) = nI 0 from rfl, nI_add, Nat.add_zero]]
    by_cases q : bN v i = 0
    · have go : wl_Mo_write_5 E K (d + 1) tsz txt v (nI c) (nI (i + 1)) := ih (i + 1) c (by omega) (fun e => h0 (by simp [scanB, q, e])) (fun m e => h1 m (by simp [scanB, q, e]))
      exact ⟨fun _ => ⟨fun q2 => absurd (by rw [q]; rfl) q2, fun _ => go⟩, fun q2 => absurd (by rw [q]; rfl) q2⟩
    · have qq : ¬ nI (bN v i) = 0 := nI_ne0 (by omega) (by omega)
      by_cases ok : bN v i = 10 ∨ (32 ≤ bN v i ∧ bN v i ≤ 126)
      · have go : wl_Mo_write_5 E K (d + 1) tsz txt v (nI (c + 1)) (nI (i + 1)) := ih (i + 1) (c + 1) (by omega) (fun e => h0 (by simp [scanB, q, ok, e])) (fun m e => by
          rw [show c + 1 + m = c + (m + 1) by omega]
          exact h1 (m + 1) (by simp [scanB, q, ok, e]))
        refine ⟨fun q2 => absurd q2 qq, fun _ => ⟨fun _ => ⟨fun _ => go, fun q2 => absurd q2 qq⟩, fun q3 => ⟨fun q4 => ?_, fun q4 => ⟨fun _ => ⟨fun _ => go, fun q2 => absurd q2 qq⟩, fun q5 => ?_⟩⟩⟩⟩
        · have := (nI_ltI (b := 32) (by omega) (by omega)).mp q4
          have c' : ¬ bN v i = 10 := fun e => q3 (by rw [e]; rfl)
          omega
        · have c' : ¬ bN v i = 10 := fun e => q3 (by rw [e]; rfl)
          exact absurd (nI_le (b := 126) (by omega) (by omega)) q5
      · have bad := h0 (by simp [scanB, q, ok])
        refine ⟨fun q2 => absurd q2 qq, fun _ => ⟨fun q3 => ?_, fun q3 => ⟨fun q4 => bad, fun q4 => ⟨fun q5 => ?_, fun q5 => bad⟩⟩⟩⟩
        · have := (nI_eq (b := 10) (by omega) (by omega)).mp q3
          omega
        · have h5 := (nI_leI (b := 126) (by omega) (by omega)).mp q5
          have h4 : ¬ bN v i < 32 := fun w => q4 (nI_lt (b := 32) w (by omega))
          omega
theorem j_write {l : Nat} {T : Nat → Nat} (hl : l ≤ 480) {chr txt : Nat → Int32} (ha : AR l chr T) (hb : AR l txt T) (ho : ∀ j, j < l → okc (T j)) {v : Int64} {K2 : Int32 → Int32 × (Nat → Int32) → Int32 → Int32 × (Nat → Int32) → Prop}
    (h0 : K2 0 (nI l, chr) 0 (nI l, txt)) (h1 : ∀ l' T' chr' txt', l' ≤ 480 → AR l' chr' T' → AR l' txt' T' → (∀ j, j < l' → okc (T' j)) → K2 1 (nI l', chr') 1 (nI l', txt')) :
    wp_Sw_write (nI l) chr v (fun r u => wp_Mo_write (nI l) txt v (fun r' u' => K2 r u r' u')) := by
  unfold wp_Sw_write wp_Te_append wp_Te_countAllowed wp_Mo_write
  have n0 : narrow .boolean (.int 0) = .int 0 := by decide
  have n1 : narrow .boolean (.int 1) = .int 1 := by decide
  refine ⟨9, x_count 8 0 0 (by omega) (fun e => ?_) (fun m e => ?_)⟩
  · refine ⟨fun _ => ⟨n0, 9, y_count 8 0 0 (by omega) (fun _ => h0) (fun m e2 => ?_)⟩, fun q => absurd rfl q⟩
    rw [e] at e2
    cases e2
  · have hm : m ≤ 8 := by
      have : ∀ d i m, scanB v d i = some m → m ≤ d := by
        intro d
        induction d with
        | zero => intro i m h; simp [scanB] at h; omega
        | succ d ih =>
          intro i m h
          simp only [scanB] at h
          split at h
          · have := ih _ _ h; omega
          · split at h
            · cases e : scanB v d (i + 1) with
              | none => rw [e] at h; cases h
              | some m' => rw [e] at h; simp at h; have := ih _ _ e; omega
            · cases h
      exact this 8 0 m e
    rw [Nat.zero_add, nI_add]
    refine ⟨fun q => absurd q (fun q => absurd (show nI m < 0 by rw [q]; decide) (nI_pos (by omega))), fun _ => ⟨fun q => ⟨9, x_app 8 0 l T chr m (by omega) ha e ((nI_leI (b := 480) (by omega) (by omega)).mp q) (fun chr' ha' => ?_)⟩, fun q => ?_⟩⟩
    · obtain ⟨e1, e2⟩ := appB_ok 8 0 l T m e ho
      refine ⟨n1, 9, y_count 8 0 0 (by omega) (fun e3 => by rw [e] at e3; cases e3) (fun m2 e3 => ?_)⟩
      rw [e] at e3
      cases e3
      rw [Nat.zero_add, nI_add]
      refine ⟨fun _ => ⟨9, y_app 8 0 l T txt m (by omega) hb e ((nI_leI (b := 480) (by omega) (by omega)).mp q) (fun txt' hb' => ?_)⟩, fun q2 => absurd q q2⟩
      have q' := (nI_leI (b := 480) (by omega) (by omega)).mp q
      exact h1 _ _ _ _ (by omega) ha' hb' (by rw [e1]; exact e2)
    · refine ⟨n0, 9, y_count 8 0 0 (by omega) (fun e3 => by rw [e] at e3; cases e3) (fun m2 e3 => ?_)⟩
      rw [e] at e3
      cases e3
      rw [Nat.zero_add, nI_add]
      exact ⟨fun q2 => absurd q2 q, fun _ => h0⟩
